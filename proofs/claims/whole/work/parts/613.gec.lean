/-! METHODS AS FUNCTIONS, references resolved (by program): X12_choice, X12_ties, X12_sorts, X12_leaves, X12_passes, X12_passesAll, X12_keepsAct, X12_undo, X12_turn, X12_comes, X12_post, X12_tie, X12_numberOf, X12_canEnter, X12_enters, X12_enter, X12_strike, X12_where, X12_isReading -/
section Gc
variable {xs : Int → Int} {L : Int}
noncomputable def GX12_choice_L30 (K0 : Int → MH → Option (Int × MH)) : Nat → Int → Int → Int → MH → Option (Int × MH)
  | 0, _, _, _, _ => none
  | f + 1, v1, v2, v4, h =>
    (if v4 < (m_rd h 344 12) then
     (bd (GX12_sumOf v4 h) (fun x2 h1 =>
      (if 0 < (m_lcmp x2 v2) then
       GX12_choice_L30 K0 f v4 x2 (m_w32 (v4 + 1)) h1
      else
       GX12_choice_L30 K0 f v1 v2 (m_w32 (v4 + 1)) h1)))
    else
     K0 v1 h)
theorem DX12_choice_L30 {d : Nat} {K0 : Int → MH → Option (Int × MH)} {r : Int × MH} {h0 hB : MH} (hB0 : KD h0 hB) (hK0 : ∀ (w1 : Int) (h : MH), LR h → KD hB h → K0 w1 h = some r → RK xs L iX12_choice (d + 5) 72 [(1, .inl w1)] [] h (RIo r) h0 r.2) : ∀ (f : Nat) (v1 : Int) (v2 : Int) (v4 : Int) (h : MH), LR h → KD hB h → GX12_choice_L30 K0 f v1 v2 v4 h = some r → RK xs L iX12_choice (d + 5) 30 [(0, .inr (.inr 334)), (1, .inl v1), (2, .inr (.inl v2)), (4, .inl v4)] [] h (RIo r) h0 r.2 := by
  intro f
  induction f with
  | zero =>
    intro v1 v2 v4 h hL hJ hF
    cases hF
  | succ f ih =>
    intro v1 v2 v4 h hL hJ hF
    unfold GX12_choice_L30 at hF
    have hK := hB0.tr hJ
    refine RK.of (RN.blk (ops := [(30, .iload 4), (32, .aload_n 0)]) (pc' := 33) (lv' := [(0, .inr (.inr 334)), (1, .inl v1), (2, .inr (.inl v2)), (4, .inl v4)]) (st' := [.inr (.inr 334), .inl v4]) (h' := h) (cs := []) (by decide +kernel) rfl trivial) ?_
    refine RK.of (RN.gr (i := 39) (ci := 12) (k := 20) (fn := true) (v := 344) (by decide +kernel) rfl (TO.gk (o_334 hL)) (hL.fa (v := 344) 20 1 167 (o_334 hL) rfl (by decide) rfl (by decide)).1) ?_
    refine RK.of (RN.blk (ops := [(36, .bipush 12), (38, .iaload)]) (pc' := 39) (lv' := [(0, .inr (.inr 334)), (1, .inl v1), (2, .inr (.inl v2)), (4, .inl v4)]) (st' := [.inl (m_rd h 344 12), .inl v4]) (h' := h) (cs := [GI h 344 1 12]) (by decide +kernel) rfl ⟨(a_344 hL).gi (by decide) (by decide), trivial⟩) ?_
    rcases it_of hF with ⟨hb, hF⟩ | ⟨hb, hF⟩
    · refine RK.of (RN.icf (cd := .ge) (off := 33) (tgt := 72) (by decide +kernel) (mif_gen hb)) ?_
      refine RK.of (RN.blk (ops := [(42, .aload_n 0), (43, .iload 4)]) (pc' := 45) (lv' := [(0, .inr (.inr 334)), (1, .inl v1), (2, .inr (.inl v2)), (4, .inl v4)]) (st' := [.inl v4, .inr (.inr 334)]) (h' := h) (cs := []) (by decide +kernel) rfl trivial) ?_
      obtain ⟨x2, h1, hG, hF⟩ := bd_of hF
      have hq := rcv_ok (as := [.inl v4]) (TO.gk (o_334 hL))
      obtain ⟨hN, hL, hQ⟩ := DX12_sumOf (d := d) hL  hG
      refine RK.of (RN.cv (i := 332) (k := 217) (q2 := iX12_sumOf) (as := [.inr (.inr 334), .inl v4]) (r := []) (v := some (.inr (.inl x2))) (h1 := h1) (by decide +kernel) rfl rfl rfl rfl rfl hq hN) ?_
      have hK := hK.tr hQ
      have hJ := hJ.tr hQ
      refine RK.of (RN.blk (ops := [(48, .lstore 5), (50, .lload 5), (52, .lload_n 2), (53, .lcmp)]) (pc' := 54) (lv' := [(5, .inr (.inl x2)), (0, .inr (.inr 334)), (1, .inl v1), (2, .inr (.inl v2)), (4, .inl v4)]) (st' := [.inl (m_lcmp x2 v2)]) (h' := h1) (cs := []) (by decide +kernel) rfl trivial) ?_
      rcases it_of hF with ⟨hb, hF⟩ | ⟨hb, hF⟩
      · refine RK.of (RN.ift (cd := .gt) (off := 6) (tgt := 60) (by decide +kernel) (mif_gt hb)) ?_
        refine RK.of (RN.blk (ops := [(60, .iload 4), (62, .istore_n 1), (63, .lload 5), (65, .lstore_n 2)]) (pc' := 66) (lv' := [(2, .inr (.inl x2)), (1, .inl v4), (5, .inr (.inl x2)), (0, .inr (.inr 334)), (4, .inl v4)]) (st' := []) (h' := h1) (cs := []) (by decide +kernel) rfl trivial) ?_
        refine RK.of (RN.blk (ops := [(66, .iinc 4 1)]) (pc' := 69) (lv' := [(4, .inl (m_w32 (v4 + 1))), (2, .inr (.inl x2)), (1, .inl v4), (5, .inr (.inl x2)), (0, .inr (.inr 334))]) (st' := []) (h' := h1) (cs := []) (by decide +kernel) rfl trivial) ?_
        refine RK.of (RN.goto (off := -39) (tgt := 30) (by decide +kernel)) ?_
        exact RK.sub (ih _ _ _ _ hL hJ hF) (sub_cons rfl (sub_cons rfl (sub_cons rfl (sub_cons rfl sub_nil))))
      · refine RK.of (RN.iff (cd := .gt) (off := 6) (tgt := 60) (by decide +kernel) (mif_gtn hb)) ?_
        refine RK.of (RN.goto (off := 9) (tgt := 66) (by decide +kernel)) ?_
        refine RK.of (RN.blk (ops := [(66, .iinc 4 1)]) (pc' := 69) (lv' := [(4, .inl (m_w32 (v4 + 1))), (5, .inr (.inl x2)), (0, .inr (.inr 334)), (1, .inl v1), (2, .inr (.inl v2))]) (st' := []) (h' := h1) (cs := []) (by decide +kernel) rfl trivial) ?_
        refine RK.of (RN.goto (off := -39) (tgt := 30) (by decide +kernel)) ?_
        exact RK.sub (ih _ _ _ _ hL hJ hF) (sub_cons rfl (sub_cons rfl (sub_cons rfl (sub_cons rfl sub_nil))))
    · refine RK.of (RN.ict (cd := .ge) (off := 33) (tgt := 72) (by decide +kernel) (mif_ge hb)) ?_
      exact RK.sub (hK0 _ _ hL hJ hF) (sub_cons rfl sub_nil)
noncomputable def GX12_choice (h : MH) : Option (Int × MH) :=
  (if (m_rd h 334 21) < 0 then
   (if 0 < (m_rd h 344 12) then
    some (0, h)
   else
    some ((-1), h))
  else
   GX12_choice_L30 (fun w1 h2 =>
    some (w1, h2)) FU (-1) 0 0 h)
theorem DX12_choice {d : Nat} {h : MH} {r : Int × MH} (hL : LR h) (hF : GX12_choice h = some r) : RN xs L iX12_choice (d + 5) 0 (lvE 0 [.inr (.inr 334)]) [] h (RIo r) ∧ LR r.2 ∧ KD h r.2 := by
  unfold GX12_choice at hF
  have hK : KD h h := KD.rf
  show RK xs L iX12_choice (d + 5) 0 (lvE 0 [.inr (.inr 334)]) [] h (RIo r) h r.2
  refine RK.of (RN.blk (ops := [(0, .aload_n 0), (1, .getfield 42)]) (pc' := 4) (lv' := [(0, .inr (.inr 334))]) (st' := [.inl (m_rd h 334 21)]) (h' := h) (cs := [GK h 334 12]) (by decide +kernel) rfl ⟨(o_334 hL).gk, trivial⟩) ?_
  rcases it_of hF with ⟨hb, hF⟩ | ⟨hb, hF⟩
  · refine RK.of (RN.iff (cd := .ge) (off := 19) (tgt := 23) (by decide +kernel) (mif_gen hb)) ?_
    refine RK.of (RN.blk (ops := [(7, .aload_n 0)]) (pc' := 8) (lv' := [(0, .inr (.inr 334))]) (st' := [.inr (.inr 334)]) (h' := h) (cs := []) (by decide +kernel) rfl trivial) ?_
    refine RK.of (RN.gr (i := 39) (ci := 12) (k := 20) (fn := true) (v := 344) (by decide +kernel) rfl (TO.gk (o_334 hL)) (hL.fa (v := 344) 20 1 167 (o_334 hL) rfl (by decide) rfl (by decide)).1) ?_
    refine RK.of (RN.blk (ops := [(11, .bipush 12), (13, .iaload)]) (pc' := 14) (lv' := [(0, .inr (.inr 334))]) (st' := [.inl (m_rd h 344 12)]) (h' := h) (cs := [GI h 344 1 12]) (by decide +kernel) rfl ⟨(a_344 hL).gi (by decide) (by decide), trivial⟩) ?_
    rcases it_of hF with ⟨hb, hF⟩ | ⟨hb, hF⟩
    · refine RK.of (RN.iff (cd := .le) (off := 7) (tgt := 21) (by decide +kernel) (mif_len hb)) ?_
      refine RK.of (RN.blk (ops := [(17, .iconst 0)]) (pc' := 18) (lv' := [(0, .inr (.inr 334))]) (st' := [.inl 0]) (h' := h) (cs := []) (by decide +kernel) rfl trivial) ?_
      refine RK.of (RN.goto (off := 4) (tgt := 22) (by decide +kernel)) ?_
      exact RK.iR (by decide +kernel) rfl hL hK hF
    · refine RK.of (RN.ift (cd := .le) (off := 7) (tgt := 21) (by decide +kernel) (mif_le hb)) ?_
      refine RK.of (RN.blk (ops := [(21, .iconst (-1))]) (pc' := 22) (lv' := [(0, .inr (.inr 334))]) (st' := [.inl (-1)]) (h' := h) (cs := []) (by decide +kernel) rfl trivial) ?_
      exact RK.iR (by decide +kernel) rfl hL hK hF
  · refine RK.of (RN.ift (cd := .ge) (off := 19) (tgt := 23) (by decide +kernel) (mif_ge hb)) ?_
    refine RK.of (RN.blk (ops := [(23, .iconst (-1)), (24, .istore_n 1), (25, .lconst 0), (26, .lstore_n 2), (27, .iconst 0), (28, .istore 4)]) (pc' := 30) (lv' := [(4, .inl 0), (2, .inr (.inl 0)), (1, .inl (-1)), (0, .inr (.inr 334))]) (st' := []) (h' := h) (cs := []) (by decide +kernel) rfl trivial) ?_
    refine RK.sub (DX12_choice_L30 hK ?_ _ _ _ _ _ hL KD.rf hF) (sub_cons rfl (sub_cons rfl (sub_cons rfl (sub_cons rfl sub_nil))))
    · intro w1 h2 hL hq hF
      have hK := hK.tr hq
      refine RK.of (RN.blk (ops := [(72, .iload_n 1)]) (pc' := 73) (lv' := [(1, .inl w1)]) (st' := [.inl w1]) (h' := h2) (cs := []) (by decide +kernel) rfl trivial) ?_
      exact RK.iR (by decide +kernel) rfl hL hK hF
noncomputable def GX12_ties (a1 : Int) (h : MH) : Option (MH) :=
  gd [IB (m_w32 (20 + a1)) 167] (
   (if (m_rd h 344 (m_w32 (20 + a1))) < 999 then
    gd [IB (m_w32 (20 + a1)) 167] (
     gd [IB (m_w32 (14 + a1)) 167] (
      some (m_wr (m_wr h 344 (m_w32 (20 + a1)) (m_w32 ((m_rd h 344 (m_w32 (20 + a1))) + 1))) 344 (m_w32 (14 + a1)) 0)))
   else
    gd [IB (m_w32 (14 + a1)) 167] (
     some (m_wr h 344 (m_w32 (14 + a1)) 0))))
theorem DX12_ties {d : Nat} {a1 : Int} {h : MH} {r : MH} (hL : LR h) (hF : GX12_ties a1 h = some r) : RN xs L iX12_ties (d) 0 (lvE 0 [.inr (.inr 334), .inl a1]) [] h (RVo r) ∧ LR r ∧ KD h r := by
  unfold GX12_ties at hF
  have hK : KD h h := KD.rf
  show RK xs L iX12_ties (d) 0 (lvE 0 [.inr (.inr 334), .inl a1]) [] h (RVo r) h r
  refine RK.of (RN.blk (ops := [(0, .aload_n 0)]) (pc' := 1) (lv' := [(0, .inr (.inr 334)), (1, .inl a1)]) (st' := [.inr (.inr 334)]) (h' := h) (cs := []) (by decide +kernel) rfl trivial) ?_
  refine RK.of (RN.gr (i := 39) (ci := 12) (k := 20) (fn := true) (v := 344) (by decide +kernel) rfl (TO.gk (o_334 hL)) (hL.fa (v := 344) 20 1 167 (o_334 hL) rfl (by decide) rfl (by decide)).1) ?_
  obtain ⟨hc, hF⟩ := gd_of hF
  refine RK.of (RN.blk (ops := [(4, .bipush 20), (6, .iload_n 1), (7, .iadd), (8, .iaload), (9, .sipush 999)]) (pc' := 12) (lv' := [(0, .inr (.inr 334)), (1, .inl a1)]) (st' := [.inl 999, .inl (m_rd h 344 (m_w32 (20 + a1)))]) (h' := h) (cs := [GI h 344 1 (m_w32 (20 + a1))]) (by decide +kernel) rfl ⟨(a_344 hL).gi hc.1.1 hc.1.2, trivial⟩) ?_
  rcases it_of hF with ⟨hb, hF⟩ | ⟨hb, hF⟩
  · refine RK.of (RN.icf (cd := .ge) (off := 16) (tgt := 28) (by decide +kernel) (mif_gen hb)) ?_
    refine RK.of (RN.blk (ops := [(15, .aload_n 0)]) (pc' := 16) (lv' := [(0, .inr (.inr 334)), (1, .inl a1)]) (st' := [.inr (.inr 334)]) (h' := h) (cs := []) (by decide +kernel) rfl trivial) ?_
    refine RK.of (RN.gr (i := 39) (ci := 12) (k := 20) (fn := true) (v := 344) (by decide +kernel) rfl (TO.gk (o_334 hL)) (hL.fa (v := 344) 20 1 167 (o_334 hL) rfl (by decide) rfl (by decide)).1) ?_
    obtain ⟨hc, hF⟩ := gd_of hF
    refine RK.of (RN.blk (ops := [(19, .bipush 20), (21, .iload_n 1), (22, .iadd), (23, .dup2), (24, .iaload), (25, .iconst 1), (26, .iadd), (27, .iastore)]) (pc' := 28) (lv' := [(0, .inr (.inr 334)), (1, .inl a1)]) (st' := []) (h' := (m_wr h 344 (m_w32 (20 + a1)) (m_w32 ((m_rd h 344 (m_w32 (20 + a1))) + 1)))) (cs := [GI h 344 1 (m_w32 (20 + a1)), GI h 344 1 (m_w32 (20 + a1))]) (by decide +kernel) rfl ⟨(a_344 hL).gi hc.1.1 hc.1.2, (a_344 hL).gi hc.1.1 hc.1.2, trivial⟩) ?_
    have hL : LR (m_wr h 344 (m_w32 (20 + a1)) (m_w32 ((m_rd h 344 (m_w32 (20 + a1))) + 1))) := hL.wa (TA.le5 (a_344 hL) (by decide))
    have hK := hK.tr (KD.wr : KD h (m_wr h 344 (m_w32 (20 + a1)) (m_w32 ((m_rd h 344 (m_w32 (20 + a1))) + 1))))
    refine RK.of (RN.blk (ops := [(28, .aload_n 0)]) (pc' := 29) (lv' := [(0, .inr (.inr 334)), (1, .inl a1)]) (st' := [.inr (.inr 334)]) (h' := (m_wr h 344 (m_w32 (20 + a1)) (m_w32 ((m_rd h 344 (m_w32 (20 + a1))) + 1)))) (cs := []) (by decide +kernel) rfl trivial) ?_
    refine RK.of (RN.gr (i := 39) (ci := 12) (k := 20) (fn := true) (v := 344) (by decide +kernel) rfl (TO.gk (o_334 hL)) (hL.fa (v := 344) 20 1 167 (o_334 hL) rfl (by decide) rfl (by decide)).1) ?_
    obtain ⟨hc, hF⟩ := gd_of hF
    refine RK.of (RN.blk (ops := [(32, .bipush 14), (34, .iload_n 1), (35, .iadd), (36, .iconst 0), (37, .iastore)]) (pc' := 38) (lv' := [(0, .inr (.inr 334)), (1, .inl a1)]) (st' := []) (h' := (m_wr (m_wr h 344 (m_w32 (20 + a1)) (m_w32 ((m_rd h 344 (m_w32 (20 + a1))) + 1))) 344 (m_w32 (14 + a1)) 0)) (cs := [GI (m_wr h 344 (m_w32 (20 + a1)) (m_w32 ((m_rd h 344 (m_w32 (20 + a1))) + 1))) 344 1 (m_w32 (14 + a1))]) (by decide +kernel) rfl ⟨(a_344 hL).gi hc.1.1 hc.1.2, trivial⟩) ?_
    have hL : LR (m_wr (m_wr h 344 (m_w32 (20 + a1)) (m_w32 ((m_rd h 344 (m_w32 (20 + a1))) + 1))) 344 (m_w32 (14 + a1)) 0) := hL.wa (TA.le5 (a_344 hL) (by decide))
    have hK := hK.tr (KD.wr : KD (m_wr h 344 (m_w32 (20 + a1)) (m_w32 ((m_rd h 344 (m_w32 (20 + a1))) + 1))) (m_wr (m_wr h 344 (m_w32 (20 + a1)) (m_w32 ((m_rd h 344 (m_w32 (20 + a1))) + 1))) 344 (m_w32 (14 + a1)) 0))
    exact RK.vR (by decide +kernel) rfl hL hK hF
  · refine RK.of (RN.ict (cd := .ge) (off := 16) (tgt := 28) (by decide +kernel) (mif_ge hb)) ?_
    refine RK.of (RN.blk (ops := [(28, .aload_n 0)]) (pc' := 29) (lv' := [(0, .inr (.inr 334)), (1, .inl a1)]) (st' := [.inr (.inr 334)]) (h' := h) (cs := []) (by decide +kernel) rfl trivial) ?_
    refine RK.of (RN.gr (i := 39) (ci := 12) (k := 20) (fn := true) (v := 344) (by decide +kernel) rfl (TO.gk (o_334 hL)) (hL.fa (v := 344) 20 1 167 (o_334 hL) rfl (by decide) rfl (by decide)).1) ?_
    obtain ⟨hc, hF⟩ := gd_of hF
    refine RK.of (RN.blk (ops := [(32, .bipush 14), (34, .iload_n 1), (35, .iadd), (36, .iconst 0), (37, .iastore)]) (pc' := 38) (lv' := [(0, .inr (.inr 334)), (1, .inl a1)]) (st' := []) (h' := (m_wr h 344 (m_w32 (14 + a1)) 0)) (cs := [GI h 344 1 (m_w32 (14 + a1))]) (by decide +kernel) rfl ⟨(a_344 hL).gi hc.1.1 hc.1.2, trivial⟩) ?_
    have hL : LR (m_wr h 344 (m_w32 (14 + a1)) 0) := hL.wa (TA.le5 (a_344 hL) (by decide))
    have hK := hK.tr (KD.wr : KD h (m_wr h 344 (m_w32 (14 + a1)) 0))
    exact RK.vR (by decide +kernel) rfl hL hK hF
noncomputable def GX12_sorts (a1 : Int) (h : MH) : Option (MH) :=
  (bd (GX12_holeOf a1 h) (fun x2 h1 =>
   (if x2 < 0 then
    some (m_wr (m_wr h1 334 23 (-1)) 344 11 (m_w32 ((m_rd (m_wr h1 334 23 (-1)) 344 11) + 1)))
   else
    gd [IB (m_w32 (14 + x2)) 167] (
     gd [IB (m_w32 (82 + x2)) 167] (
      jn (fun (h4 : MH) =>
       gd [IB (m_w32 (14 + x2)) 167] (
        some (m_wr h4 344 (m_w32 (14 + x2)) (m_w32 ((m_rd h4 344 (m_w32 (14 + x2))) + 1))))) (fun j3 =>
       (if (m_rd (m_wr h1 334 23 (-1)) 344 (m_w32 (14 + x2))) < (m_rd (m_wr h1 334 23 (-1)) 344 (m_w32 (82 + x2))) then
        j3 (m_wr h1 334 23 (-1))
       else
        (bv (GX12_ties x2 (m_wr h1 334 23 (-1))) (fun h5 =>
         j3 (m_wr h5 334 23 x2))))))))))
theorem DX12_sorts {d : Nat} {a1 : Int} {h : MH} {r : MH} (hL : LR h) (hF : GX12_sorts a1 h = some r) : RN xs L iX12_sorts (d + 4) 0 (lvE 0 [.inr (.inr 334), .inl a1]) [] h (RVo r) ∧ LR r ∧ KD h r := by
  unfold GX12_sorts at hF
  have hK : KD h h := KD.rf
  show RK xs L iX12_sorts (d + 4) 0 (lvE 0 [.inr (.inr 334), .inl a1]) [] h (RVo r) h r
  refine RK.of (RN.blk (ops := [(0, .aload_n 0), (1, .iload_n 1)]) (pc' := 2) (lv' := [(0, .inr (.inr 334)), (1, .inl a1)]) (st' := [.inl a1, .inr (.inr 334)]) (h' := h) (cs := []) (by decide +kernel) rfl trivial) ?_
  obtain ⟨x2, h1, hG, hF⟩ := bd_of hF
  have hq := rcv_ok (as := [.inl a1]) (TO.gk (o_334 hL))
  obtain ⟨hN, hL, hQ⟩ := DX12_holeOf (d := d) hL  hG
  refine RK.of (RN.cv (i := 322) (k := 209) (q2 := iX12_holeOf) (as := [.inr (.inr 334), .inl a1]) (r := []) (v := some (.inl x2)) (h1 := h1) (by decide +kernel) rfl rfl rfl rfl rfl hq hN) ?_
  have hK := hK.tr hQ
  refine RK.of (RN.blk (ops := [(5, .istore_n 2), (6, .aload_n 0), (7, .iconst (-1)), (8, .putfield 335)]) (pc' := 11) (lv' := [(2, .inl x2), (0, .inr (.inr 334)), (1, .inl a1)]) (st' := []) (h' := (m_wr h1 334 23 (-1))) (cs := [GK h1 334 12]) (by decide +kernel) rfl ⟨(o_334 hL).gk, trivial⟩) ?_
  have hL : LR (m_wr h1 334 23 (-1)) := LR.wf (k := 23) hL (o_334 hL) rfl
  have hK := hK.tr (KD.wr : KD h1 (m_wr h1 334 23 (-1)))
  refine RK.of (RN.blk (ops := [(11, .iload_n 2)]) (pc' := 12) (lv' := [(2, .inl x2), (0, .inr (.inr 334)), (1, .inl a1)]) (st' := [.inl x2]) (h' := (m_wr h1 334 23 (-1))) (cs := []) (by decide +kernel) rfl trivial) ?_
  rcases it_of hF with ⟨hb, hF⟩ | ⟨hb, hF⟩
  · refine RK.of (RN.iff (cd := .ge) (off := 15) (tgt := 27) (by decide +kernel) (mif_gen hb)) ?_
    refine RK.of (RN.blk (ops := [(15, .aload_n 0)]) (pc' := 16) (lv' := [(2, .inl x2), (0, .inr (.inr 334)), (1, .inl a1)]) (st' := [.inr (.inr 334)]) (h' := (m_wr h1 334 23 (-1))) (cs := []) (by decide +kernel) rfl trivial) ?_
    refine RK.of (RN.gr (i := 39) (ci := 12) (k := 20) (fn := true) (v := 344) (by decide +kernel) rfl (TO.gk (o_334 hL)) (hL.fa (v := 344) 20 1 167 (o_334 hL) rfl (by decide) rfl (by decide)).1) ?_
    refine RK.of (RN.blk (ops := [(19, .bipush 11), (21, .dup2), (22, .iaload), (23, .iconst 1), (24, .iadd), (25, .iastore)]) (pc' := 26) (lv' := [(2, .inl x2), (0, .inr (.inr 334)), (1, .inl a1)]) (st' := []) (h' := (m_wr (m_wr h1 334 23 (-1)) 344 11 (m_w32 ((m_rd (m_wr h1 334 23 (-1)) 344 11) + 1)))) (cs := [GI (m_wr h1 334 23 (-1)) 344 1 11, GI (m_wr h1 334 23 (-1)) 344 1 11]) (by decide +kernel) rfl ⟨(a_344 hL).gi (by decide) (by decide), (a_344 hL).gi (by decide) (by decide), trivial⟩) ?_
    have hL : LR (m_wr (m_wr h1 334 23 (-1)) 344 11 (m_w32 ((m_rd (m_wr h1 334 23 (-1)) 344 11) + 1))) := hL.wa (TA.le5 (a_344 hL) (by decide))
    have hK := hK.tr (KD.wr : KD (m_wr h1 334 23 (-1)) (m_wr (m_wr h1 334 23 (-1)) 344 11 (m_w32 ((m_rd (m_wr h1 334 23 (-1)) 344 11) + 1))))
    exact RK.vR (by decide +kernel) rfl hL hK hF
  · refine RK.of (RN.ift (cd := .ge) (off := 15) (tgt := 27) (by decide +kernel) (mif_ge hb)) ?_
    refine RK.of (RN.blk (ops := [(27, .aload_n 0)]) (pc' := 28) (lv' := [(2, .inl x2), (0, .inr (.inr 334)), (1, .inl a1)]) (st' := [.inr (.inr 334)]) (h' := (m_wr h1 334 23 (-1))) (cs := []) (by decide +kernel) rfl trivial) ?_
    refine RK.of (RN.gr (i := 39) (ci := 12) (k := 20) (fn := true) (v := 344) (by decide +kernel) rfl (TO.gk (o_334 hL)) (hL.fa (v := 344) 20 1 167 (o_334 hL) rfl (by decide) rfl (by decide)).1) ?_
    obtain ⟨hc, hF⟩ := gd_of hF
    refine RK.of (RN.blk (ops := [(31, .bipush 14), (33, .iload_n 2), (34, .iadd), (35, .iaload), (36, .aload_n 0)]) (pc' := 37) (lv' := [(2, .inl x2), (0, .inr (.inr 334)), (1, .inl a1)]) (st' := [.inr (.inr 334), .inl (m_rd (m_wr h1 334 23 (-1)) 344 (m_w32 (14 + x2)))]) (h' := (m_wr h1 334 23 (-1))) (cs := [GI (m_wr h1 334 23 (-1)) 344 1 (m_w32 (14 + x2))]) (by decide +kernel) rfl ⟨(a_344 hL).gi hc.1.1 hc.1.2, trivial⟩) ?_
    refine RK.of (RN.gr (i := 39) (ci := 12) (k := 20) (fn := true) (v := 344) (by decide +kernel) rfl (TO.gk (o_334 hL)) (hL.fa (v := 344) 20 1 167 (o_334 hL) rfl (by decide) rfl (by decide)).1) ?_
    obtain ⟨hc, hF⟩ := gd_of hF
    refine RK.of (RN.blk (ops := [(40, .bipush 82), (42, .iload_n 2), (43, .iadd), (44, .iaload)]) (pc' := 45) (lv' := [(2, .inl x2), (0, .inr (.inr 334)), (1, .inl a1)]) (st' := [.inl (m_rd (m_wr h1 334 23 (-1)) 344 (m_w32 (82 + x2))), .inl (m_rd (m_wr h1 334 23 (-1)) 344 (m_w32 (14 + x2)))]) (h' := (m_wr h1 334 23 (-1))) (cs := [GI (m_wr h1 334 23 (-1)) 344 1 (m_w32 (82 + x2))]) (by decide +kernel) rfl ⟨(a_344 hL).gi hc.1.1 hc.1.2, trivial⟩) ?_
    refine jn_use (fun j3 => ∀ (h4 : MH), LR h4 → KD h h4 → j3 h4 = some r → RK xs L iX12_sorts (d + 4) 58 [(0, .inr (.inr 334)), (2, .inl x2)] [] h4 (RVo r) h r) ?_ ?_ hF
    · intro h4 hL hK hF
      refine RK.of (RN.blk (ops := [(58, .aload_n 0)]) (pc' := 59) (lv' := [(0, .inr (.inr 334)), (2, .inl x2)]) (st' := [.inr (.inr 334)]) (h' := h4) (cs := []) (by decide +kernel) rfl trivial) ?_
      refine RK.of (RN.gr (i := 39) (ci := 12) (k := 20) (fn := true) (v := 344) (by decide +kernel) rfl (TO.gk (o_334 hL)) (hL.fa (v := 344) 20 1 167 (o_334 hL) rfl (by decide) rfl (by decide)).1) ?_
      obtain ⟨hc, hF⟩ := gd_of hF
      refine RK.of (RN.blk (ops := [(62, .bipush 14), (64, .iload_n 2), (65, .iadd), (66, .dup2), (67, .iaload), (68, .iconst 1), (69, .iadd), (70, .iastore)]) (pc' := 71) (lv' := [(0, .inr (.inr 334)), (2, .inl x2)]) (st' := []) (h' := (m_wr h4 344 (m_w32 (14 + x2)) (m_w32 ((m_rd h4 344 (m_w32 (14 + x2))) + 1)))) (cs := [GI h4 344 1 (m_w32 (14 + x2)), GI h4 344 1 (m_w32 (14 + x2))]) (by decide +kernel) rfl ⟨(a_344 hL).gi hc.1.1 hc.1.2, (a_344 hL).gi hc.1.1 hc.1.2, trivial⟩) ?_
      have hL : LR (m_wr h4 344 (m_w32 (14 + x2)) (m_w32 ((m_rd h4 344 (m_w32 (14 + x2))) + 1))) := hL.wa (TA.le5 (a_344 hL) (by decide))
      have hK := hK.tr (KD.wr : KD h4 (m_wr h4 344 (m_w32 (14 + x2)) (m_w32 ((m_rd h4 344 (m_w32 (14 + x2))) + 1))))
      exact RK.vR (by decide +kernel) rfl hL hK hF
    · intro j3 Jj3 hF
      rcases it_of hF with ⟨hb, hF⟩ | ⟨hb, hF⟩
      · refine RK.of (RN.ict (cd := .lt) (off := 13) (tgt := 58) (by decide +kernel) (mif_lt hb)) ?_
        exact RK.sub (Jj3 _ hL hK hF) (sub_cons rfl (sub_cons rfl sub_nil))
      · refine RK.of (RN.icf (cd := .lt) (off := 13) (tgt := 58) (by decide +kernel) (mif_ltn hb)) ?_
        refine RK.of (RN.blk (ops := [(48, .aload_n 0), (49, .iload_n 2)]) (pc' := 50) (lv' := [(2, .inl x2), (0, .inr (.inr 334)), (1, .inl a1)]) (st' := [.inl x2, .inr (.inr 334)]) (h' := (m_wr h1 334 23 (-1))) (cs := []) (by decide +kernel) rfl trivial) ?_
        obtain ⟨h5, hG, hF⟩ := bv_of hF
        have hq := rcv_ok (as := [.inl x2]) (TO.gk (o_334 hL))
        obtain ⟨hN, hL, hQ⟩ := DX12_ties (d := d + 3) hL  hG
        refine RK.of (RN.cv (i := 338) (k := 219) (q2 := iX12_ties) (as := [.inr (.inr 334), .inl x2]) (r := []) (v := none) (h1 := h5) (by decide +kernel) rfl rfl rfl rfl rfl hq hN) ?_
        have hK := hK.tr hQ
        refine RK.of (RN.blk (ops := [(53, .aload_n 0), (54, .iload_n 2), (55, .putfield 335)]) (pc' := 58) (lv' := [(2, .inl x2), (0, .inr (.inr 334)), (1, .inl a1)]) (st' := []) (h' := (m_wr h5 334 23 x2)) (cs := [GK h5 334 12]) (by decide +kernel) rfl ⟨(o_334 hL).gk, trivial⟩) ?_
        have hL : LR (m_wr h5 334 23 x2) := LR.wf (k := 23) hL (o_334 hL) rfl
        have hK := hK.tr (KD.wr : KD h5 (m_wr h5 334 23 x2))
        exact RK.sub (Jj3 _ hL hK hF) (sub_cons rfl (sub_cons rfl sub_nil))
noncomputable def GX12_leaves_L23 (u2 : Int) (K0 : MH → Option (Int × MH)) : Nat → Int → MH → Option (Int × MH)
  | 0, _, _ => none
  | f + 1, v3, h =>
    (if v3 < (m_rd h 344 12) then
     gd [IB (m_w32 ((m_w32 (26 + v3)) + 1)) 167, IB (m_w32 (26 + v3)) 167] (
      hl (m_wr h 344 (m_w32 (26 + v3)) (m_rd h 344 (m_w32 ((m_w32 (26 + v3)) + 1)))) (fun h1 =>
       GX12_leaves_L23 u2 K0 f (m_w32 (v3 + 1)) h1))
    else
     K0 h)
theorem DX12_leaves_L23 {d : Nat} {u2 : Int} {K0 : MH → Option (Int × MH)} {r : Int × MH} {h0 hB : MH} (hB0 : KD h0 hB) (hK0 : ∀ (h : MH), LR h → KD hB h → K0 h = some r → RK xs L iX12_leaves (d) 60 [(2, .inl u2)] [] h (RIo r) h0 r.2) : ∀ (f : Nat) (v3 : Int) (h : MH), LR h → KD hB h → GX12_leaves_L23 u2 K0 f v3 h = some r → RK xs L iX12_leaves (d) 23 [(0, .inr (.inr 334)), (2, .inl u2), (3, .inl v3)] [] h (RIo r) h0 r.2 := by
  intro f
  induction f with
  | zero =>
    intro v3 h hL hJ hF
    cases hF
  | succ f ih =>
    intro v3 h hL hJ hF
    unfold GX12_leaves_L23 at hF
    have hK := hB0.tr hJ
    refine RK.of (RN.blk (ops := [(23, .iload_n 3), (24, .aload_n 0)]) (pc' := 25) (lv' := [(0, .inr (.inr 334)), (2, .inl u2), (3, .inl v3)]) (st' := [.inr (.inr 334), .inl v3]) (h' := h) (cs := []) (by decide +kernel) rfl trivial) ?_
    refine RK.of (RN.gr (i := 39) (ci := 12) (k := 20) (fn := true) (v := 344) (by decide +kernel) rfl (TO.gk (o_334 hL)) (hL.fa (v := 344) 20 1 167 (o_334 hL) rfl (by decide) rfl (by decide)).1) ?_
    refine RK.of (RN.blk (ops := [(28, .bipush 12), (30, .iaload)]) (pc' := 31) (lv' := [(0, .inr (.inr 334)), (2, .inl u2), (3, .inl v3)]) (st' := [.inl (m_rd h 344 12), .inl v3]) (h' := h) (cs := [GI h 344 1 12]) (by decide +kernel) rfl ⟨(a_344 hL).gi (by decide) (by decide), trivial⟩) ?_
    rcases it_of hF with ⟨hb, hF⟩ | ⟨hb, hF⟩
    · refine RK.of (RN.icf (cd := .ge) (off := 29) (tgt := 60) (by decide +kernel) (mif_gen hb)) ?_
      refine RK.of (RN.blk (ops := [(34, .aload_n 0)]) (pc' := 35) (lv' := [(0, .inr (.inr 334)), (2, .inl u2), (3, .inl v3)]) (st' := [.inr (.inr 334)]) (h' := h) (cs := []) (by decide +kernel) rfl trivial) ?_
      refine RK.of (RN.gr (i := 39) (ci := 12) (k := 20) (fn := true) (v := 344) (by decide +kernel) rfl (TO.gk (o_334 hL)) (hL.fa (v := 344) 20 1 167 (o_334 hL) rfl (by decide) rfl (by decide)).1) ?_
      refine RK.of (RN.blk (ops := [(38, .bipush 26), (40, .iload_n 3), (41, .iadd), (42, .aload_n 0)]) (pc' := 43) (lv' := [(0, .inr (.inr 334)), (2, .inl u2), (3, .inl v3)]) (st' := [.inr (.inr 334), .inl (m_w32 (26 + v3)), .inr (.inr 344)]) (h' := h) (cs := []) (by decide +kernel) rfl trivial) ?_
      refine RK.of (RN.gr (i := 39) (ci := 12) (k := 20) (fn := true) (v := 344) (by decide +kernel) rfl (TO.gk (o_334 hL)) (hL.fa (v := 344) 20 1 167 (o_334 hL) rfl (by decide) rfl (by decide)).1) ?_
      obtain ⟨hc, hF⟩ := gd_of hF
      refine RK.of (RN.blk (ops := [(46, .bipush 26), (48, .iload_n 3), (49, .iadd), (50, .iconst 1), (51, .iadd), (52, .iaload), (53, .iastore)]) (pc' := 54) (lv' := [(0, .inr (.inr 334)), (2, .inl u2), (3, .inl v3)]) (st' := []) (h' := (m_wr h 344 (m_w32 (26 + v3)) (m_rd h 344 (m_w32 ((m_w32 (26 + v3)) + 1))))) (cs := [GI h 344 1 (m_w32 ((m_w32 (26 + v3)) + 1)), GI h 344 1 (m_w32 (26 + v3))]) (by decide +kernel) rfl ⟨(a_344 hL).gi hc.1.1 hc.1.2, (a_344 hL).gi hc.2.1.1 hc.2.1.2, trivial⟩) ?_
      have hL : LR (m_wr h 344 (m_w32 (26 + v3)) (m_rd h 344 (m_w32 ((m_w32 (26 + v3)) + 1)))) := hL.wa (TA.le5 (a_344 hL) (by decide))
      have hK := hK.tr (KD.wr : KD h (m_wr h 344 (m_w32 (26 + v3)) (m_rd h 344 (m_w32 ((m_w32 (26 + v3)) + 1)))))
      have hJ := hJ.tr (KD.wr : KD h (m_wr h 344 (m_w32 (26 + v3)) (m_rd h 344 (m_w32 ((m_w32 (26 + v3)) + 1)))))
      obtain ⟨h1, he, hF⟩ := hl_of hF
      refine RK.of (RN.hl he) ?_
      rw [← he] at hL hK hJ
      refine RK.of (RN.blk (ops := [(54, .iinc 3 1)]) (pc' := 57) (lv' := [(3, .inl (m_w32 (v3 + 1))), (0, .inr (.inr 334)), (2, .inl u2)]) (st' := []) (h' := h1) (cs := []) (by decide +kernel) rfl trivial) ?_
      refine RK.of (RN.goto (off := -34) (tgt := 23) (by decide +kernel)) ?_
      exact RK.sub (ih _ _ hL hJ hF) (sub_cons rfl (sub_cons rfl (sub_cons rfl sub_nil)))
    · refine RK.of (RN.ict (cd := .ge) (off := 29) (tgt := 60) (by decide +kernel) (mif_ge hb)) ?_
      exact RK.sub (hK0 _ hL hJ hF) (sub_cons rfl sub_nil)
noncomputable def GX12_leaves (a1 : Int) (h : MH) : Option (Int × MH) :=
  gd [IB (m_w32 (26 + a1)) 167] (
   GX12_leaves_L23 (m_rd h 344 (m_w32 (26 + a1))) (fun h1 =>
    some ((m_rd h 344 (m_w32 (26 + a1))), h1)) FU a1 (m_wr h 344 12 (m_w32 ((m_rd h 344 12) - 1))))
theorem DX12_leaves {d : Nat} {a1 : Int} {h : MH} {r : Int × MH} (hL : LR h) (hF : GX12_leaves a1 h = some r) : RN xs L iX12_leaves (d) 0 (lvE 0 [.inr (.inr 334), .inl a1]) [] h (RIo r) ∧ LR r.2 ∧ KD h r.2 := by
  unfold GX12_leaves at hF
  have hK : KD h h := KD.rf
  show RK xs L iX12_leaves (d) 0 (lvE 0 [.inr (.inr 334), .inl a1]) [] h (RIo r) h r.2
  refine RK.of (RN.blk (ops := [(0, .aload_n 0)]) (pc' := 1) (lv' := [(0, .inr (.inr 334)), (1, .inl a1)]) (st' := [.inr (.inr 334)]) (h' := h) (cs := []) (by decide +kernel) rfl trivial) ?_
  refine RK.of (RN.gr (i := 39) (ci := 12) (k := 20) (fn := true) (v := 344) (by decide +kernel) rfl (TO.gk (o_334 hL)) (hL.fa (v := 344) 20 1 167 (o_334 hL) rfl (by decide) rfl (by decide)).1) ?_
  obtain ⟨hc, hF⟩ := gd_of hF
  refine RK.of (RN.blk (ops := [(4, .bipush 26), (6, .iload_n 1), (7, .iadd), (8, .iaload), (9, .istore_n 2), (10, .aload_n 0)]) (pc' := 11) (lv' := [(2, .inl (m_rd h 344 (m_w32 (26 + a1)))), (0, .inr (.inr 334)), (1, .inl a1)]) (st' := [.inr (.inr 334)]) (h' := h) (cs := [GI h 344 1 (m_w32 (26 + a1))]) (by decide +kernel) rfl ⟨(a_344 hL).gi hc.1.1 hc.1.2, trivial⟩) ?_
  refine RK.of (RN.gr (i := 39) (ci := 12) (k := 20) (fn := true) (v := 344) (by decide +kernel) rfl (TO.gk (o_334 hL)) (hL.fa (v := 344) 20 1 167 (o_334 hL) rfl (by decide) rfl (by decide)).1) ?_
  refine RK.of (RN.blk (ops := [(14, .bipush 12), (16, .dup2), (17, .iaload), (18, .iconst 1), (19, .isub), (20, .iastore)]) (pc' := 21) (lv' := [(2, .inl (m_rd h 344 (m_w32 (26 + a1)))), (0, .inr (.inr 334)), (1, .inl a1)]) (st' := []) (h' := (m_wr h 344 12 (m_w32 ((m_rd h 344 12) - 1)))) (cs := [GI h 344 1 12, GI h 344 1 12]) (by decide +kernel) rfl ⟨(a_344 hL).gi (by decide) (by decide), (a_344 hL).gi (by decide) (by decide), trivial⟩) ?_
  have hL : LR (m_wr h 344 12 (m_w32 ((m_rd h 344 12) - 1))) := hL.wa (TA.le5 (a_344 hL) (by decide))
  have hK := hK.tr (KD.wr : KD h (m_wr h 344 12 (m_w32 ((m_rd h 344 12) - 1))))
  refine RK.of (RN.blk (ops := [(21, .iload_n 1), (22, .istore_n 3)]) (pc' := 23) (lv' := [(3, .inl a1), (2, .inl (m_rd h 344 (m_w32 (26 + a1)))), (0, .inr (.inr 334)), (1, .inl a1)]) (st' := []) (h' := (m_wr h 344 12 (m_w32 ((m_rd h 344 12) - 1)))) (cs := []) (by decide +kernel) rfl trivial) ?_
  refine RK.sub (DX12_leaves_L23 hK ?_ _ _ _ hL KD.rf hF) (sub_cons rfl (sub_cons rfl (sub_cons rfl sub_nil)))
  · intro h1 hL hq hF
    have hK := hK.tr hq
    refine RK.of (RN.blk (ops := [(60, .iload_n 2)]) (pc' := 61) (lv' := [(2, .inl (m_rd h 344 (m_w32 (26 + a1))))]) (st' := [.inl (m_rd h 344 (m_w32 (26 + a1)))]) (h' := h1) (cs := []) (by decide +kernel) rfl trivial) ?_
    exact RK.iR (by decide +kernel) rfl hL hK hF
noncomputable def GX12_passes (h : MH) : Option (Int × MH) :=
  (bd (GX12_choice h) (fun x2 h1 =>
   jn (fun (p4 : Int) (h5 : MH) =>
    some (p4, (m_wr h5 344 10 (m_w32 ((m_rd h5 344 10) + 1))))) (fun j3 =>
    (if x2 < 0 then
     j3 (-1) (m_wr h1 334 23 (-1))
    else
     (bd (GX12_leaves x2 (m_wr h1 334 23 (-1))) (fun x7 h6 =>
      (bv (GX12_sorts x7 h6) (fun h8 =>
       j3 x7 h8))))))))
theorem DX12_passes {d : Nat} {h : MH} {r : Int × MH} (hL : LR h) (hF : GX12_passes h = some r) : RN xs L iX12_passes (d + 6) 0 (lvE 0 [.inr (.inr 334)]) [] h (RIo r) ∧ LR r.2 ∧ KD h r.2 := by
  unfold GX12_passes at hF
  have hK : KD h h := KD.rf
  show RK xs L iX12_passes (d + 6) 0 (lvE 0 [.inr (.inr 334)]) [] h (RIo r) h r.2
  refine RK.of (RN.blk (ops := [(0, .aload_n 0)]) (pc' := 1) (lv' := [(0, .inr (.inr 334))]) (st' := [.inr (.inr 334)]) (h' := h) (cs := []) (by decide +kernel) rfl trivial) ?_
  obtain ⟨x2, h1, hG, hF⟩ := bd_of hF
  have hq := rcv_ok (as := []) (TO.gk (o_334 hL))
  obtain ⟨hN, hL, hQ⟩ := DX12_choice (d := d) hL  hG
  refine RK.of (RN.cv (i := 341) (k := 218) (q2 := iX12_choice) (as := [.inr (.inr 334)]) (r := []) (v := some (.inl x2)) (h1 := h1) (by decide +kernel) rfl rfl rfl rfl rfl hq hN) ?_
  have hK := hK.tr hQ
  refine RK.of (RN.blk (ops := [(4, .istore_n 1), (5, .iconst (-1)), (6, .istore_n 2), (7, .aload_n 0), (8, .iconst (-1)), (9, .putfield 335)]) (pc' := 12) (lv' := [(2, .inl (-1)), (1, .inl x2), (0, .inr (.inr 334))]) (st' := []) (h' := (m_wr h1 334 23 (-1))) (cs := [GK h1 334 12]) (by decide +kernel) rfl ⟨(o_334 hL).gk, trivial⟩) ?_
  have hL : LR (m_wr h1 334 23 (-1)) := LR.wf (k := 23) hL (o_334 hL) rfl
  have hK := hK.tr (KD.wr : KD h1 (m_wr h1 334 23 (-1)))
  refine RK.of (RN.blk (ops := [(12, .iload_n 1)]) (pc' := 13) (lv' := [(2, .inl (-1)), (1, .inl x2), (0, .inr (.inr 334))]) (st' := [.inl x2]) (h' := (m_wr h1 334 23 (-1))) (cs := []) (by decide +kernel) rfl trivial) ?_
  refine jn_use (fun j3 => ∀ (p4 : Int) (h5 : MH), LR h5 → KD h h5 → j3 p4 h5 = some r → RK xs L iX12_passes (d + 6) 27 [(0, .inr (.inr 334)), (2, .inl p4)] [] h5 (RIo r) h r.2) ?_ ?_ hF
  · intro p4 h5 hL hK hF
    refine RK.of (RN.blk (ops := [(27, .aload_n 0)]) (pc' := 28) (lv' := [(0, .inr (.inr 334)), (2, .inl p4)]) (st' := [.inr (.inr 334)]) (h' := h5) (cs := []) (by decide +kernel) rfl trivial) ?_
    refine RK.of (RN.gr (i := 39) (ci := 12) (k := 20) (fn := true) (v := 344) (by decide +kernel) rfl (TO.gk (o_334 hL)) (hL.fa (v := 344) 20 1 167 (o_334 hL) rfl (by decide) rfl (by decide)).1) ?_
    refine RK.of (RN.blk (ops := [(31, .bipush 10), (33, .dup2), (34, .iaload), (35, .iconst 1), (36, .iadd), (37, .iastore)]) (pc' := 38) (lv' := [(0, .inr (.inr 334)), (2, .inl p4)]) (st' := []) (h' := (m_wr h5 344 10 (m_w32 ((m_rd h5 344 10) + 1)))) (cs := [GI h5 344 1 10, GI h5 344 1 10]) (by decide +kernel) rfl ⟨(a_344 hL).gi (by decide) (by decide), (a_344 hL).gi (by decide) (by decide), trivial⟩) ?_
    have hL : LR (m_wr h5 344 10 (m_w32 ((m_rd h5 344 10) + 1))) := hL.wa (TA.le5 (a_344 hL) (by decide))
    have hK := hK.tr (KD.wr : KD h5 (m_wr h5 344 10 (m_w32 ((m_rd h5 344 10) + 1))))
    refine RK.of (RN.blk (ops := [(38, .iload_n 2)]) (pc' := 39) (lv' := [(0, .inr (.inr 334)), (2, .inl p4)]) (st' := [.inl p4]) (h' := (m_wr h5 344 10 (m_w32 ((m_rd h5 344 10) + 1)))) (cs := []) (by decide +kernel) rfl trivial) ?_
    exact RK.iR (by decide +kernel) rfl hL hK hF
  · intro j3 Jj3 hF
    rcases it_of hF with ⟨hb, hF⟩ | ⟨hb, hF⟩
    · refine RK.of (RN.ift (cd := .lt) (off := 14) (tgt := 27) (by decide +kernel) (mif_lt hb)) ?_
      exact RK.sub (Jj3 _ _ hL hK hF) (sub_cons rfl (sub_cons rfl sub_nil))
    · refine RK.of (RN.iff (cd := .lt) (off := 14) (tgt := 27) (by decide +kernel) (mif_ltn hb)) ?_
      refine RK.of (RN.blk (ops := [(16, .aload_n 0), (17, .iload_n 1)]) (pc' := 18) (lv' := [(2, .inl (-1)), (1, .inl x2), (0, .inr (.inr 334))]) (st' := [.inl x2, .inr (.inr 334)]) (h' := (m_wr h1 334 23 (-1))) (cs := []) (by decide +kernel) rfl trivial) ?_
      obtain ⟨x7, h6, hG, hF⟩ := bd_of hF
      have hq := rcv_ok (as := [.inl x2]) (TO.gk (o_334 hL))
      obtain ⟨hN, hL, hQ⟩ := DX12_leaves (d := d + 5) hL  hG
      refine RK.of (RN.cv (i := 344) (k := 221) (q2 := iX12_leaves) (as := [.inr (.inr 334), .inl x2]) (r := []) (v := some (.inl x7)) (h1 := h6) (by decide +kernel) rfl rfl rfl rfl rfl hq hN) ?_
      have hK := hK.tr hQ
      refine RK.of (RN.blk (ops := [(21, .istore_n 2), (22, .aload_n 0), (23, .iload_n 2)]) (pc' := 24) (lv' := [(2, .inl x7), (1, .inl x2), (0, .inr (.inr 334))]) (st' := [.inl x7, .inr (.inr 334)]) (h' := h6) (cs := []) (by decide +kernel) rfl trivial) ?_
      obtain ⟨h8, hG, hF⟩ := bv_of hF
      have hq := rcv_ok (as := [.inl x7]) (TO.gk (o_334 hL))
      obtain ⟨hN, hL, hQ⟩ := DX12_sorts (d := d + 1) hL  hG
      refine RK.of (RN.cv (i := 347) (k := 220) (q2 := iX12_sorts) (as := [.inr (.inr 334), .inl x7]) (r := []) (v := none) (h1 := h8) (by decide +kernel) rfl rfl rfl rfl rfl hq hN) ?_
      have hK := hK.tr hQ
      exact RK.sub (Jj3 _ _ hL hK hF) (sub_cons rfl (sub_cons rfl sub_nil))
noncomputable def GX12_passesAll_L2 (u1 : Int) (K0 : MH → Option (MH)) : Nat → Int → MH → Option (MH)
  | 0, _, _ => none
  | f + 1, v2, h =>
    (if v2 < u1 then
     (bd (GX12_passes h) (fun x2 h1 =>
      GX12_passesAll_L2 u1 K0 f (m_w32 (v2 + 1)) h1))
    else
     K0 h)
theorem DX12_passesAll_L2 {d : Nat} {u1 : Int} {K0 : MH → Option (MH)} {r : MH} {h0 hB : MH} (hB0 : KD h0 hB) (hK0 : ∀ (h : MH), LR h → KD hB h → K0 h = some r → RK xs L iX12_passesAll (d + 7) 18 [] [] h (RVo r) h0 r) : ∀ (f : Nat) (v2 : Int) (h : MH), LR h → KD hB h → GX12_passesAll_L2 u1 K0 f v2 h = some r → RK xs L iX12_passesAll (d + 7) 2 [(0, .inr (.inr 334)), (1, .inl u1), (2, .inl v2)] [] h (RVo r) h0 r := by
  intro f
  induction f with
  | zero =>
    intro v2 h hL hJ hF
    cases hF
  | succ f ih =>
    intro v2 h hL hJ hF
    unfold GX12_passesAll_L2 at hF
    have hK := hB0.tr hJ
    refine RK.of (RN.blk (ops := [(2, .iload_n 2), (3, .iload_n 1)]) (pc' := 4) (lv' := [(0, .inr (.inr 334)), (1, .inl u1), (2, .inl v2)]) (st' := [.inl u1, .inl v2]) (h' := h) (cs := []) (by decide +kernel) rfl trivial) ?_
    rcases it_of hF with ⟨hb, hF⟩ | ⟨hb, hF⟩
    · refine RK.of (RN.icf (cd := .ge) (off := 14) (tgt := 18) (by decide +kernel) (mif_gen hb)) ?_
      refine RK.of (RN.blk (ops := [(7, .aload_n 0)]) (pc' := 8) (lv' := [(0, .inr (.inr 334)), (1, .inl u1), (2, .inl v2)]) (st' := [.inr (.inr 334)]) (h' := h) (cs := []) (by decide +kernel) rfl trivial) ?_
      obtain ⟨x2, h1, hG, hF⟩ := bd_of hF
      have hq := rcv_ok (as := []) (TO.gk (o_334 hL))
      obtain ⟨hN, hL, hQ⟩ := DX12_passes (d := d) hL  hG
      refine RK.of (RN.cv (i := 350) (k := 222) (q2 := iX12_passes) (as := [.inr (.inr 334)]) (r := []) (v := some (.inl x2)) (h1 := h1) (by decide +kernel) rfl rfl rfl rfl rfl hq hN) ?_
      have hK := hK.tr hQ
      have hJ := hJ.tr hQ
      refine RK.of (RN.blk (ops := [(11, .pop), (12, .iinc 2 1)]) (pc' := 15) (lv' := [(2, .inl (m_w32 (v2 + 1))), (0, .inr (.inr 334)), (1, .inl u1)]) (st' := []) (h' := h1) (cs := []) (by decide +kernel) rfl trivial) ?_
      refine RK.of (RN.goto (off := -13) (tgt := 2) (by decide +kernel)) ?_
      exact RK.sub (ih _ _ hL hJ hF) (sub_cons rfl (sub_cons rfl (sub_cons rfl sub_nil)))
    · refine RK.of (RN.ict (cd := .ge) (off := 14) (tgt := 18) (by decide +kernel) (mif_ge hb)) ?_
      exact RK.sub (hK0 _ hL hJ hF) sub_nil
noncomputable def GX12_passesAll (a1 : Int) (h : MH) : Option (MH) :=
  GX12_passesAll_L2 a1 (fun h1 =>
   some h1) FU 0 h
theorem DX12_passesAll {d : Nat} {a1 : Int} {h : MH} {r : MH} (hL : LR h) (hF : GX12_passesAll a1 h = some r) : RN xs L iX12_passesAll (d + 7) 0 (lvE 0 [.inr (.inr 334), .inl a1]) [] h (RVo r) ∧ LR r ∧ KD h r := by
  unfold GX12_passesAll at hF
  have hK : KD h h := KD.rf
  show RK xs L iX12_passesAll (d + 7) 0 (lvE 0 [.inr (.inr 334), .inl a1]) [] h (RVo r) h r
  refine RK.of (RN.blk (ops := [(0, .iconst 0), (1, .istore_n 2)]) (pc' := 2) (lv' := [(2, .inl 0), (0, .inr (.inr 334)), (1, .inl a1)]) (st' := []) (h' := h) (cs := []) (by decide +kernel) rfl trivial) ?_
  refine RK.sub (DX12_passesAll_L2 hK ?_ _ _ _ hL KD.rf hF) (sub_cons rfl (sub_cons rfl (sub_cons rfl sub_nil)))
  · intro h1 hL hq hF
    have hK := hK.tr hq
    exact RK.vR (by decide +kernel) rfl hL hK hF
noncomputable def GX12_keepsAct_L52 (K0 : MH → Option (MH)) : Nat → Int → MH → Option (MH)
  | 0, _, _ => none
  | f + 1, v1, h =>
    (if v1 < 72 then
     gd [IB (m_w32 (10 + v1)) 167, IB (m_w32 ((m_w32 (72 * (m_rd h 334 25))) + v1)) 1440] (
      hl (m_wr h 345 (m_w32 ((m_w32 (72 * (m_rd h 334 25))) + v1)) (m_rd h 344 (m_w32 (10 + v1)))) (fun h1 =>
       GX12_keepsAct_L52 K0 f (m_w32 (v1 + 1)) h1))
    else
     K0 h)
theorem DX12_keepsAct_L52 {d : Nat} {K0 : MH → Option (MH)} {r : MH} {h0 hB : MH} (hB0 : KD h0 hB) (hK0 : ∀ (h : MH), LR h → KD hB h → K0 h = some r → RK xs L iX12_keepsAct (d) 87 [(0, .inr (.inr 334))] [] h (RVo r) h0 r) : ∀ (f : Nat) (v1 : Int) (h : MH), LR h → KD hB h → GX12_keepsAct_L52 K0 f v1 h = some r → RK xs L iX12_keepsAct (d) 52 [(0, .inr (.inr 334)), (1, .inl v1)] [] h (RVo r) h0 r := by
  intro f
  induction f with
  | zero =>
    intro v1 h hL hJ hF
    cases hF
  | succ f ih =>
    intro v1 h hL hJ hF
    unfold GX12_keepsAct_L52 at hF
    have hK := hB0.tr hJ
    refine RK.of (RN.blk (ops := [(52, .iload_n 1), (53, .bipush 72)]) (pc' := 55) (lv' := [(0, .inr (.inr 334)), (1, .inl v1)]) (st' := [.inl 72, .inl v1]) (h' := h) (cs := []) (by decide +kernel) rfl trivial) ?_
    rcases it_of hF with ⟨hb, hF⟩ | ⟨hb, hF⟩
    · refine RK.of (RN.icf (cd := .ge) (off := 32) (tgt := 87) (by decide +kernel) (mif_gen hb)) ?_
      refine RK.of (RN.blk (ops := [(58, .aload_n 0)]) (pc' := 59) (lv' := [(0, .inr (.inr 334)), (1, .inl v1)]) (st' := [.inr (.inr 334)]) (h' := h) (cs := []) (by decide +kernel) rfl trivial) ?_
      refine RK.of (RN.gr (i := 46) (ci := 12) (k := 24) (fn := true) (v := 345) (by decide +kernel) rfl (TO.gk (o_334 hL)) (hL.fa (v := 345) 24 1 1440 (o_334 hL) rfl (by decide) rfl (by decide)).1) ?_
      refine RK.of (RN.blk (ops := [(62, .bipush 72), (64, .aload_n 0), (65, .getfield 277), (68, .imul), (69, .iload_n 1), (70, .iadd), (71, .aload_n 0)]) (pc' := 72) (lv' := [(0, .inr (.inr 334)), (1, .inl v1)]) (st' := [.inr (.inr 334), .inl (m_w32 ((m_w32 (72 * (m_rd h 334 25))) + v1)), .inr (.inr 345)]) (h' := h) (cs := [GK h 334 12]) (by decide +kernel) rfl ⟨(o_334 hL).gk, trivial⟩) ?_
      refine RK.of (RN.gr (i := 39) (ci := 12) (k := 20) (fn := true) (v := 344) (by decide +kernel) rfl (TO.gk (o_334 hL)) (hL.fa (v := 344) 20 1 167 (o_334 hL) rfl (by decide) rfl (by decide)).1) ?_
      obtain ⟨hc, hF⟩ := gd_of hF
      refine RK.of (RN.blk (ops := [(75, .bipush 10), (77, .iload_n 1), (78, .iadd), (79, .iaload), (80, .iastore)]) (pc' := 81) (lv' := [(0, .inr (.inr 334)), (1, .inl v1)]) (st' := []) (h' := (m_wr h 345 (m_w32 ((m_w32 (72 * (m_rd h 334 25))) + v1)) (m_rd h 344 (m_w32 (10 + v1))))) (cs := [GI h 344 1 (m_w32 (10 + v1)), GI h 345 1 (m_w32 ((m_w32 (72 * (m_rd h 334 25))) + v1))]) (by decide +kernel) rfl ⟨(a_344 hL).gi hc.1.1 hc.1.2, (a_345 hL).gi hc.2.1.1 hc.2.1.2, trivial⟩) ?_
      have hL : LR (m_wr h 345 (m_w32 ((m_w32 (72 * (m_rd h 334 25))) + v1)) (m_rd h 344 (m_w32 (10 + v1)))) := hL.wa (TA.le5 (a_345 hL) (by decide))
      have hK := hK.tr (KD.wr : KD h (m_wr h 345 (m_w32 ((m_w32 (72 * (m_rd h 334 25))) + v1)) (m_rd h 344 (m_w32 (10 + v1)))))
      have hJ := hJ.tr (KD.wr : KD h (m_wr h 345 (m_w32 ((m_w32 (72 * (m_rd h 334 25))) + v1)) (m_rd h 344 (m_w32 (10 + v1)))))
      obtain ⟨h1, he, hF⟩ := hl_of hF
      refine RK.of (RN.hl he) ?_
      rw [← he] at hL hK hJ
      refine RK.of (RN.blk (ops := [(81, .iinc 1 1)]) (pc' := 84) (lv' := [(1, .inl (m_w32 (v1 + 1))), (0, .inr (.inr 334))]) (st' := []) (h' := h1) (cs := []) (by decide +kernel) rfl trivial) ?_
      refine RK.of (RN.goto (off := -32) (tgt := 52) (by decide +kernel)) ?_
      exact RK.sub (ih _ _ hL hJ hF) (sub_cons rfl (sub_cons rfl sub_nil))
    · refine RK.of (RN.ict (cd := .ge) (off := 32) (tgt := 87) (by decide +kernel) (mif_ge hb)) ?_
      exact RK.sub (hK0 _ hL hJ hF) (sub_cons rfl sub_nil)
noncomputable def GX12_keepsAct_L12 (K0 : MH → Option (MH)) : Nat → Int → MH → Option (MH)
  | 0, _, _ => none
  | f + 1, v1, h =>
    (if v1 < 1440 then
     gd [IB v1 1440, IB (m_w32 (v1 - 72)) 1440] (
      GX12_keepsAct_L12 K0 f (m_w32 (v1 + 1)) (m_wr h 345 (m_w32 (v1 - 72)) (m_rd h 345 v1)))
    else
     K0 h)
theorem DX12_keepsAct_L12 {d : Nat} {K0 : MH → Option (MH)} {r : MH} {h0 hB : MH} (hB0 : KD h0 hB) (hK0 : ∀ (h : MH), LR h → KD hB h → K0 h = some r → RK xs L iX12_keepsAct (d) 40 [(0, .inr (.inr 334))] [] h (RVo r) h0 r) : ∀ (f : Nat) (v1 : Int) (h : MH), LR h → KD hB h → GX12_keepsAct_L12 K0 f v1 h = some r → RK xs L iX12_keepsAct (d) 12 [(0, .inr (.inr 334)), (1, .inl v1)] [] h (RVo r) h0 r := by
  intro f
  induction f with
  | zero =>
    intro v1 h hL hJ hF
    cases hF
  | succ f ih =>
    intro v1 h hL hJ hF
    unfold GX12_keepsAct_L12 at hF
    have hK := hB0.tr hJ
    refine RK.of (RN.blk (ops := [(12, .iload_n 1), (13, .sipush 1440)]) (pc' := 16) (lv' := [(0, .inr (.inr 334)), (1, .inl v1)]) (st' := [.inl 1440, .inl v1]) (h' := h) (cs := []) (by decide +kernel) rfl trivial) ?_
    rcases it_of hF with ⟨hb, hF⟩ | ⟨hb, hF⟩
    · refine RK.of (RN.icf (cd := .ge) (off := 24) (tgt := 40) (by decide +kernel) (mif_gen hb)) ?_
      refine RK.of (RN.blk (ops := [(19, .aload_n 0)]) (pc' := 20) (lv' := [(0, .inr (.inr 334)), (1, .inl v1)]) (st' := [.inr (.inr 334)]) (h' := h) (cs := []) (by decide +kernel) rfl trivial) ?_
      refine RK.of (RN.gr (i := 46) (ci := 12) (k := 24) (fn := true) (v := 345) (by decide +kernel) rfl (TO.gk (o_334 hL)) (hL.fa (v := 345) 24 1 1440 (o_334 hL) rfl (by decide) rfl (by decide)).1) ?_
      refine RK.of (RN.blk (ops := [(23, .iload_n 1), (24, .bipush 72), (26, .isub), (27, .aload_n 0)]) (pc' := 28) (lv' := [(0, .inr (.inr 334)), (1, .inl v1)]) (st' := [.inr (.inr 334), .inl (m_w32 (v1 - 72)), .inr (.inr 345)]) (h' := h) (cs := []) (by decide +kernel) rfl trivial) ?_
      refine RK.of (RN.gr (i := 46) (ci := 12) (k := 24) (fn := true) (v := 345) (by decide +kernel) rfl (TO.gk (o_334 hL)) (hL.fa (v := 345) 24 1 1440 (o_334 hL) rfl (by decide) rfl (by decide)).1) ?_
      obtain ⟨hc, hF⟩ := gd_of hF
      refine RK.of (RN.blk (ops := [(31, .iload_n 1), (32, .iaload), (33, .iastore)]) (pc' := 34) (lv' := [(0, .inr (.inr 334)), (1, .inl v1)]) (st' := []) (h' := (m_wr h 345 (m_w32 (v1 - 72)) (m_rd h 345 v1))) (cs := [GI h 345 1 v1, GI h 345 1 (m_w32 (v1 - 72))]) (by decide +kernel) rfl ⟨(a_345 hL).gi hc.1.1 hc.1.2, (a_345 hL).gi hc.2.1.1 hc.2.1.2, trivial⟩) ?_
      have hL : LR (m_wr h 345 (m_w32 (v1 - 72)) (m_rd h 345 v1)) := hL.wa (TA.le5 (a_345 hL) (by decide))
      have hK := hK.tr (KD.wr : KD h (m_wr h 345 (m_w32 (v1 - 72)) (m_rd h 345 v1)))
      have hJ := hJ.tr (KD.wr : KD h (m_wr h 345 (m_w32 (v1 - 72)) (m_rd h 345 v1)))
      refine RK.of (RN.blk (ops := [(34, .iinc 1 1)]) (pc' := 37) (lv' := [(1, .inl (m_w32 (v1 + 1))), (0, .inr (.inr 334))]) (st' := []) (h' := (m_wr h 345 (m_w32 (v1 - 72)) (m_rd h 345 v1))) (cs := []) (by decide +kernel) rfl trivial) ?_
      refine RK.of (RN.goto (off := -25) (tgt := 12) (by decide +kernel)) ?_
      exact RK.sub (ih _ _ hL hJ hF) (sub_cons rfl (sub_cons rfl sub_nil))
    · refine RK.of (RN.ict (cd := .ge) (off := 24) (tgt := 40) (by decide +kernel) (mif_ge hb)) ?_
      exact RK.sub (hK0 _ hL hJ hF) (sub_cons rfl sub_nil)
noncomputable def GX12_keepsAct (h : MH) : Option (MH) :=
  jn (fun (h2 : MH) =>
   GX12_keepsAct_L52 (fun h3 =>
    some (m_wr h3 334 25 (m_w32 ((m_rd h3 334 25) + 1)))) FU 0 h2) (fun j1 =>
   (if (m_rd h 334 25) = 20 then
    GX12_keepsAct_L12 (fun h4 =>
     j1 (m_wr h4 334 25 (m_w32 ((m_rd h4 334 25) - 1)))) FU 72 h
   else
    j1 h))
theorem DX12_keepsAct {d : Nat} {h : MH} {r : MH} (hL : LR h) (hF : GX12_keepsAct h = some r) : RN xs L iX12_keepsAct (d) 0 (lvE 0 [.inr (.inr 334)]) [] h (RVo r) ∧ LR r ∧ KD h r := by
  unfold GX12_keepsAct at hF
  have hK : KD h h := KD.rf
  show RK xs L iX12_keepsAct (d) 0 (lvE 0 [.inr (.inr 334)]) [] h (RVo r) h r
  refine RK.of (RN.blk (ops := [(0, .aload_n 0), (1, .getfield 277), (4, .bipush 20)]) (pc' := 6) (lv' := [(0, .inr (.inr 334))]) (st' := [.inl 20, .inl (m_rd h 334 25)]) (h' := h) (cs := [GK h 334 12]) (by decide +kernel) rfl ⟨(o_334 hL).gk, trivial⟩) ?_
  refine jn_use (fun j1 => ∀ (h2 : MH), LR h2 → KD h h2 → j1 h2 = some r → RK xs L iX12_keepsAct (d) 50 [(0, .inr (.inr 334))] [] h2 (RVo r) h r) ?_ ?_ hF
  · intro h2 hL hK hF
    refine RK.of (RN.blk (ops := [(50, .iconst 0), (51, .istore_n 1)]) (pc' := 52) (lv' := [(1, .inl 0), (0, .inr (.inr 334))]) (st' := []) (h' := h2) (cs := []) (by decide +kernel) rfl trivial) ?_
    refine RK.sub (DX12_keepsAct_L52 hK ?_ _ _ _ hL KD.rf hF) (sub_cons rfl (sub_cons rfl sub_nil))
    · intro h3 hL hq hF
      have hK := hK.tr hq
      refine RK.of (RN.blk (ops := [(87, .aload_n 0), (88, .dup), (89, .getfield 277), (92, .iconst 1), (93, .iadd), (94, .putfield 277)]) (pc' := 97) (lv' := [(0, .inr (.inr 334))]) (st' := []) (h' := (m_wr h3 334 25 (m_w32 ((m_rd h3 334 25) + 1)))) (cs := [GK h3 334 12, GK h3 334 12]) (by decide +kernel) rfl ⟨(o_334 hL).gk, (o_334 hL).gk, trivial⟩) ?_
      have hL : LR (m_wr h3 334 25 (m_w32 ((m_rd h3 334 25) + 1))) := LR.wf (k := 25) hL (o_334 hL) rfl
      have hK := hK.tr (KD.wr : KD h3 (m_wr h3 334 25 (m_w32 ((m_rd h3 334 25) + 1))))
      exact RK.vR (by decide +kernel) rfl hL hK hF
  · intro j1 Jj1 hF
    rcases it_of hF with ⟨hb, hF⟩ | ⟨hb, hF⟩
    · refine RK.of (RN.icf (cd := .ne) (off := 44) (tgt := 50) (by decide +kernel) (mif_nen hb)) ?_
      refine RK.of (RN.blk (ops := [(9, .bipush 72), (11, .istore_n 1)]) (pc' := 12) (lv' := [(1, .inl 72), (0, .inr (.inr 334))]) (st' := []) (h' := h) (cs := []) (by decide +kernel) rfl trivial) ?_
      refine RK.sub (DX12_keepsAct_L12 hK ?_ _ _ _ hL KD.rf hF) (sub_cons rfl (sub_cons rfl sub_nil))
      · intro h4 hL hq hF
        have hK := hK.tr hq
        refine RK.of (RN.blk (ops := [(40, .aload_n 0), (41, .dup), (42, .getfield 277), (45, .iconst 1), (46, .isub), (47, .putfield 277)]) (pc' := 50) (lv' := [(0, .inr (.inr 334))]) (st' := []) (h' := (m_wr h4 334 25 (m_w32 ((m_rd h4 334 25) - 1)))) (cs := [GK h4 334 12, GK h4 334 12]) (by decide +kernel) rfl ⟨(o_334 hL).gk, (o_334 hL).gk, trivial⟩) ?_
        have hL : LR (m_wr h4 334 25 (m_w32 ((m_rd h4 334 25) - 1))) := LR.wf (k := 25) hL (o_334 hL) rfl
        have hK := hK.tr (KD.wr : KD h4 (m_wr h4 334 25 (m_w32 ((m_rd h4 334 25) - 1))))
        exact RK.sub (Jj1 _ hL hK hF) (sub_cons rfl sub_nil)
    · refine RK.of (RN.ict (cd := .ne) (off := 44) (tgt := 50) (by decide +kernel) (mif_ne hb)) ?_
      exact RK.sub (Jj1 _ hL hK hF) (sub_cons rfl sub_nil)
noncomputable def GX12_undo_L21 (K0 : MH → Option (Int × MH)) : Nat → Int → MH → Option (Int × MH)
  | 0, _, _ => none
  | f + 1, v1, h =>
    (if v1 < 72 then
     gd [IB (m_w32 ((m_w32 (72 * (m_rd h 334 25))) + v1)) 1440, IB (m_w32 (10 + v1)) 167] (
      hl (m_wr h 344 (m_w32 (10 + v1)) (m_rd h 345 (m_w32 ((m_w32 (72 * (m_rd h 334 25))) + v1)))) (fun h1 =>
       GX12_undo_L21 K0 f (m_w32 (v1 + 1)) h1))
    else
     K0 h)
theorem DX12_undo_L21 {d : Nat} {K0 : MH → Option (Int × MH)} {r : Int × MH} {h0 hB : MH} (hB0 : KD h0 hB) (hK0 : ∀ (h : MH), LR h → KD hB h → K0 h = some r → RK xs L iX12_undo (d) 56 [(0, .inr (.inr 334))] [] h (RIo r) h0 r.2) : ∀ (f : Nat) (v1 : Int) (h : MH), LR h → KD hB h → GX12_undo_L21 K0 f v1 h = some r → RK xs L iX12_undo (d) 21 [(0, .inr (.inr 334)), (1, .inl v1)] [] h (RIo r) h0 r.2 := by
  intro f
  induction f with
  | zero =>
    intro v1 h hL hJ hF
    cases hF
  | succ f ih =>
    intro v1 h hL hJ hF
    unfold GX12_undo_L21 at hF
    have hK := hB0.tr hJ
    refine RK.of (RN.blk (ops := [(21, .iload_n 1), (22, .bipush 72)]) (pc' := 24) (lv' := [(0, .inr (.inr 334)), (1, .inl v1)]) (st' := [.inl 72, .inl v1]) (h' := h) (cs := []) (by decide +kernel) rfl trivial) ?_
    rcases it_of hF with ⟨hb, hF⟩ | ⟨hb, hF⟩
    · refine RK.of (RN.icf (cd := .ge) (off := 32) (tgt := 56) (by decide +kernel) (mif_gen hb)) ?_
      refine RK.of (RN.blk (ops := [(27, .aload_n 0)]) (pc' := 28) (lv' := [(0, .inr (.inr 334)), (1, .inl v1)]) (st' := [.inr (.inr 334)]) (h' := h) (cs := []) (by decide +kernel) rfl trivial) ?_
      refine RK.of (RN.gr (i := 39) (ci := 12) (k := 20) (fn := true) (v := 344) (by decide +kernel) rfl (TO.gk (o_334 hL)) (hL.fa (v := 344) 20 1 167 (o_334 hL) rfl (by decide) rfl (by decide)).1) ?_
      refine RK.of (RN.blk (ops := [(31, .bipush 10), (33, .iload_n 1), (34, .iadd), (35, .aload_n 0)]) (pc' := 36) (lv' := [(0, .inr (.inr 334)), (1, .inl v1)]) (st' := [.inr (.inr 334), .inl (m_w32 (10 + v1)), .inr (.inr 344)]) (h' := h) (cs := []) (by decide +kernel) rfl trivial) ?_
      refine RK.of (RN.gr (i := 46) (ci := 12) (k := 24) (fn := true) (v := 345) (by decide +kernel) rfl (TO.gk (o_334 hL)) (hL.fa (v := 345) 24 1 1440 (o_334 hL) rfl (by decide) rfl (by decide)).1) ?_
      obtain ⟨hc, hF⟩ := gd_of hF
      refine RK.of (RN.blk (ops := [(39, .bipush 72), (41, .aload_n 0), (42, .getfield 277), (45, .imul), (46, .iload_n 1), (47, .iadd), (48, .iaload), (49, .iastore)]) (pc' := 50) (lv' := [(0, .inr (.inr 334)), (1, .inl v1)]) (st' := []) (h' := (m_wr h 344 (m_w32 (10 + v1)) (m_rd h 345 (m_w32 ((m_w32 (72 * (m_rd h 334 25))) + v1))))) (cs := [GK h 334 12, GI h 345 1 (m_w32 ((m_w32 (72 * (m_rd h 334 25))) + v1)), GI h 344 1 (m_w32 (10 + v1))]) (by decide +kernel) rfl ⟨(o_334 hL).gk, (a_345 hL).gi hc.1.1 hc.1.2, (a_344 hL).gi hc.2.1.1 hc.2.1.2, trivial⟩) ?_
      have hL : LR (m_wr h 344 (m_w32 (10 + v1)) (m_rd h 345 (m_w32 ((m_w32 (72 * (m_rd h 334 25))) + v1)))) := hL.wa (TA.le5 (a_344 hL) (by decide))
      have hK := hK.tr (KD.wr : KD h (m_wr h 344 (m_w32 (10 + v1)) (m_rd h 345 (m_w32 ((m_w32 (72 * (m_rd h 334 25))) + v1)))))
      have hJ := hJ.tr (KD.wr : KD h (m_wr h 344 (m_w32 (10 + v1)) (m_rd h 345 (m_w32 ((m_w32 (72 * (m_rd h 334 25))) + v1)))))
      obtain ⟨h1, he, hF⟩ := hl_of hF
      refine RK.of (RN.hl he) ?_
      rw [← he] at hL hK hJ
      refine RK.of (RN.blk (ops := [(50, .iinc 1 1)]) (pc' := 53) (lv' := [(1, .inl (m_w32 (v1 + 1))), (0, .inr (.inr 334))]) (st' := []) (h' := h1) (cs := []) (by decide +kernel) rfl trivial) ?_
      refine RK.of (RN.goto (off := -32) (tgt := 21) (by decide +kernel)) ?_
      exact RK.sub (ih _ _ hL hJ hF) (sub_cons rfl (sub_cons rfl sub_nil))
    · refine RK.of (RN.ict (cd := .ge) (off := 32) (tgt := 56) (by decide +kernel) (mif_ge hb)) ?_
      exact RK.sub (hK0 _ hL hJ hF) (sub_cons rfl sub_nil)
noncomputable def GX12_undo (h : MH) : Option (Int × MH) :=
  (if (m_rd h 334 25) = 0 then
   some ((-1), h)
  else
   GX12_undo_L21 (fun h1 =>
    some ((m_rd h1 334 25), h1)) FU 0 (m_wr h 334 25 (m_w32 ((m_rd h 334 25) - 1))))
theorem DX12_undo {d : Nat} {h : MH} {r : Int × MH} (hL : LR h) (hF : GX12_undo h = some r) : RN xs L iX12_undo (d) 0 (lvE 0 [.inr (.inr 334)]) [] h (RIo r) ∧ LR r.2 ∧ KD h r.2 := by
  unfold GX12_undo at hF
  have hK : KD h h := KD.rf
  show RK xs L iX12_undo (d) 0 (lvE 0 [.inr (.inr 334)]) [] h (RIo r) h r.2
  refine RK.of (RN.blk (ops := [(0, .aload_n 0), (1, .getfield 277)]) (pc' := 4) (lv' := [(0, .inr (.inr 334))]) (st' := [.inl (m_rd h 334 25)]) (h' := h) (cs := [GK h 334 12]) (by decide +kernel) rfl ⟨(o_334 hL).gk, trivial⟩) ?_
  rcases it_of hF with ⟨hb, hF⟩ | ⟨hb, hF⟩
  · refine RK.of (RN.iff (cd := .ne) (off := 5) (tgt := 9) (by decide +kernel) (mif_nen hb)) ?_
    refine RK.of (RN.blk (ops := [(7, .iconst (-1))]) (pc' := 8) (lv' := [(0, .inr (.inr 334))]) (st' := [.inl (-1)]) (h' := h) (cs := []) (by decide +kernel) rfl trivial) ?_
    exact RK.iR (by decide +kernel) rfl hL hK hF
  · refine RK.of (RN.ift (cd := .ne) (off := 5) (tgt := 9) (by decide +kernel) (mif_ne hb)) ?_
    refine RK.of (RN.blk (ops := [(9, .aload_n 0), (10, .dup), (11, .getfield 277), (14, .iconst 1), (15, .isub), (16, .putfield 277)]) (pc' := 19) (lv' := [(0, .inr (.inr 334))]) (st' := []) (h' := (m_wr h 334 25 (m_w32 ((m_rd h 334 25) - 1)))) (cs := [GK h 334 12, GK h 334 12]) (by decide +kernel) rfl ⟨(o_334 hL).gk, (o_334 hL).gk, trivial⟩) ?_
    have hL : LR (m_wr h 334 25 (m_w32 ((m_rd h 334 25) - 1))) := LR.wf (k := 25) hL (o_334 hL) rfl
    have hK := hK.tr (KD.wr : KD h (m_wr h 334 25 (m_w32 ((m_rd h 334 25) - 1))))
    refine RK.of (RN.blk (ops := [(19, .iconst 0), (20, .istore_n 1)]) (pc' := 21) (lv' := [(1, .inl 0), (0, .inr (.inr 334))]) (st' := []) (h' := (m_wr h 334 25 (m_w32 ((m_rd h 334 25) - 1)))) (cs := []) (by decide +kernel) rfl trivial) ?_
    refine RK.sub (DX12_undo_L21 hK ?_ _ _ _ hL KD.rf hF) (sub_cons rfl (sub_cons rfl sub_nil))
    · intro h1 hL hq hF
      have hK := hK.tr hq
      refine RK.of (RN.blk (ops := [(56, .aload_n 0), (57, .getfield 277)]) (pc' := 60) (lv' := [(0, .inr (.inr 334))]) (st' := [.inl (m_rd h1 334 25)]) (h' := h1) (cs := [GK h1 334 12]) (by decide +kernel) rfl ⟨(o_334 hL).gk, trivial⟩) ?_
      exact RK.iR (by decide +kernel) rfl hL hK hF
noncomputable def GX12_turn (h : MH) : Option (Int × MH) :=
  (bd (GX12_isFrame h) (fun x2 h1 =>
   (if x2 = 0 then
    some ((-1), h1)
   else
    (if (m_rd h1 344 10) = 999 then
     some ((-1), h1)
    else
     (bv (GX12_keepsAct h1) (fun h3 =>
      (bd (GX12_passes h3) (fun x5 h4 =>
       (if x5 < 0 then
        some ((-2), h4)
       else
        some (x5, h4))))))))))
theorem DX12_turn {d : Nat} {h : MH} {r : Int × MH} (hL : LR h) (hF : GX12_turn h = some r) : RN xs L iX12_turn (d + 7) 0 (lvE 0 [.inr (.inr 334)]) [] h (RIo r) ∧ LR r.2 ∧ KD h r.2 := by
  unfold GX12_turn at hF
  have hK : KD h h := KD.rf
  show RK xs L iX12_turn (d + 7) 0 (lvE 0 [.inr (.inr 334)]) [] h (RIo r) h r.2
  refine RK.of (RN.blk (ops := [(0, .aload_n 0)]) (pc' := 1) (lv' := [(0, .inr (.inr 334))]) (st' := [.inr (.inr 334)]) (h' := h) (cs := []) (by decide +kernel) rfl trivial) ?_
  obtain ⟨x2, h1, hG, hF⟩ := bd_of hF
  have hq := rcv_ok (as := []) (TO.gk (o_334 hL))
  obtain ⟨hN, hL, hQ⟩ := DX12_isFrame (d := d + 6) hL  hG
  refine RK.of (RN.cv (i := 295) (k := 202) (q2 := iX12_isFrame) (as := [.inr (.inr 334)]) (r := []) (v := some (.inl x2)) (h1 := h1) (by decide +kernel) rfl rfl rfl rfl rfl hq hN) ?_
  have hK := hK.tr hQ
  rcases it_of hF with ⟨hb, hF⟩ | ⟨hb, hF⟩
  · refine RK.of (RN.ift (cd := .eq) (off := 16) (tgt := 20) (by decide +kernel) (mif_eq hb)) ?_
    refine RK.of (RN.blk (ops := [(20, .iconst (-1))]) (pc' := 21) (lv' := [(0, .inr (.inr 334))]) (st' := [.inl (-1)]) (h' := h1) (cs := []) (by decide +kernel) rfl trivial) ?_
    exact RK.iR (by decide +kernel) rfl hL hK hF
  · refine RK.of (RN.iff (cd := .eq) (off := 16) (tgt := 20) (by decide +kernel) (mif_eqn hb)) ?_
    refine RK.of (RN.blk (ops := [(7, .aload_n 0)]) (pc' := 8) (lv' := [(0, .inr (.inr 334))]) (st' := [.inr (.inr 334)]) (h' := h1) (cs := []) (by decide +kernel) rfl trivial) ?_
    refine RK.of (RN.gr (i := 39) (ci := 12) (k := 20) (fn := true) (v := 344) (by decide +kernel) rfl (TO.gk (o_334 hL)) (hL.fa (v := 344) 20 1 167 (o_334 hL) rfl (by decide) rfl (by decide)).1) ?_
    refine RK.of (RN.blk (ops := [(11, .bipush 10), (13, .iaload), (14, .sipush 999)]) (pc' := 17) (lv' := [(0, .inr (.inr 334))]) (st' := [.inl 999, .inl (m_rd h1 344 10)]) (h' := h1) (cs := [GI h1 344 1 10]) (by decide +kernel) rfl ⟨(a_344 hL).gi (by decide) (by decide), trivial⟩) ?_
    rcases it_of hF with ⟨hb, hF⟩ | ⟨hb, hF⟩
    · refine RK.of (RN.icf (cd := .ne) (off := 5) (tgt := 22) (by decide +kernel) (mif_nen hb)) ?_
      refine RK.of (RN.blk (ops := [(20, .iconst (-1))]) (pc' := 21) (lv' := [(0, .inr (.inr 334))]) (st' := [.inl (-1)]) (h' := h1) (cs := []) (by decide +kernel) rfl trivial) ?_
      exact RK.iR (by decide +kernel) rfl hL hK hF
    · refine RK.of (RN.ict (cd := .ne) (off := 5) (tgt := 22) (by decide +kernel) (mif_ne hb)) ?_
      refine RK.of (RN.blk (ops := [(22, .aload_n 0)]) (pc' := 23) (lv' := [(0, .inr (.inr 334))]) (st' := [.inr (.inr 334)]) (h' := h1) (cs := []) (by decide +kernel) rfl trivial) ?_
      obtain ⟨h3, hG, hF⟩ := bv_of hF
      have hq := rcv_ok (as := []) (TO.gk (o_334 hL))
      obtain ⟨hN, hL, hQ⟩ := DX12_keepsAct (d := d + 6) hL  hG
      refine RK.of (RN.cv (i := 353) (k := 224) (q2 := iX12_keepsAct) (as := [.inr (.inr 334)]) (r := []) (v := none) (h1 := h3) (by decide +kernel) rfl rfl rfl rfl rfl hq hN) ?_
      have hK := hK.tr hQ
      refine RK.of (RN.blk (ops := [(26, .aload_n 0)]) (pc' := 27) (lv' := [(0, .inr (.inr 334))]) (st' := [.inr (.inr 334)]) (h' := h3) (cs := []) (by decide +kernel) rfl trivial) ?_
      obtain ⟨x5, h4, hG, hF⟩ := bd_of hF
      have hq := rcv_ok (as := []) (TO.gk (o_334 hL))
      obtain ⟨hN, hL, hQ⟩ := DX12_passes (d := d) hL  hG
      refine RK.of (RN.cv (i := 350) (k := 222) (q2 := iX12_passes) (as := [.inr (.inr 334)]) (r := []) (v := some (.inl x5)) (h1 := h4) (by decide +kernel) rfl rfl rfl rfl rfl hq hN) ?_
      have hK := hK.tr hQ
      refine RK.of (RN.blk (ops := [(30, .istore_n 1), (31, .iload_n 1)]) (pc' := 32) (lv' := [(1, .inl x5), (0, .inr (.inr 334))]) (st' := [.inl x5]) (h' := h4) (cs := []) (by decide +kernel) rfl trivial) ?_
      rcases it_of hF with ⟨hb, hF⟩ | ⟨hb, hF⟩
      · refine RK.of (RN.iff (cd := .ge) (off := 8) (tgt := 40) (by decide +kernel) (mif_gen hb)) ?_
        refine RK.of (RN.blk (ops := [(35, .bipush (-2))]) (pc' := 37) (lv' := [(1, .inl x5), (0, .inr (.inr 334))]) (st' := [.inl (-2)]) (h' := h4) (cs := []) (by decide +kernel) rfl trivial) ?_
        refine RK.of (RN.goto (off := 4) (tgt := 41) (by decide +kernel)) ?_
        exact RK.iR (by decide +kernel) rfl hL hK hF
      · refine RK.of (RN.ift (cd := .ge) (off := 8) (tgt := 40) (by decide +kernel) (mif_ge hb)) ?_
        refine RK.of (RN.blk (ops := [(40, .iload_n 1)]) (pc' := 41) (lv' := [(1, .inl x5), (0, .inr (.inr 334))]) (st' := [.inl x5]) (h' := h4) (cs := []) (by decide +kernel) rfl trivial) ?_
        exact RK.iR (by decide +kernel) rfl hL hK hF
noncomputable def GX12_comes (a1 : Int) (h : MH) : Option (MH) :=
  (if (m_rd h 344 12) = 20 then
   some h
  else
   gd [IB (m_w32 (26 + (m_rd h 344 12))) 167] (
    some (m_wr (m_wr h 344 (m_w32 (26 + (m_rd h 344 12))) a1) 344 12 (m_w32 ((m_rd (m_wr h 344 (m_w32 (26 + (m_rd h 344 12))) a1) 344 12) + 1)))))
theorem DX12_comes {d : Nat} {a1 : Int} {h : MH} {r : MH} (hL : LR h) (hF : GX12_comes a1 h = some r) : RN xs L iX12_comes (d) 0 (lvE 0 [.inr (.inr 334), .inl a1]) [] h (RVo r) ∧ LR r ∧ KD h r := by
  unfold GX12_comes at hF
  have hK : KD h h := KD.rf
  show RK xs L iX12_comes (d) 0 (lvE 0 [.inr (.inr 334), .inl a1]) [] h (RVo r) h r
  refine RK.of (RN.blk (ops := [(0, .aload_n 0)]) (pc' := 1) (lv' := [(0, .inr (.inr 334)), (1, .inl a1)]) (st' := [.inr (.inr 334)]) (h' := h) (cs := []) (by decide +kernel) rfl trivial) ?_
  refine RK.of (RN.gr (i := 39) (ci := 12) (k := 20) (fn := true) (v := 344) (by decide +kernel) rfl (TO.gk (o_334 hL)) (hL.fa (v := 344) 20 1 167 (o_334 hL) rfl (by decide) rfl (by decide)).1) ?_
  refine RK.of (RN.blk (ops := [(4, .bipush 12), (6, .iaload), (7, .bipush 20)]) (pc' := 9) (lv' := [(0, .inr (.inr 334)), (1, .inl a1)]) (st' := [.inl 20, .inl (m_rd h 344 12)]) (h' := h) (cs := [GI h 344 1 12]) (by decide +kernel) rfl ⟨(a_344 hL).gi (by decide) (by decide), trivial⟩) ?_
  rcases it_of hF with ⟨hb, hF⟩ | ⟨hb, hF⟩
  · refine RK.of (RN.icf (cd := .ne) (off := 4) (tgt := 13) (by decide +kernel) (mif_nen hb)) ?_
    exact RK.vR (by decide +kernel) rfl hL hK hF
  · refine RK.of (RN.ict (cd := .ne) (off := 4) (tgt := 13) (by decide +kernel) (mif_ne hb)) ?_
    refine RK.of (RN.blk (ops := [(13, .aload_n 0)]) (pc' := 14) (lv' := [(0, .inr (.inr 334)), (1, .inl a1)]) (st' := [.inr (.inr 334)]) (h' := h) (cs := []) (by decide +kernel) rfl trivial) ?_
    refine RK.of (RN.gr (i := 39) (ci := 12) (k := 20) (fn := true) (v := 344) (by decide +kernel) rfl (TO.gk (o_334 hL)) (hL.fa (v := 344) 20 1 167 (o_334 hL) rfl (by decide) rfl (by decide)).1) ?_
    refine RK.of (RN.blk (ops := [(17, .bipush 26), (19, .aload_n 0)]) (pc' := 20) (lv' := [(0, .inr (.inr 334)), (1, .inl a1)]) (st' := [.inr (.inr 334), .inl 26, .inr (.inr 344)]) (h' := h) (cs := []) (by decide +kernel) rfl trivial) ?_
    refine RK.of (RN.gr (i := 39) (ci := 12) (k := 20) (fn := true) (v := 344) (by decide +kernel) rfl (TO.gk (o_334 hL)) (hL.fa (v := 344) 20 1 167 (o_334 hL) rfl (by decide) rfl (by decide)).1) ?_
    obtain ⟨hc, hF⟩ := gd_of hF
    refine RK.of (RN.blk (ops := [(23, .bipush 12), (25, .iaload), (26, .iadd), (27, .iload_n 1), (28, .iastore)]) (pc' := 29) (lv' := [(0, .inr (.inr 334)), (1, .inl a1)]) (st' := []) (h' := (m_wr h 344 (m_w32 (26 + (m_rd h 344 12))) a1)) (cs := [GI h 344 1 12, GI h 344 1 (m_w32 (26 + (m_rd h 344 12)))]) (by decide +kernel) rfl ⟨(a_344 hL).gi (by decide) (by decide), (a_344 hL).gi hc.1.1 hc.1.2, trivial⟩) ?_
    have hL : LR (m_wr h 344 (m_w32 (26 + (m_rd h 344 12))) a1) := hL.wa (TA.le5 (a_344 hL) (by decide))
    have hK := hK.tr (KD.wr : KD h (m_wr h 344 (m_w32 (26 + (m_rd h 344 12))) a1))
    refine RK.of (RN.blk (ops := [(29, .aload_n 0)]) (pc' := 30) (lv' := [(0, .inr (.inr 334)), (1, .inl a1)]) (st' := [.inr (.inr 334)]) (h' := (m_wr h 344 (m_w32 (26 + (m_rd h 344 12))) a1)) (cs := []) (by decide +kernel) rfl trivial) ?_
    refine RK.of (RN.gr (i := 39) (ci := 12) (k := 20) (fn := true) (v := 344) (by decide +kernel) rfl (TO.gk (o_334 hL)) (hL.fa (v := 344) 20 1 167 (o_334 hL) rfl (by decide) rfl (by decide)).1) ?_
    refine RK.of (RN.blk (ops := [(33, .bipush 12), (35, .dup2), (36, .iaload), (37, .iconst 1), (38, .iadd), (39, .iastore)]) (pc' := 40) (lv' := [(0, .inr (.inr 334)), (1, .inl a1)]) (st' := []) (h' := (m_wr (m_wr h 344 (m_w32 (26 + (m_rd h 344 12))) a1) 344 12 (m_w32 ((m_rd (m_wr h 344 (m_w32 (26 + (m_rd h 344 12))) a1) 344 12) + 1)))) (cs := [GI (m_wr h 344 (m_w32 (26 + (m_rd h 344 12))) a1) 344 1 12, GI (m_wr h 344 (m_w32 (26 + (m_rd h 344 12))) a1) 344 1 12]) (by decide +kernel) rfl ⟨(a_344 hL).gi (by decide) (by decide), (a_344 hL).gi (by decide) (by decide), trivial⟩) ?_
    have hL : LR (m_wr (m_wr h 344 (m_w32 (26 + (m_rd h 344 12))) a1) 344 12 (m_w32 ((m_rd (m_wr h 344 (m_w32 (26 + (m_rd h 344 12))) a1) 344 12) + 1))) := hL.wa (TA.le5 (a_344 hL) (by decide))
    have hK := hK.tr (KD.wr : KD (m_wr h 344 (m_w32 (26 + (m_rd h 344 12))) a1) (m_wr (m_wr h 344 (m_w32 (26 + (m_rd h 344 12))) a1) 344 12 (m_w32 ((m_rd (m_wr h 344 (m_w32 (26 + (m_rd h 344 12))) a1) 344 12) + 1))))
    exact RK.vR (by decide +kernel) rfl hL hK hF
noncomputable def GX12_post (a1 : Int) (h : MH) : Option (Int × MH) :=
  (bd (GX12_isCode a1 h) (fun x2 h1 =>
   (if x2 = 0 then
    some ((-1), h1)
   else
    (if (m_rd h1 344 12) = 20 then
     some ((-1), h1)
    else
     (bv (GX12_keepsAct h1) (fun h3 =>
      (bv (GX12_comes a1 h3) (fun h4 =>
       some ((m_rd h4 344 12), h4)))))))))
theorem DX12_post {d : Nat} {a1 : Int} {h : MH} {r : Int × MH} (hL : LR h) (hF : GX12_post a1 h = some r) : RN xs L iX12_post (d + 3) 0 (lvE 0 [.inr (.inr 334), .inl a1]) [] h (RIo r) ∧ LR r.2 ∧ KD h r.2 := by
  unfold GX12_post at hF
  have hK : KD h h := KD.rf
  show RK xs L iX12_post (d + 3) 0 (lvE 0 [.inr (.inr 334), .inl a1]) [] h (RIo r) h r.2
  refine RK.of (RN.blk (ops := [(0, .aload_n 0), (1, .iload_n 1)]) (pc' := 2) (lv' := [(0, .inr (.inr 334)), (1, .inl a1)]) (st' := [.inl a1, .inr (.inr 334)]) (h' := h) (cs := []) (by decide +kernel) rfl trivial) ?_
  obtain ⟨x2, h1, hG, hF⟩ := bd_of hF
  have hq := rcv_ok (as := [.inl a1]) (TO.gk (o_334 hL))
  obtain ⟨hN, hL, hQ⟩ := DX12_isCode (d := d) hL  hG
  refine RK.of (RN.cv (i := 356) (k := 206) (q2 := iX12_isCode) (as := [.inr (.inr 334), .inl a1]) (r := []) (v := some (.inl x2)) (h1 := h1) (by decide +kernel) rfl rfl rfl rfl rfl hq hN) ?_
  have hK := hK.tr hQ
  rcases it_of hF with ⟨hb, hF⟩ | ⟨hb, hF⟩
  · refine RK.of (RN.ift (cd := .eq) (off := 15) (tgt := 20) (by decide +kernel) (mif_eq hb)) ?_
    refine RK.of (RN.blk (ops := [(20, .iconst (-1))]) (pc' := 21) (lv' := [(0, .inr (.inr 334)), (1, .inl a1)]) (st' := [.inl (-1)]) (h' := h1) (cs := []) (by decide +kernel) rfl trivial) ?_
    exact RK.iR (by decide +kernel) rfl hL hK hF
  · refine RK.of (RN.iff (cd := .eq) (off := 15) (tgt := 20) (by decide +kernel) (mif_eqn hb)) ?_
    refine RK.of (RN.blk (ops := [(8, .aload_n 0)]) (pc' := 9) (lv' := [(0, .inr (.inr 334)), (1, .inl a1)]) (st' := [.inr (.inr 334)]) (h' := h1) (cs := []) (by decide +kernel) rfl trivial) ?_
    refine RK.of (RN.gr (i := 39) (ci := 12) (k := 20) (fn := true) (v := 344) (by decide +kernel) rfl (TO.gk (o_334 hL)) (hL.fa (v := 344) 20 1 167 (o_334 hL) rfl (by decide) rfl (by decide)).1) ?_
    refine RK.of (RN.blk (ops := [(12, .bipush 12), (14, .iaload), (15, .bipush 20)]) (pc' := 17) (lv' := [(0, .inr (.inr 334)), (1, .inl a1)]) (st' := [.inl 20, .inl (m_rd h1 344 12)]) (h' := h1) (cs := [GI h1 344 1 12]) (by decide +kernel) rfl ⟨(a_344 hL).gi (by decide) (by decide), trivial⟩) ?_
    rcases it_of hF with ⟨hb, hF⟩ | ⟨hb, hF⟩
    · refine RK.of (RN.icf (cd := .ne) (off := 5) (tgt := 22) (by decide +kernel) (mif_nen hb)) ?_
      refine RK.of (RN.blk (ops := [(20, .iconst (-1))]) (pc' := 21) (lv' := [(0, .inr (.inr 334)), (1, .inl a1)]) (st' := [.inl (-1)]) (h' := h1) (cs := []) (by decide +kernel) rfl trivial) ?_
      exact RK.iR (by decide +kernel) rfl hL hK hF
    · refine RK.of (RN.ict (cd := .ne) (off := 5) (tgt := 22) (by decide +kernel) (mif_ne hb)) ?_
      refine RK.of (RN.blk (ops := [(22, .aload_n 0)]) (pc' := 23) (lv' := [(0, .inr (.inr 334)), (1, .inl a1)]) (st' := [.inr (.inr 334)]) (h' := h1) (cs := []) (by decide +kernel) rfl trivial) ?_
      obtain ⟨h3, hG, hF⟩ := bv_of hF
      have hq := rcv_ok (as := []) (TO.gk (o_334 hL))
      obtain ⟨hN, hL, hQ⟩ := DX12_keepsAct (d := d + 2) hL  hG
      refine RK.of (RN.cv (i := 353) (k := 224) (q2 := iX12_keepsAct) (as := [.inr (.inr 334)]) (r := []) (v := none) (h1 := h3) (by decide +kernel) rfl rfl rfl rfl rfl hq hN) ?_
      have hK := hK.tr hQ
      refine RK.of (RN.blk (ops := [(26, .aload_n 0), (27, .iload_n 1)]) (pc' := 28) (lv' := [(0, .inr (.inr 334)), (1, .inl a1)]) (st' := [.inl a1, .inr (.inr 334)]) (h' := h3) (cs := []) (by decide +kernel) rfl trivial) ?_
      obtain ⟨h4, hG, hF⟩ := bv_of hF
      have hq := rcv_ok (as := [.inl a1]) (TO.gk (o_334 hL))
      obtain ⟨hN, hL, hQ⟩ := DX12_comes (d := d + 2) hL  hG
      refine RK.of (RN.cv (i := 359) (k := 227) (q2 := iX12_comes) (as := [.inr (.inr 334), .inl a1]) (r := []) (v := none) (h1 := h4) (by decide +kernel) rfl rfl rfl rfl rfl hq hN) ?_
      have hK := hK.tr hQ
      refine RK.of (RN.blk (ops := [(31, .aload_n 0)]) (pc' := 32) (lv' := [(0, .inr (.inr 334)), (1, .inl a1)]) (st' := [.inr (.inr 334)]) (h' := h4) (cs := []) (by decide +kernel) rfl trivial) ?_
      refine RK.of (RN.gr (i := 39) (ci := 12) (k := 20) (fn := true) (v := 344) (by decide +kernel) rfl (TO.gk (o_334 hL)) (hL.fa (v := 344) 20 1 167 (o_334 hL) rfl (by decide) rfl (by decide)).1) ?_
      refine RK.of (RN.blk (ops := [(35, .bipush 12), (37, .iaload)]) (pc' := 38) (lv' := [(0, .inr (.inr 334)), (1, .inl a1)]) (st' := [.inl (m_rd h4 344 12)]) (h' := h4) (cs := [GI h4 344 1 12]) (by decide +kernel) rfl ⟨(a_344 hL).gi (by decide) (by decide), trivial⟩) ?_
      exact RK.iR (by decide +kernel) rfl hL hK hF
noncomputable def GX12_tie (a1 : Int) (h : MH) : Option (Int × MH) :=
  (bd (GX12_isHole a1 h) (fun x2 h1 =>
   (if x2 = 0 then
    some ((-1), h1)
   else
    gd [IB (m_w32 (14 + a1)) 167] (
     (if (m_rd h1 344 (m_w32 (14 + a1))) = 0 then
      some ((-1), h1)
     else
      (bv (GX12_keepsAct h1) (fun h3 =>
       gd [IB (m_w32 (14 + a1)) 167] (
        (bv (GX12_ties a1 h3) (fun h4 =>
         some ((m_rd h3 344 (m_w32 (14 + a1))), h4)))))))))))
theorem DX12_tie {d : Nat} {a1 : Int} {h : MH} {r : Int × MH} (hL : LR h) (hF : GX12_tie a1 h = some r) : RN xs L iX12_tie (d + 1) 0 (lvE 0 [.inr (.inr 334), .inl a1]) [] h (RIo r) ∧ LR r.2 ∧ KD h r.2 := by
  unfold GX12_tie at hF
  have hK : KD h h := KD.rf
  show RK xs L iX12_tie (d + 1) 0 (lvE 0 [.inr (.inr 334), .inl a1]) [] h (RIo r) h r.2
  refine RK.of (RN.blk (ops := [(0, .aload_n 0), (1, .iload_n 1)]) (pc' := 2) (lv' := [(0, .inr (.inr 334)), (1, .inl a1)]) (st' := [.inl a1, .inr (.inr 334)]) (h' := h) (cs := []) (by decide +kernel) rfl trivial) ?_
  obtain ⟨x2, h1, hG, hF⟩ := bd_of hF
  have hq := rcv_ok (as := [.inl a1]) (TO.gk (o_334 hL))
  obtain ⟨hN, hL, hQ⟩ := DX12_isHole (d := d) hL  hG
  refine RK.of (RN.cv (i := 310) (k := 204) (q2 := iX12_isHole) (as := [.inr (.inr 334), .inl a1]) (r := []) (v := some (.inl x2)) (h1 := h1) (by decide +kernel) rfl rfl rfl rfl rfl hq hN) ?_
  have hK := hK.tr hQ
  rcases it_of hF with ⟨hb, hF⟩ | ⟨hb, hF⟩
  · refine RK.of (RN.ift (cd := .eq) (off := 15) (tgt := 20) (by decide +kernel) (mif_eq hb)) ?_
    refine RK.of (RN.blk (ops := [(20, .iconst (-1))]) (pc' := 21) (lv' := [(0, .inr (.inr 334)), (1, .inl a1)]) (st' := [.inl (-1)]) (h' := h1) (cs := []) (by decide +kernel) rfl trivial) ?_
    exact RK.iR (by decide +kernel) rfl hL hK hF
  · refine RK.of (RN.iff (cd := .eq) (off := 15) (tgt := 20) (by decide +kernel) (mif_eqn hb)) ?_
    refine RK.of (RN.blk (ops := [(8, .aload_n 0)]) (pc' := 9) (lv' := [(0, .inr (.inr 334)), (1, .inl a1)]) (st' := [.inr (.inr 334)]) (h' := h1) (cs := []) (by decide +kernel) rfl trivial) ?_
    refine RK.of (RN.gr (i := 39) (ci := 12) (k := 20) (fn := true) (v := 344) (by decide +kernel) rfl (TO.gk (o_334 hL)) (hL.fa (v := 344) 20 1 167 (o_334 hL) rfl (by decide) rfl (by decide)).1) ?_
    obtain ⟨hc, hF⟩ := gd_of hF
    refine RK.of (RN.blk (ops := [(12, .bipush 14), (14, .iload_n 1), (15, .iadd), (16, .iaload)]) (pc' := 17) (lv' := [(0, .inr (.inr 334)), (1, .inl a1)]) (st' := [.inl (m_rd h1 344 (m_w32 (14 + a1)))]) (h' := h1) (cs := [GI h1 344 1 (m_w32 (14 + a1))]) (by decide +kernel) rfl ⟨(a_344 hL).gi hc.1.1 hc.1.2, trivial⟩) ?_
    rcases it_of hF with ⟨hb, hF⟩ | ⟨hb, hF⟩
    · refine RK.of (RN.iff (cd := .ne) (off := 5) (tgt := 22) (by decide +kernel) (mif_nen hb)) ?_
      refine RK.of (RN.blk (ops := [(20, .iconst (-1))]) (pc' := 21) (lv' := [(0, .inr (.inr 334)), (1, .inl a1)]) (st' := [.inl (-1)]) (h' := h1) (cs := []) (by decide +kernel) rfl trivial) ?_
      exact RK.iR (by decide +kernel) rfl hL hK hF
    · refine RK.of (RN.ift (cd := .ne) (off := 5) (tgt := 22) (by decide +kernel) (mif_ne hb)) ?_
      refine RK.of (RN.blk (ops := [(22, .aload_n 0)]) (pc' := 23) (lv' := [(0, .inr (.inr 334)), (1, .inl a1)]) (st' := [.inr (.inr 334)]) (h' := h1) (cs := []) (by decide +kernel) rfl trivial) ?_
      obtain ⟨h3, hG, hF⟩ := bv_of hF
      have hq := rcv_ok (as := []) (TO.gk (o_334 hL))
      obtain ⟨hN, hL, hQ⟩ := DX12_keepsAct (d := d) hL  hG
      refine RK.of (RN.cv (i := 353) (k := 224) (q2 := iX12_keepsAct) (as := [.inr (.inr 334)]) (r := []) (v := none) (h1 := h3) (by decide +kernel) rfl rfl rfl rfl rfl hq hN) ?_
      have hK := hK.tr hQ
      refine RK.of (RN.blk (ops := [(26, .aload_n 0)]) (pc' := 27) (lv' := [(0, .inr (.inr 334)), (1, .inl a1)]) (st' := [.inr (.inr 334)]) (h' := h3) (cs := []) (by decide +kernel) rfl trivial) ?_
      refine RK.of (RN.gr (i := 39) (ci := 12) (k := 20) (fn := true) (v := 344) (by decide +kernel) rfl (TO.gk (o_334 hL)) (hL.fa (v := 344) 20 1 167 (o_334 hL) rfl (by decide) rfl (by decide)).1) ?_
      obtain ⟨hc, hF⟩ := gd_of hF
      refine RK.of (RN.blk (ops := [(30, .bipush 14), (32, .iload_n 1), (33, .iadd), (34, .iaload), (35, .istore_n 2), (36, .aload_n 0), (37, .iload_n 1)]) (pc' := 38) (lv' := [(2, .inl (m_rd h3 344 (m_w32 (14 + a1)))), (0, .inr (.inr 334)), (1, .inl a1)]) (st' := [.inl a1, .inr (.inr 334)]) (h' := h3) (cs := [GI h3 344 1 (m_w32 (14 + a1))]) (by decide +kernel) rfl ⟨(a_344 hL).gi hc.1.1 hc.1.2, trivial⟩) ?_
      obtain ⟨h4, hG, hF⟩ := bv_of hF
      have hq := rcv_ok (as := [.inl a1]) (TO.gk (o_334 hL))
      obtain ⟨hN, hL, hQ⟩ := DX12_ties (d := d) hL  hG
      refine RK.of (RN.cv (i := 338) (k := 219) (q2 := iX12_ties) (as := [.inr (.inr 334), .inl a1]) (r := []) (v := none) (h1 := h4) (by decide +kernel) rfl rfl rfl rfl rfl hq hN) ?_
      have hK := hK.tr hQ
      refine RK.of (RN.blk (ops := [(41, .iload_n 2)]) (pc' := 42) (lv' := [(2, .inl (m_rd h3 344 (m_w32 (14 + a1)))), (0, .inr (.inr 334)), (1, .inl a1)]) (st' := [.inl (m_rd h3 344 (m_w32 (14 + a1)))]) (h' := h4) (cs := []) (by decide +kernel) rfl trivial) ?_
      exact RK.iR (by decide +kernel) rfl hL hK hF
noncomputable def GX12_numberOf_L2 (u1 : Int) (u2 : Int) (K0 : Int → MH → Option (Int × MH)) : Nat → Int → MH → Option (Int × MH)
  | 0, _, _ => none
  | f + 1, v3, h =>
    (if v3 < (m_rd h 344 13) then
     gd [IB (m_w32 (46 + (m_w32 (3 * v3)))) 167] (
      (if (m_rd h 344 (m_w32 (46 + (m_w32 (3 * v3))))) = u1 then
       gd [IB (m_w32 ((m_w32 (46 + (m_w32 (3 * v3)))) + 1)) 167] (
        (if (m_rd h 344 (m_w32 ((m_w32 (46 + (m_w32 (3 * v3)))) + 1))) = u2 then
         K0 v3 h
        else
         GX12_numberOf_L2 u1 u2 K0 f (m_w32 (v3 + 1)) h))
      else
       GX12_numberOf_L2 u1 u2 K0 f (m_w32 (v3 + 1)) h))
    else
     K0 v3 h)
theorem DX12_numberOf_L2 {d : Nat} {u1 : Int} {u2 : Int} {K0 : Int → MH → Option (Int × MH)} {r : Int × MH} {h0 hB : MH} (hB0 : KD h0 hB) (hK0 : ∀ (w3 : Int) (h : MH), LR h → KD hB h → K0 w3 h = some r → RK xs L iX12_numberOf (d) 51 [(3, .inl w3)] [] h (RIo r) h0 r.2) : ∀ (f : Nat) (v3 : Int) (h : MH), LR h → KD hB h → GX12_numberOf_L2 u1 u2 K0 f v3 h = some r → RK xs L iX12_numberOf (d) 2 [(0, .inr (.inr 334)), (1, .inl u1), (2, .inl u2), (3, .inl v3)] [] h (RIo r) h0 r.2 := by
  intro f
  induction f with
  | zero =>
    intro v3 h hL hJ hF
    cases hF
  | succ f ih =>
    intro v3 h hL hJ hF
    unfold GX12_numberOf_L2 at hF
    have hK := hB0.tr hJ
    refine RK.of (RN.blk (ops := [(2, .iload_n 3), (3, .aload_n 0)]) (pc' := 4) (lv' := [(0, .inr (.inr 334)), (1, .inl u1), (2, .inl u2), (3, .inl v3)]) (st' := [.inr (.inr 334), .inl v3]) (h' := h) (cs := []) (by decide +kernel) rfl trivial) ?_
    refine RK.of (RN.gr (i := 39) (ci := 12) (k := 20) (fn := true) (v := 344) (by decide +kernel) rfl (TO.gk (o_334 hL)) (hL.fa (v := 344) 20 1 167 (o_334 hL) rfl (by decide) rfl (by decide)).1) ?_
    refine RK.of (RN.blk (ops := [(7, .bipush 13), (9, .iaload)]) (pc' := 10) (lv' := [(0, .inr (.inr 334)), (1, .inl u1), (2, .inl u2), (3, .inl v3)]) (st' := [.inl (m_rd h 344 13), .inl v3]) (h' := h) (cs := [GI h 344 1 13]) (by decide +kernel) rfl ⟨(a_344 hL).gi (by decide) (by decide), trivial⟩) ?_
    rcases it_of hF with ⟨hb, hF⟩ | ⟨hb, hF⟩
    · refine RK.of (RN.icf (cd := .ge) (off := 41) (tgt := 51) (by decide +kernel) (mif_gen hb)) ?_
      refine RK.of (RN.blk (ops := [(13, .aload_n 0)]) (pc' := 14) (lv' := [(0, .inr (.inr 334)), (1, .inl u1), (2, .inl u2), (3, .inl v3)]) (st' := [.inr (.inr 334)]) (h' := h) (cs := []) (by decide +kernel) rfl trivial) ?_
      refine RK.of (RN.gr (i := 39) (ci := 12) (k := 20) (fn := true) (v := 344) (by decide +kernel) rfl (TO.gk (o_334 hL)) (hL.fa (v := 344) 20 1 167 (o_334 hL) rfl (by decide) rfl (by decide)).1) ?_
      obtain ⟨hc, hF⟩ := gd_of hF
      refine RK.of (RN.blk (ops := [(17, .bipush 46), (19, .iconst 3), (20, .iload_n 3), (21, .imul), (22, .iadd), (23, .iaload), (24, .iload_n 1)]) (pc' := 25) (lv' := [(0, .inr (.inr 334)), (1, .inl u1), (2, .inl u2), (3, .inl v3)]) (st' := [.inl u1, .inl (m_rd h 344 (m_w32 (46 + (m_w32 (3 * v3)))))]) (h' := h) (cs := [GI h 344 1 (m_w32 (46 + (m_w32 (3 * v3))))]) (by decide +kernel) rfl ⟨(a_344 hL).gi hc.1.1 hc.1.2, trivial⟩) ?_
      rcases it_of hF with ⟨hb, hF⟩ | ⟨hb, hF⟩
      · refine RK.of (RN.icf (cd := .ne) (off := 20) (tgt := 45) (by decide +kernel) (mif_nen hb)) ?_
        refine RK.of (RN.blk (ops := [(28, .aload_n 0)]) (pc' := 29) (lv' := [(0, .inr (.inr 334)), (1, .inl u1), (2, .inl u2), (3, .inl v3)]) (st' := [.inr (.inr 334)]) (h' := h) (cs := []) (by decide +kernel) rfl trivial) ?_
        refine RK.of (RN.gr (i := 39) (ci := 12) (k := 20) (fn := true) (v := 344) (by decide +kernel) rfl (TO.gk (o_334 hL)) (hL.fa (v := 344) 20 1 167 (o_334 hL) rfl (by decide) rfl (by decide)).1) ?_
        obtain ⟨hc, hF⟩ := gd_of hF
        refine RK.of (RN.blk (ops := [(32, .bipush 46), (34, .iconst 3), (35, .iload_n 3), (36, .imul), (37, .iadd), (38, .iconst 1), (39, .iadd), (40, .iaload), (41, .iload_n 2)]) (pc' := 42) (lv' := [(0, .inr (.inr 334)), (1, .inl u1), (2, .inl u2), (3, .inl v3)]) (st' := [.inl u2, .inl (m_rd h 344 (m_w32 ((m_w32 (46 + (m_w32 (3 * v3)))) + 1)))]) (h' := h) (cs := [GI h 344 1 (m_w32 ((m_w32 (46 + (m_w32 (3 * v3)))) + 1))]) (by decide +kernel) rfl ⟨(a_344 hL).gi hc.1.1 hc.1.2, trivial⟩) ?_
        rcases it_of hF with ⟨hb, hF⟩ | ⟨hb, hF⟩
        · refine RK.of (RN.ict (cd := .eq) (off := 9) (tgt := 51) (by decide +kernel) (mif_eq hb)) ?_
          exact RK.sub (hK0 _ _ hL hJ hF) (sub_cons rfl sub_nil)
        · refine RK.of (RN.icf (cd := .eq) (off := 9) (tgt := 51) (by decide +kernel) (mif_eqn hb)) ?_
          refine RK.of (RN.blk (ops := [(45, .iinc 3 1)]) (pc' := 48) (lv' := [(3, .inl (m_w32 (v3 + 1))), (0, .inr (.inr 334)), (1, .inl u1), (2, .inl u2)]) (st' := []) (h' := h) (cs := []) (by decide +kernel) rfl trivial) ?_
          refine RK.of (RN.goto (off := -46) (tgt := 2) (by decide +kernel)) ?_
          exact RK.sub (ih _ _ hL hJ hF) (sub_cons rfl (sub_cons rfl (sub_cons rfl (sub_cons rfl sub_nil))))
      · refine RK.of (RN.ict (cd := .ne) (off := 20) (tgt := 45) (by decide +kernel) (mif_ne hb)) ?_
        refine RK.of (RN.blk (ops := [(45, .iinc 3 1)]) (pc' := 48) (lv' := [(3, .inl (m_w32 (v3 + 1))), (0, .inr (.inr 334)), (1, .inl u1), (2, .inl u2)]) (st' := []) (h' := h) (cs := []) (by decide +kernel) rfl trivial) ?_
        refine RK.of (RN.goto (off := -46) (tgt := 2) (by decide +kernel)) ?_
        exact RK.sub (ih _ _ hL hJ hF) (sub_cons rfl (sub_cons rfl (sub_cons rfl (sub_cons rfl sub_nil))))
    · refine RK.of (RN.ict (cd := .ge) (off := 41) (tgt := 51) (by decide +kernel) (mif_ge hb)) ?_
      exact RK.sub (hK0 _ _ hL hJ hF) (sub_cons rfl sub_nil)
noncomputable def GX12_numberOf (a1 : Int) (a2 : Int) (h : MH) : Option (Int × MH) :=
  GX12_numberOf_L2 a1 a2 (fun w1 h2 =>
   some (w1, h2)) FU 0 h
theorem DX12_numberOf {d : Nat} {a1 : Int} {a2 : Int} {h : MH} {r : Int × MH} (hL : LR h) (hF : GX12_numberOf a1 a2 h = some r) : RN xs L iX12_numberOf (d) 0 (lvE 0 [.inr (.inr 334), .inl a1, .inl a2]) [] h (RIo r) ∧ LR r.2 ∧ KD h r.2 := by
  unfold GX12_numberOf at hF
  have hK : KD h h := KD.rf
  show RK xs L iX12_numberOf (d) 0 (lvE 0 [.inr (.inr 334), .inl a1, .inl a2]) [] h (RIo r) h r.2
  refine RK.of (RN.blk (ops := [(0, .iconst 0), (1, .istore_n 3)]) (pc' := 2) (lv' := [(3, .inl 0), (0, .inr (.inr 334)), (1, .inl a1), (2, .inl a2)]) (st' := []) (h' := h) (cs := []) (by decide +kernel) rfl trivial) ?_
  refine RK.sub (DX12_numberOf_L2 hK ?_ _ _ _ hL KD.rf hF) (sub_cons rfl (sub_cons rfl (sub_cons rfl (sub_cons rfl sub_nil))))
  · intro w1 h2 hL hq hF
    have hK := hK.tr hq
    refine RK.of (RN.blk (ops := [(51, .iload_n 3)]) (pc' := 52) (lv' := [(3, .inl w1)]) (st' := [.inl w1]) (h' := h2) (cs := []) (by decide +kernel) rfl trivial) ?_
    exact RK.iR (by decide +kernel) rfl hL hK hF
noncomputable def GX12_canEnter (a1 : Int) (a2 : Int) (a3 : Int) (h : MH) : Option (Int × MH) :=
  (bd (GX12_isFrame h) (fun x2 h1 =>
   (if x2 = 0 then
    some (0, h1)
   else
    (bd (GX12_in a1 0 (m_rd h1 344 2) h1) (fun x4 h3 =>
     (if x4 = 0 then
      some (0, h3)
     else
      (bd (GX12_isHole a3 h3) (fun x6 h5 =>
       (if x6 = 0 then
        some (0, h5)
       else
        (bd (GX12_power (m_rd h5 344 1) a1 h5) (fun x8 h7 =>
         (bd (GX12_in a2 0 (m_w32 (x8 - 1)) h7) (fun x10 h9 =>
          (if x10 = 0 then
           some (0, h9)
          else
           (bd (GX12_numberOf a1 a2 h9) (fun x12 h11 =>
            (if x12 < 12 then
             some (1, h11)
            else
             some (0, h11))))))))))))))))))
theorem DX12_canEnter {d : Nat} {a1 : Int} {a2 : Int} {a3 : Int} {h : MH} {r : Int × MH} (hL : LR h) (hF : GX12_canEnter a1 a2 a3 h = some r) : RN xs L iX12_canEnter (d + 1) 0 (lvE 0 [.inr (.inr 334), .inl a1, .inl a2, .inl a3]) [] h (RIo r) ∧ LR r.2 ∧ KD h r.2 := by
  unfold GX12_canEnter at hF
  have hK : KD h h := KD.rf
  show RK xs L iX12_canEnter (d + 1) 0 (lvE 0 [.inr (.inr 334), .inl a1, .inl a2, .inl a3]) [] h (RIo r) h r.2
  refine RK.of (RN.blk (ops := [(0, .aload_n 0)]) (pc' := 1) (lv' := [(0, .inr (.inr 334)), (1, .inl a1), (2, .inl a2), (3, .inl a3)]) (st' := [.inr (.inr 334)]) (h' := h) (cs := []) (by decide +kernel) rfl trivial) ?_
  obtain ⟨x2, h1, hG, hF⟩ := bd_of hF
  have hq := rcv_ok (as := []) (TO.gk (o_334 hL))
  obtain ⟨hN, hL, hQ⟩ := DX12_isFrame (d := d) hL  hG
  refine RK.of (RN.cv (i := 295) (k := 202) (q2 := iX12_isFrame) (as := [.inr (.inr 334)]) (r := []) (v := some (.inl x2)) (h1 := h1) (by decide +kernel) rfl rfl rfl rfl rfl hq hN) ?_
  have hK := hK.tr hQ
  rcases it_of hF with ⟨hb, hF⟩ | ⟨hb, hF⟩
  · refine RK.of (RN.ift (cd := .eq) (off := 27) (tgt := 31) (by decide +kernel) (mif_eq hb)) ?_
    refine RK.of (RN.blk (ops := [(31, .iconst 0)]) (pc' := 32) (lv' := [(0, .inr (.inr 334)), (1, .inl a1), (2, .inl a2), (3, .inl a3)]) (st' := [.inl 0]) (h' := h1) (cs := []) (by decide +kernel) rfl trivial) ?_
    exact RK.zR (by decide +kernel) rfl (Or.inl rfl) hL hK hF
  · refine RK.of (RN.iff (cd := .eq) (off := 27) (tgt := 31) (by decide +kernel) (mif_eqn hb)) ?_
    refine RK.of (RN.blk (ops := [(7, .iload_n 1), (8, .i2l), (9, .lconst 0), (10, .aload_n 0)]) (pc' := 11) (lv' := [(0, .inr (.inr 334)), (1, .inl a1), (2, .inl a2), (3, .inl a3)]) (st' := [.inr (.inr 334), .inr (.inl 0), .inr (.inl a1)]) (h' := h1) (cs := []) (by decide +kernel) rfl trivial) ?_
    refine RK.of (RN.gr (i := 39) (ci := 12) (k := 20) (fn := true) (v := 344) (by decide +kernel) rfl (TO.gk (o_334 hL)) (hL.fa (v := 344) 20 1 167 (o_334 hL) rfl (by decide) rfl (by decide)).1) ?_
    refine RK.of (RN.blk (ops := [(14, .iconst 2), (15, .iaload), (16, .i2l)]) (pc' := 17) (lv' := [(0, .inr (.inr 334)), (1, .inl a1), (2, .inl a2), (3, .inl a3)]) (st' := [.inr (.inl (m_rd h1 344 2)), .inr (.inl 0), .inr (.inl a1)]) (h' := h1) (cs := [GI h1 344 1 2]) (by decide +kernel) rfl ⟨(a_344 hL).gi (by decide) (by decide), trivial⟩) ?_
    obtain ⟨x4, h3, hG, hF⟩ := bd_of hF
    obtain ⟨hN, hL, hQ⟩ := DX12_in (d := d) hL  hG
    refine RK.of (RN.cst (i := 127) (k := 156) (q2 := iX12_in) (as := [.inr (.inl a1), .inr (.inl 0), .inr (.inl (m_rd h1 344 2))]) (r := []) (v := some (.inl x4)) (h1 := h3) (by decide +kernel) rfl rfl rfl rfl rfl hN) ?_
    have hK := hK.tr hQ
    rcases it_of hF with ⟨hb, hF⟩ | ⟨hb, hF⟩
    · refine RK.of (RN.ift (cd := .eq) (off := 11) (tgt := 31) (by decide +kernel) (mif_eq hb)) ?_
      refine RK.of (RN.blk (ops := [(31, .iconst 0)]) (pc' := 32) (lv' := [(0, .inr (.inr 334)), (1, .inl a1), (2, .inl a2), (3, .inl a3)]) (st' := [.inl 0]) (h' := h3) (cs := []) (by decide +kernel) rfl trivial) ?_
      exact RK.zR (by decide +kernel) rfl (Or.inl rfl) hL hK hF
    · refine RK.of (RN.iff (cd := .eq) (off := 11) (tgt := 31) (by decide +kernel) (mif_eqn hb)) ?_
      refine RK.of (RN.blk (ops := [(23, .aload_n 0), (24, .iload_n 3)]) (pc' := 25) (lv' := [(0, .inr (.inr 334)), (1, .inl a1), (2, .inl a2), (3, .inl a3)]) (st' := [.inl a3, .inr (.inr 334)]) (h' := h3) (cs := []) (by decide +kernel) rfl trivial) ?_
      obtain ⟨x6, h5, hG, hF⟩ := bd_of hF
      have hq := rcv_ok (as := [.inl a3]) (TO.gk (o_334 hL))
      obtain ⟨hN, hL, hQ⟩ := DX12_isHole (d := d) hL  hG
      refine RK.of (RN.cv (i := 310) (k := 204) (q2 := iX12_isHole) (as := [.inr (.inr 334), .inl a3]) (r := []) (v := some (.inl x6)) (h1 := h5) (by decide +kernel) rfl rfl rfl rfl rfl hq hN) ?_
      have hK := hK.tr hQ
      rcases it_of hF with ⟨hb, hF⟩ | ⟨hb, hF⟩
      · refine RK.of (RN.iff (cd := .ne) (off := 5) (tgt := 33) (by decide +kernel) (mif_nen hb)) ?_
        refine RK.of (RN.blk (ops := [(31, .iconst 0)]) (pc' := 32) (lv' := [(0, .inr (.inr 334)), (1, .inl a1), (2, .inl a2), (3, .inl a3)]) (st' := [.inl 0]) (h' := h5) (cs := []) (by decide +kernel) rfl trivial) ?_
        exact RK.zR (by decide +kernel) rfl (Or.inl rfl) hL hK hF
      · refine RK.of (RN.ift (cd := .ne) (off := 5) (tgt := 33) (by decide +kernel) (mif_ne hb)) ?_
        refine RK.of (RN.blk (ops := [(33, .iload_n 2), (34, .i2l), (35, .lconst 0), (36, .aload_n 0)]) (pc' := 37) (lv' := [(0, .inr (.inr 334)), (1, .inl a1), (2, .inl a2), (3, .inl a3)]) (st' := [.inr (.inr 334), .inr (.inl 0), .inr (.inl a2)]) (h' := h5) (cs := []) (by decide +kernel) rfl trivial) ?_
        refine RK.of (RN.gr (i := 39) (ci := 12) (k := 20) (fn := true) (v := 344) (by decide +kernel) rfl (TO.gk (o_334 hL)) (hL.fa (v := 344) 20 1 167 (o_334 hL) rfl (by decide) rfl (by decide)).1) ?_
        refine RK.of (RN.blk (ops := [(40, .iconst 1), (41, .iaload), (42, .iload_n 1)]) (pc' := 43) (lv' := [(0, .inr (.inr 334)), (1, .inl a1), (2, .inl a2), (3, .inl a3)]) (st' := [.inl a1, .inl (m_rd h5 344 1), .inr (.inl 0), .inr (.inl a2)]) (h' := h5) (cs := [GI h5 344 1 1]) (by decide +kernel) rfl ⟨(a_344 hL).gi (by decide) (by decide), trivial⟩) ?_
        obtain ⟨x8, h7, hG, hF⟩ := bd_of hF
        obtain ⟨hN, hL, hQ⟩ := DX12_power (d := d) hL  hG
        refine RK.of (RN.cst (i := 229) (k := 159) (q2 := iX12_power) (as := [.inl (m_rd h5 344 1), .inl a1]) (r := [.inr (.inl 0), .inr (.inl a2)]) (v := some (.inl x8)) (h1 := h7) (by decide +kernel) rfl rfl rfl rfl rfl hN) ?_
        have hK := hK.tr hQ
        refine RK.of (RN.blk (ops := [(46, .iconst 1), (47, .isub), (48, .i2l)]) (pc' := 49) (lv' := [(0, .inr (.inr 334)), (1, .inl a1), (2, .inl a2), (3, .inl a3)]) (st' := [.inr (.inl (m_w32 (x8 - 1))), .inr (.inl 0), .inr (.inl a2)]) (h' := h7) (cs := []) (by decide +kernel) rfl trivial) ?_
        obtain ⟨x10, h9, hG, hF⟩ := bd_of hF
        obtain ⟨hN, hL, hQ⟩ := DX12_in (d := d) hL  hG
        refine RK.of (RN.cst (i := 127) (k := 156) (q2 := iX12_in) (as := [.inr (.inl a2), .inr (.inl 0), .inr (.inl (m_w32 (x8 - 1)))]) (r := []) (v := some (.inl x10)) (h1 := h9) (by decide +kernel) rfl rfl rfl rfl rfl hN) ?_
        have hK := hK.tr hQ
        rcases it_of hF with ⟨hb, hF⟩ | ⟨hb, hF⟩
        · refine RK.of (RN.ift (cd := .eq) (off := 18) (tgt := 70) (by decide +kernel) (mif_eq hb)) ?_
          refine RK.of (RN.blk (ops := [(70, .iconst 0)]) (pc' := 71) (lv' := [(0, .inr (.inr 334)), (1, .inl a1), (2, .inl a2), (3, .inl a3)]) (st' := [.inl 0]) (h' := h9) (cs := []) (by decide +kernel) rfl trivial) ?_
          exact RK.zR (by decide +kernel) rfl (Or.inl rfl) hL hK hF
        · refine RK.of (RN.iff (cd := .eq) (off := 18) (tgt := 70) (by decide +kernel) (mif_eqn hb)) ?_
          refine RK.of (RN.blk (ops := [(55, .aload_n 0), (56, .iload_n 1), (57, .iload_n 2)]) (pc' := 58) (lv' := [(0, .inr (.inr 334)), (1, .inl a1), (2, .inl a2), (3, .inl a3)]) (st' := [.inl a2, .inl a1, .inr (.inr 334)]) (h' := h9) (cs := []) (by decide +kernel) rfl trivial) ?_
          obtain ⟨x12, h11, hG, hF⟩ := bd_of hF
          have hq := rcv_ok (as := [.inl a1, .inl a2]) (TO.gk (o_334 hL))
          obtain ⟨hN, hL, hQ⟩ := DX12_numberOf (d := d) hL  hG
          refine RK.of (RN.cv (i := 362) (k := 230) (q2 := iX12_numberOf) (as := [.inr (.inr 334), .inl a1, .inl a2]) (r := []) (v := some (.inl x12)) (h1 := h11) (by decide +kernel) rfl rfl rfl rfl rfl hq hN) ?_
          have hK := hK.tr hQ
          refine RK.of (RN.blk (ops := [(61, .bipush 12)]) (pc' := 63) (lv' := [(0, .inr (.inr 334)), (1, .inl a1), (2, .inl a2), (3, .inl a3)]) (st' := [.inl 12, .inl x12]) (h' := h11) (cs := []) (by decide +kernel) rfl trivial) ?_
          rcases it_of hF with ⟨hb, hF⟩ | ⟨hb, hF⟩
          · refine RK.of (RN.icf (cd := .ge) (off := 7) (tgt := 70) (by decide +kernel) (mif_gen hb)) ?_
            refine RK.of (RN.blk (ops := [(66, .iconst 1)]) (pc' := 67) (lv' := [(0, .inr (.inr 334)), (1, .inl a1), (2, .inl a2), (3, .inl a3)]) (st' := [.inl 1]) (h' := h11) (cs := []) (by decide +kernel) rfl trivial) ?_
            refine RK.of (RN.goto (off := 4) (tgt := 71) (by decide +kernel)) ?_
            exact RK.zR (by decide +kernel) rfl (Or.inr rfl) hL hK hF
          · refine RK.of (RN.ict (cd := .ge) (off := 7) (tgt := 70) (by decide +kernel) (mif_ge hb)) ?_
            refine RK.of (RN.blk (ops := [(70, .iconst 0)]) (pc' := 71) (lv' := [(0, .inr (.inr 334)), (1, .inl a1), (2, .inl a2), (3, .inl a3)]) (st' := [.inl 0]) (h' := h11) (cs := []) (by decide +kernel) rfl trivial) ?_
            exact RK.zR (by decide +kernel) rfl (Or.inl rfl) hL hK hF
noncomputable def GX12_enters (a1 : Int) (a2 : Int) (a3 : Int) (h : MH) : Option (Int × MH) :=
  (bd (GX12_numberOf a1 a2 h) (fun x2 h1 =>
   jn (fun (h4 : MH) =>
    gd [IB (m_w32 (46 + (m_w32 (3 * x2)))) 167] (
     gd [IB (m_w32 ((m_w32 (46 + (m_w32 (3 * x2)))) + 1)) 167] (
      hl (m_wr (m_wr h4 344 (m_w32 (46 + (m_w32 (3 * x2)))) a1) 344 (m_w32 ((m_w32 (46 + (m_w32 (3 * x2)))) + 1)) a2) (fun h5 =>
       gd [IB (m_w32 ((m_w32 (46 + (m_w32 (3 * x2)))) + 2)) 167] (
        some (x2, (m_wr h5 344 (m_w32 ((m_w32 (46 + (m_w32 (3 * x2)))) + 2)) a3))))))) (fun j3 =>
    (if x2 = (m_rd h1 344 13) then
     j3 (m_wr h1 344 13 (m_w32 ((m_rd h1 344 13) + 1)))
    else
     j3 h1))))
theorem DX12_enters {d : Nat} {a1 : Int} {a2 : Int} {a3 : Int} {h : MH} {r : Int × MH} (hL : LR h) (hF : GX12_enters a1 a2 a3 h = some r) : RN xs L iX12_enters (d + 1) 0 (lvE 0 [.inr (.inr 334), .inl a1, .inl a2, .inl a3]) [] h (RIo r) ∧ LR r.2 ∧ KD h r.2 := by
  unfold GX12_enters at hF
  have hK : KD h h := KD.rf
  show RK xs L iX12_enters (d + 1) 0 (lvE 0 [.inr (.inr 334), .inl a1, .inl a2, .inl a3]) [] h (RIo r) h r.2
  refine RK.of (RN.blk (ops := [(0, .aload_n 0), (1, .iload_n 1), (2, .iload_n 2)]) (pc' := 3) (lv' := [(0, .inr (.inr 334)), (1, .inl a1), (2, .inl a2), (3, .inl a3)]) (st' := [.inl a2, .inl a1, .inr (.inr 334)]) (h' := h) (cs := []) (by decide +kernel) rfl trivial) ?_
  obtain ⟨x2, h1, hG, hF⟩ := bd_of hF
  have hq := rcv_ok (as := [.inl a1, .inl a2]) (TO.gk (o_334 hL))
  obtain ⟨hN, hL, hQ⟩ := DX12_numberOf (d := d) hL  hG
  refine RK.of (RN.cv (i := 362) (k := 230) (q2 := iX12_numberOf) (as := [.inr (.inr 334), .inl a1, .inl a2]) (r := []) (v := some (.inl x2)) (h1 := h1) (by decide +kernel) rfl rfl rfl rfl rfl hq hN) ?_
  have hK := hK.tr hQ
  refine RK.of (RN.blk (ops := [(6, .istore 4), (8, .iload 4), (10, .aload_n 0)]) (pc' := 11) (lv' := [(4, .inl x2), (0, .inr (.inr 334)), (1, .inl a1), (2, .inl a2), (3, .inl a3)]) (st' := [.inr (.inr 334), .inl x2]) (h' := h1) (cs := []) (by decide +kernel) rfl trivial) ?_
  refine RK.of (RN.gr (i := 39) (ci := 12) (k := 20) (fn := true) (v := 344) (by decide +kernel) rfl (TO.gk (o_334 hL)) (hL.fa (v := 344) 20 1 167 (o_334 hL) rfl (by decide) rfl (by decide)).1) ?_
  refine RK.of (RN.blk (ops := [(14, .bipush 13), (16, .iaload)]) (pc' := 17) (lv' := [(4, .inl x2), (0, .inr (.inr 334)), (1, .inl a1), (2, .inl a2), (3, .inl a3)]) (st' := [.inl (m_rd h1 344 13), .inl x2]) (h' := h1) (cs := [GI h1 344 1 13]) (by decide +kernel) rfl ⟨(a_344 hL).gi (by decide) (by decide), trivial⟩) ?_
  refine jn_use (fun j3 => ∀ (h4 : MH), LR h4 → KD h h4 → j3 h4 = some r → RK xs L iX12_enters (d + 1) 31 [(0, .inr (.inr 334)), (1, .inl a1), (2, .inl a2), (3, .inl a3), (4, .inl x2)] [] h4 (RIo r) h r.2) ?_ ?_ hF
  · intro h4 hL hK hF
    refine RK.of (RN.blk (ops := [(31, .aload_n 0)]) (pc' := 32) (lv' := [(0, .inr (.inr 334)), (1, .inl a1), (2, .inl a2), (3, .inl a3), (4, .inl x2)]) (st' := [.inr (.inr 334)]) (h' := h4) (cs := []) (by decide +kernel) rfl trivial) ?_
    refine RK.of (RN.gr (i := 39) (ci := 12) (k := 20) (fn := true) (v := 344) (by decide +kernel) rfl (TO.gk (o_334 hL)) (hL.fa (v := 344) 20 1 167 (o_334 hL) rfl (by decide) rfl (by decide)).1) ?_
    obtain ⟨hc, hF⟩ := gd_of hF
    refine RK.of (RN.blk (ops := [(35, .bipush 46), (37, .iconst 3), (38, .iload 4), (40, .imul), (41, .iadd), (42, .iload_n 1), (43, .iastore)]) (pc' := 44) (lv' := [(0, .inr (.inr 334)), (1, .inl a1), (2, .inl a2), (3, .inl a3), (4, .inl x2)]) (st' := []) (h' := (m_wr h4 344 (m_w32 (46 + (m_w32 (3 * x2)))) a1)) (cs := [GI h4 344 1 (m_w32 (46 + (m_w32 (3 * x2))))]) (by decide +kernel) rfl ⟨(a_344 hL).gi hc.1.1 hc.1.2, trivial⟩) ?_
    have hL : LR (m_wr h4 344 (m_w32 (46 + (m_w32 (3 * x2)))) a1) := hL.wa (TA.le5 (a_344 hL) (by decide))
    have hK := hK.tr (KD.wr : KD h4 (m_wr h4 344 (m_w32 (46 + (m_w32 (3 * x2)))) a1))
    refine RK.of (RN.blk (ops := [(44, .aload_n 0)]) (pc' := 45) (lv' := [(0, .inr (.inr 334)), (1, .inl a1), (2, .inl a2), (3, .inl a3), (4, .inl x2)]) (st' := [.inr (.inr 334)]) (h' := (m_wr h4 344 (m_w32 (46 + (m_w32 (3 * x2)))) a1)) (cs := []) (by decide +kernel) rfl trivial) ?_
    refine RK.of (RN.gr (i := 39) (ci := 12) (k := 20) (fn := true) (v := 344) (by decide +kernel) rfl (TO.gk (o_334 hL)) (hL.fa (v := 344) 20 1 167 (o_334 hL) rfl (by decide) rfl (by decide)).1) ?_
    obtain ⟨hc, hF⟩ := gd_of hF
    refine RK.of (RN.blk (ops := [(48, .bipush 46), (50, .iconst 3), (51, .iload 4), (53, .imul), (54, .iadd), (55, .iconst 1), (56, .iadd), (57, .iload_n 2), (58, .iastore)]) (pc' := 59) (lv' := [(0, .inr (.inr 334)), (1, .inl a1), (2, .inl a2), (3, .inl a3), (4, .inl x2)]) (st' := []) (h' := (m_wr (m_wr h4 344 (m_w32 (46 + (m_w32 (3 * x2)))) a1) 344 (m_w32 ((m_w32 (46 + (m_w32 (3 * x2)))) + 1)) a2)) (cs := [GI (m_wr h4 344 (m_w32 (46 + (m_w32 (3 * x2)))) a1) 344 1 (m_w32 ((m_w32 (46 + (m_w32 (3 * x2)))) + 1))]) (by decide +kernel) rfl ⟨(a_344 hL).gi hc.1.1 hc.1.2, trivial⟩) ?_
    have hL : LR (m_wr (m_wr h4 344 (m_w32 (46 + (m_w32 (3 * x2)))) a1) 344 (m_w32 ((m_w32 (46 + (m_w32 (3 * x2)))) + 1)) a2) := hL.wa (TA.le5 (a_344 hL) (by decide))
    have hK := hK.tr (KD.wr : KD (m_wr h4 344 (m_w32 (46 + (m_w32 (3 * x2)))) a1) (m_wr (m_wr h4 344 (m_w32 (46 + (m_w32 (3 * x2)))) a1) 344 (m_w32 ((m_w32 (46 + (m_w32 (3 * x2)))) + 1)) a2))
    obtain ⟨h5, he, hF⟩ := hl_of hF
    refine RK.of (RN.hl he) ?_
    rw [← he] at hL hK
    refine RK.of (RN.blk (ops := [(59, .aload_n 0)]) (pc' := 60) (lv' := [(0, .inr (.inr 334)), (1, .inl a1), (2, .inl a2), (3, .inl a3), (4, .inl x2)]) (st' := [.inr (.inr 334)]) (h' := h5) (cs := []) (by decide +kernel) rfl trivial) ?_
    refine RK.of (RN.gr (i := 39) (ci := 12) (k := 20) (fn := true) (v := 344) (by decide +kernel) rfl (TO.gk (o_334 hL)) (hL.fa (v := 344) 20 1 167 (o_334 hL) rfl (by decide) rfl (by decide)).1) ?_
    obtain ⟨hc, hF⟩ := gd_of hF
    refine RK.of (RN.blk (ops := [(63, .bipush 46), (65, .iconst 3), (66, .iload 4), (68, .imul), (69, .iadd), (70, .iconst 2), (71, .iadd), (72, .iload_n 3), (73, .iastore)]) (pc' := 74) (lv' := [(0, .inr (.inr 334)), (1, .inl a1), (2, .inl a2), (3, .inl a3), (4, .inl x2)]) (st' := []) (h' := (m_wr h5 344 (m_w32 ((m_w32 (46 + (m_w32 (3 * x2)))) + 2)) a3)) (cs := [GI h5 344 1 (m_w32 ((m_w32 (46 + (m_w32 (3 * x2)))) + 2))]) (by decide +kernel) rfl ⟨(a_344 hL).gi hc.1.1 hc.1.2, trivial⟩) ?_
    have hL : LR (m_wr h5 344 (m_w32 ((m_w32 (46 + (m_w32 (3 * x2)))) + 2)) a3) := hL.wa (TA.le5 (a_344 hL) (by decide))
    have hK := hK.tr (KD.wr : KD h5 (m_wr h5 344 (m_w32 ((m_w32 (46 + (m_w32 (3 * x2)))) + 2)) a3))
    refine RK.of (RN.blk (ops := [(74, .iload 4)]) (pc' := 76) (lv' := [(0, .inr (.inr 334)), (1, .inl a1), (2, .inl a2), (3, .inl a3), (4, .inl x2)]) (st' := [.inl x2]) (h' := (m_wr h5 344 (m_w32 ((m_w32 (46 + (m_w32 (3 * x2)))) + 2)) a3)) (cs := []) (by decide +kernel) rfl trivial) ?_
    exact RK.iR (by decide +kernel) rfl hL hK hF
  · intro j3 Jj3 hF
    rcases it_of hF with ⟨hb, hF⟩ | ⟨hb, hF⟩
    · refine RK.of (RN.icf (cd := .ne) (off := 14) (tgt := 31) (by decide +kernel) (mif_nen hb)) ?_
      refine RK.of (RN.blk (ops := [(20, .aload_n 0)]) (pc' := 21) (lv' := [(4, .inl x2), (0, .inr (.inr 334)), (1, .inl a1), (2, .inl a2), (3, .inl a3)]) (st' := [.inr (.inr 334)]) (h' := h1) (cs := []) (by decide +kernel) rfl trivial) ?_
      refine RK.of (RN.gr (i := 39) (ci := 12) (k := 20) (fn := true) (v := 344) (by decide +kernel) rfl (TO.gk (o_334 hL)) (hL.fa (v := 344) 20 1 167 (o_334 hL) rfl (by decide) rfl (by decide)).1) ?_
      refine RK.of (RN.blk (ops := [(24, .bipush 13), (26, .dup2), (27, .iaload), (28, .iconst 1), (29, .iadd), (30, .iastore)]) (pc' := 31) (lv' := [(4, .inl x2), (0, .inr (.inr 334)), (1, .inl a1), (2, .inl a2), (3, .inl a3)]) (st' := []) (h' := (m_wr h1 344 13 (m_w32 ((m_rd h1 344 13) + 1)))) (cs := [GI h1 344 1 13, GI h1 344 1 13]) (by decide +kernel) rfl ⟨(a_344 hL).gi (by decide) (by decide), (a_344 hL).gi (by decide) (by decide), trivial⟩) ?_
      have hL : LR (m_wr h1 344 13 (m_w32 ((m_rd h1 344 13) + 1))) := hL.wa (TA.le5 (a_344 hL) (by decide))
      have hK := hK.tr (KD.wr : KD h1 (m_wr h1 344 13 (m_w32 ((m_rd h1 344 13) + 1))))
      exact RK.sub (Jj3 _ hL hK hF) (sub_cons rfl (sub_cons rfl (sub_cons rfl (sub_cons rfl (sub_cons rfl sub_nil)))))
    · refine RK.of (RN.ict (cd := .ne) (off := 14) (tgt := 31) (by decide +kernel) (mif_ne hb)) ?_
      exact RK.sub (Jj3 _ hL hK hF) (sub_cons rfl (sub_cons rfl (sub_cons rfl (sub_cons rfl (sub_cons rfl sub_nil)))))
noncomputable def GX12_enter (a1 : Int) (a2 : Int) (a3 : Int) (h : MH) : Option (Int × MH) :=
  (bd (GX12_canEnter a1 a2 a3 h) (fun x2 h1 =>
   (if x2 = 0 then
    some ((-1), h1)
   else
    (bv (GX12_keepsAct h1) (fun h3 =>
     (bd (GX12_enters a1 a2 a3 h3) (fun x5 h4 =>
      some (x5, h4))))))))
theorem DX12_enter {d : Nat} {a1 : Int} {a2 : Int} {a3 : Int} {h : MH} {r : Int × MH} (hL : LR h) (hF : GX12_enter a1 a2 a3 h = some r) : RN xs L iX12_enter (d + 2) 0 (lvE 0 [.inr (.inr 334), .inl a1, .inl a2, .inl a3]) [] h (RIo r) ∧ LR r.2 ∧ KD h r.2 := by
  unfold GX12_enter at hF
  have hK : KD h h := KD.rf
  show RK xs L iX12_enter (d + 2) 0 (lvE 0 [.inr (.inr 334), .inl a1, .inl a2, .inl a3]) [] h (RIo r) h r.2
  refine RK.of (RN.blk (ops := [(0, .aload_n 0), (1, .iload_n 1), (2, .iload_n 2), (3, .iload_n 3)]) (pc' := 4) (lv' := [(0, .inr (.inr 334)), (1, .inl a1), (2, .inl a2), (3, .inl a3)]) (st' := [.inl a3, .inl a2, .inl a1, .inr (.inr 334)]) (h' := h) (cs := []) (by decide +kernel) rfl trivial) ?_
  obtain ⟨x2, h1, hG, hF⟩ := bd_of hF
  have hq := rcv_ok (as := [.inl a1, .inl a2, .inl a3]) (TO.gk (o_334 hL))
  obtain ⟨hN, hL, hQ⟩ := DX12_canEnter (d := d) hL  hG
  refine RK.of (RN.cv (i := 365) (k := 231) (q2 := iX12_canEnter) (as := [.inr (.inr 334), .inl a1, .inl a2, .inl a3]) (r := []) (v := some (.inl x2)) (h1 := h1) (by decide +kernel) rfl rfl rfl rfl rfl hq hN) ?_
  have hK := hK.tr hQ
  rcases it_of hF with ⟨hb, hF⟩ | ⟨hb, hF⟩
  · refine RK.of (RN.iff (cd := .ne) (off := 5) (tgt := 12) (by decide +kernel) (mif_nen hb)) ?_
    refine RK.of (RN.blk (ops := [(10, .iconst (-1))]) (pc' := 11) (lv' := [(0, .inr (.inr 334)), (1, .inl a1), (2, .inl a2), (3, .inl a3)]) (st' := [.inl (-1)]) (h' := h1) (cs := []) (by decide +kernel) rfl trivial) ?_
    exact RK.iR (by decide +kernel) rfl hL hK hF
  · refine RK.of (RN.ift (cd := .ne) (off := 5) (tgt := 12) (by decide +kernel) (mif_ne hb)) ?_
    refine RK.of (RN.blk (ops := [(12, .aload_n 0)]) (pc' := 13) (lv' := [(0, .inr (.inr 334)), (1, .inl a1), (2, .inl a2), (3, .inl a3)]) (st' := [.inr (.inr 334)]) (h' := h1) (cs := []) (by decide +kernel) rfl trivial) ?_
    obtain ⟨h3, hG, hF⟩ := bv_of hF
    have hq := rcv_ok (as := []) (TO.gk (o_334 hL))
    obtain ⟨hN, hL, hQ⟩ := DX12_keepsAct (d := d + 1) hL  hG
    refine RK.of (RN.cv (i := 353) (k := 224) (q2 := iX12_keepsAct) (as := [.inr (.inr 334)]) (r := []) (v := none) (h1 := h3) (by decide +kernel) rfl rfl rfl rfl rfl hq hN) ?_
    have hK := hK.tr hQ
    refine RK.of (RN.blk (ops := [(16, .aload_n 0), (17, .iload_n 1), (18, .iload_n 2), (19, .iload_n 3)]) (pc' := 20) (lv' := [(0, .inr (.inr 334)), (1, .inl a1), (2, .inl a2), (3, .inl a3)]) (st' := [.inl a3, .inl a2, .inl a1, .inr (.inr 334)]) (h' := h3) (cs := []) (by decide +kernel) rfl trivial) ?_
    obtain ⟨x5, h4, hG, hF⟩ := bd_of hF
    have hq := rcv_ok (as := [.inl a1, .inl a2, .inl a3]) (TO.gk (o_334 hL))
    obtain ⟨hN, hL, hQ⟩ := DX12_enters (d := d) hL  hG
    refine RK.of (RN.cv (i := 368) (k := 232) (q2 := iX12_enters) (as := [.inr (.inr 334), .inl a1, .inl a2, .inl a3]) (r := []) (v := some (.inl x5)) (h1 := h4) (by decide +kernel) rfl rfl rfl rfl rfl hq hN) ?_
    have hK := hK.tr hQ
    exact RK.iR (by decide +kernel) rfl hL hK hF
noncomputable def GX12_strike_L29 (K0 : MH → Option (Int × MH)) : Nat → Int → MH → Option (Int × MH)
  | 0, _, _ => none
  | f + 1, v2, h =>
    (if v2 < (m_w32 (3 * (m_rd h 344 13))) then
     gd [IB (m_w32 ((m_w32 (46 + v2)) + 3)) 167, IB (m_w32 (46 + v2)) 167] (
      hl (m_wr h 344 (m_w32 (46 + v2)) (m_rd h 344 (m_w32 ((m_w32 (46 + v2)) + 3)))) (fun h1 =>
       GX12_strike_L29 K0 f (m_w32 (v2 + 1)) h1))
    else
     K0 h)
theorem DX12_strike_L29 {d : Nat} {K0 : MH → Option (Int × MH)} {r : Int × MH} {h0 hB : MH} (hB0 : KD h0 hB) (hK0 : ∀ (h : MH), LR h → KD hB h → K0 h = some r → RK xs L iX12_strike (d + 1) 68 [(0, .inr (.inr 334))] [] h (RIo r) h0 r.2) : ∀ (f : Nat) (v2 : Int) (h : MH), LR h → KD hB h → GX12_strike_L29 K0 f v2 h = some r → RK xs L iX12_strike (d + 1) 29 [(0, .inr (.inr 334)), (2, .inl v2)] [] h (RIo r) h0 r.2 := by
  intro f
  induction f with
  | zero =>
    intro v2 h hL hJ hF
    cases hF
  | succ f ih =>
    intro v2 h hL hJ hF
    unfold GX12_strike_L29 at hF
    have hK := hB0.tr hJ
    refine RK.of (RN.blk (ops := [(29, .iload_n 2), (30, .iconst 3), (31, .aload_n 0)]) (pc' := 32) (lv' := [(0, .inr (.inr 334)), (2, .inl v2)]) (st' := [.inr (.inr 334), .inl 3, .inl v2]) (h' := h) (cs := []) (by decide +kernel) rfl trivial) ?_
    refine RK.of (RN.gr (i := 39) (ci := 12) (k := 20) (fn := true) (v := 344) (by decide +kernel) rfl (TO.gk (o_334 hL)) (hL.fa (v := 344) 20 1 167 (o_334 hL) rfl (by decide) rfl (by decide)).1) ?_
    refine RK.of (RN.blk (ops := [(35, .bipush 13), (37, .iaload), (38, .imul)]) (pc' := 39) (lv' := [(0, .inr (.inr 334)), (2, .inl v2)]) (st' := [.inl (m_w32 (3 * (m_rd h 344 13))), .inl v2]) (h' := h) (cs := [GI h 344 1 13]) (by decide +kernel) rfl ⟨(a_344 hL).gi (by decide) (by decide), trivial⟩) ?_
    rcases it_of hF with ⟨hb, hF⟩ | ⟨hb, hF⟩
    · refine RK.of (RN.icf (cd := .ge) (off := 29) (tgt := 68) (by decide +kernel) (mif_gen hb)) ?_
      refine RK.of (RN.blk (ops := [(42, .aload_n 0)]) (pc' := 43) (lv' := [(0, .inr (.inr 334)), (2, .inl v2)]) (st' := [.inr (.inr 334)]) (h' := h) (cs := []) (by decide +kernel) rfl trivial) ?_
      refine RK.of (RN.gr (i := 39) (ci := 12) (k := 20) (fn := true) (v := 344) (by decide +kernel) rfl (TO.gk (o_334 hL)) (hL.fa (v := 344) 20 1 167 (o_334 hL) rfl (by decide) rfl (by decide)).1) ?_
      refine RK.of (RN.blk (ops := [(46, .bipush 46), (48, .iload_n 2), (49, .iadd), (50, .aload_n 0)]) (pc' := 51) (lv' := [(0, .inr (.inr 334)), (2, .inl v2)]) (st' := [.inr (.inr 334), .inl (m_w32 (46 + v2)), .inr (.inr 344)]) (h' := h) (cs := []) (by decide +kernel) rfl trivial) ?_
      refine RK.of (RN.gr (i := 39) (ci := 12) (k := 20) (fn := true) (v := 344) (by decide +kernel) rfl (TO.gk (o_334 hL)) (hL.fa (v := 344) 20 1 167 (o_334 hL) rfl (by decide) rfl (by decide)).1) ?_
      obtain ⟨hc, hF⟩ := gd_of hF
      refine RK.of (RN.blk (ops := [(54, .bipush 46), (56, .iload_n 2), (57, .iadd), (58, .iconst 3), (59, .iadd), (60, .iaload), (61, .iastore)]) (pc' := 62) (lv' := [(0, .inr (.inr 334)), (2, .inl v2)]) (st' := []) (h' := (m_wr h 344 (m_w32 (46 + v2)) (m_rd h 344 (m_w32 ((m_w32 (46 + v2)) + 3))))) (cs := [GI h 344 1 (m_w32 ((m_w32 (46 + v2)) + 3)), GI h 344 1 (m_w32 (46 + v2))]) (by decide +kernel) rfl ⟨(a_344 hL).gi hc.1.1 hc.1.2, (a_344 hL).gi hc.2.1.1 hc.2.1.2, trivial⟩) ?_
      have hL : LR (m_wr h 344 (m_w32 (46 + v2)) (m_rd h 344 (m_w32 ((m_w32 (46 + v2)) + 3)))) := hL.wa (TA.le5 (a_344 hL) (by decide))
      have hK := hK.tr (KD.wr : KD h (m_wr h 344 (m_w32 (46 + v2)) (m_rd h 344 (m_w32 ((m_w32 (46 + v2)) + 3)))))
      have hJ := hJ.tr (KD.wr : KD h (m_wr h 344 (m_w32 (46 + v2)) (m_rd h 344 (m_w32 ((m_w32 (46 + v2)) + 3)))))
      obtain ⟨h1, he, hF⟩ := hl_of hF
      refine RK.of (RN.hl he) ?_
      rw [← he] at hL hK hJ
      refine RK.of (RN.blk (ops := [(62, .iinc 2 1)]) (pc' := 65) (lv' := [(2, .inl (m_w32 (v2 + 1))), (0, .inr (.inr 334))]) (st' := []) (h' := h1) (cs := []) (by decide +kernel) rfl trivial) ?_
      refine RK.of (RN.goto (off := -36) (tgt := 29) (by decide +kernel)) ?_
      exact RK.sub (ih _ _ hL hJ hF) (sub_cons rfl (sub_cons rfl sub_nil))
    · refine RK.of (RN.ict (cd := .ge) (off := 29) (tgt := 68) (by decide +kernel) (mif_ge hb)) ?_
      exact RK.sub (hK0 _ hL hJ hF) (sub_cons rfl sub_nil)
noncomputable def GX12_strike (a1 : Int) (h : MH) : Option (Int × MH) :=
  (bd (GX12_isEntry a1 h) (fun x2 h1 =>
   (if x2 = 0 then
    some ((-1), h1)
   else
    (bv (GX12_keepsAct h1) (fun h3 =>
     GX12_strike_L29 (fun h4 =>
      some ((m_rd h4 344 13), h4)) FU (m_w32 (3 * a1)) (m_wr h3 344 13 (m_w32 ((m_rd h3 344 13) - 1))))))))
theorem DX12_strike {d : Nat} {a1 : Int} {h : MH} {r : Int × MH} (hL : LR h) (hF : GX12_strike a1 h = some r) : RN xs L iX12_strike (d + 1) 0 (lvE 0 [.inr (.inr 334), .inl a1]) [] h (RIo r) ∧ LR r.2 ∧ KD h r.2 := by
  unfold GX12_strike at hF
  have hK : KD h h := KD.rf
  show RK xs L iX12_strike (d + 1) 0 (lvE 0 [.inr (.inr 334), .inl a1]) [] h (RIo r) h r.2
  refine RK.of (RN.blk (ops := [(0, .aload_n 0), (1, .iload_n 1)]) (pc' := 2) (lv' := [(0, .inr (.inr 334)), (1, .inl a1)]) (st' := [.inl a1, .inr (.inr 334)]) (h' := h) (cs := []) (by decide +kernel) rfl trivial) ?_
  obtain ⟨x2, h1, hG, hF⟩ := bd_of hF
  have hq := rcv_ok (as := [.inl a1]) (TO.gk (o_334 hL))
  obtain ⟨hN, hL, hQ⟩ := DX12_isEntry (d := d) hL  hG
  refine RK.of (RN.cv (i := 315) (k := 205) (q2 := iX12_isEntry) (as := [.inr (.inr 334), .inl a1]) (r := []) (v := some (.inl x2)) (h1 := h1) (by decide +kernel) rfl rfl rfl rfl rfl hq hN) ?_
  have hK := hK.tr hQ
  rcases it_of hF with ⟨hb, hF⟩ | ⟨hb, hF⟩
  · refine RK.of (RN.iff (cd := .ne) (off := 5) (tgt := 10) (by decide +kernel) (mif_nen hb)) ?_
    refine RK.of (RN.blk (ops := [(8, .iconst (-1))]) (pc' := 9) (lv' := [(0, .inr (.inr 334)), (1, .inl a1)]) (st' := [.inl (-1)]) (h' := h1) (cs := []) (by decide +kernel) rfl trivial) ?_
    exact RK.iR (by decide +kernel) rfl hL hK hF
  · refine RK.of (RN.ift (cd := .ne) (off := 5) (tgt := 10) (by decide +kernel) (mif_ne hb)) ?_
    refine RK.of (RN.blk (ops := [(10, .aload_n 0)]) (pc' := 11) (lv' := [(0, .inr (.inr 334)), (1, .inl a1)]) (st' := [.inr (.inr 334)]) (h' := h1) (cs := []) (by decide +kernel) rfl trivial) ?_
    obtain ⟨h3, hG, hF⟩ := bv_of hF
    have hq := rcv_ok (as := []) (TO.gk (o_334 hL))
    obtain ⟨hN, hL, hQ⟩ := DX12_keepsAct (d := d) hL  hG
    refine RK.of (RN.cv (i := 353) (k := 224) (q2 := iX12_keepsAct) (as := [.inr (.inr 334)]) (r := []) (v := none) (h1 := h3) (by decide +kernel) rfl rfl rfl rfl rfl hq hN) ?_
    have hK := hK.tr hQ
    refine RK.of (RN.blk (ops := [(14, .aload_n 0)]) (pc' := 15) (lv' := [(0, .inr (.inr 334)), (1, .inl a1)]) (st' := [.inr (.inr 334)]) (h' := h3) (cs := []) (by decide +kernel) rfl trivial) ?_
    refine RK.of (RN.gr (i := 39) (ci := 12) (k := 20) (fn := true) (v := 344) (by decide +kernel) rfl (TO.gk (o_334 hL)) (hL.fa (v := 344) 20 1 167 (o_334 hL) rfl (by decide) rfl (by decide)).1) ?_
    refine RK.of (RN.blk (ops := [(18, .bipush 13), (20, .dup2), (21, .iaload), (22, .iconst 1), (23, .isub), (24, .iastore)]) (pc' := 25) (lv' := [(0, .inr (.inr 334)), (1, .inl a1)]) (st' := []) (h' := (m_wr h3 344 13 (m_w32 ((m_rd h3 344 13) - 1)))) (cs := [GI h3 344 1 13, GI h3 344 1 13]) (by decide +kernel) rfl ⟨(a_344 hL).gi (by decide) (by decide), (a_344 hL).gi (by decide) (by decide), trivial⟩) ?_
    have hL : LR (m_wr h3 344 13 (m_w32 ((m_rd h3 344 13) - 1))) := hL.wa (TA.le5 (a_344 hL) (by decide))
    have hK := hK.tr (KD.wr : KD h3 (m_wr h3 344 13 (m_w32 ((m_rd h3 344 13) - 1))))
    refine RK.of (RN.blk (ops := [(25, .iconst 3), (26, .iload_n 1), (27, .imul), (28, .istore_n 2)]) (pc' := 29) (lv' := [(2, .inl (m_w32 (3 * a1))), (0, .inr (.inr 334)), (1, .inl a1)]) (st' := []) (h' := (m_wr h3 344 13 (m_w32 ((m_rd h3 344 13) - 1)))) (cs := []) (by decide +kernel) rfl trivial) ?_
    refine RK.sub (DX12_strike_L29 hK ?_ _ _ _ hL KD.rf hF) (sub_cons rfl (sub_cons rfl sub_nil))
    · intro h4 hL hq hF
      have hK := hK.tr hq
      refine RK.of (RN.blk (ops := [(68, .aload_n 0)]) (pc' := 69) (lv' := [(0, .inr (.inr 334))]) (st' := [.inr (.inr 334)]) (h' := h4) (cs := []) (by decide +kernel) rfl trivial) ?_
      refine RK.of (RN.gr (i := 39) (ci := 12) (k := 20) (fn := true) (v := 344) (by decide +kernel) rfl (TO.gk (o_334 hL)) (hL.fa (v := 344) 20 1 167 (o_334 hL) rfl (by decide) rfl (by decide)).1) ?_
      refine RK.of (RN.blk (ops := [(72, .bipush 13), (74, .iaload)]) (pc' := 75) (lv' := [(0, .inr (.inr 334))]) (st' := [.inl (m_rd h4 344 13)]) (h' := h4) (cs := [GI h4 344 1 13]) (by decide +kernel) rfl ⟨(a_344 hL).gi (by decide) (by decide), trivial⟩) ?_
      exact RK.iR (by decide +kernel) rfl hL hK hF
noncomputable def GX12_where (a1 : Int) (a2 : Int) (h : MH) : Option (Int × MH) :=
  (bd (GX12_isCode a1 h) (fun x2 h1 =>
   (if x2 = 0 then
    some ((-1), h1)
   else
    (bd (GX12_in a2 0 1 h1) (fun x4 h3 =>
     (if x4 = 0 then
      some ((-1), h3)
     else
      (bd (GX12_entryOf a1 h3) (fun x6 h5 =>
       (if x6 < 0 then
        some ((-2), h5)
       else
        (if a2 = 0 then
         gd [IB (m_w32 ((m_w32 (46 + (m_w32 (3 * x6)))) + 2)) 167] (
          some ((m_rd h5 344 (m_w32 ((m_w32 (46 + (m_w32 (3 * x6)))) + 2))), h5))
        else
         gd [IB (m_w32 (46 + (m_w32 (3 * x6)))) 167] (
          some ((m_rd h5 344 (m_w32 (46 + (m_w32 (3 * x6))))), h5))))))))))))
theorem DX12_where {d : Nat} {a1 : Int} {a2 : Int} {h : MH} {r : Int × MH} (hL : LR h) (hF : GX12_where a1 a2 h = some r) : RN xs L iX12_where (d + 3) 0 (lvE 0 [.inr (.inr 334), .inl a1, .inl a2]) [] h (RIo r) ∧ LR r.2 ∧ KD h r.2 := by
  unfold GX12_where at hF
  have hK : KD h h := KD.rf
  show RK xs L iX12_where (d + 3) 0 (lvE 0 [.inr (.inr 334), .inl a1, .inl a2]) [] h (RIo r) h r.2
  refine RK.of (RN.blk (ops := [(0, .aload_n 0), (1, .iload_n 1)]) (pc' := 2) (lv' := [(0, .inr (.inr 334)), (1, .inl a1), (2, .inl a2)]) (st' := [.inl a1, .inr (.inr 334)]) (h' := h) (cs := []) (by decide +kernel) rfl trivial) ?_
  obtain ⟨x2, h1, hG, hF⟩ := bd_of hF
  have hq := rcv_ok (as := [.inl a1]) (TO.gk (o_334 hL))
  obtain ⟨hN, hL, hQ⟩ := DX12_isCode (d := d) hL  hG
  refine RK.of (RN.cv (i := 356) (k := 206) (q2 := iX12_isCode) (as := [.inr (.inr 334), .inl a1]) (r := []) (v := some (.inl x2)) (h1 := h1) (by decide +kernel) rfl rfl rfl rfl rfl hq hN) ?_
  have hK := hK.tr hQ
  rcases it_of hF with ⟨hb, hF⟩ | ⟨hb, hF⟩
  · refine RK.of (RN.ift (cd := .eq) (off := 13) (tgt := 18) (by decide +kernel) (mif_eq hb)) ?_
    refine RK.of (RN.blk (ops := [(18, .iconst (-1))]) (pc' := 19) (lv' := [(0, .inr (.inr 334)), (1, .inl a1), (2, .inl a2)]) (st' := [.inl (-1)]) (h' := h1) (cs := []) (by decide +kernel) rfl trivial) ?_
    exact RK.iR (by decide +kernel) rfl hL hK hF
  · refine RK.of (RN.iff (cd := .eq) (off := 13) (tgt := 18) (by decide +kernel) (mif_eqn hb)) ?_
    refine RK.of (RN.blk (ops := [(8, .iload_n 2), (9, .i2l), (10, .lconst 0), (11, .lconst 1)]) (pc' := 12) (lv' := [(0, .inr (.inr 334)), (1, .inl a1), (2, .inl a2)]) (st' := [.inr (.inl 1), .inr (.inl 0), .inr (.inl a2)]) (h' := h1) (cs := []) (by decide +kernel) rfl trivial) ?_
    obtain ⟨x4, h3, hG, hF⟩ := bd_of hF
    obtain ⟨hN, hL, hQ⟩ := DX12_in (d := d + 2) hL  hG
    refine RK.of (RN.cst (i := 127) (k := 156) (q2 := iX12_in) (as := [.inr (.inl a2), .inr (.inl 0), .inr (.inl 1)]) (r := []) (v := some (.inl x4)) (h1 := h3) (by decide +kernel) rfl rfl rfl rfl rfl hN) ?_
    have hK := hK.tr hQ
    rcases it_of hF with ⟨hb, hF⟩ | ⟨hb, hF⟩
    · refine RK.of (RN.iff (cd := .ne) (off := 5) (tgt := 20) (by decide +kernel) (mif_nen hb)) ?_
      refine RK.of (RN.blk (ops := [(18, .iconst (-1))]) (pc' := 19) (lv' := [(0, .inr (.inr 334)), (1, .inl a1), (2, .inl a2)]) (st' := [.inl (-1)]) (h' := h3) (cs := []) (by decide +kernel) rfl trivial) ?_
      exact RK.iR (by decide +kernel) rfl hL hK hF
    · refine RK.of (RN.ift (cd := .ne) (off := 5) (tgt := 20) (by decide +kernel) (mif_ne hb)) ?_
      refine RK.of (RN.blk (ops := [(20, .aload_n 0), (21, .iload_n 1)]) (pc' := 22) (lv' := [(0, .inr (.inr 334)), (1, .inl a1), (2, .inl a2)]) (st' := [.inl a1, .inr (.inr 334)]) (h' := h3) (cs := []) (by decide +kernel) rfl trivial) ?_
      obtain ⟨x6, h5, hG, hF⟩ := bd_of hF
      have hq := rcv_ok (as := [.inl a1]) (TO.gk (o_334 hL))
      obtain ⟨hN, hL, hQ⟩ := DX12_entryOf (d := d) hL  hG
      refine RK.of (RN.cv (i := 304) (k := 208) (q2 := iX12_entryOf) (as := [.inr (.inr 334), .inl a1]) (r := []) (v := some (.inl x6)) (h1 := h5) (by decide +kernel) rfl rfl rfl rfl rfl hq hN) ?_
      have hK := hK.tr hQ
      refine RK.of (RN.blk (ops := [(25, .istore_n 3), (26, .iload_n 3)]) (pc' := 27) (lv' := [(3, .inl x6), (0, .inr (.inr 334)), (1, .inl a1), (2, .inl a2)]) (st' := [.inl x6]) (h' := h5) (cs := []) (by decide +kernel) rfl trivial) ?_
      rcases it_of hF with ⟨hb, hF⟩ | ⟨hb, hF⟩
      · refine RK.of (RN.iff (cd := .ge) (off := 6) (tgt := 33) (by decide +kernel) (mif_gen hb)) ?_
        refine RK.of (RN.blk (ops := [(30, .bipush (-2))]) (pc' := 32) (lv' := [(3, .inl x6), (0, .inr (.inr 334)), (1, .inl a1), (2, .inl a2)]) (st' := [.inl (-2)]) (h' := h5) (cs := []) (by decide +kernel) rfl trivial) ?_
        exact RK.iR (by decide +kernel) rfl hL hK hF
      · refine RK.of (RN.ift (cd := .ge) (off := 6) (tgt := 33) (by decide +kernel) (mif_ge hb)) ?_
        refine RK.of (RN.blk (ops := [(33, .iload_n 2)]) (pc' := 34) (lv' := [(3, .inl x6), (0, .inr (.inr 334)), (1, .inl a1), (2, .inl a2)]) (st' := [.inl a2]) (h' := h5) (cs := []) (by decide +kernel) rfl trivial) ?_
        rcases it_of hF with ⟨hb, hF⟩ | ⟨hb, hF⟩
        · refine RK.of (RN.iff (cd := .ne) (off := 19) (tgt := 53) (by decide +kernel) (mif_nen hb)) ?_
          refine RK.of (RN.blk (ops := [(37, .aload_n 0)]) (pc' := 38) (lv' := [(3, .inl x6), (0, .inr (.inr 334)), (1, .inl a1), (2, .inl a2)]) (st' := [.inr (.inr 334)]) (h' := h5) (cs := []) (by decide +kernel) rfl trivial) ?_
          refine RK.of (RN.gr (i := 39) (ci := 12) (k := 20) (fn := true) (v := 344) (by decide +kernel) rfl (TO.gk (o_334 hL)) (hL.fa (v := 344) 20 1 167 (o_334 hL) rfl (by decide) rfl (by decide)).1) ?_
          obtain ⟨hc, hF⟩ := gd_of hF
          refine RK.of (RN.blk (ops := [(41, .bipush 46), (43, .iconst 3), (44, .iload_n 3), (45, .imul), (46, .iadd), (47, .iconst 2), (48, .iadd), (49, .iaload)]) (pc' := 50) (lv' := [(3, .inl x6), (0, .inr (.inr 334)), (1, .inl a1), (2, .inl a2)]) (st' := [.inl (m_rd h5 344 (m_w32 ((m_w32 (46 + (m_w32 (3 * x6)))) + 2)))]) (h' := h5) (cs := [GI h5 344 1 (m_w32 ((m_w32 (46 + (m_w32 (3 * x6)))) + 2))]) (by decide +kernel) rfl ⟨(a_344 hL).gi hc.1.1 hc.1.2, trivial⟩) ?_
          refine RK.of (RN.goto (off := 14) (tgt := 64) (by decide +kernel)) ?_
          exact RK.iR (by decide +kernel) rfl hL hK hF
        · refine RK.of (RN.ift (cd := .ne) (off := 19) (tgt := 53) (by decide +kernel) (mif_ne hb)) ?_
          refine RK.of (RN.blk (ops := [(53, .aload_n 0)]) (pc' := 54) (lv' := [(3, .inl x6), (0, .inr (.inr 334)), (1, .inl a1), (2, .inl a2)]) (st' := [.inr (.inr 334)]) (h' := h5) (cs := []) (by decide +kernel) rfl trivial) ?_
          refine RK.of (RN.gr (i := 39) (ci := 12) (k := 20) (fn := true) (v := 344) (by decide +kernel) rfl (TO.gk (o_334 hL)) (hL.fa (v := 344) 20 1 167 (o_334 hL) rfl (by decide) rfl (by decide)).1) ?_
          obtain ⟨hc, hF⟩ := gd_of hF
          refine RK.of (RN.blk (ops := [(57, .bipush 46), (59, .iconst 3), (60, .iload_n 3), (61, .imul), (62, .iadd), (63, .iaload)]) (pc' := 64) (lv' := [(3, .inl x6), (0, .inr (.inr 334)), (1, .inl a1), (2, .inl a2)]) (st' := [.inl (m_rd h5 344 (m_w32 (46 + (m_w32 (3 * x6)))))]) (h' := h5) (cs := [GI h5 344 1 (m_w32 (46 + (m_w32 (3 * x6))))]) (by decide +kernel) rfl ⟨(a_344 hL).gi hc.1.1 hc.1.2, trivial⟩) ?_
          exact RK.iR (by decide +kernel) rfl hL hK hF
noncomputable def GX12_isReading_L24 (K0 : MH → Option (Int × MH)) (K1 : Int → MH → Option (Int × MH)) : Nat → Int → Int → MH → Option (Int × MH)
  | 0, _, _, _ => none
  | f + 1, v2, v3, h =>
    (if v3 < 0 then
     K1 v2 h
    else
     gd [IB v3 4] (
      gd [IB v3 4] (
       (if (m_rd (m_wr h 346 v3 (Int.tmod v2 10)) 346 v3) = 9 then
        GX12_isReading_L24 K0 K1 f (m_w32 (Int.tdiv v2 10)) (m_w32 (v3 + (-1))) (m_wr h 346 v3 (Int.tmod v2 10))
       else
        gd [IB v3 4] (
         (if (m_rd (m_wr h 346 v3 (Int.tmod v2 10)) 346 v3) < (m_rd (m_wr h 346 v3 (Int.tmod v2 10)) 344 1) then
          GX12_isReading_L24 K0 K1 f (m_w32 (Int.tdiv v2 10)) (m_w32 (v3 + (-1))) (m_wr h 346 v3 (Int.tmod v2 10))
         else
          K0 (m_wr h 346 v3 (Int.tmod v2 10))))))))
theorem DX12_isReading_L24 {d : Nat} {K0 : MH → Option (Int × MH)} {K1 : Int → MH → Option (Int × MH)} {r : Int × MH} {h0 hB : MH} (hB0 : KD h0 hB) (hK0 : ∀ (h : MH), LR h → KD hB h → K0 h = some r → RK xs L iX12_isReading (d + 1) 69 [] [] h (RIo r) h0 r.2) (hK1 : ∀ (w2 : Int) (h : MH), LR h → KD hB h → K1 w2 h = some r → RK xs L iX12_isReading (d + 1) 77 [(2, .inl w2)] [] h (RIo r) h0 r.2) : ∀ (f : Nat) (v2 : Int) (v3 : Int) (h : MH), LR h → KD hB h → GX12_isReading_L24 K0 K1 f v2 v3 h = some r → RK xs L iX12_isReading (d + 1) 24 [(0, .inr (.inr 334)), (2, .inl v2), (3, .inl v3)] [] h (RIo r) h0 r.2 := by
  intro f
  induction f with
  | zero =>
    intro v2 v3 h hL hJ hF
    cases hF
  | succ f ih =>
    intro v2 v3 h hL hJ hF
    unfold GX12_isReading_L24 at hF
    have hK := hB0.tr hJ
    refine RK.of (RN.blk (ops := [(24, .iload_n 3)]) (pc' := 25) (lv' := [(0, .inr (.inr 334)), (2, .inl v2), (3, .inl v3)]) (st' := [.inl v3]) (h' := h) (cs := []) (by decide +kernel) rfl trivial) ?_
    rcases it_of hF with ⟨hb, hF⟩ | ⟨hb, hF⟩
    · refine RK.of (RN.ift (cd := .lt) (off := 52) (tgt := 77) (by decide +kernel) (mif_lt hb)) ?_
      exact RK.sub (hK1 _ _ hL hJ hF) (sub_cons rfl sub_nil)
    · refine RK.of (RN.iff (cd := .lt) (off := 52) (tgt := 77) (by decide +kernel) (mif_ltn hb)) ?_
      refine RK.of (RN.blk (ops := [(28, .aload_n 0)]) (pc' := 29) (lv' := [(0, .inr (.inr 334)), (2, .inl v2), (3, .inl v3)]) (st' := [.inr (.inr 334)]) (h' := h) (cs := []) (by decide +kernel) rfl trivial) ?_
      refine RK.of (RN.gr (i := 49) (ci := 12) (k := 26) (fn := true) (v := 346) (by decide +kernel) rfl (TO.gk (o_334 hL)) (hL.fa (v := 346) 26 1 4 (o_334 hL) rfl (by decide) rfl (by decide)).1) ?_
      obtain ⟨hc, hF⟩ := gd_of hF
      refine RK.of (RN.blk (ops := [(32, .iload_n 3), (33, .iload_n 2), (34, .bipush 10), (36, .irem), (37, .iastore)]) (pc' := 38) (lv' := [(0, .inr (.inr 334)), (2, .inl v2), (3, .inl v3)]) (st' := []) (h' := (m_wr h 346 v3 (Int.tmod v2 10))) (cs := [(10 : Int) ≠ 0, GI h 346 1 v3]) (by decide +kernel) rfl ⟨(by decide), (a_346 hL).gi hc.1.1 hc.1.2, trivial⟩) ?_
      have hL : LR (m_wr h 346 v3 (Int.tmod v2 10)) := hL.wa (TA.le5 (a_346 hL) (by decide))
      have hK := hK.tr (KD.wr : KD h (m_wr h 346 v3 (Int.tmod v2 10)))
      have hJ := hJ.tr (KD.wr : KD h (m_wr h 346 v3 (Int.tmod v2 10)))
      refine RK.of (RN.blk (ops := [(38, .iload_n 2), (39, .bipush 10), (41, .idiv), (42, .istore_n 2), (43, .aload_n 0)]) (pc' := 44) (lv' := [(2, .inl (m_w32 (Int.tdiv v2 10))), (0, .inr (.inr 334)), (3, .inl v3)]) (st' := [.inr (.inr 334)]) (h' := (m_wr h 346 v3 (Int.tmod v2 10))) (cs := [(10 : Int) ≠ 0]) (by decide +kernel) rfl ⟨(by decide), trivial⟩) ?_
      refine RK.of (RN.gr (i := 49) (ci := 12) (k := 26) (fn := true) (v := 346) (by decide +kernel) rfl (TO.gk (o_334 hL)) (hL.fa (v := 346) 26 1 4 (o_334 hL) rfl (by decide) rfl (by decide)).1) ?_
      obtain ⟨hc, hF⟩ := gd_of hF
      refine RK.of (RN.blk (ops := [(47, .iload_n 3), (48, .iaload), (49, .bipush 9)]) (pc' := 51) (lv' := [(2, .inl (m_w32 (Int.tdiv v2 10))), (0, .inr (.inr 334)), (3, .inl v3)]) (st' := [.inl 9, .inl (m_rd (m_wr h 346 v3 (Int.tmod v2 10)) 346 v3)]) (h' := (m_wr h 346 v3 (Int.tmod v2 10))) (cs := [GI (m_wr h 346 v3 (Int.tmod v2 10)) 346 1 v3]) (by decide +kernel) rfl ⟨(a_346 hL).gi hc.1.1 hc.1.2, trivial⟩) ?_
      rcases it_of hF with ⟨hb, hF⟩ | ⟨hb, hF⟩
      · refine RK.of (RN.ict (cd := .eq) (off := 20) (tgt := 71) (by decide +kernel) (mif_eq hb)) ?_
        refine RK.of (RN.blk (ops := [(71, .iinc 3 (-1))]) (pc' := 74) (lv' := [(3, .inl (m_w32 (v3 + (-1)))), (2, .inl (m_w32 (Int.tdiv v2 10))), (0, .inr (.inr 334))]) (st' := []) (h' := (m_wr h 346 v3 (Int.tmod v2 10))) (cs := []) (by decide +kernel) rfl trivial) ?_
        refine RK.of (RN.goto (off := -50) (tgt := 24) (by decide +kernel)) ?_
        exact RK.sub (ih _ _ _ hL hJ hF) (sub_cons rfl (sub_cons rfl (sub_cons rfl sub_nil)))
      · refine RK.of (RN.icf (cd := .eq) (off := 20) (tgt := 71) (by decide +kernel) (mif_eqn hb)) ?_
        refine RK.of (RN.blk (ops := [(54, .aload_n 0)]) (pc' := 55) (lv' := [(2, .inl (m_w32 (Int.tdiv v2 10))), (0, .inr (.inr 334)), (3, .inl v3)]) (st' := [.inr (.inr 334)]) (h' := (m_wr h 346 v3 (Int.tmod v2 10))) (cs := []) (by decide +kernel) rfl trivial) ?_
        refine RK.of (RN.gr (i := 49) (ci := 12) (k := 26) (fn := true) (v := 346) (by decide +kernel) rfl (TO.gk (o_334 hL)) (hL.fa (v := 346) 26 1 4 (o_334 hL) rfl (by decide) rfl (by decide)).1) ?_
        obtain ⟨hc, hF⟩ := gd_of hF
        refine RK.of (RN.blk (ops := [(58, .iload_n 3), (59, .iaload), (60, .aload_n 0)]) (pc' := 61) (lv' := [(2, .inl (m_w32 (Int.tdiv v2 10))), (0, .inr (.inr 334)), (3, .inl v3)]) (st' := [.inr (.inr 334), .inl (m_rd (m_wr h 346 v3 (Int.tmod v2 10)) 346 v3)]) (h' := (m_wr h 346 v3 (Int.tmod v2 10))) (cs := [GI (m_wr h 346 v3 (Int.tmod v2 10)) 346 1 v3]) (by decide +kernel) rfl ⟨(a_346 hL).gi hc.1.1 hc.1.2, trivial⟩) ?_
        refine RK.of (RN.gr (i := 39) (ci := 12) (k := 20) (fn := true) (v := 344) (by decide +kernel) rfl (TO.gk (o_334 hL)) (hL.fa (v := 344) 20 1 167 (o_334 hL) rfl (by decide) rfl (by decide)).1) ?_
        refine RK.of (RN.blk (ops := [(64, .iconst 1), (65, .iaload)]) (pc' := 66) (lv' := [(2, .inl (m_w32 (Int.tdiv v2 10))), (0, .inr (.inr 334)), (3, .inl v3)]) (st' := [.inl (m_rd (m_wr h 346 v3 (Int.tmod v2 10)) 344 1), .inl (m_rd (m_wr h 346 v3 (Int.tmod v2 10)) 346 v3)]) (h' := (m_wr h 346 v3 (Int.tmod v2 10))) (cs := [GI (m_wr h 346 v3 (Int.tmod v2 10)) 344 1 1]) (by decide +kernel) rfl ⟨(a_344 hL).gi (by decide) (by decide), trivial⟩) ?_
        rcases it_of hF with ⟨hb, hF⟩ | ⟨hb, hF⟩
        · refine RK.of (RN.ict (cd := .lt) (off := 5) (tgt := 71) (by decide +kernel) (mif_lt hb)) ?_
          refine RK.of (RN.blk (ops := [(71, .iinc 3 (-1))]) (pc' := 74) (lv' := [(3, .inl (m_w32 (v3 + (-1)))), (2, .inl (m_w32 (Int.tdiv v2 10))), (0, .inr (.inr 334))]) (st' := []) (h' := (m_wr h 346 v3 (Int.tmod v2 10))) (cs := []) (by decide +kernel) rfl trivial) ?_
          refine RK.of (RN.goto (off := -50) (tgt := 24) (by decide +kernel)) ?_
          exact RK.sub (ih _ _ _ hL hJ hF) (sub_cons rfl (sub_cons rfl (sub_cons rfl sub_nil)))
        · refine RK.of (RN.icf (cd := .lt) (off := 5) (tgt := 71) (by decide +kernel) (mif_ltn hb)) ?_
          exact RK.sub (hK0 _ hL hJ hF) sub_nil
noncomputable def GX12_isReading (a1 : Int) (h : MH) : Option (Int × MH) :=
  (bd (GX12_isFrame h) (fun x2 h1 =>
   (if x2 = 0 then
    some (0, h1)
   else
    (if a1 < 0 then
     some (0, h1)
    else
     GX12_isReading_L24 (fun h3 =>
      some (0, h3)) (fun w4 h5 =>
      (if w4 = 0 then
       some (1, h5)
      else
       some (0, h5))) FU a1 (m_w32 ((m_rd h1 344 2) - 1)) h1))))
theorem DX12_isReading {d : Nat} {a1 : Int} {h : MH} {r : Int × MH} (hL : LR h) (hF : GX12_isReading a1 h = some r) : RN xs L iX12_isReading (d + 1) 0 (lvE 0 [.inr (.inr 334), .inl a1]) [] h (RIo r) ∧ LR r.2 ∧ KD h r.2 := by
  unfold GX12_isReading at hF
  have hK : KD h h := KD.rf
  show RK xs L iX12_isReading (d + 1) 0 (lvE 0 [.inr (.inr 334), .inl a1]) [] h (RIo r) h r.2
  refine RK.of (RN.blk (ops := [(0, .aload_n 0)]) (pc' := 1) (lv' := [(0, .inr (.inr 334)), (1, .inl a1)]) (st' := [.inr (.inr 334)]) (h' := h) (cs := []) (by decide +kernel) rfl trivial) ?_
  obtain ⟨x2, h1, hG, hF⟩ := bd_of hF
  have hq := rcv_ok (as := []) (TO.gk (o_334 hL))
  obtain ⟨hN, hL, hQ⟩ := DX12_isFrame (d := d) hL  hG
  refine RK.of (RN.cv (i := 295) (k := 202) (q2 := iX12_isFrame) (as := [.inr (.inr 334)]) (r := []) (v := some (.inl x2)) (h1 := h1) (by decide +kernel) rfl rfl rfl rfl rfl hq hN) ?_
  have hK := hK.tr hQ
  rcases it_of hF with ⟨hb, hF⟩ | ⟨hb, hF⟩
  · refine RK.of (RN.ift (cd := .eq) (off := 7) (tgt := 11) (by decide +kernel) (mif_eq hb)) ?_
    refine RK.of (RN.blk (ops := [(11, .iconst 0)]) (pc' := 12) (lv' := [(0, .inr (.inr 334)), (1, .inl a1)]) (st' := [.inl 0]) (h' := h1) (cs := []) (by decide +kernel) rfl trivial) ?_
    exact RK.zR (by decide +kernel) rfl (Or.inl rfl) hL hK hF
  · refine RK.of (RN.iff (cd := .eq) (off := 7) (tgt := 11) (by decide +kernel) (mif_eqn hb)) ?_
    refine RK.of (RN.blk (ops := [(7, .iload_n 1)]) (pc' := 8) (lv' := [(0, .inr (.inr 334)), (1, .inl a1)]) (st' := [.inl a1]) (h' := h1) (cs := []) (by decide +kernel) rfl trivial) ?_
    rcases it_of hF with ⟨hb, hF⟩ | ⟨hb, hF⟩
    · refine RK.of (RN.iff (cd := .ge) (off := 5) (tgt := 13) (by decide +kernel) (mif_gen hb)) ?_
      refine RK.of (RN.blk (ops := [(11, .iconst 0)]) (pc' := 12) (lv' := [(0, .inr (.inr 334)), (1, .inl a1)]) (st' := [.inl 0]) (h' := h1) (cs := []) (by decide +kernel) rfl trivial) ?_
      exact RK.zR (by decide +kernel) rfl (Or.inl rfl) hL hK hF
    · refine RK.of (RN.ift (cd := .ge) (off := 5) (tgt := 13) (by decide +kernel) (mif_ge hb)) ?_
      refine RK.of (RN.blk (ops := [(13, .iload_n 1), (14, .istore_n 2), (15, .aload_n 0)]) (pc' := 16) (lv' := [(2, .inl a1), (0, .inr (.inr 334)), (1, .inl a1)]) (st' := [.inr (.inr 334)]) (h' := h1) (cs := []) (by decide +kernel) rfl trivial) ?_
      refine RK.of (RN.gr (i := 39) (ci := 12) (k := 20) (fn := true) (v := 344) (by decide +kernel) rfl (TO.gk (o_334 hL)) (hL.fa (v := 344) 20 1 167 (o_334 hL) rfl (by decide) rfl (by decide)).1) ?_
      refine RK.of (RN.blk (ops := [(19, .iconst 2), (20, .iaload), (21, .iconst 1), (22, .isub), (23, .istore_n 3)]) (pc' := 24) (lv' := [(3, .inl (m_w32 ((m_rd h1 344 2) - 1))), (2, .inl a1), (0, .inr (.inr 334)), (1, .inl a1)]) (st' := []) (h' := h1) (cs := [GI h1 344 1 2]) (by decide +kernel) rfl ⟨(a_344 hL).gi (by decide) (by decide), trivial⟩) ?_
      refine RK.sub (DX12_isReading_L24 hK ?_ ?_ _ _ _ _ hL KD.rf hF) (sub_cons rfl (sub_cons rfl (sub_cons rfl sub_nil)))
      · intro h3 hL hq hF
        have hK := hK.tr hq
        refine RK.of (RN.blk (ops := [(69, .iconst 0)]) (pc' := 70) (lv' := []) (st' := [.inl 0]) (h' := h3) (cs := []) (by decide +kernel) rfl trivial) ?_
        exact RK.zR (by decide +kernel) rfl (Or.inl rfl) hL hK hF
      · intro w4 h5 hL hq hF
        have hK := hK.tr hq
        refine RK.of (RN.blk (ops := [(77, .iload_n 2)]) (pc' := 78) (lv' := [(2, .inl w4)]) (st' := [.inl w4]) (h' := h5) (cs := []) (by decide +kernel) rfl trivial) ?_
        rcases it_of hF with ⟨hb, hF⟩ | ⟨hb, hF⟩
        · refine RK.of (RN.iff (cd := .ne) (off := 7) (tgt := 85) (by decide +kernel) (mif_nen hb)) ?_
          refine RK.of (RN.blk (ops := [(81, .iconst 1)]) (pc' := 82) (lv' := [(2, .inl w4)]) (st' := [.inl 1]) (h' := h5) (cs := []) (by decide +kernel) rfl trivial) ?_
          refine RK.of (RN.goto (off := 4) (tgt := 86) (by decide +kernel)) ?_
          exact RK.zR (by decide +kernel) rfl (Or.inr rfl) hL hK hF
        · refine RK.of (RN.ift (cd := .ne) (off := 7) (tgt := 85) (by decide +kernel) (mif_ne hb)) ?_
          refine RK.of (RN.blk (ops := [(85, .iconst 0)]) (pc' := 86) (lv' := [(2, .inl w4)]) (st' := [.inl 0]) (h' := h5) (cs := []) (by decide +kernel) rfl trivial) ?_
          exact RK.zR (by decide +kernel) rfl (Or.inl rfl) hL hK hF
end Gc
