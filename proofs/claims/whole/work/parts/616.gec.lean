/-! METHODS AS FUNCTIONS, references resolved (by program): X12_sorted, X12_tied, X12_isTiedIn, X12_enough, X12_pence, X12_note, X12_areNotesSo, X12_areAllSo, X12_fillsFits, X12_ruled, X12_alikeAt -/
section Gc
variable {xs : Int → Int} {L : Int}
noncomputable def GX12_sorted_L18 (K0 : Int → MH → Option (Int × MH)) : Nat → Int → Int → MH → Option (Int × MH)
  | 0, _, _, _ => none
  | f + 1, v1, v2, h =>
    (if v2 < 200 then
     (if v1 < 0 then
      (bd (GX12_passes h) (fun x2 h1 =>
       (if (m_rd h1 344 12) = 0 then
        GX12_sorted_L18 K0 f (m_w32 ((m_rd h1 344 10) - 1)) (m_w32 (v2 + 1)) h1
       else
        GX12_sorted_L18 K0 f v1 (m_w32 (v2 + 1)) h1)))
     else
      K0 v1 h)
    else
     K0 v1 h)
theorem DX12_sorted_L18 {d : Nat} {K0 : Int → MH → Option (Int × MH)} {r : Int × MH} {h0 hB : MH} (hB0 : KD h0 hB) (hK0 : ∀ (w1 : Int) (h : MH), LR h → KD hB h → K0 w1 h = some r → RK xs L iX12_sorted (d + 7) 60 [(0, .inr (.inr 334)), (1, .inl w1)] [] h (RIo r) h0 r.2) : ∀ (f : Nat) (v1 : Int) (v2 : Int) (h : MH), LR h → KD hB h → GX12_sorted_L18 K0 f v1 v2 h = some r → RK xs L iX12_sorted (d + 7) 18 [(0, .inr (.inr 334)), (1, .inl v1), (2, .inl v2)] [] h (RIo r) h0 r.2 := by
  intro f
  induction f with
  | zero =>
    intro v1 v2 h hL hJ hF
    cases hF
  | succ f ih =>
    intro v1 v2 h hL hJ hF
    unfold GX12_sorted_L18 at hF
    have hK := hB0.tr hJ
    refine RK.of (RN.blk (ops := [(18, .iload_n 2), (19, .sipush 200)]) (pc' := 22) (lv' := [(0, .inr (.inr 334)), (1, .inl v1), (2, .inl v2)]) (st' := [.inl 200, .inl v2]) (h' := h) (cs := []) (by decide +kernel) rfl trivial) ?_
    rcases it_of hF with ⟨hb, hF⟩ | ⟨hb, hF⟩
    · refine RK.of (RN.icf (cd := .ge) (off := 38) (tgt := 60) (by decide +kernel) (mif_gen hb)) ?_
      refine RK.of (RN.blk (ops := [(25, .iload_n 1)]) (pc' := 26) (lv' := [(0, .inr (.inr 334)), (1, .inl v1), (2, .inl v2)]) (st' := [.inl v1]) (h' := h) (cs := []) (by decide +kernel) rfl trivial) ?_
      rcases it_of hF with ⟨hb, hF⟩ | ⟨hb, hF⟩
      · refine RK.of (RN.iff (cd := .ge) (off := 34) (tgt := 60) (by decide +kernel) (mif_gen hb)) ?_
        refine RK.of (RN.blk (ops := [(29, .aload_n 0)]) (pc' := 30) (lv' := [(0, .inr (.inr 334)), (1, .inl v1), (2, .inl v2)]) (st' := [.inr (.inr 334)]) (h' := h) (cs := []) (by decide +kernel) rfl trivial) ?_
        obtain ⟨x2, h1, hG, hF⟩ := bd_of hF
        have hq := rcv_ok (as := []) (TO.gk (o_334 hL))
        obtain ⟨hN, hL, hQ⟩ := DX12_passes (d := d) hL  hG
        refine RK.of (RN.cv (i := 350) (k := 222) (q2 := iX12_passes) (as := [.inr (.inr 334)]) (r := []) (v := some (.inl x2)) (h1 := h1) (by decide +kernel) rfl rfl rfl rfl rfl hq hN) ?_
        have hK := hK.tr hQ
        have hJ := hJ.tr hQ
        refine RK.of (RN.blk (ops := [(33, .pop), (34, .aload_n 0)]) (pc' := 35) (lv' := [(0, .inr (.inr 334)), (1, .inl v1), (2, .inl v2)]) (st' := [.inr (.inr 334)]) (h' := h1) (cs := []) (by decide +kernel) rfl trivial) ?_
        refine RK.of (RN.gr (i := 39) (ci := 12) (k := 20) (fn := true) (v := 344) (by decide +kernel) rfl (TO.gk (o_334 hL)) (hL.fa (v := 344) 20 1 167 (o_334 hL) rfl (by decide) rfl (by decide)).1) ?_
        refine RK.of (RN.blk (ops := [(38, .bipush 12), (40, .iaload)]) (pc' := 41) (lv' := [(0, .inr (.inr 334)), (1, .inl v1), (2, .inl v2)]) (st' := [.inl (m_rd h1 344 12)]) (h' := h1) (cs := [GI h1 344 1 12]) (by decide +kernel) rfl ⟨(a_344 hL).gi (by decide) (by decide), trivial⟩) ?_
        rcases it_of hF with ⟨hb, hF⟩ | ⟨hb, hF⟩
        · refine RK.of (RN.iff (cd := .ne) (off := 13) (tgt := 54) (by decide +kernel) (mif_nen hb)) ?_
          refine RK.of (RN.blk (ops := [(44, .aload_n 0)]) (pc' := 45) (lv' := [(0, .inr (.inr 334)), (1, .inl v1), (2, .inl v2)]) (st' := [.inr (.inr 334)]) (h' := h1) (cs := []) (by decide +kernel) rfl trivial) ?_
          refine RK.of (RN.gr (i := 39) (ci := 12) (k := 20) (fn := true) (v := 344) (by decide +kernel) rfl (TO.gk (o_334 hL)) (hL.fa (v := 344) 20 1 167 (o_334 hL) rfl (by decide) rfl (by decide)).1) ?_
          refine RK.of (RN.blk (ops := [(48, .bipush 10), (50, .iaload), (51, .iconst 1), (52, .isub), (53, .istore_n 1)]) (pc' := 54) (lv' := [(1, .inl (m_w32 ((m_rd h1 344 10) - 1))), (0, .inr (.inr 334)), (2, .inl v2)]) (st' := []) (h' := h1) (cs := [GI h1 344 1 10]) (by decide +kernel) rfl ⟨(a_344 hL).gi (by decide) (by decide), trivial⟩) ?_
          refine RK.of (RN.blk (ops := [(54, .iinc 2 1)]) (pc' := 57) (lv' := [(2, .inl (m_w32 (v2 + 1))), (1, .inl (m_w32 ((m_rd h1 344 10) - 1))), (0, .inr (.inr 334))]) (st' := []) (h' := h1) (cs := []) (by decide +kernel) rfl trivial) ?_
          refine RK.of (RN.goto (off := -39) (tgt := 18) (by decide +kernel)) ?_
          exact RK.sub (ih _ _ _ hL hJ hF) (sub_cons rfl (sub_cons rfl (sub_cons rfl sub_nil)))
        · refine RK.of (RN.ift (cd := .ne) (off := 13) (tgt := 54) (by decide +kernel) (mif_ne hb)) ?_
          refine RK.of (RN.blk (ops := [(54, .iinc 2 1)]) (pc' := 57) (lv' := [(2, .inl (m_w32 (v2 + 1))), (0, .inr (.inr 334)), (1, .inl v1)]) (st' := []) (h' := h1) (cs := []) (by decide +kernel) rfl trivial) ?_
          refine RK.of (RN.goto (off := -39) (tgt := 18) (by decide +kernel)) ?_
          exact RK.sub (ih _ _ _ hL hJ hF) (sub_cons rfl (sub_cons rfl (sub_cons rfl sub_nil)))
      · refine RK.of (RN.ift (cd := .ge) (off := 34) (tgt := 60) (by decide +kernel) (mif_ge hb)) ?_
        exact RK.sub (hK0 _ _ hL hJ hF) (sub_cons rfl (sub_cons rfl sub_nil))
    · refine RK.of (RN.ict (cd := .ge) (off := 38) (tgt := 60) (by decide +kernel) (mif_ge hb)) ?_
      exact RK.sub (hK0 _ _ hL hJ hF) (sub_cons rfl (sub_cons rfl sub_nil))
noncomputable def GX12_sorted (h : MH) : Option (Int × MH) :=
  (bd (GX12_isFrame h) (fun x2 h1 =>
   (if x2 = 0 then
    some ((-1), h1)
   else
    (bv (GX12_keeps h1) (fun h3 =>
     GX12_sorted_L18 (fun w4 h5 =>
      (bv (GX12_laysBack h5) (fun h6 =>
       some (w4, h6)))) FU (-2) 0 h3)))))
theorem DX12_sorted {d : Nat} {h : MH} {r : Int × MH} (hL : LR h) (hF : GX12_sorted h = some r) : RN xs L iX12_sorted (d + 7) 0 (lvE 0 [.inr (.inr 334)]) [] h (RIo r) ∧ LR r.2 ∧ KD h r.2 := by
  unfold GX12_sorted at hF
  have hK : KD h h := KD.rf
  show RK xs L iX12_sorted (d + 7) 0 (lvE 0 [.inr (.inr 334)]) [] h (RIo r) h r.2
  refine RK.of (RN.blk (ops := [(0, .aload_n 0)]) (pc' := 1) (lv' := [(0, .inr (.inr 334))]) (st' := [.inr (.inr 334)]) (h' := h) (cs := []) (by decide +kernel) rfl trivial) ?_
  obtain ⟨x2, h1, hG, hF⟩ := bd_of hF
  have hq := rcv_ok (as := []) (TO.gk (o_334 hL))
  obtain ⟨hN, hL, hQ⟩ := DX12_isFrame (d := d + 6) hL  hG
  refine RK.of (RN.cv (i := 295) (k := 202) (q2 := iX12_isFrame) (as := [.inr (.inr 334)]) (r := []) (v := some (.inl x2)) (h1 := h1) (by decide +kernel) rfl rfl rfl rfl rfl hq hN) ?_
  have hK := hK.tr hQ
  rcases it_of hF with ⟨hb, hF⟩ | ⟨hb, hF⟩
  · refine RK.of (RN.iff (cd := .ne) (off := 5) (tgt := 9) (by decide +kernel) (mif_nen hb)) ?_
    refine RK.of (RN.blk (ops := [(7, .iconst (-1))]) (pc' := 8) (lv' := [(0, .inr (.inr 334))]) (st' := [.inl (-1)]) (h' := h1) (cs := []) (by decide +kernel) rfl trivial) ?_
    exact RK.iR (by decide +kernel) rfl hL hK hF
  · refine RK.of (RN.ift (cd := .ne) (off := 5) (tgt := 9) (by decide +kernel) (mif_ne hb)) ?_
    refine RK.of (RN.blk (ops := [(9, .bipush (-2)), (11, .istore_n 1), (12, .aload_n 0)]) (pc' := 13) (lv' := [(1, .inl (-2)), (0, .inr (.inr 334))]) (st' := [.inr (.inr 334)]) (h' := h1) (cs := []) (by decide +kernel) rfl trivial) ?_
    obtain ⟨h3, hG, hF⟩ := bv_of hF
    have hq := rcv_ok (as := []) (TO.gk (o_334 hL))
    obtain ⟨hN, hL, hQ⟩ := DX12_keeps (d := d + 6) hL  hG
    refine RK.of (RN.cv (i := 422) (k := 253) (q2 := iX12_keeps) (as := [.inr (.inr 334)]) (r := []) (v := none) (h1 := h3) (by decide +kernel) rfl rfl rfl rfl rfl hq hN) ?_
    have hK := hK.tr hQ
    refine RK.of (RN.blk (ops := [(16, .iconst 0), (17, .istore_n 2)]) (pc' := 18) (lv' := [(2, .inl 0), (1, .inl (-2)), (0, .inr (.inr 334))]) (st' := []) (h' := h3) (cs := []) (by decide +kernel) rfl trivial) ?_
    refine RK.sub (DX12_sorted_L18 hK ?_ _ _ _ _ hL KD.rf hF) (sub_cons rfl (sub_cons rfl (sub_cons rfl sub_nil)))
    · intro w4 h5 hL hq hF
      have hK := hK.tr hq
      refine RK.of (RN.blk (ops := [(60, .aload_n 0)]) (pc' := 61) (lv' := [(0, .inr (.inr 334)), (1, .inl w4)]) (st' := [.inr (.inr 334)]) (h' := h5) (cs := []) (by decide +kernel) rfl trivial) ?_
      obtain ⟨h6, hG, hF⟩ := bv_of hF
      have hq := rcv_ok (as := []) (TO.gk (o_334 hL))
      obtain ⟨hN, hL, hQ⟩ := DX12_laysBack (d := d + 6) hL  hG
      refine RK.of (RN.cv (i := 414) (k := 254) (q2 := iX12_laysBack) (as := [.inr (.inr 334)]) (r := []) (v := none) (h1 := h6) (by decide +kernel) rfl rfl rfl rfl rfl hq hN) ?_
      have hK := hK.tr hQ
      refine RK.of (RN.blk (ops := [(64, .iload_n 1)]) (pc' := 65) (lv' := [(0, .inr (.inr 334)), (1, .inl w4)]) (st' := [.inl w4]) (h' := h6) (cs := []) (by decide +kernel) rfl trivial) ?_
      exact RK.iR (by decide +kernel) rfl hL hK hF
noncomputable def GX12_tied_L19 (u1 : Int) (K0 : Int → MH → Option (Int × MH)) : Nat → Int → Int → MH → Option (Int × MH)
  | 0, _, _, _ => none
  | f + 1, v2, v3, h =>
    (if v3 < 200 then
     (if v2 < 0 then
      (bd (GX12_passes h) (fun x2 h1 =>
       (if (m_rd h1 334 23) = u1 then
        GX12_tied_L19 u1 K0 f (m_w32 ((m_rd h1 344 10) - 1)) (m_w32 (v3 + 1)) h1
       else
        GX12_tied_L19 u1 K0 f v2 (m_w32 (v3 + 1)) h1)))
     else
      K0 v2 h)
    else
     K0 v2 h)
theorem DX12_tied_L19 {d : Nat} {u1 : Int} {K0 : Int → MH → Option (Int × MH)} {r : Int × MH} {h0 hB : MH} (hB0 : KD h0 hB) (hK0 : ∀ (w2 : Int) (h : MH), LR h → KD hB h → K0 w2 h = some r → RK xs L iX12_tied (d + 7) 59 [(0, .inr (.inr 334)), (2, .inl w2)] [] h (RIo r) h0 r.2) : ∀ (f : Nat) (v2 : Int) (v3 : Int) (h : MH), LR h → KD hB h → GX12_tied_L19 u1 K0 f v2 v3 h = some r → RK xs L iX12_tied (d + 7) 19 [(0, .inr (.inr 334)), (1, .inl u1), (2, .inl v2), (3, .inl v3)] [] h (RIo r) h0 r.2 := by
  intro f
  induction f with
  | zero =>
    intro v2 v3 h hL hJ hF
    cases hF
  | succ f ih =>
    intro v2 v3 h hL hJ hF
    unfold GX12_tied_L19 at hF
    have hK := hB0.tr hJ
    refine RK.of (RN.blk (ops := [(19, .iload_n 3), (20, .sipush 200)]) (pc' := 23) (lv' := [(0, .inr (.inr 334)), (1, .inl u1), (2, .inl v2), (3, .inl v3)]) (st' := [.inl 200, .inl v3]) (h' := h) (cs := []) (by decide +kernel) rfl trivial) ?_
    rcases it_of hF with ⟨hb, hF⟩ | ⟨hb, hF⟩
    · refine RK.of (RN.icf (cd := .ge) (off := 36) (tgt := 59) (by decide +kernel) (mif_gen hb)) ?_
      refine RK.of (RN.blk (ops := [(26, .iload_n 2)]) (pc' := 27) (lv' := [(0, .inr (.inr 334)), (1, .inl u1), (2, .inl v2), (3, .inl v3)]) (st' := [.inl v2]) (h' := h) (cs := []) (by decide +kernel) rfl trivial) ?_
      rcases it_of hF with ⟨hb, hF⟩ | ⟨hb, hF⟩
      · refine RK.of (RN.iff (cd := .ge) (off := 32) (tgt := 59) (by decide +kernel) (mif_gen hb)) ?_
        refine RK.of (RN.blk (ops := [(30, .aload_n 0)]) (pc' := 31) (lv' := [(0, .inr (.inr 334)), (1, .inl u1), (2, .inl v2), (3, .inl v3)]) (st' := [.inr (.inr 334)]) (h' := h) (cs := []) (by decide +kernel) rfl trivial) ?_
        obtain ⟨x2, h1, hG, hF⟩ := bd_of hF
        have hq := rcv_ok (as := []) (TO.gk (o_334 hL))
        obtain ⟨hN, hL, hQ⟩ := DX12_passes (d := d) hL  hG
        refine RK.of (RN.cv (i := 350) (k := 222) (q2 := iX12_passes) (as := [.inr (.inr 334)]) (r := []) (v := some (.inl x2)) (h1 := h1) (by decide +kernel) rfl rfl rfl rfl rfl hq hN) ?_
        have hK := hK.tr hQ
        have hJ := hJ.tr hQ
        refine RK.of (RN.blk (ops := [(34, .pop), (35, .aload_n 0), (36, .getfield 335), (39, .iload_n 1)]) (pc' := 40) (lv' := [(0, .inr (.inr 334)), (1, .inl u1), (2, .inl v2), (3, .inl v3)]) (st' := [.inl u1, .inl (m_rd h1 334 23)]) (h' := h1) (cs := [GK h1 334 12]) (by decide +kernel) rfl ⟨(o_334 hL).gk, trivial⟩) ?_
        rcases it_of hF with ⟨hb, hF⟩ | ⟨hb, hF⟩
        · refine RK.of (RN.icf (cd := .ne) (off := 13) (tgt := 53) (by decide +kernel) (mif_nen hb)) ?_
          refine RK.of (RN.blk (ops := [(43, .aload_n 0)]) (pc' := 44) (lv' := [(0, .inr (.inr 334)), (1, .inl u1), (2, .inl v2), (3, .inl v3)]) (st' := [.inr (.inr 334)]) (h' := h1) (cs := []) (by decide +kernel) rfl trivial) ?_
          refine RK.of (RN.gr (i := 39) (ci := 12) (k := 20) (fn := true) (v := 344) (by decide +kernel) rfl (TO.gk (o_334 hL)) (hL.fa (v := 344) 20 1 167 (o_334 hL) rfl (by decide) rfl (by decide)).1) ?_
          refine RK.of (RN.blk (ops := [(47, .bipush 10), (49, .iaload), (50, .iconst 1), (51, .isub), (52, .istore_n 2)]) (pc' := 53) (lv' := [(2, .inl (m_w32 ((m_rd h1 344 10) - 1))), (0, .inr (.inr 334)), (1, .inl u1), (3, .inl v3)]) (st' := []) (h' := h1) (cs := [GI h1 344 1 10]) (by decide +kernel) rfl ⟨(a_344 hL).gi (by decide) (by decide), trivial⟩) ?_
          refine RK.of (RN.blk (ops := [(53, .iinc 3 1)]) (pc' := 56) (lv' := [(3, .inl (m_w32 (v3 + 1))), (2, .inl (m_w32 ((m_rd h1 344 10) - 1))), (0, .inr (.inr 334)), (1, .inl u1)]) (st' := []) (h' := h1) (cs := []) (by decide +kernel) rfl trivial) ?_
          refine RK.of (RN.goto (off := -37) (tgt := 19) (by decide +kernel)) ?_
          exact RK.sub (ih _ _ _ hL hJ hF) (sub_cons rfl (sub_cons rfl (sub_cons rfl (sub_cons rfl sub_nil))))
        · refine RK.of (RN.ict (cd := .ne) (off := 13) (tgt := 53) (by decide +kernel) (mif_ne hb)) ?_
          refine RK.of (RN.blk (ops := [(53, .iinc 3 1)]) (pc' := 56) (lv' := [(3, .inl (m_w32 (v3 + 1))), (0, .inr (.inr 334)), (1, .inl u1), (2, .inl v2)]) (st' := []) (h' := h1) (cs := []) (by decide +kernel) rfl trivial) ?_
          refine RK.of (RN.goto (off := -37) (tgt := 19) (by decide +kernel)) ?_
          exact RK.sub (ih _ _ _ hL hJ hF) (sub_cons rfl (sub_cons rfl (sub_cons rfl (sub_cons rfl sub_nil))))
      · refine RK.of (RN.ift (cd := .ge) (off := 32) (tgt := 59) (by decide +kernel) (mif_ge hb)) ?_
        exact RK.sub (hK0 _ _ hL hJ hF) (sub_cons rfl (sub_cons rfl sub_nil))
    · refine RK.of (RN.ict (cd := .ge) (off := 36) (tgt := 59) (by decide +kernel) (mif_ge hb)) ?_
      exact RK.sub (hK0 _ _ hL hJ hF) (sub_cons rfl (sub_cons rfl sub_nil))
noncomputable def GX12_tied (a1 : Int) (h : MH) : Option (Int × MH) :=
  (bd (GX12_isHole a1 h) (fun x2 h1 =>
   (if x2 = 0 then
    some ((-1), h1)
   else
    (bv (GX12_keeps h1) (fun h3 =>
     GX12_tied_L19 a1 (fun w4 h5 =>
      (bv (GX12_laysBack h5) (fun h6 =>
       some (w4, h6)))) FU (-2) 0 h3)))))
theorem DX12_tied {d : Nat} {a1 : Int} {h : MH} {r : Int × MH} (hL : LR h) (hF : GX12_tied a1 h = some r) : RN xs L iX12_tied (d + 7) 0 (lvE 0 [.inr (.inr 334), .inl a1]) [] h (RIo r) ∧ LR r.2 ∧ KD h r.2 := by
  unfold GX12_tied at hF
  have hK : KD h h := KD.rf
  show RK xs L iX12_tied (d + 7) 0 (lvE 0 [.inr (.inr 334), .inl a1]) [] h (RIo r) h r.2
  refine RK.of (RN.blk (ops := [(0, .aload_n 0), (1, .iload_n 1)]) (pc' := 2) (lv' := [(0, .inr (.inr 334)), (1, .inl a1)]) (st' := [.inl a1, .inr (.inr 334)]) (h' := h) (cs := []) (by decide +kernel) rfl trivial) ?_
  obtain ⟨x2, h1, hG, hF⟩ := bd_of hF
  have hq := rcv_ok (as := [.inl a1]) (TO.gk (o_334 hL))
  obtain ⟨hN, hL, hQ⟩ := DX12_isHole (d := d + 6) hL  hG
  refine RK.of (RN.cv (i := 310) (k := 204) (q2 := iX12_isHole) (as := [.inr (.inr 334), .inl a1]) (r := []) (v := some (.inl x2)) (h1 := h1) (by decide +kernel) rfl rfl rfl rfl rfl hq hN) ?_
  have hK := hK.tr hQ
  rcases it_of hF with ⟨hb, hF⟩ | ⟨hb, hF⟩
  · refine RK.of (RN.iff (cd := .ne) (off := 5) (tgt := 10) (by decide +kernel) (mif_nen hb)) ?_
    refine RK.of (RN.blk (ops := [(8, .iconst (-1))]) (pc' := 9) (lv' := [(0, .inr (.inr 334)), (1, .inl a1)]) (st' := [.inl (-1)]) (h' := h1) (cs := []) (by decide +kernel) rfl trivial) ?_
    exact RK.iR (by decide +kernel) rfl hL hK hF
  · refine RK.of (RN.ift (cd := .ne) (off := 5) (tgt := 10) (by decide +kernel) (mif_ne hb)) ?_
    refine RK.of (RN.blk (ops := [(10, .bipush (-2)), (12, .istore_n 2), (13, .aload_n 0)]) (pc' := 14) (lv' := [(2, .inl (-2)), (0, .inr (.inr 334)), (1, .inl a1)]) (st' := [.inr (.inr 334)]) (h' := h1) (cs := []) (by decide +kernel) rfl trivial) ?_
    obtain ⟨h3, hG, hF⟩ := bv_of hF
    have hq := rcv_ok (as := []) (TO.gk (o_334 hL))
    obtain ⟨hN, hL, hQ⟩ := DX12_keeps (d := d + 6) hL  hG
    refine RK.of (RN.cv (i := 422) (k := 253) (q2 := iX12_keeps) (as := [.inr (.inr 334)]) (r := []) (v := none) (h1 := h3) (by decide +kernel) rfl rfl rfl rfl rfl hq hN) ?_
    have hK := hK.tr hQ
    refine RK.of (RN.blk (ops := [(17, .iconst 0), (18, .istore_n 3)]) (pc' := 19) (lv' := [(3, .inl 0), (2, .inl (-2)), (0, .inr (.inr 334)), (1, .inl a1)]) (st' := []) (h' := h3) (cs := []) (by decide +kernel) rfl trivial) ?_
    refine RK.sub (DX12_tied_L19 hK ?_ _ _ _ _ hL KD.rf hF) (sub_cons rfl (sub_cons rfl (sub_cons rfl (sub_cons rfl sub_nil))))
    · intro w4 h5 hL hq hF
      have hK := hK.tr hq
      refine RK.of (RN.blk (ops := [(59, .aload_n 0)]) (pc' := 60) (lv' := [(0, .inr (.inr 334)), (2, .inl w4)]) (st' := [.inr (.inr 334)]) (h' := h5) (cs := []) (by decide +kernel) rfl trivial) ?_
      obtain ⟨h6, hG, hF⟩ := bv_of hF
      have hq := rcv_ok (as := []) (TO.gk (o_334 hL))
      obtain ⟨hN, hL, hQ⟩ := DX12_laysBack (d := d + 6) hL  hG
      refine RK.of (RN.cv (i := 414) (k := 254) (q2 := iX12_laysBack) (as := [.inr (.inr 334)]) (r := []) (v := none) (h1 := h6) (by decide +kernel) rfl rfl rfl rfl rfl hq hN) ?_
      have hK := hK.tr hQ
      refine RK.of (RN.blk (ops := [(63, .iload_n 2)]) (pc' := 64) (lv' := [(0, .inr (.inr 334)), (2, .inl w4)]) (st' := [.inl w4]) (h' := h6) (cs := []) (by decide +kernel) rfl trivial) ?_
      exact RK.iR (by decide +kernel) rfl hL hK hF
noncomputable def GX12_isTiedIn_L5 (u1 : Int) (u2 : Int) (K0 : Int → MH → Option (Int × MH)) : Nat → Int → Int → MH → Option (Int × MH)
  | 0, _, _, _ => none
  | f + 1, v3, v4, h =>
    (if v4 < u2 then
     (bd (GX12_passes h) (fun x2 h1 =>
      (if v3 = 0 then
       (if (m_rd h1 334 23) = u1 then
        GX12_isTiedIn_L5 u1 u2 K0 f 1 (m_w32 (v4 + 1)) h1
       else
        GX12_isTiedIn_L5 u1 u2 K0 f 0 (m_w32 (v4 + 1)) h1)
      else
       GX12_isTiedIn_L5 u1 u2 K0 f 1 (m_w32 (v4 + 1)) h1)))
    else
     K0 v3 h)
theorem DX12_isTiedIn_L5 {d : Nat} {u1 : Int} {u2 : Int} {K0 : Int → MH → Option (Int × MH)} {r : Int × MH} {h0 hB : MH} (hB0 : KD h0 hB) (hK0 : ∀ (w3 : Int) (h : MH), LR h → KD hB h → K0 w3 h = some r → RK xs L iX12_isTiedIn (d + 7) 40 [(0, .inr (.inr 334)), (3, .inl w3)] [] h (RIo r) h0 r.2) : ∀ (f : Nat) (v3 : Int) (v4 : Int) (h : MH), LR h → KD hB h → GX12_isTiedIn_L5 u1 u2 K0 f v3 v4 h = some r → RK xs L iX12_isTiedIn (d + 7) 5 [(0, .inr (.inr 334)), (1, .inl u1), (2, .inl u2), (3, .inl v3), (4, .inl v4)] [] h (RIo r) h0 r.2 := by
  intro f
  induction f with
  | zero =>
    intro v3 v4 h hL hJ hF
    cases hF
  | succ f ih =>
    intro v3 v4 h hL hJ hF
    unfold GX12_isTiedIn_L5 at hF
    have hK := hB0.tr hJ
    refine RK.of (RN.blk (ops := [(5, .iload 4), (7, .iload_n 2)]) (pc' := 8) (lv' := [(0, .inr (.inr 334)), (1, .inl u1), (2, .inl u2), (3, .inl v3), (4, .inl v4)]) (st' := [.inl u2, .inl v4]) (h' := h) (cs := []) (by decide +kernel) rfl trivial) ?_
    rcases it_of hF with ⟨hb, hF⟩ | ⟨hb, hF⟩
    · refine RK.of (RN.icf (cd := .ge) (off := 32) (tgt := 40) (by decide +kernel) (mif_gen hb)) ?_
      refine RK.of (RN.blk (ops := [(11, .aload_n 0)]) (pc' := 12) (lv' := [(0, .inr (.inr 334)), (1, .inl u1), (2, .inl u2), (3, .inl v3), (4, .inl v4)]) (st' := [.inr (.inr 334)]) (h' := h) (cs := []) (by decide +kernel) rfl trivial) ?_
      obtain ⟨x2, h1, hG, hF⟩ := bd_of hF
      have hq := rcv_ok (as := []) (TO.gk (o_334 hL))
      obtain ⟨hN, hL, hQ⟩ := DX12_passes (d := d) hL  hG
      refine RK.of (RN.cv (i := 350) (k := 222) (q2 := iX12_passes) (as := [.inr (.inr 334)]) (r := []) (v := some (.inl x2)) (h1 := h1) (by decide +kernel) rfl rfl rfl rfl rfl hq hN) ?_
      have hK := hK.tr hQ
      have hJ := hJ.tr hQ
      refine RK.of (RN.blk (ops := [(15, .pop), (16, .iload_n 3)]) (pc' := 17) (lv' := [(0, .inr (.inr 334)), (1, .inl u1), (2, .inl u2), (3, .inl v3), (4, .inl v4)]) (st' := [.inl v3]) (h' := h1) (cs := []) (by decide +kernel) rfl trivial) ?_
      rcases it_of hF with ⟨hb, hF⟩ | ⟨hb, hF⟩
      · refine RK.of (RN.iff (cd := .ne) (off := 11) (tgt := 28) (by decide +kernel) (mif_nen hb)) ?_
        refine RK.of (RN.blk (ops := [(20, .aload_n 0), (21, .getfield 335), (24, .iload_n 1)]) (pc' := 25) (lv' := [(0, .inr (.inr 334)), (1, .inl u1), (2, .inl u2), (3, .inl v3), (4, .inl v4)]) (st' := [.inl u1, .inl (m_rd h1 334 23)]) (h' := h1) (cs := [GK h1 334 12]) (by decide +kernel) rfl ⟨(o_334 hL).gk, trivial⟩) ?_
        rcases it_of hF with ⟨hb, hF⟩ | ⟨hb, hF⟩
        · refine RK.of (RN.icf (cd := .ne) (off := 7) (tgt := 32) (by decide +kernel) (mif_nen hb)) ?_
          refine RK.of (RN.blk (ops := [(28, .iconst 1)]) (pc' := 29) (lv' := [(0, .inr (.inr 334)), (1, .inl u1), (2, .inl u2), (3, .inl v3), (4, .inl v4)]) (st' := [.inl 1]) (h' := h1) (cs := []) (by decide +kernel) rfl trivial) ?_
          refine RK.of (RN.goto (off := 4) (tgt := 33) (by decide +kernel)) ?_
          refine RK.of (RN.blk (ops := [(33, .istore_n 3), (34, .iinc 4 1)]) (pc' := 37) (lv' := [(4, .inl (m_w32 (v4 + 1))), (3, .inl 1), (0, .inr (.inr 334)), (1, .inl u1), (2, .inl u2)]) (st' := []) (h' := h1) (cs := []) (by decide +kernel) rfl trivial) ?_
          refine RK.of (RN.goto (off := -32) (tgt := 5) (by decide +kernel)) ?_
          exact RK.sub (ih _ _ _ hL hJ hF) (sub_cons rfl (sub_cons rfl (sub_cons rfl (sub_cons rfl (sub_cons rfl sub_nil)))))
        · refine RK.of (RN.ict (cd := .ne) (off := 7) (tgt := 32) (by decide +kernel) (mif_ne hb)) ?_
          refine RK.of (RN.blk (ops := [(32, .iconst 0)]) (pc' := 33) (lv' := [(0, .inr (.inr 334)), (1, .inl u1), (2, .inl u2), (3, .inl v3), (4, .inl v4)]) (st' := [.inl 0]) (h' := h1) (cs := []) (by decide +kernel) rfl trivial) ?_
          refine RK.of (RN.blk (ops := [(33, .istore_n 3), (34, .iinc 4 1)]) (pc' := 37) (lv' := [(4, .inl (m_w32 (v4 + 1))), (3, .inl 0), (0, .inr (.inr 334)), (1, .inl u1), (2, .inl u2)]) (st' := []) (h' := h1) (cs := []) (by decide +kernel) rfl trivial) ?_
          refine RK.of (RN.goto (off := -32) (tgt := 5) (by decide +kernel)) ?_
          exact RK.sub (ih _ _ _ hL hJ hF) (sub_cons rfl (sub_cons rfl (sub_cons rfl (sub_cons rfl (sub_cons rfl sub_nil)))))
      · refine RK.of (RN.ift (cd := .ne) (off := 11) (tgt := 28) (by decide +kernel) (mif_ne hb)) ?_
        refine RK.of (RN.blk (ops := [(28, .iconst 1)]) (pc' := 29) (lv' := [(0, .inr (.inr 334)), (1, .inl u1), (2, .inl u2), (3, .inl v3), (4, .inl v4)]) (st' := [.inl 1]) (h' := h1) (cs := []) (by decide +kernel) rfl trivial) ?_
        refine RK.of (RN.goto (off := 4) (tgt := 33) (by decide +kernel)) ?_
        refine RK.of (RN.blk (ops := [(33, .istore_n 3), (34, .iinc 4 1)]) (pc' := 37) (lv' := [(4, .inl (m_w32 (v4 + 1))), (3, .inl 1), (0, .inr (.inr 334)), (1, .inl u1), (2, .inl u2)]) (st' := []) (h' := h1) (cs := []) (by decide +kernel) rfl trivial) ?_
        refine RK.of (RN.goto (off := -32) (tgt := 5) (by decide +kernel)) ?_
        exact RK.sub (ih _ _ _ hL hJ hF) (sub_cons rfl (sub_cons rfl (sub_cons rfl (sub_cons rfl (sub_cons rfl sub_nil)))))
    · refine RK.of (RN.ict (cd := .ge) (off := 32) (tgt := 40) (by decide +kernel) (mif_ge hb)) ?_
      exact RK.sub (hK0 _ _ hL hJ hF) (sub_cons rfl (sub_cons rfl sub_nil))
noncomputable def GX12_isTiedIn (a1 : Int) (a2 : Int) (h : MH) : Option (Int × MH) :=
  GX12_isTiedIn_L5 a1 a2 (fun w1 h2 =>
   (bv (GX12_laysBack h2) (fun h3 =>
    gd [GT w1] (some (w1, h3))))) FU 0 0 h
theorem DX12_isTiedIn {d : Nat} {a1 : Int} {a2 : Int} {h : MH} {r : Int × MH} (hL : LR h) (hF : GX12_isTiedIn a1 a2 h = some r) : RN xs L iX12_isTiedIn (d + 7) 0 (lvE 0 [.inr (.inr 334), .inl a1, .inl a2]) [] h (RIo r) ∧ LR r.2 ∧ KD h r.2 := by
  unfold GX12_isTiedIn at hF
  have hK : KD h h := KD.rf
  show RK xs L iX12_isTiedIn (d + 7) 0 (lvE 0 [.inr (.inr 334), .inl a1, .inl a2]) [] h (RIo r) h r.2
  refine RK.of (RN.blk (ops := [(0, .iconst 0), (1, .istore_n 3), (2, .iconst 0), (3, .istore 4)]) (pc' := 5) (lv' := [(4, .inl 0), (3, .inl 0), (0, .inr (.inr 334)), (1, .inl a1), (2, .inl a2)]) (st' := []) (h' := h) (cs := []) (by decide +kernel) rfl trivial) ?_
  refine RK.sub (DX12_isTiedIn_L5 hK ?_ _ _ _ _ hL KD.rf hF) (sub_cons rfl (sub_cons rfl (sub_cons rfl (sub_cons rfl (sub_cons rfl sub_nil)))))
  · intro w1 h2 hL hq hF
    have hK := hK.tr hq
    refine RK.of (RN.blk (ops := [(40, .aload_n 0)]) (pc' := 41) (lv' := [(0, .inr (.inr 334)), (3, .inl w1)]) (st' := [.inr (.inr 334)]) (h' := h2) (cs := []) (by decide +kernel) rfl trivial) ?_
    obtain ⟨h3, hG, hF⟩ := bv_of hF
    have hq := rcv_ok (as := []) (TO.gk (o_334 hL))
    obtain ⟨hN, hL, hQ⟩ := DX12_laysBack (d := d + 6) hL  hG
    refine RK.of (RN.cv (i := 414) (k := 254) (q2 := iX12_laysBack) (as := [.inr (.inr 334)]) (r := []) (v := none) (h1 := h3) (by decide +kernel) rfl rfl rfl rfl rfl hq hN) ?_
    have hK := hK.tr hQ
    refine RK.of (RN.blk (ops := [(44, .iload_n 3)]) (pc' := 45) (lv' := [(0, .inr (.inr 334)), (3, .inl w1)]) (st' := [.inl w1]) (h' := h3) (cs := []) (by decide +kernel) rfl trivial) ?_
    obtain ⟨hc, hF⟩ := gd_of hF
    exact RK.zR (by decide +kernel) rfl hc.1 hL hK hF
noncomputable def GX12_enough_L43 (u1 : Int) (u2 : Int) (u3 : Int) (K0 : Int → MH → Option (Int × MH)) : Nat → Int → Int → MH → Option (Int × MH)
  | 0, _, _, _ => none
  | f + 1, v4, v5, h =>
    (if 20 < v5 then
     K0 v4 h
    else
     (if v4 < 0 then
      gd [IB (m_w32 (82 + u1)) 167] (
       (bd (GX12_isTiedIn u1 u2 (m_wr h 344 (m_w32 (82 + u1)) v5)) (fun x2 h1 =>
        (if x2 = 0 then
         GX12_enough_L43 u1 u2 u3 K0 f v5 (m_w32 (v5 + 1)) h1
        else
         GX12_enough_L43 u1 u2 u3 K0 f v4 (m_w32 (v5 + 1)) h1))))
     else
      K0 v4 h))
theorem DX12_enough_L43 {d : Nat} {u1 : Int} {u2 : Int} {u3 : Int} {K0 : Int → MH → Option (Int × MH)} {r : Int × MH} {h0 hB : MH} (hB0 : KD h0 hB) (hK0 : ∀ (w4 : Int) (h : MH), LR h → KD hB h → K0 w4 h = some r → RK xs L iX12_enough (d + 8) 85 [(0, .inr (.inr 334)), (1, .inl u1), (3, .inl u3), (4, .inl w4)] [] h (RIo r) h0 r.2) : ∀ (f : Nat) (v4 : Int) (v5 : Int) (h : MH), LR h → KD hB h → GX12_enough_L43 u1 u2 u3 K0 f v4 v5 h = some r → RK xs L iX12_enough (d + 8) 43 [(0, .inr (.inr 334)), (1, .inl u1), (2, .inl u2), (3, .inl u3), (4, .inl v4), (5, .inl v5)] [] h (RIo r) h0 r.2 := by
  intro f
  induction f with
  | zero =>
    intro v4 v5 h hL hJ hF
    cases hF
  | succ f ih =>
    intro v4 v5 h hL hJ hF
    unfold GX12_enough_L43 at hF
    have hK := hB0.tr hJ
    refine RK.of (RN.blk (ops := [(43, .iload 5), (45, .bipush 20)]) (pc' := 47) (lv' := [(0, .inr (.inr 334)), (1, .inl u1), (2, .inl u2), (3, .inl u3), (4, .inl v4), (5, .inl v5)]) (st' := [.inl 20, .inl v5]) (h' := h) (cs := []) (by decide +kernel) rfl trivial) ?_
    rcases it_of hF with ⟨hb, hF⟩ | ⟨hb, hF⟩
    · refine RK.of (RN.ict (cd := .gt) (off := 38) (tgt := 85) (by decide +kernel) (mif_gt hb)) ?_
      exact RK.sub (hK0 _ _ hL hJ hF) (sub_cons rfl (sub_cons rfl (sub_cons rfl (sub_cons rfl sub_nil))))
    · refine RK.of (RN.icf (cd := .gt) (off := 38) (tgt := 85) (by decide +kernel) (mif_gtn hb)) ?_
      refine RK.of (RN.blk (ops := [(50, .iload 4)]) (pc' := 52) (lv' := [(0, .inr (.inr 334)), (1, .inl u1), (2, .inl u2), (3, .inl u3), (4, .inl v4), (5, .inl v5)]) (st' := [.inl v4]) (h' := h) (cs := []) (by decide +kernel) rfl trivial) ?_
      rcases it_of hF with ⟨hb, hF⟩ | ⟨hb, hF⟩
      · refine RK.of (RN.iff (cd := .ge) (off := 33) (tgt := 85) (by decide +kernel) (mif_gen hb)) ?_
        refine RK.of (RN.blk (ops := [(55, .aload_n 0)]) (pc' := 56) (lv' := [(0, .inr (.inr 334)), (1, .inl u1), (2, .inl u2), (3, .inl u3), (4, .inl v4), (5, .inl v5)]) (st' := [.inr (.inr 334)]) (h' := h) (cs := []) (by decide +kernel) rfl trivial) ?_
        refine RK.of (RN.gr (i := 39) (ci := 12) (k := 20) (fn := true) (v := 344) (by decide +kernel) rfl (TO.gk (o_334 hL)) (hL.fa (v := 344) 20 1 167 (o_334 hL) rfl (by decide) rfl (by decide)).1) ?_
        obtain ⟨hc, hF⟩ := gd_of hF
        refine RK.of (RN.blk (ops := [(59, .bipush 82), (61, .iload_n 1), (62, .iadd), (63, .iload 5), (65, .iastore)]) (pc' := 66) (lv' := [(0, .inr (.inr 334)), (1, .inl u1), (2, .inl u2), (3, .inl u3), (4, .inl v4), (5, .inl v5)]) (st' := []) (h' := (m_wr h 344 (m_w32 (82 + u1)) v5)) (cs := [GI h 344 1 (m_w32 (82 + u1))]) (by decide +kernel) rfl ⟨(a_344 hL).gi hc.1.1 hc.1.2, trivial⟩) ?_
        have hL : LR (m_wr h 344 (m_w32 (82 + u1)) v5) := hL.wa (TA.le5 (a_344 hL) (by decide))
        have hK := hK.tr (KD.wr : KD h (m_wr h 344 (m_w32 (82 + u1)) v5))
        have hJ := hJ.tr (KD.wr : KD h (m_wr h 344 (m_w32 (82 + u1)) v5))
        refine RK.of (RN.blk (ops := [(66, .aload_n 0), (67, .iload_n 1), (68, .iload_n 2)]) (pc' := 69) (lv' := [(0, .inr (.inr 334)), (1, .inl u1), (2, .inl u2), (3, .inl u3), (4, .inl v4), (5, .inl v5)]) (st' := [.inl u2, .inl u1, .inr (.inr 334)]) (h' := (m_wr h 344 (m_w32 (82 + u1)) v5)) (cs := []) (by decide +kernel) rfl trivial) ?_
        obtain ⟨x2, h1, hG, hF⟩ := bd_of hF
        have hq := rcv_ok (as := [.inl u1, .inl u2]) (TO.gk (o_334 hL))
        obtain ⟨hN, hL, hQ⟩ := DX12_isTiedIn (d := d) hL  hG
        refine RK.of (RN.cv (i := 441) (k := 263) (q2 := iX12_isTiedIn) (as := [.inr (.inr 334), .inl u1, .inl u2]) (r := []) (v := some (.inl x2)) (h1 := h1) (by decide +kernel) rfl rfl rfl rfl rfl hq hN) ?_
        have hK := hK.tr hQ
        have hJ := hJ.tr hQ
        rcases it_of hF with ⟨hb, hF⟩ | ⟨hb, hF⟩
        · refine RK.of (RN.iff (cd := .ne) (off := 7) (tgt := 79) (by decide +kernel) (mif_nen hb)) ?_
          refine RK.of (RN.blk (ops := [(75, .iload 5), (77, .istore 4)]) (pc' := 79) (lv' := [(4, .inl v5), (0, .inr (.inr 334)), (1, .inl u1), (2, .inl u2), (3, .inl u3), (5, .inl v5)]) (st' := []) (h' := h1) (cs := []) (by decide +kernel) rfl trivial) ?_
          refine RK.of (RN.blk (ops := [(79, .iinc 5 1)]) (pc' := 82) (lv' := [(5, .inl (m_w32 (v5 + 1))), (4, .inl v5), (0, .inr (.inr 334)), (1, .inl u1), (2, .inl u2), (3, .inl u3)]) (st' := []) (h' := h1) (cs := []) (by decide +kernel) rfl trivial) ?_
          refine RK.of (RN.goto (off := -39) (tgt := 43) (by decide +kernel)) ?_
          exact RK.sub (ih _ _ _ hL hJ hF) (sub_cons rfl (sub_cons rfl (sub_cons rfl (sub_cons rfl (sub_cons rfl (sub_cons rfl sub_nil))))))
        · refine RK.of (RN.ift (cd := .ne) (off := 7) (tgt := 79) (by decide +kernel) (mif_ne hb)) ?_
          refine RK.of (RN.blk (ops := [(79, .iinc 5 1)]) (pc' := 82) (lv' := [(5, .inl (m_w32 (v5 + 1))), (0, .inr (.inr 334)), (1, .inl u1), (2, .inl u2), (3, .inl u3), (4, .inl v4)]) (st' := []) (h' := h1) (cs := []) (by decide +kernel) rfl trivial) ?_
          refine RK.of (RN.goto (off := -39) (tgt := 43) (by decide +kernel)) ?_
          exact RK.sub (ih _ _ _ hL hJ hF) (sub_cons rfl (sub_cons rfl (sub_cons rfl (sub_cons rfl (sub_cons rfl (sub_cons rfl sub_nil))))))
      · refine RK.of (RN.ift (cd := .ge) (off := 33) (tgt := 85) (by decide +kernel) (mif_ge hb)) ?_
        exact RK.sub (hK0 _ _ hL hJ hF) (sub_cons rfl (sub_cons rfl (sub_cons rfl (sub_cons rfl sub_nil))))
noncomputable def GX12_enough (a1 : Int) (a2 : Int) (h : MH) : Option (Int × MH) :=
  (bd (GX12_isHole a1 h) (fun x2 h1 =>
   (if x2 = 0 then
    some ((-1), h1)
   else
    (bd (GX12_in a2 1 40 h1) (fun x4 h3 =>
     (if x4 = 0 then
      some ((-1), h3)
     else
      gd [IB (m_w32 (82 + a1)) 167] (
       (bv (GX12_keeps h3) (fun h5 =>
        GX12_enough_L43 a1 a2 (m_rd h3 344 (m_w32 (82 + a1))) (fun w6 h7 =>
         gd [IB (m_w32 (82 + a1)) 167] (
          some (w6, (m_wr h7 344 (m_w32 (82 + a1)) (m_rd h3 344 (m_w32 (82 + a1))))))) FU (-2) 1 h5)))))))))
theorem DX12_enough {d : Nat} {a1 : Int} {a2 : Int} {h : MH} {r : Int × MH} (hL : LR h) (hF : GX12_enough a1 a2 h = some r) : RN xs L iX12_enough (d + 8) 0 (lvE 0 [.inr (.inr 334), .inl a1, .inl a2]) [] h (RIo r) ∧ LR r.2 ∧ KD h r.2 := by
  unfold GX12_enough at hF
  have hK : KD h h := KD.rf
  show RK xs L iX12_enough (d + 8) 0 (lvE 0 [.inr (.inr 334), .inl a1, .inl a2]) [] h (RIo r) h r.2
  refine RK.of (RN.blk (ops := [(0, .aload_n 0), (1, .iload_n 1)]) (pc' := 2) (lv' := [(0, .inr (.inr 334)), (1, .inl a1), (2, .inl a2)]) (st' := [.inl a1, .inr (.inr 334)]) (h' := h) (cs := []) (by decide +kernel) rfl trivial) ?_
  obtain ⟨x2, h1, hG, hF⟩ := bd_of hF
  have hq := rcv_ok (as := [.inl a1]) (TO.gk (o_334 hL))
  obtain ⟨hN, hL, hQ⟩ := DX12_isHole (d := d + 7) hL  hG
  refine RK.of (RN.cv (i := 310) (k := 204) (q2 := iX12_isHole) (as := [.inr (.inr 334), .inl a1]) (r := []) (v := some (.inl x2)) (h1 := h1) (by decide +kernel) rfl rfl rfl rfl rfl hq hN) ?_
  have hK := hK.tr hQ
  rcases it_of hF with ⟨hb, hF⟩ | ⟨hb, hF⟩
  · refine RK.of (RN.ift (cd := .eq) (off := 15) (tgt := 20) (by decide +kernel) (mif_eq hb)) ?_
    refine RK.of (RN.blk (ops := [(20, .iconst (-1))]) (pc' := 21) (lv' := [(0, .inr (.inr 334)), (1, .inl a1), (2, .inl a2)]) (st' := [.inl (-1)]) (h' := h1) (cs := []) (by decide +kernel) rfl trivial) ?_
    exact RK.iR (by decide +kernel) rfl hL hK hF
  · refine RK.of (RN.iff (cd := .eq) (off := 15) (tgt := 20) (by decide +kernel) (mif_eqn hb)) ?_
    refine RK.of (RN.blk (ops := [(8, .iload_n 2), (9, .i2l), (10, .lconst 1), (11, .ldc2_w 439)]) (pc' := 14) (lv' := [(0, .inr (.inr 334)), (1, .inl a1), (2, .inl a2)]) (st' := [.inr (.inl 40), .inr (.inl 1), .inr (.inl a2)]) (h' := h1) (cs := []) (by decide +kernel) rfl trivial) ?_
    obtain ⟨x4, h3, hG, hF⟩ := bd_of hF
    obtain ⟨hN, hL, hQ⟩ := DX12_in (d := d + 7) hL  hG
    refine RK.of (RN.cst (i := 127) (k := 156) (q2 := iX12_in) (as := [.inr (.inl a2), .inr (.inl 1), .inr (.inl 40)]) (r := []) (v := some (.inl x4)) (h1 := h3) (by decide +kernel) rfl rfl rfl rfl rfl hN) ?_
    have hK := hK.tr hQ
    rcases it_of hF with ⟨hb, hF⟩ | ⟨hb, hF⟩
    · refine RK.of (RN.iff (cd := .ne) (off := 5) (tgt := 22) (by decide +kernel) (mif_nen hb)) ?_
      refine RK.of (RN.blk (ops := [(20, .iconst (-1))]) (pc' := 21) (lv' := [(0, .inr (.inr 334)), (1, .inl a1), (2, .inl a2)]) (st' := [.inl (-1)]) (h' := h3) (cs := []) (by decide +kernel) rfl trivial) ?_
      exact RK.iR (by decide +kernel) rfl hL hK hF
    · refine RK.of (RN.ift (cd := .ne) (off := 5) (tgt := 22) (by decide +kernel) (mif_ne hb)) ?_
      refine RK.of (RN.blk (ops := [(22, .aload_n 0)]) (pc' := 23) (lv' := [(0, .inr (.inr 334)), (1, .inl a1), (2, .inl a2)]) (st' := [.inr (.inr 334)]) (h' := h3) (cs := []) (by decide +kernel) rfl trivial) ?_
      refine RK.of (RN.gr (i := 39) (ci := 12) (k := 20) (fn := true) (v := 344) (by decide +kernel) rfl (TO.gk (o_334 hL)) (hL.fa (v := 344) 20 1 167 (o_334 hL) rfl (by decide) rfl (by decide)).1) ?_
      obtain ⟨hc, hF⟩ := gd_of hF
      refine RK.of (RN.blk (ops := [(26, .bipush 82), (28, .iload_n 1), (29, .iadd), (30, .iaload), (31, .istore_n 3), (32, .bipush (-2)), (34, .istore 4), (36, .aload_n 0)]) (pc' := 37) (lv' := [(4, .inl (-2)), (3, .inl (m_rd h3 344 (m_w32 (82 + a1)))), (0, .inr (.inr 334)), (1, .inl a1), (2, .inl a2)]) (st' := [.inr (.inr 334)]) (h' := h3) (cs := [GI h3 344 1 (m_w32 (82 + a1))]) (by decide +kernel) rfl ⟨(a_344 hL).gi hc.1.1 hc.1.2, trivial⟩) ?_
      obtain ⟨h5, hG, hF⟩ := bv_of hF
      have hq := rcv_ok (as := []) (TO.gk (o_334 hL))
      obtain ⟨hN, hL, hQ⟩ := DX12_keeps (d := d + 7) hL  hG
      refine RK.of (RN.cv (i := 422) (k := 253) (q2 := iX12_keeps) (as := [.inr (.inr 334)]) (r := []) (v := none) (h1 := h5) (by decide +kernel) rfl rfl rfl rfl rfl hq hN) ?_
      have hK := hK.tr hQ
      refine RK.of (RN.blk (ops := [(40, .iconst 1), (41, .istore 5)]) (pc' := 43) (lv' := [(5, .inl 1), (4, .inl (-2)), (3, .inl (m_rd h3 344 (m_w32 (82 + a1)))), (0, .inr (.inr 334)), (1, .inl a1), (2, .inl a2)]) (st' := []) (h' := h5) (cs := []) (by decide +kernel) rfl trivial) ?_
      refine RK.sub (DX12_enough_L43 hK ?_ _ _ _ _ hL KD.rf hF) (sub_cons rfl (sub_cons rfl (sub_cons rfl (sub_cons rfl (sub_cons rfl (sub_cons rfl sub_nil))))))
      · intro w6 h7 hL hq hF
        have hK := hK.tr hq
        refine RK.of (RN.blk (ops := [(85, .aload_n 0)]) (pc' := 86) (lv' := [(0, .inr (.inr 334)), (1, .inl a1), (3, .inl (m_rd h3 344 (m_w32 (82 + a1)))), (4, .inl w6)]) (st' := [.inr (.inr 334)]) (h' := h7) (cs := []) (by decide +kernel) rfl trivial) ?_
        refine RK.of (RN.gr (i := 39) (ci := 12) (k := 20) (fn := true) (v := 344) (by decide +kernel) rfl (TO.gk (o_334 hL)) (hL.fa (v := 344) 20 1 167 (o_334 hL) rfl (by decide) rfl (by decide)).1) ?_
        obtain ⟨hc, hF⟩ := gd_of hF
        refine RK.of (RN.blk (ops := [(89, .bipush 82), (91, .iload_n 1), (92, .iadd), (93, .iload_n 3), (94, .iastore)]) (pc' := 95) (lv' := [(0, .inr (.inr 334)), (1, .inl a1), (3, .inl (m_rd h3 344 (m_w32 (82 + a1)))), (4, .inl w6)]) (st' := []) (h' := (m_wr h7 344 (m_w32 (82 + a1)) (m_rd h3 344 (m_w32 (82 + a1))))) (cs := [GI h7 344 1 (m_w32 (82 + a1))]) (by decide +kernel) rfl ⟨(a_344 hL).gi hc.1.1 hc.1.2, trivial⟩) ?_
        have hL : LR (m_wr h7 344 (m_w32 (82 + a1)) (m_rd h3 344 (m_w32 (82 + a1)))) := hL.wa (TA.le5 (a_344 hL) (by decide))
        have hK := hK.tr (KD.wr : KD h7 (m_wr h7 344 (m_w32 (82 + a1)) (m_rd h3 344 (m_w32 (82 + a1)))))
        refine RK.of (RN.blk (ops := [(95, .iload 4)]) (pc' := 97) (lv' := [(0, .inr (.inr 334)), (1, .inl a1), (3, .inl (m_rd h3 344 (m_w32 (82 + a1)))), (4, .inl w6)]) (st' := [.inl w6]) (h' := (m_wr h7 344 (m_w32 (82 + a1)) (m_rd h3 344 (m_w32 (82 + a1))))) (cs := []) (by decide +kernel) rfl trivial) ?_
        exact RK.iR (by decide +kernel) rfl hL hK hF
noncomputable def GX12_pence_L57 (u1 : Int) (u2 : Int) (u3 : Int) (u4 : Int) (K0 : Int → Int → MH → Option (Int × MH)) : Nat → Int → Int → Int → MH → Option (Int × MH)
  | 0, _, _, _, _ => none
  | f + 1, v5, v6, v7, h =>
    (if v7 < (m_rd h 344 3) then
     gd [IB (m_w32 (20 + v7)) 167, (u3 : Int) ≠ 0] (
      (if (Int.tmod u4 u3) < (Int.tmod (m_w32 (u1 * (m_rd h 344 (m_w32 (20 + v7))))) u3) then
       GX12_pence_L57 u1 u2 u3 u4 K0 f (m_w32 (v5 - (m_w32 (Int.tdiv (m_w32 (u1 * (m_rd h 344 (m_w32 (20 + v7))))) u3)))) (m_w32 (v6 + 1)) (m_w32 (v7 + 1)) h
      else
       gd [(u3 : Int) ≠ 0] (
        (if (Int.tmod (m_w32 (u1 * (m_rd h 344 (m_w32 (20 + v7))))) u3) = (Int.tmod u4 u3) then
         (if v7 < u2 then
          GX12_pence_L57 u1 u2 u3 u4 K0 f (m_w32 (v5 - (m_w32 (Int.tdiv (m_w32 (u1 * (m_rd h 344 (m_w32 (20 + v7))))) u3)))) (m_w32 (v6 + 1)) (m_w32 (v7 + 1)) h
         else
          GX12_pence_L57 u1 u2 u3 u4 K0 f (m_w32 (v5 - (m_w32 (Int.tdiv (m_w32 (u1 * (m_rd h 344 (m_w32 (20 + v7))))) u3)))) (m_w32 (v6 + 0)) (m_w32 (v7 + 1)) h)
        else
         GX12_pence_L57 u1 u2 u3 u4 K0 f (m_w32 (v5 - (m_w32 (Int.tdiv (m_w32 (u1 * (m_rd h 344 (m_w32 (20 + v7))))) u3)))) (m_w32 (v6 + 0)) (m_w32 (v7 + 1)) h))))
    else
     K0 v5 v6 h)
theorem DX12_pence_L57 {d : Nat} {u1 : Int} {u2 : Int} {u3 : Int} {u4 : Int} {K0 : Int → Int → MH → Option (Int × MH)} {r : Int × MH} {h0 hB : MH} (hB0 : KD h0 hB) (hK0 : ∀ (w5 : Int) (w6 : Int) (h : MH), LR h → KD hB h → K0 w5 w6 h = some r → RK xs L iX12_pence (d + 1) 135 [(3, .inl u3), (4, .inl u4), (5, .inl w5), (6, .inl w6)] [] h (RIo r) h0 r.2) : ∀ (f : Nat) (v5 : Int) (v6 : Int) (v7 : Int) (h : MH), LR h → KD hB h → GX12_pence_L57 u1 u2 u3 u4 K0 f v5 v6 v7 h = some r → RK xs L iX12_pence (d + 1) 57 [(0, .inr (.inr 334)), (1, .inl u1), (2, .inl u2), (3, .inl u3), (4, .inl u4), (5, .inl v5), (6, .inl v6), (7, .inl v7)] [] h (RIo r) h0 r.2 := by
  intro f
  induction f with
  | zero =>
    intro v5 v6 v7 h hL hJ hF
    cases hF
  | succ f ih =>
    intro v5 v6 v7 h hL hJ hF
    unfold GX12_pence_L57 at hF
    have hK := hB0.tr hJ
    refine RK.of (RN.blk (ops := [(57, .iload 7), (59, .aload_n 0)]) (pc' := 60) (lv' := [(0, .inr (.inr 334)), (1, .inl u1), (2, .inl u2), (3, .inl u3), (4, .inl u4), (5, .inl v5), (6, .inl v6), (7, .inl v7)]) (st' := [.inr (.inr 334), .inl v7]) (h' := h) (cs := []) (by decide +kernel) rfl trivial) ?_
    refine RK.of (RN.gr (i := 39) (ci := 12) (k := 20) (fn := true) (v := 344) (by decide +kernel) rfl (TO.gk (o_334 hL)) (hL.fa (v := 344) 20 1 167 (o_334 hL) rfl (by decide) rfl (by decide)).1) ?_
    refine RK.of (RN.blk (ops := [(63, .iconst 3), (64, .iaload)]) (pc' := 65) (lv' := [(0, .inr (.inr 334)), (1, .inl u1), (2, .inl u2), (3, .inl u3), (4, .inl u4), (5, .inl v5), (6, .inl v6), (7, .inl v7)]) (st' := [.inl (m_rd h 344 3), .inl v7]) (h' := h) (cs := [GI h 344 1 3]) (by decide +kernel) rfl ⟨(a_344 hL).gi (by decide) (by decide), trivial⟩) ?_
    rcases it_of hF with ⟨hb, hF⟩ | ⟨hb, hF⟩
    · refine RK.of (RN.icf (cd := .ge) (off := 70) (tgt := 135) (by decide +kernel) (mif_gen hb)) ?_
      refine RK.of (RN.blk (ops := [(68, .iload_n 1), (69, .aload_n 0)]) (pc' := 70) (lv' := [(0, .inr (.inr 334)), (1, .inl u1), (2, .inl u2), (3, .inl u3), (4, .inl u4), (5, .inl v5), (6, .inl v6), (7, .inl v7)]) (st' := [.inr (.inr 334), .inl u1]) (h' := h) (cs := []) (by decide +kernel) rfl trivial) ?_
      refine RK.of (RN.gr (i := 39) (ci := 12) (k := 20) (fn := true) (v := 344) (by decide +kernel) rfl (TO.gk (o_334 hL)) (hL.fa (v := 344) 20 1 167 (o_334 hL) rfl (by decide) rfl (by decide)).1) ?_
      obtain ⟨hc, hF⟩ := gd_of hF
      refine RK.of (RN.blk (ops := [(73, .bipush 20), (75, .iload 7), (77, .iadd), (78, .iaload), (79, .imul), (80, .istore 8), (82, .iload 5), (84, .iload 8), (86, .iload_n 3), (87, .idiv), (88, .isub), (89, .istore 5), (91, .iload 6), (93, .iload 8), (95, .iload_n 3), (96, .irem), (97, .iload 4), (99, .iload_n 3), (100, .irem)]) (pc' := 101) (lv' := [(5, .inl (m_w32 (v5 - (m_w32 (Int.tdiv (m_w32 (u1 * (m_rd h 344 (m_w32 (20 + v7))))) u3))))), (8, .inl (m_w32 (u1 * (m_rd h 344 (m_w32 (20 + v7)))))), (0, .inr (.inr 334)), (1, .inl u1), (2, .inl u2), (3, .inl u3), (4, .inl u4), (6, .inl v6), (7, .inl v7)]) (st' := [.inl (Int.tmod u4 u3), .inl (Int.tmod (m_w32 (u1 * (m_rd h 344 (m_w32 (20 + v7))))) u3), .inl v6]) (h' := h) (cs := [GI h 344 1 (m_w32 (20 + v7)), (u3 : Int) ≠ 0, (u3 : Int) ≠ 0, (u3 : Int) ≠ 0]) (by decide +kernel) rfl ⟨(a_344 hL).gi hc.1.1 hc.1.2, hc.2.1, hc.2.1, hc.2.1, trivial⟩) ?_
      rcases it_of hF with ⟨hb, hF⟩ | ⟨hb, hF⟩
      · refine RK.of (RN.ict (cd := .gt) (off := 20) (tgt := 121) (by decide +kernel) (mif_gt hb)) ?_
        refine RK.of (RN.blk (ops := [(121, .iconst 1)]) (pc' := 122) (lv' := [(5, .inl (m_w32 (v5 - (m_w32 (Int.tdiv (m_w32 (u1 * (m_rd h 344 (m_w32 (20 + v7))))) u3))))), (8, .inl (m_w32 (u1 * (m_rd h 344 (m_w32 (20 + v7)))))), (0, .inr (.inr 334)), (1, .inl u1), (2, .inl u2), (3, .inl u3), (4, .inl u4), (6, .inl v6), (7, .inl v7)]) (st' := [.inl 1, .inl v6]) (h' := h) (cs := []) (by decide +kernel) rfl trivial) ?_
        refine RK.of (RN.goto (off := 4) (tgt := 126) (by decide +kernel)) ?_
        refine RK.of (RN.blk (ops := [(126, .iadd), (127, .istore 6), (129, .iinc 7 1)]) (pc' := 132) (lv' := [(7, .inl (m_w32 (v7 + 1))), (6, .inl (m_w32 (v6 + 1))), (5, .inl (m_w32 (v5 - (m_w32 (Int.tdiv (m_w32 (u1 * (m_rd h 344 (m_w32 (20 + v7))))) u3))))), (8, .inl (m_w32 (u1 * (m_rd h 344 (m_w32 (20 + v7)))))), (0, .inr (.inr 334)), (1, .inl u1), (2, .inl u2), (3, .inl u3), (4, .inl u4)]) (st' := []) (h' := h) (cs := []) (by decide +kernel) rfl trivial) ?_
        refine RK.of (RN.goto (off := -75) (tgt := 57) (by decide +kernel)) ?_
        exact RK.sub (ih _ _ _ _ hL hJ hF) (sub_cons rfl (sub_cons rfl (sub_cons rfl (sub_cons rfl (sub_cons rfl (sub_cons rfl (sub_cons rfl (sub_cons rfl sub_nil))))))))
      · refine RK.of (RN.icf (cd := .gt) (off := 20) (tgt := 121) (by decide +kernel) (mif_gtn hb)) ?_
        obtain ⟨hc, hF⟩ := gd_of hF
        refine RK.of (RN.blk (ops := [(104, .iload 8), (106, .iload_n 3), (107, .irem), (108, .iload 4), (110, .iload_n 3), (111, .irem)]) (pc' := 112) (lv' := [(5, .inl (m_w32 (v5 - (m_w32 (Int.tdiv (m_w32 (u1 * (m_rd h 344 (m_w32 (20 + v7))))) u3))))), (8, .inl (m_w32 (u1 * (m_rd h 344 (m_w32 (20 + v7)))))), (0, .inr (.inr 334)), (1, .inl u1), (2, .inl u2), (3, .inl u3), (4, .inl u4), (6, .inl v6), (7, .inl v7)]) (st' := [.inl (Int.tmod u4 u3), .inl (Int.tmod (m_w32 (u1 * (m_rd h 344 (m_w32 (20 + v7))))) u3), .inl v6]) (h' := h) (cs := [(u3 : Int) ≠ 0, (u3 : Int) ≠ 0]) (by decide +kernel) rfl ⟨hc.1, hc.1, trivial⟩) ?_
        rcases it_of hF with ⟨hb, hF⟩ | ⟨hb, hF⟩
        · refine RK.of (RN.icf (cd := .ne) (off := 13) (tgt := 125) (by decide +kernel) (mif_nen hb)) ?_
          refine RK.of (RN.blk (ops := [(115, .iload 7), (117, .iload_n 2)]) (pc' := 118) (lv' := [(5, .inl (m_w32 (v5 - (m_w32 (Int.tdiv (m_w32 (u1 * (m_rd h 344 (m_w32 (20 + v7))))) u3))))), (8, .inl (m_w32 (u1 * (m_rd h 344 (m_w32 (20 + v7)))))), (0, .inr (.inr 334)), (1, .inl u1), (2, .inl u2), (3, .inl u3), (4, .inl u4), (6, .inl v6), (7, .inl v7)]) (st' := [.inl u2, .inl v7, .inl v6]) (h' := h) (cs := []) (by decide +kernel) rfl trivial) ?_
          rcases it_of hF with ⟨hb, hF⟩ | ⟨hb, hF⟩
          · refine RK.of (RN.icf (cd := .ge) (off := 7) (tgt := 125) (by decide +kernel) (mif_gen hb)) ?_
            refine RK.of (RN.blk (ops := [(121, .iconst 1)]) (pc' := 122) (lv' := [(5, .inl (m_w32 (v5 - (m_w32 (Int.tdiv (m_w32 (u1 * (m_rd h 344 (m_w32 (20 + v7))))) u3))))), (8, .inl (m_w32 (u1 * (m_rd h 344 (m_w32 (20 + v7)))))), (0, .inr (.inr 334)), (1, .inl u1), (2, .inl u2), (3, .inl u3), (4, .inl u4), (6, .inl v6), (7, .inl v7)]) (st' := [.inl 1, .inl v6]) (h' := h) (cs := []) (by decide +kernel) rfl trivial) ?_
            refine RK.of (RN.goto (off := 4) (tgt := 126) (by decide +kernel)) ?_
            refine RK.of (RN.blk (ops := [(126, .iadd), (127, .istore 6), (129, .iinc 7 1)]) (pc' := 132) (lv' := [(7, .inl (m_w32 (v7 + 1))), (6, .inl (m_w32 (v6 + 1))), (5, .inl (m_w32 (v5 - (m_w32 (Int.tdiv (m_w32 (u1 * (m_rd h 344 (m_w32 (20 + v7))))) u3))))), (8, .inl (m_w32 (u1 * (m_rd h 344 (m_w32 (20 + v7)))))), (0, .inr (.inr 334)), (1, .inl u1), (2, .inl u2), (3, .inl u3), (4, .inl u4)]) (st' := []) (h' := h) (cs := []) (by decide +kernel) rfl trivial) ?_
            refine RK.of (RN.goto (off := -75) (tgt := 57) (by decide +kernel)) ?_
            exact RK.sub (ih _ _ _ _ hL hJ hF) (sub_cons rfl (sub_cons rfl (sub_cons rfl (sub_cons rfl (sub_cons rfl (sub_cons rfl (sub_cons rfl (sub_cons rfl sub_nil))))))))
          · refine RK.of (RN.ict (cd := .ge) (off := 7) (tgt := 125) (by decide +kernel) (mif_ge hb)) ?_
            refine RK.of (RN.blk (ops := [(125, .iconst 0)]) (pc' := 126) (lv' := [(5, .inl (m_w32 (v5 - (m_w32 (Int.tdiv (m_w32 (u1 * (m_rd h 344 (m_w32 (20 + v7))))) u3))))), (8, .inl (m_w32 (u1 * (m_rd h 344 (m_w32 (20 + v7)))))), (0, .inr (.inr 334)), (1, .inl u1), (2, .inl u2), (3, .inl u3), (4, .inl u4), (6, .inl v6), (7, .inl v7)]) (st' := [.inl 0, .inl v6]) (h' := h) (cs := []) (by decide +kernel) rfl trivial) ?_
            refine RK.of (RN.blk (ops := [(126, .iadd), (127, .istore 6), (129, .iinc 7 1)]) (pc' := 132) (lv' := [(7, .inl (m_w32 (v7 + 1))), (6, .inl (m_w32 (v6 + 0))), (5, .inl (m_w32 (v5 - (m_w32 (Int.tdiv (m_w32 (u1 * (m_rd h 344 (m_w32 (20 + v7))))) u3))))), (8, .inl (m_w32 (u1 * (m_rd h 344 (m_w32 (20 + v7)))))), (0, .inr (.inr 334)), (1, .inl u1), (2, .inl u2), (3, .inl u3), (4, .inl u4)]) (st' := []) (h' := h) (cs := []) (by decide +kernel) rfl trivial) ?_
            refine RK.of (RN.goto (off := -75) (tgt := 57) (by decide +kernel)) ?_
            exact RK.sub (ih _ _ _ _ hL hJ hF) (sub_cons rfl (sub_cons rfl (sub_cons rfl (sub_cons rfl (sub_cons rfl (sub_cons rfl (sub_cons rfl (sub_cons rfl sub_nil))))))))
        · refine RK.of (RN.ict (cd := .ne) (off := 13) (tgt := 125) (by decide +kernel) (mif_ne hb)) ?_
          refine RK.of (RN.blk (ops := [(125, .iconst 0)]) (pc' := 126) (lv' := [(5, .inl (m_w32 (v5 - (m_w32 (Int.tdiv (m_w32 (u1 * (m_rd h 344 (m_w32 (20 + v7))))) u3))))), (8, .inl (m_w32 (u1 * (m_rd h 344 (m_w32 (20 + v7)))))), (0, .inr (.inr 334)), (1, .inl u1), (2, .inl u2), (3, .inl u3), (4, .inl u4), (6, .inl v6), (7, .inl v7)]) (st' := [.inl 0, .inl v6]) (h' := h) (cs := []) (by decide +kernel) rfl trivial) ?_
          refine RK.of (RN.blk (ops := [(126, .iadd), (127, .istore 6), (129, .iinc 7 1)]) (pc' := 132) (lv' := [(7, .inl (m_w32 (v7 + 1))), (6, .inl (m_w32 (v6 + 0))), (5, .inl (m_w32 (v5 - (m_w32 (Int.tdiv (m_w32 (u1 * (m_rd h 344 (m_w32 (20 + v7))))) u3))))), (8, .inl (m_w32 (u1 * (m_rd h 344 (m_w32 (20 + v7)))))), (0, .inr (.inr 334)), (1, .inl u1), (2, .inl u2), (3, .inl u3), (4, .inl u4)]) (st' := []) (h' := h) (cs := []) (by decide +kernel) rfl trivial) ?_
          refine RK.of (RN.goto (off := -75) (tgt := 57) (by decide +kernel)) ?_
          exact RK.sub (ih _ _ _ _ hL hJ hF) (sub_cons rfl (sub_cons rfl (sub_cons rfl (sub_cons rfl (sub_cons rfl (sub_cons rfl (sub_cons rfl (sub_cons rfl sub_nil))))))))
    · refine RK.of (RN.ict (cd := .ge) (off := 70) (tgt := 135) (by decide +kernel) (mif_ge hb)) ?_
      exact RK.sub (hK0 _ _ _ hL hJ hF) (sub_cons rfl (sub_cons rfl (sub_cons rfl (sub_cons rfl sub_nil))))
noncomputable def GX12_pence (a1 : Int) (a2 : Int) (h : MH) : Option (Int × MH) :=
  (bd (GX12_isHole a2 h) (fun x2 h1 =>
   (if x2 = 0 then
    some ((-1), h1)
   else
    (bd (GX12_in a1 0 9999 h1) (fun x4 h3 =>
     (if x4 = 0 then
      some ((-1), h3)
     else
      (bd (GX12_sumOver 20 h3) (fun x6 h5 =>
       (if x6 = 0 then
        some (0, h5)
       else
        gd [IB (m_w32 (20 + a2)) 167] (
         GX12_pence_L57 a1 a2 x6 (m_w32 (a1 * (m_rd h5 344 (m_w32 (20 + a2))))) (fun w7 w8 h9 =>
          gd [(x6 : Int) ≠ 0] (
           (if w8 < w7 then
            some ((m_w32 ((m_w32 (Int.tdiv (m_w32 (a1 * (m_rd h5 344 (m_w32 (20 + a2))))) x6)) + 1)), h9)
           else
            some ((m_w32 ((m_w32 (Int.tdiv (m_w32 (a1 * (m_rd h5 344 (m_w32 (20 + a2))))) x6)) + 0)), h9)))) FU a1 0 0 h5))))))))))
theorem DX12_pence {d : Nat} {a1 : Int} {a2 : Int} {h : MH} {r : Int × MH} (hL : LR h) (hF : GX12_pence a1 a2 h = some r) : RN xs L iX12_pence (d + 1) 0 (lvE 0 [.inr (.inr 334), .inl a1, .inl a2]) [] h (RIo r) ∧ LR r.2 ∧ KD h r.2 := by
  unfold GX12_pence at hF
  have hK : KD h h := KD.rf
  show RK xs L iX12_pence (d + 1) 0 (lvE 0 [.inr (.inr 334), .inl a1, .inl a2]) [] h (RIo r) h r.2
  refine RK.of (RN.blk (ops := [(0, .aload_n 0), (1, .iload_n 2)]) (pc' := 2) (lv' := [(0, .inr (.inr 334)), (1, .inl a1), (2, .inl a2)]) (st' := [.inl a2, .inr (.inr 334)]) (h' := h) (cs := []) (by decide +kernel) rfl trivial) ?_
  obtain ⟨x2, h1, hG, hF⟩ := bd_of hF
  have hq := rcv_ok (as := [.inl a2]) (TO.gk (o_334 hL))
  obtain ⟨hN, hL, hQ⟩ := DX12_isHole (d := d) hL  hG
  refine RK.of (RN.cv (i := 310) (k := 204) (q2 := iX12_isHole) (as := [.inr (.inr 334), .inl a2]) (r := []) (v := some (.inl x2)) (h1 := h1) (by decide +kernel) rfl rfl rfl rfl rfl hq hN) ?_
  have hK := hK.tr hQ
  rcases it_of hF with ⟨hb, hF⟩ | ⟨hb, hF⟩
  · refine RK.of (RN.ift (cd := .eq) (off := 15) (tgt := 20) (by decide +kernel) (mif_eq hb)) ?_
    refine RK.of (RN.blk (ops := [(20, .iconst (-1))]) (pc' := 21) (lv' := [(0, .inr (.inr 334)), (1, .inl a1), (2, .inl a2)]) (st' := [.inl (-1)]) (h' := h1) (cs := []) (by decide +kernel) rfl trivial) ?_
    exact RK.iR (by decide +kernel) rfl hL hK hF
  · refine RK.of (RN.iff (cd := .eq) (off := 15) (tgt := 20) (by decide +kernel) (mif_eqn hb)) ?_
    refine RK.of (RN.blk (ops := [(8, .iload_n 1), (9, .i2l), (10, .lconst 0), (11, .ldc2_w 444)]) (pc' := 14) (lv' := [(0, .inr (.inr 334)), (1, .inl a1), (2, .inl a2)]) (st' := [.inr (.inl 9999), .inr (.inl 0), .inr (.inl a1)]) (h' := h1) (cs := []) (by decide +kernel) rfl trivial) ?_
    obtain ⟨x4, h3, hG, hF⟩ := bd_of hF
    obtain ⟨hN, hL, hQ⟩ := DX12_in (d := d) hL  hG
    refine RK.of (RN.cst (i := 127) (k := 156) (q2 := iX12_in) (as := [.inr (.inl a1), .inr (.inl 0), .inr (.inl 9999)]) (r := []) (v := some (.inl x4)) (h1 := h3) (by decide +kernel) rfl rfl rfl rfl rfl hN) ?_
    have hK := hK.tr hQ
    rcases it_of hF with ⟨hb, hF⟩ | ⟨hb, hF⟩
    · refine RK.of (RN.iff (cd := .ne) (off := 5) (tgt := 22) (by decide +kernel) (mif_nen hb)) ?_
      refine RK.of (RN.blk (ops := [(20, .iconst (-1))]) (pc' := 21) (lv' := [(0, .inr (.inr 334)), (1, .inl a1), (2, .inl a2)]) (st' := [.inl (-1)]) (h' := h3) (cs := []) (by decide +kernel) rfl trivial) ?_
      exact RK.iR (by decide +kernel) rfl hL hK hF
    · refine RK.of (RN.ift (cd := .ne) (off := 5) (tgt := 22) (by decide +kernel) (mif_ne hb)) ?_
      refine RK.of (RN.blk (ops := [(22, .aload_n 0), (23, .bipush 20)]) (pc' := 25) (lv' := [(0, .inr (.inr 334)), (1, .inl a1), (2, .inl a2)]) (st' := [.inl 20, .inr (.inr 334)]) (h' := h3) (cs := []) (by decide +kernel) rfl trivial) ?_
      obtain ⟨x6, h5, hG, hF⟩ := bd_of hF
      have hq := rcv_ok (as := [.inl 20]) (TO.gk (o_334 hL))
      obtain ⟨hN, hL, hQ⟩ := DX12_sumOver (d := d) hL  hG
      refine RK.of (RN.cv (i := 325) (k := 210) (q2 := iX12_sumOver) (as := [.inr (.inr 334), .inl 20]) (r := []) (v := some (.inl x6)) (h1 := h5) (by decide +kernel) rfl rfl rfl rfl rfl hq hN) ?_
      have hK := hK.tr hQ
      refine RK.of (RN.blk (ops := [(28, .istore_n 3), (29, .iload_n 3)]) (pc' := 30) (lv' := [(3, .inl x6), (0, .inr (.inr 334)), (1, .inl a1), (2, .inl a2)]) (st' := [.inl x6]) (h' := h5) (cs := []) (by decide +kernel) rfl trivial) ?_
      rcases it_of hF with ⟨hb, hF⟩ | ⟨hb, hF⟩
      · refine RK.of (RN.iff (cd := .ne) (off := 5) (tgt := 35) (by decide +kernel) (mif_nen hb)) ?_
        refine RK.of (RN.blk (ops := [(33, .iconst 0)]) (pc' := 34) (lv' := [(3, .inl x6), (0, .inr (.inr 334)), (1, .inl a1), (2, .inl a2)]) (st' := [.inl 0]) (h' := h5) (cs := []) (by decide +kernel) rfl trivial) ?_
        exact RK.iR (by decide +kernel) rfl hL hK hF
      · refine RK.of (RN.ift (cd := .ne) (off := 5) (tgt := 35) (by decide +kernel) (mif_ne hb)) ?_
        refine RK.of (RN.blk (ops := [(35, .iload_n 1), (36, .aload_n 0)]) (pc' := 37) (lv' := [(3, .inl x6), (0, .inr (.inr 334)), (1, .inl a1), (2, .inl a2)]) (st' := [.inr (.inr 334), .inl a1]) (h' := h5) (cs := []) (by decide +kernel) rfl trivial) ?_
        refine RK.of (RN.gr (i := 39) (ci := 12) (k := 20) (fn := true) (v := 344) (by decide +kernel) rfl (TO.gk (o_334 hL)) (hL.fa (v := 344) 20 1 167 (o_334 hL) rfl (by decide) rfl (by decide)).1) ?_
        obtain ⟨hc, hF⟩ := gd_of hF
        refine RK.of (RN.blk (ops := [(40, .bipush 20), (42, .iload_n 2), (43, .iadd), (44, .iaload), (45, .imul), (46, .istore 4), (48, .iload_n 1), (49, .istore 5), (51, .iconst 0), (52, .istore 6), (54, .iconst 0), (55, .istore 7)]) (pc' := 57) (lv' := [(7, .inl 0), (6, .inl 0), (5, .inl a1), (4, .inl (m_w32 (a1 * (m_rd h5 344 (m_w32 (20 + a2)))))), (3, .inl x6), (0, .inr (.inr 334)), (1, .inl a1), (2, .inl a2)]) (st' := []) (h' := h5) (cs := [GI h5 344 1 (m_w32 (20 + a2))]) (by decide +kernel) rfl ⟨(a_344 hL).gi hc.1.1 hc.1.2, trivial⟩) ?_
        refine RK.sub (DX12_pence_L57 hK ?_ _ _ _ _ _ hL KD.rf hF) (sub_cons rfl (sub_cons rfl (sub_cons rfl (sub_cons rfl (sub_cons rfl (sub_cons rfl (sub_cons rfl (sub_cons rfl sub_nil))))))))
        · intro w7 w8 h9 hL hq hF
          have hK := hK.tr hq
          obtain ⟨hc, hF⟩ := gd_of hF
          refine RK.of (RN.blk (ops := [(135, .iload 4), (137, .iload_n 3), (138, .idiv), (139, .iload 6), (141, .iload 5)]) (pc' := 143) (lv' := [(3, .inl x6), (4, .inl (m_w32 (a1 * (m_rd h5 344 (m_w32 (20 + a2)))))), (5, .inl w7), (6, .inl w8)]) (st' := [.inl w7, .inl w8, .inl (m_w32 (Int.tdiv (m_w32 (a1 * (m_rd h5 344 (m_w32 (20 + a2))))) x6))]) (h' := h9) (cs := [(x6 : Int) ≠ 0]) (by decide +kernel) rfl ⟨hc.1, trivial⟩) ?_
          rcases it_of hF with ⟨hb, hF⟩ | ⟨hb, hF⟩
          · refine RK.of (RN.icf (cd := .ge) (off := 7) (tgt := 150) (by decide +kernel) (mif_gen hb)) ?_
            refine RK.of (RN.blk (ops := [(146, .iconst 1)]) (pc' := 147) (lv' := [(3, .inl x6), (4, .inl (m_w32 (a1 * (m_rd h5 344 (m_w32 (20 + a2)))))), (5, .inl w7), (6, .inl w8)]) (st' := [.inl 1, .inl (m_w32 (Int.tdiv (m_w32 (a1 * (m_rd h5 344 (m_w32 (20 + a2))))) x6))]) (h' := h9) (cs := []) (by decide +kernel) rfl trivial) ?_
            refine RK.of (RN.goto (off := 4) (tgt := 151) (by decide +kernel)) ?_
            refine RK.of (RN.blk (ops := [(151, .iadd)]) (pc' := 152) (lv' := [(3, .inl x6), (4, .inl (m_w32 (a1 * (m_rd h5 344 (m_w32 (20 + a2)))))), (5, .inl w7), (6, .inl w8)]) (st' := [.inl (m_w32 ((m_w32 (Int.tdiv (m_w32 (a1 * (m_rd h5 344 (m_w32 (20 + a2))))) x6)) + 1))]) (h' := h9) (cs := []) (by decide +kernel) rfl trivial) ?_
            exact RK.iR (by decide +kernel) rfl hL hK hF
          · refine RK.of (RN.ict (cd := .ge) (off := 7) (tgt := 150) (by decide +kernel) (mif_ge hb)) ?_
            refine RK.of (RN.blk (ops := [(150, .iconst 0)]) (pc' := 151) (lv' := [(3, .inl x6), (4, .inl (m_w32 (a1 * (m_rd h5 344 (m_w32 (20 + a2)))))), (5, .inl w7), (6, .inl w8)]) (st' := [.inl 0, .inl (m_w32 (Int.tdiv (m_w32 (a1 * (m_rd h5 344 (m_w32 (20 + a2))))) x6))]) (h' := h9) (cs := []) (by decide +kernel) rfl trivial) ?_
            refine RK.of (RN.blk (ops := [(151, .iadd)]) (pc' := 152) (lv' := [(3, .inl x6), (4, .inl (m_w32 (a1 * (m_rd h5 344 (m_w32 (20 + a2)))))), (5, .inl w7), (6, .inl w8)]) (st' := [.inl (m_w32 ((m_w32 (Int.tdiv (m_w32 (a1 * (m_rd h5 344 (m_w32 (20 + a2))))) x6)) + 0))]) (h' := h9) (cs := []) (by decide +kernel) rfl trivial) ?_
            exact RK.iR (by decide +kernel) rfl hL hK hF
noncomputable def GX12_note (a1 : Int) (a2 : Int) (a3 : Int) (h : MH) : Option (Int × MH) :=
  (if a1 = (-1) then
   some (0, (m_wr h 344 166 0))
  else
   (bd (GX12_in a1 0 60 h) (fun x2 h1 =>
    (if x2 = 0 then
     some ((-2), h1)
    else
     (bd (GX12_isHole a2 h1) (fun x4 h3 =>
      (if x4 = 0 then
       some ((-2), h3)
      else
       (bd (GX12_in a3 0 20 h3) (fun x6 h5 =>
        (if x6 = 0 then
         some ((-2), h5)
        else
         (if (m_rd h5 344 166) = 10 then
          some ((-2), h5)
         else
          gd [IB (m_w32 (136 + (m_w32 (3 * (m_rd h5 344 166))))) 167] (
           gd [IB (m_w32 ((m_w32 (136 + (m_w32 (3 * (m_rd h5 344 166))))) + 1)) 167] (
            hl (m_wr (m_wr h5 344 (m_w32 (136 + (m_w32 (3 * (m_rd h5 344 166))))) a1) 344 (m_w32 ((m_w32 (136 + (m_w32 (3 * (m_rd h5 344 166))))) + 1)) a2) (fun h7 =>
             gd [IB (m_w32 ((m_w32 (136 + (m_w32 (3 * (m_rd h5 344 166))))) + 2)) 167] (
              hl (m_wr h7 344 (m_w32 ((m_w32 (136 + (m_w32 (3 * (m_rd h5 344 166))))) + 2)) a3) (fun h8 =>
               some ((m_rd (m_wr h8 344 166 (m_w32 ((m_rd h8 344 166) + 1))) 344 166), (m_wr h8 344 166 (m_w32 ((m_rd h8 344 166) + 1))))))))))))))))))))
theorem DX12_note {d : Nat} {a1 : Int} {a2 : Int} {a3 : Int} {h : MH} {r : Int × MH} (hL : LR h) (hF : GX12_note a1 a2 a3 h = some r) : RN xs L iX12_note (d + 1) 0 (lvE 0 [.inr (.inr 334), .inl a1, .inl a2, .inl a3]) [] h (RIo r) ∧ LR r.2 ∧ KD h r.2 := by
  unfold GX12_note at hF
  have hK : KD h h := KD.rf
  show RK xs L iX12_note (d + 1) 0 (lvE 0 [.inr (.inr 334), .inl a1, .inl a2, .inl a3]) [] h (RIo r) h r.2
  refine RK.of (RN.blk (ops := [(0, .iload_n 1), (1, .iconst (-1))]) (pc' := 2) (lv' := [(0, .inr (.inr 334)), (1, .inl a1), (2, .inl a2), (3, .inl a3)]) (st' := [.inl (-1), .inl a1]) (h' := h) (cs := []) (by decide +kernel) rfl trivial) ?_
  rcases it_of hF with ⟨hb, hF⟩ | ⟨hb, hF⟩
  · refine RK.of (RN.icf (cd := .ne) (off := 14) (tgt := 16) (by decide +kernel) (mif_nen hb)) ?_
    refine RK.of (RN.blk (ops := [(5, .aload_n 0)]) (pc' := 6) (lv' := [(0, .inr (.inr 334)), (1, .inl a1), (2, .inl a2), (3, .inl a3)]) (st' := [.inr (.inr 334)]) (h' := h) (cs := []) (by decide +kernel) rfl trivial) ?_
    refine RK.of (RN.gr (i := 39) (ci := 12) (k := 20) (fn := true) (v := 344) (by decide +kernel) rfl (TO.gk (o_334 hL)) (hL.fa (v := 344) 20 1 167 (o_334 hL) rfl (by decide) rfl (by decide)).1) ?_
    refine RK.of (RN.blk (ops := [(9, .sipush 166), (12, .iconst 0), (13, .iastore)]) (pc' := 14) (lv' := [(0, .inr (.inr 334)), (1, .inl a1), (2, .inl a2), (3, .inl a3)]) (st' := []) (h' := (m_wr h 344 166 0)) (cs := [GI h 344 1 166]) (by decide +kernel) rfl ⟨(a_344 hL).gi (by decide) (by decide), trivial⟩) ?_
    have hL : LR (m_wr h 344 166 0) := hL.wa (TA.le5 (a_344 hL) (by decide))
    have hK := hK.tr (KD.wr : KD h (m_wr h 344 166 0))
    refine RK.of (RN.blk (ops := [(14, .iconst 0)]) (pc' := 15) (lv' := [(0, .inr (.inr 334)), (1, .inl a1), (2, .inl a2), (3, .inl a3)]) (st' := [.inl 0]) (h' := (m_wr h 344 166 0)) (cs := []) (by decide +kernel) rfl trivial) ?_
    exact RK.iR (by decide +kernel) rfl hL hK hF
  · refine RK.of (RN.ict (cd := .ne) (off := 14) (tgt := 16) (by decide +kernel) (mif_ne hb)) ?_
    refine RK.of (RN.blk (ops := [(16, .iload_n 1), (17, .i2l), (18, .lconst 0), (19, .ldc2_w 446)]) (pc' := 22) (lv' := [(0, .inr (.inr 334)), (1, .inl a1), (2, .inl a2), (3, .inl a3)]) (st' := [.inr (.inl 60), .inr (.inl 0), .inr (.inl a1)]) (h' := h) (cs := []) (by decide +kernel) rfl trivial) ?_
    obtain ⟨x2, h1, hG, hF⟩ := bd_of hF
    obtain ⟨hN, hL, hQ⟩ := DX12_in (d := d) hL  hG
    refine RK.of (RN.cst (i := 127) (k := 156) (q2 := iX12_in) (as := [.inr (.inl a1), .inr (.inl 0), .inr (.inl 60)]) (r := []) (v := some (.inl x2)) (h1 := h1) (by decide +kernel) rfl rfl rfl rfl rfl hN) ?_
    have hK := hK.tr hQ
    rcases it_of hF with ⟨hb, hF⟩ | ⟨hb, hF⟩
    · refine RK.of (RN.ift (cd := .eq) (off := 36) (tgt := 61) (by decide +kernel) (mif_eq hb)) ?_
      refine RK.of (RN.blk (ops := [(61, .bipush (-2))]) (pc' := 63) (lv' := [(0, .inr (.inr 334)), (1, .inl a1), (2, .inl a2), (3, .inl a3)]) (st' := [.inl (-2)]) (h' := h1) (cs := []) (by decide +kernel) rfl trivial) ?_
      exact RK.iR (by decide +kernel) rfl hL hK hF
    · refine RK.of (RN.iff (cd := .eq) (off := 36) (tgt := 61) (by decide +kernel) (mif_eqn hb)) ?_
      refine RK.of (RN.blk (ops := [(28, .aload_n 0), (29, .iload_n 2)]) (pc' := 30) (lv' := [(0, .inr (.inr 334)), (1, .inl a1), (2, .inl a2), (3, .inl a3)]) (st' := [.inl a2, .inr (.inr 334)]) (h' := h1) (cs := []) (by decide +kernel) rfl trivial) ?_
      obtain ⟨x4, h3, hG, hF⟩ := bd_of hF
      have hq := rcv_ok (as := [.inl a2]) (TO.gk (o_334 hL))
      obtain ⟨hN, hL, hQ⟩ := DX12_isHole (d := d) hL  hG
      refine RK.of (RN.cv (i := 310) (k := 204) (q2 := iX12_isHole) (as := [.inr (.inr 334), .inl a2]) (r := []) (v := some (.inl x4)) (h1 := h3) (by decide +kernel) rfl rfl rfl rfl rfl hq hN) ?_
      have hK := hK.tr hQ
      rcases it_of hF with ⟨hb, hF⟩ | ⟨hb, hF⟩
      · refine RK.of (RN.ift (cd := .eq) (off := 28) (tgt := 61) (by decide +kernel) (mif_eq hb)) ?_
        refine RK.of (RN.blk (ops := [(61, .bipush (-2))]) (pc' := 63) (lv' := [(0, .inr (.inr 334)), (1, .inl a1), (2, .inl a2), (3, .inl a3)]) (st' := [.inl (-2)]) (h' := h3) (cs := []) (by decide +kernel) rfl trivial) ?_
        exact RK.iR (by decide +kernel) rfl hL hK hF
      · refine RK.of (RN.iff (cd := .eq) (off := 28) (tgt := 61) (by decide +kernel) (mif_eqn hb)) ?_
        refine RK.of (RN.blk (ops := [(36, .iload_n 3), (37, .i2l), (38, .lconst 0), (39, .ldc2_w 448)]) (pc' := 42) (lv' := [(0, .inr (.inr 334)), (1, .inl a1), (2, .inl a2), (3, .inl a3)]) (st' := [.inr (.inl 20), .inr (.inl 0), .inr (.inl a3)]) (h' := h3) (cs := []) (by decide +kernel) rfl trivial) ?_
        obtain ⟨x6, h5, hG, hF⟩ := bd_of hF
        obtain ⟨hN, hL, hQ⟩ := DX12_in (d := d) hL  hG
        refine RK.of (RN.cst (i := 127) (k := 156) (q2 := iX12_in) (as := [.inr (.inl a3), .inr (.inl 0), .inr (.inl 20)]) (r := []) (v := some (.inl x6)) (h1 := h5) (by decide +kernel) rfl rfl rfl rfl rfl hN) ?_
        have hK := hK.tr hQ
        rcases it_of hF with ⟨hb, hF⟩ | ⟨hb, hF⟩
        · refine RK.of (RN.ift (cd := .eq) (off := 16) (tgt := 61) (by decide +kernel) (mif_eq hb)) ?_
          refine RK.of (RN.blk (ops := [(61, .bipush (-2))]) (pc' := 63) (lv' := [(0, .inr (.inr 334)), (1, .inl a1), (2, .inl a2), (3, .inl a3)]) (st' := [.inl (-2)]) (h' := h5) (cs := []) (by decide +kernel) rfl trivial) ?_
          exact RK.iR (by decide +kernel) rfl hL hK hF
        · refine RK.of (RN.iff (cd := .eq) (off := 16) (tgt := 61) (by decide +kernel) (mif_eqn hb)) ?_
          refine RK.of (RN.blk (ops := [(48, .aload_n 0)]) (pc' := 49) (lv' := [(0, .inr (.inr 334)), (1, .inl a1), (2, .inl a2), (3, .inl a3)]) (st' := [.inr (.inr 334)]) (h' := h5) (cs := []) (by decide +kernel) rfl trivial) ?_
          refine RK.of (RN.gr (i := 39) (ci := 12) (k := 20) (fn := true) (v := 344) (by decide +kernel) rfl (TO.gk (o_334 hL)) (hL.fa (v := 344) 20 1 167 (o_334 hL) rfl (by decide) rfl (by decide)).1) ?_
          refine RK.of (RN.blk (ops := [(52, .sipush 166), (55, .iaload), (56, .bipush 10)]) (pc' := 58) (lv' := [(0, .inr (.inr 334)), (1, .inl a1), (2, .inl a2), (3, .inl a3)]) (st' := [.inl 10, .inl (m_rd h5 344 166)]) (h' := h5) (cs := [GI h5 344 1 166]) (by decide +kernel) rfl ⟨(a_344 hL).gi (by decide) (by decide), trivial⟩) ?_
          rcases it_of hF with ⟨hb, hF⟩ | ⟨hb, hF⟩
          · refine RK.of (RN.icf (cd := .ne) (off := 6) (tgt := 64) (by decide +kernel) (mif_nen hb)) ?_
            refine RK.of (RN.blk (ops := [(61, .bipush (-2))]) (pc' := 63) (lv' := [(0, .inr (.inr 334)), (1, .inl a1), (2, .inl a2), (3, .inl a3)]) (st' := [.inl (-2)]) (h' := h5) (cs := []) (by decide +kernel) rfl trivial) ?_
            exact RK.iR (by decide +kernel) rfl hL hK hF
          · refine RK.of (RN.ict (cd := .ne) (off := 6) (tgt := 64) (by decide +kernel) (mif_ne hb)) ?_
            refine RK.of (RN.blk (ops := [(64, .sipush 136), (67, .iconst 3), (68, .aload_n 0)]) (pc' := 69) (lv' := [(0, .inr (.inr 334)), (1, .inl a1), (2, .inl a2), (3, .inl a3)]) (st' := [.inr (.inr 334), .inl 3, .inl 136]) (h' := h5) (cs := []) (by decide +kernel) rfl trivial) ?_
            refine RK.of (RN.gr (i := 39) (ci := 12) (k := 20) (fn := true) (v := 344) (by decide +kernel) rfl (TO.gk (o_334 hL)) (hL.fa (v := 344) 20 1 167 (o_334 hL) rfl (by decide) rfl (by decide)).1) ?_
            refine RK.of (RN.blk (ops := [(72, .sipush 166), (75, .iaload), (76, .imul), (77, .iadd), (78, .istore 4), (80, .aload_n 0)]) (pc' := 81) (lv' := [(4, .inl (m_w32 (136 + (m_w32 (3 * (m_rd h5 344 166)))))), (0, .inr (.inr 334)), (1, .inl a1), (2, .inl a2), (3, .inl a3)]) (st' := [.inr (.inr 334)]) (h' := h5) (cs := [GI h5 344 1 166]) (by decide +kernel) rfl ⟨(a_344 hL).gi (by decide) (by decide), trivial⟩) ?_
            refine RK.of (RN.gr (i := 39) (ci := 12) (k := 20) (fn := true) (v := 344) (by decide +kernel) rfl (TO.gk (o_334 hL)) (hL.fa (v := 344) 20 1 167 (o_334 hL) rfl (by decide) rfl (by decide)).1) ?_
            obtain ⟨hc, hF⟩ := gd_of hF
            refine RK.of (RN.blk (ops := [(84, .iload 4), (86, .iload_n 1), (87, .iastore)]) (pc' := 88) (lv' := [(4, .inl (m_w32 (136 + (m_w32 (3 * (m_rd h5 344 166)))))), (0, .inr (.inr 334)), (1, .inl a1), (2, .inl a2), (3, .inl a3)]) (st' := []) (h' := (m_wr h5 344 (m_w32 (136 + (m_w32 (3 * (m_rd h5 344 166))))) a1)) (cs := [GI h5 344 1 (m_w32 (136 + (m_w32 (3 * (m_rd h5 344 166)))))]) (by decide +kernel) rfl ⟨(a_344 hL).gi hc.1.1 hc.1.2, trivial⟩) ?_
            have hL : LR (m_wr h5 344 (m_w32 (136 + (m_w32 (3 * (m_rd h5 344 166))))) a1) := hL.wa (TA.le5 (a_344 hL) (by decide))
            have hK := hK.tr (KD.wr : KD h5 (m_wr h5 344 (m_w32 (136 + (m_w32 (3 * (m_rd h5 344 166))))) a1))
            refine RK.of (RN.blk (ops := [(88, .aload_n 0)]) (pc' := 89) (lv' := [(4, .inl (m_w32 (136 + (m_w32 (3 * (m_rd h5 344 166)))))), (0, .inr (.inr 334)), (1, .inl a1), (2, .inl a2), (3, .inl a3)]) (st' := [.inr (.inr 334)]) (h' := (m_wr h5 344 (m_w32 (136 + (m_w32 (3 * (m_rd h5 344 166))))) a1)) (cs := []) (by decide +kernel) rfl trivial) ?_
            refine RK.of (RN.gr (i := 39) (ci := 12) (k := 20) (fn := true) (v := 344) (by decide +kernel) rfl (TO.gk (o_334 hL)) (hL.fa (v := 344) 20 1 167 (o_334 hL) rfl (by decide) rfl (by decide)).1) ?_
            obtain ⟨hc, hF⟩ := gd_of hF
            refine RK.of (RN.blk (ops := [(92, .iload 4), (94, .iconst 1), (95, .iadd), (96, .iload_n 2), (97, .iastore)]) (pc' := 98) (lv' := [(4, .inl (m_w32 (136 + (m_w32 (3 * (m_rd h5 344 166)))))), (0, .inr (.inr 334)), (1, .inl a1), (2, .inl a2), (3, .inl a3)]) (st' := []) (h' := (m_wr (m_wr h5 344 (m_w32 (136 + (m_w32 (3 * (m_rd h5 344 166))))) a1) 344 (m_w32 ((m_w32 (136 + (m_w32 (3 * (m_rd h5 344 166))))) + 1)) a2)) (cs := [GI (m_wr h5 344 (m_w32 (136 + (m_w32 (3 * (m_rd h5 344 166))))) a1) 344 1 (m_w32 ((m_w32 (136 + (m_w32 (3 * (m_rd h5 344 166))))) + 1))]) (by decide +kernel) rfl ⟨(a_344 hL).gi hc.1.1 hc.1.2, trivial⟩) ?_
            have hL : LR (m_wr (m_wr h5 344 (m_w32 (136 + (m_w32 (3 * (m_rd h5 344 166))))) a1) 344 (m_w32 ((m_w32 (136 + (m_w32 (3 * (m_rd h5 344 166))))) + 1)) a2) := hL.wa (TA.le5 (a_344 hL) (by decide))
            have hK := hK.tr (KD.wr : KD (m_wr h5 344 (m_w32 (136 + (m_w32 (3 * (m_rd h5 344 166))))) a1) (m_wr (m_wr h5 344 (m_w32 (136 + (m_w32 (3 * (m_rd h5 344 166))))) a1) 344 (m_w32 ((m_w32 (136 + (m_w32 (3 * (m_rd h5 344 166))))) + 1)) a2))
            obtain ⟨h7, he, hF⟩ := hl_of hF
            refine RK.of (RN.hl he) ?_
            rw [← he] at hL hK
            refine RK.of (RN.blk (ops := [(98, .aload_n 0)]) (pc' := 99) (lv' := [(4, .inl (m_w32 (136 + (m_w32 (3 * (m_rd h5 344 166)))))), (0, .inr (.inr 334)), (1, .inl a1), (2, .inl a2), (3, .inl a3)]) (st' := [.inr (.inr 334)]) (h' := h7) (cs := []) (by decide +kernel) rfl trivial) ?_
            refine RK.of (RN.gr (i := 39) (ci := 12) (k := 20) (fn := true) (v := 344) (by decide +kernel) rfl (TO.gk (o_334 hL)) (hL.fa (v := 344) 20 1 167 (o_334 hL) rfl (by decide) rfl (by decide)).1) ?_
            obtain ⟨hc, hF⟩ := gd_of hF
            refine RK.of (RN.blk (ops := [(102, .iload 4), (104, .iconst 2), (105, .iadd), (106, .iload_n 3), (107, .iastore)]) (pc' := 108) (lv' := [(4, .inl (m_w32 (136 + (m_w32 (3 * (m_rd h5 344 166)))))), (0, .inr (.inr 334)), (1, .inl a1), (2, .inl a2), (3, .inl a3)]) (st' := []) (h' := (m_wr h7 344 (m_w32 ((m_w32 (136 + (m_w32 (3 * (m_rd h5 344 166))))) + 2)) a3)) (cs := [GI h7 344 1 (m_w32 ((m_w32 (136 + (m_w32 (3 * (m_rd h5 344 166))))) + 2))]) (by decide +kernel) rfl ⟨(a_344 hL).gi hc.1.1 hc.1.2, trivial⟩) ?_
            have hL : LR (m_wr h7 344 (m_w32 ((m_w32 (136 + (m_w32 (3 * (m_rd h5 344 166))))) + 2)) a3) := hL.wa (TA.le5 (a_344 hL) (by decide))
            have hK := hK.tr (KD.wr : KD h7 (m_wr h7 344 (m_w32 ((m_w32 (136 + (m_w32 (3 * (m_rd h5 344 166))))) + 2)) a3))
            obtain ⟨h8, he, hF⟩ := hl_of hF
            refine RK.of (RN.hl he) ?_
            rw [← he] at hL hK
            refine RK.of (RN.blk (ops := [(108, .aload_n 0)]) (pc' := 109) (lv' := [(4, .inl (m_w32 (136 + (m_w32 (3 * (m_rd h5 344 166)))))), (0, .inr (.inr 334)), (1, .inl a1), (2, .inl a2), (3, .inl a3)]) (st' := [.inr (.inr 334)]) (h' := h8) (cs := []) (by decide +kernel) rfl trivial) ?_
            refine RK.of (RN.gr (i := 39) (ci := 12) (k := 20) (fn := true) (v := 344) (by decide +kernel) rfl (TO.gk (o_334 hL)) (hL.fa (v := 344) 20 1 167 (o_334 hL) rfl (by decide) rfl (by decide)).1) ?_
            refine RK.of (RN.blk (ops := [(112, .sipush 166), (115, .dup2), (116, .iaload), (117, .iconst 1), (118, .iadd), (119, .iastore)]) (pc' := 120) (lv' := [(4, .inl (m_w32 (136 + (m_w32 (3 * (m_rd h5 344 166)))))), (0, .inr (.inr 334)), (1, .inl a1), (2, .inl a2), (3, .inl a3)]) (st' := []) (h' := (m_wr h8 344 166 (m_w32 ((m_rd h8 344 166) + 1)))) (cs := [GI h8 344 1 166, GI h8 344 1 166]) (by decide +kernel) rfl ⟨(a_344 hL).gi (by decide) (by decide), (a_344 hL).gi (by decide) (by decide), trivial⟩) ?_
            have hL : LR (m_wr h8 344 166 (m_w32 ((m_rd h8 344 166) + 1))) := hL.wa (TA.le5 (a_344 hL) (by decide))
            have hK := hK.tr (KD.wr : KD h8 (m_wr h8 344 166 (m_w32 ((m_rd h8 344 166) + 1))))
            refine RK.of (RN.blk (ops := [(120, .aload_n 0)]) (pc' := 121) (lv' := [(4, .inl (m_w32 (136 + (m_w32 (3 * (m_rd h5 344 166)))))), (0, .inr (.inr 334)), (1, .inl a1), (2, .inl a2), (3, .inl a3)]) (st' := [.inr (.inr 334)]) (h' := (m_wr h8 344 166 (m_w32 ((m_rd h8 344 166) + 1)))) (cs := []) (by decide +kernel) rfl trivial) ?_
            refine RK.of (RN.gr (i := 39) (ci := 12) (k := 20) (fn := true) (v := 344) (by decide +kernel) rfl (TO.gk (o_334 hL)) (hL.fa (v := 344) 20 1 167 (o_334 hL) rfl (by decide) rfl (by decide)).1) ?_
            refine RK.of (RN.blk (ops := [(124, .sipush 166), (127, .iaload)]) (pc' := 128) (lv' := [(4, .inl (m_w32 (136 + (m_w32 (3 * (m_rd h5 344 166)))))), (0, .inr (.inr 334)), (1, .inl a1), (2, .inl a2), (3, .inl a3)]) (st' := [.inl (m_rd (m_wr h8 344 166 (m_w32 ((m_rd h8 344 166) + 1))) 344 166)]) (h' := (m_wr h8 344 166 (m_w32 ((m_rd h8 344 166) + 1)))) (cs := [GI (m_wr h8 344 166 (m_w32 ((m_rd h8 344 166) + 1))) 344 1 166]) (by decide +kernel) rfl ⟨(a_344 hL).gi (by decide) (by decide), trivial⟩) ?_
            exact RK.iR (by decide +kernel) rfl hL hK hF
noncomputable def GX12_areNotesSo_L2 (u1 : Int) (K0 : MH → Option (Int × MH)) (K1 : MH → Option (Int × MH)) : Nat → Int → MH → Option (Int × MH)
  | 0, _, _ => none
  | f + 1, v2, h =>
    (if v2 < (m_w32 (3 * (m_rd h 344 166))) then
     gd [IB (m_w32 (136 + v2)) 167] (
      (if (m_rd h 344 (m_w32 (136 + v2))) = u1 then
       gd [IB (m_w32 ((m_w32 (136 + v2)) + 1)) 167, IB (m_w32 (14 + (m_rd h 344 (m_w32 ((m_w32 (136 + v2)) + 1))))) 167] (
        gd [IB (m_w32 ((m_w32 (136 + v2)) + 2)) 167] (
         (if (m_rd h 344 (m_w32 (14 + (m_rd h 344 (m_w32 ((m_w32 (136 + v2)) + 1)))))) = (m_rd h 344 (m_w32 ((m_w32 (136 + v2)) + 2))) then
          GX12_areNotesSo_L2 u1 K0 K1 f (m_w32 (v2 + 3)) h
         else
          K0 h)))
      else
       GX12_areNotesSo_L2 u1 K0 K1 f (m_w32 (v2 + 3)) h))
    else
     K1 h)
theorem DX12_areNotesSo_L2 {d : Nat} {u1 : Int} {K0 : MH → Option (Int × MH)} {K1 : MH → Option (Int × MH)} {r : Int × MH} {h0 hB : MH} (hB0 : KD h0 hB) (hK0 : ∀ (h : MH), LR h → KD hB h → K0 h = some r → RK xs L iX12_areNotesSo (d) 65 [] [] h (RIo r) h0 r.2) (hK1 : ∀ (h : MH), LR h → KD hB h → K1 h = some r → RK xs L iX12_areNotesSo (d) 73 [] [] h (RIo r) h0 r.2) : ∀ (f : Nat) (v2 : Int) (h : MH), LR h → KD hB h → GX12_areNotesSo_L2 u1 K0 K1 f v2 h = some r → RK xs L iX12_areNotesSo (d) 2 [(0, .inr (.inr 334)), (1, .inl u1), (2, .inl v2)] [] h (RIo r) h0 r.2 := by
  intro f
  induction f with
  | zero =>
    intro v2 h hL hJ hF
    cases hF
  | succ f ih =>
    intro v2 h hL hJ hF
    unfold GX12_areNotesSo_L2 at hF
    have hK := hB0.tr hJ
    refine RK.of (RN.blk (ops := [(2, .iload_n 2), (3, .iconst 3), (4, .aload_n 0)]) (pc' := 5) (lv' := [(0, .inr (.inr 334)), (1, .inl u1), (2, .inl v2)]) (st' := [.inr (.inr 334), .inl 3, .inl v2]) (h' := h) (cs := []) (by decide +kernel) rfl trivial) ?_
    refine RK.of (RN.gr (i := 39) (ci := 12) (k := 20) (fn := true) (v := 344) (by decide +kernel) rfl (TO.gk (o_334 hL)) (hL.fa (v := 344) 20 1 167 (o_334 hL) rfl (by decide) rfl (by decide)).1) ?_
    refine RK.of (RN.blk (ops := [(8, .sipush 166), (11, .iaload), (12, .imul)]) (pc' := 13) (lv' := [(0, .inr (.inr 334)), (1, .inl u1), (2, .inl v2)]) (st' := [.inl (m_w32 (3 * (m_rd h 344 166))), .inl v2]) (h' := h) (cs := [GI h 344 1 166]) (by decide +kernel) rfl ⟨(a_344 hL).gi (by decide) (by decide), trivial⟩) ?_
    rcases it_of hF with ⟨hb, hF⟩ | ⟨hb, hF⟩
    · refine RK.of (RN.icf (cd := .ge) (off := 60) (tgt := 73) (by decide +kernel) (mif_gen hb)) ?_
      refine RK.of (RN.blk (ops := [(16, .aload_n 0)]) (pc' := 17) (lv' := [(0, .inr (.inr 334)), (1, .inl u1), (2, .inl v2)]) (st' := [.inr (.inr 334)]) (h' := h) (cs := []) (by decide +kernel) rfl trivial) ?_
      refine RK.of (RN.gr (i := 39) (ci := 12) (k := 20) (fn := true) (v := 344) (by decide +kernel) rfl (TO.gk (o_334 hL)) (hL.fa (v := 344) 20 1 167 (o_334 hL) rfl (by decide) rfl (by decide)).1) ?_
      obtain ⟨hc, hF⟩ := gd_of hF
      refine RK.of (RN.blk (ops := [(20, .sipush 136), (23, .iload_n 2), (24, .iadd), (25, .iaload), (26, .iload_n 1)]) (pc' := 27) (lv' := [(0, .inr (.inr 334)), (1, .inl u1), (2, .inl v2)]) (st' := [.inl u1, .inl (m_rd h 344 (m_w32 (136 + v2)))]) (h' := h) (cs := [GI h 344 1 (m_w32 (136 + v2))]) (by decide +kernel) rfl ⟨(a_344 hL).gi hc.1.1 hc.1.2, trivial⟩) ?_
      rcases it_of hF with ⟨hb, hF⟩ | ⟨hb, hF⟩
      · refine RK.of (RN.icf (cd := .ne) (off := 40) (tgt := 67) (by decide +kernel) (mif_nen hb)) ?_
        refine RK.of (RN.blk (ops := [(30, .aload_n 0)]) (pc' := 31) (lv' := [(0, .inr (.inr 334)), (1, .inl u1), (2, .inl v2)]) (st' := [.inr (.inr 334)]) (h' := h) (cs := []) (by decide +kernel) rfl trivial) ?_
        refine RK.of (RN.gr (i := 39) (ci := 12) (k := 20) (fn := true) (v := 344) (by decide +kernel) rfl (TO.gk (o_334 hL)) (hL.fa (v := 344) 20 1 167 (o_334 hL) rfl (by decide) rfl (by decide)).1) ?_
        refine RK.of (RN.blk (ops := [(34, .bipush 14), (36, .aload_n 0)]) (pc' := 37) (lv' := [(0, .inr (.inr 334)), (1, .inl u1), (2, .inl v2)]) (st' := [.inr (.inr 334), .inl 14, .inr (.inr 344)]) (h' := h) (cs := []) (by decide +kernel) rfl trivial) ?_
        refine RK.of (RN.gr (i := 39) (ci := 12) (k := 20) (fn := true) (v := 344) (by decide +kernel) rfl (TO.gk (o_334 hL)) (hL.fa (v := 344) 20 1 167 (o_334 hL) rfl (by decide) rfl (by decide)).1) ?_
        obtain ⟨hc, hF⟩ := gd_of hF
        refine RK.of (RN.blk (ops := [(40, .sipush 136), (43, .iload_n 2), (44, .iadd), (45, .iconst 1), (46, .iadd), (47, .iaload), (48, .iadd), (49, .iaload), (50, .aload_n 0)]) (pc' := 51) (lv' := [(0, .inr (.inr 334)), (1, .inl u1), (2, .inl v2)]) (st' := [.inr (.inr 334), .inl (m_rd h 344 (m_w32 (14 + (m_rd h 344 (m_w32 ((m_w32 (136 + v2)) + 1))))))]) (h' := h) (cs := [GI h 344 1 (m_w32 ((m_w32 (136 + v2)) + 1)), GI h 344 1 (m_w32 (14 + (m_rd h 344 (m_w32 ((m_w32 (136 + v2)) + 1)))))]) (by decide +kernel) rfl ⟨(a_344 hL).gi hc.1.1 hc.1.2, (a_344 hL).gi hc.2.1.1 hc.2.1.2, trivial⟩) ?_
        refine RK.of (RN.gr (i := 39) (ci := 12) (k := 20) (fn := true) (v := 344) (by decide +kernel) rfl (TO.gk (o_334 hL)) (hL.fa (v := 344) 20 1 167 (o_334 hL) rfl (by decide) rfl (by decide)).1) ?_
        obtain ⟨hc, hF⟩ := gd_of hF
        refine RK.of (RN.blk (ops := [(54, .sipush 136), (57, .iload_n 2), (58, .iadd), (59, .iconst 2), (60, .iadd), (61, .iaload)]) (pc' := 62) (lv' := [(0, .inr (.inr 334)), (1, .inl u1), (2, .inl v2)]) (st' := [.inl (m_rd h 344 (m_w32 ((m_w32 (136 + v2)) + 2))), .inl (m_rd h 344 (m_w32 (14 + (m_rd h 344 (m_w32 ((m_w32 (136 + v2)) + 1))))))]) (h' := h) (cs := [GI h 344 1 (m_w32 ((m_w32 (136 + v2)) + 2))]) (by decide +kernel) rfl ⟨(a_344 hL).gi hc.1.1 hc.1.2, trivial⟩) ?_
        rcases it_of hF with ⟨hb, hF⟩ | ⟨hb, hF⟩
        · refine RK.of (RN.ict (cd := .eq) (off := 5) (tgt := 67) (by decide +kernel) (mif_eq hb)) ?_
          refine RK.of (RN.blk (ops := [(67, .iinc 2 3)]) (pc' := 70) (lv' := [(2, .inl (m_w32 (v2 + 3))), (0, .inr (.inr 334)), (1, .inl u1)]) (st' := []) (h' := h) (cs := []) (by decide +kernel) rfl trivial) ?_
          refine RK.of (RN.goto (off := -68) (tgt := 2) (by decide +kernel)) ?_
          exact RK.sub (ih _ _ hL hJ hF) (sub_cons rfl (sub_cons rfl (sub_cons rfl sub_nil)))
        · refine RK.of (RN.icf (cd := .eq) (off := 5) (tgt := 67) (by decide +kernel) (mif_eqn hb)) ?_
          exact RK.sub (hK0 _ hL hJ hF) sub_nil
      · refine RK.of (RN.ict (cd := .ne) (off := 40) (tgt := 67) (by decide +kernel) (mif_ne hb)) ?_
        refine RK.of (RN.blk (ops := [(67, .iinc 2 3)]) (pc' := 70) (lv' := [(2, .inl (m_w32 (v2 + 3))), (0, .inr (.inr 334)), (1, .inl u1)]) (st' := []) (h' := h) (cs := []) (by decide +kernel) rfl trivial) ?_
        refine RK.of (RN.goto (off := -68) (tgt := 2) (by decide +kernel)) ?_
        exact RK.sub (ih _ _ hL hJ hF) (sub_cons rfl (sub_cons rfl (sub_cons rfl sub_nil)))
    · refine RK.of (RN.ict (cd := .ge) (off := 60) (tgt := 73) (by decide +kernel) (mif_ge hb)) ?_
      exact RK.sub (hK1 _ hL hJ hF) sub_nil
noncomputable def GX12_areNotesSo (a1 : Int) (h : MH) : Option (Int × MH) :=
  GX12_areNotesSo_L2 a1 (fun h1 =>
   some (0, h1)) (fun h2 =>
   some (1, h2)) FU 0 h
theorem DX12_areNotesSo {d : Nat} {a1 : Int} {h : MH} {r : Int × MH} (hL : LR h) (hF : GX12_areNotesSo a1 h = some r) : RN xs L iX12_areNotesSo (d) 0 (lvE 0 [.inr (.inr 334), .inl a1]) [] h (RIo r) ∧ LR r.2 ∧ KD h r.2 := by
  unfold GX12_areNotesSo at hF
  have hK : KD h h := KD.rf
  show RK xs L iX12_areNotesSo (d) 0 (lvE 0 [.inr (.inr 334), .inl a1]) [] h (RIo r) h r.2
  refine RK.of (RN.blk (ops := [(0, .iconst 0), (1, .istore_n 2)]) (pc' := 2) (lv' := [(2, .inl 0), (0, .inr (.inr 334)), (1, .inl a1)]) (st' := []) (h' := h) (cs := []) (by decide +kernel) rfl trivial) ?_
  refine RK.sub (DX12_areNotesSo_L2 hK ?_ ?_ _ _ _ hL KD.rf hF) (sub_cons rfl (sub_cons rfl (sub_cons rfl sub_nil)))
  · intro h1 hL hq hF
    have hK := hK.tr hq
    refine RK.of (RN.blk (ops := [(65, .iconst 0)]) (pc' := 66) (lv' := []) (st' := [.inl 0]) (h' := h1) (cs := []) (by decide +kernel) rfl trivial) ?_
    exact RK.zR (by decide +kernel) rfl (Or.inl rfl) hL hK hF
  · intro h2 hL hq hF
    have hK := hK.tr hq
    refine RK.of (RN.blk (ops := [(73, .iconst 1)]) (pc' := 74) (lv' := []) (st' := [.inl 1]) (h' := h2) (cs := []) (by decide +kernel) rfl trivial) ?_
    exact RK.zR (by decide +kernel) rfl (Or.inr rfl) hL hK hF
noncomputable def GX12_areAllSo_L39 (u1 : Int) (u2 : Int) (u3 : Int) (u4 : Int) (K0 : MH → Option (Int × MH)) : Nat → Int → MH → Option (Int × MH)
  | 0, _, _ => none
  | f + 1, v5, h =>
    (if v5 < (m_rd h 344 3) then
     (if u4 = u2 then
      gd [IB (m_w32 (14 + v5)) 167, IB (m_w32 ((m_w32 (6 * u1)) + v5)) 42] (
       hl (m_wr h 353 (m_w32 ((m_w32 (6 * u1)) + v5)) (m_rd h 344 (m_w32 (14 + v5)))) (fun h1 =>
        GX12_areAllSo_L39 u1 u2 u3 u4 K0 f (m_w32 (v5 + 1)) h1))
     else
      K0 h)
    else
     K0 h)
theorem DX12_areAllSo_L39 {d : Nat} {u1 : Int} {u2 : Int} {u3 : Int} {u4 : Int} {K0 : MH → Option (Int × MH)} {r : Int × MH} {h0 hB : MH} (hB0 : KD h0 hB) (hK0 : ∀ (h : MH), LR h → KD hB h → K0 h = some r → RK xs L iX12_areAllSo (d + 7) 84 [(0, .inr (.inr 334)), (1, .inl u1), (2, .inl u2), (3, .inl u3), (4, .inl u4)] [] h (RIo r) h0 r.2) : ∀ (f : Nat) (v5 : Int) (h : MH), LR h → KD hB h → GX12_areAllSo_L39 u1 u2 u3 u4 K0 f v5 h = some r → RK xs L iX12_areAllSo (d + 7) 39 [(0, .inr (.inr 334)), (1, .inl u1), (2, .inl u2), (3, .inl u3), (4, .inl u4), (5, .inl v5)] [] h (RIo r) h0 r.2 := by
  intro f
  induction f with
  | zero =>
    intro v5 h hL hJ hF
    cases hF
  | succ f ih =>
    intro v5 h hL hJ hF
    unfold GX12_areAllSo_L39 at hF
    have hK := hB0.tr hJ
    refine RK.of (RN.blk (ops := [(39, .iload 5), (41, .aload_n 0)]) (pc' := 42) (lv' := [(0, .inr (.inr 334)), (1, .inl u1), (2, .inl u2), (3, .inl u3), (4, .inl u4), (5, .inl v5)]) (st' := [.inr (.inr 334), .inl v5]) (h' := h) (cs := []) (by decide +kernel) rfl trivial) ?_
    refine RK.of (RN.gr (i := 39) (ci := 12) (k := 20) (fn := true) (v := 344) (by decide +kernel) rfl (TO.gk (o_334 hL)) (hL.fa (v := 344) 20 1 167 (o_334 hL) rfl (by decide) rfl (by decide)).1) ?_
    refine RK.of (RN.blk (ops := [(45, .iconst 3), (46, .iaload)]) (pc' := 47) (lv' := [(0, .inr (.inr 334)), (1, .inl u1), (2, .inl u2), (3, .inl u3), (4, .inl u4), (5, .inl v5)]) (st' := [.inl (m_rd h 344 3), .inl v5]) (h' := h) (cs := [GI h 344 1 3]) (by decide +kernel) rfl ⟨(a_344 hL).gi (by decide) (by decide), trivial⟩) ?_
    rcases it_of hF with ⟨hb, hF⟩ | ⟨hb, hF⟩
    · refine RK.of (RN.icf (cd := .ge) (off := 37) (tgt := 84) (by decide +kernel) (mif_gen hb)) ?_
      refine RK.of (RN.blk (ops := [(50, .iload 4), (52, .iload_n 2)]) (pc' := 53) (lv' := [(0, .inr (.inr 334)), (1, .inl u1), (2, .inl u2), (3, .inl u3), (4, .inl u4), (5, .inl v5)]) (st' := [.inl u2, .inl u4]) (h' := h) (cs := []) (by decide +kernel) rfl trivial) ?_
      rcases it_of hF with ⟨hb, hF⟩ | ⟨hb, hF⟩
      · refine RK.of (RN.icf (cd := .ne) (off := 31) (tgt := 84) (by decide +kernel) (mif_nen hb)) ?_
        refine RK.of (RN.blk (ops := [(56, .aload_n 0)]) (pc' := 57) (lv' := [(0, .inr (.inr 334)), (1, .inl u1), (2, .inl u2), (3, .inl u3), (4, .inl u4), (5, .inl v5)]) (st' := [.inr (.inr 334)]) (h' := h) (cs := []) (by decide +kernel) rfl trivial) ?_
        refine RK.of (RN.gr (i := 71) (ci := 12) (k := 35) (fn := true) (v := 353) (by decide +kernel) rfl (TO.gk (o_334 hL)) (hL.fa (v := 353) 35 1 42 (o_334 hL) rfl (by decide) rfl (by decide)).1) ?_
        refine RK.of (RN.blk (ops := [(60, .bipush 6), (62, .iload_n 1), (63, .imul), (64, .iload 5), (66, .iadd), (67, .aload_n 0)]) (pc' := 68) (lv' := [(0, .inr (.inr 334)), (1, .inl u1), (2, .inl u2), (3, .inl u3), (4, .inl u4), (5, .inl v5)]) (st' := [.inr (.inr 334), .inl (m_w32 ((m_w32 (6 * u1)) + v5)), .inr (.inr 353)]) (h' := h) (cs := []) (by decide +kernel) rfl trivial) ?_
        refine RK.of (RN.gr (i := 39) (ci := 12) (k := 20) (fn := true) (v := 344) (by decide +kernel) rfl (TO.gk (o_334 hL)) (hL.fa (v := 344) 20 1 167 (o_334 hL) rfl (by decide) rfl (by decide)).1) ?_
        obtain ⟨hc, hF⟩ := gd_of hF
        refine RK.of (RN.blk (ops := [(71, .bipush 14), (73, .iload 5), (75, .iadd), (76, .iaload), (77, .iastore)]) (pc' := 78) (lv' := [(0, .inr (.inr 334)), (1, .inl u1), (2, .inl u2), (3, .inl u3), (4, .inl u4), (5, .inl v5)]) (st' := []) (h' := (m_wr h 353 (m_w32 ((m_w32 (6 * u1)) + v5)) (m_rd h 344 (m_w32 (14 + v5))))) (cs := [GI h 344 1 (m_w32 (14 + v5)), GI h 353 1 (m_w32 ((m_w32 (6 * u1)) + v5))]) (by decide +kernel) rfl ⟨(a_344 hL).gi hc.1.1 hc.1.2, (a_353 hL).gi hc.2.1.1 hc.2.1.2, trivial⟩) ?_
        have hL : LR (m_wr h 353 (m_w32 ((m_w32 (6 * u1)) + v5)) (m_rd h 344 (m_w32 (14 + v5)))) := hL.wa (TA.le5 (a_353 hL) (by decide))
        have hK := hK.tr (KD.wr : KD h (m_wr h 353 (m_w32 ((m_w32 (6 * u1)) + v5)) (m_rd h 344 (m_w32 (14 + v5)))))
        have hJ := hJ.tr (KD.wr : KD h (m_wr h 353 (m_w32 ((m_w32 (6 * u1)) + v5)) (m_rd h 344 (m_w32 (14 + v5)))))
        obtain ⟨h1, he, hF⟩ := hl_of hF
        refine RK.of (RN.hl he) ?_
        rw [← he] at hL hK hJ
        refine RK.of (RN.blk (ops := [(78, .iinc 5 1)]) (pc' := 81) (lv' := [(5, .inl (m_w32 (v5 + 1))), (0, .inr (.inr 334)), (1, .inl u1), (2, .inl u2), (3, .inl u3), (4, .inl u4)]) (st' := []) (h' := h1) (cs := []) (by decide +kernel) rfl trivial) ?_
        refine RK.of (RN.goto (off := -42) (tgt := 39) (by decide +kernel)) ?_
        exact RK.sub (ih _ _ hL hJ hF) (sub_cons rfl (sub_cons rfl (sub_cons rfl (sub_cons rfl (sub_cons rfl (sub_cons rfl sub_nil))))))
      · refine RK.of (RN.ict (cd := .ne) (off := 31) (tgt := 84) (by decide +kernel) (mif_ne hb)) ?_
        exact RK.sub (hK0 _ hL hJ hF) (sub_cons rfl (sub_cons rfl (sub_cons rfl (sub_cons rfl (sub_cons rfl sub_nil)))))
    · refine RK.of (RN.ict (cd := .ge) (off := 37) (tgt := 84) (by decide +kernel) (mif_ge hb)) ?_
      exact RK.sub (hK0 _ hL hJ hF) (sub_cons rfl (sub_cons rfl (sub_cons rfl (sub_cons rfl (sub_cons rfl sub_nil)))))
noncomputable def GX12_areAllSo_L5 (u1 : Int) (u2 : Int) (K0 : Int → MH → Option (Int × MH)) : Nat → Int → Int → MH → Option (Int × MH)
  | 0, _, _, _ => none
  | f + 1, v3, v4, h =>
    (if 60 < v4 then
     K0 v3 h
    else
     (bd (GX12_passes h) (fun x2 h1 =>
      jn (fun (s4 : Int) (h5 : MH) =>
       GX12_areAllSo_L39 u1 u2 s4 v4 (fun h6 =>
        GX12_areAllSo_L5 u1 u2 K0 f s4 (m_w32 (v4 + 1)) h6) FU 0 h5) (fun j3 =>
       jn (fun (h8 : MH) =>
        j3 0 h8) (fun j7 =>
        (if v3 = 0 then
         j7 h1
        else
         (bd (GX12_areNotesSo v4 h1) (fun x10 h9 =>
          (if x10 = 0 then
           j7 h9
          else
           j3 1 h9)))))))))
theorem DX12_areAllSo_L5 {d : Nat} {u1 : Int} {u2 : Int} {K0 : Int → MH → Option (Int × MH)} {r : Int × MH} {h0 hB : MH} (hB0 : KD h0 hB) (hK0 : ∀ (w3 : Int) (h : MH), LR h → KD hB h → K0 w3 h = some r → RK xs L iX12_areAllSo (d + 7) 90 [(3, .inl w3)] [] h (RIo r) h0 r.2) : ∀ (f : Nat) (v3 : Int) (v4 : Int) (h : MH), LR h → KD hB h → GX12_areAllSo_L5 u1 u2 K0 f v3 v4 h = some r → RK xs L iX12_areAllSo (d + 7) 5 [(0, .inr (.inr 334)), (1, .inl u1), (2, .inl u2), (3, .inl v3), (4, .inl v4)] [] h (RIo r) h0 r.2 := by
  intro f
  induction f with
  | zero =>
    intro v3 v4 h hL hJ hF
    cases hF
  | succ f ih =>
    intro v3 v4 h hL hJ hF
    unfold GX12_areAllSo_L5 at hF
    have hK := hB0.tr hJ
    refine RK.of (RN.blk (ops := [(5, .iload 4), (7, .bipush 60)]) (pc' := 9) (lv' := [(0, .inr (.inr 334)), (1, .inl u1), (2, .inl u2), (3, .inl v3), (4, .inl v4)]) (st' := [.inl 60, .inl v4]) (h' := h) (cs := []) (by decide +kernel) rfl trivial) ?_
    rcases it_of hF with ⟨hb, hF⟩ | ⟨hb, hF⟩
    · refine RK.of (RN.ict (cd := .gt) (off := 81) (tgt := 90) (by decide +kernel) (mif_gt hb)) ?_
      exact RK.sub (hK0 _ _ hL hJ hF) (sub_cons rfl sub_nil)
    · refine RK.of (RN.icf (cd := .gt) (off := 81) (tgt := 90) (by decide +kernel) (mif_gtn hb)) ?_
      refine RK.of (RN.blk (ops := [(12, .aload_n 0)]) (pc' := 13) (lv' := [(0, .inr (.inr 334)), (1, .inl u1), (2, .inl u2), (3, .inl v3), (4, .inl v4)]) (st' := [.inr (.inr 334)]) (h' := h) (cs := []) (by decide +kernel) rfl trivial) ?_
      obtain ⟨x2, h1, hG, hF⟩ := bd_of hF
      have hq := rcv_ok (as := []) (TO.gk (o_334 hL))
      obtain ⟨hN, hL, hQ⟩ := DX12_passes (d := d) hL  hG
      refine RK.of (RN.cv (i := 350) (k := 222) (q2 := iX12_passes) (as := [.inr (.inr 334)]) (r := []) (v := some (.inl x2)) (h1 := h1) (by decide +kernel) rfl rfl rfl rfl rfl hq hN) ?_
      have hK := hK.tr hQ
      have hJ := hJ.tr hQ
      refine RK.of (RN.blk (ops := [(16, .pop), (17, .iload_n 3)]) (pc' := 18) (lv' := [(0, .inr (.inr 334)), (1, .inl u1), (2, .inl u2), (3, .inl v3), (4, .inl v4)]) (st' := [.inl v3]) (h' := h1) (cs := []) (by decide +kernel) rfl trivial) ?_
      refine jn_use (fun j3 => ∀ (s4 : Int) (h5 : MH), LR h5 → KD hB h5 → j3 s4 h5 = some r → RK xs L iX12_areAllSo (d + 7) 35 [(0, .inr (.inr 334)), (1, .inl u1), (2, .inl u2), (4, .inl v4)] [.inl s4] h5 (RIo r) h0 r.2) ?_ ?_ hF
      · intro s4 h5 hL hJ hF
        have hK := hB0.tr hJ
        refine RK.of (RN.blk (ops := [(35, .istore_n 3), (36, .iconst 0), (37, .istore 5)]) (pc' := 39) (lv' := [(5, .inl 0), (3, .inl s4), (0, .inr (.inr 334)), (1, .inl u1), (2, .inl u2), (4, .inl v4)]) (st' := []) (h' := h5) (cs := []) (by decide +kernel) rfl trivial) ?_
        refine RK.sub (DX12_areAllSo_L39 hK ?_ _ _ _ hL KD.rf hF) (sub_cons rfl (sub_cons rfl (sub_cons rfl (sub_cons rfl (sub_cons rfl (sub_cons rfl sub_nil))))))
        · intro h6 hL hq hF
          have hK := hK.tr hq
          have hJ := hJ.tr hq
          refine RK.of (RN.blk (ops := [(84, .iinc 4 1)]) (pc' := 87) (lv' := [(4, .inl (m_w32 (v4 + 1))), (0, .inr (.inr 334)), (1, .inl u1), (2, .inl u2), (3, .inl s4)]) (st' := []) (h' := h6) (cs := []) (by decide +kernel) rfl trivial) ?_
          refine RK.of (RN.goto (off := -82) (tgt := 5) (by decide +kernel)) ?_
          exact RK.sub (ih _ _ _ hL hJ hF) (sub_cons rfl (sub_cons rfl (sub_cons rfl (sub_cons rfl (sub_cons rfl sub_nil)))))
      · intro j3 Jj3 hF
        refine jn_use (fun j7 => ∀ (h8 : MH), LR h8 → KD hB h8 → j7 h8 = some r → RK xs L iX12_areAllSo (d + 7) 34 [(0, .inr (.inr 334)), (1, .inl u1), (2, .inl u2), (4, .inl v4)] [] h8 (RIo r) h0 r.2) ?_ ?_ hF
        · intro h8 hL hJ hF
          have hK := hB0.tr hJ
          refine RK.of (RN.blk (ops := [(34, .iconst 0)]) (pc' := 35) (lv' := [(0, .inr (.inr 334)), (1, .inl u1), (2, .inl u2), (4, .inl v4)]) (st' := [.inl 0]) (h' := h8) (cs := []) (by decide +kernel) rfl trivial) ?_
          exact RK.sub (Jj3 _ _ hL hJ hF) (sub_cons rfl (sub_cons rfl (sub_cons rfl (sub_cons rfl sub_nil))))
        · intro j7 Jj7 hF
          rcases it_of hF with ⟨hb, hF⟩ | ⟨hb, hF⟩
          · refine RK.of (RN.ift (cd := .eq) (off := 16) (tgt := 34) (by decide +kernel) (mif_eq hb)) ?_
            exact RK.sub (Jj7 _ hL hJ hF) (sub_cons rfl (sub_cons rfl (sub_cons rfl (sub_cons rfl sub_nil))))
          · refine RK.of (RN.iff (cd := .eq) (off := 16) (tgt := 34) (by decide +kernel) (mif_eqn hb)) ?_
            refine RK.of (RN.blk (ops := [(21, .aload_n 0), (22, .iload 4)]) (pc' := 24) (lv' := [(0, .inr (.inr 334)), (1, .inl u1), (2, .inl u2), (3, .inl v3), (4, .inl v4)]) (st' := [.inl v4, .inr (.inr 334)]) (h' := h1) (cs := []) (by decide +kernel) rfl trivial) ?_
            obtain ⟨x10, h9, hG, hF⟩ := bd_of hF
            have hq := rcv_ok (as := [.inl v4]) (TO.gk (o_334 hL))
            obtain ⟨hN, hL, hQ⟩ := DX12_areNotesSo (d := d + 6) hL  hG
            refine RK.of (RN.cv (i := 450) (k := 267) (q2 := iX12_areNotesSo) (as := [.inr (.inr 334), .inl v4]) (r := []) (v := some (.inl x10)) (h1 := h9) (by decide +kernel) rfl rfl rfl rfl rfl hq hN) ?_
            have hK := hK.tr hQ
            have hJ := hJ.tr hQ
            rcases it_of hF with ⟨hb, hF⟩ | ⟨hb, hF⟩
            · refine RK.of (RN.ift (cd := .eq) (off := 7) (tgt := 34) (by decide +kernel) (mif_eq hb)) ?_
              exact RK.sub (Jj7 _ hL hJ hF) (sub_cons rfl (sub_cons rfl (sub_cons rfl (sub_cons rfl sub_nil))))
            · refine RK.of (RN.iff (cd := .eq) (off := 7) (tgt := 34) (by decide +kernel) (mif_eqn hb)) ?_
              refine RK.of (RN.blk (ops := [(30, .iconst 1)]) (pc' := 31) (lv' := [(0, .inr (.inr 334)), (1, .inl u1), (2, .inl u2), (3, .inl v3), (4, .inl v4)]) (st' := [.inl 1]) (h' := h9) (cs := []) (by decide +kernel) rfl trivial) ?_
              refine RK.of (RN.goto (off := 4) (tgt := 35) (by decide +kernel)) ?_
              exact RK.sub (Jj3 _ _ hL hJ hF) (sub_cons rfl (sub_cons rfl (sub_cons rfl (sub_cons rfl sub_nil))))
noncomputable def GX12_areAllSo (a1 : Int) (a2 : Int) (h : MH) : Option (Int × MH) :=
  GX12_areAllSo_L5 a1 a2 (fun w1 h2 =>
   gd [GT w1] (some (w1, h2))) FU 1 0 h
theorem DX12_areAllSo {d : Nat} {a1 : Int} {a2 : Int} {h : MH} {r : Int × MH} (hL : LR h) (hF : GX12_areAllSo a1 a2 h = some r) : RN xs L iX12_areAllSo (d + 7) 0 (lvE 0 [.inr (.inr 334), .inl a1, .inl a2]) [] h (RIo r) ∧ LR r.2 ∧ KD h r.2 := by
  unfold GX12_areAllSo at hF
  have hK : KD h h := KD.rf
  show RK xs L iX12_areAllSo (d + 7) 0 (lvE 0 [.inr (.inr 334), .inl a1, .inl a2]) [] h (RIo r) h r.2
  refine RK.of (RN.blk (ops := [(0, .iconst 1), (1, .istore_n 3), (2, .iconst 0), (3, .istore 4)]) (pc' := 5) (lv' := [(4, .inl 0), (3, .inl 1), (0, .inr (.inr 334)), (1, .inl a1), (2, .inl a2)]) (st' := []) (h' := h) (cs := []) (by decide +kernel) rfl trivial) ?_
  refine RK.sub (DX12_areAllSo_L5 hK ?_ _ _ _ _ hL KD.rf hF) (sub_cons rfl (sub_cons rfl (sub_cons rfl (sub_cons rfl (sub_cons rfl sub_nil)))))
  · intro w1 h2 hL hq hF
    have hK := hK.tr hq
    refine RK.of (RN.blk (ops := [(90, .iload_n 3)]) (pc' := 91) (lv' := [(3, .inl w1)]) (st' := [.inl w1]) (h' := h2) (cs := []) (by decide +kernel) rfl trivial) ?_
    obtain ⟨hc, hF⟩ := gd_of hF
    exact RK.zR (by decide +kernel) rfl hc.1 hL hK hF
noncomputable def GX12_fillsFits_L11 (u1 : Int) (u2 : Int) (K0 : MH → Option (MH)) : Nat → Int → MH → Option (MH)
  | 0, _, _ => none
  | f + 1, v3, h =>
    (if (m_rd h 334 2) < v3 then
     K0 h
    else
     (bv (GX12_begins (m_wr h 334 21 (m_w32 (v3 - 1)))) (fun h1 =>
      (bd (GX12_areAllSo v3 u1 h1) (fun x3 h2 =>
       gd [IB v3 7] (
        GX12_fillsFits_L11 u1 u2 K0 f (m_w32 (v3 + 1)) (m_wr h2 352 v3 (m_bst h2 352 x3))))))))
theorem DX12_fillsFits_L11 {d : Nat} {u1 : Int} {u2 : Int} {K0 : MH → Option (MH)} {r : MH} {h0 hB : MH} (hB0 : KD h0 hB) (hK0 : ∀ (h : MH), LR h → KD hB h → K0 h = some r → RK xs L iX12_fillsFits (d + 8) 48 [(0, .inr (.inr 334)), (2, .inl u2)] [] h (RVo r) h0 r) : ∀ (f : Nat) (v3 : Int) (h : MH), LR h → KD hB h → GX12_fillsFits_L11 u1 u2 K0 f v3 h = some r → RK xs L iX12_fillsFits (d + 8) 11 [(0, .inr (.inr 334)), (1, .inl u1), (2, .inl u2), (3, .inl v3)] [] h (RVo r) h0 r := by
  intro f
  induction f with
  | zero =>
    intro v3 h hL hJ hF
    cases hF
  | succ f ih =>
    intro v3 h hL hJ hF
    unfold GX12_fillsFits_L11 at hF
    have hK := hB0.tr hJ
    refine RK.of (RN.blk (ops := [(11, .iload_n 3), (12, .aload_n 0), (13, .getfield 268)]) (pc' := 16) (lv' := [(0, .inr (.inr 334)), (1, .inl u1), (2, .inl u2), (3, .inl v3)]) (st' := [.inl (m_rd h 334 2), .inl v3]) (h' := h) (cs := [GK h 334 12]) (by decide +kernel) rfl ⟨(o_334 hL).gk, trivial⟩) ?_
    rcases it_of hF with ⟨hb, hF⟩ | ⟨hb, hF⟩
    · refine RK.of (RN.ict (cd := .gt) (off := 32) (tgt := 48) (by decide +kernel) (mif_gt hb)) ?_
      exact RK.sub (hK0 _ hL hJ hF) (sub_cons rfl (sub_cons rfl sub_nil))
    · refine RK.of (RN.icf (cd := .gt) (off := 32) (tgt := 48) (by decide +kernel) (mif_gtn hb)) ?_
      refine RK.of (RN.blk (ops := [(19, .aload_n 0), (20, .iload_n 3), (21, .iconst 1), (22, .isub), (23, .putfield 42)]) (pc' := 26) (lv' := [(0, .inr (.inr 334)), (1, .inl u1), (2, .inl u2), (3, .inl v3)]) (st' := []) (h' := (m_wr h 334 21 (m_w32 (v3 - 1)))) (cs := [GK h 334 12]) (by decide +kernel) rfl ⟨(o_334 hL).gk, trivial⟩) ?_
      have hL : LR (m_wr h 334 21 (m_w32 (v3 - 1))) := LR.wf (k := 21) hL (o_334 hL) rfl
      have hK := hK.tr (KD.wr : KD h (m_wr h 334 21 (m_w32 (v3 - 1))))
      have hJ := hJ.tr (KD.wr : KD h (m_wr h 334 21 (m_w32 (v3 - 1))))
      refine RK.of (RN.blk (ops := [(26, .aload_n 0)]) (pc' := 27) (lv' := [(0, .inr (.inr 334)), (1, .inl u1), (2, .inl u2), (3, .inl v3)]) (st' := [.inr (.inr 334)]) (h' := (m_wr h 334 21 (m_w32 (v3 - 1)))) (cs := []) (by decide +kernel) rfl trivial) ?_
      obtain ⟨h1, hG, hF⟩ := bv_of hF
      have hq := rcv_ok (as := []) (TO.gk (o_334 hL))
      obtain ⟨hN, hL, hQ⟩ := DX12_begins (d := d + 7) hL  hG
      refine RK.of (RN.cv (i := 274) (k := 211) (q2 := iX12_begins) (as := [.inr (.inr 334)]) (r := []) (v := none) (h1 := h1) (by decide +kernel) rfl rfl rfl rfl rfl hq hN) ?_
      have hK := hK.tr hQ
      have hJ := hJ.tr hQ
      refine RK.of (RN.blk (ops := [(30, .aload_n 0)]) (pc' := 31) (lv' := [(0, .inr (.inr 334)), (1, .inl u1), (2, .inl u2), (3, .inl v3)]) (st' := [.inr (.inr 334)]) (h' := h1) (cs := []) (by decide +kernel) rfl trivial) ?_
      refine RK.of (RN.gr (i := 67) (ci := 12) (k := 34) (fn := true) (v := 352) (by decide +kernel) rfl (TO.gk (o_334 hL)) (hL.fa (v := 352) 34 4 7 (o_334 hL) rfl (by decide) rfl (by decide)).1) ?_
      refine RK.of (RN.blk (ops := [(34, .iload_n 3), (35, .aload_n 0), (36, .iload_n 3), (37, .iload_n 1)]) (pc' := 38) (lv' := [(0, .inr (.inr 334)), (1, .inl u1), (2, .inl u2), (3, .inl v3)]) (st' := [.inl u1, .inl v3, .inr (.inr 334), .inl v3, .inr (.inr 352)]) (h' := h1) (cs := []) (by decide +kernel) rfl trivial) ?_
      obtain ⟨x3, h2, hG, hF⟩ := bd_of hF
      have hq := rcv_ok (as := [.inl v3, .inl u1]) (TO.gk (o_334 hL))
      obtain ⟨hN, hL, hQ⟩ := DX12_areAllSo (d := d) hL  hG
      refine RK.of (RN.cv (i := 453) (k := 268) (q2 := iX12_areAllSo) (as := [.inr (.inr 334), .inl v3, .inl u1]) (r := [.inl v3, .inr (.inr 352)]) (v := some (.inl x3)) (h1 := h2) (by decide +kernel) rfl rfl rfl rfl rfl hq hN) ?_
      have hK := hK.tr hQ
      have hJ := hJ.tr hQ
      obtain ⟨hc, hF⟩ := gd_of hF
      refine RK.of (RN.blk (ops := [(41, .bastore)]) (pc' := 42) (lv' := [(0, .inr (.inr 334)), (1, .inl u1), (2, .inl u2), (3, .inl v3)]) (st' := []) (h' := (m_wr h2 352 v3 (m_bst h2 352 x3))) (cs := [GB h2 352 v3]) (by decide +kernel) rfl ⟨(a_352 hL).gb (by decide) hc.1.1 hc.1.2, trivial⟩) ?_
      have hL : LR (m_wr h2 352 v3 (m_bst h2 352 x3)) := hL.wa (TA.le5 (a_352 hL) (by decide))
      have hK := hK.tr (KD.wr : KD h2 (m_wr h2 352 v3 (m_bst h2 352 x3)))
      have hJ := hJ.tr (KD.wr : KD h2 (m_wr h2 352 v3 (m_bst h2 352 x3)))
      refine RK.of (RN.blk (ops := [(42, .iinc 3 1)]) (pc' := 45) (lv' := [(3, .inl (m_w32 (v3 + 1))), (0, .inr (.inr 334)), (1, .inl u1), (2, .inl u2)]) (st' := []) (h' := (m_wr h2 352 v3 (m_bst h2 352 x3))) (cs := []) (by decide +kernel) rfl trivial) ?_
      refine RK.of (RN.goto (off := -34) (tgt := 11) (by decide +kernel)) ?_
      exact RK.sub (ih _ _ hL hJ hF) (sub_cons rfl (sub_cons rfl (sub_cons rfl (sub_cons rfl sub_nil))))
noncomputable def GX12_fillsFits (a1 : Int) (h : MH) : Option (MH) :=
  (bv (GX12_keeps h) (fun h1 =>
   GX12_fillsFits_L11 a1 (m_rd h 334 21) (fun h2 =>
    (bv (GX12_laysBack (m_wr h2 334 21 (m_rd h 334 21))) (fun h3 =>
     some h3))) FU 0 h1))
theorem DX12_fillsFits {d : Nat} {a1 : Int} {h : MH} {r : MH} (hL : LR h) (hF : GX12_fillsFits a1 h = some r) : RN xs L iX12_fillsFits (d + 8) 0 (lvE 0 [.inr (.inr 334), .inl a1]) [] h (RVo r) ∧ LR r ∧ KD h r := by
  unfold GX12_fillsFits at hF
  have hK : KD h h := KD.rf
  show RK xs L iX12_fillsFits (d + 8) 0 (lvE 0 [.inr (.inr 334), .inl a1]) [] h (RVo r) h r
  refine RK.of (RN.blk (ops := [(0, .aload_n 0), (1, .getfield 42), (4, .istore_n 2), (5, .aload_n 0)]) (pc' := 6) (lv' := [(2, .inl (m_rd h 334 21)), (0, .inr (.inr 334)), (1, .inl a1)]) (st' := [.inr (.inr 334)]) (h' := h) (cs := [GK h 334 12]) (by decide +kernel) rfl ⟨(o_334 hL).gk, trivial⟩) ?_
  obtain ⟨h1, hG, hF⟩ := bv_of hF
  have hq := rcv_ok (as := []) (TO.gk (o_334 hL))
  obtain ⟨hN, hL, hQ⟩ := DX12_keeps (d := d + 7) hL  hG
  refine RK.of (RN.cv (i := 422) (k := 253) (q2 := iX12_keeps) (as := [.inr (.inr 334)]) (r := []) (v := none) (h1 := h1) (by decide +kernel) rfl rfl rfl rfl rfl hq hN) ?_
  have hK := hK.tr hQ
  refine RK.of (RN.blk (ops := [(9, .iconst 0), (10, .istore_n 3)]) (pc' := 11) (lv' := [(3, .inl 0), (2, .inl (m_rd h 334 21)), (0, .inr (.inr 334)), (1, .inl a1)]) (st' := []) (h' := h1) (cs := []) (by decide +kernel) rfl trivial) ?_
  refine RK.sub (DX12_fillsFits_L11 hK ?_ _ _ _ hL KD.rf hF) (sub_cons rfl (sub_cons rfl (sub_cons rfl (sub_cons rfl sub_nil))))
  · intro h2 hL hq hF
    have hK := hK.tr hq
    refine RK.of (RN.blk (ops := [(48, .aload_n 0), (49, .iload_n 2), (50, .putfield 42)]) (pc' := 53) (lv' := [(0, .inr (.inr 334)), (2, .inl (m_rd h 334 21))]) (st' := []) (h' := (m_wr h2 334 21 (m_rd h 334 21))) (cs := [GK h2 334 12]) (by decide +kernel) rfl ⟨(o_334 hL).gk, trivial⟩) ?_
    have hL : LR (m_wr h2 334 21 (m_rd h 334 21)) := LR.wf (k := 21) hL (o_334 hL) rfl
    have hK := hK.tr (KD.wr : KD h2 (m_wr h2 334 21 (m_rd h 334 21)))
    refine RK.of (RN.blk (ops := [(53, .aload_n 0)]) (pc' := 54) (lv' := [(0, .inr (.inr 334)), (2, .inl (m_rd h 334 21))]) (st' := [.inr (.inr 334)]) (h' := (m_wr h2 334 21 (m_rd h 334 21))) (cs := []) (by decide +kernel) rfl trivial) ?_
    obtain ⟨h3, hG, hF⟩ := bv_of hF
    have hq := rcv_ok (as := []) (TO.gk (o_334 hL))
    obtain ⟨hN, hL, hQ⟩ := DX12_laysBack (d := d + 7) hL  hG
    refine RK.of (RN.cv (i := 414) (k := 254) (q2 := iX12_laysBack) (as := [.inr (.inr 334)]) (r := []) (v := none) (h1 := h3) (by decide +kernel) rfl rfl rfl rfl rfl hq hN) ?_
    have hK := hK.tr hQ
    exact RK.vR (by decide +kernel) rfl hL hK hF
noncomputable def GX12_ruled_L36 (u1 : Int) (K0 : Int → Int → MH → Option (Int × MH)) : Nat → Int → Int → Int → MH → Option (Int × MH)
  | 0, _, _, _, _ => none
  | f + 1, v2, v3, v4, h =>
    (if v4 < 0 then
     K0 v2 v3 h
    else
     gd [IB v4 7] (
      (if (m_rd h 352 v4) = 0 then
       GX12_ruled_L36 u1 K0 f v2 v3 (m_w32 (v4 + (-1))) h
      else
       GX12_ruled_L36 u1 K0 f (m_w32 (v2 + 1)) (m_w32 (v4 - 1)) (m_w32 (v4 + (-1))) h)))
theorem DX12_ruled_L36 {d : Nat} {u1 : Int} {K0 : Int → Int → MH → Option (Int × MH)} {r : Int × MH} {h0 hB : MH} (hB0 : KD h0 hB) (hK0 : ∀ (w2 : Int) (w3 : Int) (h : MH), LR h → KD hB h → K0 w2 w3 h = some r → RK xs L iX12_ruled (d + 9) 68 [(1, .inl u1), (2, .inl w2), (3, .inl w3)] [] h (RIo r) h0 r.2) : ∀ (f : Nat) (v2 : Int) (v3 : Int) (v4 : Int) (h : MH), LR h → KD hB h → GX12_ruled_L36 u1 K0 f v2 v3 v4 h = some r → RK xs L iX12_ruled (d + 9) 36 [(0, .inr (.inr 334)), (1, .inl u1), (2, .inl v2), (3, .inl v3), (4, .inl v4)] [] h (RIo r) h0 r.2 := by
  intro f
  induction f with
  | zero =>
    intro v2 v3 v4 h hL hJ hF
    cases hF
  | succ f ih =>
    intro v2 v3 v4 h hL hJ hF
    unfold GX12_ruled_L36 at hF
    have hK := hB0.tr hJ
    refine RK.of (RN.blk (ops := [(36, .iload 4)]) (pc' := 38) (lv' := [(0, .inr (.inr 334)), (1, .inl u1), (2, .inl v2), (3, .inl v3), (4, .inl v4)]) (st' := [.inl v4]) (h' := h) (cs := []) (by decide +kernel) rfl trivial) ?_
    rcases it_of hF with ⟨hb, hF⟩ | ⟨hb, hF⟩
    · refine RK.of (RN.ift (cd := .lt) (off := 30) (tgt := 68) (by decide +kernel) (mif_lt hb)) ?_
      exact RK.sub (hK0 _ _ _ hL hJ hF) (sub_cons rfl (sub_cons rfl (sub_cons rfl sub_nil)))
    · refine RK.of (RN.iff (cd := .lt) (off := 30) (tgt := 68) (by decide +kernel) (mif_ltn hb)) ?_
      refine RK.of (RN.blk (ops := [(41, .aload_n 0)]) (pc' := 42) (lv' := [(0, .inr (.inr 334)), (1, .inl u1), (2, .inl v2), (3, .inl v3), (4, .inl v4)]) (st' := [.inr (.inr 334)]) (h' := h) (cs := []) (by decide +kernel) rfl trivial) ?_
      refine RK.of (RN.gr (i := 67) (ci := 12) (k := 34) (fn := true) (v := 352) (by decide +kernel) rfl (TO.gk (o_334 hL)) (hL.fa (v := 352) 34 4 7 (o_334 hL) rfl (by decide) rfl (by decide)).1) ?_
      obtain ⟨hc, hF⟩ := gd_of hF
      refine RK.of (RN.blk (ops := [(45, .iload 4), (47, .baload)]) (pc' := 48) (lv' := [(0, .inr (.inr 334)), (1, .inl u1), (2, .inl v2), (3, .inl v3), (4, .inl v4)]) (st' := [.inl (m_rd h 352 v4)]) (h' := h) (cs := [GB h 352 v4]) (by decide +kernel) rfl ⟨(a_352 hL).gb (by decide) hc.1.1 hc.1.2, trivial⟩) ?_
      rcases it_of hF with ⟨hb, hF⟩ | ⟨hb, hF⟩
      · refine RK.of (RN.iff (cd := .ne) (off := 6) (tgt := 54) (by decide +kernel) (mif_nen hb)) ?_
        refine RK.of (RN.goto (off := 11) (tgt := 62) (by decide +kernel)) ?_
        refine RK.of (RN.blk (ops := [(62, .iinc 4 (-1))]) (pc' := 65) (lv' := [(4, .inl (m_w32 (v4 + (-1)))), (0, .inr (.inr 334)), (1, .inl u1), (2, .inl v2), (3, .inl v3)]) (st' := []) (h' := h) (cs := []) (by decide +kernel) rfl trivial) ?_
        refine RK.of (RN.goto (off := -29) (tgt := 36) (by decide +kernel)) ?_
        exact RK.sub (ih _ _ _ _ hL hJ hF) (sub_cons rfl (sub_cons rfl (sub_cons rfl (sub_cons rfl (sub_cons rfl sub_nil)))))
      · refine RK.of (RN.ift (cd := .ne) (off := 6) (tgt := 54) (by decide +kernel) (mif_ne hb)) ?_
        refine RK.of (RN.blk (ops := [(54, .iload 4), (56, .iconst 1), (57, .isub), (58, .istore_n 3), (59, .iinc 2 1)]) (pc' := 62) (lv' := [(2, .inl (m_w32 (v2 + 1))), (3, .inl (m_w32 (v4 - 1))), (0, .inr (.inr 334)), (1, .inl u1), (4, .inl v4)]) (st' := []) (h' := h) (cs := []) (by decide +kernel) rfl trivial) ?_
        refine RK.of (RN.blk (ops := [(62, .iinc 4 (-1))]) (pc' := 65) (lv' := [(4, .inl (m_w32 (v4 + (-1)))), (2, .inl (m_w32 (v2 + 1))), (3, .inl (m_w32 (v4 - 1))), (0, .inr (.inr 334)), (1, .inl u1)]) (st' := []) (h' := h) (cs := []) (by decide +kernel) rfl trivial) ?_
        refine RK.of (RN.goto (off := -29) (tgt := 36) (by decide +kernel)) ?_
        exact RK.sub (ih _ _ _ _ hL hJ hF) (sub_cons rfl (sub_cons rfl (sub_cons rfl (sub_cons rfl (sub_cons rfl sub_nil)))))
noncomputable def GX12_ruled (a1 : Int) (h : MH) : Option (Int × MH) :=
  (bd (GX12_isFrame h) (fun x2 h1 =>
   (if x2 = 0 then
    some ((-3), h1)
   else
    (bd (GX12_in a1 0 1 h1) (fun x4 h3 =>
     (if x4 = 0 then
      some ((-3), h3)
     else
      (bv (GX12_fillsFits 0 h3) (fun h5 =>
       GX12_ruled_L36 a1 (fun w6 w7 h8 =>
        (if a1 = 0 then
         some (w6, h8)
        else
         some (w7, h8))) FU 0 (-2) (m_rd h5 334 2) h5))))))))
theorem DX12_ruled {d : Nat} {a1 : Int} {h : MH} {r : Int × MH} (hL : LR h) (hF : GX12_ruled a1 h = some r) : RN xs L iX12_ruled (d + 9) 0 (lvE 0 [.inr (.inr 334), .inl a1]) [] h (RIo r) ∧ LR r.2 ∧ KD h r.2 := by
  unfold GX12_ruled at hF
  have hK : KD h h := KD.rf
  show RK xs L iX12_ruled (d + 9) 0 (lvE 0 [.inr (.inr 334), .inl a1]) [] h (RIo r) h r.2
  refine RK.of (RN.blk (ops := [(0, .aload_n 0)]) (pc' := 1) (lv' := [(0, .inr (.inr 334)), (1, .inl a1)]) (st' := [.inr (.inr 334)]) (h' := h) (cs := []) (by decide +kernel) rfl trivial) ?_
  obtain ⟨x2, h1, hG, hF⟩ := bd_of hF
  have hq := rcv_ok (as := []) (TO.gk (o_334 hL))
  obtain ⟨hN, hL, hQ⟩ := DX12_isFrame (d := d + 8) hL  hG
  refine RK.of (RN.cv (i := 295) (k := 202) (q2 := iX12_isFrame) (as := [.inr (.inr 334)]) (r := []) (v := some (.inl x2)) (h1 := h1) (by decide +kernel) rfl rfl rfl rfl rfl hq hN) ?_
  have hK := hK.tr hQ
  rcases it_of hF with ⟨hb, hF⟩ | ⟨hb, hF⟩
  · refine RK.of (RN.ift (cd := .eq) (off := 13) (tgt := 17) (by decide +kernel) (mif_eq hb)) ?_
    refine RK.of (RN.blk (ops := [(17, .bipush (-3))]) (pc' := 19) (lv' := [(0, .inr (.inr 334)), (1, .inl a1)]) (st' := [.inl (-3)]) (h' := h1) (cs := []) (by decide +kernel) rfl trivial) ?_
    exact RK.iR (by decide +kernel) rfl hL hK hF
  · refine RK.of (RN.iff (cd := .eq) (off := 13) (tgt := 17) (by decide +kernel) (mif_eqn hb)) ?_
    refine RK.of (RN.blk (ops := [(7, .iload_n 1), (8, .i2l), (9, .lconst 0), (10, .lconst 1)]) (pc' := 11) (lv' := [(0, .inr (.inr 334)), (1, .inl a1)]) (st' := [.inr (.inl 1), .inr (.inl 0), .inr (.inl a1)]) (h' := h1) (cs := []) (by decide +kernel) rfl trivial) ?_
    obtain ⟨x4, h3, hG, hF⟩ := bd_of hF
    obtain ⟨hN, hL, hQ⟩ := DX12_in (d := d + 8) hL  hG
    refine RK.of (RN.cst (i := 127) (k := 156) (q2 := iX12_in) (as := [.inr (.inl a1), .inr (.inl 0), .inr (.inl 1)]) (r := []) (v := some (.inl x4)) (h1 := h3) (by decide +kernel) rfl rfl rfl rfl rfl hN) ?_
    have hK := hK.tr hQ
    rcases it_of hF with ⟨hb, hF⟩ | ⟨hb, hF⟩
    · refine RK.of (RN.iff (cd := .ne) (off := 6) (tgt := 20) (by decide +kernel) (mif_nen hb)) ?_
      refine RK.of (RN.blk (ops := [(17, .bipush (-3))]) (pc' := 19) (lv' := [(0, .inr (.inr 334)), (1, .inl a1)]) (st' := [.inl (-3)]) (h' := h3) (cs := []) (by decide +kernel) rfl trivial) ?_
      exact RK.iR (by decide +kernel) rfl hL hK hF
    · refine RK.of (RN.ift (cd := .ne) (off := 6) (tgt := 20) (by decide +kernel) (mif_ne hb)) ?_
      refine RK.of (RN.blk (ops := [(20, .aload_n 0), (21, .iconst 0)]) (pc' := 22) (lv' := [(0, .inr (.inr 334)), (1, .inl a1)]) (st' := [.inl 0, .inr (.inr 334)]) (h' := h3) (cs := []) (by decide +kernel) rfl trivial) ?_
      obtain ⟨h5, hG, hF⟩ := bv_of hF
      have hq := rcv_ok (as := [.inl 0]) (TO.gk (o_334 hL))
      obtain ⟨hN, hL, hQ⟩ := DX12_fillsFits (d := d) hL  hG
      refine RK.of (RN.cv (i := 456) (k := 269) (q2 := iX12_fillsFits) (as := [.inr (.inr 334), .inl 0]) (r := []) (v := none) (h1 := h5) (by decide +kernel) rfl rfl rfl rfl rfl hq hN) ?_
      have hK := hK.tr hQ
      refine RK.of (RN.blk (ops := [(25, .iconst 0), (26, .istore_n 2), (27, .bipush (-2)), (29, .istore_n 3), (30, .aload_n 0), (31, .getfield 268), (34, .istore 4)]) (pc' := 36) (lv' := [(4, .inl (m_rd h5 334 2)), (3, .inl (-2)), (2, .inl 0), (0, .inr (.inr 334)), (1, .inl a1)]) (st' := []) (h' := h5) (cs := [GK h5 334 12]) (by decide +kernel) rfl ⟨(o_334 hL).gk, trivial⟩) ?_
      refine RK.sub (DX12_ruled_L36 hK ?_ _ _ _ _ _ hL KD.rf hF) (sub_cons rfl (sub_cons rfl (sub_cons rfl (sub_cons rfl (sub_cons rfl sub_nil)))))
      · intro w6 w7 h8 hL hq hF
        have hK := hK.tr hq
        refine RK.of (RN.blk (ops := [(68, .iload_n 1)]) (pc' := 69) (lv' := [(1, .inl a1), (2, .inl w6), (3, .inl w7)]) (st' := [.inl a1]) (h' := h8) (cs := []) (by decide +kernel) rfl trivial) ?_
        rcases it_of hF with ⟨hb, hF⟩ | ⟨hb, hF⟩
        · refine RK.of (RN.iff (cd := .ne) (off := 7) (tgt := 76) (by decide +kernel) (mif_nen hb)) ?_
          refine RK.of (RN.blk (ops := [(72, .iload_n 2)]) (pc' := 73) (lv' := [(1, .inl a1), (2, .inl w6), (3, .inl w7)]) (st' := [.inl w6]) (h' := h8) (cs := []) (by decide +kernel) rfl trivial) ?_
          refine RK.of (RN.goto (off := 4) (tgt := 77) (by decide +kernel)) ?_
          exact RK.iR (by decide +kernel) rfl hL hK hF
        · refine RK.of (RN.ift (cd := .ne) (off := 7) (tgt := 76) (by decide +kernel) (mif_ne hb)) ?_
          refine RK.of (RN.blk (ops := [(76, .iload_n 3)]) (pc' := 77) (lv' := [(1, .inl a1), (2, .inl w6), (3, .inl w7)]) (st' := [.inl w7]) (h' := h8) (cs := []) (by decide +kernel) rfl trivial) ?_
          exact RK.iR (by decide +kernel) rfl hL hK hF
noncomputable def GX12_alikeAt_L18 (u1 : Int) (u2 : Int) (u3 : Int) (K0 : Int → MH → Option (Int × MH)) : Nat → Int → Int → MH → Option (Int × MH)
  | 0, _, _, _ => none
  | f + 1, v4, v5, h =>
    (if (m_rd h 334 2) < v5 then
     K0 v4 h
    else
     gd [IB u3 7] (
      (if (m_rd h 352 u3) = 0 then
       K0 v4 h
      else
       gd [IB v5 7] (
        (if (m_rd h 352 v5) = 0 then
         GX12_alikeAt_L18 u1 u2 u3 K0 f (m_w32 (v4 + 0)) (m_w32 (v5 + 1)) h
        else
         gd [IB (m_w32 ((m_w32 (6 * u3)) + u1)) 42] (
          gd [IB (m_w32 ((m_w32 (6 * v5)) + u1)) 42] (
           (if (m_rd h 353 (m_w32 ((m_w32 (6 * u3)) + u1))) = (m_rd h 353 (m_w32 ((m_w32 (6 * v5)) + u1))) then
            GX12_alikeAt_L18 u1 u2 u3 K0 f (m_w32 (v4 + 1)) (m_w32 (v5 + 1)) h
           else
            GX12_alikeAt_L18 u1 u2 u3 K0 f (m_w32 (v4 + 0)) (m_w32 (v5 + 1)) h))))))))
theorem DX12_alikeAt_L18 {d : Nat} {u1 : Int} {u2 : Int} {u3 : Int} {K0 : Int → MH → Option (Int × MH)} {r : Int × MH} {h0 hB : MH} (hB0 : KD h0 hB) (hK0 : ∀ (w4 : Int) (h : MH), LR h → KD hB h → K0 w4 h = some r → RK xs L iX12_alikeAt (d) 88 [(0, .inr (.inr 334)), (1, .inl u1), (2, .inl u2), (3, .inl u3), (4, .inl w4)] [] h (RIo r) h0 r.2) : ∀ (f : Nat) (v4 : Int) (v5 : Int) (h : MH), LR h → KD hB h → GX12_alikeAt_L18 u1 u2 u3 K0 f v4 v5 h = some r → RK xs L iX12_alikeAt (d) 18 [(0, .inr (.inr 334)), (1, .inl u1), (2, .inl u2), (3, .inl u3), (4, .inl v4), (5, .inl v5)] [] h (RIo r) h0 r.2 := by
  intro f
  induction f with
  | zero =>
    intro v4 v5 h hL hJ hF
    cases hF
  | succ f ih =>
    intro v4 v5 h hL hJ hF
    unfold GX12_alikeAt_L18 at hF
    have hK := hB0.tr hJ
    refine RK.of (RN.blk (ops := [(18, .iload 5), (20, .aload_n 0), (21, .getfield 268)]) (pc' := 24) (lv' := [(0, .inr (.inr 334)), (1, .inl u1), (2, .inl u2), (3, .inl u3), (4, .inl v4), (5, .inl v5)]) (st' := [.inl (m_rd h 334 2), .inl v5]) (h' := h) (cs := [GK h 334 12]) (by decide +kernel) rfl ⟨(o_334 hL).gk, trivial⟩) ?_
    rcases it_of hF with ⟨hb, hF⟩ | ⟨hb, hF⟩
    · refine RK.of (RN.ict (cd := .gt) (off := 64) (tgt := 88) (by decide +kernel) (mif_gt hb)) ?_
      exact RK.sub (hK0 _ _ hL hJ hF) (sub_cons rfl (sub_cons rfl (sub_cons rfl (sub_cons rfl (sub_cons rfl sub_nil)))))
    · refine RK.of (RN.icf (cd := .gt) (off := 64) (tgt := 88) (by decide +kernel) (mif_gtn hb)) ?_
      refine RK.of (RN.blk (ops := [(27, .aload_n 0)]) (pc' := 28) (lv' := [(0, .inr (.inr 334)), (1, .inl u1), (2, .inl u2), (3, .inl u3), (4, .inl v4), (5, .inl v5)]) (st' := [.inr (.inr 334)]) (h' := h) (cs := []) (by decide +kernel) rfl trivial) ?_
      refine RK.of (RN.gr (i := 67) (ci := 12) (k := 34) (fn := true) (v := 352) (by decide +kernel) rfl (TO.gk (o_334 hL)) (hL.fa (v := 352) 34 4 7 (o_334 hL) rfl (by decide) rfl (by decide)).1) ?_
      obtain ⟨hc, hF⟩ := gd_of hF
      refine RK.of (RN.blk (ops := [(31, .iload_n 3), (32, .baload)]) (pc' := 33) (lv' := [(0, .inr (.inr 334)), (1, .inl u1), (2, .inl u2), (3, .inl u3), (4, .inl v4), (5, .inl v5)]) (st' := [.inl (m_rd h 352 u3)]) (h' := h) (cs := [GB h 352 u3]) (by decide +kernel) rfl ⟨(a_352 hL).gb (by decide) hc.1.1 hc.1.2, trivial⟩) ?_
      rcases it_of hF with ⟨hb, hF⟩ | ⟨hb, hF⟩
      · refine RK.of (RN.ift (cd := .eq) (off := 55) (tgt := 88) (by decide +kernel) (mif_eq hb)) ?_
        exact RK.sub (hK0 _ _ hL hJ hF) (sub_cons rfl (sub_cons rfl (sub_cons rfl (sub_cons rfl (sub_cons rfl sub_nil)))))
      · refine RK.of (RN.iff (cd := .eq) (off := 55) (tgt := 88) (by decide +kernel) (mif_eqn hb)) ?_
        refine RK.of (RN.blk (ops := [(36, .iload 4), (38, .aload_n 0)]) (pc' := 39) (lv' := [(0, .inr (.inr 334)), (1, .inl u1), (2, .inl u2), (3, .inl u3), (4, .inl v4), (5, .inl v5)]) (st' := [.inr (.inr 334), .inl v4]) (h' := h) (cs := []) (by decide +kernel) rfl trivial) ?_
        refine RK.of (RN.gr (i := 67) (ci := 12) (k := 34) (fn := true) (v := 352) (by decide +kernel) rfl (TO.gk (o_334 hL)) (hL.fa (v := 352) 34 4 7 (o_334 hL) rfl (by decide) rfl (by decide)).1) ?_
        obtain ⟨hc, hF⟩ := gd_of hF
        refine RK.of (RN.blk (ops := [(42, .iload 5), (44, .baload)]) (pc' := 45) (lv' := [(0, .inr (.inr 334)), (1, .inl u1), (2, .inl u2), (3, .inl u3), (4, .inl v4), (5, .inl v5)]) (st' := [.inl (m_rd h 352 v5), .inl v4]) (h' := h) (cs := [GB h 352 v5]) (by decide +kernel) rfl ⟨(a_352 hL).gb (by decide) hc.1.1 hc.1.2, trivial⟩) ?_
        rcases it_of hF with ⟨hb, hF⟩ | ⟨hb, hF⟩
        · refine RK.of (RN.ift (cd := .eq) (off := 33) (tgt := 78) (by decide +kernel) (mif_eq hb)) ?_
          refine RK.of (RN.blk (ops := [(78, .iconst 0)]) (pc' := 79) (lv' := [(0, .inr (.inr 334)), (1, .inl u1), (2, .inl u2), (3, .inl u3), (4, .inl v4), (5, .inl v5)]) (st' := [.inl 0, .inl v4]) (h' := h) (cs := []) (by decide +kernel) rfl trivial) ?_
          refine RK.of (RN.blk (ops := [(79, .iadd), (80, .istore 4), (82, .iinc 5 1)]) (pc' := 85) (lv' := [(5, .inl (m_w32 (v5 + 1))), (4, .inl (m_w32 (v4 + 0))), (0, .inr (.inr 334)), (1, .inl u1), (2, .inl u2), (3, .inl u3)]) (st' := []) (h' := h) (cs := []) (by decide +kernel) rfl trivial) ?_
          refine RK.of (RN.goto (off := -67) (tgt := 18) (by decide +kernel)) ?_
          exact RK.sub (ih _ _ _ hL hJ hF) (sub_cons rfl (sub_cons rfl (sub_cons rfl (sub_cons rfl (sub_cons rfl (sub_cons rfl sub_nil))))))
        · refine RK.of (RN.iff (cd := .eq) (off := 33) (tgt := 78) (by decide +kernel) (mif_eqn hb)) ?_
          refine RK.of (RN.blk (ops := [(48, .aload_n 0)]) (pc' := 49) (lv' := [(0, .inr (.inr 334)), (1, .inl u1), (2, .inl u2), (3, .inl u3), (4, .inl v4), (5, .inl v5)]) (st' := [.inr (.inr 334), .inl v4]) (h' := h) (cs := []) (by decide +kernel) rfl trivial) ?_
          refine RK.of (RN.gr (i := 71) (ci := 12) (k := 35) (fn := true) (v := 353) (by decide +kernel) rfl (TO.gk (o_334 hL)) (hL.fa (v := 353) 35 1 42 (o_334 hL) rfl (by decide) rfl (by decide)).1) ?_
          obtain ⟨hc, hF⟩ := gd_of hF
          refine RK.of (RN.blk (ops := [(52, .bipush 6), (54, .iload_n 3), (55, .imul), (56, .iload_n 1), (57, .iadd), (58, .iaload), (59, .aload_n 0)]) (pc' := 60) (lv' := [(0, .inr (.inr 334)), (1, .inl u1), (2, .inl u2), (3, .inl u3), (4, .inl v4), (5, .inl v5)]) (st' := [.inr (.inr 334), .inl (m_rd h 353 (m_w32 ((m_w32 (6 * u3)) + u1))), .inl v4]) (h' := h) (cs := [GI h 353 1 (m_w32 ((m_w32 (6 * u3)) + u1))]) (by decide +kernel) rfl ⟨(a_353 hL).gi hc.1.1 hc.1.2, trivial⟩) ?_
          refine RK.of (RN.gr (i := 71) (ci := 12) (k := 35) (fn := true) (v := 353) (by decide +kernel) rfl (TO.gk (o_334 hL)) (hL.fa (v := 353) 35 1 42 (o_334 hL) rfl (by decide) rfl (by decide)).1) ?_
          obtain ⟨hc, hF⟩ := gd_of hF
          refine RK.of (RN.blk (ops := [(63, .bipush 6), (65, .iload 5), (67, .imul), (68, .iload_n 1), (69, .iadd), (70, .iaload)]) (pc' := 71) (lv' := [(0, .inr (.inr 334)), (1, .inl u1), (2, .inl u2), (3, .inl u3), (4, .inl v4), (5, .inl v5)]) (st' := [.inl (m_rd h 353 (m_w32 ((m_w32 (6 * v5)) + u1))), .inl (m_rd h 353 (m_w32 ((m_w32 (6 * u3)) + u1))), .inl v4]) (h' := h) (cs := [GI h 353 1 (m_w32 ((m_w32 (6 * v5)) + u1))]) (by decide +kernel) rfl ⟨(a_353 hL).gi hc.1.1 hc.1.2, trivial⟩) ?_
          rcases it_of hF with ⟨hb, hF⟩ | ⟨hb, hF⟩
          · refine RK.of (RN.icf (cd := .ne) (off := 7) (tgt := 78) (by decide +kernel) (mif_nen hb)) ?_
            refine RK.of (RN.blk (ops := [(74, .iconst 1)]) (pc' := 75) (lv' := [(0, .inr (.inr 334)), (1, .inl u1), (2, .inl u2), (3, .inl u3), (4, .inl v4), (5, .inl v5)]) (st' := [.inl 1, .inl v4]) (h' := h) (cs := []) (by decide +kernel) rfl trivial) ?_
            refine RK.of (RN.goto (off := 4) (tgt := 79) (by decide +kernel)) ?_
            refine RK.of (RN.blk (ops := [(79, .iadd), (80, .istore 4), (82, .iinc 5 1)]) (pc' := 85) (lv' := [(5, .inl (m_w32 (v5 + 1))), (4, .inl (m_w32 (v4 + 1))), (0, .inr (.inr 334)), (1, .inl u1), (2, .inl u2), (3, .inl u3)]) (st' := []) (h' := h) (cs := []) (by decide +kernel) rfl trivial) ?_
            refine RK.of (RN.goto (off := -67) (tgt := 18) (by decide +kernel)) ?_
            exact RK.sub (ih _ _ _ hL hJ hF) (sub_cons rfl (sub_cons rfl (sub_cons rfl (sub_cons rfl (sub_cons rfl (sub_cons rfl sub_nil))))))
          · refine RK.of (RN.ict (cd := .ne) (off := 7) (tgt := 78) (by decide +kernel) (mif_ne hb)) ?_
            refine RK.of (RN.blk (ops := [(78, .iconst 0)]) (pc' := 79) (lv' := [(0, .inr (.inr 334)), (1, .inl u1), (2, .inl u2), (3, .inl u3), (4, .inl v4), (5, .inl v5)]) (st' := [.inl 0, .inl v4]) (h' := h) (cs := []) (by decide +kernel) rfl trivial) ?_
            refine RK.of (RN.blk (ops := [(79, .iadd), (80, .istore 4), (82, .iinc 5 1)]) (pc' := 85) (lv' := [(5, .inl (m_w32 (v5 + 1))), (4, .inl (m_w32 (v4 + 0))), (0, .inr (.inr 334)), (1, .inl u1), (2, .inl u2), (3, .inl u3)]) (st' := []) (h' := h) (cs := []) (by decide +kernel) rfl trivial) ?_
            refine RK.of (RN.goto (off := -67) (tgt := 18) (by decide +kernel)) ?_
            exact RK.sub (ih _ _ _ hL hJ hF) (sub_cons rfl (sub_cons rfl (sub_cons rfl (sub_cons rfl (sub_cons rfl (sub_cons rfl sub_nil))))))
noncomputable def GX12_alikeAt_L4 (u1 : Int) (K0 : Int → MH → Option (Int × MH)) : Nat → Int → Int → MH → Option (Int × MH)
  | 0, _, _, _ => none
  | f + 1, v2, v3, h =>
    (if (m_rd h 334 2) < v3 then
     K0 v2 h
    else
     GX12_alikeAt_L18 u1 v2 v3 (fun w1 h2 =>
      (if v2 < w1 then
       GX12_alikeAt_L4 u1 K0 f w1 (m_w32 (v3 + 1)) h2
      else
       GX12_alikeAt_L4 u1 K0 f v2 (m_w32 (v3 + 1)) h2)) FU 0 0 h)
theorem DX12_alikeAt_L4 {d : Nat} {u1 : Int} {K0 : Int → MH → Option (Int × MH)} {r : Int × MH} {h0 hB : MH} (hB0 : KD h0 hB) (hK0 : ∀ (w2 : Int) (h : MH), LR h → KD hB h → K0 w2 h = some r → RK xs L iX12_alikeAt (d) 107 [(2, .inl w2)] [] h (RIo r) h0 r.2) : ∀ (f : Nat) (v2 : Int) (v3 : Int) (h : MH), LR h → KD hB h → GX12_alikeAt_L4 u1 K0 f v2 v3 h = some r → RK xs L iX12_alikeAt (d) 4 [(0, .inr (.inr 334)), (1, .inl u1), (2, .inl v2), (3, .inl v3)] [] h (RIo r) h0 r.2 := by
  intro f
  induction f with
  | zero =>
    intro v2 v3 h hL hJ hF
    cases hF
  | succ f ih =>
    intro v2 v3 h hL hJ hF
    unfold GX12_alikeAt_L4 at hF
    have hK := hB0.tr hJ
    refine RK.of (RN.blk (ops := [(4, .iload_n 3), (5, .aload_n 0), (6, .getfield 268)]) (pc' := 9) (lv' := [(0, .inr (.inr 334)), (1, .inl u1), (2, .inl v2), (3, .inl v3)]) (st' := [.inl (m_rd h 334 2), .inl v3]) (h' := h) (cs := [GK h 334 12]) (by decide +kernel) rfl ⟨(o_334 hL).gk, trivial⟩) ?_
    rcases it_of hF with ⟨hb, hF⟩ | ⟨hb, hF⟩
    · refine RK.of (RN.ict (cd := .gt) (off := 98) (tgt := 107) (by decide +kernel) (mif_gt hb)) ?_
      exact RK.sub (hK0 _ _ hL hJ hF) (sub_cons rfl sub_nil)
    · refine RK.of (RN.icf (cd := .gt) (off := 98) (tgt := 107) (by decide +kernel) (mif_gtn hb)) ?_
      refine RK.of (RN.blk (ops := [(12, .iconst 0), (13, .istore 4), (15, .iconst 0), (16, .istore 5)]) (pc' := 18) (lv' := [(5, .inl 0), (4, .inl 0), (0, .inr (.inr 334)), (1, .inl u1), (2, .inl v2), (3, .inl v3)]) (st' := []) (h' := h) (cs := []) (by decide +kernel) rfl trivial) ?_
      refine RK.sub (DX12_alikeAt_L18 hK ?_ _ _ _ _ hL KD.rf hF) (sub_cons rfl (sub_cons rfl (sub_cons rfl (sub_cons rfl (sub_cons rfl (sub_cons rfl sub_nil))))))
      · intro w1 h2 hL hq hF
        have hK := hK.tr hq
        have hJ := hJ.tr hq
        refine RK.of (RN.blk (ops := [(88, .iload 4), (90, .iload_n 2)]) (pc' := 91) (lv' := [(0, .inr (.inr 334)), (1, .inl u1), (2, .inl v2), (3, .inl v3), (4, .inl w1)]) (st' := [.inl v2, .inl w1]) (h' := h2) (cs := []) (by decide +kernel) rfl trivial) ?_
        rcases it_of hF with ⟨hb, hF⟩ | ⟨hb, hF⟩
        · refine RK.of (RN.icf (cd := .le) (off := 8) (tgt := 99) (by decide +kernel) (mif_len hb)) ?_
          refine RK.of (RN.blk (ops := [(94, .iload 4)]) (pc' := 96) (lv' := [(0, .inr (.inr 334)), (1, .inl u1), (2, .inl v2), (3, .inl v3), (4, .inl w1)]) (st' := [.inl w1]) (h' := h2) (cs := []) (by decide +kernel) rfl trivial) ?_
          refine RK.of (RN.goto (off := 4) (tgt := 100) (by decide +kernel)) ?_
          refine RK.of (RN.blk (ops := [(100, .istore_n 2), (101, .iinc 3 1)]) (pc' := 104) (lv' := [(3, .inl (m_w32 (v3 + 1))), (2, .inl w1), (0, .inr (.inr 334)), (1, .inl u1), (4, .inl w1)]) (st' := []) (h' := h2) (cs := []) (by decide +kernel) rfl trivial) ?_
          refine RK.of (RN.goto (off := -100) (tgt := 4) (by decide +kernel)) ?_
          exact RK.sub (ih _ _ _ hL hJ hF) (sub_cons rfl (sub_cons rfl (sub_cons rfl (sub_cons rfl sub_nil))))
        · refine RK.of (RN.ict (cd := .le) (off := 8) (tgt := 99) (by decide +kernel) (mif_le hb)) ?_
          refine RK.of (RN.blk (ops := [(99, .iload_n 2)]) (pc' := 100) (lv' := [(0, .inr (.inr 334)), (1, .inl u1), (2, .inl v2), (3, .inl v3), (4, .inl w1)]) (st' := [.inl v2]) (h' := h2) (cs := []) (by decide +kernel) rfl trivial) ?_
          refine RK.of (RN.blk (ops := [(100, .istore_n 2), (101, .iinc 3 1)]) (pc' := 104) (lv' := [(3, .inl (m_w32 (v3 + 1))), (2, .inl v2), (0, .inr (.inr 334)), (1, .inl u1), (4, .inl w1)]) (st' := []) (h' := h2) (cs := []) (by decide +kernel) rfl trivial) ?_
          refine RK.of (RN.goto (off := -100) (tgt := 4) (by decide +kernel)) ?_
          exact RK.sub (ih _ _ _ hL hJ hF) (sub_cons rfl (sub_cons rfl (sub_cons rfl (sub_cons rfl sub_nil))))
noncomputable def GX12_alikeAt (a1 : Int) (h : MH) : Option (Int × MH) :=
  GX12_alikeAt_L4 a1 (fun w1 h2 =>
   some (w1, h2)) FU 0 0 h
theorem DX12_alikeAt {d : Nat} {a1 : Int} {h : MH} {r : Int × MH} (hL : LR h) (hF : GX12_alikeAt a1 h = some r) : RN xs L iX12_alikeAt (d) 0 (lvE 0 [.inr (.inr 334), .inl a1]) [] h (RIo r) ∧ LR r.2 ∧ KD h r.2 := by
  unfold GX12_alikeAt at hF
  have hK : KD h h := KD.rf
  show RK xs L iX12_alikeAt (d) 0 (lvE 0 [.inr (.inr 334), .inl a1]) [] h (RIo r) h r.2
  refine RK.of (RN.blk (ops := [(0, .iconst 0), (1, .istore_n 2), (2, .iconst 0), (3, .istore_n 3)]) (pc' := 4) (lv' := [(3, .inl 0), (2, .inl 0), (0, .inr (.inr 334)), (1, .inl a1)]) (st' := []) (h' := h) (cs := []) (by decide +kernel) rfl trivial) ?_
  refine RK.sub (DX12_alikeAt_L4 hK ?_ _ _ _ _ hL KD.rf hF) (sub_cons rfl (sub_cons rfl (sub_cons rfl (sub_cons rfl sub_nil))))
  · intro w1 h2 hL hq hF
    have hK := hK.tr hq
    refine RK.of (RN.blk (ops := [(107, .iload_n 2)]) (pc' := 108) (lv' := [(2, .inl w1)]) (st' := [.inl w1]) (h' := h2) (cs := []) (by decide +kernel) rfl trivial) ?_
    exact RK.iR (by decide +kernel) rfl hL hK hF
end Gc
