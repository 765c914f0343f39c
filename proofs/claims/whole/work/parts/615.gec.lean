/-! METHODS AS FUNCTIONS, references resolved (by program): X12_needsOf, X12_least, X12_keeps, X12_laysBack, X12_sortsAll, X12_triesEntry, X12_one, X12_changes, X12_change, X12_ahead -/
section Gc
variable {xs : Int → Int} {L : Int}
noncomputable def GX12_needsOf_L2 (u1 : Int) (K0 : MH → Option (MH)) : Nat → Int → MH → Option (MH)
  | 0, _, _ => none
  | f + 1, v2, h =>
    (bd (GX12_power (m_rd h 344 1) (m_w32 (u1 + 1)) h) (fun x2 h1 =>
     (if v2 < (m_w32 (7 * x2)) then
      gd [IB v2 1792] (
       GX12_needsOf_L2 u1 K0 f (m_w32 (v2 + 1)) (m_wr h1 349 v2 (m_rd h1 348 v2)))
     else
      K0 h1)))
theorem DX12_needsOf_L2 {d : Nat} {u1 : Int} {K0 : MH → Option (MH)} {r : MH} {h0 hB : MH} (hB0 : KD h0 hB) (hK0 : ∀ (h : MH), LR h → KD hB h → K0 h = some r → RK xs L iX12_needsOf (d + 1) 39 [(0, .inr (.inr 334)), (1, .inl u1)] [] h (RVo r) h0 r) : ∀ (f : Nat) (v2 : Int) (h : MH), LR h → KD hB h → GX12_needsOf_L2 u1 K0 f v2 h = some r → RK xs L iX12_needsOf (d + 1) 2 [(0, .inr (.inr 334)), (1, .inl u1), (2, .inl v2)] [] h (RVo r) h0 r := by
  intro f
  induction f with
  | zero =>
    intro v2 h hL hJ hF
    cases hF
  | succ f ih =>
    intro v2 h hL hJ hF
    unfold GX12_needsOf_L2 at hF
    have hK := hB0.tr hJ
    refine RK.of (RN.blk (ops := [(2, .iload_n 2), (3, .bipush 7), (5, .aload_n 0)]) (pc' := 6) (lv' := [(0, .inr (.inr 334)), (1, .inl u1), (2, .inl v2)]) (st' := [.inr (.inr 334), .inl 7, .inl v2]) (h' := h) (cs := []) (by decide +kernel) rfl trivial) ?_
    refine RK.of (RN.gr (i := 39) (ci := 12) (k := 20) (fn := true) (v := 344) (by decide +kernel) rfl (TO.gk (o_334 hL)) (hL.fa (v := 344) 20 1 167 (o_334 hL) rfl (by decide) rfl (by decide)).1) ?_
    refine RK.of (RN.blk (ops := [(9, .iconst 1), (10, .iaload), (11, .iload_n 1), (12, .iconst 1), (13, .iadd)]) (pc' := 14) (lv' := [(0, .inr (.inr 334)), (1, .inl u1), (2, .inl v2)]) (st' := [.inl (m_w32 (u1 + 1)), .inl (m_rd h 344 1), .inl 7, .inl v2]) (h' := h) (cs := [GI h 344 1 1]) (by decide +kernel) rfl ⟨(a_344 hL).gi (by decide) (by decide), trivial⟩) ?_
    obtain ⟨x2, h1, hG, hF⟩ := bd_of hF
    obtain ⟨hN, hL, hQ⟩ := DX12_power (d := d) hL  hG
    refine RK.of (RN.cst (i := 229) (k := 159) (q2 := iX12_power) (as := [.inl (m_rd h 344 1), .inl (m_w32 (u1 + 1))]) (r := [.inl 7, .inl v2]) (v := some (.inl x2)) (h1 := h1) (by decide +kernel) rfl rfl rfl rfl rfl hN) ?_
    have hK := hK.tr hQ
    have hJ := hJ.tr hQ
    refine RK.of (RN.blk (ops := [(17, .imul)]) (pc' := 18) (lv' := [(0, .inr (.inr 334)), (1, .inl u1), (2, .inl v2)]) (st' := [.inl (m_w32 (7 * x2)), .inl v2]) (h' := h1) (cs := []) (by decide +kernel) rfl trivial) ?_
    rcases it_of hF with ⟨hb, hF⟩ | ⟨hb, hF⟩
    · refine RK.of (RN.icf (cd := .ge) (off := 21) (tgt := 39) (by decide +kernel) (mif_gen hb)) ?_
      refine RK.of (RN.blk (ops := [(21, .aload_n 0)]) (pc' := 22) (lv' := [(0, .inr (.inr 334)), (1, .inl u1), (2, .inl v2)]) (st' := [.inr (.inr 334)]) (h' := h1) (cs := []) (by decide +kernel) rfl trivial) ?_
      refine RK.of (RN.gr (i := 58) (ci := 12) (k := 29) (fn := true) (v := 349) (by decide +kernel) rfl (TO.gk (o_334 hL)) (hL.fa (v := 349) 29 1 1792 (o_334 hL) rfl (by decide) rfl (by decide)).1) ?_
      refine RK.of (RN.blk (ops := [(25, .iload_n 2), (26, .aload_n 0)]) (pc' := 27) (lv' := [(0, .inr (.inr 334)), (1, .inl u1), (2, .inl v2)]) (st' := [.inr (.inr 334), .inl v2, .inr (.inr 349)]) (h' := h1) (cs := []) (by decide +kernel) rfl trivial) ?_
      refine RK.of (RN.gr (i := 55) (ci := 12) (k := 28) (fn := true) (v := 348) (by decide +kernel) rfl (TO.gk (o_334 hL)) (hL.fa (v := 348) 28 1 1792 (o_334 hL) rfl (by decide) rfl (by decide)).1) ?_
      obtain ⟨hc, hF⟩ := gd_of hF
      refine RK.of (RN.blk (ops := [(30, .iload_n 2), (31, .iaload), (32, .iastore)]) (pc' := 33) (lv' := [(0, .inr (.inr 334)), (1, .inl u1), (2, .inl v2)]) (st' := []) (h' := (m_wr h1 349 v2 (m_rd h1 348 v2))) (cs := [GI h1 348 1 v2, GI h1 349 1 v2]) (by decide +kernel) rfl ⟨(a_348 hL).gi hc.1.1 hc.1.2, (a_349 hL).gi hc.1.1 hc.1.2, trivial⟩) ?_
      have hL : LR (m_wr h1 349 v2 (m_rd h1 348 v2)) := hL.wa (TA.le5 (a_349 hL) (by decide))
      have hK := hK.tr (KD.wr : KD h1 (m_wr h1 349 v2 (m_rd h1 348 v2)))
      have hJ := hJ.tr (KD.wr : KD h1 (m_wr h1 349 v2 (m_rd h1 348 v2)))
      refine RK.of (RN.blk (ops := [(33, .iinc 2 1)]) (pc' := 36) (lv' := [(2, .inl (m_w32 (v2 + 1))), (0, .inr (.inr 334)), (1, .inl u1)]) (st' := []) (h' := (m_wr h1 349 v2 (m_rd h1 348 v2))) (cs := []) (by decide +kernel) rfl trivial) ?_
      refine RK.of (RN.goto (off := -34) (tgt := 2) (by decide +kernel)) ?_
      exact RK.sub (ih _ _ hL hJ hF) (sub_cons rfl (sub_cons rfl (sub_cons rfl sub_nil)))
    · refine RK.of (RN.ict (cd := .ge) (off := 21) (tgt := 39) (by decide +kernel) (mif_ge hb)) ?_
      exact RK.sub (hK0 _ hL hJ hF) (sub_cons rfl (sub_cons rfl sub_nil))
noncomputable def GX12_needsOf_L62 (u1 : Int) (u2 : Int) (K0 : Int → MH → Option (MH)) : Nat → Int → Int → MH → Option (MH)
  | 0, _, _, _ => none
  | f + 1, v3, v4, h =>
    (if v4 < (m_rd h 344 3) then
     (bd (GX12_needBelow u2 v4 h) (fun x2 h1 =>
      (if (m_w32 (1 + x2)) < v3 then
       (bd (GX12_needBelow u2 v4 h1) (fun x4 h3 =>
        GX12_needsOf_L62 u1 u2 K0 f (m_w32 (1 + x4)) (m_w32 (v4 + 1)) h3))
      else
       GX12_needsOf_L62 u1 u2 K0 f v3 (m_w32 (v4 + 1)) h1)))
    else
     K0 v3 h)
theorem DX12_needsOf_L62 {d : Nat} {u1 : Int} {u2 : Int} {K0 : Int → MH → Option (MH)} {r : MH} {h0 hB : MH} (hB0 : KD h0 hB) (hK0 : ∀ (w3 : Int) (h : MH), LR h → KD hB h → K0 w3 h = some r → RK xs L iX12_needsOf (d + 1) 102 [(0, .inr (.inr 334)), (1, .inl u1), (2, .inl u2), (3, .inl w3)] [] h (RVo r) h0 r) : ∀ (f : Nat) (v3 : Int) (v4 : Int) (h : MH), LR h → KD hB h → GX12_needsOf_L62 u1 u2 K0 f v3 v4 h = some r → RK xs L iX12_needsOf (d + 1) 62 [(0, .inr (.inr 334)), (1, .inl u1), (2, .inl u2), (3, .inl v3), (4, .inl v4)] [] h (RVo r) h0 r := by
  intro f
  induction f with
  | zero =>
    intro v3 v4 h hL hJ hF
    cases hF
  | succ f ih =>
    intro v3 v4 h hL hJ hF
    unfold GX12_needsOf_L62 at hF
    have hK := hB0.tr hJ
    refine RK.of (RN.blk (ops := [(62, .iload 4), (64, .aload_n 0)]) (pc' := 65) (lv' := [(0, .inr (.inr 334)), (1, .inl u1), (2, .inl u2), (3, .inl v3), (4, .inl v4)]) (st' := [.inr (.inr 334), .inl v4]) (h' := h) (cs := []) (by decide +kernel) rfl trivial) ?_
    refine RK.of (RN.gr (i := 39) (ci := 12) (k := 20) (fn := true) (v := 344) (by decide +kernel) rfl (TO.gk (o_334 hL)) (hL.fa (v := 344) 20 1 167 (o_334 hL) rfl (by decide) rfl (by decide)).1) ?_
    refine RK.of (RN.blk (ops := [(68, .iconst 3), (69, .iaload)]) (pc' := 70) (lv' := [(0, .inr (.inr 334)), (1, .inl u1), (2, .inl u2), (3, .inl v3), (4, .inl v4)]) (st' := [.inl (m_rd h 344 3), .inl v4]) (h' := h) (cs := [GI h 344 1 3]) (by decide +kernel) rfl ⟨(a_344 hL).gi (by decide) (by decide), trivial⟩) ?_
    rcases it_of hF with ⟨hb, hF⟩ | ⟨hb, hF⟩
    · refine RK.of (RN.icf (cd := .ge) (off := 32) (tgt := 102) (by decide +kernel) (mif_gen hb)) ?_
      refine RK.of (RN.blk (ops := [(73, .iconst 1), (74, .aload_n 0), (75, .iload_n 2), (76, .iload 4)]) (pc' := 78) (lv' := [(0, .inr (.inr 334)), (1, .inl u1), (2, .inl u2), (3, .inl v3), (4, .inl v4)]) (st' := [.inl v4, .inl u2, .inr (.inr 334), .inl 1]) (h' := h) (cs := []) (by decide +kernel) rfl trivial) ?_
      obtain ⟨x2, h1, hG, hF⟩ := bd_of hF
      have hq := rcv_ok (as := [.inl u2, .inl v4]) (TO.gk (o_334 hL))
      obtain ⟨hN, hL, hQ⟩ := DX12_needBelow (d := d) hL  hG
      refine RK.of (RN.cv (i := 399) (k := 250) (q2 := iX12_needBelow) (as := [.inr (.inr 334), .inl u2, .inl v4]) (r := [.inl 1]) (v := some (.inl x2)) (h1 := h1) (by decide +kernel) rfl rfl rfl rfl rfl hq hN) ?_
      have hK := hK.tr hQ
      have hJ := hJ.tr hQ
      refine RK.of (RN.blk (ops := [(81, .iadd), (82, .iload_n 3)]) (pc' := 83) (lv' := [(0, .inr (.inr 334)), (1, .inl u1), (2, .inl u2), (3, .inl v3), (4, .inl v4)]) (st' := [.inl v3, .inl (m_w32 (1 + x2))]) (h' := h1) (cs := []) (by decide +kernel) rfl trivial) ?_
      rcases it_of hF with ⟨hb, hF⟩ | ⟨hb, hF⟩
      · refine RK.of (RN.icf (cd := .ge) (off := 13) (tgt := 96) (by decide +kernel) (mif_gen hb)) ?_
        refine RK.of (RN.blk (ops := [(86, .iconst 1), (87, .aload_n 0), (88, .iload_n 2), (89, .iload 4)]) (pc' := 91) (lv' := [(0, .inr (.inr 334)), (1, .inl u1), (2, .inl u2), (3, .inl v3), (4, .inl v4)]) (st' := [.inl v4, .inl u2, .inr (.inr 334), .inl 1]) (h' := h1) (cs := []) (by decide +kernel) rfl trivial) ?_
        obtain ⟨x4, h3, hG, hF⟩ := bd_of hF
        have hq := rcv_ok (as := [.inl u2, .inl v4]) (TO.gk (o_334 hL))
        obtain ⟨hN, hL, hQ⟩ := DX12_needBelow (d := d) hL  hG
        refine RK.of (RN.cv (i := 399) (k := 250) (q2 := iX12_needBelow) (as := [.inr (.inr 334), .inl u2, .inl v4]) (r := [.inl 1]) (v := some (.inl x4)) (h1 := h3) (by decide +kernel) rfl rfl rfl rfl rfl hq hN) ?_
        have hK := hK.tr hQ
        have hJ := hJ.tr hQ
        refine RK.of (RN.blk (ops := [(94, .iadd), (95, .istore_n 3)]) (pc' := 96) (lv' := [(3, .inl (m_w32 (1 + x4))), (0, .inr (.inr 334)), (1, .inl u1), (2, .inl u2), (4, .inl v4)]) (st' := []) (h' := h3) (cs := []) (by decide +kernel) rfl trivial) ?_
        refine RK.of (RN.blk (ops := [(96, .iinc 4 1)]) (pc' := 99) (lv' := [(4, .inl (m_w32 (v4 + 1))), (3, .inl (m_w32 (1 + x4))), (0, .inr (.inr 334)), (1, .inl u1), (2, .inl u2)]) (st' := []) (h' := h3) (cs := []) (by decide +kernel) rfl trivial) ?_
        refine RK.of (RN.goto (off := -37) (tgt := 62) (by decide +kernel)) ?_
        exact RK.sub (ih _ _ _ hL hJ hF) (sub_cons rfl (sub_cons rfl (sub_cons rfl (sub_cons rfl (sub_cons rfl sub_nil)))))
      · refine RK.of (RN.ict (cd := .ge) (off := 13) (tgt := 96) (by decide +kernel) (mif_ge hb)) ?_
        refine RK.of (RN.blk (ops := [(96, .iinc 4 1)]) (pc' := 99) (lv' := [(4, .inl (m_w32 (v4 + 1))), (0, .inr (.inr 334)), (1, .inl u1), (2, .inl u2), (3, .inl v3)]) (st' := []) (h' := h1) (cs := []) (by decide +kernel) rfl trivial) ?_
        refine RK.of (RN.goto (off := -37) (tgt := 62) (by decide +kernel)) ?_
        exact RK.sub (ih _ _ _ hL hJ hF) (sub_cons rfl (sub_cons rfl (sub_cons rfl (sub_cons rfl (sub_cons rfl sub_nil)))))
    · refine RK.of (RN.ict (cd := .ge) (off := 32) (tgt := 102) (by decide +kernel) (mif_ge hb)) ?_
      exact RK.sub (hK0 _ _ hL hJ hF) (sub_cons rfl (sub_cons rfl (sub_cons rfl (sub_cons rfl sub_nil))))
noncomputable def GX12_needsOf_L105 (u1 : Int) (u2 : Int) (u3 : Int) (K0 : MH → Option (MH)) : Nat → Int → MH → Option (MH)
  | 0, _, _ => none
  | f + 1, v4, h =>
    (if 6 < v4 then
     K0 h
    else
     (bd (GX12_needBelow u2 v4 h) (fun x2 h1 =>
      (if x2 < u3 then
       gd [IB (m_w32 ((m_w32 (7 * u2)) + v4)) 1792] (
        GX12_needsOf_L105 u1 u2 u3 K0 f (m_w32 (v4 + 1)) (m_wr h1 348 (m_w32 ((m_w32 (7 * u2)) + v4)) x2))
      else
       gd [IB (m_w32 ((m_w32 (7 * u2)) + v4)) 1792] (
        GX12_needsOf_L105 u1 u2 u3 K0 f (m_w32 (v4 + 1)) (m_wr h1 348 (m_w32 ((m_w32 (7 * u2)) + v4)) u3))))))
theorem DX12_needsOf_L105 {d : Nat} {u1 : Int} {u2 : Int} {u3 : Int} {K0 : MH → Option (MH)} {r : MH} {h0 hB : MH} (hB0 : KD h0 hB) (hK0 : ∀ (h : MH), LR h → KD hB h → K0 h = some r → RK xs L iX12_needsOf (d + 1) 151 [(0, .inr (.inr 334)), (1, .inl u1), (2, .inl u2)] [] h (RVo r) h0 r) : ∀ (f : Nat) (v4 : Int) (h : MH), LR h → KD hB h → GX12_needsOf_L105 u1 u2 u3 K0 f v4 h = some r → RK xs L iX12_needsOf (d + 1) 105 [(0, .inr (.inr 334)), (1, .inl u1), (2, .inl u2), (3, .inl u3), (4, .inl v4)] [] h (RVo r) h0 r := by
  intro f
  induction f with
  | zero =>
    intro v4 h hL hJ hF
    cases hF
  | succ f ih =>
    intro v4 h hL hJ hF
    unfold GX12_needsOf_L105 at hF
    have hK := hB0.tr hJ
    refine RK.of (RN.blk (ops := [(105, .iload 4), (107, .bipush 6)]) (pc' := 109) (lv' := [(0, .inr (.inr 334)), (1, .inl u1), (2, .inl u2), (3, .inl u3), (4, .inl v4)]) (st' := [.inl 6, .inl v4]) (h' := h) (cs := []) (by decide +kernel) rfl trivial) ?_
    rcases it_of hF with ⟨hb, hF⟩ | ⟨hb, hF⟩
    · refine RK.of (RN.ict (cd := .gt) (off := 42) (tgt := 151) (by decide +kernel) (mif_gt hb)) ?_
      exact RK.sub (hK0 _ hL hJ hF) (sub_cons rfl (sub_cons rfl (sub_cons rfl sub_nil)))
    · refine RK.of (RN.icf (cd := .gt) (off := 42) (tgt := 151) (by decide +kernel) (mif_gtn hb)) ?_
      refine RK.of (RN.blk (ops := [(112, .aload_n 0), (113, .iload_n 2), (114, .iload 4)]) (pc' := 116) (lv' := [(0, .inr (.inr 334)), (1, .inl u1), (2, .inl u2), (3, .inl u3), (4, .inl v4)]) (st' := [.inl v4, .inl u2, .inr (.inr 334)]) (h' := h) (cs := []) (by decide +kernel) rfl trivial) ?_
      obtain ⟨x2, h1, hG, hF⟩ := bd_of hF
      have hq := rcv_ok (as := [.inl u2, .inl v4]) (TO.gk (o_334 hL))
      obtain ⟨hN, hL, hQ⟩ := DX12_needBelow (d := d) hL  hG
      refine RK.of (RN.cv (i := 399) (k := 250) (q2 := iX12_needBelow) (as := [.inr (.inr 334), .inl u2, .inl v4]) (r := []) (v := some (.inl x2)) (h1 := h1) (by decide +kernel) rfl rfl rfl rfl rfl hq hN) ?_
      have hK := hK.tr hQ
      have hJ := hJ.tr hQ
      refine RK.of (RN.blk (ops := [(119, .istore 5), (121, .aload_n 0)]) (pc' := 122) (lv' := [(5, .inl x2), (0, .inr (.inr 334)), (1, .inl u1), (2, .inl u2), (3, .inl u3), (4, .inl v4)]) (st' := [.inr (.inr 334)]) (h' := h1) (cs := []) (by decide +kernel) rfl trivial) ?_
      refine RK.of (RN.gr (i := 55) (ci := 12) (k := 28) (fn := true) (v := 348) (by decide +kernel) rfl (TO.gk (o_334 hL)) (hL.fa (v := 348) 28 1 1792 (o_334 hL) rfl (by decide) rfl (by decide)).1) ?_
      refine RK.of (RN.blk (ops := [(125, .bipush 7), (127, .iload_n 2), (128, .imul), (129, .iload 4), (131, .iadd), (132, .iload 5), (134, .iload_n 3)]) (pc' := 135) (lv' := [(5, .inl x2), (0, .inr (.inr 334)), (1, .inl u1), (2, .inl u2), (3, .inl u3), (4, .inl v4)]) (st' := [.inl u3, .inl x2, .inl (m_w32 ((m_w32 (7 * u2)) + v4)), .inr (.inr 348)]) (h' := h1) (cs := []) (by decide +kernel) rfl trivial) ?_
      rcases it_of hF with ⟨hb, hF⟩ | ⟨hb, hF⟩
      · refine RK.of (RN.icf (cd := .ge) (off := 8) (tgt := 143) (by decide +kernel) (mif_gen hb)) ?_
        refine RK.of (RN.blk (ops := [(138, .iload 5)]) (pc' := 140) (lv' := [(5, .inl x2), (0, .inr (.inr 334)), (1, .inl u1), (2, .inl u2), (3, .inl u3), (4, .inl v4)]) (st' := [.inl x2, .inl (m_w32 ((m_w32 (7 * u2)) + v4)), .inr (.inr 348)]) (h' := h1) (cs := []) (by decide +kernel) rfl trivial) ?_
        refine RK.of (RN.goto (off := 4) (tgt := 144) (by decide +kernel)) ?_
        obtain ⟨hc, hF⟩ := gd_of hF
        refine RK.of (RN.blk (ops := [(144, .iastore)]) (pc' := 145) (lv' := [(5, .inl x2), (0, .inr (.inr 334)), (1, .inl u1), (2, .inl u2), (3, .inl u3), (4, .inl v4)]) (st' := []) (h' := (m_wr h1 348 (m_w32 ((m_w32 (7 * u2)) + v4)) x2)) (cs := [GI h1 348 1 (m_w32 ((m_w32 (7 * u2)) + v4))]) (by decide +kernel) rfl ⟨(a_348 hL).gi hc.1.1 hc.1.2, trivial⟩) ?_
        have hL : LR (m_wr h1 348 (m_w32 ((m_w32 (7 * u2)) + v4)) x2) := hL.wa (TA.le5 (a_348 hL) (by decide))
        have hK := hK.tr (KD.wr : KD h1 (m_wr h1 348 (m_w32 ((m_w32 (7 * u2)) + v4)) x2))
        have hJ := hJ.tr (KD.wr : KD h1 (m_wr h1 348 (m_w32 ((m_w32 (7 * u2)) + v4)) x2))
        refine RK.of (RN.blk (ops := [(145, .iinc 4 1)]) (pc' := 148) (lv' := [(4, .inl (m_w32 (v4 + 1))), (5, .inl x2), (0, .inr (.inr 334)), (1, .inl u1), (2, .inl u2), (3, .inl u3)]) (st' := []) (h' := (m_wr h1 348 (m_w32 ((m_w32 (7 * u2)) + v4)) x2)) (cs := []) (by decide +kernel) rfl trivial) ?_
        refine RK.of (RN.goto (off := -43) (tgt := 105) (by decide +kernel)) ?_
        exact RK.sub (ih _ _ hL hJ hF) (sub_cons rfl (sub_cons rfl (sub_cons rfl (sub_cons rfl (sub_cons rfl sub_nil)))))
      · refine RK.of (RN.ict (cd := .ge) (off := 8) (tgt := 143) (by decide +kernel) (mif_ge hb)) ?_
        refine RK.of (RN.blk (ops := [(143, .iload_n 3)]) (pc' := 144) (lv' := [(5, .inl x2), (0, .inr (.inr 334)), (1, .inl u1), (2, .inl u2), (3, .inl u3), (4, .inl v4)]) (st' := [.inl u3, .inl (m_w32 ((m_w32 (7 * u2)) + v4)), .inr (.inr 348)]) (h' := h1) (cs := []) (by decide +kernel) rfl trivial) ?_
        obtain ⟨hc, hF⟩ := gd_of hF
        refine RK.of (RN.blk (ops := [(144, .iastore)]) (pc' := 145) (lv' := [(5, .inl x2), (0, .inr (.inr 334)), (1, .inl u1), (2, .inl u2), (3, .inl u3), (4, .inl v4)]) (st' := []) (h' := (m_wr h1 348 (m_w32 ((m_w32 (7 * u2)) + v4)) u3)) (cs := [GI h1 348 1 (m_w32 ((m_w32 (7 * u2)) + v4))]) (by decide +kernel) rfl ⟨(a_348 hL).gi hc.1.1 hc.1.2, trivial⟩) ?_
        have hL : LR (m_wr h1 348 (m_w32 ((m_w32 (7 * u2)) + v4)) u3) := hL.wa (TA.le5 (a_348 hL) (by decide))
        have hK := hK.tr (KD.wr : KD h1 (m_wr h1 348 (m_w32 ((m_w32 (7 * u2)) + v4)) u3))
        have hJ := hJ.tr (KD.wr : KD h1 (m_wr h1 348 (m_w32 ((m_w32 (7 * u2)) + v4)) u3))
        refine RK.of (RN.blk (ops := [(145, .iinc 4 1)]) (pc' := 148) (lv' := [(4, .inl (m_w32 (v4 + 1))), (5, .inl x2), (0, .inr (.inr 334)), (1, .inl u1), (2, .inl u2), (3, .inl u3)]) (st' := []) (h' := (m_wr h1 348 (m_w32 ((m_w32 (7 * u2)) + v4)) u3)) (cs := []) (by decide +kernel) rfl trivial) ?_
        refine RK.of (RN.goto (off := -43) (tgt := 105) (by decide +kernel)) ?_
        exact RK.sub (ih _ _ hL hJ hF) (sub_cons rfl (sub_cons rfl (sub_cons rfl (sub_cons rfl (sub_cons rfl sub_nil)))))
noncomputable def GX12_needsOf_L41 (u1 : Int) (K0 : MH → Option (MH)) : Nat → Int → MH → Option (MH)
  | 0, _, _ => none
  | f + 1, v2, h =>
    (bd (GX12_power (m_rd h 344 1) u1 h) (fun x2 h1 =>
     (if v2 < x2 then
      GX12_needsOf_L62 u1 v2 (fun w3 h4 =>
       GX12_needsOf_L105 u1 v2 w3 (fun h5 =>
        GX12_needsOf_L41 u1 K0 f (m_w32 (v2 + 1)) h5) FU 0 h4) FU 9999 0 h1
     else
      K0 h1)))
theorem DX12_needsOf_L41 {d : Nat} {u1 : Int} {K0 : MH → Option (MH)} {r : MH} {h0 hB : MH} (hB0 : KD h0 hB) (hK0 : ∀ (h : MH), LR h → KD hB h → K0 h = some r → RK xs L iX12_needsOf (d + 1) 157 [] [] h (RVo r) h0 r) : ∀ (f : Nat) (v2 : Int) (h : MH), LR h → KD hB h → GX12_needsOf_L41 u1 K0 f v2 h = some r → RK xs L iX12_needsOf (d + 1) 41 [(0, .inr (.inr 334)), (1, .inl u1), (2, .inl v2)] [] h (RVo r) h0 r := by
  intro f
  induction f with
  | zero =>
    intro v2 h hL hJ hF
    cases hF
  | succ f ih =>
    intro v2 h hL hJ hF
    unfold GX12_needsOf_L41 at hF
    have hK := hB0.tr hJ
    refine RK.of (RN.blk (ops := [(41, .iload_n 2), (42, .aload_n 0)]) (pc' := 43) (lv' := [(0, .inr (.inr 334)), (1, .inl u1), (2, .inl v2)]) (st' := [.inr (.inr 334), .inl v2]) (h' := h) (cs := []) (by decide +kernel) rfl trivial) ?_
    refine RK.of (RN.gr (i := 39) (ci := 12) (k := 20) (fn := true) (v := 344) (by decide +kernel) rfl (TO.gk (o_334 hL)) (hL.fa (v := 344) 20 1 167 (o_334 hL) rfl (by decide) rfl (by decide)).1) ?_
    refine RK.of (RN.blk (ops := [(46, .iconst 1), (47, .iaload), (48, .iload_n 1)]) (pc' := 49) (lv' := [(0, .inr (.inr 334)), (1, .inl u1), (2, .inl v2)]) (st' := [.inl u1, .inl (m_rd h 344 1), .inl v2]) (h' := h) (cs := [GI h 344 1 1]) (by decide +kernel) rfl ⟨(a_344 hL).gi (by decide) (by decide), trivial⟩) ?_
    obtain ⟨x2, h1, hG, hF⟩ := bd_of hF
    obtain ⟨hN, hL, hQ⟩ := DX12_power (d := d) hL  hG
    refine RK.of (RN.cst (i := 229) (k := 159) (q2 := iX12_power) (as := [.inl (m_rd h 344 1), .inl u1]) (r := [.inl v2]) (v := some (.inl x2)) (h1 := h1) (by decide +kernel) rfl rfl rfl rfl rfl hN) ?_
    have hK := hK.tr hQ
    have hJ := hJ.tr hQ
    rcases it_of hF with ⟨hb, hF⟩ | ⟨hb, hF⟩
    · refine RK.of (RN.icf (cd := .ge) (off := 105) (tgt := 157) (by decide +kernel) (mif_gen hb)) ?_
      refine RK.of (RN.blk (ops := [(55, .sipush 9999), (58, .istore_n 3), (59, .iconst 0), (60, .istore 4)]) (pc' := 62) (lv' := [(4, .inl 0), (3, .inl 9999), (0, .inr (.inr 334)), (1, .inl u1), (2, .inl v2)]) (st' := []) (h' := h1) (cs := []) (by decide +kernel) rfl trivial) ?_
      refine RK.sub (DX12_needsOf_L62 hK ?_ _ _ _ _ hL KD.rf hF) (sub_cons rfl (sub_cons rfl (sub_cons rfl (sub_cons rfl (sub_cons rfl sub_nil)))))
      · intro w3 h4 hL hq hF
        have hK := hK.tr hq
        have hJ := hJ.tr hq
        refine RK.of (RN.blk (ops := [(102, .iconst 0), (103, .istore 4)]) (pc' := 105) (lv' := [(4, .inl 0), (0, .inr (.inr 334)), (1, .inl u1), (2, .inl v2), (3, .inl w3)]) (st' := []) (h' := h4) (cs := []) (by decide +kernel) rfl trivial) ?_
        refine RK.sub (DX12_needsOf_L105 hK ?_ _ _ _ hL KD.rf hF) (sub_cons rfl (sub_cons rfl (sub_cons rfl (sub_cons rfl (sub_cons rfl sub_nil)))))
        · intro h5 hL hq hF
          have hK := hK.tr hq
          have hJ := hJ.tr hq
          refine RK.of (RN.blk (ops := [(151, .iinc 2 1)]) (pc' := 154) (lv' := [(2, .inl (m_w32 (v2 + 1))), (0, .inr (.inr 334)), (1, .inl u1)]) (st' := []) (h' := h5) (cs := []) (by decide +kernel) rfl trivial) ?_
          refine RK.of (RN.goto (off := -113) (tgt := 41) (by decide +kernel)) ?_
          exact RK.sub (ih _ _ hL hJ hF) (sub_cons rfl (sub_cons rfl (sub_cons rfl sub_nil)))
    · refine RK.of (RN.ict (cd := .ge) (off := 105) (tgt := 157) (by decide +kernel) (mif_ge hb)) ?_
      exact RK.sub (hK0 _ hL hJ hF) sub_nil
noncomputable def GX12_needsOf (a1 : Int) (h : MH) : Option (MH) :=
  GX12_needsOf_L2 a1 (fun h1 =>
   GX12_needsOf_L41 a1 (fun h2 =>
    some h2) FU 0 h1) FU 0 h
theorem DX12_needsOf {d : Nat} {a1 : Int} {h : MH} {r : MH} (hL : LR h) (hF : GX12_needsOf a1 h = some r) : RN xs L iX12_needsOf (d + 1) 0 (lvE 0 [.inr (.inr 334), .inl a1]) [] h (RVo r) ∧ LR r ∧ KD h r := by
  unfold GX12_needsOf at hF
  have hK : KD h h := KD.rf
  show RK xs L iX12_needsOf (d + 1) 0 (lvE 0 [.inr (.inr 334), .inl a1]) [] h (RVo r) h r
  refine RK.of (RN.blk (ops := [(0, .iconst 0), (1, .istore_n 2)]) (pc' := 2) (lv' := [(2, .inl 0), (0, .inr (.inr 334)), (1, .inl a1)]) (st' := []) (h' := h) (cs := []) (by decide +kernel) rfl trivial) ?_
  refine RK.sub (DX12_needsOf_L2 hK ?_ _ _ _ hL KD.rf hF) (sub_cons rfl (sub_cons rfl (sub_cons rfl sub_nil)))
  · intro h1 hL hq hF
    have hK := hK.tr hq
    refine RK.of (RN.blk (ops := [(39, .iconst 0), (40, .istore_n 2)]) (pc' := 41) (lv' := [(2, .inl 0), (0, .inr (.inr 334)), (1, .inl a1)]) (st' := []) (h' := h1) (cs := []) (by decide +kernel) rfl trivial) ?_
    refine RK.sub (DX12_needsOf_L41 hK ?_ _ _ _ hL KD.rf hF) (sub_cons rfl (sub_cons rfl (sub_cons rfl sub_nil)))
    · intro h2 hL hq hF
      have hK := hK.tr hq
      exact RK.vR (by decide +kernel) rfl hL hK hF
noncomputable def GX12_least_L22 (K0 : MH → Option (Int × MH)) : Nat → Int → MH → Option (Int × MH)
  | 0, _, _ => none
  | f + 1, v1, h =>
    (if v1 < 0 then
     K0 h
    else
     (bv (GX12_needsOf v1 h) (fun h1 =>
      GX12_least_L22 K0 f (m_w32 (v1 + (-1))) h1)))
theorem DX12_least_L22 {d : Nat} {K0 : MH → Option (Int × MH)} {r : Int × MH} {h0 hB : MH} (hB0 : KD h0 hB) (hK0 : ∀ (h : MH), LR h → KD hB h → K0 h = some r → RK xs L iX12_least (d + 5) 37 [(0, .inr (.inr 334))] [] h (RIo r) h0 r.2) : ∀ (f : Nat) (v1 : Int) (h : MH), LR h → KD hB h → GX12_least_L22 K0 f v1 h = some r → RK xs L iX12_least (d + 5) 22 [(0, .inr (.inr 334)), (1, .inl v1)] [] h (RIo r) h0 r.2 := by
  intro f
  induction f with
  | zero =>
    intro v1 h hL hJ hF
    cases hF
  | succ f ih =>
    intro v1 h hL hJ hF
    unfold GX12_least_L22 at hF
    have hK := hB0.tr hJ
    refine RK.of (RN.blk (ops := [(22, .iload_n 1)]) (pc' := 23) (lv' := [(0, .inr (.inr 334)), (1, .inl v1)]) (st' := [.inl v1]) (h' := h) (cs := []) (by decide +kernel) rfl trivial) ?_
    rcases it_of hF with ⟨hb, hF⟩ | ⟨hb, hF⟩
    · refine RK.of (RN.ift (cd := .lt) (off := 14) (tgt := 37) (by decide +kernel) (mif_lt hb)) ?_
      exact RK.sub (hK0 _ hL hJ hF) (sub_cons rfl sub_nil)
    · refine RK.of (RN.iff (cd := .lt) (off := 14) (tgt := 37) (by decide +kernel) (mif_ltn hb)) ?_
      refine RK.of (RN.blk (ops := [(26, .aload_n 0), (27, .iload_n 1)]) (pc' := 28) (lv' := [(0, .inr (.inr 334)), (1, .inl v1)]) (st' := [.inl v1, .inr (.inr 334)]) (h' := h) (cs := []) (by decide +kernel) rfl trivial) ?_
      obtain ⟨h1, hG, hF⟩ := bv_of hF
      have hq := rcv_ok (as := [.inl v1]) (TO.gk (o_334 hL))
      obtain ⟨hN, hL, hQ⟩ := DX12_needsOf (d := d + 3) hL  hG
      refine RK.of (RN.cv (i := 405) (k := 251) (q2 := iX12_needsOf) (as := [.inr (.inr 334), .inl v1]) (r := []) (v := none) (h1 := h1) (by decide +kernel) rfl rfl rfl rfl rfl hq hN) ?_
      have hK := hK.tr hQ
      have hJ := hJ.tr hQ
      refine RK.of (RN.blk (ops := [(31, .iinc 1 (-1))]) (pc' := 34) (lv' := [(1, .inl (m_w32 (v1 + (-1)))), (0, .inr (.inr 334))]) (st' := []) (h' := h1) (cs := []) (by decide +kernel) rfl trivial) ?_
      refine RK.of (RN.goto (off := -12) (tgt := 22) (by decide +kernel)) ?_
      exact RK.sub (ih _ _ hL hJ hF) (sub_cons rfl (sub_cons rfl sub_nil))
noncomputable def GX12_least (h : MH) : Option (Int × MH) :=
  (bd (GX12_isFrame h) (fun x2 h1 =>
   (if x2 = 0 then
    some ((-1), h1)
   else
    (bv (GX12_needsOfCodes h1) (fun h3 =>
     GX12_least_L22 (fun h4 =>
      some ((m_rd h4 348 6), h4)) FU (m_w32 ((m_rd h3 344 2) - 1)) h3)))))
theorem DX12_least {d : Nat} {h : MH} {r : Int × MH} (hL : LR h) (hF : GX12_least h = some r) : RN xs L iX12_least (d + 5) 0 (lvE 0 [.inr (.inr 334)]) [] h (RIo r) ∧ LR r.2 ∧ KD h r.2 := by
  unfold GX12_least at hF
  have hK : KD h h := KD.rf
  show RK xs L iX12_least (d + 5) 0 (lvE 0 [.inr (.inr 334)]) [] h (RIo r) h r.2
  refine RK.of (RN.blk (ops := [(0, .aload_n 0)]) (pc' := 1) (lv' := [(0, .inr (.inr 334))]) (st' := [.inr (.inr 334)]) (h' := h) (cs := []) (by decide +kernel) rfl trivial) ?_
  obtain ⟨x2, h1, hG, hF⟩ := bd_of hF
  have hq := rcv_ok (as := []) (TO.gk (o_334 hL))
  obtain ⟨hN, hL, hQ⟩ := DX12_isFrame (d := d + 4) hL  hG
  refine RK.of (RN.cv (i := 295) (k := 202) (q2 := iX12_isFrame) (as := [.inr (.inr 334)]) (r := []) (v := some (.inl x2)) (h1 := h1) (by decide +kernel) rfl rfl rfl rfl rfl hq hN) ?_
  have hK := hK.tr hQ
  rcases it_of hF with ⟨hb, hF⟩ | ⟨hb, hF⟩
  · refine RK.of (RN.iff (cd := .ne) (off := 5) (tgt := 9) (by decide +kernel) (mif_nen hb)) ?_
    refine RK.of (RN.blk (ops := [(7, .iconst (-1))]) (pc' := 8) (lv' := [(0, .inr (.inr 334))]) (st' := [.inl (-1)]) (h' := h1) (cs := []) (by decide +kernel) rfl trivial) ?_
    exact RK.iR (by decide +kernel) rfl hL hK hF
  · refine RK.of (RN.ift (cd := .ne) (off := 5) (tgt := 9) (by decide +kernel) (mif_ne hb)) ?_
    refine RK.of (RN.blk (ops := [(9, .aload_n 0)]) (pc' := 10) (lv' := [(0, .inr (.inr 334))]) (st' := [.inr (.inr 334)]) (h' := h1) (cs := []) (by decide +kernel) rfl trivial) ?_
    obtain ⟨h3, hG, hF⟩ := bv_of hF
    have hq := rcv_ok (as := []) (TO.gk (o_334 hL))
    obtain ⟨hN, hL, hQ⟩ := DX12_needsOfCodes (d := d) hL  hG
    refine RK.of (RN.cv (i := 402) (k := 249) (q2 := iX12_needsOfCodes) (as := [.inr (.inr 334)]) (r := []) (v := none) (h1 := h3) (by decide +kernel) rfl rfl rfl rfl rfl hq hN) ?_
    have hK := hK.tr hQ
    refine RK.of (RN.blk (ops := [(13, .aload_n 0)]) (pc' := 14) (lv' := [(0, .inr (.inr 334))]) (st' := [.inr (.inr 334)]) (h' := h3) (cs := []) (by decide +kernel) rfl trivial) ?_
    refine RK.of (RN.gr (i := 39) (ci := 12) (k := 20) (fn := true) (v := 344) (by decide +kernel) rfl (TO.gk (o_334 hL)) (hL.fa (v := 344) 20 1 167 (o_334 hL) rfl (by decide) rfl (by decide)).1) ?_
    refine RK.of (RN.blk (ops := [(17, .iconst 2), (18, .iaload), (19, .iconst 1), (20, .isub), (21, .istore_n 1)]) (pc' := 22) (lv' := [(1, .inl (m_w32 ((m_rd h3 344 2) - 1))), (0, .inr (.inr 334))]) (st' := []) (h' := h3) (cs := [GI h3 344 1 2]) (by decide +kernel) rfl ⟨(a_344 hL).gi (by decide) (by decide), trivial⟩) ?_
    refine RK.sub (DX12_least_L22 hK ?_ _ _ _ hL KD.rf hF) (sub_cons rfl (sub_cons rfl sub_nil))
    · intro h4 hL hq hF
      have hK := hK.tr hq
      refine RK.of (RN.blk (ops := [(37, .aload_n 0)]) (pc' := 38) (lv' := [(0, .inr (.inr 334))]) (st' := [.inr (.inr 334)]) (h' := h4) (cs := []) (by decide +kernel) rfl trivial) ?_
      refine RK.of (RN.gr (i := 55) (ci := 12) (k := 28) (fn := true) (v := 348) (by decide +kernel) rfl (TO.gk (o_334 hL)) (hL.fa (v := 348) 28 1 1792 (o_334 hL) rfl (by decide) rfl (by decide)).1) ?_
      refine RK.of (RN.blk (ops := [(41, .bipush 6), (43, .iaload)]) (pc' := 44) (lv' := [(0, .inr (.inr 334))]) (st' := [.inl (m_rd h4 348 6)]) (h' := h4) (cs := [GI h4 348 1 6]) (by decide +kernel) rfl ⟨(a_348 hL).gi (by decide) (by decide), trivial⟩) ?_
      exact RK.iR (by decide +kernel) rfl hL hK hF
noncomputable def GX12_keeps_L2 (K0 : MH → Option (MH)) : Nat → Int → MH → Option (MH)
  | 0, _, _ => none
  | f + 1, v1, h =>
    (if v1 < 72 then
     gd [IB (m_w32 (10 + v1)) 167, IB v1 72] (
      GX12_keeps_L2 K0 f (m_w32 (v1 + 1)) (m_wr h 350 v1 (m_rd h 344 (m_w32 (10 + v1)))))
    else
     K0 h)
theorem DX12_keeps_L2 {d : Nat} {K0 : MH → Option (MH)} {r : MH} {h0 hB : MH} (hB0 : KD h0 hB) (hK0 : ∀ (h : MH), LR h → KD hB h → K0 h = some r → RK xs L iX12_keeps (d) 29 [] [] h (RVo r) h0 r) : ∀ (f : Nat) (v1 : Int) (h : MH), LR h → KD hB h → GX12_keeps_L2 K0 f v1 h = some r → RK xs L iX12_keeps (d) 2 [(0, .inr (.inr 334)), (1, .inl v1)] [] h (RVo r) h0 r := by
  intro f
  induction f with
  | zero =>
    intro v1 h hL hJ hF
    cases hF
  | succ f ih =>
    intro v1 h hL hJ hF
    unfold GX12_keeps_L2 at hF
    have hK := hB0.tr hJ
    refine RK.of (RN.blk (ops := [(2, .iload_n 1), (3, .bipush 72)]) (pc' := 5) (lv' := [(0, .inr (.inr 334)), (1, .inl v1)]) (st' := [.inl 72, .inl v1]) (h' := h) (cs := []) (by decide +kernel) rfl trivial) ?_
    rcases it_of hF with ⟨hb, hF⟩ | ⟨hb, hF⟩
    · refine RK.of (RN.icf (cd := .ge) (off := 24) (tgt := 29) (by decide +kernel) (mif_gen hb)) ?_
      refine RK.of (RN.blk (ops := [(8, .aload_n 0)]) (pc' := 9) (lv' := [(0, .inr (.inr 334)), (1, .inl v1)]) (st' := [.inr (.inr 334)]) (h' := h) (cs := []) (by decide +kernel) rfl trivial) ?_
      refine RK.of (RN.gr (i := 61) (ci := 12) (k := 30) (fn := true) (v := 350) (by decide +kernel) rfl (TO.gk (o_334 hL)) (hL.fa (v := 350) 30 1 72 (o_334 hL) rfl (by decide) rfl (by decide)).1) ?_
      refine RK.of (RN.blk (ops := [(12, .iload_n 1), (13, .aload_n 0)]) (pc' := 14) (lv' := [(0, .inr (.inr 334)), (1, .inl v1)]) (st' := [.inr (.inr 334), .inl v1, .inr (.inr 350)]) (h' := h) (cs := []) (by decide +kernel) rfl trivial) ?_
      refine RK.of (RN.gr (i := 39) (ci := 12) (k := 20) (fn := true) (v := 344) (by decide +kernel) rfl (TO.gk (o_334 hL)) (hL.fa (v := 344) 20 1 167 (o_334 hL) rfl (by decide) rfl (by decide)).1) ?_
      obtain ⟨hc, hF⟩ := gd_of hF
      refine RK.of (RN.blk (ops := [(17, .bipush 10), (19, .iload_n 1), (20, .iadd), (21, .iaload), (22, .iastore)]) (pc' := 23) (lv' := [(0, .inr (.inr 334)), (1, .inl v1)]) (st' := []) (h' := (m_wr h 350 v1 (m_rd h 344 (m_w32 (10 + v1))))) (cs := [GI h 344 1 (m_w32 (10 + v1)), GI h 350 1 v1]) (by decide +kernel) rfl ⟨(a_344 hL).gi hc.1.1 hc.1.2, (a_350 hL).gi hc.2.1.1 hc.2.1.2, trivial⟩) ?_
      have hL : LR (m_wr h 350 v1 (m_rd h 344 (m_w32 (10 + v1)))) := hL.wa (TA.le5 (a_350 hL) (by decide))
      have hK := hK.tr (KD.wr : KD h (m_wr h 350 v1 (m_rd h 344 (m_w32 (10 + v1)))))
      have hJ := hJ.tr (KD.wr : KD h (m_wr h 350 v1 (m_rd h 344 (m_w32 (10 + v1)))))
      refine RK.of (RN.blk (ops := [(23, .iinc 1 1)]) (pc' := 26) (lv' := [(1, .inl (m_w32 (v1 + 1))), (0, .inr (.inr 334))]) (st' := []) (h' := (m_wr h 350 v1 (m_rd h 344 (m_w32 (10 + v1))))) (cs := []) (by decide +kernel) rfl trivial) ?_
      refine RK.of (RN.goto (off := -24) (tgt := 2) (by decide +kernel)) ?_
      exact RK.sub (ih _ _ hL hJ hF) (sub_cons rfl (sub_cons rfl sub_nil))
    · refine RK.of (RN.ict (cd := .ge) (off := 24) (tgt := 29) (by decide +kernel) (mif_ge hb)) ?_
      exact RK.sub (hK0 _ hL hJ hF) sub_nil
noncomputable def GX12_keeps (h : MH) : Option (MH) :=
  GX12_keeps_L2 (fun h1 =>
   some h1) FU 0 h
theorem DX12_keeps {d : Nat} {h : MH} {r : MH} (hL : LR h) (hF : GX12_keeps h = some r) : RN xs L iX12_keeps (d) 0 (lvE 0 [.inr (.inr 334)]) [] h (RVo r) ∧ LR r ∧ KD h r := by
  unfold GX12_keeps at hF
  have hK : KD h h := KD.rf
  show RK xs L iX12_keeps (d) 0 (lvE 0 [.inr (.inr 334)]) [] h (RVo r) h r
  refine RK.of (RN.blk (ops := [(0, .iconst 0), (1, .istore_n 1)]) (pc' := 2) (lv' := [(1, .inl 0), (0, .inr (.inr 334))]) (st' := []) (h' := h) (cs := []) (by decide +kernel) rfl trivial) ?_
  refine RK.sub (DX12_keeps_L2 hK ?_ _ _ _ hL KD.rf hF) (sub_cons rfl (sub_cons rfl sub_nil))
  · intro h1 hL hq hF
    have hK := hK.tr hq
    exact RK.vR (by decide +kernel) rfl hL hK hF
noncomputable def GX12_laysBack_L2 (K0 : MH → Option (MH)) : Nat → Int → MH → Option (MH)
  | 0, _, _ => none
  | f + 1, v1, h =>
    (if v1 < 72 then
     gd [IB v1 72, IB (m_w32 (10 + v1)) 167] (
      GX12_laysBack_L2 K0 f (m_w32 (v1 + 1)) (m_wr h 344 (m_w32 (10 + v1)) (m_rd h 350 v1)))
    else
     K0 h)
theorem DX12_laysBack_L2 {d : Nat} {K0 : MH → Option (MH)} {r : MH} {h0 hB : MH} (hB0 : KD h0 hB) (hK0 : ∀ (h : MH), LR h → KD hB h → K0 h = some r → RK xs L iX12_laysBack (d) 29 [] [] h (RVo r) h0 r) : ∀ (f : Nat) (v1 : Int) (h : MH), LR h → KD hB h → GX12_laysBack_L2 K0 f v1 h = some r → RK xs L iX12_laysBack (d) 2 [(0, .inr (.inr 334)), (1, .inl v1)] [] h (RVo r) h0 r := by
  intro f
  induction f with
  | zero =>
    intro v1 h hL hJ hF
    cases hF
  | succ f ih =>
    intro v1 h hL hJ hF
    unfold GX12_laysBack_L2 at hF
    have hK := hB0.tr hJ
    refine RK.of (RN.blk (ops := [(2, .iload_n 1), (3, .bipush 72)]) (pc' := 5) (lv' := [(0, .inr (.inr 334)), (1, .inl v1)]) (st' := [.inl 72, .inl v1]) (h' := h) (cs := []) (by decide +kernel) rfl trivial) ?_
    rcases it_of hF with ⟨hb, hF⟩ | ⟨hb, hF⟩
    · refine RK.of (RN.icf (cd := .ge) (off := 24) (tgt := 29) (by decide +kernel) (mif_gen hb)) ?_
      refine RK.of (RN.blk (ops := [(8, .aload_n 0)]) (pc' := 9) (lv' := [(0, .inr (.inr 334)), (1, .inl v1)]) (st' := [.inr (.inr 334)]) (h' := h) (cs := []) (by decide +kernel) rfl trivial) ?_
      refine RK.of (RN.gr (i := 39) (ci := 12) (k := 20) (fn := true) (v := 344) (by decide +kernel) rfl (TO.gk (o_334 hL)) (hL.fa (v := 344) 20 1 167 (o_334 hL) rfl (by decide) rfl (by decide)).1) ?_
      refine RK.of (RN.blk (ops := [(12, .bipush 10), (14, .iload_n 1), (15, .iadd), (16, .aload_n 0)]) (pc' := 17) (lv' := [(0, .inr (.inr 334)), (1, .inl v1)]) (st' := [.inr (.inr 334), .inl (m_w32 (10 + v1)), .inr (.inr 344)]) (h' := h) (cs := []) (by decide +kernel) rfl trivial) ?_
      refine RK.of (RN.gr (i := 61) (ci := 12) (k := 30) (fn := true) (v := 350) (by decide +kernel) rfl (TO.gk (o_334 hL)) (hL.fa (v := 350) 30 1 72 (o_334 hL) rfl (by decide) rfl (by decide)).1) ?_
      obtain ⟨hc, hF⟩ := gd_of hF
      refine RK.of (RN.blk (ops := [(20, .iload_n 1), (21, .iaload), (22, .iastore)]) (pc' := 23) (lv' := [(0, .inr (.inr 334)), (1, .inl v1)]) (st' := []) (h' := (m_wr h 344 (m_w32 (10 + v1)) (m_rd h 350 v1))) (cs := [GI h 350 1 v1, GI h 344 1 (m_w32 (10 + v1))]) (by decide +kernel) rfl ⟨(a_350 hL).gi hc.1.1 hc.1.2, (a_344 hL).gi hc.2.1.1 hc.2.1.2, trivial⟩) ?_
      have hL : LR (m_wr h 344 (m_w32 (10 + v1)) (m_rd h 350 v1)) := hL.wa (TA.le5 (a_344 hL) (by decide))
      have hK := hK.tr (KD.wr : KD h (m_wr h 344 (m_w32 (10 + v1)) (m_rd h 350 v1)))
      have hJ := hJ.tr (KD.wr : KD h (m_wr h 344 (m_w32 (10 + v1)) (m_rd h 350 v1)))
      refine RK.of (RN.blk (ops := [(23, .iinc 1 1)]) (pc' := 26) (lv' := [(1, .inl (m_w32 (v1 + 1))), (0, .inr (.inr 334))]) (st' := []) (h' := (m_wr h 344 (m_w32 (10 + v1)) (m_rd h 350 v1))) (cs := []) (by decide +kernel) rfl trivial) ?_
      refine RK.of (RN.goto (off := -24) (tgt := 2) (by decide +kernel)) ?_
      exact RK.sub (ih _ _ hL hJ hF) (sub_cons rfl (sub_cons rfl sub_nil))
    · refine RK.of (RN.ict (cd := .ge) (off := 24) (tgt := 29) (by decide +kernel) (mif_ge hb)) ?_
      exact RK.sub (hK0 _ hL hJ hF) sub_nil
noncomputable def GX12_laysBack (h : MH) : Option (MH) :=
  GX12_laysBack_L2 (fun h1 =>
   some h1) FU 0 h
theorem DX12_laysBack {d : Nat} {h : MH} {r : MH} (hL : LR h) (hF : GX12_laysBack h = some r) : RN xs L iX12_laysBack (d) 0 (lvE 0 [.inr (.inr 334)]) [] h (RVo r) ∧ LR r ∧ KD h r := by
  unfold GX12_laysBack at hF
  have hK : KD h h := KD.rf
  show RK xs L iX12_laysBack (d) 0 (lvE 0 [.inr (.inr 334)]) [] h (RVo r) h r
  refine RK.of (RN.blk (ops := [(0, .iconst 0), (1, .istore_n 1)]) (pc' := 2) (lv' := [(1, .inl 0), (0, .inr (.inr 334))]) (st' := []) (h' := h) (cs := []) (by decide +kernel) rfl trivial) ?_
  refine RK.sub (DX12_laysBack_L2 hK ?_ _ _ _ hL KD.rf hF) (sub_cons rfl (sub_cons rfl sub_nil))
  · intro h1 hL hq hF
    have hK := hK.tr hq
    exact RK.vR (by decide +kernel) rfl hL hK hF
noncomputable def GX12_sortsAll_L18 (K0 : MH → Option (MH)) : Nat → Int → MH → Option (MH)
  | 0, _, _ => none
  | f + 1, v1, h =>
    (if v1 < (m_rd h 344 12) then
     gd [IB (m_w32 (26 + v1)) 167] (
      (bv (GX12_sorts (m_rd h 344 (m_w32 (26 + v1))) h) (fun h1 =>
       (if (m_rd h1 334 23) < 0 then
        GX12_sortsAll_L18 K0 f (m_w32 (v1 + 1)) (m_wr h1 334 32 (m_w32 ((m_rd h1 334 32) + 0)))
       else
        GX12_sortsAll_L18 K0 f (m_w32 (v1 + 1)) (m_wr h1 334 32 (m_w32 ((m_rd h1 334 32) + 1)))))))
    else
     K0 h)
theorem DX12_sortsAll_L18 {d : Nat} {K0 : MH → Option (MH)} {r : MH} {h0 hB : MH} (hB0 : KD h0 hB) (hK0 : ∀ (h : MH), LR h → KD hB h → K0 h = some r → RK xs L iX12_sortsAll (d + 5) 69 [(0, .inr (.inr 334))] [] h (RVo r) h0 r) : ∀ (f : Nat) (v1 : Int) (h : MH), LR h → KD hB h → GX12_sortsAll_L18 K0 f v1 h = some r → RK xs L iX12_sortsAll (d + 5) 18 [(0, .inr (.inr 334)), (1, .inl v1)] [] h (RVo r) h0 r := by
  intro f
  induction f with
  | zero =>
    intro v1 h hL hJ hF
    cases hF
  | succ f ih =>
    intro v1 h hL hJ hF
    unfold GX12_sortsAll_L18 at hF
    have hK := hB0.tr hJ
    refine RK.of (RN.blk (ops := [(18, .iload_n 1), (19, .aload_n 0)]) (pc' := 20) (lv' := [(0, .inr (.inr 334)), (1, .inl v1)]) (st' := [.inr (.inr 334), .inl v1]) (h' := h) (cs := []) (by decide +kernel) rfl trivial) ?_
    refine RK.of (RN.gr (i := 39) (ci := 12) (k := 20) (fn := true) (v := 344) (by decide +kernel) rfl (TO.gk (o_334 hL)) (hL.fa (v := 344) 20 1 167 (o_334 hL) rfl (by decide) rfl (by decide)).1) ?_
    refine RK.of (RN.blk (ops := [(23, .bipush 12), (25, .iaload)]) (pc' := 26) (lv' := [(0, .inr (.inr 334)), (1, .inl v1)]) (st' := [.inl (m_rd h 344 12), .inl v1]) (h' := h) (cs := [GI h 344 1 12]) (by decide +kernel) rfl ⟨(a_344 hL).gi (by decide) (by decide), trivial⟩) ?_
    rcases it_of hF with ⟨hb, hF⟩ | ⟨hb, hF⟩
    · refine RK.of (RN.icf (cd := .ge) (off := 43) (tgt := 69) (by decide +kernel) (mif_gen hb)) ?_
      refine RK.of (RN.blk (ops := [(29, .aload_n 0), (30, .aload_n 0)]) (pc' := 31) (lv' := [(0, .inr (.inr 334)), (1, .inl v1)]) (st' := [.inr (.inr 334), .inr (.inr 334)]) (h' := h) (cs := []) (by decide +kernel) rfl trivial) ?_
      refine RK.of (RN.gr (i := 39) (ci := 12) (k := 20) (fn := true) (v := 344) (by decide +kernel) rfl (TO.gk (o_334 hL)) (hL.fa (v := 344) 20 1 167 (o_334 hL) rfl (by decide) rfl (by decide)).1) ?_
      obtain ⟨hc, hF⟩ := gd_of hF
      refine RK.of (RN.blk (ops := [(34, .bipush 26), (36, .iload_n 1), (37, .iadd), (38, .iaload)]) (pc' := 39) (lv' := [(0, .inr (.inr 334)), (1, .inl v1)]) (st' := [.inl (m_rd h 344 (m_w32 (26 + v1))), .inr (.inr 334)]) (h' := h) (cs := [GI h 344 1 (m_w32 (26 + v1))]) (by decide +kernel) rfl ⟨(a_344 hL).gi hc.1.1 hc.1.2, trivial⟩) ?_
      obtain ⟨h1, hG, hF⟩ := bv_of hF
      have hq := rcv_ok (as := [.inl (m_rd h 344 (m_w32 (26 + v1)))]) (TO.gk (o_334 hL))
      obtain ⟨hN, hL, hQ⟩ := DX12_sorts (d := d) hL  hG
      refine RK.of (RN.cv (i := 347) (k := 220) (q2 := iX12_sorts) (as := [.inr (.inr 334), .inl (m_rd h 344 (m_w32 (26 + v1)))]) (r := []) (v := none) (h1 := h1) (by decide +kernel) rfl rfl rfl rfl rfl hq hN) ?_
      have hK := hK.tr hQ
      have hJ := hJ.tr hQ
      refine RK.of (RN.blk (ops := [(42, .aload_n 0), (43, .dup), (44, .getfield 408), (47, .aload_n 0), (48, .getfield 335)]) (pc' := 51) (lv' := [(0, .inr (.inr 334)), (1, .inl v1)]) (st' := [.inl (m_rd h1 334 23), .inl (m_rd h1 334 32), .inr (.inr 334)]) (h' := h1) (cs := [GK h1 334 12, GK h1 334 12]) (by decide +kernel) rfl ⟨(o_334 hL).gk, (o_334 hL).gk, trivial⟩) ?_
      rcases it_of hF with ⟨hb, hF⟩ | ⟨hb, hF⟩
      · refine RK.of (RN.ift (cd := .lt) (off := 7) (tgt := 58) (by decide +kernel) (mif_lt hb)) ?_
        refine RK.of (RN.blk (ops := [(58, .iconst 0)]) (pc' := 59) (lv' := [(0, .inr (.inr 334)), (1, .inl v1)]) (st' := [.inl 0, .inl (m_rd h1 334 32), .inr (.inr 334)]) (h' := h1) (cs := []) (by decide +kernel) rfl trivial) ?_
        refine RK.of (RN.blk (ops := [(59, .iadd), (60, .putfield 408)]) (pc' := 63) (lv' := [(0, .inr (.inr 334)), (1, .inl v1)]) (st' := []) (h' := (m_wr h1 334 32 (m_w32 ((m_rd h1 334 32) + 0)))) (cs := [GK h1 334 12]) (by decide +kernel) rfl ⟨(o_334 hL).gk, trivial⟩) ?_
        have hL : LR (m_wr h1 334 32 (m_w32 ((m_rd h1 334 32) + 0))) := LR.wf (k := 32) hL (o_334 hL) rfl
        have hK := hK.tr (KD.wr : KD h1 (m_wr h1 334 32 (m_w32 ((m_rd h1 334 32) + 0))))
        have hJ := hJ.tr (KD.wr : KD h1 (m_wr h1 334 32 (m_w32 ((m_rd h1 334 32) + 0))))
        refine RK.of (RN.blk (ops := [(63, .iinc 1 1)]) (pc' := 66) (lv' := [(1, .inl (m_w32 (v1 + 1))), (0, .inr (.inr 334))]) (st' := []) (h' := (m_wr h1 334 32 (m_w32 ((m_rd h1 334 32) + 0)))) (cs := []) (by decide +kernel) rfl trivial) ?_
        refine RK.of (RN.goto (off := -48) (tgt := 18) (by decide +kernel)) ?_
        exact RK.sub (ih _ _ hL hJ hF) (sub_cons rfl (sub_cons rfl sub_nil))
      · refine RK.of (RN.iff (cd := .lt) (off := 7) (tgt := 58) (by decide +kernel) (mif_ltn hb)) ?_
        refine RK.of (RN.blk (ops := [(54, .iconst 1)]) (pc' := 55) (lv' := [(0, .inr (.inr 334)), (1, .inl v1)]) (st' := [.inl 1, .inl (m_rd h1 334 32), .inr (.inr 334)]) (h' := h1) (cs := []) (by decide +kernel) rfl trivial) ?_
        refine RK.of (RN.goto (off := 4) (tgt := 59) (by decide +kernel)) ?_
        refine RK.of (RN.blk (ops := [(59, .iadd), (60, .putfield 408)]) (pc' := 63) (lv' := [(0, .inr (.inr 334)), (1, .inl v1)]) (st' := []) (h' := (m_wr h1 334 32 (m_w32 ((m_rd h1 334 32) + 1)))) (cs := [GK h1 334 12]) (by decide +kernel) rfl ⟨(o_334 hL).gk, trivial⟩) ?_
        have hL : LR (m_wr h1 334 32 (m_w32 ((m_rd h1 334 32) + 1))) := LR.wf (k := 32) hL (o_334 hL) rfl
        have hK := hK.tr (KD.wr : KD h1 (m_wr h1 334 32 (m_w32 ((m_rd h1 334 32) + 1))))
        have hJ := hJ.tr (KD.wr : KD h1 (m_wr h1 334 32 (m_w32 ((m_rd h1 334 32) + 1))))
        refine RK.of (RN.blk (ops := [(63, .iinc 1 1)]) (pc' := 66) (lv' := [(1, .inl (m_w32 (v1 + 1))), (0, .inr (.inr 334))]) (st' := []) (h' := (m_wr h1 334 32 (m_w32 ((m_rd h1 334 32) + 1)))) (cs := []) (by decide +kernel) rfl trivial) ?_
        refine RK.of (RN.goto (off := -48) (tgt := 18) (by decide +kernel)) ?_
        exact RK.sub (ih _ _ hL hJ hF) (sub_cons rfl (sub_cons rfl sub_nil))
    · refine RK.of (RN.ict (cd := .ge) (off := 43) (tgt := 69) (by decide +kernel) (mif_ge hb)) ?_
      exact RK.sub (hK0 _ hL hJ hF) (sub_cons rfl sub_nil)
noncomputable def GX12_sortsAll (h : MH) : Option (MH) :=
  GX12_sortsAll_L18 (fun h1 =>
   (bv (GX12_laysBack (m_wr h1 334 31 (m_w32 ((m_rd h1 344 11) - (m_rd h1 334 31))))) (fun h2 =>
    some h2))) FU 0 (m_wr (m_wr h 334 32 0) 334 31 (m_rd (m_wr h 334 32 0) 344 11))
theorem DX12_sortsAll {d : Nat} {h : MH} {r : MH} (hL : LR h) (hF : GX12_sortsAll h = some r) : RN xs L iX12_sortsAll (d + 5) 0 (lvE 0 [.inr (.inr 334)]) [] h (RVo r) ∧ LR r ∧ KD h r := by
  unfold GX12_sortsAll at hF
  have hK : KD h h := KD.rf
  show RK xs L iX12_sortsAll (d + 5) 0 (lvE 0 [.inr (.inr 334)]) [] h (RVo r) h r
  refine RK.of (RN.blk (ops := [(0, .aload_n 0), (1, .iconst 0), (2, .putfield 408)]) (pc' := 5) (lv' := [(0, .inr (.inr 334))]) (st' := []) (h' := (m_wr h 334 32 0)) (cs := [GK h 334 12]) (by decide +kernel) rfl ⟨(o_334 hL).gk, trivial⟩) ?_
  have hL : LR (m_wr h 334 32 0) := LR.wf (k := 32) hL (o_334 hL) rfl
  have hK := hK.tr (KD.wr : KD h (m_wr h 334 32 0))
  refine RK.of (RN.blk (ops := [(5, .aload_n 0), (6, .aload_n 0)]) (pc' := 7) (lv' := [(0, .inr (.inr 334))]) (st' := [.inr (.inr 334), .inr (.inr 334)]) (h' := (m_wr h 334 32 0)) (cs := []) (by decide +kernel) rfl trivial) ?_
  refine RK.of (RN.gr (i := 39) (ci := 12) (k := 20) (fn := true) (v := 344) (by decide +kernel) rfl (TO.gk (o_334 hL)) (hL.fa (v := 344) 20 1 167 (o_334 hL) rfl (by decide) rfl (by decide)).1) ?_
  refine RK.of (RN.blk (ops := [(10, .bipush 11), (12, .iaload), (13, .putfield 411)]) (pc' := 16) (lv' := [(0, .inr (.inr 334))]) (st' := []) (h' := (m_wr (m_wr h 334 32 0) 334 31 (m_rd (m_wr h 334 32 0) 344 11))) (cs := [GI (m_wr h 334 32 0) 344 1 11, GK (m_wr h 334 32 0) 334 12]) (by decide +kernel) rfl ⟨(a_344 hL).gi (by decide) (by decide), (o_334 hL).gk, trivial⟩) ?_
  have hL : LR (m_wr (m_wr h 334 32 0) 334 31 (m_rd (m_wr h 334 32 0) 344 11)) := LR.wf (k := 31) hL (o_334 hL) rfl
  have hK := hK.tr (KD.wr : KD (m_wr h 334 32 0) (m_wr (m_wr h 334 32 0) 334 31 (m_rd (m_wr h 334 32 0) 344 11)))
  refine RK.of (RN.blk (ops := [(16, .iconst 0), (17, .istore_n 1)]) (pc' := 18) (lv' := [(1, .inl 0), (0, .inr (.inr 334))]) (st' := []) (h' := (m_wr (m_wr h 334 32 0) 334 31 (m_rd (m_wr h 334 32 0) 344 11))) (cs := []) (by decide +kernel) rfl trivial) ?_
  refine RK.sub (DX12_sortsAll_L18 hK ?_ _ _ _ hL KD.rf hF) (sub_cons rfl (sub_cons rfl sub_nil))
  · intro h1 hL hq hF
    have hK := hK.tr hq
    refine RK.of (RN.blk (ops := [(69, .aload_n 0), (70, .aload_n 0)]) (pc' := 71) (lv' := [(0, .inr (.inr 334))]) (st' := [.inr (.inr 334), .inr (.inr 334)]) (h' := h1) (cs := []) (by decide +kernel) rfl trivial) ?_
    refine RK.of (RN.gr (i := 39) (ci := 12) (k := 20) (fn := true) (v := 344) (by decide +kernel) rfl (TO.gk (o_334 hL)) (hL.fa (v := 344) 20 1 167 (o_334 hL) rfl (by decide) rfl (by decide)).1) ?_
    refine RK.of (RN.blk (ops := [(74, .bipush 11), (76, .iaload), (77, .aload_n 0), (78, .getfield 411), (81, .isub), (82, .putfield 411)]) (pc' := 85) (lv' := [(0, .inr (.inr 334))]) (st' := []) (h' := (m_wr h1 334 31 (m_w32 ((m_rd h1 344 11) - (m_rd h1 334 31))))) (cs := [GI h1 344 1 11, GK h1 334 12, GK h1 334 12]) (by decide +kernel) rfl ⟨(a_344 hL).gi (by decide) (by decide), (o_334 hL).gk, (o_334 hL).gk, trivial⟩) ?_
    have hL : LR (m_wr h1 334 31 (m_w32 ((m_rd h1 344 11) - (m_rd h1 334 31)))) := LR.wf (k := 31) hL (o_334 hL) rfl
    have hK := hK.tr (KD.wr : KD h1 (m_wr h1 334 31 (m_w32 ((m_rd h1 344 11) - (m_rd h1 334 31)))))
    refine RK.of (RN.blk (ops := [(85, .aload_n 0)]) (pc' := 86) (lv' := [(0, .inr (.inr 334))]) (st' := [.inr (.inr 334)]) (h' := (m_wr h1 334 31 (m_w32 ((m_rd h1 344 11) - (m_rd h1 334 31))))) (cs := []) (by decide +kernel) rfl trivial) ?_
    obtain ⟨h2, hG, hF⟩ := bv_of hF
    have hq := rcv_ok (as := []) (TO.gk (o_334 hL))
    obtain ⟨hN, hL, hQ⟩ := DX12_laysBack (d := d + 4) hL  hG
    refine RK.of (RN.cv (i := 414) (k := 254) (q2 := iX12_laysBack) (as := [.inr (.inr 334)]) (r := []) (v := none) (h1 := h2) (by decide +kernel) rfl rfl rfl rfl rfl hq hN) ?_
    have hK := hK.tr hQ
    exact RK.vR (by decide +kernel) rfl hL hK hF
noncomputable def GX12_triesEntry (a1 : Int) (a2 : Int) (a3 : Int) (h : MH) : Option (MH) :=
  (bd (GX12_canEnter a1 a2 a3 h) (fun x2 h1 =>
   (if x2 = 0 then
    some h1
   else
    (bd (GX12_enters a1 a2 a3 h1) (fun x4 h3 =>
     (bv (GX12_sortsAll h3) (fun h5 =>
      (if (m_rd h5 351 0) < (m_rd h5 334 31) then
       some h5
      else
       jn (
        hl (m_wr (m_wr h5 351 0 (m_rd h5 334 31)) 351 1 (m_rd (m_wr h5 351 0 (m_rd h5 334 31)) 334 32)) (fun h7 =>
         some (m_wr (m_wr (m_wr h7 351 2 a1) 351 3 a2) 351 4 a3))) (fun j6 =>
        (if (m_rd h5 334 31) = (m_rd h5 351 0) then
         (if (m_rd h5 334 32) < (m_rd h5 351 1) then
          j6
         else
          some h5)
        else
         j6))))))))))
theorem DX12_triesEntry {d : Nat} {a1 : Int} {a2 : Int} {a3 : Int} {h : MH} {r : MH} (hL : LR h) (hF : GX12_triesEntry a1 a2 a3 h = some r) : RN xs L iX12_triesEntry (d + 6) 0 (lvE 0 [.inr (.inr 334), .inl a1, .inl a2, .inl a3]) [] h (RVo r) ∧ LR r ∧ KD h r := by
  unfold GX12_triesEntry at hF
  have hK : KD h h := KD.rf
  show RK xs L iX12_triesEntry (d + 6) 0 (lvE 0 [.inr (.inr 334), .inl a1, .inl a2, .inl a3]) [] h (RVo r) h r
  refine RK.of (RN.blk (ops := [(0, .aload_n 0), (1, .iload_n 1), (2, .iload_n 2), (3, .iload_n 3)]) (pc' := 4) (lv' := [(0, .inr (.inr 334)), (1, .inl a1), (2, .inl a2), (3, .inl a3)]) (st' := [.inl a3, .inl a2, .inl a1, .inr (.inr 334)]) (h' := h) (cs := []) (by decide +kernel) rfl trivial) ?_
  obtain ⟨x2, h1, hG, hF⟩ := bd_of hF
  have hq := rcv_ok (as := [.inl a1, .inl a2, .inl a3]) (TO.gk (o_334 hL))
  obtain ⟨hN, hL, hQ⟩ := DX12_canEnter (d := d + 4) hL  hG
  refine RK.of (RN.cv (i := 365) (k := 231) (q2 := iX12_canEnter) (as := [.inr (.inr 334), .inl a1, .inl a2, .inl a3]) (r := []) (v := some (.inl x2)) (h1 := h1) (by decide +kernel) rfl rfl rfl rfl rfl hq hN) ?_
  have hK := hK.tr hQ
  rcases it_of hF with ⟨hb, hF⟩ | ⟨hb, hF⟩
  · refine RK.of (RN.iff (cd := .ne) (off := 4) (tgt := 11) (by decide +kernel) (mif_nen hb)) ?_
    exact RK.vR (by decide +kernel) rfl hL hK hF
  · refine RK.of (RN.ift (cd := .ne) (off := 4) (tgt := 11) (by decide +kernel) (mif_ne hb)) ?_
    refine RK.of (RN.blk (ops := [(11, .aload_n 0), (12, .iload_n 1), (13, .iload_n 2), (14, .iload_n 3)]) (pc' := 15) (lv' := [(0, .inr (.inr 334)), (1, .inl a1), (2, .inl a2), (3, .inl a3)]) (st' := [.inl a3, .inl a2, .inl a1, .inr (.inr 334)]) (h' := h1) (cs := []) (by decide +kernel) rfl trivial) ?_
    obtain ⟨x4, h3, hG, hF⟩ := bd_of hF
    have hq := rcv_ok (as := [.inl a1, .inl a2, .inl a3]) (TO.gk (o_334 hL))
    obtain ⟨hN, hL, hQ⟩ := DX12_enters (d := d + 4) hL  hG
    refine RK.of (RN.cv (i := 368) (k := 232) (q2 := iX12_enters) (as := [.inr (.inr 334), .inl a1, .inl a2, .inl a3]) (r := []) (v := some (.inl x4)) (h1 := h3) (by decide +kernel) rfl rfl rfl rfl rfl hq hN) ?_
    have hK := hK.tr hQ
    refine RK.of (RN.blk (ops := [(18, .pop), (19, .aload_n 0)]) (pc' := 20) (lv' := [(0, .inr (.inr 334)), (1, .inl a1), (2, .inl a2), (3, .inl a3)]) (st' := [.inr (.inr 334)]) (h' := h3) (cs := []) (by decide +kernel) rfl trivial) ?_
    obtain ⟨h5, hG, hF⟩ := bv_of hF
    have hq := rcv_ok (as := []) (TO.gk (o_334 hL))
    obtain ⟨hN, hL, hQ⟩ := DX12_sortsAll (d := d) hL  hG
    refine RK.of (RN.cv (i := 417) (k := 255) (q2 := iX12_sortsAll) (as := [.inr (.inr 334)]) (r := []) (v := none) (h1 := h5) (by decide +kernel) rfl rfl rfl rfl rfl hq hN) ?_
    have hK := hK.tr hQ
    refine RK.of (RN.blk (ops := [(23, .aload_n 0), (24, .getfield 411), (27, .aload_n 0)]) (pc' := 28) (lv' := [(0, .inr (.inr 334)), (1, .inl a1), (2, .inl a2), (3, .inl a3)]) (st' := [.inr (.inr 334), .inl (m_rd h5 334 31)]) (h' := h5) (cs := [GK h5 334 12]) (by decide +kernel) rfl ⟨(o_334 hL).gk, trivial⟩) ?_
    refine RK.of (RN.gr (i := 64) (ci := 12) (k := 33) (fn := true) (v := 351) (by decide +kernel) rfl (TO.gk (o_334 hL)) (hL.fa (v := 351) 33 1 5 (o_334 hL) rfl (by decide) rfl (by decide)).1) ?_
    refine RK.of (RN.blk (ops := [(31, .iconst 0), (32, .iaload)]) (pc' := 33) (lv' := [(0, .inr (.inr 334)), (1, .inl a1), (2, .inl a2), (3, .inl a3)]) (st' := [.inl (m_rd h5 351 0), .inl (m_rd h5 334 31)]) (h' := h5) (cs := [GI h5 351 1 0]) (by decide +kernel) rfl ⟨(a_351 hL).gi (by decide) (by decide), trivial⟩) ?_
    rcases it_of hF with ⟨hb, hF⟩ | ⟨hb, hF⟩
    · refine RK.of (RN.ict (cd := .gt) (off := 29) (tgt := 62) (by decide +kernel) (mif_gt hb)) ?_
      exact RK.vR (by decide +kernel) rfl hL hK hF
    · refine RK.of (RN.icf (cd := .gt) (off := 29) (tgt := 62) (by decide +kernel) (mif_gtn hb)) ?_
      refine RK.of (RN.blk (ops := [(36, .aload_n 0), (37, .getfield 411), (40, .aload_n 0)]) (pc' := 41) (lv' := [(0, .inr (.inr 334)), (1, .inl a1), (2, .inl a2), (3, .inl a3)]) (st' := [.inr (.inr 334), .inl (m_rd h5 334 31)]) (h' := h5) (cs := [GK h5 334 12]) (by decide +kernel) rfl ⟨(o_334 hL).gk, trivial⟩) ?_
      refine RK.of (RN.gr (i := 64) (ci := 12) (k := 33) (fn := true) (v := 351) (by decide +kernel) rfl (TO.gk (o_334 hL)) (hL.fa (v := 351) 33 1 5 (o_334 hL) rfl (by decide) rfl (by decide)).1) ?_
      refine RK.of (RN.blk (ops := [(44, .iconst 0), (45, .iaload)]) (pc' := 46) (lv' := [(0, .inr (.inr 334)), (1, .inl a1), (2, .inl a2), (3, .inl a3)]) (st' := [.inl (m_rd h5 351 0), .inl (m_rd h5 334 31)]) (h' := h5) (cs := [GI h5 351 1 0]) (by decide +kernel) rfl ⟨(a_351 hL).gi (by decide) (by decide), trivial⟩) ?_
      refine jn_use (fun j6 => j6 = some r → RK xs L iX12_triesEntry (d + 6) 63 [(0, .inr (.inr 334)), (1, .inl a1), (2, .inl a2), (3, .inl a3)] [] h5 (RVo r) h r) ?_ ?_ hF
      · intro  hF
        refine RK.of (RN.blk (ops := [(63, .aload_n 0)]) (pc' := 64) (lv' := [(0, .inr (.inr 334)), (1, .inl a1), (2, .inl a2), (3, .inl a3)]) (st' := [.inr (.inr 334)]) (h' := h5) (cs := []) (by decide +kernel) rfl trivial) ?_
        refine RK.of (RN.gr (i := 64) (ci := 12) (k := 33) (fn := true) (v := 351) (by decide +kernel) rfl (TO.gk (o_334 hL)) (hL.fa (v := 351) 33 1 5 (o_334 hL) rfl (by decide) rfl (by decide)).1) ?_
        refine RK.of (RN.blk (ops := [(67, .iconst 0), (68, .aload_n 0), (69, .getfield 411), (72, .iastore)]) (pc' := 73) (lv' := [(0, .inr (.inr 334)), (1, .inl a1), (2, .inl a2), (3, .inl a3)]) (st' := []) (h' := (m_wr h5 351 0 (m_rd h5 334 31))) (cs := [GK h5 334 12, GI h5 351 1 0]) (by decide +kernel) rfl ⟨(o_334 hL).gk, (a_351 hL).gi (by decide) (by decide), trivial⟩) ?_
        have hL : LR (m_wr h5 351 0 (m_rd h5 334 31)) := hL.wa (TA.le5 (a_351 hL) (by decide))
        have hK := hK.tr (KD.wr : KD h5 (m_wr h5 351 0 (m_rd h5 334 31)))
        refine RK.of (RN.blk (ops := [(73, .aload_n 0)]) (pc' := 74) (lv' := [(0, .inr (.inr 334)), (1, .inl a1), (2, .inl a2), (3, .inl a3)]) (st' := [.inr (.inr 334)]) (h' := (m_wr h5 351 0 (m_rd h5 334 31))) (cs := []) (by decide +kernel) rfl trivial) ?_
        refine RK.of (RN.gr (i := 64) (ci := 12) (k := 33) (fn := true) (v := 351) (by decide +kernel) rfl (TO.gk (o_334 hL)) (hL.fa (v := 351) 33 1 5 (o_334 hL) rfl (by decide) rfl (by decide)).1) ?_
        refine RK.of (RN.blk (ops := [(77, .iconst 1), (78, .aload_n 0), (79, .getfield 408), (82, .iastore)]) (pc' := 83) (lv' := [(0, .inr (.inr 334)), (1, .inl a1), (2, .inl a2), (3, .inl a3)]) (st' := []) (h' := (m_wr (m_wr h5 351 0 (m_rd h5 334 31)) 351 1 (m_rd (m_wr h5 351 0 (m_rd h5 334 31)) 334 32))) (cs := [GK (m_wr h5 351 0 (m_rd h5 334 31)) 334 12, GI (m_wr h5 351 0 (m_rd h5 334 31)) 351 1 1]) (by decide +kernel) rfl ⟨(o_334 hL).gk, (a_351 hL).gi (by decide) (by decide), trivial⟩) ?_
        have hL : LR (m_wr (m_wr h5 351 0 (m_rd h5 334 31)) 351 1 (m_rd (m_wr h5 351 0 (m_rd h5 334 31)) 334 32)) := hL.wa (TA.le5 (a_351 hL) (by decide))
        have hK := hK.tr (KD.wr : KD (m_wr h5 351 0 (m_rd h5 334 31)) (m_wr (m_wr h5 351 0 (m_rd h5 334 31)) 351 1 (m_rd (m_wr h5 351 0 (m_rd h5 334 31)) 334 32)))
        obtain ⟨h7, he, hF⟩ := hl_of hF
        refine RK.of (RN.hl he) ?_
        rw [← he] at hL hK
        refine RK.of (RN.blk (ops := [(83, .aload_n 0)]) (pc' := 84) (lv' := [(0, .inr (.inr 334)), (1, .inl a1), (2, .inl a2), (3, .inl a3)]) (st' := [.inr (.inr 334)]) (h' := h7) (cs := []) (by decide +kernel) rfl trivial) ?_
        refine RK.of (RN.gr (i := 64) (ci := 12) (k := 33) (fn := true) (v := 351) (by decide +kernel) rfl (TO.gk (o_334 hL)) (hL.fa (v := 351) 33 1 5 (o_334 hL) rfl (by decide) rfl (by decide)).1) ?_
        refine RK.of (RN.blk (ops := [(87, .iconst 2), (88, .iload_n 1), (89, .iastore)]) (pc' := 90) (lv' := [(0, .inr (.inr 334)), (1, .inl a1), (2, .inl a2), (3, .inl a3)]) (st' := []) (h' := (m_wr h7 351 2 a1)) (cs := [GI h7 351 1 2]) (by decide +kernel) rfl ⟨(a_351 hL).gi (by decide) (by decide), trivial⟩) ?_
        have hL : LR (m_wr h7 351 2 a1) := hL.wa (TA.le5 (a_351 hL) (by decide))
        have hK := hK.tr (KD.wr : KD h7 (m_wr h7 351 2 a1))
        refine RK.of (RN.blk (ops := [(90, .aload_n 0)]) (pc' := 91) (lv' := [(0, .inr (.inr 334)), (1, .inl a1), (2, .inl a2), (3, .inl a3)]) (st' := [.inr (.inr 334)]) (h' := (m_wr h7 351 2 a1)) (cs := []) (by decide +kernel) rfl trivial) ?_
        refine RK.of (RN.gr (i := 64) (ci := 12) (k := 33) (fn := true) (v := 351) (by decide +kernel) rfl (TO.gk (o_334 hL)) (hL.fa (v := 351) 33 1 5 (o_334 hL) rfl (by decide) rfl (by decide)).1) ?_
        refine RK.of (RN.blk (ops := [(94, .iconst 3), (95, .iload_n 2), (96, .iastore)]) (pc' := 97) (lv' := [(0, .inr (.inr 334)), (1, .inl a1), (2, .inl a2), (3, .inl a3)]) (st' := []) (h' := (m_wr (m_wr h7 351 2 a1) 351 3 a2)) (cs := [GI (m_wr h7 351 2 a1) 351 1 3]) (by decide +kernel) rfl ⟨(a_351 hL).gi (by decide) (by decide), trivial⟩) ?_
        have hL : LR (m_wr (m_wr h7 351 2 a1) 351 3 a2) := hL.wa (TA.le5 (a_351 hL) (by decide))
        have hK := hK.tr (KD.wr : KD (m_wr h7 351 2 a1) (m_wr (m_wr h7 351 2 a1) 351 3 a2))
        refine RK.of (RN.blk (ops := [(97, .aload_n 0)]) (pc' := 98) (lv' := [(0, .inr (.inr 334)), (1, .inl a1), (2, .inl a2), (3, .inl a3)]) (st' := [.inr (.inr 334)]) (h' := (m_wr (m_wr h7 351 2 a1) 351 3 a2)) (cs := []) (by decide +kernel) rfl trivial) ?_
        refine RK.of (RN.gr (i := 64) (ci := 12) (k := 33) (fn := true) (v := 351) (by decide +kernel) rfl (TO.gk (o_334 hL)) (hL.fa (v := 351) 33 1 5 (o_334 hL) rfl (by decide) rfl (by decide)).1) ?_
        refine RK.of (RN.blk (ops := [(101, .iconst 4), (102, .iload_n 3), (103, .iastore)]) (pc' := 104) (lv' := [(0, .inr (.inr 334)), (1, .inl a1), (2, .inl a2), (3, .inl a3)]) (st' := []) (h' := (m_wr (m_wr (m_wr h7 351 2 a1) 351 3 a2) 351 4 a3)) (cs := [GI (m_wr (m_wr h7 351 2 a1) 351 3 a2) 351 1 4]) (by decide +kernel) rfl ⟨(a_351 hL).gi (by decide) (by decide), trivial⟩) ?_
        have hL : LR (m_wr (m_wr (m_wr h7 351 2 a1) 351 3 a2) 351 4 a3) := hL.wa (TA.le5 (a_351 hL) (by decide))
        have hK := hK.tr (KD.wr : KD (m_wr (m_wr h7 351 2 a1) 351 3 a2) (m_wr (m_wr (m_wr h7 351 2 a1) 351 3 a2) 351 4 a3))
        exact RK.vR (by decide +kernel) rfl hL hK hF
      · intro j6 Jj6 hF
        rcases it_of hF with ⟨hb, hF⟩ | ⟨hb, hF⟩
        · refine RK.of (RN.icf (cd := .ne) (off := 17) (tgt := 63) (by decide +kernel) (mif_nen hb)) ?_
          refine RK.of (RN.blk (ops := [(49, .aload_n 0), (50, .getfield 408), (53, .aload_n 0)]) (pc' := 54) (lv' := [(0, .inr (.inr 334)), (1, .inl a1), (2, .inl a2), (3, .inl a3)]) (st' := [.inr (.inr 334), .inl (m_rd h5 334 32)]) (h' := h5) (cs := [GK h5 334 12]) (by decide +kernel) rfl ⟨(o_334 hL).gk, trivial⟩) ?_
          refine RK.of (RN.gr (i := 64) (ci := 12) (k := 33) (fn := true) (v := 351) (by decide +kernel) rfl (TO.gk (o_334 hL)) (hL.fa (v := 351) 33 1 5 (o_334 hL) rfl (by decide) rfl (by decide)).1) ?_
          refine RK.of (RN.blk (ops := [(57, .iconst 1), (58, .iaload)]) (pc' := 59) (lv' := [(0, .inr (.inr 334)), (1, .inl a1), (2, .inl a2), (3, .inl a3)]) (st' := [.inl (m_rd h5 351 1), .inl (m_rd h5 334 32)]) (h' := h5) (cs := [GI h5 351 1 1]) (by decide +kernel) rfl ⟨(a_351 hL).gi (by decide) (by decide), trivial⟩) ?_
          rcases it_of hF with ⟨hb, hF⟩ | ⟨hb, hF⟩
          · refine RK.of (RN.ict (cd := .lt) (off := 4) (tgt := 63) (by decide +kernel) (mif_lt hb)) ?_
            exact RK.sub (Jj6 hF) (sub_cons rfl (sub_cons rfl (sub_cons rfl (sub_cons rfl sub_nil))))
          · refine RK.of (RN.icf (cd := .lt) (off := 4) (tgt := 63) (by decide +kernel) (mif_ltn hb)) ?_
            exact RK.vR (by decide +kernel) rfl hL hK hF
        · refine RK.of (RN.ict (cd := .ne) (off := 17) (tgt := 63) (by decide +kernel) (mif_ne hb)) ?_
          exact RK.sub (Jj6 hF) (sub_cons rfl (sub_cons rfl (sub_cons rfl (sub_cons rfl sub_nil))))
noncomputable def GX12_one_L52 (u1 : Int) (K0 : MH → Option (Int × MH)) : Nat → Int → MH → Option (Int × MH)
  | 0, _, _ => none
  | f + 1, v2, h =>
    (if v2 < 5 then
     gd [IB v2 5] (
      GX12_one_L52 u1 K0 f (m_w32 (v2 + 1)) (m_wr h 351 v2 (-1)))
    else
     K0 h)
theorem DX12_one_L52 {d : Nat} {u1 : Int} {K0 : MH → Option (Int × MH)} {r : Int × MH} {h0 hB : MH} (hB0 : KD h0 hB) (hK0 : ∀ (h : MH), LR h → KD hB h → K0 h = some r → RK xs L iX12_one (d + 7) 70 [(0, .inr (.inr 334)), (1, .inl u1)] [] h (RIo r) h0 r.2) : ∀ (f : Nat) (v2 : Int) (h : MH), LR h → KD hB h → GX12_one_L52 u1 K0 f v2 h = some r → RK xs L iX12_one (d + 7) 52 [(0, .inr (.inr 334)), (1, .inl u1), (2, .inl v2)] [] h (RIo r) h0 r.2 := by
  intro f
  induction f with
  | zero =>
    intro v2 h hL hJ hF
    cases hF
  | succ f ih =>
    intro v2 h hL hJ hF
    unfold GX12_one_L52 at hF
    have hK := hB0.tr hJ
    refine RK.of (RN.blk (ops := [(52, .iload_n 2), (53, .iconst 5)]) (pc' := 54) (lv' := [(0, .inr (.inr 334)), (1, .inl u1), (2, .inl v2)]) (st' := [.inl 5, .inl v2]) (h' := h) (cs := []) (by decide +kernel) rfl trivial) ?_
    rcases it_of hF with ⟨hb, hF⟩ | ⟨hb, hF⟩
    · refine RK.of (RN.icf (cd := .ge) (off := 16) (tgt := 70) (by decide +kernel) (mif_gen hb)) ?_
      refine RK.of (RN.blk (ops := [(57, .aload_n 0)]) (pc' := 58) (lv' := [(0, .inr (.inr 334)), (1, .inl u1), (2, .inl v2)]) (st' := [.inr (.inr 334)]) (h' := h) (cs := []) (by decide +kernel) rfl trivial) ?_
      refine RK.of (RN.gr (i := 64) (ci := 12) (k := 33) (fn := true) (v := 351) (by decide +kernel) rfl (TO.gk (o_334 hL)) (hL.fa (v := 351) 33 1 5 (o_334 hL) rfl (by decide) rfl (by decide)).1) ?_
      obtain ⟨hc, hF⟩ := gd_of hF
      refine RK.of (RN.blk (ops := [(61, .iload_n 2), (62, .iconst (-1)), (63, .iastore)]) (pc' := 64) (lv' := [(0, .inr (.inr 334)), (1, .inl u1), (2, .inl v2)]) (st' := []) (h' := (m_wr h 351 v2 (-1))) (cs := [GI h 351 1 v2]) (by decide +kernel) rfl ⟨(a_351 hL).gi hc.1.1 hc.1.2, trivial⟩) ?_
      have hL : LR (m_wr h 351 v2 (-1)) := hL.wa (TA.le5 (a_351 hL) (by decide))
      have hK := hK.tr (KD.wr : KD h (m_wr h 351 v2 (-1)))
      have hJ := hJ.tr (KD.wr : KD h (m_wr h 351 v2 (-1)))
      refine RK.of (RN.blk (ops := [(64, .iinc 2 1)]) (pc' := 67) (lv' := [(2, .inl (m_w32 (v2 + 1))), (0, .inr (.inr 334)), (1, .inl u1)]) (st' := []) (h' := (m_wr h 351 v2 (-1))) (cs := []) (by decide +kernel) rfl trivial) ?_
      refine RK.of (RN.goto (off := -15) (tgt := 52) (by decide +kernel)) ?_
      exact RK.sub (ih _ _ hL hJ hF) (sub_cons rfl (sub_cons rfl (sub_cons rfl sub_nil)))
    · refine RK.of (RN.ict (cd := .ge) (off := 16) (tgt := 70) (by decide +kernel) (mif_ge hb)) ?_
      exact RK.sub (hK0 _ hL hJ hF) (sub_cons rfl (sub_cons rfl sub_nil))
noncomputable def GX12_one_L101 (u1 : Int) (u2 : Int) (u3 : Int) (K0 : MH → Option (Int × MH)) : Nat → Int → MH → Option (Int × MH)
  | 0, _, _ => none
  | f + 1, v4, h =>
    (if v4 < (m_rd h 344 3) then
     (bv (GX12_triesEntry u2 u3 v4 h) (fun h1 =>
      GX12_one_L101 u1 u2 u3 K0 f (m_w32 (v4 + 1)) h1))
    else
     K0 h)
theorem DX12_one_L101 {d : Nat} {u1 : Int} {u2 : Int} {u3 : Int} {K0 : MH → Option (Int × MH)} {r : Int × MH} {h0 hB : MH} (hB0 : KD h0 hB) (hK0 : ∀ (h : MH), LR h → KD hB h → K0 h = some r → RK xs L iX12_one (d + 7) 126 [(0, .inr (.inr 334)), (1, .inl u1), (2, .inl u2), (3, .inl u3)] [] h (RIo r) h0 r.2) : ∀ (f : Nat) (v4 : Int) (h : MH), LR h → KD hB h → GX12_one_L101 u1 u2 u3 K0 f v4 h = some r → RK xs L iX12_one (d + 7) 101 [(0, .inr (.inr 334)), (1, .inl u1), (2, .inl u2), (3, .inl u3), (4, .inl v4)] [] h (RIo r) h0 r.2 := by
  intro f
  induction f with
  | zero =>
    intro v4 h hL hJ hF
    cases hF
  | succ f ih =>
    intro v4 h hL hJ hF
    unfold GX12_one_L101 at hF
    have hK := hB0.tr hJ
    refine RK.of (RN.blk (ops := [(101, .iload 4), (103, .aload_n 0)]) (pc' := 104) (lv' := [(0, .inr (.inr 334)), (1, .inl u1), (2, .inl u2), (3, .inl u3), (4, .inl v4)]) (st' := [.inr (.inr 334), .inl v4]) (h' := h) (cs := []) (by decide +kernel) rfl trivial) ?_
    refine RK.of (RN.gr (i := 39) (ci := 12) (k := 20) (fn := true) (v := 344) (by decide +kernel) rfl (TO.gk (o_334 hL)) (hL.fa (v := 344) 20 1 167 (o_334 hL) rfl (by decide) rfl (by decide)).1) ?_
    refine RK.of (RN.blk (ops := [(107, .iconst 3), (108, .iaload)]) (pc' := 109) (lv' := [(0, .inr (.inr 334)), (1, .inl u1), (2, .inl u2), (3, .inl u3), (4, .inl v4)]) (st' := [.inl (m_rd h 344 3), .inl v4]) (h' := h) (cs := [GI h 344 1 3]) (by decide +kernel) rfl ⟨(a_344 hL).gi (by decide) (by decide), trivial⟩) ?_
    rcases it_of hF with ⟨hb, hF⟩ | ⟨hb, hF⟩
    · refine RK.of (RN.icf (cd := .ge) (off := 17) (tgt := 126) (by decide +kernel) (mif_gen hb)) ?_
      refine RK.of (RN.blk (ops := [(112, .aload_n 0), (113, .iload_n 2), (114, .iload_n 3), (115, .iload 4)]) (pc' := 117) (lv' := [(0, .inr (.inr 334)), (1, .inl u1), (2, .inl u2), (3, .inl u3), (4, .inl v4)]) (st' := [.inl v4, .inl u3, .inl u2, .inr (.inr 334)]) (h' := h) (cs := []) (by decide +kernel) rfl trivial) ?_
      obtain ⟨h1, hG, hF⟩ := bv_of hF
      have hq := rcv_ok (as := [.inl u2, .inl u3, .inl v4]) (TO.gk (o_334 hL))
      obtain ⟨hN, hL, hQ⟩ := DX12_triesEntry (d := d) hL  hG
      refine RK.of (RN.cv (i := 425) (k := 256) (q2 := iX12_triesEntry) (as := [.inr (.inr 334), .inl u2, .inl u3, .inl v4]) (r := []) (v := none) (h1 := h1) (by decide +kernel) rfl rfl rfl rfl rfl hq hN) ?_
      have hK := hK.tr hQ
      have hJ := hJ.tr hQ
      refine RK.of (RN.blk (ops := [(120, .iinc 4 1)]) (pc' := 123) (lv' := [(4, .inl (m_w32 (v4 + 1))), (0, .inr (.inr 334)), (1, .inl u1), (2, .inl u2), (3, .inl u3)]) (st' := []) (h' := h1) (cs := []) (by decide +kernel) rfl trivial) ?_
      refine RK.of (RN.goto (off := -22) (tgt := 101) (by decide +kernel)) ?_
      exact RK.sub (ih _ _ hL hJ hF) (sub_cons rfl (sub_cons rfl (sub_cons rfl (sub_cons rfl (sub_cons rfl sub_nil)))))
    · refine RK.of (RN.ict (cd := .ge) (off := 17) (tgt := 126) (by decide +kernel) (mif_ge hb)) ?_
      exact RK.sub (hK0 _ hL hJ hF) (sub_cons rfl (sub_cons rfl (sub_cons rfl (sub_cons rfl sub_nil))))
noncomputable def GX12_one_L84 (u1 : Int) (u2 : Int) (K0 : MH → Option (Int × MH)) : Nat → Int → MH → Option (Int × MH)
  | 0, _, _ => none
  | f + 1, v3, h =>
    (bd (GX12_power (m_rd h 344 1) u2 h) (fun x2 h1 =>
     (if v3 < x2 then
      GX12_one_L101 u1 u2 v3 (fun h3 =>
       GX12_one_L84 u1 u2 K0 f (m_w32 (v3 + 1)) h3) FU 0 h1
     else
      K0 h1)))
theorem DX12_one_L84 {d : Nat} {u1 : Int} {u2 : Int} {K0 : MH → Option (Int × MH)} {r : Int × MH} {h0 hB : MH} (hB0 : KD h0 hB) (hK0 : ∀ (h : MH), LR h → KD hB h → K0 h = some r → RK xs L iX12_one (d + 7) 132 [(0, .inr (.inr 334)), (1, .inl u1), (2, .inl u2)] [] h (RIo r) h0 r.2) : ∀ (f : Nat) (v3 : Int) (h : MH), LR h → KD hB h → GX12_one_L84 u1 u2 K0 f v3 h = some r → RK xs L iX12_one (d + 7) 84 [(0, .inr (.inr 334)), (1, .inl u1), (2, .inl u2), (3, .inl v3)] [] h (RIo r) h0 r.2 := by
  intro f
  induction f with
  | zero =>
    intro v3 h hL hJ hF
    cases hF
  | succ f ih =>
    intro v3 h hL hJ hF
    unfold GX12_one_L84 at hF
    have hK := hB0.tr hJ
    refine RK.of (RN.blk (ops := [(84, .iload_n 3), (85, .aload_n 0)]) (pc' := 86) (lv' := [(0, .inr (.inr 334)), (1, .inl u1), (2, .inl u2), (3, .inl v3)]) (st' := [.inr (.inr 334), .inl v3]) (h' := h) (cs := []) (by decide +kernel) rfl trivial) ?_
    refine RK.of (RN.gr (i := 39) (ci := 12) (k := 20) (fn := true) (v := 344) (by decide +kernel) rfl (TO.gk (o_334 hL)) (hL.fa (v := 344) 20 1 167 (o_334 hL) rfl (by decide) rfl (by decide)).1) ?_
    refine RK.of (RN.blk (ops := [(89, .iconst 1), (90, .iaload), (91, .iload_n 2)]) (pc' := 92) (lv' := [(0, .inr (.inr 334)), (1, .inl u1), (2, .inl u2), (3, .inl v3)]) (st' := [.inl u2, .inl (m_rd h 344 1), .inl v3]) (h' := h) (cs := [GI h 344 1 1]) (by decide +kernel) rfl ⟨(a_344 hL).gi (by decide) (by decide), trivial⟩) ?_
    obtain ⟨x2, h1, hG, hF⟩ := bd_of hF
    obtain ⟨hN, hL, hQ⟩ := DX12_power (d := d + 6) hL  hG
    refine RK.of (RN.cst (i := 229) (k := 159) (q2 := iX12_power) (as := [.inl (m_rd h 344 1), .inl u2]) (r := [.inl v3]) (v := some (.inl x2)) (h1 := h1) (by decide +kernel) rfl rfl rfl rfl rfl hN) ?_
    have hK := hK.tr hQ
    have hJ := hJ.tr hQ
    rcases it_of hF with ⟨hb, hF⟩ | ⟨hb, hF⟩
    · refine RK.of (RN.icf (cd := .ge) (off := 37) (tgt := 132) (by decide +kernel) (mif_gen hb)) ?_
      refine RK.of (RN.blk (ops := [(98, .iconst 0), (99, .istore 4)]) (pc' := 101) (lv' := [(4, .inl 0), (0, .inr (.inr 334)), (1, .inl u1), (2, .inl u2), (3, .inl v3)]) (st' := []) (h' := h1) (cs := []) (by decide +kernel) rfl trivial) ?_
      refine RK.sub (DX12_one_L101 hK ?_ _ _ _ hL KD.rf hF) (sub_cons rfl (sub_cons rfl (sub_cons rfl (sub_cons rfl (sub_cons rfl sub_nil)))))
      · intro h3 hL hq hF
        have hK := hK.tr hq
        have hJ := hJ.tr hq
        refine RK.of (RN.blk (ops := [(126, .iinc 3 1)]) (pc' := 129) (lv' := [(3, .inl (m_w32 (v3 + 1))), (0, .inr (.inr 334)), (1, .inl u1), (2, .inl u2)]) (st' := []) (h' := h3) (cs := []) (by decide +kernel) rfl trivial) ?_
        refine RK.of (RN.goto (off := -45) (tgt := 84) (by decide +kernel)) ?_
        exact RK.sub (ih _ _ hL hJ hF) (sub_cons rfl (sub_cons rfl (sub_cons rfl (sub_cons rfl sub_nil))))
    · refine RK.of (RN.ict (cd := .ge) (off := 37) (tgt := 132) (by decide +kernel) (mif_ge hb)) ?_
      exact RK.sub (hK0 _ hL hJ hF) (sub_cons rfl (sub_cons rfl (sub_cons rfl sub_nil)))
noncomputable def GX12_one_L72 (u1 : Int) (K0 : MH → Option (Int × MH)) : Nat → Int → MH → Option (Int × MH)
  | 0, _, _ => none
  | f + 1, v2, h =>
    (if (m_rd h 344 2) < v2 then
     K0 h
    else
     GX12_one_L84 u1 v2 (fun h1 =>
      GX12_one_L72 u1 K0 f (m_w32 (v2 + 1)) h1) FU 0 h)
theorem DX12_one_L72 {d : Nat} {u1 : Int} {K0 : MH → Option (Int × MH)} {r : Int × MH} {h0 hB : MH} (hB0 : KD h0 hB) (hK0 : ∀ (h : MH), LR h → KD hB h → K0 h = some r → RK xs L iX12_one (d + 7) 138 [(0, .inr (.inr 334)), (1, .inl u1)] [] h (RIo r) h0 r.2) : ∀ (f : Nat) (v2 : Int) (h : MH), LR h → KD hB h → GX12_one_L72 u1 K0 f v2 h = some r → RK xs L iX12_one (d + 7) 72 [(0, .inr (.inr 334)), (1, .inl u1), (2, .inl v2)] [] h (RIo r) h0 r.2 := by
  intro f
  induction f with
  | zero =>
    intro v2 h hL hJ hF
    cases hF
  | succ f ih =>
    intro v2 h hL hJ hF
    unfold GX12_one_L72 at hF
    have hK := hB0.tr hJ
    refine RK.of (RN.blk (ops := [(72, .iload_n 2), (73, .aload_n 0)]) (pc' := 74) (lv' := [(0, .inr (.inr 334)), (1, .inl u1), (2, .inl v2)]) (st' := [.inr (.inr 334), .inl v2]) (h' := h) (cs := []) (by decide +kernel) rfl trivial) ?_
    refine RK.of (RN.gr (i := 39) (ci := 12) (k := 20) (fn := true) (v := 344) (by decide +kernel) rfl (TO.gk (o_334 hL)) (hL.fa (v := 344) 20 1 167 (o_334 hL) rfl (by decide) rfl (by decide)).1) ?_
    refine RK.of (RN.blk (ops := [(77, .iconst 2), (78, .iaload)]) (pc' := 79) (lv' := [(0, .inr (.inr 334)), (1, .inl u1), (2, .inl v2)]) (st' := [.inl (m_rd h 344 2), .inl v2]) (h' := h) (cs := [GI h 344 1 2]) (by decide +kernel) rfl ⟨(a_344 hL).gi (by decide) (by decide), trivial⟩) ?_
    rcases it_of hF with ⟨hb, hF⟩ | ⟨hb, hF⟩
    · refine RK.of (RN.ict (cd := .gt) (off := 59) (tgt := 138) (by decide +kernel) (mif_gt hb)) ?_
      exact RK.sub (hK0 _ hL hJ hF) (sub_cons rfl (sub_cons rfl sub_nil))
    · refine RK.of (RN.icf (cd := .gt) (off := 59) (tgt := 138) (by decide +kernel) (mif_gtn hb)) ?_
      refine RK.of (RN.blk (ops := [(82, .iconst 0), (83, .istore_n 3)]) (pc' := 84) (lv' := [(3, .inl 0), (0, .inr (.inr 334)), (1, .inl u1), (2, .inl v2)]) (st' := []) (h' := h) (cs := []) (by decide +kernel) rfl trivial) ?_
      refine RK.sub (DX12_one_L84 hK ?_ _ _ _ hL KD.rf hF) (sub_cons rfl (sub_cons rfl (sub_cons rfl (sub_cons rfl sub_nil))))
      · intro h1 hL hq hF
        have hK := hK.tr hq
        have hJ := hJ.tr hq
        refine RK.of (RN.blk (ops := [(132, .iinc 2 1)]) (pc' := 135) (lv' := [(2, .inl (m_w32 (v2 + 1))), (0, .inr (.inr 334)), (1, .inl u1)]) (st' := []) (h' := h1) (cs := []) (by decide +kernel) rfl trivial) ?_
        refine RK.of (RN.goto (off := -63) (tgt := 72) (by decide +kernel)) ?_
        exact RK.sub (ih _ _ hL hJ hF) (sub_cons rfl (sub_cons rfl (sub_cons rfl sub_nil)))
noncomputable def GX12_one (a1 : Int) (h : MH) : Option (Int × MH) :=
  (bd (GX12_isFrame h) (fun x2 h1 =>
   (if x2 = 0 then
    some ((-2), h1)
   else
    (bd (GX12_in a1 0 4 h1) (fun x4 h3 =>
     (if x4 = 0 then
      some ((-2), h3)
     else
      (bv (GX12_keeps h3) (fun h5 =>
       (bv (GX12_sortsAll h5) (fun h6 =>
        hl (m_wr (m_wr h6 351 0 (m_rd h6 334 31)) 351 1 (m_rd (m_wr h6 351 0 (m_rd h6 334 31)) 334 32)) (fun h7 =>
         GX12_one_L52 a1 (fun h8 =>
          GX12_one_L72 a1 (fun h9 =>
           gd [IB a1 5] (
            some ((m_rd h9 351 a1), h9))) FU 0 h8) FU 2 h7)))))))))))
theorem DX12_one {d : Nat} {a1 : Int} {h : MH} {r : Int × MH} (hL : LR h) (hF : GX12_one a1 h = some r) : RN xs L iX12_one (d + 7) 0 (lvE 0 [.inr (.inr 334), .inl a1]) [] h (RIo r) ∧ LR r.2 ∧ KD h r.2 := by
  unfold GX12_one at hF
  have hK : KD h h := KD.rf
  show RK xs L iX12_one (d + 7) 0 (lvE 0 [.inr (.inr 334), .inl a1]) [] h (RIo r) h r.2
  refine RK.of (RN.blk (ops := [(0, .aload_n 0)]) (pc' := 1) (lv' := [(0, .inr (.inr 334)), (1, .inl a1)]) (st' := [.inr (.inr 334)]) (h' := h) (cs := []) (by decide +kernel) rfl trivial) ?_
  obtain ⟨x2, h1, hG, hF⟩ := bd_of hF
  have hq := rcv_ok (as := []) (TO.gk (o_334 hL))
  obtain ⟨hN, hL, hQ⟩ := DX12_isFrame (d := d + 6) hL  hG
  refine RK.of (RN.cv (i := 295) (k := 202) (q2 := iX12_isFrame) (as := [.inr (.inr 334)]) (r := []) (v := some (.inl x2)) (h1 := h1) (by decide +kernel) rfl rfl rfl rfl rfl hq hN) ?_
  have hK := hK.tr hQ
  rcases it_of hF with ⟨hb, hF⟩ | ⟨hb, hF⟩
  · refine RK.of (RN.ift (cd := .eq) (off := 15) (tgt := 19) (by decide +kernel) (mif_eq hb)) ?_
    refine RK.of (RN.blk (ops := [(19, .bipush (-2))]) (pc' := 21) (lv' := [(0, .inr (.inr 334)), (1, .inl a1)]) (st' := [.inl (-2)]) (h' := h1) (cs := []) (by decide +kernel) rfl trivial) ?_
    exact RK.iR (by decide +kernel) rfl hL hK hF
  · refine RK.of (RN.iff (cd := .eq) (off := 15) (tgt := 19) (by decide +kernel) (mif_eqn hb)) ?_
    refine RK.of (RN.blk (ops := [(7, .iload_n 1), (8, .i2l), (9, .lconst 0), (10, .ldc2_w 420)]) (pc' := 13) (lv' := [(0, .inr (.inr 334)), (1, .inl a1)]) (st' := [.inr (.inl 4), .inr (.inl 0), .inr (.inl a1)]) (h' := h1) (cs := []) (by decide +kernel) rfl trivial) ?_
    obtain ⟨x4, h3, hG, hF⟩ := bd_of hF
    obtain ⟨hN, hL, hQ⟩ := DX12_in (d := d + 6) hL  hG
    refine RK.of (RN.cst (i := 127) (k := 156) (q2 := iX12_in) (as := [.inr (.inl a1), .inr (.inl 0), .inr (.inl 4)]) (r := []) (v := some (.inl x4)) (h1 := h3) (by decide +kernel) rfl rfl rfl rfl rfl hN) ?_
    have hK := hK.tr hQ
    rcases it_of hF with ⟨hb, hF⟩ | ⟨hb, hF⟩
    · refine RK.of (RN.iff (cd := .ne) (off := 6) (tgt := 22) (by decide +kernel) (mif_nen hb)) ?_
      refine RK.of (RN.blk (ops := [(19, .bipush (-2))]) (pc' := 21) (lv' := [(0, .inr (.inr 334)), (1, .inl a1)]) (st' := [.inl (-2)]) (h' := h3) (cs := []) (by decide +kernel) rfl trivial) ?_
      exact RK.iR (by decide +kernel) rfl hL hK hF
    · refine RK.of (RN.ift (cd := .ne) (off := 6) (tgt := 22) (by decide +kernel) (mif_ne hb)) ?_
      refine RK.of (RN.blk (ops := [(22, .aload_n 0)]) (pc' := 23) (lv' := [(0, .inr (.inr 334)), (1, .inl a1)]) (st' := [.inr (.inr 334)]) (h' := h3) (cs := []) (by decide +kernel) rfl trivial) ?_
      obtain ⟨h5, hG, hF⟩ := bv_of hF
      have hq := rcv_ok (as := []) (TO.gk (o_334 hL))
      obtain ⟨hN, hL, hQ⟩ := DX12_keeps (d := d + 6) hL  hG
      refine RK.of (RN.cv (i := 422) (k := 253) (q2 := iX12_keeps) (as := [.inr (.inr 334)]) (r := []) (v := none) (h1 := h5) (by decide +kernel) rfl rfl rfl rfl rfl hq hN) ?_
      have hK := hK.tr hQ
      refine RK.of (RN.blk (ops := [(26, .aload_n 0)]) (pc' := 27) (lv' := [(0, .inr (.inr 334)), (1, .inl a1)]) (st' := [.inr (.inr 334)]) (h' := h5) (cs := []) (by decide +kernel) rfl trivial) ?_
      obtain ⟨h6, hG, hF⟩ := bv_of hF
      have hq := rcv_ok (as := []) (TO.gk (o_334 hL))
      obtain ⟨hN, hL, hQ⟩ := DX12_sortsAll (d := d + 1) hL  hG
      refine RK.of (RN.cv (i := 417) (k := 255) (q2 := iX12_sortsAll) (as := [.inr (.inr 334)]) (r := []) (v := none) (h1 := h6) (by decide +kernel) rfl rfl rfl rfl rfl hq hN) ?_
      have hK := hK.tr hQ
      refine RK.of (RN.blk (ops := [(30, .aload_n 0)]) (pc' := 31) (lv' := [(0, .inr (.inr 334)), (1, .inl a1)]) (st' := [.inr (.inr 334)]) (h' := h6) (cs := []) (by decide +kernel) rfl trivial) ?_
      refine RK.of (RN.gr (i := 64) (ci := 12) (k := 33) (fn := true) (v := 351) (by decide +kernel) rfl (TO.gk (o_334 hL)) (hL.fa (v := 351) 33 1 5 (o_334 hL) rfl (by decide) rfl (by decide)).1) ?_
      refine RK.of (RN.blk (ops := [(34, .iconst 0), (35, .aload_n 0), (36, .getfield 411), (39, .iastore)]) (pc' := 40) (lv' := [(0, .inr (.inr 334)), (1, .inl a1)]) (st' := []) (h' := (m_wr h6 351 0 (m_rd h6 334 31))) (cs := [GK h6 334 12, GI h6 351 1 0]) (by decide +kernel) rfl ⟨(o_334 hL).gk, (a_351 hL).gi (by decide) (by decide), trivial⟩) ?_
      have hL : LR (m_wr h6 351 0 (m_rd h6 334 31)) := hL.wa (TA.le5 (a_351 hL) (by decide))
      have hK := hK.tr (KD.wr : KD h6 (m_wr h6 351 0 (m_rd h6 334 31)))
      refine RK.of (RN.blk (ops := [(40, .aload_n 0)]) (pc' := 41) (lv' := [(0, .inr (.inr 334)), (1, .inl a1)]) (st' := [.inr (.inr 334)]) (h' := (m_wr h6 351 0 (m_rd h6 334 31))) (cs := []) (by decide +kernel) rfl trivial) ?_
      refine RK.of (RN.gr (i := 64) (ci := 12) (k := 33) (fn := true) (v := 351) (by decide +kernel) rfl (TO.gk (o_334 hL)) (hL.fa (v := 351) 33 1 5 (o_334 hL) rfl (by decide) rfl (by decide)).1) ?_
      refine RK.of (RN.blk (ops := [(44, .iconst 1), (45, .aload_n 0), (46, .getfield 408), (49, .iastore)]) (pc' := 50) (lv' := [(0, .inr (.inr 334)), (1, .inl a1)]) (st' := []) (h' := (m_wr (m_wr h6 351 0 (m_rd h6 334 31)) 351 1 (m_rd (m_wr h6 351 0 (m_rd h6 334 31)) 334 32))) (cs := [GK (m_wr h6 351 0 (m_rd h6 334 31)) 334 12, GI (m_wr h6 351 0 (m_rd h6 334 31)) 351 1 1]) (by decide +kernel) rfl ⟨(o_334 hL).gk, (a_351 hL).gi (by decide) (by decide), trivial⟩) ?_
      have hL : LR (m_wr (m_wr h6 351 0 (m_rd h6 334 31)) 351 1 (m_rd (m_wr h6 351 0 (m_rd h6 334 31)) 334 32)) := hL.wa (TA.le5 (a_351 hL) (by decide))
      have hK := hK.tr (KD.wr : KD (m_wr h6 351 0 (m_rd h6 334 31)) (m_wr (m_wr h6 351 0 (m_rd h6 334 31)) 351 1 (m_rd (m_wr h6 351 0 (m_rd h6 334 31)) 334 32)))
      obtain ⟨h7, he, hF⟩ := hl_of hF
      refine RK.of (RN.hl he) ?_
      rw [← he] at hL hK
      refine RK.of (RN.blk (ops := [(50, .iconst 2), (51, .istore_n 2)]) (pc' := 52) (lv' := [(2, .inl 2), (0, .inr (.inr 334)), (1, .inl a1)]) (st' := []) (h' := h7) (cs := []) (by decide +kernel) rfl trivial) ?_
      refine RK.sub (DX12_one_L52 hK ?_ _ _ _ hL KD.rf hF) (sub_cons rfl (sub_cons rfl (sub_cons rfl sub_nil)))
      · intro h8 hL hq hF
        have hK := hK.tr hq
        refine RK.of (RN.blk (ops := [(70, .iconst 0), (71, .istore_n 2)]) (pc' := 72) (lv' := [(2, .inl 0), (0, .inr (.inr 334)), (1, .inl a1)]) (st' := []) (h' := h8) (cs := []) (by decide +kernel) rfl trivial) ?_
        refine RK.sub (DX12_one_L72 hK ?_ _ _ _ hL KD.rf hF) (sub_cons rfl (sub_cons rfl (sub_cons rfl sub_nil)))
        · intro h9 hL hq hF
          have hK := hK.tr hq
          refine RK.of (RN.blk (ops := [(138, .aload_n 0)]) (pc' := 139) (lv' := [(0, .inr (.inr 334)), (1, .inl a1)]) (st' := [.inr (.inr 334)]) (h' := h9) (cs := []) (by decide +kernel) rfl trivial) ?_
          refine RK.of (RN.gr (i := 64) (ci := 12) (k := 33) (fn := true) (v := 351) (by decide +kernel) rfl (TO.gk (o_334 hL)) (hL.fa (v := 351) 33 1 5 (o_334 hL) rfl (by decide) rfl (by decide)).1) ?_
          obtain ⟨hc, hF⟩ := gd_of hF
          refine RK.of (RN.blk (ops := [(142, .iload_n 1), (143, .iaload)]) (pc' := 144) (lv' := [(0, .inr (.inr 334)), (1, .inl a1)]) (st' := [.inl (m_rd h9 351 a1)]) (h' := h9) (cs := [GI h9 351 1 a1]) (by decide +kernel) rfl ⟨(a_351 hL).gi hc.1.1 hc.1.2, trivial⟩) ?_
          exact RK.iR (by decide +kernel) rfl hL hK hF
noncomputable def GX12_changes_L2 (u1 : Int) (u2 : Int) (K0 : MH → Option (MH)) : Nat → Int → MH → Option (MH)
  | 0, _, _ => none
  | f + 1, v3, h =>
    (if v3 < (m_rd h 344 13) then
     gd [IB (m_w32 ((m_w32 (46 + (m_w32 (3 * v3)))) + 2)) 167] (
      (if (m_rd h 344 (m_w32 ((m_w32 (46 + (m_w32 (3 * v3)))) + 2))) = u1 then
       gd [IB (m_w32 ((m_w32 (46 + (m_w32 (3 * v3)))) + 2)) 167] (
        GX12_changes_L2 u1 u2 K0 f (m_w32 (v3 + 1)) (m_wr h 344 (m_w32 ((m_w32 (46 + (m_w32 (3 * v3)))) + 2)) u2))
      else
       gd [IB (m_w32 ((m_w32 (46 + (m_w32 (3 * v3)))) + 2)) 167] (
        (if (m_rd h 344 (m_w32 ((m_w32 (46 + (m_w32 (3 * v3)))) + 2))) = u2 then
         gd [IB (m_w32 ((m_w32 (46 + (m_w32 (3 * v3)))) + 2)) 167] (
          GX12_changes_L2 u1 u2 K0 f (m_w32 (v3 + 1)) (m_wr h 344 (m_w32 ((m_w32 (46 + (m_w32 (3 * v3)))) + 2)) u1))
        else
         GX12_changes_L2 u1 u2 K0 f (m_w32 (v3 + 1)) h))))
    else
     K0 h)
theorem DX12_changes_L2 {d : Nat} {u1 : Int} {u2 : Int} {K0 : MH → Option (MH)} {r : MH} {h0 hB : MH} (hB0 : KD h0 hB) (hK0 : ∀ (h : MH), LR h → KD hB h → K0 h = some r → RK xs L iX12_changes (d) 70 [] [] h (RVo r) h0 r) : ∀ (f : Nat) (v3 : Int) (h : MH), LR h → KD hB h → GX12_changes_L2 u1 u2 K0 f v3 h = some r → RK xs L iX12_changes (d) 2 [(0, .inr (.inr 334)), (1, .inl u1), (2, .inl u2), (3, .inl v3)] [] h (RVo r) h0 r := by
  intro f
  induction f with
  | zero =>
    intro v3 h hL hJ hF
    cases hF
  | succ f ih =>
    intro v3 h hL hJ hF
    unfold GX12_changes_L2 at hF
    have hK := hB0.tr hJ
    refine RK.of (RN.blk (ops := [(2, .iload_n 3), (3, .aload_n 0)]) (pc' := 4) (lv' := [(0, .inr (.inr 334)), (1, .inl u1), (2, .inl u2), (3, .inl v3)]) (st' := [.inr (.inr 334), .inl v3]) (h' := h) (cs := []) (by decide +kernel) rfl trivial) ?_
    refine RK.of (RN.gr (i := 39) (ci := 12) (k := 20) (fn := true) (v := 344) (by decide +kernel) rfl (TO.gk (o_334 hL)) (hL.fa (v := 344) 20 1 167 (o_334 hL) rfl (by decide) rfl (by decide)).1) ?_
    refine RK.of (RN.blk (ops := [(7, .bipush 13), (9, .iaload)]) (pc' := 10) (lv' := [(0, .inr (.inr 334)), (1, .inl u1), (2, .inl u2), (3, .inl v3)]) (st' := [.inl (m_rd h 344 13), .inl v3]) (h' := h) (cs := [GI h 344 1 13]) (by decide +kernel) rfl ⟨(a_344 hL).gi (by decide) (by decide), trivial⟩) ?_
    rcases it_of hF with ⟨hb, hF⟩ | ⟨hb, hF⟩
    · refine RK.of (RN.icf (cd := .ge) (off := 60) (tgt := 70) (by decide +kernel) (mif_gen hb)) ?_
      refine RK.of (RN.blk (ops := [(13, .bipush 46), (15, .iconst 3), (16, .iload_n 3), (17, .imul), (18, .iadd), (19, .iconst 2), (20, .iadd), (21, .istore 4), (23, .aload_n 0)]) (pc' := 24) (lv' := [(4, .inl (m_w32 ((m_w32 (46 + (m_w32 (3 * v3)))) + 2))), (0, .inr (.inr 334)), (1, .inl u1), (2, .inl u2), (3, .inl v3)]) (st' := [.inr (.inr 334)]) (h' := h) (cs := []) (by decide +kernel) rfl trivial) ?_
      refine RK.of (RN.gr (i := 39) (ci := 12) (k := 20) (fn := true) (v := 344) (by decide +kernel) rfl (TO.gk (o_334 hL)) (hL.fa (v := 344) 20 1 167 (o_334 hL) rfl (by decide) rfl (by decide)).1) ?_
      obtain ⟨hc, hF⟩ := gd_of hF
      refine RK.of (RN.blk (ops := [(27, .iload 4), (29, .iaload), (30, .iload_n 1)]) (pc' := 31) (lv' := [(4, .inl (m_w32 ((m_w32 (46 + (m_w32 (3 * v3)))) + 2))), (0, .inr (.inr 334)), (1, .inl u1), (2, .inl u2), (3, .inl v3)]) (st' := [.inl u1, .inl (m_rd h 344 (m_w32 ((m_w32 (46 + (m_w32 (3 * v3)))) + 2)))]) (h' := h) (cs := [GI h 344 1 (m_w32 ((m_w32 (46 + (m_w32 (3 * v3)))) + 2))]) (by decide +kernel) rfl ⟨(a_344 hL).gi hc.1.1 hc.1.2, trivial⟩) ?_
      rcases it_of hF with ⟨hb, hF⟩ | ⟨hb, hF⟩
      · refine RK.of (RN.icf (cd := .ne) (off := 14) (tgt := 45) (by decide +kernel) (mif_nen hb)) ?_
        refine RK.of (RN.blk (ops := [(34, .aload_n 0)]) (pc' := 35) (lv' := [(4, .inl (m_w32 ((m_w32 (46 + (m_w32 (3 * v3)))) + 2))), (0, .inr (.inr 334)), (1, .inl u1), (2, .inl u2), (3, .inl v3)]) (st' := [.inr (.inr 334)]) (h' := h) (cs := []) (by decide +kernel) rfl trivial) ?_
        refine RK.of (RN.gr (i := 39) (ci := 12) (k := 20) (fn := true) (v := 344) (by decide +kernel) rfl (TO.gk (o_334 hL)) (hL.fa (v := 344) 20 1 167 (o_334 hL) rfl (by decide) rfl (by decide)).1) ?_
        obtain ⟨hc, hF⟩ := gd_of hF
        refine RK.of (RN.blk (ops := [(38, .iload 4), (40, .iload_n 2), (41, .iastore)]) (pc' := 42) (lv' := [(4, .inl (m_w32 ((m_w32 (46 + (m_w32 (3 * v3)))) + 2))), (0, .inr (.inr 334)), (1, .inl u1), (2, .inl u2), (3, .inl v3)]) (st' := []) (h' := (m_wr h 344 (m_w32 ((m_w32 (46 + (m_w32 (3 * v3)))) + 2)) u2)) (cs := [GI h 344 1 (m_w32 ((m_w32 (46 + (m_w32 (3 * v3)))) + 2))]) (by decide +kernel) rfl ⟨(a_344 hL).gi hc.1.1 hc.1.2, trivial⟩) ?_
        have hL : LR (m_wr h 344 (m_w32 ((m_w32 (46 + (m_w32 (3 * v3)))) + 2)) u2) := hL.wa (TA.le5 (a_344 hL) (by decide))
        have hK := hK.tr (KD.wr : KD h (m_wr h 344 (m_w32 ((m_w32 (46 + (m_w32 (3 * v3)))) + 2)) u2))
        have hJ := hJ.tr (KD.wr : KD h (m_wr h 344 (m_w32 ((m_w32 (46 + (m_w32 (3 * v3)))) + 2)) u2))
        refine RK.of (RN.goto (off := 22) (tgt := 64) (by decide +kernel)) ?_
        refine RK.of (RN.blk (ops := [(64, .iinc 3 1)]) (pc' := 67) (lv' := [(3, .inl (m_w32 (v3 + 1))), (4, .inl (m_w32 ((m_w32 (46 + (m_w32 (3 * v3)))) + 2))), (0, .inr (.inr 334)), (1, .inl u1), (2, .inl u2)]) (st' := []) (h' := (m_wr h 344 (m_w32 ((m_w32 (46 + (m_w32 (3 * v3)))) + 2)) u2)) (cs := []) (by decide +kernel) rfl trivial) ?_
        refine RK.of (RN.goto (off := -65) (tgt := 2) (by decide +kernel)) ?_
        exact RK.sub (ih _ _ hL hJ hF) (sub_cons rfl (sub_cons rfl (sub_cons rfl (sub_cons rfl sub_nil))))
      · refine RK.of (RN.ict (cd := .ne) (off := 14) (tgt := 45) (by decide +kernel) (mif_ne hb)) ?_
        refine RK.of (RN.blk (ops := [(45, .aload_n 0)]) (pc' := 46) (lv' := [(4, .inl (m_w32 ((m_w32 (46 + (m_w32 (3 * v3)))) + 2))), (0, .inr (.inr 334)), (1, .inl u1), (2, .inl u2), (3, .inl v3)]) (st' := [.inr (.inr 334)]) (h' := h) (cs := []) (by decide +kernel) rfl trivial) ?_
        refine RK.of (RN.gr (i := 39) (ci := 12) (k := 20) (fn := true) (v := 344) (by decide +kernel) rfl (TO.gk (o_334 hL)) (hL.fa (v := 344) 20 1 167 (o_334 hL) rfl (by decide) rfl (by decide)).1) ?_
        obtain ⟨hc, hF⟩ := gd_of hF
        refine RK.of (RN.blk (ops := [(49, .iload 4), (51, .iaload), (52, .iload_n 2)]) (pc' := 53) (lv' := [(4, .inl (m_w32 ((m_w32 (46 + (m_w32 (3 * v3)))) + 2))), (0, .inr (.inr 334)), (1, .inl u1), (2, .inl u2), (3, .inl v3)]) (st' := [.inl u2, .inl (m_rd h 344 (m_w32 ((m_w32 (46 + (m_w32 (3 * v3)))) + 2)))]) (h' := h) (cs := [GI h 344 1 (m_w32 ((m_w32 (46 + (m_w32 (3 * v3)))) + 2))]) (by decide +kernel) rfl ⟨(a_344 hL).gi hc.1.1 hc.1.2, trivial⟩) ?_
        rcases it_of hF with ⟨hb, hF⟩ | ⟨hb, hF⟩
        · refine RK.of (RN.icf (cd := .ne) (off := 11) (tgt := 64) (by decide +kernel) (mif_nen hb)) ?_
          refine RK.of (RN.blk (ops := [(56, .aload_n 0)]) (pc' := 57) (lv' := [(4, .inl (m_w32 ((m_w32 (46 + (m_w32 (3 * v3)))) + 2))), (0, .inr (.inr 334)), (1, .inl u1), (2, .inl u2), (3, .inl v3)]) (st' := [.inr (.inr 334)]) (h' := h) (cs := []) (by decide +kernel) rfl trivial) ?_
          refine RK.of (RN.gr (i := 39) (ci := 12) (k := 20) (fn := true) (v := 344) (by decide +kernel) rfl (TO.gk (o_334 hL)) (hL.fa (v := 344) 20 1 167 (o_334 hL) rfl (by decide) rfl (by decide)).1) ?_
          obtain ⟨hc, hF⟩ := gd_of hF
          refine RK.of (RN.blk (ops := [(60, .iload 4), (62, .iload_n 1), (63, .iastore)]) (pc' := 64) (lv' := [(4, .inl (m_w32 ((m_w32 (46 + (m_w32 (3 * v3)))) + 2))), (0, .inr (.inr 334)), (1, .inl u1), (2, .inl u2), (3, .inl v3)]) (st' := []) (h' := (m_wr h 344 (m_w32 ((m_w32 (46 + (m_w32 (3 * v3)))) + 2)) u1)) (cs := [GI h 344 1 (m_w32 ((m_w32 (46 + (m_w32 (3 * v3)))) + 2))]) (by decide +kernel) rfl ⟨(a_344 hL).gi hc.1.1 hc.1.2, trivial⟩) ?_
          have hL : LR (m_wr h 344 (m_w32 ((m_w32 (46 + (m_w32 (3 * v3)))) + 2)) u1) := hL.wa (TA.le5 (a_344 hL) (by decide))
          have hK := hK.tr (KD.wr : KD h (m_wr h 344 (m_w32 ((m_w32 (46 + (m_w32 (3 * v3)))) + 2)) u1))
          have hJ := hJ.tr (KD.wr : KD h (m_wr h 344 (m_w32 ((m_w32 (46 + (m_w32 (3 * v3)))) + 2)) u1))
          refine RK.of (RN.blk (ops := [(64, .iinc 3 1)]) (pc' := 67) (lv' := [(3, .inl (m_w32 (v3 + 1))), (4, .inl (m_w32 ((m_w32 (46 + (m_w32 (3 * v3)))) + 2))), (0, .inr (.inr 334)), (1, .inl u1), (2, .inl u2)]) (st' := []) (h' := (m_wr h 344 (m_w32 ((m_w32 (46 + (m_w32 (3 * v3)))) + 2)) u1)) (cs := []) (by decide +kernel) rfl trivial) ?_
          refine RK.of (RN.goto (off := -65) (tgt := 2) (by decide +kernel)) ?_
          exact RK.sub (ih _ _ hL hJ hF) (sub_cons rfl (sub_cons rfl (sub_cons rfl (sub_cons rfl sub_nil))))
        · refine RK.of (RN.ict (cd := .ne) (off := 11) (tgt := 64) (by decide +kernel) (mif_ne hb)) ?_
          refine RK.of (RN.blk (ops := [(64, .iinc 3 1)]) (pc' := 67) (lv' := [(3, .inl (m_w32 (v3 + 1))), (4, .inl (m_w32 ((m_w32 (46 + (m_w32 (3 * v3)))) + 2))), (0, .inr (.inr 334)), (1, .inl u1), (2, .inl u2)]) (st' := []) (h' := h) (cs := []) (by decide +kernel) rfl trivial) ?_
          refine RK.of (RN.goto (off := -65) (tgt := 2) (by decide +kernel)) ?_
          exact RK.sub (ih _ _ hL hJ hF) (sub_cons rfl (sub_cons rfl (sub_cons rfl (sub_cons rfl sub_nil))))
    · refine RK.of (RN.ict (cd := .ge) (off := 60) (tgt := 70) (by decide +kernel) (mif_ge hb)) ?_
      exact RK.sub (hK0 _ hL hJ hF) sub_nil
noncomputable def GX12_changes (a1 : Int) (a2 : Int) (h : MH) : Option (MH) :=
  GX12_changes_L2 a1 a2 (fun h1 =>
   some h1) FU 0 h
theorem DX12_changes {d : Nat} {a1 : Int} {a2 : Int} {h : MH} {r : MH} (hL : LR h) (hF : GX12_changes a1 a2 h = some r) : RN xs L iX12_changes (d) 0 (lvE 0 [.inr (.inr 334), .inl a1, .inl a2]) [] h (RVo r) ∧ LR r ∧ KD h r := by
  unfold GX12_changes at hF
  have hK : KD h h := KD.rf
  show RK xs L iX12_changes (d) 0 (lvE 0 [.inr (.inr 334), .inl a1, .inl a2]) [] h (RVo r) h r
  refine RK.of (RN.blk (ops := [(0, .iconst 0), (1, .istore_n 3)]) (pc' := 2) (lv' := [(3, .inl 0), (0, .inr (.inr 334)), (1, .inl a1), (2, .inl a2)]) (st' := []) (h' := h) (cs := []) (by decide +kernel) rfl trivial) ?_
  refine RK.sub (DX12_changes_L2 hK ?_ _ _ _ hL KD.rf hF) (sub_cons rfl (sub_cons rfl (sub_cons rfl (sub_cons rfl sub_nil))))
  · intro h1 hL hq hF
    have hK := hK.tr hq
    exact RK.vR (by decide +kernel) rfl hL hK hF
noncomputable def GX12_change_L60 (u1 : Int) (u5 : Int) (K0 : Int → Int → Int → MH → Option (Int × MH)) : Nat → Int → Int → Int → Int → MH → Option (Int × MH)
  | 0, _, _, _, _, _ => none
  | f + 1, v2, v3, v4, v6, h =>
    (if v6 < (m_rd h 344 3) then
     (bv (GX12_changes u5 v6 h) (fun h1 =>
      (bv (GX12_sortsAll h1) (fun h2 =>
       (if (m_rd h2 334 32) < v2 then
        GX12_change_L60 u1 u5 K0 f (m_rd h2 334 32) u5 v6 (m_w32 (v6 + 1)) h2
       else
        GX12_change_L60 u1 u5 K0 f v2 v3 v4 (m_w32 (v6 + 1)) h2)))))
    else
     K0 v2 v3 v4 h)
theorem DX12_change_L60 {d : Nat} {u1 : Int} {u5 : Int} {K0 : Int → Int → Int → MH → Option (Int × MH)} {r : Int × MH} {h0 hB : MH} (hB0 : KD h0 hB) (hK0 : ∀ (w2 : Int) (w3 : Int) (w4 : Int) (h : MH), LR h → KD hB h → K0 w2 w3 w4 h = some r → RK xs L iX12_change (d + 6) 112 [(0, .inr (.inr 334)), (1, .inl u1), (2, .inl w2), (3, .inl w3), (4, .inl w4), (5, .inl u5)] [] h (RIo r) h0 r.2) : ∀ (f : Nat) (v2 : Int) (v3 : Int) (v4 : Int) (v6 : Int) (h : MH), LR h → KD hB h → GX12_change_L60 u1 u5 K0 f v2 v3 v4 v6 h = some r → RK xs L iX12_change (d + 6) 60 [(0, .inr (.inr 334)), (1, .inl u1), (2, .inl v2), (3, .inl v3), (4, .inl v4), (5, .inl u5), (6, .inl v6)] [] h (RIo r) h0 r.2 := by
  intro f
  induction f with
  | zero =>
    intro v2 v3 v4 v6 h hL hJ hF
    cases hF
  | succ f ih =>
    intro v2 v3 v4 v6 h hL hJ hF
    unfold GX12_change_L60 at hF
    have hK := hB0.tr hJ
    refine RK.of (RN.blk (ops := [(60, .iload 6), (62, .aload_n 0)]) (pc' := 63) (lv' := [(0, .inr (.inr 334)), (1, .inl u1), (2, .inl v2), (3, .inl v3), (4, .inl v4), (5, .inl u5), (6, .inl v6)]) (st' := [.inr (.inr 334), .inl v6]) (h' := h) (cs := []) (by decide +kernel) rfl trivial) ?_
    refine RK.of (RN.gr (i := 39) (ci := 12) (k := 20) (fn := true) (v := 344) (by decide +kernel) rfl (TO.gk (o_334 hL)) (hL.fa (v := 344) 20 1 167 (o_334 hL) rfl (by decide) rfl (by decide)).1) ?_
    refine RK.of (RN.blk (ops := [(66, .iconst 3), (67, .iaload)]) (pc' := 68) (lv' := [(0, .inr (.inr 334)), (1, .inl u1), (2, .inl v2), (3, .inl v3), (4, .inl v4), (5, .inl u5), (6, .inl v6)]) (st' := [.inl (m_rd h 344 3), .inl v6]) (h' := h) (cs := [GI h 344 1 3]) (by decide +kernel) rfl ⟨(a_344 hL).gi (by decide) (by decide), trivial⟩) ?_
    rcases it_of hF with ⟨hb, hF⟩ | ⟨hb, hF⟩
    · refine RK.of (RN.icf (cd := .ge) (off := 44) (tgt := 112) (by decide +kernel) (mif_gen hb)) ?_
      refine RK.of (RN.blk (ops := [(71, .aload_n 0), (72, .iload 5), (74, .iload 6)]) (pc' := 76) (lv' := [(0, .inr (.inr 334)), (1, .inl u1), (2, .inl v2), (3, .inl v3), (4, .inl v4), (5, .inl u5), (6, .inl v6)]) (st' := [.inl v6, .inl u5, .inr (.inr 334)]) (h' := h) (cs := []) (by decide +kernel) rfl trivial) ?_
      obtain ⟨h1, hG, hF⟩ := bv_of hF
      have hq := rcv_ok (as := [.inl u5, .inl v6]) (TO.gk (o_334 hL))
      obtain ⟨hN, hL, hQ⟩ := DX12_changes (d := d + 5) hL  hG
      refine RK.of (RN.cv (i := 429) (k := 258) (q2 := iX12_changes) (as := [.inr (.inr 334), .inl u5, .inl v6]) (r := []) (v := none) (h1 := h1) (by decide +kernel) rfl rfl rfl rfl rfl hq hN) ?_
      have hK := hK.tr hQ
      have hJ := hJ.tr hQ
      refine RK.of (RN.blk (ops := [(79, .aload_n 0)]) (pc' := 80) (lv' := [(0, .inr (.inr 334)), (1, .inl u1), (2, .inl v2), (3, .inl v3), (4, .inl v4), (5, .inl u5), (6, .inl v6)]) (st' := [.inr (.inr 334)]) (h' := h1) (cs := []) (by decide +kernel) rfl trivial) ?_
      obtain ⟨h2, hG, hF⟩ := bv_of hF
      have hq := rcv_ok (as := []) (TO.gk (o_334 hL))
      obtain ⟨hN, hL, hQ⟩ := DX12_sortsAll (d := d) hL  hG
      refine RK.of (RN.cv (i := 417) (k := 255) (q2 := iX12_sortsAll) (as := [.inr (.inr 334)]) (r := []) (v := none) (h1 := h2) (by decide +kernel) rfl rfl rfl rfl rfl hq hN) ?_
      have hK := hK.tr hQ
      have hJ := hJ.tr hQ
      refine RK.of (RN.blk (ops := [(83, .aload_n 0), (84, .getfield 408), (87, .iload_n 2)]) (pc' := 88) (lv' := [(0, .inr (.inr 334)), (1, .inl u1), (2, .inl v2), (3, .inl v3), (4, .inl v4), (5, .inl u5), (6, .inl v6)]) (st' := [.inl v2, .inl (m_rd h2 334 32)]) (h' := h2) (cs := [GK h2 334 12]) (by decide +kernel) rfl ⟨(o_334 hL).gk, trivial⟩) ?_
      rcases it_of hF with ⟨hb, hF⟩ | ⟨hb, hF⟩
      · refine RK.of (RN.ict (cd := .lt) (off := 6) (tgt := 94) (by decide +kernel) (mif_lt hb)) ?_
        refine RK.of (RN.blk (ops := [(94, .aload_n 0), (95, .getfield 408), (98, .istore_n 2), (99, .iload 5), (101, .istore_n 3), (102, .iload 6), (104, .istore 4)]) (pc' := 106) (lv' := [(4, .inl v6), (3, .inl u5), (2, .inl (m_rd h2 334 32)), (0, .inr (.inr 334)), (1, .inl u1), (5, .inl u5), (6, .inl v6)]) (st' := []) (h' := h2) (cs := [GK h2 334 12]) (by decide +kernel) rfl ⟨(o_334 hL).gk, trivial⟩) ?_
        refine RK.of (RN.blk (ops := [(106, .iinc 6 1)]) (pc' := 109) (lv' := [(6, .inl (m_w32 (v6 + 1))), (4, .inl v6), (3, .inl u5), (2, .inl (m_rd h2 334 32)), (0, .inr (.inr 334)), (1, .inl u1), (5, .inl u5)]) (st' := []) (h' := h2) (cs := []) (by decide +kernel) rfl trivial) ?_
        refine RK.of (RN.goto (off := -49) (tgt := 60) (by decide +kernel)) ?_
        exact RK.sub (ih _ _ _ _ _ hL hJ hF) (sub_cons rfl (sub_cons rfl (sub_cons rfl (sub_cons rfl (sub_cons rfl (sub_cons rfl (sub_cons rfl sub_nil)))))))
      · refine RK.of (RN.icf (cd := .lt) (off := 6) (tgt := 94) (by decide +kernel) (mif_ltn hb)) ?_
        refine RK.of (RN.goto (off := 15) (tgt := 106) (by decide +kernel)) ?_
        refine RK.of (RN.blk (ops := [(106, .iinc 6 1)]) (pc' := 109) (lv' := [(6, .inl (m_w32 (v6 + 1))), (0, .inr (.inr 334)), (1, .inl u1), (2, .inl v2), (3, .inl v3), (4, .inl v4), (5, .inl u5)]) (st' := []) (h' := h2) (cs := []) (by decide +kernel) rfl trivial) ?_
        refine RK.of (RN.goto (off := -49) (tgt := 60) (by decide +kernel)) ?_
        exact RK.sub (ih _ _ _ _ _ hL hJ hF) (sub_cons rfl (sub_cons rfl (sub_cons rfl (sub_cons rfl (sub_cons rfl (sub_cons rfl (sub_cons rfl sub_nil)))))))
    · refine RK.of (RN.ict (cd := .ge) (off := 44) (tgt := 112) (by decide +kernel) (mif_ge hb)) ?_
      exact RK.sub (hK0 _ _ _ _ hL hJ hF) (sub_cons rfl (sub_cons rfl (sub_cons rfl (sub_cons rfl (sub_cons rfl (sub_cons rfl sub_nil))))))
noncomputable def GX12_change_L43 (u1 : Int) (K0 : Int → Int → Int → MH → Option (Int × MH)) : Nat → Int → Int → Int → Int → MH → Option (Int × MH)
  | 0, _, _, _, _, _ => none
  | f + 1, v2, v3, v4, v5, h =>
    (if v5 < (m_rd h 344 3) then
     GX12_change_L60 u1 v5 (fun w1 w2 w3 h4 =>
      GX12_change_L43 u1 K0 f w1 w2 w3 (m_w32 (v5 + 1)) h4) FU v2 v3 v4 (m_w32 (v5 + 1)) h
    else
     K0 v2 v3 v4 h)
theorem DX12_change_L43 {d : Nat} {u1 : Int} {K0 : Int → Int → Int → MH → Option (Int × MH)} {r : Int × MH} {h0 hB : MH} (hB0 : KD h0 hB) (hK0 : ∀ (w2 : Int) (w3 : Int) (w4 : Int) (h : MH), LR h → KD hB h → K0 w2 w3 w4 h = some r → RK xs L iX12_change (d + 6) 118 [(1, .inl u1), (2, .inl w2), (3, .inl w3), (4, .inl w4)] [] h (RIo r) h0 r.2) : ∀ (f : Nat) (v2 : Int) (v3 : Int) (v4 : Int) (v5 : Int) (h : MH), LR h → KD hB h → GX12_change_L43 u1 K0 f v2 v3 v4 v5 h = some r → RK xs L iX12_change (d + 6) 43 [(0, .inr (.inr 334)), (1, .inl u1), (2, .inl v2), (3, .inl v3), (4, .inl v4), (5, .inl v5)] [] h (RIo r) h0 r.2 := by
  intro f
  induction f with
  | zero =>
    intro v2 v3 v4 v5 h hL hJ hF
    cases hF
  | succ f ih =>
    intro v2 v3 v4 v5 h hL hJ hF
    unfold GX12_change_L43 at hF
    have hK := hB0.tr hJ
    refine RK.of (RN.blk (ops := [(43, .iload 5), (45, .aload_n 0)]) (pc' := 46) (lv' := [(0, .inr (.inr 334)), (1, .inl u1), (2, .inl v2), (3, .inl v3), (4, .inl v4), (5, .inl v5)]) (st' := [.inr (.inr 334), .inl v5]) (h' := h) (cs := []) (by decide +kernel) rfl trivial) ?_
    refine RK.of (RN.gr (i := 39) (ci := 12) (k := 20) (fn := true) (v := 344) (by decide +kernel) rfl (TO.gk (o_334 hL)) (hL.fa (v := 344) 20 1 167 (o_334 hL) rfl (by decide) rfl (by decide)).1) ?_
    refine RK.of (RN.blk (ops := [(49, .iconst 3), (50, .iaload)]) (pc' := 51) (lv' := [(0, .inr (.inr 334)), (1, .inl u1), (2, .inl v2), (3, .inl v3), (4, .inl v4), (5, .inl v5)]) (st' := [.inl (m_rd h 344 3), .inl v5]) (h' := h) (cs := [GI h 344 1 3]) (by decide +kernel) rfl ⟨(a_344 hL).gi (by decide) (by decide), trivial⟩) ?_
    rcases it_of hF with ⟨hb, hF⟩ | ⟨hb, hF⟩
    · refine RK.of (RN.icf (cd := .ge) (off := 67) (tgt := 118) (by decide +kernel) (mif_gen hb)) ?_
      refine RK.of (RN.blk (ops := [(54, .iload 5), (56, .iconst 1), (57, .iadd), (58, .istore 6)]) (pc' := 60) (lv' := [(6, .inl (m_w32 (v5 + 1))), (0, .inr (.inr 334)), (1, .inl u1), (2, .inl v2), (3, .inl v3), (4, .inl v4), (5, .inl v5)]) (st' := []) (h' := h) (cs := []) (by decide +kernel) rfl trivial) ?_
      refine RK.sub (DX12_change_L60 hK ?_ _ _ _ _ _ _ hL KD.rf hF) (sub_cons rfl (sub_cons rfl (sub_cons rfl (sub_cons rfl (sub_cons rfl (sub_cons rfl (sub_cons rfl sub_nil)))))))
      · intro w1 w2 w3 h4 hL hq hF
        have hK := hK.tr hq
        have hJ := hJ.tr hq
        refine RK.of (RN.blk (ops := [(112, .iinc 5 1)]) (pc' := 115) (lv' := [(5, .inl (m_w32 (v5 + 1))), (0, .inr (.inr 334)), (1, .inl u1), (2, .inl w1), (3, .inl w2), (4, .inl w3)]) (st' := []) (h' := h4) (cs := []) (by decide +kernel) rfl trivial) ?_
        refine RK.of (RN.goto (off := -72) (tgt := 43) (by decide +kernel)) ?_
        exact RK.sub (ih _ _ _ _ _ hL hJ hF) (sub_cons rfl (sub_cons rfl (sub_cons rfl (sub_cons rfl (sub_cons rfl (sub_cons rfl sub_nil))))))
    · refine RK.of (RN.ict (cd := .ge) (off := 67) (tgt := 118) (by decide +kernel) (mif_ge hb)) ?_
      exact RK.sub (hK0 _ _ _ _ hL hJ hF) (sub_cons rfl (sub_cons rfl (sub_cons rfl (sub_cons rfl sub_nil))))
noncomputable def GX12_change (a1 : Int) (h : MH) : Option (Int × MH) :=
  (bd (GX12_isFrame h) (fun x2 h1 =>
   (if x2 = 0 then
    some ((-2), h1)
   else
    (bd (GX12_in a1 0 2 h1) (fun x4 h3 =>
     (if x4 = 0 then
      some ((-2), h3)
     else
      (bv (GX12_keeps h3) (fun h5 =>
       (bv (GX12_sortsAll h5) (fun h6 =>
        GX12_change_L43 a1 (fun w7 w8 w9 h10 =>
         (if a1 = 0 then
          some (w7, h10)
         else
          (if a1 = 1 then
           some (w8, h10)
          else
           some (w9, h10)))) FU (m_rd h6 334 32) (-1) (-1) 0 h6))))))))))
theorem DX12_change {d : Nat} {a1 : Int} {h : MH} {r : Int × MH} (hL : LR h) (hF : GX12_change a1 h = some r) : RN xs L iX12_change (d + 6) 0 (lvE 0 [.inr (.inr 334), .inl a1]) [] h (RIo r) ∧ LR r.2 ∧ KD h r.2 := by
  unfold GX12_change at hF
  have hK : KD h h := KD.rf
  show RK xs L iX12_change (d + 6) 0 (lvE 0 [.inr (.inr 334), .inl a1]) [] h (RIo r) h r.2
  refine RK.of (RN.blk (ops := [(0, .aload_n 0)]) (pc' := 1) (lv' := [(0, .inr (.inr 334)), (1, .inl a1)]) (st' := [.inr (.inr 334)]) (h' := h) (cs := []) (by decide +kernel) rfl trivial) ?_
  obtain ⟨x2, h1, hG, hF⟩ := bd_of hF
  have hq := rcv_ok (as := []) (TO.gk (o_334 hL))
  obtain ⟨hN, hL, hQ⟩ := DX12_isFrame (d := d + 5) hL  hG
  refine RK.of (RN.cv (i := 295) (k := 202) (q2 := iX12_isFrame) (as := [.inr (.inr 334)]) (r := []) (v := some (.inl x2)) (h1 := h1) (by decide +kernel) rfl rfl rfl rfl rfl hq hN) ?_
  have hK := hK.tr hQ
  rcases it_of hF with ⟨hb, hF⟩ | ⟨hb, hF⟩
  · refine RK.of (RN.ift (cd := .eq) (off := 15) (tgt := 19) (by decide +kernel) (mif_eq hb)) ?_
    refine RK.of (RN.blk (ops := [(19, .bipush (-2))]) (pc' := 21) (lv' := [(0, .inr (.inr 334)), (1, .inl a1)]) (st' := [.inl (-2)]) (h' := h1) (cs := []) (by decide +kernel) rfl trivial) ?_
    exact RK.iR (by decide +kernel) rfl hL hK hF
  · refine RK.of (RN.iff (cd := .eq) (off := 15) (tgt := 19) (by decide +kernel) (mif_eqn hb)) ?_
    refine RK.of (RN.blk (ops := [(7, .iload_n 1), (8, .i2l), (9, .lconst 0), (10, .ldc2_w 313)]) (pc' := 13) (lv' := [(0, .inr (.inr 334)), (1, .inl a1)]) (st' := [.inr (.inl 2), .inr (.inl 0), .inr (.inl a1)]) (h' := h1) (cs := []) (by decide +kernel) rfl trivial) ?_
    obtain ⟨x4, h3, hG, hF⟩ := bd_of hF
    obtain ⟨hN, hL, hQ⟩ := DX12_in (d := d + 5) hL  hG
    refine RK.of (RN.cst (i := 127) (k := 156) (q2 := iX12_in) (as := [.inr (.inl a1), .inr (.inl 0), .inr (.inl 2)]) (r := []) (v := some (.inl x4)) (h1 := h3) (by decide +kernel) rfl rfl rfl rfl rfl hN) ?_
    have hK := hK.tr hQ
    rcases it_of hF with ⟨hb, hF⟩ | ⟨hb, hF⟩
    · refine RK.of (RN.iff (cd := .ne) (off := 6) (tgt := 22) (by decide +kernel) (mif_nen hb)) ?_
      refine RK.of (RN.blk (ops := [(19, .bipush (-2))]) (pc' := 21) (lv' := [(0, .inr (.inr 334)), (1, .inl a1)]) (st' := [.inl (-2)]) (h' := h3) (cs := []) (by decide +kernel) rfl trivial) ?_
      exact RK.iR (by decide +kernel) rfl hL hK hF
    · refine RK.of (RN.ift (cd := .ne) (off := 6) (tgt := 22) (by decide +kernel) (mif_ne hb)) ?_
      refine RK.of (RN.blk (ops := [(22, .aload_n 0)]) (pc' := 23) (lv' := [(0, .inr (.inr 334)), (1, .inl a1)]) (st' := [.inr (.inr 334)]) (h' := h3) (cs := []) (by decide +kernel) rfl trivial) ?_
      obtain ⟨h5, hG, hF⟩ := bv_of hF
      have hq := rcv_ok (as := []) (TO.gk (o_334 hL))
      obtain ⟨hN, hL, hQ⟩ := DX12_keeps (d := d + 5) hL  hG
      refine RK.of (RN.cv (i := 422) (k := 253) (q2 := iX12_keeps) (as := [.inr (.inr 334)]) (r := []) (v := none) (h1 := h5) (by decide +kernel) rfl rfl rfl rfl rfl hq hN) ?_
      have hK := hK.tr hQ
      refine RK.of (RN.blk (ops := [(26, .aload_n 0)]) (pc' := 27) (lv' := [(0, .inr (.inr 334)), (1, .inl a1)]) (st' := [.inr (.inr 334)]) (h' := h5) (cs := []) (by decide +kernel) rfl trivial) ?_
      obtain ⟨h6, hG, hF⟩ := bv_of hF
      have hq := rcv_ok (as := []) (TO.gk (o_334 hL))
      obtain ⟨hN, hL, hQ⟩ := DX12_sortsAll (d := d) hL  hG
      refine RK.of (RN.cv (i := 417) (k := 255) (q2 := iX12_sortsAll) (as := [.inr (.inr 334)]) (r := []) (v := none) (h1 := h6) (by decide +kernel) rfl rfl rfl rfl rfl hq hN) ?_
      have hK := hK.tr hQ
      refine RK.of (RN.blk (ops := [(30, .aload_n 0), (31, .getfield 408), (34, .istore_n 2), (35, .iconst (-1)), (36, .istore_n 3), (37, .iconst (-1)), (38, .istore 4), (40, .iconst 0), (41, .istore 5)]) (pc' := 43) (lv' := [(5, .inl 0), (4, .inl (-1)), (3, .inl (-1)), (2, .inl (m_rd h6 334 32)), (0, .inr (.inr 334)), (1, .inl a1)]) (st' := []) (h' := h6) (cs := [GK h6 334 12]) (by decide +kernel) rfl ⟨(o_334 hL).gk, trivial⟩) ?_
      refine RK.sub (DX12_change_L43 hK ?_ _ _ _ _ _ _ hL KD.rf hF) (sub_cons rfl (sub_cons rfl (sub_cons rfl (sub_cons rfl (sub_cons rfl (sub_cons rfl sub_nil))))))
      · intro w7 w8 w9 h10 hL hq hF
        have hK := hK.tr hq
        refine RK.of (RN.blk (ops := [(118, .iload_n 1)]) (pc' := 119) (lv' := [(1, .inl a1), (2, .inl w7), (3, .inl w8), (4, .inl w9)]) (st' := [.inl a1]) (h' := h10) (cs := []) (by decide +kernel) rfl trivial) ?_
        rcases it_of hF with ⟨hb, hF⟩ | ⟨hb, hF⟩
        · refine RK.of (RN.iff (cd := .ne) (off := 7) (tgt := 126) (by decide +kernel) (mif_nen hb)) ?_
          refine RK.of (RN.blk (ops := [(122, .iload_n 2)]) (pc' := 123) (lv' := [(1, .inl a1), (2, .inl w7), (3, .inl w8), (4, .inl w9)]) (st' := [.inl w7]) (h' := h10) (cs := []) (by decide +kernel) rfl trivial) ?_
          refine RK.of (RN.goto (off := 14) (tgt := 137) (by decide +kernel)) ?_
          exact RK.iR (by decide +kernel) rfl hL hK hF
        · refine RK.of (RN.ift (cd := .ne) (off := 7) (tgt := 126) (by decide +kernel) (mif_ne hb)) ?_
          refine RK.of (RN.blk (ops := [(126, .iload_n 1), (127, .iconst 1)]) (pc' := 128) (lv' := [(1, .inl a1), (2, .inl w7), (3, .inl w8), (4, .inl w9)]) (st' := [.inl 1, .inl a1]) (h' := h10) (cs := []) (by decide +kernel) rfl trivial) ?_
          rcases it_of hF with ⟨hb, hF⟩ | ⟨hb, hF⟩
          · refine RK.of (RN.icf (cd := .ne) (off := 7) (tgt := 135) (by decide +kernel) (mif_nen hb)) ?_
            refine RK.of (RN.blk (ops := [(131, .iload_n 3)]) (pc' := 132) (lv' := [(1, .inl a1), (2, .inl w7), (3, .inl w8), (4, .inl w9)]) (st' := [.inl w8]) (h' := h10) (cs := []) (by decide +kernel) rfl trivial) ?_
            refine RK.of (RN.goto (off := 5) (tgt := 137) (by decide +kernel)) ?_
            exact RK.iR (by decide +kernel) rfl hL hK hF
          · refine RK.of (RN.ict (cd := .ne) (off := 7) (tgt := 135) (by decide +kernel) (mif_ne hb)) ?_
            refine RK.of (RN.blk (ops := [(135, .iload 4)]) (pc' := 137) (lv' := [(1, .inl a1), (2, .inl w7), (3, .inl w8), (4, .inl w9)]) (st' := [.inl w9]) (h' := h10) (cs := []) (by decide +kernel) rfl trivial) ?_
            exact RK.iR (by decide +kernel) rfl hL hK hF
noncomputable def GX12_ahead (a1 : Int) (a2 : Int) (a3 : Int) (h : MH) : Option (Int × MH) :=
  (bd (GX12_isFrame h) (fun x2 h1 =>
   (if x2 = 0 then
    some ((-1), h1)
   else
    (bd (GX12_in a2 0 100 h1) (fun x4 h3 =>
     (if x4 = 0 then
      some ((-1), h3)
     else
      (bd (GX12_in a3 0 3 h3) (fun x6 h5 =>
       (if x6 = 0 then
        some ((-1), h5)
       else
        jn (fun (h8 : MH) =>
         (bv (GX12_keeps h8) (fun h9 =>
          (bv (GX12_passesAll a2 h9) (fun h10 =>
           jn (fun (s12 : Int) (h13 : MH) =>
            (bv (GX12_laysBack h13) (fun h14 =>
             some (s12, h14)))) (fun j11 =>
            (if a3 = 0 then
             gd [IB (m_w32 (14 + a1)) 167] (
              j11 (m_rd h10 344 (m_w32 (14 + a1))) h10)
            else
             (if a3 = 1 then
              j11 (m_rd h10 344 12) h10
             else
              (if a3 = 2 then
               (bd (GX12_sumOver 20 h10) (fun x16 h15 =>
                j11 x16 h15))
              else
               j11 (m_rd h10 344 11) h10))))))))) (fun j7 =>
         (if a3 = 0 then
          (bd (GX12_isHole a1 h5) (fun x18 h17 =>
           (if x18 = 0 then
            some ((-1), h17)
           else
            j7 h17)))
         else
          j7 h5)))))))))))
theorem DX12_ahead {d : Nat} {a1 : Int} {a2 : Int} {a3 : Int} {h : MH} {r : Int × MH} (hL : LR h) (hF : GX12_ahead a1 a2 a3 h = some r) : RN xs L iX12_ahead (d + 8) 0 (lvE 0 [.inr (.inr 334), .inl a1, .inl a2, .inl a3]) [] h (RIo r) ∧ LR r.2 ∧ KD h r.2 := by
  unfold GX12_ahead at hF
  have hK : KD h h := KD.rf
  show RK xs L iX12_ahead (d + 8) 0 (lvE 0 [.inr (.inr 334), .inl a1, .inl a2, .inl a3]) [] h (RIo r) h r.2
  refine RK.of (RN.blk (ops := [(0, .aload_n 0)]) (pc' := 1) (lv' := [(0, .inr (.inr 334)), (1, .inl a1), (2, .inl a2), (3, .inl a3)]) (st' := [.inr (.inr 334)]) (h' := h) (cs := []) (by decide +kernel) rfl trivial) ?_
  obtain ⟨x2, h1, hG, hF⟩ := bd_of hF
  have hq := rcv_ok (as := []) (TO.gk (o_334 hL))
  obtain ⟨hN, hL, hQ⟩ := DX12_isFrame (d := d + 7) hL  hG
  refine RK.of (RN.cv (i := 295) (k := 202) (q2 := iX12_isFrame) (as := [.inr (.inr 334)]) (r := []) (v := some (.inl x2)) (h1 := h1) (by decide +kernel) rfl rfl rfl rfl rfl hq hN) ?_
  have hK := hK.tr hQ
  rcases it_of hF with ⟨hb, hF⟩ | ⟨hb, hF⟩
  · refine RK.of (RN.ift (cd := .eq) (off := 39) (tgt := 43) (by decide +kernel) (mif_eq hb)) ?_
    refine RK.of (RN.blk (ops := [(43, .iconst (-1))]) (pc' := 44) (lv' := [(0, .inr (.inr 334)), (1, .inl a1), (2, .inl a2), (3, .inl a3)]) (st' := [.inl (-1)]) (h' := h1) (cs := []) (by decide +kernel) rfl trivial) ?_
    exact RK.iR (by decide +kernel) rfl hL hK hF
  · refine RK.of (RN.iff (cd := .eq) (off := 39) (tgt := 43) (by decide +kernel) (mif_eqn hb)) ?_
    refine RK.of (RN.blk (ops := [(7, .iload_n 2), (8, .i2l), (9, .lconst 0), (10, .ldc2_w 432)]) (pc' := 13) (lv' := [(0, .inr (.inr 334)), (1, .inl a1), (2, .inl a2), (3, .inl a3)]) (st' := [.inr (.inl 100), .inr (.inl 0), .inr (.inl a2)]) (h' := h1) (cs := []) (by decide +kernel) rfl trivial) ?_
    obtain ⟨x4, h3, hG, hF⟩ := bd_of hF
    obtain ⟨hN, hL, hQ⟩ := DX12_in (d := d + 7) hL  hG
    refine RK.of (RN.cst (i := 127) (k := 156) (q2 := iX12_in) (as := [.inr (.inl a2), .inr (.inl 0), .inr (.inl 100)]) (r := []) (v := some (.inl x4)) (h1 := h3) (by decide +kernel) rfl rfl rfl rfl rfl hN) ?_
    have hK := hK.tr hQ
    rcases it_of hF with ⟨hb, hF⟩ | ⟨hb, hF⟩
    · refine RK.of (RN.ift (cd := .eq) (off := 27) (tgt := 43) (by decide +kernel) (mif_eq hb)) ?_
      refine RK.of (RN.blk (ops := [(43, .iconst (-1))]) (pc' := 44) (lv' := [(0, .inr (.inr 334)), (1, .inl a1), (2, .inl a2), (3, .inl a3)]) (st' := [.inl (-1)]) (h' := h3) (cs := []) (by decide +kernel) rfl trivial) ?_
      exact RK.iR (by decide +kernel) rfl hL hK hF
    · refine RK.of (RN.iff (cd := .eq) (off := 27) (tgt := 43) (by decide +kernel) (mif_eqn hb)) ?_
      refine RK.of (RN.blk (ops := [(19, .iload_n 3), (20, .i2l), (21, .lconst 0), (22, .ldc2_w 434)]) (pc' := 25) (lv' := [(0, .inr (.inr 334)), (1, .inl a1), (2, .inl a2), (3, .inl a3)]) (st' := [.inr (.inl 3), .inr (.inl 0), .inr (.inl a3)]) (h' := h3) (cs := []) (by decide +kernel) rfl trivial) ?_
      obtain ⟨x6, h5, hG, hF⟩ := bd_of hF
      obtain ⟨hN, hL, hQ⟩ := DX12_in (d := d + 7) hL  hG
      refine RK.of (RN.cst (i := 127) (k := 156) (q2 := iX12_in) (as := [.inr (.inl a3), .inr (.inl 0), .inr (.inl 3)]) (r := []) (v := some (.inl x6)) (h1 := h5) (by decide +kernel) rfl rfl rfl rfl rfl hN) ?_
      have hK := hK.tr hQ
      rcases it_of hF with ⟨hb, hF⟩ | ⟨hb, hF⟩
      · refine RK.of (RN.ift (cd := .eq) (off := 15) (tgt := 43) (by decide +kernel) (mif_eq hb)) ?_
        refine RK.of (RN.blk (ops := [(43, .iconst (-1))]) (pc' := 44) (lv' := [(0, .inr (.inr 334)), (1, .inl a1), (2, .inl a2), (3, .inl a3)]) (st' := [.inl (-1)]) (h' := h5) (cs := []) (by decide +kernel) rfl trivial) ?_
        exact RK.iR (by decide +kernel) rfl hL hK hF
      · refine RK.of (RN.iff (cd := .eq) (off := 15) (tgt := 43) (by decide +kernel) (mif_eqn hb)) ?_
        refine RK.of (RN.blk (ops := [(31, .iload_n 3)]) (pc' := 32) (lv' := [(0, .inr (.inr 334)), (1, .inl a1), (2, .inl a2), (3, .inl a3)]) (st' := [.inl a3]) (h' := h5) (cs := []) (by decide +kernel) rfl trivial) ?_
        refine jn_use (fun j7 => ∀ (h8 : MH), LR h8 → KD h h8 → j7 h8 = some r → RK xs L iX12_ahead (d + 8) 45 [(0, .inr (.inr 334)), (1, .inl a1), (2, .inl a2), (3, .inl a3)] [] h8 (RIo r) h r.2) ?_ ?_ hF
        · intro h8 hL hK hF
          refine RK.of (RN.blk (ops := [(45, .aload_n 0)]) (pc' := 46) (lv' := [(0, .inr (.inr 334)), (1, .inl a1), (2, .inl a2), (3, .inl a3)]) (st' := [.inr (.inr 334)]) (h' := h8) (cs := []) (by decide +kernel) rfl trivial) ?_
          obtain ⟨h9, hG, hF⟩ := bv_of hF
          have hq := rcv_ok (as := []) (TO.gk (o_334 hL))
          obtain ⟨hN, hL, hQ⟩ := DX12_keeps (d := d + 7) hL  hG
          refine RK.of (RN.cv (i := 422) (k := 253) (q2 := iX12_keeps) (as := [.inr (.inr 334)]) (r := []) (v := none) (h1 := h9) (by decide +kernel) rfl rfl rfl rfl rfl hq hN) ?_
          have hK := hK.tr hQ
          refine RK.of (RN.blk (ops := [(49, .aload_n 0), (50, .iload_n 2)]) (pc' := 51) (lv' := [(0, .inr (.inr 334)), (1, .inl a1), (2, .inl a2), (3, .inl a3)]) (st' := [.inl a2, .inr (.inr 334)]) (h' := h9) (cs := []) (by decide +kernel) rfl trivial) ?_
          obtain ⟨h10, hG, hF⟩ := bv_of hF
          have hq := rcv_ok (as := [.inl a2]) (TO.gk (o_334 hL))
          obtain ⟨hN, hL, hQ⟩ := DX12_passesAll (d := d) hL  hG
          refine RK.of (RN.cv (i := 436) (k := 223) (q2 := iX12_passesAll) (as := [.inr (.inr 334), .inl a2]) (r := []) (v := none) (h1 := h10) (by decide +kernel) rfl rfl rfl rfl rfl hq hN) ?_
          have hK := hK.tr hQ
          refine RK.of (RN.blk (ops := [(54, .iload_n 3)]) (pc' := 55) (lv' := [(0, .inr (.inr 334)), (1, .inl a1), (2, .inl a2), (3, .inl a3)]) (st' := [.inl a3]) (h' := h10) (cs := []) (by decide +kernel) rfl trivial) ?_
          refine jn_use (fun j11 => ∀ (s12 : Int) (h13 : MH), LR h13 → KD h h13 → j11 s12 h13 = some r → RK xs L iX12_ahead (d + 8) 106 [(0, .inr (.inr 334))] [.inl s12] h13 (RIo r) h r.2) ?_ ?_ hF
          · intro s12 h13 hL hK hF
            refine RK.of (RN.blk (ops := [(106, .istore 4), (108, .aload_n 0)]) (pc' := 109) (lv' := [(4, .inl s12), (0, .inr (.inr 334))]) (st' := [.inr (.inr 334)]) (h' := h13) (cs := []) (by decide +kernel) rfl trivial) ?_
            obtain ⟨h14, hG, hF⟩ := bv_of hF
            have hq := rcv_ok (as := []) (TO.gk (o_334 hL))
            obtain ⟨hN, hL, hQ⟩ := DX12_laysBack (d := d + 7) hL  hG
            refine RK.of (RN.cv (i := 414) (k := 254) (q2 := iX12_laysBack) (as := [.inr (.inr 334)]) (r := []) (v := none) (h1 := h14) (by decide +kernel) rfl rfl rfl rfl rfl hq hN) ?_
            have hK := hK.tr hQ
            refine RK.of (RN.blk (ops := [(112, .iload 4)]) (pc' := 114) (lv' := [(4, .inl s12), (0, .inr (.inr 334))]) (st' := [.inl s12]) (h' := h14) (cs := []) (by decide +kernel) rfl trivial) ?_
            exact RK.iR (by decide +kernel) rfl hL hK hF
          · intro j11 Jj11 hF
            rcases it_of hF with ⟨hb, hF⟩ | ⟨hb, hF⟩
            · refine RK.of (RN.iff (cd := .ne) (off := 15) (tgt := 70) (by decide +kernel) (mif_nen hb)) ?_
              refine RK.of (RN.blk (ops := [(58, .aload_n 0)]) (pc' := 59) (lv' := [(0, .inr (.inr 334)), (1, .inl a1), (2, .inl a2), (3, .inl a3)]) (st' := [.inr (.inr 334)]) (h' := h10) (cs := []) (by decide +kernel) rfl trivial) ?_
              refine RK.of (RN.gr (i := 39) (ci := 12) (k := 20) (fn := true) (v := 344) (by decide +kernel) rfl (TO.gk (o_334 hL)) (hL.fa (v := 344) 20 1 167 (o_334 hL) rfl (by decide) rfl (by decide)).1) ?_
              obtain ⟨hc, hF⟩ := gd_of hF
              refine RK.of (RN.blk (ops := [(62, .bipush 14), (64, .iload_n 1), (65, .iadd), (66, .iaload)]) (pc' := 67) (lv' := [(0, .inr (.inr 334)), (1, .inl a1), (2, .inl a2), (3, .inl a3)]) (st' := [.inl (m_rd h10 344 (m_w32 (14 + a1)))]) (h' := h10) (cs := [GI h10 344 1 (m_w32 (14 + a1))]) (by decide +kernel) rfl ⟨(a_344 hL).gi hc.1.1 hc.1.2, trivial⟩) ?_
              refine RK.of (RN.goto (off := 39) (tgt := 106) (by decide +kernel)) ?_
              exact RK.sub (Jj11 _ _ hL hK hF) (sub_cons rfl sub_nil)
            · refine RK.of (RN.ift (cd := .ne) (off := 15) (tgt := 70) (by decide +kernel) (mif_ne hb)) ?_
              refine RK.of (RN.blk (ops := [(70, .iload_n 3), (71, .iconst 1)]) (pc' := 72) (lv' := [(0, .inr (.inr 334)), (1, .inl a1), (2, .inl a2), (3, .inl a3)]) (st' := [.inl 1, .inl a3]) (h' := h10) (cs := []) (by decide +kernel) rfl trivial) ?_
              rcases it_of hF with ⟨hb, hF⟩ | ⟨hb, hF⟩
              · refine RK.of (RN.icf (cd := .ne) (off := 13) (tgt := 85) (by decide +kernel) (mif_nen hb)) ?_
                refine RK.of (RN.blk (ops := [(75, .aload_n 0)]) (pc' := 76) (lv' := [(0, .inr (.inr 334)), (1, .inl a1), (2, .inl a2), (3, .inl a3)]) (st' := [.inr (.inr 334)]) (h' := h10) (cs := []) (by decide +kernel) rfl trivial) ?_
                refine RK.of (RN.gr (i := 39) (ci := 12) (k := 20) (fn := true) (v := 344) (by decide +kernel) rfl (TO.gk (o_334 hL)) (hL.fa (v := 344) 20 1 167 (o_334 hL) rfl (by decide) rfl (by decide)).1) ?_
                refine RK.of (RN.blk (ops := [(79, .bipush 12), (81, .iaload)]) (pc' := 82) (lv' := [(0, .inr (.inr 334)), (1, .inl a1), (2, .inl a2), (3, .inl a3)]) (st' := [.inl (m_rd h10 344 12)]) (h' := h10) (cs := [GI h10 344 1 12]) (by decide +kernel) rfl ⟨(a_344 hL).gi (by decide) (by decide), trivial⟩) ?_
                refine RK.of (RN.goto (off := 24) (tgt := 106) (by decide +kernel)) ?_
                exact RK.sub (Jj11 _ _ hL hK hF) (sub_cons rfl sub_nil)
              · refine RK.of (RN.ict (cd := .ne) (off := 13) (tgt := 85) (by decide +kernel) (mif_ne hb)) ?_
                refine RK.of (RN.blk (ops := [(85, .iload_n 3), (86, .iconst 2)]) (pc' := 87) (lv' := [(0, .inr (.inr 334)), (1, .inl a1), (2, .inl a2), (3, .inl a3)]) (st' := [.inl 2, .inl a3]) (h' := h10) (cs := []) (by decide +kernel) rfl trivial) ?_
                rcases it_of hF with ⟨hb, hF⟩ | ⟨hb, hF⟩
                · refine RK.of (RN.icf (cd := .ne) (off := 12) (tgt := 99) (by decide +kernel) (mif_nen hb)) ?_
                  refine RK.of (RN.blk (ops := [(90, .aload_n 0), (91, .bipush 20)]) (pc' := 93) (lv' := [(0, .inr (.inr 334)), (1, .inl a1), (2, .inl a2), (3, .inl a3)]) (st' := [.inl 20, .inr (.inr 334)]) (h' := h10) (cs := []) (by decide +kernel) rfl trivial) ?_
                  obtain ⟨x16, h15, hG, hF⟩ := bd_of hF
                  have hq := rcv_ok (as := [.inl 20]) (TO.gk (o_334 hL))
                  obtain ⟨hN, hL, hQ⟩ := DX12_sumOver (d := d + 7) hL  hG
                  refine RK.of (RN.cv (i := 325) (k := 210) (q2 := iX12_sumOver) (as := [.inr (.inr 334), .inl 20]) (r := []) (v := some (.inl x16)) (h1 := h15) (by decide +kernel) rfl rfl rfl rfl rfl hq hN) ?_
                  have hK := hK.tr hQ
                  refine RK.of (RN.goto (off := 10) (tgt := 106) (by decide +kernel)) ?_
                  exact RK.sub (Jj11 _ _ hL hK hF) (sub_cons rfl sub_nil)
                · refine RK.of (RN.ict (cd := .ne) (off := 12) (tgt := 99) (by decide +kernel) (mif_ne hb)) ?_
                  refine RK.of (RN.blk (ops := [(99, .aload_n 0)]) (pc' := 100) (lv' := [(0, .inr (.inr 334)), (1, .inl a1), (2, .inl a2), (3, .inl a3)]) (st' := [.inr (.inr 334)]) (h' := h10) (cs := []) (by decide +kernel) rfl trivial) ?_
                  refine RK.of (RN.gr (i := 39) (ci := 12) (k := 20) (fn := true) (v := 344) (by decide +kernel) rfl (TO.gk (o_334 hL)) (hL.fa (v := 344) 20 1 167 (o_334 hL) rfl (by decide) rfl (by decide)).1) ?_
                  refine RK.of (RN.blk (ops := [(103, .bipush 11), (105, .iaload)]) (pc' := 106) (lv' := [(0, .inr (.inr 334)), (1, .inl a1), (2, .inl a2), (3, .inl a3)]) (st' := [.inl (m_rd h10 344 11)]) (h' := h10) (cs := [GI h10 344 1 11]) (by decide +kernel) rfl ⟨(a_344 hL).gi (by decide) (by decide), trivial⟩) ?_
                  exact RK.sub (Jj11 _ _ hL hK hF) (sub_cons rfl sub_nil)
        · intro j7 Jj7 hF
          rcases it_of hF with ⟨hb, hF⟩ | ⟨hb, hF⟩
          · refine RK.of (RN.iff (cd := .ne) (off := 13) (tgt := 45) (by decide +kernel) (mif_nen hb)) ?_
            refine RK.of (RN.blk (ops := [(35, .aload_n 0), (36, .iload_n 1)]) (pc' := 37) (lv' := [(0, .inr (.inr 334)), (1, .inl a1), (2, .inl a2), (3, .inl a3)]) (st' := [.inl a1, .inr (.inr 334)]) (h' := h5) (cs := []) (by decide +kernel) rfl trivial) ?_
            obtain ⟨x18, h17, hG, hF⟩ := bd_of hF
            have hq := rcv_ok (as := [.inl a1]) (TO.gk (o_334 hL))
            obtain ⟨hN, hL, hQ⟩ := DX12_isHole (d := d + 7) hL  hG
            refine RK.of (RN.cv (i := 310) (k := 204) (q2 := iX12_isHole) (as := [.inr (.inr 334), .inl a1]) (r := []) (v := some (.inl x18)) (h1 := h17) (by decide +kernel) rfl rfl rfl rfl rfl hq hN) ?_
            have hK := hK.tr hQ
            rcases it_of hF with ⟨hb, hF⟩ | ⟨hb, hF⟩
            · refine RK.of (RN.iff (cd := .ne) (off := 5) (tgt := 45) (by decide +kernel) (mif_nen hb)) ?_
              refine RK.of (RN.blk (ops := [(43, .iconst (-1))]) (pc' := 44) (lv' := [(0, .inr (.inr 334)), (1, .inl a1), (2, .inl a2), (3, .inl a3)]) (st' := [.inl (-1)]) (h' := h17) (cs := []) (by decide +kernel) rfl trivial) ?_
              exact RK.iR (by decide +kernel) rfl hL hK hF
            · refine RK.of (RN.ift (cd := .ne) (off := 5) (tgt := 45) (by decide +kernel) (mif_ne hb)) ?_
              exact RK.sub (Jj7 _ hL hK hF) (sub_cons rfl (sub_cons rfl (sub_cons rfl (sub_cons rfl sub_nil))))
          · refine RK.of (RN.ift (cd := .ne) (off := 13) (tgt := 45) (by decide +kernel) (mif_ne hb)) ?_
            exact RK.sub (Jj7 _ hL hK hF) (sub_cons rfl (sub_cons rfl (sub_cons rfl (sub_cons rfl sub_nil))))
end Gc
