/-! METHODS AS FUNCTIONS, references resolved (by program): X12_digitOf, X12_canMean, X12_may, X12_areLike, X12_isEnough, X12_fillsGoes, X12_read, X12_codes, X12_slipsOf, X12_slips, X12_worst, X12_idle, X12_needsOfCodes, X12_needBelow -/
section Gc
variable {xs : Int → Int} {L : Int}
noncomputable def GX12_digitOf (a1 : Int) (a2 : Int) (h : MH) : Option (Int × MH) :=
  (bd (GX12_power (m_rd h 344 1) (m_w32 ((m_w32 ((m_rd h 344 2) - 1)) - a2)) h) (fun x2 h1 =>
   gd [(x2 : Int) ≠ 0] (
    gd [((m_rd h1 344 1) : Int) ≠ 0] (
     some ((Int.tmod (m_w32 (Int.tdiv a1 x2)) (m_rd h1 344 1)), h1)))))
theorem DX12_digitOf {d : Nat} {a1 : Int} {a2 : Int} {h : MH} {r : Int × MH} (hL : LR h) (hF : GX12_digitOf a1 a2 h = some r) : RN xs L iX12_digitOf (d + 1) 0 (lvE 0 [.inr (.inr 334), .inl a1, .inl a2]) [] h (RIo r) ∧ LR r.2 ∧ KD h r.2 := by
  unfold GX12_digitOf at hF
  have hK : KD h h := KD.rf
  show RK xs L iX12_digitOf (d + 1) 0 (lvE 0 [.inr (.inr 334), .inl a1, .inl a2]) [] h (RIo r) h r.2
  refine RK.of (RN.blk (ops := [(0, .iload_n 1), (1, .aload_n 0)]) (pc' := 2) (lv' := [(0, .inr (.inr 334)), (1, .inl a1), (2, .inl a2)]) (st' := [.inr (.inr 334), .inl a1]) (h' := h) (cs := []) (by decide +kernel) rfl trivial) ?_
  refine RK.of (RN.gr (i := 39) (ci := 12) (k := 20) (fn := true) (v := 344) (by decide +kernel) rfl (TO.gk (o_334 hL)) (hL.fa (v := 344) 20 1 167 (o_334 hL) rfl (by decide) rfl (by decide)).1) ?_
  refine RK.of (RN.blk (ops := [(5, .iconst 1), (6, .iaload), (7, .aload_n 0)]) (pc' := 8) (lv' := [(0, .inr (.inr 334)), (1, .inl a1), (2, .inl a2)]) (st' := [.inr (.inr 334), .inl (m_rd h 344 1), .inl a1]) (h' := h) (cs := [GI h 344 1 1]) (by decide +kernel) rfl ⟨(a_344 hL).gi (by decide) (by decide), trivial⟩) ?_
  refine RK.of (RN.gr (i := 39) (ci := 12) (k := 20) (fn := true) (v := 344) (by decide +kernel) rfl (TO.gk (o_334 hL)) (hL.fa (v := 344) 20 1 167 (o_334 hL) rfl (by decide) rfl (by decide)).1) ?_
  refine RK.of (RN.blk (ops := [(11, .iconst 2), (12, .iaload), (13, .iconst 1), (14, .isub), (15, .iload_n 2), (16, .isub)]) (pc' := 17) (lv' := [(0, .inr (.inr 334)), (1, .inl a1), (2, .inl a2)]) (st' := [.inl (m_w32 ((m_w32 ((m_rd h 344 2) - 1)) - a2)), .inl (m_rd h 344 1), .inl a1]) (h' := h) (cs := [GI h 344 1 2]) (by decide +kernel) rfl ⟨(a_344 hL).gi (by decide) (by decide), trivial⟩) ?_
  obtain ⟨x2, h1, hG, hF⟩ := bd_of hF
  obtain ⟨hN, hL, hQ⟩ := DX12_power (d := d) hL  hG
  refine RK.of (RN.cst (i := 229) (k := 159) (q2 := iX12_power) (as := [.inl (m_rd h 344 1), .inl (m_w32 ((m_w32 ((m_rd h 344 2) - 1)) - a2))]) (r := [.inl a1]) (v := some (.inl x2)) (h1 := h1) (by decide +kernel) rfl rfl rfl rfl rfl hN) ?_
  have hK := hK.tr hQ
  obtain ⟨hc, hF⟩ := gd_of hF
  refine RK.of (RN.blk (ops := [(20, .idiv), (21, .aload_n 0)]) (pc' := 22) (lv' := [(0, .inr (.inr 334)), (1, .inl a1), (2, .inl a2)]) (st' := [.inr (.inr 334), .inl (m_w32 (Int.tdiv a1 x2))]) (h' := h1) (cs := [(x2 : Int) ≠ 0]) (by decide +kernel) rfl ⟨hc.1, trivial⟩) ?_
  refine RK.of (RN.gr (i := 39) (ci := 12) (k := 20) (fn := true) (v := 344) (by decide +kernel) rfl (TO.gk (o_334 hL)) (hL.fa (v := 344) 20 1 167 (o_334 hL) rfl (by decide) rfl (by decide)).1) ?_
  obtain ⟨hc, hF⟩ := gd_of hF
  refine RK.of (RN.blk (ops := [(25, .iconst 1), (26, .iaload), (27, .irem)]) (pc' := 28) (lv' := [(0, .inr (.inr 334)), (1, .inl a1), (2, .inl a2)]) (st' := [.inl (Int.tmod (m_w32 (Int.tdiv a1 x2)) (m_rd h1 344 1))]) (h' := h1) (cs := [GI h1 344 1 1, ((m_rd h1 344 1) : Int) ≠ 0]) (by decide +kernel) rfl ⟨(a_344 hL).gi (by decide) (by decide), hc.1, trivial⟩) ?_
  exact RK.iR (by decide +kernel) rfl hL hK hF
noncomputable def GX12_canMean_L2 (u1 : Int) (K0 : MH → Option (Int × MH)) (K1 : MH → Option (Int × MH)) : Nat → Int → MH → Option (Int × MH)
  | 0, _, _ => none
  | f + 1, v2, h =>
    (if v2 < (m_rd h 344 2) then
     gd [IB v2 4] (
      (if (m_rd h 346 v2) = 9 then
       GX12_canMean_L2 u1 K0 K1 f (m_w32 (v2 + 1)) h
      else
       gd [IB v2 4] (
        (bd (GX12_digitOf u1 v2 h) (fun x2 h1 =>
         (if (m_rd h 346 v2) = x2 then
          GX12_canMean_L2 u1 K0 K1 f (m_w32 (v2 + 1)) h1
         else
          K0 h1))))))
    else
     K1 h)
theorem DX12_canMean_L2 {d : Nat} {u1 : Int} {K0 : MH → Option (Int × MH)} {K1 : MH → Option (Int × MH)} {r : Int × MH} {h0 hB : MH} (hB0 : KD h0 hB) (hK0 : ∀ (h : MH), LR h → KD hB h → K0 h = some r → RK xs L iX12_canMean (d + 2) 38 [] [] h (RIo r) h0 r.2) (hK1 : ∀ (h : MH), LR h → KD hB h → K1 h = some r → RK xs L iX12_canMean (d + 2) 46 [] [] h (RIo r) h0 r.2) : ∀ (f : Nat) (v2 : Int) (h : MH), LR h → KD hB h → GX12_canMean_L2 u1 K0 K1 f v2 h = some r → RK xs L iX12_canMean (d + 2) 2 [(0, .inr (.inr 334)), (1, .inl u1), (2, .inl v2)] [] h (RIo r) h0 r.2 := by
  intro f
  induction f with
  | zero =>
    intro v2 h hL hJ hF
    cases hF
  | succ f ih =>
    intro v2 h hL hJ hF
    unfold GX12_canMean_L2 at hF
    have hK := hB0.tr hJ
    refine RK.of (RN.blk (ops := [(2, .iload_n 2), (3, .aload_n 0)]) (pc' := 4) (lv' := [(0, .inr (.inr 334)), (1, .inl u1), (2, .inl v2)]) (st' := [.inr (.inr 334), .inl v2]) (h' := h) (cs := []) (by decide +kernel) rfl trivial) ?_
    refine RK.of (RN.gr (i := 39) (ci := 12) (k := 20) (fn := true) (v := 344) (by decide +kernel) rfl (TO.gk (o_334 hL)) (hL.fa (v := 344) 20 1 167 (o_334 hL) rfl (by decide) rfl (by decide)).1) ?_
    refine RK.of (RN.blk (ops := [(7, .iconst 2), (8, .iaload)]) (pc' := 9) (lv' := [(0, .inr (.inr 334)), (1, .inl u1), (2, .inl v2)]) (st' := [.inl (m_rd h 344 2), .inl v2]) (h' := h) (cs := [GI h 344 1 2]) (by decide +kernel) rfl ⟨(a_344 hL).gi (by decide) (by decide), trivial⟩) ?_
    rcases it_of hF with ⟨hb, hF⟩ | ⟨hb, hF⟩
    · refine RK.of (RN.icf (cd := .ge) (off := 37) (tgt := 46) (by decide +kernel) (mif_gen hb)) ?_
      refine RK.of (RN.blk (ops := [(12, .aload_n 0)]) (pc' := 13) (lv' := [(0, .inr (.inr 334)), (1, .inl u1), (2, .inl v2)]) (st' := [.inr (.inr 334)]) (h' := h) (cs := []) (by decide +kernel) rfl trivial) ?_
      refine RK.of (RN.gr (i := 49) (ci := 12) (k := 26) (fn := true) (v := 346) (by decide +kernel) rfl (TO.gk (o_334 hL)) (hL.fa (v := 346) 26 1 4 (o_334 hL) rfl (by decide) rfl (by decide)).1) ?_
      obtain ⟨hc, hF⟩ := gd_of hF
      refine RK.of (RN.blk (ops := [(16, .iload_n 2), (17, .iaload), (18, .bipush 9)]) (pc' := 20) (lv' := [(0, .inr (.inr 334)), (1, .inl u1), (2, .inl v2)]) (st' := [.inl 9, .inl (m_rd h 346 v2)]) (h' := h) (cs := [GI h 346 1 v2]) (by decide +kernel) rfl ⟨(a_346 hL).gi hc.1.1 hc.1.2, trivial⟩) ?_
      rcases it_of hF with ⟨hb, hF⟩ | ⟨hb, hF⟩
      · refine RK.of (RN.ict (cd := .eq) (off := 20) (tgt := 40) (by decide +kernel) (mif_eq hb)) ?_
        refine RK.of (RN.blk (ops := [(40, .iinc 2 1)]) (pc' := 43) (lv' := [(2, .inl (m_w32 (v2 + 1))), (0, .inr (.inr 334)), (1, .inl u1)]) (st' := []) (h' := h) (cs := []) (by decide +kernel) rfl trivial) ?_
        refine RK.of (RN.goto (off := -41) (tgt := 2) (by decide +kernel)) ?_
        exact RK.sub (ih _ _ hL hJ hF) (sub_cons rfl (sub_cons rfl (sub_cons rfl sub_nil)))
      · refine RK.of (RN.icf (cd := .eq) (off := 20) (tgt := 40) (by decide +kernel) (mif_eqn hb)) ?_
        refine RK.of (RN.blk (ops := [(23, .aload_n 0)]) (pc' := 24) (lv' := [(0, .inr (.inr 334)), (1, .inl u1), (2, .inl v2)]) (st' := [.inr (.inr 334)]) (h' := h) (cs := []) (by decide +kernel) rfl trivial) ?_
        refine RK.of (RN.gr (i := 49) (ci := 12) (k := 26) (fn := true) (v := 346) (by decide +kernel) rfl (TO.gk (o_334 hL)) (hL.fa (v := 346) 26 1 4 (o_334 hL) rfl (by decide) rfl (by decide)).1) ?_
        obtain ⟨hc, hF⟩ := gd_of hF
        refine RK.of (RN.blk (ops := [(27, .iload_n 2), (28, .iaload), (29, .aload_n 0), (30, .iload_n 1), (31, .iload_n 2)]) (pc' := 32) (lv' := [(0, .inr (.inr 334)), (1, .inl u1), (2, .inl v2)]) (st' := [.inl v2, .inl u1, .inr (.inr 334), .inl (m_rd h 346 v2)]) (h' := h) (cs := [GI h 346 1 v2]) (by decide +kernel) rfl ⟨(a_346 hL).gi hc.1.1 hc.1.2, trivial⟩) ?_
        obtain ⟨x2, h1, hG, hF⟩ := bd_of hF
        have hq := rcv_ok (as := [.inl u1, .inl v2]) (TO.gk (o_334 hL))
        obtain ⟨hN, hL, hQ⟩ := DX12_digitOf (d := d) hL  hG
        refine RK.of (RN.cv (i := 372) (k := 237) (q2 := iX12_digitOf) (as := [.inr (.inr 334), .inl u1, .inl v2]) (r := [.inl (m_rd h 346 v2)]) (v := some (.inl x2)) (h1 := h1) (by decide +kernel) rfl rfl rfl rfl rfl hq hN) ?_
        have hK := hK.tr hQ
        have hJ := hJ.tr hQ
        rcases it_of hF with ⟨hb, hF⟩ | ⟨hb, hF⟩
        · refine RK.of (RN.ict (cd := .eq) (off := 5) (tgt := 40) (by decide +kernel) (mif_eq hb)) ?_
          refine RK.of (RN.blk (ops := [(40, .iinc 2 1)]) (pc' := 43) (lv' := [(2, .inl (m_w32 (v2 + 1))), (0, .inr (.inr 334)), (1, .inl u1)]) (st' := []) (h' := h1) (cs := []) (by decide +kernel) rfl trivial) ?_
          refine RK.of (RN.goto (off := -41) (tgt := 2) (by decide +kernel)) ?_
          exact RK.sub (ih _ _ hL hJ hF) (sub_cons rfl (sub_cons rfl (sub_cons rfl sub_nil)))
        · refine RK.of (RN.icf (cd := .eq) (off := 5) (tgt := 40) (by decide +kernel) (mif_eqn hb)) ?_
          exact RK.sub (hK0 _ hL hJ hF) sub_nil
    · refine RK.of (RN.ict (cd := .ge) (off := 37) (tgt := 46) (by decide +kernel) (mif_ge hb)) ?_
      exact RK.sub (hK1 _ hL hJ hF) sub_nil
noncomputable def GX12_canMean (a1 : Int) (h : MH) : Option (Int × MH) :=
  GX12_canMean_L2 a1 (fun h1 =>
   some (0, h1)) (fun h2 =>
   some (1, h2)) FU 0 h
theorem DX12_canMean {d : Nat} {a1 : Int} {h : MH} {r : Int × MH} (hL : LR h) (hF : GX12_canMean a1 h = some r) : RN xs L iX12_canMean (d + 2) 0 (lvE 0 [.inr (.inr 334), .inl a1]) [] h (RIo r) ∧ LR r.2 ∧ KD h r.2 := by
  unfold GX12_canMean at hF
  have hK : KD h h := KD.rf
  show RK xs L iX12_canMean (d + 2) 0 (lvE 0 [.inr (.inr 334), .inl a1]) [] h (RIo r) h r.2
  refine RK.of (RN.blk (ops := [(0, .iconst 0), (1, .istore_n 2)]) (pc' := 2) (lv' := [(2, .inl 0), (0, .inr (.inr 334)), (1, .inl a1)]) (st' := []) (h' := h) (cs := []) (by decide +kernel) rfl trivial) ?_
  refine RK.sub (DX12_canMean_L2 hK ?_ ?_ _ _ _ hL KD.rf hF) (sub_cons rfl (sub_cons rfl (sub_cons rfl sub_nil)))
  · intro h1 hL hq hF
    have hK := hK.tr hq
    refine RK.of (RN.blk (ops := [(38, .iconst 0)]) (pc' := 39) (lv' := []) (st' := [.inl 0]) (h' := h1) (cs := []) (by decide +kernel) rfl trivial) ?_
    exact RK.zR (by decide +kernel) rfl (Or.inl rfl) hL hK hF
  · intro h2 hL hq hF
    have hK := hK.tr hq
    refine RK.of (RN.blk (ops := [(46, .iconst 1)]) (pc' := 47) (lv' := []) (st' := [.inl 1]) (h' := h2) (cs := []) (by decide +kernel) rfl trivial) ?_
    exact RK.zR (by decide +kernel) rfl (Or.inr rfl) hL hK hF
noncomputable def GX12_may_L14 (K0 : Int → MH → Option (Int × MH)) : Nat → Int → Int → MH → Option (Int × MH)
  | 0, _, _, _ => none
  | f + 1, v2, v3, h =>
    (bd (GX12_codesMany h) (fun x2 h1 =>
     (if v3 < x2 then
      (bd (GX12_canMean v3 h1) (fun x4 h3 =>
       (if x4 = 0 then
        GX12_may_L14 K0 f v2 (m_w32 (v3 + 1)) h3
       else
        (bd (GX12_holeOf v3 h3) (fun x6 h5 =>
         (if x6 < 0 then
          GX12_may_L14 K0 f (m_bor v2 64) (m_w32 (v3 + 1)) h5
         else
          (bd (GX12_holeOf v3 h5) (fun x8 h7 =>
           GX12_may_L14 K0 f (m_bor v2 (m_shl 1 x8)) (m_w32 (v3 + 1)) h7))))))))
     else
      K0 v2 h1)))
theorem DX12_may_L14 {d : Nat} {K0 : Int → MH → Option (Int × MH)} {r : Int × MH} {h0 hB : MH} (hB0 : KD h0 hB) (hK0 : ∀ (w2 : Int) (h : MH), LR h → KD hB h → K0 w2 h = some r → RK xs L iX12_may (d + 4) 59 [(2, .inl w2)] [] h (RIo r) h0 r.2) : ∀ (f : Nat) (v2 : Int) (v3 : Int) (h : MH), LR h → KD hB h → GX12_may_L14 K0 f v2 v3 h = some r → RK xs L iX12_may (d + 4) 14 [(0, .inr (.inr 334)), (2, .inl v2), (3, .inl v3)] [] h (RIo r) h0 r.2 := by
  intro f
  induction f with
  | zero =>
    intro v2 v3 h hL hJ hF
    cases hF
  | succ f ih =>
    intro v2 v3 h hL hJ hF
    unfold GX12_may_L14 at hF
    have hK := hB0.tr hJ
    refine RK.of (RN.blk (ops := [(14, .iload_n 3), (15, .aload_n 0)]) (pc' := 16) (lv' := [(0, .inr (.inr 334)), (2, .inl v2), (3, .inl v3)]) (st' := [.inr (.inr 334), .inl v3]) (h' := h) (cs := []) (by decide +kernel) rfl trivial) ?_
    obtain ⟨x2, h1, hG, hF⟩ := bd_of hF
    have hq := rcv_ok (as := []) (TO.gk (o_334 hL))
    obtain ⟨hN, hL, hQ⟩ := DX12_codesMany (d := d + 2) hL  hG
    refine RK.of (RN.cv (i := 298) (k := 203) (q2 := iX12_codesMany) (as := [.inr (.inr 334)]) (r := [.inl v3]) (v := some (.inl x2)) (h1 := h1) (by decide +kernel) rfl rfl rfl rfl rfl hq hN) ?_
    have hK := hK.tr hQ
    have hJ := hJ.tr hQ
    rcases it_of hF with ⟨hb, hF⟩ | ⟨hb, hF⟩
    · refine RK.of (RN.icf (cd := .ge) (off := 40) (tgt := 59) (by decide +kernel) (mif_gen hb)) ?_
      refine RK.of (RN.blk (ops := [(22, .aload_n 0), (23, .iload_n 3)]) (pc' := 24) (lv' := [(0, .inr (.inr 334)), (2, .inl v2), (3, .inl v3)]) (st' := [.inl v3, .inr (.inr 334)]) (h' := h1) (cs := []) (by decide +kernel) rfl trivial) ?_
      obtain ⟨x4, h3, hG, hF⟩ := bd_of hF
      have hq := rcv_ok (as := [.inl v3]) (TO.gk (o_334 hL))
      obtain ⟨hN, hL, hQ⟩ := DX12_canMean (d := d + 1) hL  hG
      refine RK.of (RN.cv (i := 378) (k := 238) (q2 := iX12_canMean) (as := [.inr (.inr 334), .inl v3]) (r := []) (v := some (.inl x4)) (h1 := h3) (by decide +kernel) rfl rfl rfl rfl rfl hq hN) ?_
      have hK := hK.tr hQ
      have hJ := hJ.tr hQ
      rcases it_of hF with ⟨hb, hF⟩ | ⟨hb, hF⟩
      · refine RK.of (RN.ift (cd := .eq) (off := 26) (tgt := 53) (by decide +kernel) (mif_eq hb)) ?_
        refine RK.of (RN.blk (ops := [(53, .iinc 3 1)]) (pc' := 56) (lv' := [(3, .inl (m_w32 (v3 + 1))), (0, .inr (.inr 334)), (2, .inl v2)]) (st' := []) (h' := h3) (cs := []) (by decide +kernel) rfl trivial) ?_
        refine RK.of (RN.goto (off := -42) (tgt := 14) (by decide +kernel)) ?_
        exact RK.sub (ih _ _ _ hL hJ hF) (sub_cons rfl (sub_cons rfl (sub_cons rfl sub_nil)))
      · refine RK.of (RN.iff (cd := .eq) (off := 26) (tgt := 53) (by decide +kernel) (mif_eqn hb)) ?_
        refine RK.of (RN.blk (ops := [(30, .iload_n 2), (31, .aload_n 0), (32, .iload_n 3)]) (pc' := 33) (lv' := [(0, .inr (.inr 334)), (2, .inl v2), (3, .inl v3)]) (st' := [.inl v3, .inr (.inr 334), .inl v2]) (h' := h3) (cs := []) (by decide +kernel) rfl trivial) ?_
        obtain ⟨x6, h5, hG, hF⟩ := bd_of hF
        have hq := rcv_ok (as := [.inl v3]) (TO.gk (o_334 hL))
        obtain ⟨hN, hL, hQ⟩ := DX12_holeOf (d := d) hL  hG
        refine RK.of (RN.cv (i := 322) (k := 209) (q2 := iX12_holeOf) (as := [.inr (.inr 334), .inl v3]) (r := [.inl v2]) (v := some (.inl x6)) (h1 := h5) (by decide +kernel) rfl rfl rfl rfl rfl hq hN) ?_
        have hK := hK.tr hQ
        have hJ := hJ.tr hQ
        rcases it_of hF with ⟨hb, hF⟩ | ⟨hb, hF⟩
        · refine RK.of (RN.iff (cd := .ge) (off := 8) (tgt := 44) (by decide +kernel) (mif_gen hb)) ?_
          refine RK.of (RN.blk (ops := [(39, .bipush 64)]) (pc' := 41) (lv' := [(0, .inr (.inr 334)), (2, .inl v2), (3, .inl v3)]) (st' := [.inl 64, .inl v2]) (h' := h5) (cs := []) (by decide +kernel) rfl trivial) ?_
          refine RK.of (RN.goto (off := 10) (tgt := 51) (by decide +kernel)) ?_
          refine RK.of (RN.blk (ops := [(51, .ior), (52, .istore_n 2)]) (pc' := 53) (lv' := [(2, .inl (m_bor v2 64)), (0, .inr (.inr 334)), (3, .inl v3)]) (st' := []) (h' := h5) (cs := []) (by decide +kernel) rfl trivial) ?_
          refine RK.of (RN.blk (ops := [(53, .iinc 3 1)]) (pc' := 56) (lv' := [(3, .inl (m_w32 (v3 + 1))), (2, .inl (m_bor v2 64)), (0, .inr (.inr 334))]) (st' := []) (h' := h5) (cs := []) (by decide +kernel) rfl trivial) ?_
          refine RK.of (RN.goto (off := -42) (tgt := 14) (by decide +kernel)) ?_
          exact RK.sub (ih _ _ _ hL hJ hF) (sub_cons rfl (sub_cons rfl (sub_cons rfl sub_nil)))
        · refine RK.of (RN.ift (cd := .ge) (off := 8) (tgt := 44) (by decide +kernel) (mif_ge hb)) ?_
          refine RK.of (RN.blk (ops := [(44, .iconst 1), (45, .aload_n 0), (46, .iload_n 3)]) (pc' := 47) (lv' := [(0, .inr (.inr 334)), (2, .inl v2), (3, .inl v3)]) (st' := [.inl v3, .inr (.inr 334), .inl 1, .inl v2]) (h' := h5) (cs := []) (by decide +kernel) rfl trivial) ?_
          obtain ⟨x8, h7, hG, hF⟩ := bd_of hF
          have hq := rcv_ok (as := [.inl v3]) (TO.gk (o_334 hL))
          obtain ⟨hN, hL, hQ⟩ := DX12_holeOf (d := d) hL  hG
          refine RK.of (RN.cv (i := 322) (k := 209) (q2 := iX12_holeOf) (as := [.inr (.inr 334), .inl v3]) (r := [.inl 1, .inl v2]) (v := some (.inl x8)) (h1 := h7) (by decide +kernel) rfl rfl rfl rfl rfl hq hN) ?_
          have hK := hK.tr hQ
          have hJ := hJ.tr hQ
          refine RK.of (RN.blk (ops := [(50, .ishl)]) (pc' := 51) (lv' := [(0, .inr (.inr 334)), (2, .inl v2), (3, .inl v3)]) (st' := [.inl (m_shl 1 x8), .inl v2]) (h' := h7) (cs := []) (by decide +kernel) rfl trivial) ?_
          refine RK.of (RN.blk (ops := [(51, .ior), (52, .istore_n 2)]) (pc' := 53) (lv' := [(2, .inl (m_bor v2 (m_shl 1 x8))), (0, .inr (.inr 334)), (3, .inl v3)]) (st' := []) (h' := h7) (cs := []) (by decide +kernel) rfl trivial) ?_
          refine RK.of (RN.blk (ops := [(53, .iinc 3 1)]) (pc' := 56) (lv' := [(3, .inl (m_w32 (v3 + 1))), (2, .inl (m_bor v2 (m_shl 1 x8))), (0, .inr (.inr 334))]) (st' := []) (h' := h7) (cs := []) (by decide +kernel) rfl trivial) ?_
          refine RK.of (RN.goto (off := -42) (tgt := 14) (by decide +kernel)) ?_
          exact RK.sub (ih _ _ _ hL hJ hF) (sub_cons rfl (sub_cons rfl (sub_cons rfl sub_nil)))
    · refine RK.of (RN.ict (cd := .ge) (off := 40) (tgt := 59) (by decide +kernel) (mif_ge hb)) ?_
      exact RK.sub (hK0 _ _ hL hJ hF) (sub_cons rfl sub_nil)
noncomputable def GX12_may (a1 : Int) (h : MH) : Option (Int × MH) :=
  (bd (GX12_isReading a1 h) (fun x2 h1 =>
   (if x2 = 0 then
    some ((-1), h1)
   else
    GX12_may_L14 (fun w3 h4 =>
     some (w3, h4)) FU 0 0 h1)))
theorem DX12_may {d : Nat} {a1 : Int} {h : MH} {r : Int × MH} (hL : LR h) (hF : GX12_may a1 h = some r) : RN xs L iX12_may (d + 4) 0 (lvE 0 [.inr (.inr 334), .inl a1]) [] h (RIo r) ∧ LR r.2 ∧ KD h r.2 := by
  unfold GX12_may at hF
  have hK : KD h h := KD.rf
  show RK xs L iX12_may (d + 4) 0 (lvE 0 [.inr (.inr 334), .inl a1]) [] h (RIo r) h r.2
  refine RK.of (RN.blk (ops := [(0, .aload_n 0), (1, .iload_n 1)]) (pc' := 2) (lv' := [(0, .inr (.inr 334)), (1, .inl a1)]) (st' := [.inl a1, .inr (.inr 334)]) (h' := h) (cs := []) (by decide +kernel) rfl trivial) ?_
  obtain ⟨x2, h1, hG, hF⟩ := bd_of hF
  have hq := rcv_ok (as := [.inl a1]) (TO.gk (o_334 hL))
  obtain ⟨hN, hL, hQ⟩ := DX12_isReading (d := d + 2) hL  hG
  refine RK.of (RN.cv (i := 375) (k := 236) (q2 := iX12_isReading) (as := [.inr (.inr 334), .inl a1]) (r := []) (v := some (.inl x2)) (h1 := h1) (by decide +kernel) rfl rfl rfl rfl rfl hq hN) ?_
  have hK := hK.tr hQ
  rcases it_of hF with ⟨hb, hF⟩ | ⟨hb, hF⟩
  · refine RK.of (RN.iff (cd := .ne) (off := 5) (tgt := 10) (by decide +kernel) (mif_nen hb)) ?_
    refine RK.of (RN.blk (ops := [(8, .iconst (-1))]) (pc' := 9) (lv' := [(0, .inr (.inr 334)), (1, .inl a1)]) (st' := [.inl (-1)]) (h' := h1) (cs := []) (by decide +kernel) rfl trivial) ?_
    exact RK.iR (by decide +kernel) rfl hL hK hF
  · refine RK.of (RN.ift (cd := .ne) (off := 5) (tgt := 10) (by decide +kernel) (mif_ne hb)) ?_
    refine RK.of (RN.blk (ops := [(10, .iconst 0), (11, .istore_n 2), (12, .iconst 0), (13, .istore_n 3)]) (pc' := 14) (lv' := [(3, .inl 0), (2, .inl 0), (0, .inr (.inr 334)), (1, .inl a1)]) (st' := []) (h' := h1) (cs := []) (by decide +kernel) rfl trivial) ?_
    refine RK.sub (DX12_may_L14 hK ?_ _ _ _ _ hL KD.rf hF) (sub_cons rfl (sub_cons rfl (sub_cons rfl sub_nil)))
    · intro w3 h4 hL hq hF
      have hK := hK.tr hq
      refine RK.of (RN.blk (ops := [(59, .iload_n 2)]) (pc' := 60) (lv' := [(2, .inl w3)]) (st' := [.inl w3]) (h' := h4) (cs := []) (by decide +kernel) rfl trivial) ?_
      exact RK.iR (by decide +kernel) rfl hL hK hF
noncomputable def GX12_areLike_L3 (u1 : Int) (u2 : Int) (u3 : Int) (K0 : MH → Option (Int × MH)) (K1 : MH → Option (Int × MH)) : Nat → Int → MH → Option (Int × MH)
  | 0, _, _ => none
  | f + 1, v4, h =>
    (if v4 < (m_rd h 344 2) then
     (bd (GX12_isOf u3 v4 h) (fun x2 h1 =>
      (if x2 = 0 then
       GX12_areLike_L3 u1 u2 u3 K0 K1 f (m_w32 (v4 + 1)) h1
      else
       (bd (GX12_digitOf u1 v4 h1) (fun x4 h3 =>
        (bd (GX12_digitOf u2 v4 h3) (fun x6 h5 =>
         (if x4 = x6 then
          GX12_areLike_L3 u1 u2 u3 K0 K1 f (m_w32 (v4 + 1)) h5
         else
          K0 h5))))))))
    else
     K1 h)
theorem DX12_areLike_L3 {d : Nat} {u1 : Int} {u2 : Int} {u3 : Int} {K0 : MH → Option (Int × MH)} {K1 : MH → Option (Int × MH)} {r : Int × MH} {h0 hB : MH} (hB0 : KD h0 hB) (hK0 : ∀ (h : MH), LR h → KD hB h → K0 h = some r → RK xs L iX12_areLike (d + 2) 40 [] [] h (RIo r) h0 r.2) (hK1 : ∀ (h : MH), LR h → KD hB h → K1 h = some r → RK xs L iX12_areLike (d + 2) 48 [] [] h (RIo r) h0 r.2) : ∀ (f : Nat) (v4 : Int) (h : MH), LR h → KD hB h → GX12_areLike_L3 u1 u2 u3 K0 K1 f v4 h = some r → RK xs L iX12_areLike (d + 2) 3 [(0, .inr (.inr 334)), (1, .inl u1), (2, .inl u2), (3, .inl u3), (4, .inl v4)] [] h (RIo r) h0 r.2 := by
  intro f
  induction f with
  | zero =>
    intro v4 h hL hJ hF
    cases hF
  | succ f ih =>
    intro v4 h hL hJ hF
    unfold GX12_areLike_L3 at hF
    have hK := hB0.tr hJ
    refine RK.of (RN.blk (ops := [(3, .iload 4), (5, .aload_n 0)]) (pc' := 6) (lv' := [(0, .inr (.inr 334)), (1, .inl u1), (2, .inl u2), (3, .inl u3), (4, .inl v4)]) (st' := [.inr (.inr 334), .inl v4]) (h' := h) (cs := []) (by decide +kernel) rfl trivial) ?_
    refine RK.of (RN.gr (i := 39) (ci := 12) (k := 20) (fn := true) (v := 344) (by decide +kernel) rfl (TO.gk (o_334 hL)) (hL.fa (v := 344) 20 1 167 (o_334 hL) rfl (by decide) rfl (by decide)).1) ?_
    refine RK.of (RN.blk (ops := [(9, .iconst 2), (10, .iaload)]) (pc' := 11) (lv' := [(0, .inr (.inr 334)), (1, .inl u1), (2, .inl u2), (3, .inl u3), (4, .inl v4)]) (st' := [.inl (m_rd h 344 2), .inl v4]) (h' := h) (cs := [GI h 344 1 2]) (by decide +kernel) rfl ⟨(a_344 hL).gi (by decide) (by decide), trivial⟩) ?_
    rcases it_of hF with ⟨hb, hF⟩ | ⟨hb, hF⟩
    · refine RK.of (RN.icf (cd := .ge) (off := 37) (tgt := 48) (by decide +kernel) (mif_gen hb)) ?_
      refine RK.of (RN.blk (ops := [(14, .iload_n 3), (15, .iload 4)]) (pc' := 17) (lv' := [(0, .inr (.inr 334)), (1, .inl u1), (2, .inl u2), (3, .inl u3), (4, .inl v4)]) (st' := [.inl v4, .inl u3]) (h' := h) (cs := []) (by decide +kernel) rfl trivial) ?_
      obtain ⟨x2, h1, hG, hF⟩ := bd_of hF
      obtain ⟨hN, hL, hQ⟩ := DX12_isOf (d := d + 1) hL  hG
      refine RK.of (RN.cst (i := 381) (k := 157) (q2 := iX12_isOf) (as := [.inl u3, .inl v4]) (r := []) (v := some (.inl x2)) (h1 := h1) (by decide +kernel) rfl rfl rfl rfl rfl hN) ?_
      have hK := hK.tr hQ
      have hJ := hJ.tr hQ
      rcases it_of hF with ⟨hb, hF⟩ | ⟨hb, hF⟩
      · refine RK.of (RN.ift (cd := .eq) (off := 22) (tgt := 42) (by decide +kernel) (mif_eq hb)) ?_
        refine RK.of (RN.blk (ops := [(42, .iinc 4 1)]) (pc' := 45) (lv' := [(4, .inl (m_w32 (v4 + 1))), (0, .inr (.inr 334)), (1, .inl u1), (2, .inl u2), (3, .inl u3)]) (st' := []) (h' := h1) (cs := []) (by decide +kernel) rfl trivial) ?_
        refine RK.of (RN.goto (off := -42) (tgt := 3) (by decide +kernel)) ?_
        exact RK.sub (ih _ _ hL hJ hF) (sub_cons rfl (sub_cons rfl (sub_cons rfl (sub_cons rfl (sub_cons rfl sub_nil)))))
      · refine RK.of (RN.iff (cd := .eq) (off := 22) (tgt := 42) (by decide +kernel) (mif_eqn hb)) ?_
        refine RK.of (RN.blk (ops := [(23, .aload_n 0), (24, .iload_n 1), (25, .iload 4)]) (pc' := 27) (lv' := [(0, .inr (.inr 334)), (1, .inl u1), (2, .inl u2), (3, .inl u3), (4, .inl v4)]) (st' := [.inl v4, .inl u1, .inr (.inr 334)]) (h' := h1) (cs := []) (by decide +kernel) rfl trivial) ?_
        obtain ⟨x4, h3, hG, hF⟩ := bd_of hF
        have hq := rcv_ok (as := [.inl u1, .inl v4]) (TO.gk (o_334 hL))
        obtain ⟨hN, hL, hQ⟩ := DX12_digitOf (d := d) hL  hG
        refine RK.of (RN.cv (i := 372) (k := 237) (q2 := iX12_digitOf) (as := [.inr (.inr 334), .inl u1, .inl v4]) (r := []) (v := some (.inl x4)) (h1 := h3) (by decide +kernel) rfl rfl rfl rfl rfl hq hN) ?_
        have hK := hK.tr hQ
        have hJ := hJ.tr hQ
        refine RK.of (RN.blk (ops := [(30, .aload_n 0), (31, .iload_n 2), (32, .iload 4)]) (pc' := 34) (lv' := [(0, .inr (.inr 334)), (1, .inl u1), (2, .inl u2), (3, .inl u3), (4, .inl v4)]) (st' := [.inl v4, .inl u2, .inr (.inr 334), .inl x4]) (h' := h3) (cs := []) (by decide +kernel) rfl trivial) ?_
        obtain ⟨x6, h5, hG, hF⟩ := bd_of hF
        have hq := rcv_ok (as := [.inl u2, .inl v4]) (TO.gk (o_334 hL))
        obtain ⟨hN, hL, hQ⟩ := DX12_digitOf (d := d) hL  hG
        refine RK.of (RN.cv (i := 372) (k := 237) (q2 := iX12_digitOf) (as := [.inr (.inr 334), .inl u2, .inl v4]) (r := [.inl x4]) (v := some (.inl x6)) (h1 := h5) (by decide +kernel) rfl rfl rfl rfl rfl hq hN) ?_
        have hK := hK.tr hQ
        have hJ := hJ.tr hQ
        rcases it_of hF with ⟨hb, hF⟩ | ⟨hb, hF⟩
        · refine RK.of (RN.ict (cd := .eq) (off := 5) (tgt := 42) (by decide +kernel) (mif_eq hb)) ?_
          refine RK.of (RN.blk (ops := [(42, .iinc 4 1)]) (pc' := 45) (lv' := [(4, .inl (m_w32 (v4 + 1))), (0, .inr (.inr 334)), (1, .inl u1), (2, .inl u2), (3, .inl u3)]) (st' := []) (h' := h5) (cs := []) (by decide +kernel) rfl trivial) ?_
          refine RK.of (RN.goto (off := -42) (tgt := 3) (by decide +kernel)) ?_
          exact RK.sub (ih _ _ hL hJ hF) (sub_cons rfl (sub_cons rfl (sub_cons rfl (sub_cons rfl (sub_cons rfl sub_nil)))))
        · refine RK.of (RN.icf (cd := .eq) (off := 5) (tgt := 42) (by decide +kernel) (mif_eqn hb)) ?_
          exact RK.sub (hK0 _ hL hJ hF) sub_nil
    · refine RK.of (RN.ict (cd := .ge) (off := 37) (tgt := 48) (by decide +kernel) (mif_ge hb)) ?_
      exact RK.sub (hK1 _ hL hJ hF) sub_nil
noncomputable def GX12_areLike (a1 : Int) (a2 : Int) (a3 : Int) (h : MH) : Option (Int × MH) :=
  GX12_areLike_L3 a1 a2 a3 (fun h1 =>
   some (0, h1)) (fun h2 =>
   some (1, h2)) FU 0 h
theorem DX12_areLike {d : Nat} {a1 : Int} {a2 : Int} {a3 : Int} {h : MH} {r : Int × MH} (hL : LR h) (hF : GX12_areLike a1 a2 a3 h = some r) : RN xs L iX12_areLike (d + 2) 0 (lvE 0 [.inr (.inr 334), .inl a1, .inl a2, .inl a3]) [] h (RIo r) ∧ LR r.2 ∧ KD h r.2 := by
  unfold GX12_areLike at hF
  have hK : KD h h := KD.rf
  show RK xs L iX12_areLike (d + 2) 0 (lvE 0 [.inr (.inr 334), .inl a1, .inl a2, .inl a3]) [] h (RIo r) h r.2
  refine RK.of (RN.blk (ops := [(0, .iconst 0), (1, .istore 4)]) (pc' := 3) (lv' := [(4, .inl 0), (0, .inr (.inr 334)), (1, .inl a1), (2, .inl a2), (3, .inl a3)]) (st' := []) (h' := h) (cs := []) (by decide +kernel) rfl trivial) ?_
  refine RK.sub (DX12_areLike_L3 hK ?_ ?_ _ _ _ hL KD.rf hF) (sub_cons rfl (sub_cons rfl (sub_cons rfl (sub_cons rfl (sub_cons rfl sub_nil)))))
  · intro h1 hL hq hF
    have hK := hK.tr hq
    refine RK.of (RN.blk (ops := [(40, .iconst 0)]) (pc' := 41) (lv' := []) (st' := [.inl 0]) (h' := h1) (cs := []) (by decide +kernel) rfl trivial) ?_
    exact RK.zR (by decide +kernel) rfl (Or.inl rfl) hL hK hF
  · intro h2 hL hq hF
    have hK := hK.tr hq
    refine RK.of (RN.blk (ops := [(48, .iconst 1)]) (pc' := 49) (lv' := []) (st' := [.inl 1]) (h' := h2) (cs := []) (by decide +kernel) rfl trivial) ?_
    exact RK.zR (by decide +kernel) rfl (Or.inr rfl) hL hK hF
noncomputable def GX12_isEnough_L23 (u1 : Int) (u2 : Int) (K0 : MH → Option (Int × MH)) (K1 : MH → Option (Int × MH)) : Nat → Int → MH → Option (Int × MH)
  | 0, _, _ => none
  | f + 1, v3, h =>
    (if v3 < u2 then
     (bd (GX12_canMean v3 h) (fun x2 h1 =>
      (if x2 = 0 then
       GX12_isEnough_L23 u1 u2 K0 K1 f (m_w32 (v3 + 1)) h1
      else
       (bd (GX12_areLike u2 v3 u1 h1) (fun x4 h3 =>
        (if x4 = 0 then
         GX12_isEnough_L23 u1 u2 K0 K1 f (m_w32 (v3 + 1)) h3
        else
         gd [IB u2 256] (
          gd [IB v3 256] (
           (if (m_rd h3 347 u2) = (m_rd h3 347 v3) then
            GX12_isEnough_L23 u1 u2 K0 K1 f (m_w32 (v3 + 1)) h3
           else
            K0 h3)))))))))
    else
     K1 h)
theorem DX12_isEnough_L23 {d : Nat} {u1 : Int} {u2 : Int} {K0 : MH → Option (Int × MH)} {K1 : MH → Option (Int × MH)} {r : Int × MH} {h0 hB : MH} (hB0 : KD h0 hB) (hK0 : ∀ (h : MH), LR h → KD hB h → K0 h = some r → RK xs L iX12_isEnough (d + 3) 61 [] [] h (RIo r) h0 r.2) (hK1 : ∀ (h : MH), LR h → KD hB h → K1 h = some r → RK xs L iX12_isEnough (d + 3) 69 [(0, .inr (.inr 334)), (1, .inl u1), (2, .inl u2)] [] h (RIo r) h0 r.2) : ∀ (f : Nat) (v3 : Int) (h : MH), LR h → KD hB h → GX12_isEnough_L23 u1 u2 K0 K1 f v3 h = some r → RK xs L iX12_isEnough (d + 3) 23 [(0, .inr (.inr 334)), (1, .inl u1), (2, .inl u2), (3, .inl v3)] [] h (RIo r) h0 r.2 := by
  intro f
  induction f with
  | zero =>
    intro v3 h hL hJ hF
    cases hF
  | succ f ih =>
    intro v3 h hL hJ hF
    unfold GX12_isEnough_L23 at hF
    have hK := hB0.tr hJ
    refine RK.of (RN.blk (ops := [(23, .iload_n 3), (24, .iload_n 2)]) (pc' := 25) (lv' := [(0, .inr (.inr 334)), (1, .inl u1), (2, .inl u2), (3, .inl v3)]) (st' := [.inl u2, .inl v3]) (h' := h) (cs := []) (by decide +kernel) rfl trivial) ?_
    rcases it_of hF with ⟨hb, hF⟩ | ⟨hb, hF⟩
    · refine RK.of (RN.icf (cd := .ge) (off := 44) (tgt := 69) (by decide +kernel) (mif_gen hb)) ?_
      refine RK.of (RN.blk (ops := [(28, .aload_n 0), (29, .iload_n 3)]) (pc' := 30) (lv' := [(0, .inr (.inr 334)), (1, .inl u1), (2, .inl u2), (3, .inl v3)]) (st' := [.inl v3, .inr (.inr 334)]) (h' := h) (cs := []) (by decide +kernel) rfl trivial) ?_
      obtain ⟨x2, h1, hG, hF⟩ := bd_of hF
      have hq := rcv_ok (as := [.inl v3]) (TO.gk (o_334 hL))
      obtain ⟨hN, hL, hQ⟩ := DX12_canMean (d := d) hL  hG
      refine RK.of (RN.cv (i := 378) (k := 238) (q2 := iX12_canMean) (as := [.inr (.inr 334), .inl v3]) (r := []) (v := some (.inl x2)) (h1 := h1) (by decide +kernel) rfl rfl rfl rfl rfl hq hN) ?_
      have hK := hK.tr hQ
      have hJ := hJ.tr hQ
      rcases it_of hF with ⟨hb, hF⟩ | ⟨hb, hF⟩
      · refine RK.of (RN.ift (cd := .eq) (off := 30) (tgt := 63) (by decide +kernel) (mif_eq hb)) ?_
        refine RK.of (RN.blk (ops := [(63, .iinc 3 1)]) (pc' := 66) (lv' := [(3, .inl (m_w32 (v3 + 1))), (0, .inr (.inr 334)), (1, .inl u1), (2, .inl u2)]) (st' := []) (h' := h1) (cs := []) (by decide +kernel) rfl trivial) ?_
        refine RK.of (RN.goto (off := -43) (tgt := 23) (by decide +kernel)) ?_
        exact RK.sub (ih _ _ hL hJ hF) (sub_cons rfl (sub_cons rfl (sub_cons rfl (sub_cons rfl sub_nil))))
      · refine RK.of (RN.iff (cd := .eq) (off := 30) (tgt := 63) (by decide +kernel) (mif_eqn hb)) ?_
        refine RK.of (RN.blk (ops := [(36, .aload_n 0), (37, .iload_n 2), (38, .iload_n 3), (39, .iload_n 1)]) (pc' := 40) (lv' := [(0, .inr (.inr 334)), (1, .inl u1), (2, .inl u2), (3, .inl v3)]) (st' := [.inl u1, .inl v3, .inl u2, .inr (.inr 334)]) (h' := h1) (cs := []) (by decide +kernel) rfl trivial) ?_
        obtain ⟨x4, h3, hG, hF⟩ := bd_of hF
        have hq := rcv_ok (as := [.inl u2, .inl v3, .inl u1]) (TO.gk (o_334 hL))
        obtain ⟨hN, hL, hQ⟩ := DX12_areLike (d := d) hL  hG
        refine RK.of (RN.cv (i := 384) (k := 240) (q2 := iX12_areLike) (as := [.inr (.inr 334), .inl u2, .inl v3, .inl u1]) (r := []) (v := some (.inl x4)) (h1 := h3) (by decide +kernel) rfl rfl rfl rfl rfl hq hN) ?_
        have hK := hK.tr hQ
        have hJ := hJ.tr hQ
        rcases it_of hF with ⟨hb, hF⟩ | ⟨hb, hF⟩
        · refine RK.of (RN.ift (cd := .eq) (off := 20) (tgt := 63) (by decide +kernel) (mif_eq hb)) ?_
          refine RK.of (RN.blk (ops := [(63, .iinc 3 1)]) (pc' := 66) (lv' := [(3, .inl (m_w32 (v3 + 1))), (0, .inr (.inr 334)), (1, .inl u1), (2, .inl u2)]) (st' := []) (h' := h3) (cs := []) (by decide +kernel) rfl trivial) ?_
          refine RK.of (RN.goto (off := -43) (tgt := 23) (by decide +kernel)) ?_
          exact RK.sub (ih _ _ hL hJ hF) (sub_cons rfl (sub_cons rfl (sub_cons rfl (sub_cons rfl sub_nil))))
        · refine RK.of (RN.iff (cd := .eq) (off := 20) (tgt := 63) (by decide +kernel) (mif_eqn hb)) ?_
          refine RK.of (RN.blk (ops := [(46, .aload_n 0)]) (pc' := 47) (lv' := [(0, .inr (.inr 334)), (1, .inl u1), (2, .inl u2), (3, .inl v3)]) (st' := [.inr (.inr 334)]) (h' := h3) (cs := []) (by decide +kernel) rfl trivial) ?_
          refine RK.of (RN.gr (i := 52) (ci := 12) (k := 27) (fn := true) (v := 347) (by decide +kernel) rfl (TO.gk (o_334 hL)) (hL.fa (v := 347) 27 1 256 (o_334 hL) rfl (by decide) rfl (by decide)).1) ?_
          obtain ⟨hc, hF⟩ := gd_of hF
          refine RK.of (RN.blk (ops := [(50, .iload_n 2), (51, .iaload), (52, .aload_n 0)]) (pc' := 53) (lv' := [(0, .inr (.inr 334)), (1, .inl u1), (2, .inl u2), (3, .inl v3)]) (st' := [.inr (.inr 334), .inl (m_rd h3 347 u2)]) (h' := h3) (cs := [GI h3 347 1 u2]) (by decide +kernel) rfl ⟨(a_347 hL).gi hc.1.1 hc.1.2, trivial⟩) ?_
          refine RK.of (RN.gr (i := 52) (ci := 12) (k := 27) (fn := true) (v := 347) (by decide +kernel) rfl (TO.gk (o_334 hL)) (hL.fa (v := 347) 27 1 256 (o_334 hL) rfl (by decide) rfl (by decide)).1) ?_
          obtain ⟨hc, hF⟩ := gd_of hF
          refine RK.of (RN.blk (ops := [(56, .iload_n 3), (57, .iaload)]) (pc' := 58) (lv' := [(0, .inr (.inr 334)), (1, .inl u1), (2, .inl u2), (3, .inl v3)]) (st' := [.inl (m_rd h3 347 v3), .inl (m_rd h3 347 u2)]) (h' := h3) (cs := [GI h3 347 1 v3]) (by decide +kernel) rfl ⟨(a_347 hL).gi hc.1.1 hc.1.2, trivial⟩) ?_
          rcases it_of hF with ⟨hb, hF⟩ | ⟨hb, hF⟩
          · refine RK.of (RN.ict (cd := .eq) (off := 5) (tgt := 63) (by decide +kernel) (mif_eq hb)) ?_
            refine RK.of (RN.blk (ops := [(63, .iinc 3 1)]) (pc' := 66) (lv' := [(3, .inl (m_w32 (v3 + 1))), (0, .inr (.inr 334)), (1, .inl u1), (2, .inl u2)]) (st' := []) (h' := h3) (cs := []) (by decide +kernel) rfl trivial) ?_
            refine RK.of (RN.goto (off := -43) (tgt := 23) (by decide +kernel)) ?_
            exact RK.sub (ih _ _ hL hJ hF) (sub_cons rfl (sub_cons rfl (sub_cons rfl (sub_cons rfl sub_nil))))
          · refine RK.of (RN.icf (cd := .eq) (off := 5) (tgt := 63) (by decide +kernel) (mif_eqn hb)) ?_
            exact RK.sub (hK0 _ hL hJ hF) sub_nil
    · refine RK.of (RN.ict (cd := .ge) (off := 44) (tgt := 69) (by decide +kernel) (mif_ge hb)) ?_
      exact RK.sub (hK1 _ hL hJ hF) (sub_cons rfl (sub_cons rfl (sub_cons rfl sub_nil)))
noncomputable def GX12_isEnough_L2 (u1 : Int) (K0 : MH → Option (Int × MH)) (K1 : MH → Option (Int × MH)) : Nat → Int → MH → Option (Int × MH)
  | 0, _, _ => none
  | f + 1, v2, h =>
    (bd (GX12_codesMany h) (fun x2 h1 =>
     (if v2 < x2 then
      (bd (GX12_canMean v2 h1) (fun x4 h3 =>
       (if x4 = 0 then
        GX12_isEnough_L2 u1 K0 K1 f (m_w32 (v2 + 1)) h3
       else
        GX12_isEnough_L23 u1 v2 (fun h5 =>
         K0 h5) (fun h6 =>
         GX12_isEnough_L2 u1 K0 K1 f (m_w32 (v2 + 1)) h6) FU 0 h3)))
     else
      K1 h1)))
theorem DX12_isEnough_L2 {d : Nat} {u1 : Int} {K0 : MH → Option (Int × MH)} {K1 : MH → Option (Int × MH)} {r : Int × MH} {h0 hB : MH} (hB0 : KD h0 hB) (hK0 : ∀ (h : MH), LR h → KD hB h → K0 h = some r → RK xs L iX12_isEnough (d + 3) 61 [] [] h (RIo r) h0 r.2) (hK1 : ∀ (h : MH), LR h → KD hB h → K1 h = some r → RK xs L iX12_isEnough (d + 3) 75 [] [] h (RIo r) h0 r.2) : ∀ (f : Nat) (v2 : Int) (h : MH), LR h → KD hB h → GX12_isEnough_L2 u1 K0 K1 f v2 h = some r → RK xs L iX12_isEnough (d + 3) 2 [(0, .inr (.inr 334)), (1, .inl u1), (2, .inl v2)] [] h (RIo r) h0 r.2 := by
  intro f
  induction f with
  | zero =>
    intro v2 h hL hJ hF
    cases hF
  | succ f ih =>
    intro v2 h hL hJ hF
    unfold GX12_isEnough_L2 at hF
    have hK := hB0.tr hJ
    refine RK.of (RN.blk (ops := [(2, .iload_n 2), (3, .aload_n 0)]) (pc' := 4) (lv' := [(0, .inr (.inr 334)), (1, .inl u1), (2, .inl v2)]) (st' := [.inr (.inr 334), .inl v2]) (h' := h) (cs := []) (by decide +kernel) rfl trivial) ?_
    obtain ⟨x2, h1, hG, hF⟩ := bd_of hF
    have hq := rcv_ok (as := []) (TO.gk (o_334 hL))
    obtain ⟨hN, hL, hQ⟩ := DX12_codesMany (d := d + 1) hL  hG
    refine RK.of (RN.cv (i := 298) (k := 203) (q2 := iX12_codesMany) (as := [.inr (.inr 334)]) (r := [.inl v2]) (v := some (.inl x2)) (h1 := h1) (by decide +kernel) rfl rfl rfl rfl rfl hq hN) ?_
    have hK := hK.tr hQ
    have hJ := hJ.tr hQ
    rcases it_of hF with ⟨hb, hF⟩ | ⟨hb, hF⟩
    · refine RK.of (RN.icf (cd := .ge) (off := 68) (tgt := 75) (by decide +kernel) (mif_gen hb)) ?_
      refine RK.of (RN.blk (ops := [(10, .aload_n 0), (11, .iload_n 2)]) (pc' := 12) (lv' := [(0, .inr (.inr 334)), (1, .inl u1), (2, .inl v2)]) (st' := [.inl v2, .inr (.inr 334)]) (h' := h1) (cs := []) (by decide +kernel) rfl trivial) ?_
      obtain ⟨x4, h3, hG, hF⟩ := bd_of hF
      have hq := rcv_ok (as := [.inl v2]) (TO.gk (o_334 hL))
      obtain ⟨hN, hL, hQ⟩ := DX12_canMean (d := d) hL  hG
      refine RK.of (RN.cv (i := 378) (k := 238) (q2 := iX12_canMean) (as := [.inr (.inr 334), .inl v2]) (r := []) (v := some (.inl x4)) (h1 := h3) (by decide +kernel) rfl rfl rfl rfl rfl hq hN) ?_
      have hK := hK.tr hQ
      have hJ := hJ.tr hQ
      rcases it_of hF with ⟨hb, hF⟩ | ⟨hb, hF⟩
      · refine RK.of (RN.iff (cd := .ne) (off := 6) (tgt := 21) (by decide +kernel) (mif_nen hb)) ?_
        refine RK.of (RN.goto (off := 51) (tgt := 69) (by decide +kernel)) ?_
        refine RK.of (RN.blk (ops := [(69, .iinc 2 1)]) (pc' := 72) (lv' := [(2, .inl (m_w32 (v2 + 1))), (0, .inr (.inr 334)), (1, .inl u1)]) (st' := []) (h' := h3) (cs := []) (by decide +kernel) rfl trivial) ?_
        refine RK.of (RN.goto (off := -70) (tgt := 2) (by decide +kernel)) ?_
        exact RK.sub (ih _ _ hL hJ hF) (sub_cons rfl (sub_cons rfl (sub_cons rfl sub_nil)))
      · refine RK.of (RN.ift (cd := .ne) (off := 6) (tgt := 21) (by decide +kernel) (mif_ne hb)) ?_
        refine RK.of (RN.blk (ops := [(21, .iconst 0), (22, .istore_n 3)]) (pc' := 23) (lv' := [(3, .inl 0), (0, .inr (.inr 334)), (1, .inl u1), (2, .inl v2)]) (st' := []) (h' := h3) (cs := []) (by decide +kernel) rfl trivial) ?_
        refine RK.sub (DX12_isEnough_L23 hK ?_ ?_ _ _ _ hL KD.rf hF) (sub_cons rfl (sub_cons rfl (sub_cons rfl (sub_cons rfl sub_nil))))
        · intro h5 hL hq hF
          have hK := hK.tr hq
          have hJ := hJ.tr hq
          exact RK.sub (hK0 _ hL hJ hF) sub_nil
        · intro h6 hL hq hF
          have hK := hK.tr hq
          have hJ := hJ.tr hq
          refine RK.of (RN.blk (ops := [(69, .iinc 2 1)]) (pc' := 72) (lv' := [(2, .inl (m_w32 (v2 + 1))), (0, .inr (.inr 334)), (1, .inl u1)]) (st' := []) (h' := h6) (cs := []) (by decide +kernel) rfl trivial) ?_
          refine RK.of (RN.goto (off := -70) (tgt := 2) (by decide +kernel)) ?_
          exact RK.sub (ih _ _ hL hJ hF) (sub_cons rfl (sub_cons rfl (sub_cons rfl sub_nil)))
    · refine RK.of (RN.ict (cd := .ge) (off := 68) (tgt := 75) (by decide +kernel) (mif_ge hb)) ?_
      exact RK.sub (hK1 _ hL hJ hF) sub_nil
noncomputable def GX12_isEnough (a1 : Int) (h : MH) : Option (Int × MH) :=
  GX12_isEnough_L2 a1 (fun h1 =>
   some (0, h1)) (fun h2 =>
   some (1, h2)) FU 0 h
theorem DX12_isEnough {d : Nat} {a1 : Int} {h : MH} {r : Int × MH} (hL : LR h) (hF : GX12_isEnough a1 h = some r) : RN xs L iX12_isEnough (d + 3) 0 (lvE 0 [.inr (.inr 334), .inl a1]) [] h (RIo r) ∧ LR r.2 ∧ KD h r.2 := by
  unfold GX12_isEnough at hF
  have hK : KD h h := KD.rf
  show RK xs L iX12_isEnough (d + 3) 0 (lvE 0 [.inr (.inr 334), .inl a1]) [] h (RIo r) h r.2
  refine RK.of (RN.blk (ops := [(0, .iconst 0), (1, .istore_n 2)]) (pc' := 2) (lv' := [(2, .inl 0), (0, .inr (.inr 334)), (1, .inl a1)]) (st' := []) (h' := h) (cs := []) (by decide +kernel) rfl trivial) ?_
  refine RK.sub (DX12_isEnough_L2 hK ?_ ?_ _ _ _ hL KD.rf hF) (sub_cons rfl (sub_cons rfl (sub_cons rfl sub_nil)))
  · intro h1 hL hq hF
    have hK := hK.tr hq
    refine RK.of (RN.blk (ops := [(61, .iconst 0)]) (pc' := 62) (lv' := []) (st' := [.inl 0]) (h' := h1) (cs := []) (by decide +kernel) rfl trivial) ?_
    exact RK.zR (by decide +kernel) rfl (Or.inl rfl) hL hK hF
  · intro h2 hL hq hF
    have hK := hK.tr hq
    refine RK.of (RN.blk (ops := [(75, .iconst 1)]) (pc' := 76) (lv' := []) (st' := [.inl 1]) (h' := h2) (cs := []) (by decide +kernel) rfl trivial) ?_
    exact RK.zR (by decide +kernel) rfl (Or.inr rfl) hL hK hF
noncomputable def GX12_fillsGoes_L2 (K0 : MH → Option (MH)) : Nat → Int → MH → Option (MH)
  | 0, _, _ => none
  | f + 1, v1, h =>
    (bd (GX12_codesMany h) (fun x2 h1 =>
     (if v1 < x2 then
      (bd (GX12_holeOf v1 h1) (fun x4 h3 =>
       gd [IB v1 256] (
        GX12_fillsGoes_L2 K0 f (m_w32 (v1 + 1)) (m_wr h3 347 v1 x4))))
     else
      K0 h1)))
theorem DX12_fillsGoes_L2 {d : Nat} {K0 : MH → Option (MH)} {r : MH} {h0 hB : MH} (hB0 : KD h0 hB) (hK0 : ∀ (h : MH), LR h → KD hB h → K0 h = some r → RK xs L iX12_fillsGoes (d + 4) 27 [] [] h (RVo r) h0 r) : ∀ (f : Nat) (v1 : Int) (h : MH), LR h → KD hB h → GX12_fillsGoes_L2 K0 f v1 h = some r → RK xs L iX12_fillsGoes (d + 4) 2 [(0, .inr (.inr 334)), (1, .inl v1)] [] h (RVo r) h0 r := by
  intro f
  induction f with
  | zero =>
    intro v1 h hL hJ hF
    cases hF
  | succ f ih =>
    intro v1 h hL hJ hF
    unfold GX12_fillsGoes_L2 at hF
    have hK := hB0.tr hJ
    refine RK.of (RN.blk (ops := [(2, .iload_n 1), (3, .aload_n 0)]) (pc' := 4) (lv' := [(0, .inr (.inr 334)), (1, .inl v1)]) (st' := [.inr (.inr 334), .inl v1]) (h' := h) (cs := []) (by decide +kernel) rfl trivial) ?_
    obtain ⟨x2, h1, hG, hF⟩ := bd_of hF
    have hq := rcv_ok (as := []) (TO.gk (o_334 hL))
    obtain ⟨hN, hL, hQ⟩ := DX12_codesMany (d := d + 2) hL  hG
    refine RK.of (RN.cv (i := 298) (k := 203) (q2 := iX12_codesMany) (as := [.inr (.inr 334)]) (r := [.inl v1]) (v := some (.inl x2)) (h1 := h1) (by decide +kernel) rfl rfl rfl rfl rfl hq hN) ?_
    have hK := hK.tr hQ
    have hJ := hJ.tr hQ
    rcases it_of hF with ⟨hb, hF⟩ | ⟨hb, hF⟩
    · refine RK.of (RN.icf (cd := .ge) (off := 20) (tgt := 27) (by decide +kernel) (mif_gen hb)) ?_
      refine RK.of (RN.blk (ops := [(10, .aload_n 0)]) (pc' := 11) (lv' := [(0, .inr (.inr 334)), (1, .inl v1)]) (st' := [.inr (.inr 334)]) (h' := h1) (cs := []) (by decide +kernel) rfl trivial) ?_
      refine RK.of (RN.gr (i := 52) (ci := 12) (k := 27) (fn := true) (v := 347) (by decide +kernel) rfl (TO.gk (o_334 hL)) (hL.fa (v := 347) 27 1 256 (o_334 hL) rfl (by decide) rfl (by decide)).1) ?_
      refine RK.of (RN.blk (ops := [(14, .iload_n 1), (15, .aload_n 0), (16, .iload_n 1)]) (pc' := 17) (lv' := [(0, .inr (.inr 334)), (1, .inl v1)]) (st' := [.inl v1, .inr (.inr 334), .inl v1, .inr (.inr 347)]) (h' := h1) (cs := []) (by decide +kernel) rfl trivial) ?_
      obtain ⟨x4, h3, hG, hF⟩ := bd_of hF
      have hq := rcv_ok (as := [.inl v1]) (TO.gk (o_334 hL))
      obtain ⟨hN, hL, hQ⟩ := DX12_holeOf (d := d) hL  hG
      refine RK.of (RN.cv (i := 322) (k := 209) (q2 := iX12_holeOf) (as := [.inr (.inr 334), .inl v1]) (r := [.inl v1, .inr (.inr 347)]) (v := some (.inl x4)) (h1 := h3) (by decide +kernel) rfl rfl rfl rfl rfl hq hN) ?_
      have hK := hK.tr hQ
      have hJ := hJ.tr hQ
      obtain ⟨hc, hF⟩ := gd_of hF
      refine RK.of (RN.blk (ops := [(20, .iastore)]) (pc' := 21) (lv' := [(0, .inr (.inr 334)), (1, .inl v1)]) (st' := []) (h' := (m_wr h3 347 v1 x4)) (cs := [GI h3 347 1 v1]) (by decide +kernel) rfl ⟨(a_347 hL).gi hc.1.1 hc.1.2, trivial⟩) ?_
      have hL : LR (m_wr h3 347 v1 x4) := hL.wa (TA.le5 (a_347 hL) (by decide))
      have hK := hK.tr (KD.wr : KD h3 (m_wr h3 347 v1 x4))
      have hJ := hJ.tr (KD.wr : KD h3 (m_wr h3 347 v1 x4))
      refine RK.of (RN.blk (ops := [(21, .iinc 1 1)]) (pc' := 24) (lv' := [(1, .inl (m_w32 (v1 + 1))), (0, .inr (.inr 334))]) (st' := []) (h' := (m_wr h3 347 v1 x4)) (cs := []) (by decide +kernel) rfl trivial) ?_
      refine RK.of (RN.goto (off := -22) (tgt := 2) (by decide +kernel)) ?_
      exact RK.sub (ih _ _ hL hJ hF) (sub_cons rfl (sub_cons rfl sub_nil))
    · refine RK.of (RN.ict (cd := .ge) (off := 20) (tgt := 27) (by decide +kernel) (mif_ge hb)) ?_
      exact RK.sub (hK0 _ hL hJ hF) sub_nil
noncomputable def GX12_fillsGoes (h : MH) : Option (MH) :=
  GX12_fillsGoes_L2 (fun h1 =>
   some h1) FU 0 h
theorem DX12_fillsGoes {d : Nat} {h : MH} {r : MH} (hL : LR h) (hF : GX12_fillsGoes h = some r) : RN xs L iX12_fillsGoes (d + 4) 0 (lvE 0 [.inr (.inr 334)]) [] h (RVo r) ∧ LR r ∧ KD h r := by
  unfold GX12_fillsGoes at hF
  have hK : KD h h := KD.rf
  show RK xs L iX12_fillsGoes (d + 4) 0 (lvE 0 [.inr (.inr 334)]) [] h (RVo r) h r
  refine RK.of (RN.blk (ops := [(0, .iconst 0), (1, .istore_n 1)]) (pc' := 2) (lv' := [(1, .inl 0), (0, .inr (.inr 334))]) (st' := []) (h' := h) (cs := []) (by decide +kernel) rfl trivial) ?_
  refine RK.sub (DX12_fillsGoes_L2 hK ?_ _ _ _ hL KD.rf hF) (sub_cons rfl (sub_cons rfl sub_nil))
  · intro h1 hL hq hF
    have hK := hK.tr hq
    exact RK.vR (by decide +kernel) rfl hL hK hF
noncomputable def GX12_read_L25 (u2 : Int) (K0 : Int → MH → Option (Int × MH)) : Nat → Int → Int → MH → Option (Int × MH)
  | 0, _, _, _ => none
  | f + 1, v3, v4, h =>
    (if v4 < (m_rd h 344 2) then
     gd [IB v4 4] (
      (if (m_rd h 346 v4) = 9 then
       GX12_read_L25 u2 K0 f (m_bor v3 (m_shl 1 v4)) (m_w32 (v4 + 1)) h
      else
       GX12_read_L25 u2 K0 f (m_bor v3 0) (m_w32 (v4 + 1)) h))
    else
     K0 v3 h)
theorem DX12_read_L25 {d : Nat} {u2 : Int} {K0 : Int → MH → Option (Int × MH)} {r : Int × MH} {h0 hB : MH} (hB0 : KD h0 hB) (hK0 : ∀ (w3 : Int) (h : MH), LR h → KD hB h → K0 w3 h = some r → RK xs L iX12_read (d + 5) 65 [(0, .inr (.inr 334)), (2, .inl u2), (3, .inl w3)] [] h (RIo r) h0 r.2) : ∀ (f : Nat) (v3 : Int) (v4 : Int) (h : MH), LR h → KD hB h → GX12_read_L25 u2 K0 f v3 v4 h = some r → RK xs L iX12_read (d + 5) 25 [(0, .inr (.inr 334)), (2, .inl u2), (3, .inl v3), (4, .inl v4)] [] h (RIo r) h0 r.2 := by
  intro f
  induction f with
  | zero =>
    intro v3 v4 h hL hJ hF
    cases hF
  | succ f ih =>
    intro v3 v4 h hL hJ hF
    unfold GX12_read_L25 at hF
    have hK := hB0.tr hJ
    refine RK.of (RN.blk (ops := [(25, .iload 4), (27, .aload_n 0)]) (pc' := 28) (lv' := [(0, .inr (.inr 334)), (2, .inl u2), (3, .inl v3), (4, .inl v4)]) (st' := [.inr (.inr 334), .inl v4]) (h' := h) (cs := []) (by decide +kernel) rfl trivial) ?_
    refine RK.of (RN.gr (i := 39) (ci := 12) (k := 20) (fn := true) (v := 344) (by decide +kernel) rfl (TO.gk (o_334 hL)) (hL.fa (v := 344) 20 1 167 (o_334 hL) rfl (by decide) rfl (by decide)).1) ?_
    refine RK.of (RN.blk (ops := [(31, .iconst 2), (32, .iaload)]) (pc' := 33) (lv' := [(0, .inr (.inr 334)), (2, .inl u2), (3, .inl v3), (4, .inl v4)]) (st' := [.inl (m_rd h 344 2), .inl v4]) (h' := h) (cs := [GI h 344 1 2]) (by decide +kernel) rfl ⟨(a_344 hL).gi (by decide) (by decide), trivial⟩) ?_
    rcases it_of hF with ⟨hb, hF⟩ | ⟨hb, hF⟩
    · refine RK.of (RN.icf (cd := .ge) (off := 32) (tgt := 65) (by decide +kernel) (mif_gen hb)) ?_
      refine RK.of (RN.blk (ops := [(36, .iload_n 3), (37, .aload_n 0)]) (pc' := 38) (lv' := [(0, .inr (.inr 334)), (2, .inl u2), (3, .inl v3), (4, .inl v4)]) (st' := [.inr (.inr 334), .inl v3]) (h' := h) (cs := []) (by decide +kernel) rfl trivial) ?_
      refine RK.of (RN.gr (i := 49) (ci := 12) (k := 26) (fn := true) (v := 346) (by decide +kernel) rfl (TO.gk (o_334 hL)) (hL.fa (v := 346) 26 1 4 (o_334 hL) rfl (by decide) rfl (by decide)).1) ?_
      obtain ⟨hc, hF⟩ := gd_of hF
      refine RK.of (RN.blk (ops := [(41, .iload 4), (43, .iaload), (44, .bipush 9)]) (pc' := 46) (lv' := [(0, .inr (.inr 334)), (2, .inl u2), (3, .inl v3), (4, .inl v4)]) (st' := [.inl 9, .inl (m_rd h 346 v4), .inl v3]) (h' := h) (cs := [GI h 346 1 v4]) (by decide +kernel) rfl ⟨(a_346 hL).gi hc.1.1 hc.1.2, trivial⟩) ?_
      rcases it_of hF with ⟨hb, hF⟩ | ⟨hb, hF⟩
      · refine RK.of (RN.icf (cd := .ne) (off := 10) (tgt := 56) (by decide +kernel) (mif_nen hb)) ?_
        refine RK.of (RN.blk (ops := [(49, .iconst 1), (50, .iload 4), (52, .ishl)]) (pc' := 53) (lv' := [(0, .inr (.inr 334)), (2, .inl u2), (3, .inl v3), (4, .inl v4)]) (st' := [.inl (m_shl 1 v4), .inl v3]) (h' := h) (cs := []) (by decide +kernel) rfl trivial) ?_
        refine RK.of (RN.goto (off := 4) (tgt := 57) (by decide +kernel)) ?_
        refine RK.of (RN.blk (ops := [(57, .ior), (58, .istore_n 3), (59, .iinc 4 1)]) (pc' := 62) (lv' := [(4, .inl (m_w32 (v4 + 1))), (3, .inl (m_bor v3 (m_shl 1 v4))), (0, .inr (.inr 334)), (2, .inl u2)]) (st' := []) (h' := h) (cs := []) (by decide +kernel) rfl trivial) ?_
        refine RK.of (RN.goto (off := -37) (tgt := 25) (by decide +kernel)) ?_
        exact RK.sub (ih _ _ _ hL hJ hF) (sub_cons rfl (sub_cons rfl (sub_cons rfl (sub_cons rfl sub_nil))))
      · refine RK.of (RN.ict (cd := .ne) (off := 10) (tgt := 56) (by decide +kernel) (mif_ne hb)) ?_
        refine RK.of (RN.blk (ops := [(56, .iconst 0)]) (pc' := 57) (lv' := [(0, .inr (.inr 334)), (2, .inl u2), (3, .inl v3), (4, .inl v4)]) (st' := [.inl 0, .inl v3]) (h' := h) (cs := []) (by decide +kernel) rfl trivial) ?_
        refine RK.of (RN.blk (ops := [(57, .ior), (58, .istore_n 3), (59, .iinc 4 1)]) (pc' := 62) (lv' := [(4, .inl (m_w32 (v4 + 1))), (3, .inl (m_bor v3 0)), (0, .inr (.inr 334)), (2, .inl u2)]) (st' := []) (h' := h) (cs := []) (by decide +kernel) rfl trivial) ?_
        refine RK.of (RN.goto (off := -37) (tgt := 25) (by decide +kernel)) ?_
        exact RK.sub (ih _ _ _ hL hJ hF) (sub_cons rfl (sub_cons rfl (sub_cons rfl (sub_cons rfl sub_nil))))
    · refine RK.of (RN.ict (cd := .ge) (off := 32) (tgt := 65) (by decide +kernel) (mif_ge hb)) ?_
      exact RK.sub (hK0 _ _ hL hJ hF) (sub_cons rfl (sub_cons rfl (sub_cons rfl sub_nil)))
noncomputable def GX12_read_L75 (u2 : Int) (u3 : Int) (K0 : Int → MH → Option (Int × MH)) : Nat → Int → Int → MH → Option (Int × MH)
  | 0, _, _, _ => none
  | f + 1, v4, v5, h =>
    (if v5 < u3 then
     (if (m_band v5 (m_bxor u3 (-1))) = 0 then
      (bd (GX12_bits v5 h) (fun x2 h1 =>
       (bd (GX12_bits v4 h1) (fun x4 h3 =>
        (if x2 < x4 then
         (bd (GX12_isEnough v5 h3) (fun x6 h5 =>
          (if x6 = 0 then
           GX12_read_L75 u2 u3 K0 f v4 (m_w32 (v5 + 1)) h5
          else
           GX12_read_L75 u2 u3 K0 f v5 (m_w32 (v5 + 1)) h5)))
        else
         GX12_read_L75 u2 u3 K0 f v4 (m_w32 (v5 + 1)) h3)))))
     else
      GX12_read_L75 u2 u3 K0 f v4 (m_w32 (v5 + 1)) h)
    else
     K0 v4 h)
theorem DX12_read_L75 {d : Nat} {u2 : Int} {u3 : Int} {K0 : Int → MH → Option (Int × MH)} {r : Int × MH} {h0 hB : MH} (hB0 : KD h0 hB) (hK0 : ∀ (w4 : Int) (h : MH), LR h → KD hB h → K0 w4 h = some r → RK xs L iX12_read (d + 5) 122 [(2, .inl u2), (4, .inl w4)] [] h (RIo r) h0 r.2) : ∀ (f : Nat) (v4 : Int) (v5 : Int) (h : MH), LR h → KD hB h → GX12_read_L75 u2 u3 K0 f v4 v5 h = some r → RK xs L iX12_read (d + 5) 75 [(0, .inr (.inr 334)), (2, .inl u2), (3, .inl u3), (4, .inl v4), (5, .inl v5)] [] h (RIo r) h0 r.2 := by
  intro f
  induction f with
  | zero =>
    intro v4 v5 h hL hJ hF
    cases hF
  | succ f ih =>
    intro v4 v5 h hL hJ hF
    unfold GX12_read_L75 at hF
    have hK := hB0.tr hJ
    refine RK.of (RN.blk (ops := [(75, .iload 5), (77, .iload_n 3)]) (pc' := 78) (lv' := [(0, .inr (.inr 334)), (2, .inl u2), (3, .inl u3), (4, .inl v4), (5, .inl v5)]) (st' := [.inl u3, .inl v5]) (h' := h) (cs := []) (by decide +kernel) rfl trivial) ?_
    rcases it_of hF with ⟨hb, hF⟩ | ⟨hb, hF⟩
    · refine RK.of (RN.icf (cd := .ge) (off := 44) (tgt := 122) (by decide +kernel) (mif_gen hb)) ?_
      refine RK.of (RN.blk (ops := [(81, .iload 5), (83, .iload_n 3), (84, .iconst (-1)), (85, .ixor), (86, .iand)]) (pc' := 87) (lv' := [(0, .inr (.inr 334)), (2, .inl u2), (3, .inl u3), (4, .inl v4), (5, .inl v5)]) (st' := [.inl (m_band v5 (m_bxor u3 (-1)))]) (h' := h) (cs := []) (by decide +kernel) rfl trivial) ?_
      rcases it_of hF with ⟨hb, hF⟩ | ⟨hb, hF⟩
      · refine RK.of (RN.iff (cd := .ne) (off := 29) (tgt := 116) (by decide +kernel) (mif_nen hb)) ?_
        refine RK.of (RN.blk (ops := [(90, .iload 5)]) (pc' := 92) (lv' := [(0, .inr (.inr 334)), (2, .inl u2), (3, .inl u3), (4, .inl v4), (5, .inl v5)]) (st' := [.inl v5]) (h' := h) (cs := []) (by decide +kernel) rfl trivial) ?_
        obtain ⟨x2, h1, hG, hF⟩ := bd_of hF
        obtain ⟨hN, hL, hQ⟩ := DX12_bits (d := d + 4) hL  hG
        refine RK.of (RN.cst (i := 390) (k := 158) (q2 := iX12_bits) (as := [.inl v5]) (r := []) (v := some (.inl x2)) (h1 := h1) (by decide +kernel) rfl rfl rfl rfl rfl hN) ?_
        have hK := hK.tr hQ
        have hJ := hJ.tr hQ
        refine RK.of (RN.blk (ops := [(95, .iload 4)]) (pc' := 97) (lv' := [(0, .inr (.inr 334)), (2, .inl u2), (3, .inl u3), (4, .inl v4), (5, .inl v5)]) (st' := [.inl v4, .inl x2]) (h' := h1) (cs := []) (by decide +kernel) rfl trivial) ?_
        obtain ⟨x4, h3, hG, hF⟩ := bd_of hF
        obtain ⟨hN, hL, hQ⟩ := DX12_bits (d := d + 4) hL  hG
        refine RK.of (RN.cst (i := 390) (k := 158) (q2 := iX12_bits) (as := [.inl v4]) (r := [.inl x2]) (v := some (.inl x4)) (h1 := h3) (by decide +kernel) rfl rfl rfl rfl rfl hN) ?_
        have hK := hK.tr hQ
        have hJ := hJ.tr hQ
        rcases it_of hF with ⟨hb, hF⟩ | ⟨hb, hF⟩
        · refine RK.of (RN.icf (cd := .ge) (off := 16) (tgt := 116) (by decide +kernel) (mif_gen hb)) ?_
          refine RK.of (RN.blk (ops := [(103, .aload_n 0), (104, .iload 5)]) (pc' := 106) (lv' := [(0, .inr (.inr 334)), (2, .inl u2), (3, .inl u3), (4, .inl v4), (5, .inl v5)]) (st' := [.inl v5, .inr (.inr 334)]) (h' := h3) (cs := []) (by decide +kernel) rfl trivial) ?_
          obtain ⟨x6, h5, hG, hF⟩ := bd_of hF
          have hq := rcv_ok (as := [.inl v5]) (TO.gk (o_334 hL))
          obtain ⟨hN, hL, hQ⟩ := DX12_isEnough (d := d + 1) hL  hG
          refine RK.of (RN.cv (i := 393) (k := 241) (q2 := iX12_isEnough) (as := [.inr (.inr 334), .inl v5]) (r := []) (v := some (.inl x6)) (h1 := h5) (by decide +kernel) rfl rfl rfl rfl rfl hq hN) ?_
          have hK := hK.tr hQ
          have hJ := hJ.tr hQ
          rcases it_of hF with ⟨hb, hF⟩ | ⟨hb, hF⟩
          · refine RK.of (RN.ift (cd := .eq) (off := 7) (tgt := 116) (by decide +kernel) (mif_eq hb)) ?_
            refine RK.of (RN.blk (ops := [(116, .iinc 5 1)]) (pc' := 119) (lv' := [(5, .inl (m_w32 (v5 + 1))), (0, .inr (.inr 334)), (2, .inl u2), (3, .inl u3), (4, .inl v4)]) (st' := []) (h' := h5) (cs := []) (by decide +kernel) rfl trivial) ?_
            refine RK.of (RN.goto (off := -44) (tgt := 75) (by decide +kernel)) ?_
            exact RK.sub (ih _ _ _ hL hJ hF) (sub_cons rfl (sub_cons rfl (sub_cons rfl (sub_cons rfl (sub_cons rfl sub_nil)))))
          · refine RK.of (RN.iff (cd := .eq) (off := 7) (tgt := 116) (by decide +kernel) (mif_eqn hb)) ?_
            refine RK.of (RN.blk (ops := [(112, .iload 5), (114, .istore 4)]) (pc' := 116) (lv' := [(4, .inl v5), (0, .inr (.inr 334)), (2, .inl u2), (3, .inl u3), (5, .inl v5)]) (st' := []) (h' := h5) (cs := []) (by decide +kernel) rfl trivial) ?_
            refine RK.of (RN.blk (ops := [(116, .iinc 5 1)]) (pc' := 119) (lv' := [(5, .inl (m_w32 (v5 + 1))), (4, .inl v5), (0, .inr (.inr 334)), (2, .inl u2), (3, .inl u3)]) (st' := []) (h' := h5) (cs := []) (by decide +kernel) rfl trivial) ?_
            refine RK.of (RN.goto (off := -44) (tgt := 75) (by decide +kernel)) ?_
            exact RK.sub (ih _ _ _ hL hJ hF) (sub_cons rfl (sub_cons rfl (sub_cons rfl (sub_cons rfl (sub_cons rfl sub_nil)))))
        · refine RK.of (RN.ict (cd := .ge) (off := 16) (tgt := 116) (by decide +kernel) (mif_ge hb)) ?_
          refine RK.of (RN.blk (ops := [(116, .iinc 5 1)]) (pc' := 119) (lv' := [(5, .inl (m_w32 (v5 + 1))), (0, .inr (.inr 334)), (2, .inl u2), (3, .inl u3), (4, .inl v4)]) (st' := []) (h' := h3) (cs := []) (by decide +kernel) rfl trivial) ?_
          refine RK.of (RN.goto (off := -44) (tgt := 75) (by decide +kernel)) ?_
          exact RK.sub (ih _ _ _ hL hJ hF) (sub_cons rfl (sub_cons rfl (sub_cons rfl (sub_cons rfl (sub_cons rfl sub_nil)))))
      · refine RK.of (RN.ift (cd := .ne) (off := 29) (tgt := 116) (by decide +kernel) (mif_ne hb)) ?_
        refine RK.of (RN.blk (ops := [(116, .iinc 5 1)]) (pc' := 119) (lv' := [(5, .inl (m_w32 (v5 + 1))), (0, .inr (.inr 334)), (2, .inl u2), (3, .inl u3), (4, .inl v4)]) (st' := []) (h' := h) (cs := []) (by decide +kernel) rfl trivial) ?_
        refine RK.of (RN.goto (off := -44) (tgt := 75) (by decide +kernel)) ?_
        exact RK.sub (ih _ _ _ hL hJ hF) (sub_cons rfl (sub_cons rfl (sub_cons rfl (sub_cons rfl (sub_cons rfl sub_nil)))))
    · refine RK.of (RN.ict (cd := .ge) (off := 44) (tgt := 122) (by decide +kernel) (mif_ge hb)) ?_
      exact RK.sub (hK0 _ _ hL hJ hF) (sub_cons rfl (sub_cons rfl sub_nil))
noncomputable def GX12_read (a1 : Int) (a2 : Int) (h : MH) : Option (Int × MH) :=
  (bd (GX12_isReading a1 h) (fun x2 h1 =>
   (if x2 = 0 then
    some ((-1), h1)
   else
    (bd (GX12_in a2 0 1 h1) (fun x4 h3 =>
     (if x4 = 0 then
      some ((-1), h3)
     else
      GX12_read_L25 a2 (fun w5 h6 =>
       (bv (GX12_fillsGoes h6) (fun h7 =>
        GX12_read_L75 a2 w5 (fun w8 h9 =>
         (if a2 = 0 then
          (bd (GX12_bits w8 h9) (fun x11 h10 =>
           some (x11, h10)))
         else
          some (w8, h9))) FU w5 0 h7))) FU 0 0 h3))))))
theorem DX12_read {d : Nat} {a1 : Int} {a2 : Int} {h : MH} {r : Int × MH} (hL : LR h) (hF : GX12_read a1 a2 h = some r) : RN xs L iX12_read (d + 5) 0 (lvE 0 [.inr (.inr 334), .inl a1, .inl a2]) [] h (RIo r) ∧ LR r.2 ∧ KD h r.2 := by
  unfold GX12_read at hF
  have hK : KD h h := KD.rf
  show RK xs L iX12_read (d + 5) 0 (lvE 0 [.inr (.inr 334), .inl a1, .inl a2]) [] h (RIo r) h r.2
  refine RK.of (RN.blk (ops := [(0, .aload_n 0), (1, .iload_n 1)]) (pc' := 2) (lv' := [(0, .inr (.inr 334)), (1, .inl a1), (2, .inl a2)]) (st' := [.inl a1, .inr (.inr 334)]) (h' := h) (cs := []) (by decide +kernel) rfl trivial) ?_
  obtain ⟨x2, h1, hG, hF⟩ := bd_of hF
  have hq := rcv_ok (as := [.inl a1]) (TO.gk (o_334 hL))
  obtain ⟨hN, hL, hQ⟩ := DX12_isReading (d := d + 3) hL  hG
  refine RK.of (RN.cv (i := 375) (k := 236) (q2 := iX12_isReading) (as := [.inr (.inr 334), .inl a1]) (r := []) (v := some (.inl x2)) (h1 := h1) (by decide +kernel) rfl rfl rfl rfl rfl hq hN) ?_
  have hK := hK.tr hQ
  rcases it_of hF with ⟨hb, hF⟩ | ⟨hb, hF⟩
  · refine RK.of (RN.ift (cd := .eq) (off := 13) (tgt := 18) (by decide +kernel) (mif_eq hb)) ?_
    refine RK.of (RN.blk (ops := [(18, .iconst (-1))]) (pc' := 19) (lv' := [(0, .inr (.inr 334)), (1, .inl a1), (2, .inl a2)]) (st' := [.inl (-1)]) (h' := h1) (cs := []) (by decide +kernel) rfl trivial) ?_
    exact RK.iR (by decide +kernel) rfl hL hK hF
  · refine RK.of (RN.iff (cd := .eq) (off := 13) (tgt := 18) (by decide +kernel) (mif_eqn hb)) ?_
    refine RK.of (RN.blk (ops := [(8, .iload_n 2), (9, .i2l), (10, .lconst 0), (11, .lconst 1)]) (pc' := 12) (lv' := [(0, .inr (.inr 334)), (1, .inl a1), (2, .inl a2)]) (st' := [.inr (.inl 1), .inr (.inl 0), .inr (.inl a2)]) (h' := h1) (cs := []) (by decide +kernel) rfl trivial) ?_
    obtain ⟨x4, h3, hG, hF⟩ := bd_of hF
    obtain ⟨hN, hL, hQ⟩ := DX12_in (d := d + 4) hL  hG
    refine RK.of (RN.cst (i := 127) (k := 156) (q2 := iX12_in) (as := [.inr (.inl a2), .inr (.inl 0), .inr (.inl 1)]) (r := []) (v := some (.inl x4)) (h1 := h3) (by decide +kernel) rfl rfl rfl rfl rfl hN) ?_
    have hK := hK.tr hQ
    rcases it_of hF with ⟨hb, hF⟩ | ⟨hb, hF⟩
    · refine RK.of (RN.iff (cd := .ne) (off := 5) (tgt := 20) (by decide +kernel) (mif_nen hb)) ?_
      refine RK.of (RN.blk (ops := [(18, .iconst (-1))]) (pc' := 19) (lv' := [(0, .inr (.inr 334)), (1, .inl a1), (2, .inl a2)]) (st' := [.inl (-1)]) (h' := h3) (cs := []) (by decide +kernel) rfl trivial) ?_
      exact RK.iR (by decide +kernel) rfl hL hK hF
    · refine RK.of (RN.ift (cd := .ne) (off := 5) (tgt := 20) (by decide +kernel) (mif_ne hb)) ?_
      refine RK.of (RN.blk (ops := [(20, .iconst 0), (21, .istore_n 3), (22, .iconst 0), (23, .istore 4)]) (pc' := 25) (lv' := [(4, .inl 0), (3, .inl 0), (0, .inr (.inr 334)), (1, .inl a1), (2, .inl a2)]) (st' := []) (h' := h3) (cs := []) (by decide +kernel) rfl trivial) ?_
      refine RK.sub (DX12_read_L25 hK ?_ _ _ _ _ hL KD.rf hF) (sub_cons rfl (sub_cons rfl (sub_cons rfl (sub_cons rfl sub_nil))))
      · intro w5 h6 hL hq hF
        have hK := hK.tr hq
        refine RK.of (RN.blk (ops := [(65, .iload_n 3), (66, .istore 4), (68, .aload_n 0)]) (pc' := 69) (lv' := [(4, .inl w5), (0, .inr (.inr 334)), (2, .inl a2), (3, .inl w5)]) (st' := [.inr (.inr 334)]) (h' := h6) (cs := []) (by decide +kernel) rfl trivial) ?_
        obtain ⟨h7, hG, hF⟩ := bv_of hF
        have hq := rcv_ok (as := []) (TO.gk (o_334 hL))
        obtain ⟨hN, hL, hQ⟩ := DX12_fillsGoes (d := d) hL  hG
        refine RK.of (RN.cv (i := 387) (k := 242) (q2 := iX12_fillsGoes) (as := [.inr (.inr 334)]) (r := []) (v := none) (h1 := h7) (by decide +kernel) rfl rfl rfl rfl rfl hq hN) ?_
        have hK := hK.tr hQ
        refine RK.of (RN.blk (ops := [(72, .iconst 0), (73, .istore 5)]) (pc' := 75) (lv' := [(5, .inl 0), (4, .inl w5), (0, .inr (.inr 334)), (2, .inl a2), (3, .inl w5)]) (st' := []) (h' := h7) (cs := []) (by decide +kernel) rfl trivial) ?_
        refine RK.sub (DX12_read_L75 hK ?_ _ _ _ _ hL KD.rf hF) (sub_cons rfl (sub_cons rfl (sub_cons rfl (sub_cons rfl (sub_cons rfl sub_nil)))))
        · intro w8 h9 hL hq hF
          have hK := hK.tr hq
          refine RK.of (RN.blk (ops := [(122, .iload_n 2)]) (pc' := 123) (lv' := [(2, .inl a2), (4, .inl w8)]) (st' := [.inl a2]) (h' := h9) (cs := []) (by decide +kernel) rfl trivial) ?_
          rcases it_of hF with ⟨hb, hF⟩ | ⟨hb, hF⟩
          · refine RK.of (RN.iff (cd := .ne) (off := 11) (tgt := 134) (by decide +kernel) (mif_nen hb)) ?_
            refine RK.of (RN.blk (ops := [(126, .iload 4)]) (pc' := 128) (lv' := [(2, .inl a2), (4, .inl w8)]) (st' := [.inl w8]) (h' := h9) (cs := []) (by decide +kernel) rfl trivial) ?_
            obtain ⟨x11, h10, hG, hF⟩ := bd_of hF
            obtain ⟨hN, hL, hQ⟩ := DX12_bits (d := d + 4) hL  hG
            refine RK.of (RN.cst (i := 390) (k := 158) (q2 := iX12_bits) (as := [.inl w8]) (r := []) (v := some (.inl x11)) (h1 := h10) (by decide +kernel) rfl rfl rfl rfl rfl hN) ?_
            have hK := hK.tr hQ
            refine RK.of (RN.goto (off := 5) (tgt := 136) (by decide +kernel)) ?_
            exact RK.iR (by decide +kernel) rfl hL hK hF
          · refine RK.of (RN.ift (cd := .ne) (off := 11) (tgt := 134) (by decide +kernel) (mif_ne hb)) ?_
            refine RK.of (RN.blk (ops := [(134, .iload 4)]) (pc' := 136) (lv' := [(2, .inl a2), (4, .inl w8)]) (st' := [.inl w8]) (h' := h9) (cs := []) (by decide +kernel) rfl trivial) ?_
            exact RK.iR (by decide +kernel) rfl hL hK hF
noncomputable def GX12_codes_L47 (u1 : Int) (u2 : Int) (K0 : Int → Int → MH → Option (Int × MH)) : Nat → Int → Int → Int → MH → Option (Int × MH)
  | 0, _, _, _, _ => none
  | f + 1, v3, v4, v5, h =>
    (if v5 < 0 then
     K0 v3 v4 h
    else
     (bd (GX12_holeOf v5 h) (fun x2 h1 =>
      (if x2 = u1 then
       GX12_codes_L47 u1 u2 K0 f (m_w32 (v3 + 1)) v5 (m_w32 (v5 + (-1))) h1
      else
       GX12_codes_L47 u1 u2 K0 f v3 v4 (m_w32 (v5 + (-1))) h1))))
theorem DX12_codes_L47 {d : Nat} {u1 : Int} {u2 : Int} {K0 : Int → Int → MH → Option (Int × MH)} {r : Int × MH} {h0 hB : MH} (hB0 : KD h0 hB) (hK0 : ∀ (w3 : Int) (w4 : Int) (h : MH), LR h → KD hB h → K0 w3 w4 h = some r → RK xs L iX12_codes (d + 4) 78 [(2, .inl u2), (3, .inl w3), (4, .inl w4)] [] h (RIo r) h0 r.2) : ∀ (f : Nat) (v3 : Int) (v4 : Int) (v5 : Int) (h : MH), LR h → KD hB h → GX12_codes_L47 u1 u2 K0 f v3 v4 v5 h = some r → RK xs L iX12_codes (d + 4) 47 [(0, .inr (.inr 334)), (1, .inl u1), (2, .inl u2), (3, .inl v3), (4, .inl v4), (5, .inl v5)] [] h (RIo r) h0 r.2 := by
  intro f
  induction f with
  | zero =>
    intro v3 v4 v5 h hL hJ hF
    cases hF
  | succ f ih =>
    intro v3 v4 v5 h hL hJ hF
    unfold GX12_codes_L47 at hF
    have hK := hB0.tr hJ
    refine RK.of (RN.blk (ops := [(47, .iload 5)]) (pc' := 49) (lv' := [(0, .inr (.inr 334)), (1, .inl u1), (2, .inl u2), (3, .inl v3), (4, .inl v4), (5, .inl v5)]) (st' := [.inl v5]) (h' := h) (cs := []) (by decide +kernel) rfl trivial) ?_
    rcases it_of hF with ⟨hb, hF⟩ | ⟨hb, hF⟩
    · refine RK.of (RN.ift (cd := .lt) (off := 29) (tgt := 78) (by decide +kernel) (mif_lt hb)) ?_
      exact RK.sub (hK0 _ _ _ hL hJ hF) (sub_cons rfl (sub_cons rfl (sub_cons rfl sub_nil)))
    · refine RK.of (RN.iff (cd := .lt) (off := 29) (tgt := 78) (by decide +kernel) (mif_ltn hb)) ?_
      refine RK.of (RN.blk (ops := [(52, .aload_n 0), (53, .iload 5)]) (pc' := 55) (lv' := [(0, .inr (.inr 334)), (1, .inl u1), (2, .inl u2), (3, .inl v3), (4, .inl v4), (5, .inl v5)]) (st' := [.inl v5, .inr (.inr 334)]) (h' := h) (cs := []) (by decide +kernel) rfl trivial) ?_
      obtain ⟨x2, h1, hG, hF⟩ := bd_of hF
      have hq := rcv_ok (as := [.inl v5]) (TO.gk (o_334 hL))
      obtain ⟨hN, hL, hQ⟩ := DX12_holeOf (d := d) hL  hG
      refine RK.of (RN.cv (i := 322) (k := 209) (q2 := iX12_holeOf) (as := [.inr (.inr 334), .inl v5]) (r := []) (v := some (.inl x2)) (h1 := h1) (by decide +kernel) rfl rfl rfl rfl rfl hq hN) ?_
      have hK := hK.tr hQ
      have hJ := hJ.tr hQ
      refine RK.of (RN.blk (ops := [(58, .iload_n 1)]) (pc' := 59) (lv' := [(0, .inr (.inr 334)), (1, .inl u1), (2, .inl u2), (3, .inl v3), (4, .inl v4), (5, .inl v5)]) (st' := [.inl u1, .inl x2]) (h' := h1) (cs := []) (by decide +kernel) rfl trivial) ?_
      rcases it_of hF with ⟨hb, hF⟩ | ⟨hb, hF⟩
      · refine RK.of (RN.ict (cd := .eq) (off := 6) (tgt := 65) (by decide +kernel) (mif_eq hb)) ?_
        refine RK.of (RN.blk (ops := [(65, .iinc 3 1), (68, .iload 5), (70, .istore 4)]) (pc' := 72) (lv' := [(4, .inl v5), (3, .inl (m_w32 (v3 + 1))), (0, .inr (.inr 334)), (1, .inl u1), (2, .inl u2), (5, .inl v5)]) (st' := []) (h' := h1) (cs := []) (by decide +kernel) rfl trivial) ?_
        refine RK.of (RN.blk (ops := [(72, .iinc 5 (-1))]) (pc' := 75) (lv' := [(5, .inl (m_w32 (v5 + (-1)))), (4, .inl v5), (3, .inl (m_w32 (v3 + 1))), (0, .inr (.inr 334)), (1, .inl u1), (2, .inl u2)]) (st' := []) (h' := h1) (cs := []) (by decide +kernel) rfl trivial) ?_
        refine RK.of (RN.goto (off := -28) (tgt := 47) (by decide +kernel)) ?_
        exact RK.sub (ih _ _ _ _ hL hJ hF) (sub_cons rfl (sub_cons rfl (sub_cons rfl (sub_cons rfl (sub_cons rfl (sub_cons rfl sub_nil))))))
      · refine RK.of (RN.icf (cd := .eq) (off := 6) (tgt := 65) (by decide +kernel) (mif_eqn hb)) ?_
        refine RK.of (RN.goto (off := 10) (tgt := 72) (by decide +kernel)) ?_
        refine RK.of (RN.blk (ops := [(72, .iinc 5 (-1))]) (pc' := 75) (lv' := [(5, .inl (m_w32 (v5 + (-1)))), (0, .inr (.inr 334)), (1, .inl u1), (2, .inl u2), (3, .inl v3), (4, .inl v4)]) (st' := []) (h' := h1) (cs := []) (by decide +kernel) rfl trivial) ?_
        refine RK.of (RN.goto (off := -28) (tgt := 47) (by decide +kernel)) ?_
        exact RK.sub (ih _ _ _ _ hL hJ hF) (sub_cons rfl (sub_cons rfl (sub_cons rfl (sub_cons rfl (sub_cons rfl (sub_cons rfl sub_nil))))))
noncomputable def GX12_codes (a1 : Int) (a2 : Int) (h : MH) : Option (Int × MH) :=
  (bd (GX12_isFrame h) (fun x2 h1 =>
   (if x2 = 0 then
    some ((-3), h1)
   else
    jn (fun (h4 : MH) =>
     (bd (GX12_in a2 0 1 h4) (fun x6 h5 =>
      (if x6 = 0 then
       some ((-3), h5)
      else
       (bd (GX12_codesMany h5) (fun x8 h7 =>
        GX12_codes_L47 a1 a2 (fun w9 w10 h11 =>
         (if a2 = 0 then
          some (w9, h11)
         else
          some (w10, h11))) FU 0 (-2) (m_w32 (x8 - 1)) h7)))))) (fun j3 =>
     (if a1 = (-1) then
      j3 h1
     else
      (bd (GX12_isHole a1 h1) (fun x13 h12 =>
       (if x13 = 0 then
        some ((-3), h12)
       else
        j3 h12))))))))
theorem DX12_codes {d : Nat} {a1 : Int} {a2 : Int} {h : MH} {r : Int × MH} (hL : LR h) (hF : GX12_codes a1 a2 h = some r) : RN xs L iX12_codes (d + 4) 0 (lvE 0 [.inr (.inr 334), .inl a1, .inl a2]) [] h (RIo r) ∧ LR r.2 ∧ KD h r.2 := by
  unfold GX12_codes at hF
  have hK : KD h h := KD.rf
  show RK xs L iX12_codes (d + 4) 0 (lvE 0 [.inr (.inr 334), .inl a1, .inl a2]) [] h (RIo r) h r.2
  refine RK.of (RN.blk (ops := [(0, .aload_n 0)]) (pc' := 1) (lv' := [(0, .inr (.inr 334)), (1, .inl a1), (2, .inl a2)]) (st' := [.inr (.inr 334)]) (h' := h) (cs := []) (by decide +kernel) rfl trivial) ?_
  obtain ⟨x2, h1, hG, hF⟩ := bd_of hF
  have hq := rcv_ok (as := []) (TO.gk (o_334 hL))
  obtain ⟨hN, hL, hQ⟩ := DX12_isFrame (d := d + 3) hL  hG
  refine RK.of (RN.cv (i := 295) (k := 202) (q2 := iX12_isFrame) (as := [.inr (.inr 334)]) (r := []) (v := some (.inl x2)) (h1 := h1) (by decide +kernel) rfl rfl rfl rfl rfl hq hN) ?_
  have hK := hK.tr hQ
  rcases it_of hF with ⟨hb, hF⟩ | ⟨hb, hF⟩
  · refine RK.of (RN.ift (cd := .eq) (off := 26) (tgt := 30) (by decide +kernel) (mif_eq hb)) ?_
    refine RK.of (RN.blk (ops := [(30, .bipush (-3))]) (pc' := 32) (lv' := [(0, .inr (.inr 334)), (1, .inl a1), (2, .inl a2)]) (st' := [.inl (-3)]) (h' := h1) (cs := []) (by decide +kernel) rfl trivial) ?_
    exact RK.iR (by decide +kernel) rfl hL hK hF
  · refine RK.of (RN.iff (cd := .eq) (off := 26) (tgt := 30) (by decide +kernel) (mif_eqn hb)) ?_
    refine RK.of (RN.blk (ops := [(7, .iload_n 1), (8, .iconst (-1))]) (pc' := 9) (lv' := [(0, .inr (.inr 334)), (1, .inl a1), (2, .inl a2)]) (st' := [.inl (-1), .inl a1]) (h' := h1) (cs := []) (by decide +kernel) rfl trivial) ?_
    refine jn_use (fun j3 => ∀ (h4 : MH), LR h4 → KD h h4 → j3 h4 = some r → RK xs L iX12_codes (d + 4) 20 [(0, .inr (.inr 334)), (1, .inl a1), (2, .inl a2)] [] h4 (RIo r) h r.2) ?_ ?_ hF
    · intro h4 hL hK hF
      refine RK.of (RN.blk (ops := [(20, .iload_n 2), (21, .i2l), (22, .lconst 0), (23, .lconst 1)]) (pc' := 24) (lv' := [(0, .inr (.inr 334)), (1, .inl a1), (2, .inl a2)]) (st' := [.inr (.inl 1), .inr (.inl 0), .inr (.inl a2)]) (h' := h4) (cs := []) (by decide +kernel) rfl trivial) ?_
      obtain ⟨x6, h5, hG, hF⟩ := bd_of hF
      obtain ⟨hN, hL, hQ⟩ := DX12_in (d := d + 3) hL  hG
      refine RK.of (RN.cst (i := 127) (k := 156) (q2 := iX12_in) (as := [.inr (.inl a2), .inr (.inl 0), .inr (.inl 1)]) (r := []) (v := some (.inl x6)) (h1 := h5) (by decide +kernel) rfl rfl rfl rfl rfl hN) ?_
      have hK := hK.tr hQ
      rcases it_of hF with ⟨hb, hF⟩ | ⟨hb, hF⟩
      · refine RK.of (RN.iff (cd := .ne) (off := 6) (tgt := 33) (by decide +kernel) (mif_nen hb)) ?_
        refine RK.of (RN.blk (ops := [(30, .bipush (-3))]) (pc' := 32) (lv' := [(0, .inr (.inr 334)), (1, .inl a1), (2, .inl a2)]) (st' := [.inl (-3)]) (h' := h5) (cs := []) (by decide +kernel) rfl trivial) ?_
        exact RK.iR (by decide +kernel) rfl hL hK hF
      · refine RK.of (RN.ift (cd := .ne) (off := 6) (tgt := 33) (by decide +kernel) (mif_ne hb)) ?_
        refine RK.of (RN.blk (ops := [(33, .iconst 0), (34, .istore_n 3), (35, .bipush (-2)), (37, .istore 4), (39, .aload_n 0)]) (pc' := 40) (lv' := [(4, .inl (-2)), (3, .inl 0), (0, .inr (.inr 334)), (1, .inl a1), (2, .inl a2)]) (st' := [.inr (.inr 334)]) (h' := h5) (cs := []) (by decide +kernel) rfl trivial) ?_
        obtain ⟨x8, h7, hG, hF⟩ := bd_of hF
        have hq := rcv_ok (as := []) (TO.gk (o_334 hL))
        obtain ⟨hN, hL, hQ⟩ := DX12_codesMany (d := d + 2) hL  hG
        refine RK.of (RN.cv (i := 298) (k := 203) (q2 := iX12_codesMany) (as := [.inr (.inr 334)]) (r := []) (v := some (.inl x8)) (h1 := h7) (by decide +kernel) rfl rfl rfl rfl rfl hq hN) ?_
        have hK := hK.tr hQ
        refine RK.of (RN.blk (ops := [(43, .iconst 1), (44, .isub), (45, .istore 5)]) (pc' := 47) (lv' := [(5, .inl (m_w32 (x8 - 1))), (4, .inl (-2)), (3, .inl 0), (0, .inr (.inr 334)), (1, .inl a1), (2, .inl a2)]) (st' := []) (h' := h7) (cs := []) (by decide +kernel) rfl trivial) ?_
        refine RK.sub (DX12_codes_L47 hK ?_ _ _ _ _ _ hL KD.rf hF) (sub_cons rfl (sub_cons rfl (sub_cons rfl (sub_cons rfl (sub_cons rfl (sub_cons rfl sub_nil))))))
        · intro w9 w10 h11 hL hq hF
          have hK := hK.tr hq
          refine RK.of (RN.blk (ops := [(78, .iload_n 2)]) (pc' := 79) (lv' := [(2, .inl a2), (3, .inl w9), (4, .inl w10)]) (st' := [.inl a2]) (h' := h11) (cs := []) (by decide +kernel) rfl trivial) ?_
          rcases it_of hF with ⟨hb, hF⟩ | ⟨hb, hF⟩
          · refine RK.of (RN.iff (cd := .ne) (off := 7) (tgt := 86) (by decide +kernel) (mif_nen hb)) ?_
            refine RK.of (RN.blk (ops := [(82, .iload_n 3)]) (pc' := 83) (lv' := [(2, .inl a2), (3, .inl w9), (4, .inl w10)]) (st' := [.inl w9]) (h' := h11) (cs := []) (by decide +kernel) rfl trivial) ?_
            refine RK.of (RN.goto (off := 5) (tgt := 88) (by decide +kernel)) ?_
            exact RK.iR (by decide +kernel) rfl hL hK hF
          · refine RK.of (RN.ift (cd := .ne) (off := 7) (tgt := 86) (by decide +kernel) (mif_ne hb)) ?_
            refine RK.of (RN.blk (ops := [(86, .iload 4)]) (pc' := 88) (lv' := [(2, .inl a2), (3, .inl w9), (4, .inl w10)]) (st' := [.inl w10]) (h' := h11) (cs := []) (by decide +kernel) rfl trivial) ?_
            exact RK.iR (by decide +kernel) rfl hL hK hF
    · intro j3 Jj3 hF
      rcases it_of hF with ⟨hb, hF⟩ | ⟨hb, hF⟩
      · refine RK.of (RN.ict (cd := .eq) (off := 11) (tgt := 20) (by decide +kernel) (mif_eq hb)) ?_
        exact RK.sub (Jj3 _ hL hK hF) (sub_cons rfl (sub_cons rfl (sub_cons rfl sub_nil)))
      · refine RK.of (RN.icf (cd := .eq) (off := 11) (tgt := 20) (by decide +kernel) (mif_eqn hb)) ?_
        refine RK.of (RN.blk (ops := [(12, .aload_n 0), (13, .iload_n 1)]) (pc' := 14) (lv' := [(0, .inr (.inr 334)), (1, .inl a1), (2, .inl a2)]) (st' := [.inl a1, .inr (.inr 334)]) (h' := h1) (cs := []) (by decide +kernel) rfl trivial) ?_
        obtain ⟨x13, h12, hG, hF⟩ := bd_of hF
        have hq := rcv_ok (as := [.inl a1]) (TO.gk (o_334 hL))
        obtain ⟨hN, hL, hQ⟩ := DX12_isHole (d := d + 3) hL  hG
        refine RK.of (RN.cv (i := 310) (k := 204) (q2 := iX12_isHole) (as := [.inr (.inr 334), .inl a1]) (r := []) (v := some (.inl x13)) (h1 := h12) (by decide +kernel) rfl rfl rfl rfl rfl hq hN) ?_
        have hK := hK.tr hQ
        rcases it_of hF with ⟨hb, hF⟩ | ⟨hb, hF⟩
        · refine RK.of (RN.ift (cd := .eq) (off := 13) (tgt := 30) (by decide +kernel) (mif_eq hb)) ?_
          refine RK.of (RN.blk (ops := [(30, .bipush (-3))]) (pc' := 32) (lv' := [(0, .inr (.inr 334)), (1, .inl a1), (2, .inl a2)]) (st' := [.inl (-3)]) (h' := h12) (cs := []) (by decide +kernel) rfl trivial) ?_
          exact RK.iR (by decide +kernel) rfl hL hK hF
        · refine RK.of (RN.iff (cd := .eq) (off := 13) (tgt := 30) (by decide +kernel) (mif_eqn hb)) ?_
          exact RK.sub (Jj3 _ hL hK hF) (sub_cons rfl (sub_cons rfl (sub_cons rfl sub_nil)))
noncomputable def GX12_slipsOf_L47 (u1 : Int) (u3 : Int) (u4 : Int) (u5 : Int) (K0 : Int → MH → Option (Int × MH)) : Nat → Int → Int → MH → Option (Int × MH)
  | 0, _, _, _ => none
  | f + 1, v2, v6, h =>
    (if v6 < (m_rd h 344 1) then
     (bd (GX12_holeOf (m_w32 (u5 + (m_w32 (v6 * u4)))) h) (fun x2 h1 =>
      (bd (GX12_holeOf u1 h1) (fun x4 h3 =>
       (if x2 = x4 then
        GX12_slipsOf_L47 u1 u3 u4 u5 K0 f (m_w32 (v2 + 0)) (m_w32 (v6 + 1)) h3
       else
        GX12_slipsOf_L47 u1 u3 u4 u5 K0 f (m_w32 (v2 + 1)) (m_w32 (v6 + 1)) h3)))))
    else
     K0 v2 h)
theorem DX12_slipsOf_L47 {d : Nat} {u1 : Int} {u3 : Int} {u4 : Int} {u5 : Int} {K0 : Int → MH → Option (Int × MH)} {r : Int × MH} {h0 hB : MH} (hB0 : KD h0 hB) (hK0 : ∀ (w2 : Int) (h : MH), LR h → KD hB h → K0 w2 h = some r → RK xs L iX12_slipsOf (d + 4) 92 [(0, .inr (.inr 334)), (1, .inl u1), (2, .inl w2), (3, .inl u3)] [] h (RIo r) h0 r.2) : ∀ (f : Nat) (v2 : Int) (v6 : Int) (h : MH), LR h → KD hB h → GX12_slipsOf_L47 u1 u3 u4 u5 K0 f v2 v6 h = some r → RK xs L iX12_slipsOf (d + 4) 47 [(0, .inr (.inr 334)), (1, .inl u1), (2, .inl v2), (3, .inl u3), (4, .inl u4), (5, .inl u5), (6, .inl v6)] [] h (RIo r) h0 r.2 := by
  intro f
  induction f with
  | zero =>
    intro v2 v6 h hL hJ hF
    cases hF
  | succ f ih =>
    intro v2 v6 h hL hJ hF
    unfold GX12_slipsOf_L47 at hF
    have hK := hB0.tr hJ
    refine RK.of (RN.blk (ops := [(47, .iload 6), (49, .aload_n 0)]) (pc' := 50) (lv' := [(0, .inr (.inr 334)), (1, .inl u1), (2, .inl v2), (3, .inl u3), (4, .inl u4), (5, .inl u5), (6, .inl v6)]) (st' := [.inr (.inr 334), .inl v6]) (h' := h) (cs := []) (by decide +kernel) rfl trivial) ?_
    refine RK.of (RN.gr (i := 39) (ci := 12) (k := 20) (fn := true) (v := 344) (by decide +kernel) rfl (TO.gk (o_334 hL)) (hL.fa (v := 344) 20 1 167 (o_334 hL) rfl (by decide) rfl (by decide)).1) ?_
    refine RK.of (RN.blk (ops := [(53, .iconst 1), (54, .iaload)]) (pc' := 55) (lv' := [(0, .inr (.inr 334)), (1, .inl u1), (2, .inl v2), (3, .inl u3), (4, .inl u4), (5, .inl u5), (6, .inl v6)]) (st' := [.inl (m_rd h 344 1), .inl v6]) (h' := h) (cs := [GI h 344 1 1]) (by decide +kernel) rfl ⟨(a_344 hL).gi (by decide) (by decide), trivial⟩) ?_
    rcases it_of hF with ⟨hb, hF⟩ | ⟨hb, hF⟩
    · refine RK.of (RN.icf (cd := .ge) (off := 37) (tgt := 92) (by decide +kernel) (mif_gen hb)) ?_
      refine RK.of (RN.blk (ops := [(58, .iload_n 2), (59, .aload_n 0), (60, .iload 5), (62, .iload 6), (64, .iload 4), (66, .imul), (67, .iadd)]) (pc' := 68) (lv' := [(0, .inr (.inr 334)), (1, .inl u1), (2, .inl v2), (3, .inl u3), (4, .inl u4), (5, .inl u5), (6, .inl v6)]) (st' := [.inl (m_w32 (u5 + (m_w32 (v6 * u4)))), .inr (.inr 334), .inl v2]) (h' := h) (cs := []) (by decide +kernel) rfl trivial) ?_
      obtain ⟨x2, h1, hG, hF⟩ := bd_of hF
      have hq := rcv_ok (as := [.inl (m_w32 (u5 + (m_w32 (v6 * u4))))]) (TO.gk (o_334 hL))
      obtain ⟨hN, hL, hQ⟩ := DX12_holeOf (d := d) hL  hG
      refine RK.of (RN.cv (i := 322) (k := 209) (q2 := iX12_holeOf) (as := [.inr (.inr 334), .inl (m_w32 (u5 + (m_w32 (v6 * u4))))]) (r := [.inl v2]) (v := some (.inl x2)) (h1 := h1) (by decide +kernel) rfl rfl rfl rfl rfl hq hN) ?_
      have hK := hK.tr hQ
      have hJ := hJ.tr hQ
      refine RK.of (RN.blk (ops := [(71, .aload_n 0), (72, .iload_n 1)]) (pc' := 73) (lv' := [(0, .inr (.inr 334)), (1, .inl u1), (2, .inl v2), (3, .inl u3), (4, .inl u4), (5, .inl u5), (6, .inl v6)]) (st' := [.inl u1, .inr (.inr 334), .inl x2, .inl v2]) (h' := h1) (cs := []) (by decide +kernel) rfl trivial) ?_
      obtain ⟨x4, h3, hG, hF⟩ := bd_of hF
      have hq := rcv_ok (as := [.inl u1]) (TO.gk (o_334 hL))
      obtain ⟨hN, hL, hQ⟩ := DX12_holeOf (d := d) hL  hG
      refine RK.of (RN.cv (i := 322) (k := 209) (q2 := iX12_holeOf) (as := [.inr (.inr 334), .inl u1]) (r := [.inl x2, .inl v2]) (v := some (.inl x4)) (h1 := h3) (by decide +kernel) rfl rfl rfl rfl rfl hq hN) ?_
      have hK := hK.tr hQ
      have hJ := hJ.tr hQ
      rcases it_of hF with ⟨hb, hF⟩ | ⟨hb, hF⟩
      · refine RK.of (RN.ict (cd := .eq) (off := 7) (tgt := 83) (by decide +kernel) (mif_eq hb)) ?_
        refine RK.of (RN.blk (ops := [(83, .iconst 0)]) (pc' := 84) (lv' := [(0, .inr (.inr 334)), (1, .inl u1), (2, .inl v2), (3, .inl u3), (4, .inl u4), (5, .inl u5), (6, .inl v6)]) (st' := [.inl 0, .inl v2]) (h' := h3) (cs := []) (by decide +kernel) rfl trivial) ?_
        refine RK.of (RN.blk (ops := [(84, .iadd), (85, .istore_n 2), (86, .iinc 6 1)]) (pc' := 89) (lv' := [(6, .inl (m_w32 (v6 + 1))), (2, .inl (m_w32 (v2 + 0))), (0, .inr (.inr 334)), (1, .inl u1), (3, .inl u3), (4, .inl u4), (5, .inl u5)]) (st' := []) (h' := h3) (cs := []) (by decide +kernel) rfl trivial) ?_
        refine RK.of (RN.goto (off := -42) (tgt := 47) (by decide +kernel)) ?_
        exact RK.sub (ih _ _ _ hL hJ hF) (sub_cons rfl (sub_cons rfl (sub_cons rfl (sub_cons rfl (sub_cons rfl (sub_cons rfl (sub_cons rfl sub_nil)))))))
      · refine RK.of (RN.icf (cd := .eq) (off := 7) (tgt := 83) (by decide +kernel) (mif_eqn hb)) ?_
        refine RK.of (RN.blk (ops := [(79, .iconst 1)]) (pc' := 80) (lv' := [(0, .inr (.inr 334)), (1, .inl u1), (2, .inl v2), (3, .inl u3), (4, .inl u4), (5, .inl u5), (6, .inl v6)]) (st' := [.inl 1, .inl v2]) (h' := h3) (cs := []) (by decide +kernel) rfl trivial) ?_
        refine RK.of (RN.goto (off := 4) (tgt := 84) (by decide +kernel)) ?_
        refine RK.of (RN.blk (ops := [(84, .iadd), (85, .istore_n 2), (86, .iinc 6 1)]) (pc' := 89) (lv' := [(6, .inl (m_w32 (v6 + 1))), (2, .inl (m_w32 (v2 + 1))), (0, .inr (.inr 334)), (1, .inl u1), (3, .inl u3), (4, .inl u4), (5, .inl u5)]) (st' := []) (h' := h3) (cs := []) (by decide +kernel) rfl trivial) ?_
        refine RK.of (RN.goto (off := -42) (tgt := 47) (by decide +kernel)) ?_
        exact RK.sub (ih _ _ _ hL hJ hF) (sub_cons rfl (sub_cons rfl (sub_cons rfl (sub_cons rfl (sub_cons rfl (sub_cons rfl (sub_cons rfl sub_nil)))))))
    · refine RK.of (RN.ict (cd := .ge) (off := 37) (tgt := 92) (by decide +kernel) (mif_ge hb)) ?_
      exact RK.sub (hK0 _ _ hL hJ hF) (sub_cons rfl (sub_cons rfl (sub_cons rfl (sub_cons rfl sub_nil))))
noncomputable def GX12_slipsOf_L4 (u1 : Int) (K0 : Int → MH → Option (Int × MH)) : Nat → Int → Int → MH → Option (Int × MH)
  | 0, _, _, _ => none
  | f + 1, v2, v3, h =>
    (if v3 < (m_rd h 344 2) then
     (bd (GX12_power (m_rd h 344 1) v3 h) (fun x2 h1 =>
      gd [(x2 : Int) ≠ 0] (
       gd [((m_rd h1 344 1) : Int) ≠ 0] (
        GX12_slipsOf_L47 u1 v3 x2 (m_w32 (u1 - (m_w32 ((Int.tmod (m_w32 (Int.tdiv u1 x2)) (m_rd h1 344 1)) * x2)))) (fun w3 h4 =>
         GX12_slipsOf_L4 u1 K0 f w3 (m_w32 (v3 + 1)) h4) FU v2 0 h1))))
    else
     K0 v2 h)
theorem DX12_slipsOf_L4 {d : Nat} {u1 : Int} {K0 : Int → MH → Option (Int × MH)} {r : Int × MH} {h0 hB : MH} (hB0 : KD h0 hB) (hK0 : ∀ (w2 : Int) (h : MH), LR h → KD hB h → K0 w2 h = some r → RK xs L iX12_slipsOf (d + 4) 98 [(2, .inl w2)] [] h (RIo r) h0 r.2) : ∀ (f : Nat) (v2 : Int) (v3 : Int) (h : MH), LR h → KD hB h → GX12_slipsOf_L4 u1 K0 f v2 v3 h = some r → RK xs L iX12_slipsOf (d + 4) 4 [(0, .inr (.inr 334)), (1, .inl u1), (2, .inl v2), (3, .inl v3)] [] h (RIo r) h0 r.2 := by
  intro f
  induction f with
  | zero =>
    intro v2 v3 h hL hJ hF
    cases hF
  | succ f ih =>
    intro v2 v3 h hL hJ hF
    unfold GX12_slipsOf_L4 at hF
    have hK := hB0.tr hJ
    refine RK.of (RN.blk (ops := [(4, .iload_n 3), (5, .aload_n 0)]) (pc' := 6) (lv' := [(0, .inr (.inr 334)), (1, .inl u1), (2, .inl v2), (3, .inl v3)]) (st' := [.inr (.inr 334), .inl v3]) (h' := h) (cs := []) (by decide +kernel) rfl trivial) ?_
    refine RK.of (RN.gr (i := 39) (ci := 12) (k := 20) (fn := true) (v := 344) (by decide +kernel) rfl (TO.gk (o_334 hL)) (hL.fa (v := 344) 20 1 167 (o_334 hL) rfl (by decide) rfl (by decide)).1) ?_
    refine RK.of (RN.blk (ops := [(9, .iconst 2), (10, .iaload)]) (pc' := 11) (lv' := [(0, .inr (.inr 334)), (1, .inl u1), (2, .inl v2), (3, .inl v3)]) (st' := [.inl (m_rd h 344 2), .inl v3]) (h' := h) (cs := [GI h 344 1 2]) (by decide +kernel) rfl ⟨(a_344 hL).gi (by decide) (by decide), trivial⟩) ?_
    rcases it_of hF with ⟨hb, hF⟩ | ⟨hb, hF⟩
    · refine RK.of (RN.icf (cd := .ge) (off := 87) (tgt := 98) (by decide +kernel) (mif_gen hb)) ?_
      refine RK.of (RN.blk (ops := [(14, .aload_n 0)]) (pc' := 15) (lv' := [(0, .inr (.inr 334)), (1, .inl u1), (2, .inl v2), (3, .inl v3)]) (st' := [.inr (.inr 334)]) (h' := h) (cs := []) (by decide +kernel) rfl trivial) ?_
      refine RK.of (RN.gr (i := 39) (ci := 12) (k := 20) (fn := true) (v := 344) (by decide +kernel) rfl (TO.gk (o_334 hL)) (hL.fa (v := 344) 20 1 167 (o_334 hL) rfl (by decide) rfl (by decide)).1) ?_
      refine RK.of (RN.blk (ops := [(18, .iconst 1), (19, .iaload), (20, .iload_n 3)]) (pc' := 21) (lv' := [(0, .inr (.inr 334)), (1, .inl u1), (2, .inl v2), (3, .inl v3)]) (st' := [.inl v3, .inl (m_rd h 344 1)]) (h' := h) (cs := [GI h 344 1 1]) (by decide +kernel) rfl ⟨(a_344 hL).gi (by decide) (by decide), trivial⟩) ?_
      obtain ⟨x2, h1, hG, hF⟩ := bd_of hF
      obtain ⟨hN, hL, hQ⟩ := DX12_power (d := d + 3) hL  hG
      refine RK.of (RN.cst (i := 229) (k := 159) (q2 := iX12_power) (as := [.inl (m_rd h 344 1), .inl v3]) (r := []) (v := some (.inl x2)) (h1 := h1) (by decide +kernel) rfl rfl rfl rfl rfl hN) ?_
      have hK := hK.tr hQ
      have hJ := hJ.tr hQ
      obtain ⟨hc, hF⟩ := gd_of hF
      refine RK.of (RN.blk (ops := [(24, .istore 4), (26, .iload_n 1), (27, .iload_n 1), (28, .iload 4), (30, .idiv), (31, .aload_n 0)]) (pc' := 32) (lv' := [(4, .inl x2), (0, .inr (.inr 334)), (1, .inl u1), (2, .inl v2), (3, .inl v3)]) (st' := [.inr (.inr 334), .inl (m_w32 (Int.tdiv u1 x2)), .inl u1]) (h' := h1) (cs := [(x2 : Int) ≠ 0]) (by decide +kernel) rfl ⟨hc.1, trivial⟩) ?_
      refine RK.of (RN.gr (i := 39) (ci := 12) (k := 20) (fn := true) (v := 344) (by decide +kernel) rfl (TO.gk (o_334 hL)) (hL.fa (v := 344) 20 1 167 (o_334 hL) rfl (by decide) rfl (by decide)).1) ?_
      obtain ⟨hc, hF⟩ := gd_of hF
      refine RK.of (RN.blk (ops := [(35, .iconst 1), (36, .iaload), (37, .irem), (38, .iload 4), (40, .imul), (41, .isub), (42, .istore 5), (44, .iconst 0), (45, .istore 6)]) (pc' := 47) (lv' := [(6, .inl 0), (5, .inl (m_w32 (u1 - (m_w32 ((Int.tmod (m_w32 (Int.tdiv u1 x2)) (m_rd h1 344 1)) * x2))))), (4, .inl x2), (0, .inr (.inr 334)), (1, .inl u1), (2, .inl v2), (3, .inl v3)]) (st' := []) (h' := h1) (cs := [GI h1 344 1 1, ((m_rd h1 344 1) : Int) ≠ 0]) (by decide +kernel) rfl ⟨(a_344 hL).gi (by decide) (by decide), hc.1, trivial⟩) ?_
      refine RK.sub (DX12_slipsOf_L47 hK ?_ _ _ _ _ hL KD.rf hF) (sub_cons rfl (sub_cons rfl (sub_cons rfl (sub_cons rfl (sub_cons rfl (sub_cons rfl (sub_cons rfl sub_nil)))))))
      · intro w3 h4 hL hq hF
        have hK := hK.tr hq
        have hJ := hJ.tr hq
        refine RK.of (RN.blk (ops := [(92, .iinc 3 1)]) (pc' := 95) (lv' := [(3, .inl (m_w32 (v3 + 1))), (0, .inr (.inr 334)), (1, .inl u1), (2, .inl w3)]) (st' := []) (h' := h4) (cs := []) (by decide +kernel) rfl trivial) ?_
        refine RK.of (RN.goto (off := -91) (tgt := 4) (by decide +kernel)) ?_
        exact RK.sub (ih _ _ _ hL hJ hF) (sub_cons rfl (sub_cons rfl (sub_cons rfl (sub_cons rfl sub_nil))))
    · refine RK.of (RN.ict (cd := .ge) (off := 87) (tgt := 98) (by decide +kernel) (mif_ge hb)) ?_
      exact RK.sub (hK0 _ _ hL hJ hF) (sub_cons rfl sub_nil)
noncomputable def GX12_slipsOf (a1 : Int) (h : MH) : Option (Int × MH) :=
  GX12_slipsOf_L4 a1 (fun w1 h2 =>
   some (w1, h2)) FU 0 0 h
theorem DX12_slipsOf {d : Nat} {a1 : Int} {h : MH} {r : Int × MH} (hL : LR h) (hF : GX12_slipsOf a1 h = some r) : RN xs L iX12_slipsOf (d + 4) 0 (lvE 0 [.inr (.inr 334), .inl a1]) [] h (RIo r) ∧ LR r.2 ∧ KD h r.2 := by
  unfold GX12_slipsOf at hF
  have hK : KD h h := KD.rf
  show RK xs L iX12_slipsOf (d + 4) 0 (lvE 0 [.inr (.inr 334), .inl a1]) [] h (RIo r) h r.2
  refine RK.of (RN.blk (ops := [(0, .iconst 0), (1, .istore_n 2), (2, .iconst 0), (3, .istore_n 3)]) (pc' := 4) (lv' := [(3, .inl 0), (2, .inl 0), (0, .inr (.inr 334)), (1, .inl a1)]) (st' := []) (h' := h) (cs := []) (by decide +kernel) rfl trivial) ?_
  refine RK.sub (DX12_slipsOf_L4 hK ?_ _ _ _ _ hL KD.rf hF) (sub_cons rfl (sub_cons rfl (sub_cons rfl (sub_cons rfl sub_nil))))
  · intro w1 h2 hL hq hF
    have hK := hK.tr hq
    refine RK.of (RN.blk (ops := [(98, .iload_n 2)]) (pc' := 99) (lv' := [(2, .inl w1)]) (st' := [.inl w1]) (h' := h2) (cs := []) (by decide +kernel) rfl trivial) ?_
    exact RK.iR (by decide +kernel) rfl hL hK hF
noncomputable def GX12_slips (a1 : Int) (h : MH) : Option (Int × MH) :=
  (bd (GX12_isCode a1 h) (fun x2 h1 =>
   (if x2 = 0 then
    some ((-1), h1)
   else
    (bd (GX12_slipsOf a1 h1) (fun x4 h3 =>
     some (x4, h3))))))
theorem DX12_slips {d : Nat} {a1 : Int} {h : MH} {r : Int × MH} (hL : LR h) (hF : GX12_slips a1 h = some r) : RN xs L iX12_slips (d + 5) 0 (lvE 0 [.inr (.inr 334), .inl a1]) [] h (RIo r) ∧ LR r.2 ∧ KD h r.2 := by
  unfold GX12_slips at hF
  have hK : KD h h := KD.rf
  show RK xs L iX12_slips (d + 5) 0 (lvE 0 [.inr (.inr 334), .inl a1]) [] h (RIo r) h r.2
  refine RK.of (RN.blk (ops := [(0, .aload_n 0), (1, .iload_n 1)]) (pc' := 2) (lv' := [(0, .inr (.inr 334)), (1, .inl a1)]) (st' := [.inl a1, .inr (.inr 334)]) (h' := h) (cs := []) (by decide +kernel) rfl trivial) ?_
  obtain ⟨x2, h1, hG, hF⟩ := bd_of hF
  have hq := rcv_ok (as := [.inl a1]) (TO.gk (o_334 hL))
  obtain ⟨hN, hL, hQ⟩ := DX12_isCode (d := d + 2) hL  hG
  refine RK.of (RN.cv (i := 356) (k := 206) (q2 := iX12_isCode) (as := [.inr (.inr 334), .inl a1]) (r := []) (v := some (.inl x2)) (h1 := h1) (by decide +kernel) rfl rfl rfl rfl rfl hq hN) ?_
  have hK := hK.tr hQ
  rcases it_of hF with ⟨hb, hF⟩ | ⟨hb, hF⟩
  · refine RK.of (RN.ift (cd := .eq) (off := 11) (tgt := 16) (by decide +kernel) (mif_eq hb)) ?_
    refine RK.of (RN.blk (ops := [(16, .iconst (-1))]) (pc' := 17) (lv' := [(0, .inr (.inr 334)), (1, .inl a1)]) (st' := [.inl (-1)]) (h' := h1) (cs := []) (by decide +kernel) rfl trivial) ?_
    exact RK.iR (by decide +kernel) rfl hL hK hF
  · refine RK.of (RN.iff (cd := .eq) (off := 11) (tgt := 16) (by decide +kernel) (mif_eqn hb)) ?_
    refine RK.of (RN.blk (ops := [(8, .aload_n 0), (9, .iload_n 1)]) (pc' := 10) (lv' := [(0, .inr (.inr 334)), (1, .inl a1)]) (st' := [.inl a1, .inr (.inr 334)]) (h' := h1) (cs := []) (by decide +kernel) rfl trivial) ?_
    obtain ⟨x4, h3, hG, hF⟩ := bd_of hF
    have hq := rcv_ok (as := [.inl a1]) (TO.gk (o_334 hL))
    obtain ⟨hN, hL, hQ⟩ := DX12_slipsOf (d := d) hL  hG
    refine RK.of (RN.cv (i := 396) (k := 245) (q2 := iX12_slipsOf) (as := [.inr (.inr 334), .inl a1]) (r := []) (v := some (.inl x4)) (h1 := h3) (by decide +kernel) rfl rfl rfl rfl rfl hq hN) ?_
    have hK := hK.tr hQ
    refine RK.of (RN.goto (off := 4) (tgt := 17) (by decide +kernel)) ?_
    exact RK.iR (by decide +kernel) rfl hL hK hF
noncomputable def GX12_worst_L26 (u1 : Int) (K0 : Int → Int → MH → Option (Int × MH)) : Nat → Int → Int → Int → MH → Option (Int × MH)
  | 0, _, _, _, _ => none
  | f + 1, v2, v3, v4, h =>
    (bd (GX12_codesMany h) (fun x2 h1 =>
     (if v4 < x2 then
      (bd (GX12_slipsOf v4 h1) (fun x4 h3 =>
       (if v3 < x4 then
        GX12_worst_L26 u1 K0 f v4 x4 (m_w32 (v4 + 1)) h3
       else
        GX12_worst_L26 u1 K0 f v2 v3 (m_w32 (v4 + 1)) h3)))
     else
      K0 v2 v3 h1)))
theorem DX12_worst_L26 {d : Nat} {u1 : Int} {K0 : Int → Int → MH → Option (Int × MH)} {r : Int × MH} {h0 hB : MH} (hB0 : KD h0 hB) (hK0 : ∀ (w2 : Int) (w3 : Int) (h : MH), LR h → KD hB h → K0 w2 w3 h = some r → RK xs L iX12_worst (d + 5) 64 [(1, .inl u1), (2, .inl w2), (3, .inl w3)] [] h (RIo r) h0 r.2) : ∀ (f : Nat) (v2 : Int) (v3 : Int) (v4 : Int) (h : MH), LR h → KD hB h → GX12_worst_L26 u1 K0 f v2 v3 v4 h = some r → RK xs L iX12_worst (d + 5) 26 [(0, .inr (.inr 334)), (1, .inl u1), (2, .inl v2), (3, .inl v3), (4, .inl v4)] [] h (RIo r) h0 r.2 := by
  intro f
  induction f with
  | zero =>
    intro v2 v3 v4 h hL hJ hF
    cases hF
  | succ f ih =>
    intro v2 v3 v4 h hL hJ hF
    unfold GX12_worst_L26 at hF
    have hK := hB0.tr hJ
    refine RK.of (RN.blk (ops := [(26, .iload 4), (28, .aload_n 0)]) (pc' := 29) (lv' := [(0, .inr (.inr 334)), (1, .inl u1), (2, .inl v2), (3, .inl v3), (4, .inl v4)]) (st' := [.inr (.inr 334), .inl v4]) (h' := h) (cs := []) (by decide +kernel) rfl trivial) ?_
    obtain ⟨x2, h1, hG, hF⟩ := bd_of hF
    have hq := rcv_ok (as := []) (TO.gk (o_334 hL))
    obtain ⟨hN, hL, hQ⟩ := DX12_codesMany (d := d + 3) hL  hG
    refine RK.of (RN.cv (i := 298) (k := 203) (q2 := iX12_codesMany) (as := [.inr (.inr 334)]) (r := [.inl v4]) (v := some (.inl x2)) (h1 := h1) (by decide +kernel) rfl rfl rfl rfl rfl hq hN) ?_
    have hK := hK.tr hQ
    have hJ := hJ.tr hQ
    rcases it_of hF with ⟨hb, hF⟩ | ⟨hb, hF⟩
    · refine RK.of (RN.icf (cd := .ge) (off := 32) (tgt := 64) (by decide +kernel) (mif_gen hb)) ?_
      refine RK.of (RN.blk (ops := [(35, .aload_n 0), (36, .iload 4)]) (pc' := 38) (lv' := [(0, .inr (.inr 334)), (1, .inl u1), (2, .inl v2), (3, .inl v3), (4, .inl v4)]) (st' := [.inl v4, .inr (.inr 334)]) (h' := h1) (cs := []) (by decide +kernel) rfl trivial) ?_
      obtain ⟨x4, h3, hG, hF⟩ := bd_of hF
      have hq := rcv_ok (as := [.inl v4]) (TO.gk (o_334 hL))
      obtain ⟨hN, hL, hQ⟩ := DX12_slipsOf (d := d) hL  hG
      refine RK.of (RN.cv (i := 396) (k := 245) (q2 := iX12_slipsOf) (as := [.inr (.inr 334), .inl v4]) (r := []) (v := some (.inl x4)) (h1 := h3) (by decide +kernel) rfl rfl rfl rfl rfl hq hN) ?_
      have hK := hK.tr hQ
      have hJ := hJ.tr hQ
      refine RK.of (RN.blk (ops := [(41, .istore 5), (43, .iload 5), (45, .iload_n 3)]) (pc' := 46) (lv' := [(5, .inl x4), (0, .inr (.inr 334)), (1, .inl u1), (2, .inl v2), (3, .inl v3), (4, .inl v4)]) (st' := [.inl v3, .inl x4]) (h' := h3) (cs := []) (by decide +kernel) rfl trivial) ?_
      rcases it_of hF with ⟨hb, hF⟩ | ⟨hb, hF⟩
      · refine RK.of (RN.ict (cd := .gt) (off := 6) (tgt := 52) (by decide +kernel) (mif_gt hb)) ?_
        refine RK.of (RN.blk (ops := [(52, .iload 4), (54, .istore_n 2), (55, .iload 5), (57, .istore_n 3)]) (pc' := 58) (lv' := [(3, .inl x4), (2, .inl v4), (5, .inl x4), (0, .inr (.inr 334)), (1, .inl u1), (4, .inl v4)]) (st' := []) (h' := h3) (cs := []) (by decide +kernel) rfl trivial) ?_
        refine RK.of (RN.blk (ops := [(58, .iinc 4 1)]) (pc' := 61) (lv' := [(4, .inl (m_w32 (v4 + 1))), (3, .inl x4), (2, .inl v4), (5, .inl x4), (0, .inr (.inr 334)), (1, .inl u1)]) (st' := []) (h' := h3) (cs := []) (by decide +kernel) rfl trivial) ?_
        refine RK.of (RN.goto (off := -35) (tgt := 26) (by decide +kernel)) ?_
        exact RK.sub (ih _ _ _ _ hL hJ hF) (sub_cons rfl (sub_cons rfl (sub_cons rfl (sub_cons rfl (sub_cons rfl sub_nil)))))
      · refine RK.of (RN.icf (cd := .gt) (off := 6) (tgt := 52) (by decide +kernel) (mif_gtn hb)) ?_
        refine RK.of (RN.goto (off := 9) (tgt := 58) (by decide +kernel)) ?_
        refine RK.of (RN.blk (ops := [(58, .iinc 4 1)]) (pc' := 61) (lv' := [(4, .inl (m_w32 (v4 + 1))), (5, .inl x4), (0, .inr (.inr 334)), (1, .inl u1), (2, .inl v2), (3, .inl v3)]) (st' := []) (h' := h3) (cs := []) (by decide +kernel) rfl trivial) ?_
        refine RK.of (RN.goto (off := -35) (tgt := 26) (by decide +kernel)) ?_
        exact RK.sub (ih _ _ _ _ hL hJ hF) (sub_cons rfl (sub_cons rfl (sub_cons rfl (sub_cons rfl (sub_cons rfl sub_nil)))))
    · refine RK.of (RN.ict (cd := .ge) (off := 32) (tgt := 64) (by decide +kernel) (mif_ge hb)) ?_
      exact RK.sub (hK0 _ _ _ hL hJ hF) (sub_cons rfl (sub_cons rfl (sub_cons rfl sub_nil)))
noncomputable def GX12_worst (a1 : Int) (h : MH) : Option (Int × MH) :=
  (bd (GX12_isFrame h) (fun x2 h1 =>
   (if x2 = 0 then
    some ((-1), h1)
   else
    (bd (GX12_in a1 0 1 h1) (fun x4 h3 =>
     (if x4 = 0 then
      some ((-1), h3)
     else
      GX12_worst_L26 a1 (fun w5 w6 h7 =>
       (if a1 = 0 then
        some (w5, h7)
       else
        some (w6, h7))) FU 0 0 0 h3))))))
theorem DX12_worst {d : Nat} {a1 : Int} {h : MH} {r : Int × MH} (hL : LR h) (hF : GX12_worst a1 h = some r) : RN xs L iX12_worst (d + 5) 0 (lvE 0 [.inr (.inr 334), .inl a1]) [] h (RIo r) ∧ LR r.2 ∧ KD h r.2 := by
  unfold GX12_worst at hF
  have hK : KD h h := KD.rf
  show RK xs L iX12_worst (d + 5) 0 (lvE 0 [.inr (.inr 334), .inl a1]) [] h (RIo r) h r.2
  refine RK.of (RN.blk (ops := [(0, .aload_n 0)]) (pc' := 1) (lv' := [(0, .inr (.inr 334)), (1, .inl a1)]) (st' := [.inr (.inr 334)]) (h' := h) (cs := []) (by decide +kernel) rfl trivial) ?_
  obtain ⟨x2, h1, hG, hF⟩ := bd_of hF
  have hq := rcv_ok (as := []) (TO.gk (o_334 hL))
  obtain ⟨hN, hL, hQ⟩ := DX12_isFrame (d := d + 4) hL  hG
  refine RK.of (RN.cv (i := 295) (k := 202) (q2 := iX12_isFrame) (as := [.inr (.inr 334)]) (r := []) (v := some (.inl x2)) (h1 := h1) (by decide +kernel) rfl rfl rfl rfl rfl hq hN) ?_
  have hK := hK.tr hQ
  rcases it_of hF with ⟨hb, hF⟩ | ⟨hb, hF⟩
  · refine RK.of (RN.ift (cd := .eq) (off := 13) (tgt := 17) (by decide +kernel) (mif_eq hb)) ?_
    refine RK.of (RN.blk (ops := [(17, .iconst (-1))]) (pc' := 18) (lv' := [(0, .inr (.inr 334)), (1, .inl a1)]) (st' := [.inl (-1)]) (h' := h1) (cs := []) (by decide +kernel) rfl trivial) ?_
    exact RK.iR (by decide +kernel) rfl hL hK hF
  · refine RK.of (RN.iff (cd := .eq) (off := 13) (tgt := 17) (by decide +kernel) (mif_eqn hb)) ?_
    refine RK.of (RN.blk (ops := [(7, .iload_n 1), (8, .i2l), (9, .lconst 0), (10, .lconst 1)]) (pc' := 11) (lv' := [(0, .inr (.inr 334)), (1, .inl a1)]) (st' := [.inr (.inl 1), .inr (.inl 0), .inr (.inl a1)]) (h' := h1) (cs := []) (by decide +kernel) rfl trivial) ?_
    obtain ⟨x4, h3, hG, hF⟩ := bd_of hF
    obtain ⟨hN, hL, hQ⟩ := DX12_in (d := d + 4) hL  hG
    refine RK.of (RN.cst (i := 127) (k := 156) (q2 := iX12_in) (as := [.inr (.inl a1), .inr (.inl 0), .inr (.inl 1)]) (r := []) (v := some (.inl x4)) (h1 := h3) (by decide +kernel) rfl rfl rfl rfl rfl hN) ?_
    have hK := hK.tr hQ
    rcases it_of hF with ⟨hb, hF⟩ | ⟨hb, hF⟩
    · refine RK.of (RN.iff (cd := .ne) (off := 5) (tgt := 19) (by decide +kernel) (mif_nen hb)) ?_
      refine RK.of (RN.blk (ops := [(17, .iconst (-1))]) (pc' := 18) (lv' := [(0, .inr (.inr 334)), (1, .inl a1)]) (st' := [.inl (-1)]) (h' := h3) (cs := []) (by decide +kernel) rfl trivial) ?_
      exact RK.iR (by decide +kernel) rfl hL hK hF
    · refine RK.of (RN.ift (cd := .ne) (off := 5) (tgt := 19) (by decide +kernel) (mif_ne hb)) ?_
      refine RK.of (RN.blk (ops := [(19, .iconst 0), (20, .istore_n 2), (21, .iconst 0), (22, .istore_n 3), (23, .iconst 0), (24, .istore 4)]) (pc' := 26) (lv' := [(4, .inl 0), (3, .inl 0), (2, .inl 0), (0, .inr (.inr 334)), (1, .inl a1)]) (st' := []) (h' := h3) (cs := []) (by decide +kernel) rfl trivial) ?_
      refine RK.sub (DX12_worst_L26 hK ?_ _ _ _ _ _ hL KD.rf hF) (sub_cons rfl (sub_cons rfl (sub_cons rfl (sub_cons rfl (sub_cons rfl sub_nil)))))
      · intro w5 w6 h7 hL hq hF
        have hK := hK.tr hq
        refine RK.of (RN.blk (ops := [(64, .iload_n 1)]) (pc' := 65) (lv' := [(1, .inl a1), (2, .inl w5), (3, .inl w6)]) (st' := [.inl a1]) (h' := h7) (cs := []) (by decide +kernel) rfl trivial) ?_
        rcases it_of hF with ⟨hb, hF⟩ | ⟨hb, hF⟩
        · refine RK.of (RN.iff (cd := .ne) (off := 7) (tgt := 72) (by decide +kernel) (mif_nen hb)) ?_
          refine RK.of (RN.blk (ops := [(68, .iload_n 2)]) (pc' := 69) (lv' := [(1, .inl a1), (2, .inl w5), (3, .inl w6)]) (st' := [.inl w5]) (h' := h7) (cs := []) (by decide +kernel) rfl trivial) ?_
          refine RK.of (RN.goto (off := 4) (tgt := 73) (by decide +kernel)) ?_
          exact RK.iR (by decide +kernel) rfl hL hK hF
        · refine RK.of (RN.ift (cd := .ne) (off := 7) (tgt := 72) (by decide +kernel) (mif_ne hb)) ?_
          refine RK.of (RN.blk (ops := [(72, .iload_n 3)]) (pc' := 73) (lv' := [(1, .inl a1), (2, .inl w5), (3, .inl w6)]) (st' := [.inl w6]) (h' := h7) (cs := []) (by decide +kernel) rfl trivial) ?_
          exact RK.iR (by decide +kernel) rfl hL hK hF
noncomputable def GX12_idle_L23 (K0 : Int → MH → Option (Int × MH)) : Nat → Int → Int → MH → Option (Int × MH)
  | 0, _, _, _ => none
  | f + 1, v1, v2, h =>
    (bd (GX12_codesMany h) (fun x2 h1 =>
     (if v2 < x2 then
      (bd (GX12_entryOf v2 h1) (fun x4 h3 =>
       (if x4 < 0 then
        GX12_idle_L23 K0 f v1 (m_w32 (v2 + 1)) h3
       else
        (bd (GX12_entryOf v2 h3) (fun x6 h5 =>
         GX12_idle_L23 K0 f (m_band v1 (m_bxor (m_shl 1 x6) (-1))) (m_w32 (v2 + 1)) h5)))))
     else
      K0 v1 h1)))
theorem DX12_idle_L23 {d : Nat} {K0 : Int → MH → Option (Int × MH)} {r : Int × MH} {h0 hB : MH} (hB0 : KD h0 hB) (hK0 : ∀ (w1 : Int) (h : MH), LR h → KD hB h → K0 w1 h = some r → RK xs L iX12_idle (d + 3) 57 [(1, .inl w1)] [] h (RIo r) h0 r.2) : ∀ (f : Nat) (v1 : Int) (v2 : Int) (h : MH), LR h → KD hB h → GX12_idle_L23 K0 f v1 v2 h = some r → RK xs L iX12_idle (d + 3) 23 [(0, .inr (.inr 334)), (1, .inl v1), (2, .inl v2)] [] h (RIo r) h0 r.2 := by
  intro f
  induction f with
  | zero =>
    intro v1 v2 h hL hJ hF
    cases hF
  | succ f ih =>
    intro v1 v2 h hL hJ hF
    unfold GX12_idle_L23 at hF
    have hK := hB0.tr hJ
    refine RK.of (RN.blk (ops := [(23, .iload_n 2), (24, .aload_n 0)]) (pc' := 25) (lv' := [(0, .inr (.inr 334)), (1, .inl v1), (2, .inl v2)]) (st' := [.inr (.inr 334), .inl v2]) (h' := h) (cs := []) (by decide +kernel) rfl trivial) ?_
    obtain ⟨x2, h1, hG, hF⟩ := bd_of hF
    have hq := rcv_ok (as := []) (TO.gk (o_334 hL))
    obtain ⟨hN, hL, hQ⟩ := DX12_codesMany (d := d + 1) hL  hG
    refine RK.of (RN.cv (i := 298) (k := 203) (q2 := iX12_codesMany) (as := [.inr (.inr 334)]) (r := [.inl v2]) (v := some (.inl x2)) (h1 := h1) (by decide +kernel) rfl rfl rfl rfl rfl hq hN) ?_
    have hK := hK.tr hQ
    have hJ := hJ.tr hQ
    rcases it_of hF with ⟨hb, hF⟩ | ⟨hb, hF⟩
    · refine RK.of (RN.icf (cd := .ge) (off := 29) (tgt := 57) (by decide +kernel) (mif_gen hb)) ?_
      refine RK.of (RN.blk (ops := [(31, .aload_n 0), (32, .iload_n 2)]) (pc' := 33) (lv' := [(0, .inr (.inr 334)), (1, .inl v1), (2, .inl v2)]) (st' := [.inl v2, .inr (.inr 334)]) (h' := h1) (cs := []) (by decide +kernel) rfl trivial) ?_
      obtain ⟨x4, h3, hG, hF⟩ := bd_of hF
      have hq := rcv_ok (as := [.inl v2]) (TO.gk (o_334 hL))
      obtain ⟨hN, hL, hQ⟩ := DX12_entryOf (d := d) hL  hG
      refine RK.of (RN.cv (i := 304) (k := 208) (q2 := iX12_entryOf) (as := [.inr (.inr 334), .inl v2]) (r := []) (v := some (.inl x4)) (h1 := h3) (by decide +kernel) rfl rfl rfl rfl rfl hq hN) ?_
      have hK := hK.tr hQ
      have hJ := hJ.tr hQ
      rcases it_of hF with ⟨hb, hF⟩ | ⟨hb, hF⟩
      · refine RK.of (RN.ift (cd := .lt) (off := 15) (tgt := 51) (by decide +kernel) (mif_lt hb)) ?_
        refine RK.of (RN.blk (ops := [(51, .iinc 2 1)]) (pc' := 54) (lv' := [(2, .inl (m_w32 (v2 + 1))), (0, .inr (.inr 334)), (1, .inl v1)]) (st' := []) (h' := h3) (cs := []) (by decide +kernel) rfl trivial) ?_
        refine RK.of (RN.goto (off := -31) (tgt := 23) (by decide +kernel)) ?_
        exact RK.sub (ih _ _ _ hL hJ hF) (sub_cons rfl (sub_cons rfl (sub_cons rfl sub_nil)))
      · refine RK.of (RN.iff (cd := .lt) (off := 15) (tgt := 51) (by decide +kernel) (mif_ltn hb)) ?_
        refine RK.of (RN.blk (ops := [(39, .iload_n 1), (40, .iconst 1), (41, .aload_n 0), (42, .iload_n 2)]) (pc' := 43) (lv' := [(0, .inr (.inr 334)), (1, .inl v1), (2, .inl v2)]) (st' := [.inl v2, .inr (.inr 334), .inl 1, .inl v1]) (h' := h3) (cs := []) (by decide +kernel) rfl trivial) ?_
        obtain ⟨x6, h5, hG, hF⟩ := bd_of hF
        have hq := rcv_ok (as := [.inl v2]) (TO.gk (o_334 hL))
        obtain ⟨hN, hL, hQ⟩ := DX12_entryOf (d := d) hL  hG
        refine RK.of (RN.cv (i := 304) (k := 208) (q2 := iX12_entryOf) (as := [.inr (.inr 334), .inl v2]) (r := [.inl 1, .inl v1]) (v := some (.inl x6)) (h1 := h5) (by decide +kernel) rfl rfl rfl rfl rfl hq hN) ?_
        have hK := hK.tr hQ
        have hJ := hJ.tr hQ
        refine RK.of (RN.blk (ops := [(46, .ishl), (47, .iconst (-1)), (48, .ixor), (49, .iand), (50, .istore_n 1)]) (pc' := 51) (lv' := [(1, .inl (m_band v1 (m_bxor (m_shl 1 x6) (-1)))), (0, .inr (.inr 334)), (2, .inl v2)]) (st' := []) (h' := h5) (cs := []) (by decide +kernel) rfl trivial) ?_
        refine RK.of (RN.blk (ops := [(51, .iinc 2 1)]) (pc' := 54) (lv' := [(2, .inl (m_w32 (v2 + 1))), (1, .inl (m_band v1 (m_bxor (m_shl 1 x6) (-1)))), (0, .inr (.inr 334))]) (st' := []) (h' := h5) (cs := []) (by decide +kernel) rfl trivial) ?_
        refine RK.of (RN.goto (off := -31) (tgt := 23) (by decide +kernel)) ?_
        exact RK.sub (ih _ _ _ hL hJ hF) (sub_cons rfl (sub_cons rfl (sub_cons rfl sub_nil)))
    · refine RK.of (RN.ict (cd := .ge) (off := 29) (tgt := 57) (by decide +kernel) (mif_ge hb)) ?_
      exact RK.sub (hK0 _ _ hL hJ hF) (sub_cons rfl sub_nil)
noncomputable def GX12_idle (h : MH) : Option (Int × MH) :=
  (bd (GX12_isFrame h) (fun x2 h1 =>
   (if x2 = 0 then
    some ((-1), h1)
   else
    GX12_idle_L23 (fun w3 h4 =>
     some (w3, h4)) FU (m_w32 ((m_shl 1 (m_rd h1 344 13)) - 1)) 0 h1)))
theorem DX12_idle {d : Nat} {h : MH} {r : Int × MH} (hL : LR h) (hF : GX12_idle h = some r) : RN xs L iX12_idle (d + 3) 0 (lvE 0 [.inr (.inr 334)]) [] h (RIo r) ∧ LR r.2 ∧ KD h r.2 := by
  unfold GX12_idle at hF
  have hK : KD h h := KD.rf
  show RK xs L iX12_idle (d + 3) 0 (lvE 0 [.inr (.inr 334)]) [] h (RIo r) h r.2
  refine RK.of (RN.blk (ops := [(0, .aload_n 0)]) (pc' := 1) (lv' := [(0, .inr (.inr 334))]) (st' := [.inr (.inr 334)]) (h' := h) (cs := []) (by decide +kernel) rfl trivial) ?_
  obtain ⟨x2, h1, hG, hF⟩ := bd_of hF
  have hq := rcv_ok (as := []) (TO.gk (o_334 hL))
  obtain ⟨hN, hL, hQ⟩ := DX12_isFrame (d := d + 2) hL  hG
  refine RK.of (RN.cv (i := 295) (k := 202) (q2 := iX12_isFrame) (as := [.inr (.inr 334)]) (r := []) (v := some (.inl x2)) (h1 := h1) (by decide +kernel) rfl rfl rfl rfl rfl hq hN) ?_
  have hK := hK.tr hQ
  rcases it_of hF with ⟨hb, hF⟩ | ⟨hb, hF⟩
  · refine RK.of (RN.iff (cd := .ne) (off := 5) (tgt := 9) (by decide +kernel) (mif_nen hb)) ?_
    refine RK.of (RN.blk (ops := [(7, .iconst (-1))]) (pc' := 8) (lv' := [(0, .inr (.inr 334))]) (st' := [.inl (-1)]) (h' := h1) (cs := []) (by decide +kernel) rfl trivial) ?_
    exact RK.iR (by decide +kernel) rfl hL hK hF
  · refine RK.of (RN.ift (cd := .ne) (off := 5) (tgt := 9) (by decide +kernel) (mif_ne hb)) ?_
    refine RK.of (RN.blk (ops := [(9, .iconst 1), (10, .aload_n 0)]) (pc' := 11) (lv' := [(0, .inr (.inr 334))]) (st' := [.inr (.inr 334), .inl 1]) (h' := h1) (cs := []) (by decide +kernel) rfl trivial) ?_
    refine RK.of (RN.gr (i := 39) (ci := 12) (k := 20) (fn := true) (v := 344) (by decide +kernel) rfl (TO.gk (o_334 hL)) (hL.fa (v := 344) 20 1 167 (o_334 hL) rfl (by decide) rfl (by decide)).1) ?_
    refine RK.of (RN.blk (ops := [(14, .bipush 13), (16, .iaload), (17, .ishl), (18, .iconst 1), (19, .isub), (20, .istore_n 1), (21, .iconst 0), (22, .istore_n 2)]) (pc' := 23) (lv' := [(2, .inl 0), (1, .inl (m_w32 ((m_shl 1 (m_rd h1 344 13)) - 1))), (0, .inr (.inr 334))]) (st' := []) (h' := h1) (cs := [GI h1 344 1 13]) (by decide +kernel) rfl ⟨(a_344 hL).gi (by decide) (by decide), trivial⟩) ?_
    refine RK.sub (DX12_idle_L23 hK ?_ _ _ _ _ hL KD.rf hF) (sub_cons rfl (sub_cons rfl (sub_cons rfl sub_nil)))
    · intro w3 h4 hL hq hF
      have hK := hK.tr hq
      refine RK.of (RN.blk (ops := [(57, .iload_n 1)]) (pc' := 58) (lv' := [(1, .inl w3)]) (st' := [.inl w3]) (h' := h4) (cs := []) (by decide +kernel) rfl trivial) ?_
      exact RK.iR (by decide +kernel) rfl hL hK hF
noncomputable def GX12_needsOfCodes_L31 (u1 : Int) (u2 : Int) (K0 : MH → Option (MH)) : Nat → Int → MH → Option (MH)
  | 0, _, _ => none
  | f + 1, v3, h =>
    (if 6 < v3 then
     K0 h
    else
     (if v3 = u2 then
      gd [IB (m_w32 ((m_w32 (7 * u1)) + v3)) 1792] (
       GX12_needsOfCodes_L31 u1 u2 K0 f (m_w32 (v3 + 1)) (m_wr h 348 (m_w32 ((m_w32 (7 * u1)) + v3)) 0))
     else
      (if u2 = 6 then
       gd [IB (m_w32 ((m_w32 (7 * u1)) + v3)) 1792] (
        GX12_needsOfCodes_L31 u1 u2 K0 f (m_w32 (v3 + 1)) (m_wr h 348 (m_w32 ((m_w32 (7 * u1)) + v3)) 9999))
      else
       gd [IB (m_w32 ((m_w32 (7 * u1)) + v3)) 1792] (
        GX12_needsOfCodes_L31 u1 u2 K0 f (m_w32 (v3 + 1)) (m_wr h 348 (m_w32 ((m_w32 (7 * u1)) + v3)) 1)))))
theorem DX12_needsOfCodes_L31 {d : Nat} {u1 : Int} {u2 : Int} {K0 : MH → Option (MH)} {r : MH} {h0 hB : MH} (hB0 : KD h0 hB) (hK0 : ∀ (h : MH), LR h → KD hB h → K0 h = some r → RK xs L iX12_needsOfCodes (d + 4) 76 [(0, .inr (.inr 334)), (1, .inl u1)] [] h (RVo r) h0 r) : ∀ (f : Nat) (v3 : Int) (h : MH), LR h → KD hB h → GX12_needsOfCodes_L31 u1 u2 K0 f v3 h = some r → RK xs L iX12_needsOfCodes (d + 4) 31 [(0, .inr (.inr 334)), (1, .inl u1), (2, .inl u2), (3, .inl v3)] [] h (RVo r) h0 r := by
  intro f
  induction f with
  | zero =>
    intro v3 h hL hJ hF
    cases hF
  | succ f ih =>
    intro v3 h hL hJ hF
    unfold GX12_needsOfCodes_L31 at hF
    have hK := hB0.tr hJ
    refine RK.of (RN.blk (ops := [(31, .iload_n 3), (32, .bipush 6)]) (pc' := 34) (lv' := [(0, .inr (.inr 334)), (1, .inl u1), (2, .inl u2), (3, .inl v3)]) (st' := [.inl 6, .inl v3]) (h' := h) (cs := []) (by decide +kernel) rfl trivial) ?_
    rcases it_of hF with ⟨hb, hF⟩ | ⟨hb, hF⟩
    · refine RK.of (RN.ict (cd := .gt) (off := 42) (tgt := 76) (by decide +kernel) (mif_gt hb)) ?_
      exact RK.sub (hK0 _ hL hJ hF) (sub_cons rfl (sub_cons rfl sub_nil))
    · refine RK.of (RN.icf (cd := .gt) (off := 42) (tgt := 76) (by decide +kernel) (mif_gtn hb)) ?_
      refine RK.of (RN.blk (ops := [(37, .aload_n 0)]) (pc' := 38) (lv' := [(0, .inr (.inr 334)), (1, .inl u1), (2, .inl u2), (3, .inl v3)]) (st' := [.inr (.inr 334)]) (h' := h) (cs := []) (by decide +kernel) rfl trivial) ?_
      refine RK.of (RN.gr (i := 55) (ci := 12) (k := 28) (fn := true) (v := 348) (by decide +kernel) rfl (TO.gk (o_334 hL)) (hL.fa (v := 348) 28 1 1792 (o_334 hL) rfl (by decide) rfl (by decide)).1) ?_
      refine RK.of (RN.blk (ops := [(41, .bipush 7), (43, .iload_n 1), (44, .imul), (45, .iload_n 3), (46, .iadd), (47, .iload_n 3), (48, .iload_n 2)]) (pc' := 49) (lv' := [(0, .inr (.inr 334)), (1, .inl u1), (2, .inl u2), (3, .inl v3)]) (st' := [.inl u2, .inl v3, .inl (m_w32 ((m_w32 (7 * u1)) + v3)), .inr (.inr 348)]) (h' := h) (cs := []) (by decide +kernel) rfl trivial) ?_
      rcases it_of hF with ⟨hb, hF⟩ | ⟨hb, hF⟩
      · refine RK.of (RN.icf (cd := .ne) (off := 7) (tgt := 56) (by decide +kernel) (mif_nen hb)) ?_
        refine RK.of (RN.blk (ops := [(52, .iconst 0)]) (pc' := 53) (lv' := [(0, .inr (.inr 334)), (1, .inl u1), (2, .inl u2), (3, .inl v3)]) (st' := [.inl 0, .inl (m_w32 ((m_w32 (7 * u1)) + v3)), .inr (.inr 348)]) (h' := h) (cs := []) (by decide +kernel) rfl trivial) ?_
        refine RK.of (RN.goto (off := 16) (tgt := 69) (by decide +kernel)) ?_
        obtain ⟨hc, hF⟩ := gd_of hF
        refine RK.of (RN.blk (ops := [(69, .iastore)]) (pc' := 70) (lv' := [(0, .inr (.inr 334)), (1, .inl u1), (2, .inl u2), (3, .inl v3)]) (st' := []) (h' := (m_wr h 348 (m_w32 ((m_w32 (7 * u1)) + v3)) 0)) (cs := [GI h 348 1 (m_w32 ((m_w32 (7 * u1)) + v3))]) (by decide +kernel) rfl ⟨(a_348 hL).gi hc.1.1 hc.1.2, trivial⟩) ?_
        have hL : LR (m_wr h 348 (m_w32 ((m_w32 (7 * u1)) + v3)) 0) := hL.wa (TA.le5 (a_348 hL) (by decide))
        have hK := hK.tr (KD.wr : KD h (m_wr h 348 (m_w32 ((m_w32 (7 * u1)) + v3)) 0))
        have hJ := hJ.tr (KD.wr : KD h (m_wr h 348 (m_w32 ((m_w32 (7 * u1)) + v3)) 0))
        refine RK.of (RN.blk (ops := [(70, .iinc 3 1)]) (pc' := 73) (lv' := [(3, .inl (m_w32 (v3 + 1))), (0, .inr (.inr 334)), (1, .inl u1), (2, .inl u2)]) (st' := []) (h' := (m_wr h 348 (m_w32 ((m_w32 (7 * u1)) + v3)) 0)) (cs := []) (by decide +kernel) rfl trivial) ?_
        refine RK.of (RN.goto (off := -42) (tgt := 31) (by decide +kernel)) ?_
        exact RK.sub (ih _ _ hL hJ hF) (sub_cons rfl (sub_cons rfl (sub_cons rfl (sub_cons rfl sub_nil))))
      · refine RK.of (RN.ict (cd := .ne) (off := 7) (tgt := 56) (by decide +kernel) (mif_ne hb)) ?_
        refine RK.of (RN.blk (ops := [(56, .iload_n 2), (57, .bipush 6)]) (pc' := 59) (lv' := [(0, .inr (.inr 334)), (1, .inl u1), (2, .inl u2), (3, .inl v3)]) (st' := [.inl 6, .inl u2, .inl (m_w32 ((m_w32 (7 * u1)) + v3)), .inr (.inr 348)]) (h' := h) (cs := []) (by decide +kernel) rfl trivial) ?_
        rcases it_of hF with ⟨hb, hF⟩ | ⟨hb, hF⟩
        · refine RK.of (RN.icf (cd := .ne) (off := 9) (tgt := 68) (by decide +kernel) (mif_nen hb)) ?_
          refine RK.of (RN.blk (ops := [(62, .sipush 9999)]) (pc' := 65) (lv' := [(0, .inr (.inr 334)), (1, .inl u1), (2, .inl u2), (3, .inl v3)]) (st' := [.inl 9999, .inl (m_w32 ((m_w32 (7 * u1)) + v3)), .inr (.inr 348)]) (h' := h) (cs := []) (by decide +kernel) rfl trivial) ?_
          refine RK.of (RN.goto (off := 4) (tgt := 69) (by decide +kernel)) ?_
          obtain ⟨hc, hF⟩ := gd_of hF
          refine RK.of (RN.blk (ops := [(69, .iastore)]) (pc' := 70) (lv' := [(0, .inr (.inr 334)), (1, .inl u1), (2, .inl u2), (3, .inl v3)]) (st' := []) (h' := (m_wr h 348 (m_w32 ((m_w32 (7 * u1)) + v3)) 9999)) (cs := [GI h 348 1 (m_w32 ((m_w32 (7 * u1)) + v3))]) (by decide +kernel) rfl ⟨(a_348 hL).gi hc.1.1 hc.1.2, trivial⟩) ?_
          have hL : LR (m_wr h 348 (m_w32 ((m_w32 (7 * u1)) + v3)) 9999) := hL.wa (TA.le5 (a_348 hL) (by decide))
          have hK := hK.tr (KD.wr : KD h (m_wr h 348 (m_w32 ((m_w32 (7 * u1)) + v3)) 9999))
          have hJ := hJ.tr (KD.wr : KD h (m_wr h 348 (m_w32 ((m_w32 (7 * u1)) + v3)) 9999))
          refine RK.of (RN.blk (ops := [(70, .iinc 3 1)]) (pc' := 73) (lv' := [(3, .inl (m_w32 (v3 + 1))), (0, .inr (.inr 334)), (1, .inl u1), (2, .inl u2)]) (st' := []) (h' := (m_wr h 348 (m_w32 ((m_w32 (7 * u1)) + v3)) 9999)) (cs := []) (by decide +kernel) rfl trivial) ?_
          refine RK.of (RN.goto (off := -42) (tgt := 31) (by decide +kernel)) ?_
          exact RK.sub (ih _ _ hL hJ hF) (sub_cons rfl (sub_cons rfl (sub_cons rfl (sub_cons rfl sub_nil))))
        · refine RK.of (RN.ict (cd := .ne) (off := 9) (tgt := 68) (by decide +kernel) (mif_ne hb)) ?_
          refine RK.of (RN.blk (ops := [(68, .iconst 1)]) (pc' := 69) (lv' := [(0, .inr (.inr 334)), (1, .inl u1), (2, .inl u2), (3, .inl v3)]) (st' := [.inl 1, .inl (m_w32 ((m_w32 (7 * u1)) + v3)), .inr (.inr 348)]) (h' := h) (cs := []) (by decide +kernel) rfl trivial) ?_
          obtain ⟨hc, hF⟩ := gd_of hF
          refine RK.of (RN.blk (ops := [(69, .iastore)]) (pc' := 70) (lv' := [(0, .inr (.inr 334)), (1, .inl u1), (2, .inl u2), (3, .inl v3)]) (st' := []) (h' := (m_wr h 348 (m_w32 ((m_w32 (7 * u1)) + v3)) 1)) (cs := [GI h 348 1 (m_w32 ((m_w32 (7 * u1)) + v3))]) (by decide +kernel) rfl ⟨(a_348 hL).gi hc.1.1 hc.1.2, trivial⟩) ?_
          have hL : LR (m_wr h 348 (m_w32 ((m_w32 (7 * u1)) + v3)) 1) := hL.wa (TA.le5 (a_348 hL) (by decide))
          have hK := hK.tr (KD.wr : KD h (m_wr h 348 (m_w32 ((m_w32 (7 * u1)) + v3)) 1))
          have hJ := hJ.tr (KD.wr : KD h (m_wr h 348 (m_w32 ((m_w32 (7 * u1)) + v3)) 1))
          refine RK.of (RN.blk (ops := [(70, .iinc 3 1)]) (pc' := 73) (lv' := [(3, .inl (m_w32 (v3 + 1))), (0, .inr (.inr 334)), (1, .inl u1), (2, .inl u2)]) (st' := []) (h' := (m_wr h 348 (m_w32 ((m_w32 (7 * u1)) + v3)) 1)) (cs := []) (by decide +kernel) rfl trivial) ?_
          refine RK.of (RN.goto (off := -42) (tgt := 31) (by decide +kernel)) ?_
          exact RK.sub (ih _ _ hL hJ hF) (sub_cons rfl (sub_cons rfl (sub_cons rfl (sub_cons rfl sub_nil))))
noncomputable def GX12_needsOfCodes_L2 (K0 : MH → Option (MH)) : Nat → Int → MH → Option (MH)
  | 0, _, _ => none
  | f + 1, v1, h =>
    (bd (GX12_codesMany h) (fun x2 h1 =>
     (if v1 < x2 then
      (bd (GX12_holeOf v1 h1) (fun x4 h3 =>
       jn (fun (s6 : Int) (h7 : MH) =>
        GX12_needsOfCodes_L31 v1 s6 (fun h8 =>
         GX12_needsOfCodes_L2 K0 f (m_w32 (v1 + 1)) h8) FU 0 h7) (fun j5 =>
        (if x4 < 0 then
         j5 6 h3
        else
         (bd (GX12_holeOf v1 h3) (fun x10 h9 =>
          j5 x10 h9))))))
     else
      K0 h1)))
theorem DX12_needsOfCodes_L2 {d : Nat} {K0 : MH → Option (MH)} {r : MH} {h0 hB : MH} (hB0 : KD h0 hB) (hK0 : ∀ (h : MH), LR h → KD hB h → K0 h = some r → RK xs L iX12_needsOfCodes (d + 4) 82 [] [] h (RVo r) h0 r) : ∀ (f : Nat) (v1 : Int) (h : MH), LR h → KD hB h → GX12_needsOfCodes_L2 K0 f v1 h = some r → RK xs L iX12_needsOfCodes (d + 4) 2 [(0, .inr (.inr 334)), (1, .inl v1)] [] h (RVo r) h0 r := by
  intro f
  induction f with
  | zero =>
    intro v1 h hL hJ hF
    cases hF
  | succ f ih =>
    intro v1 h hL hJ hF
    unfold GX12_needsOfCodes_L2 at hF
    have hK := hB0.tr hJ
    refine RK.of (RN.blk (ops := [(2, .iload_n 1), (3, .aload_n 0)]) (pc' := 4) (lv' := [(0, .inr (.inr 334)), (1, .inl v1)]) (st' := [.inr (.inr 334), .inl v1]) (h' := h) (cs := []) (by decide +kernel) rfl trivial) ?_
    obtain ⟨x2, h1, hG, hF⟩ := bd_of hF
    have hq := rcv_ok (as := []) (TO.gk (o_334 hL))
    obtain ⟨hN, hL, hQ⟩ := DX12_codesMany (d := d + 2) hL  hG
    refine RK.of (RN.cv (i := 298) (k := 203) (q2 := iX12_codesMany) (as := [.inr (.inr 334)]) (r := [.inl v1]) (v := some (.inl x2)) (h1 := h1) (by decide +kernel) rfl rfl rfl rfl rfl hq hN) ?_
    have hK := hK.tr hQ
    have hJ := hJ.tr hQ
    rcases it_of hF with ⟨hb, hF⟩ | ⟨hb, hF⟩
    · refine RK.of (RN.icf (cd := .ge) (off := 75) (tgt := 82) (by decide +kernel) (mif_gen hb)) ?_
      refine RK.of (RN.blk (ops := [(10, .aload_n 0), (11, .iload_n 1)]) (pc' := 12) (lv' := [(0, .inr (.inr 334)), (1, .inl v1)]) (st' := [.inl v1, .inr (.inr 334)]) (h' := h1) (cs := []) (by decide +kernel) rfl trivial) ?_
      obtain ⟨x4, h3, hG, hF⟩ := bd_of hF
      have hq := rcv_ok (as := [.inl v1]) (TO.gk (o_334 hL))
      obtain ⟨hN, hL, hQ⟩ := DX12_holeOf (d := d) hL  hG
      refine RK.of (RN.cv (i := 322) (k := 209) (q2 := iX12_holeOf) (as := [.inr (.inr 334), .inl v1]) (r := []) (v := some (.inl x4)) (h1 := h3) (by decide +kernel) rfl rfl rfl rfl rfl hq hN) ?_
      have hK := hK.tr hQ
      have hJ := hJ.tr hQ
      refine jn_use (fun j5 => ∀ (s6 : Int) (h7 : MH), LR h7 → KD hB h7 → j5 s6 h7 = some r → RK xs L iX12_needsOfCodes (d + 4) 28 [(0, .inr (.inr 334)), (1, .inl v1)] [.inl s6] h7 (RVo r) h0 r) ?_ ?_ hF
      · intro s6 h7 hL hJ hF
        have hK := hB0.tr hJ
        refine RK.of (RN.blk (ops := [(28, .istore_n 2), (29, .iconst 0), (30, .istore_n 3)]) (pc' := 31) (lv' := [(3, .inl 0), (2, .inl s6), (0, .inr (.inr 334)), (1, .inl v1)]) (st' := []) (h' := h7) (cs := []) (by decide +kernel) rfl trivial) ?_
        refine RK.sub (DX12_needsOfCodes_L31 hK ?_ _ _ _ hL KD.rf hF) (sub_cons rfl (sub_cons rfl (sub_cons rfl (sub_cons rfl sub_nil))))
        · intro h8 hL hq hF
          have hK := hK.tr hq
          have hJ := hJ.tr hq
          refine RK.of (RN.blk (ops := [(76, .iinc 1 1)]) (pc' := 79) (lv' := [(1, .inl (m_w32 (v1 + 1))), (0, .inr (.inr 334))]) (st' := []) (h' := h8) (cs := []) (by decide +kernel) rfl trivial) ?_
          refine RK.of (RN.goto (off := -77) (tgt := 2) (by decide +kernel)) ?_
          exact RK.sub (ih _ _ hL hJ hF) (sub_cons rfl (sub_cons rfl sub_nil))
      · intro j5 Jj5 hF
        rcases it_of hF with ⟨hb, hF⟩ | ⟨hb, hF⟩
        · refine RK.of (RN.iff (cd := .ge) (off := 8) (tgt := 23) (by decide +kernel) (mif_gen hb)) ?_
          refine RK.of (RN.blk (ops := [(18, .bipush 6)]) (pc' := 20) (lv' := [(0, .inr (.inr 334)), (1, .inl v1)]) (st' := [.inl 6]) (h' := h3) (cs := []) (by decide +kernel) rfl trivial) ?_
          refine RK.of (RN.goto (off := 8) (tgt := 28) (by decide +kernel)) ?_
          exact RK.sub (Jj5 _ _ hL hJ hF) (sub_cons rfl (sub_cons rfl sub_nil))
        · refine RK.of (RN.ift (cd := .ge) (off := 8) (tgt := 23) (by decide +kernel) (mif_ge hb)) ?_
          refine RK.of (RN.blk (ops := [(23, .aload_n 0), (24, .iload_n 1)]) (pc' := 25) (lv' := [(0, .inr (.inr 334)), (1, .inl v1)]) (st' := [.inl v1, .inr (.inr 334)]) (h' := h3) (cs := []) (by decide +kernel) rfl trivial) ?_
          obtain ⟨x10, h9, hG, hF⟩ := bd_of hF
          have hq := rcv_ok (as := [.inl v1]) (TO.gk (o_334 hL))
          obtain ⟨hN, hL, hQ⟩ := DX12_holeOf (d := d) hL  hG
          refine RK.of (RN.cv (i := 322) (k := 209) (q2 := iX12_holeOf) (as := [.inr (.inr 334), .inl v1]) (r := []) (v := some (.inl x10)) (h1 := h9) (by decide +kernel) rfl rfl rfl rfl rfl hq hN) ?_
          have hK := hK.tr hQ
          have hJ := hJ.tr hQ
          exact RK.sub (Jj5 _ _ hL hJ hF) (sub_cons rfl (sub_cons rfl sub_nil))
    · refine RK.of (RN.ict (cd := .ge) (off := 75) (tgt := 82) (by decide +kernel) (mif_ge hb)) ?_
      exact RK.sub (hK0 _ hL hJ hF) sub_nil
noncomputable def GX12_needsOfCodes (h : MH) : Option (MH) :=
  GX12_needsOfCodes_L2 (fun h1 =>
   some h1) FU 0 h
theorem DX12_needsOfCodes {d : Nat} {h : MH} {r : MH} (hL : LR h) (hF : GX12_needsOfCodes h = some r) : RN xs L iX12_needsOfCodes (d + 4) 0 (lvE 0 [.inr (.inr 334)]) [] h (RVo r) ∧ LR r ∧ KD h r := by
  unfold GX12_needsOfCodes at hF
  have hK : KD h h := KD.rf
  show RK xs L iX12_needsOfCodes (d + 4) 0 (lvE 0 [.inr (.inr 334)]) [] h (RVo r) h r
  refine RK.of (RN.blk (ops := [(0, .iconst 0), (1, .istore_n 1)]) (pc' := 2) (lv' := [(1, .inl 0), (0, .inr (.inr 334))]) (st' := []) (h' := h) (cs := []) (by decide +kernel) rfl trivial) ?_
  refine RK.sub (DX12_needsOfCodes_L2 hK ?_ _ _ _ hL KD.rf hF) (sub_cons rfl (sub_cons rfl sub_nil))
  · intro h1 hL hq hF
    have hK := hK.tr hq
    exact RK.vR (by decide +kernel) rfl hL hK hF
noncomputable def GX12_needBelow_L5 (u1 : Int) (u2 : Int) (K0 : Int → MH → Option (Int × MH)) : Nat → Int → Int → MH → Option (Int × MH)
  | 0, _, _, _ => none
  | f + 1, v3, v4, h =>
    (if v4 < (m_rd h 344 1) then
     gd [IB (m_w32 ((m_w32 (7 * (m_w32 ((m_w32 (u1 * (m_rd h 344 1))) + v4)))) + u2)) 1792] (
      GX12_needBelow_L5 u1 u2 K0 f (m_w32 (v3 + (m_rd h 349 (m_w32 ((m_w32 (7 * (m_w32 ((m_w32 (u1 * (m_rd h 344 1))) + v4)))) + u2))))) (m_w32 (v4 + 1)) h)
    else
     K0 v3 h)
theorem DX12_needBelow_L5 {d : Nat} {u1 : Int} {u2 : Int} {K0 : Int → MH → Option (Int × MH)} {r : Int × MH} {h0 hB : MH} (hB0 : KD h0 hB) (hK0 : ∀ (w3 : Int) (h : MH), LR h → KD hB h → K0 w3 h = some r → RK xs L iX12_needBelow (d) 46 [(3, .inl w3)] [] h (RIo r) h0 r.2) : ∀ (f : Nat) (v3 : Int) (v4 : Int) (h : MH), LR h → KD hB h → GX12_needBelow_L5 u1 u2 K0 f v3 v4 h = some r → RK xs L iX12_needBelow (d) 5 [(0, .inr (.inr 334)), (1, .inl u1), (2, .inl u2), (3, .inl v3), (4, .inl v4)] [] h (RIo r) h0 r.2 := by
  intro f
  induction f with
  | zero =>
    intro v3 v4 h hL hJ hF
    cases hF
  | succ f ih =>
    intro v3 v4 h hL hJ hF
    unfold GX12_needBelow_L5 at hF
    have hK := hB0.tr hJ
    refine RK.of (RN.blk (ops := [(5, .iload 4), (7, .aload_n 0)]) (pc' := 8) (lv' := [(0, .inr (.inr 334)), (1, .inl u1), (2, .inl u2), (3, .inl v3), (4, .inl v4)]) (st' := [.inr (.inr 334), .inl v4]) (h' := h) (cs := []) (by decide +kernel) rfl trivial) ?_
    refine RK.of (RN.gr (i := 39) (ci := 12) (k := 20) (fn := true) (v := 344) (by decide +kernel) rfl (TO.gk (o_334 hL)) (hL.fa (v := 344) 20 1 167 (o_334 hL) rfl (by decide) rfl (by decide)).1) ?_
    refine RK.of (RN.blk (ops := [(11, .iconst 1), (12, .iaload)]) (pc' := 13) (lv' := [(0, .inr (.inr 334)), (1, .inl u1), (2, .inl u2), (3, .inl v3), (4, .inl v4)]) (st' := [.inl (m_rd h 344 1), .inl v4]) (h' := h) (cs := [GI h 344 1 1]) (by decide +kernel) rfl ⟨(a_344 hL).gi (by decide) (by decide), trivial⟩) ?_
    rcases it_of hF with ⟨hb, hF⟩ | ⟨hb, hF⟩
    · refine RK.of (RN.icf (cd := .ge) (off := 33) (tgt := 46) (by decide +kernel) (mif_gen hb)) ?_
      refine RK.of (RN.blk (ops := [(16, .iload_n 3), (17, .aload_n 0)]) (pc' := 18) (lv' := [(0, .inr (.inr 334)), (1, .inl u1), (2, .inl u2), (3, .inl v3), (4, .inl v4)]) (st' := [.inr (.inr 334), .inl v3]) (h' := h) (cs := []) (by decide +kernel) rfl trivial) ?_
      refine RK.of (RN.gr (i := 58) (ci := 12) (k := 29) (fn := true) (v := 349) (by decide +kernel) rfl (TO.gk (o_334 hL)) (hL.fa (v := 349) 29 1 1792 (o_334 hL) rfl (by decide) rfl (by decide)).1) ?_
      refine RK.of (RN.blk (ops := [(21, .bipush 7), (23, .iload_n 1), (24, .aload_n 0)]) (pc' := 25) (lv' := [(0, .inr (.inr 334)), (1, .inl u1), (2, .inl u2), (3, .inl v3), (4, .inl v4)]) (st' := [.inr (.inr 334), .inl u1, .inl 7, .inr (.inr 349), .inl v3]) (h' := h) (cs := []) (by decide +kernel) rfl trivial) ?_
      refine RK.of (RN.gr (i := 39) (ci := 12) (k := 20) (fn := true) (v := 344) (by decide +kernel) rfl (TO.gk (o_334 hL)) (hL.fa (v := 344) 20 1 167 (o_334 hL) rfl (by decide) rfl (by decide)).1) ?_
      obtain ⟨hc, hF⟩ := gd_of hF
      refine RK.of (RN.blk (ops := [(28, .iconst 1), (29, .iaload), (30, .imul), (31, .iload 4), (33, .iadd), (34, .imul), (35, .iload_n 2), (36, .iadd), (37, .iaload), (38, .iadd), (39, .istore_n 3), (40, .iinc 4 1)]) (pc' := 43) (lv' := [(4, .inl (m_w32 (v4 + 1))), (3, .inl (m_w32 (v3 + (m_rd h 349 (m_w32 ((m_w32 (7 * (m_w32 ((m_w32 (u1 * (m_rd h 344 1))) + v4)))) + u2)))))), (0, .inr (.inr 334)), (1, .inl u1), (2, .inl u2)]) (st' := []) (h' := h) (cs := [GI h 344 1 1, GI h 349 1 (m_w32 ((m_w32 (7 * (m_w32 ((m_w32 (u1 * (m_rd h 344 1))) + v4)))) + u2))]) (by decide +kernel) rfl ⟨(a_344 hL).gi (by decide) (by decide), (a_349 hL).gi hc.1.1 hc.1.2, trivial⟩) ?_
      refine RK.of (RN.goto (off := -38) (tgt := 5) (by decide +kernel)) ?_
      exact RK.sub (ih _ _ _ hL hJ hF) (sub_cons rfl (sub_cons rfl (sub_cons rfl (sub_cons rfl (sub_cons rfl sub_nil)))))
    · refine RK.of (RN.ict (cd := .ge) (off := 33) (tgt := 46) (by decide +kernel) (mif_ge hb)) ?_
      exact RK.sub (hK0 _ _ hL hJ hF) (sub_cons rfl sub_nil)
noncomputable def GX12_needBelow (a1 : Int) (a2 : Int) (h : MH) : Option (Int × MH) :=
  GX12_needBelow_L5 a1 a2 (fun w1 h2 =>
   (if w1 < 9999 then
    some (w1, h2)
   else
    some (9999, h2))) FU 0 0 h
theorem DX12_needBelow {d : Nat} {a1 : Int} {a2 : Int} {h : MH} {r : Int × MH} (hL : LR h) (hF : GX12_needBelow a1 a2 h = some r) : RN xs L iX12_needBelow (d) 0 (lvE 0 [.inr (.inr 334), .inl a1, .inl a2]) [] h (RIo r) ∧ LR r.2 ∧ KD h r.2 := by
  unfold GX12_needBelow at hF
  have hK : KD h h := KD.rf
  show RK xs L iX12_needBelow (d) 0 (lvE 0 [.inr (.inr 334), .inl a1, .inl a2]) [] h (RIo r) h r.2
  refine RK.of (RN.blk (ops := [(0, .iconst 0), (1, .istore_n 3), (2, .iconst 0), (3, .istore 4)]) (pc' := 5) (lv' := [(4, .inl 0), (3, .inl 0), (0, .inr (.inr 334)), (1, .inl a1), (2, .inl a2)]) (st' := []) (h' := h) (cs := []) (by decide +kernel) rfl trivial) ?_
  refine RK.sub (DX12_needBelow_L5 hK ?_ _ _ _ _ hL KD.rf hF) (sub_cons rfl (sub_cons rfl (sub_cons rfl (sub_cons rfl (sub_cons rfl sub_nil)))))
  · intro w1 h2 hL hq hF
    have hK := hK.tr hq
    refine RK.of (RN.blk (ops := [(46, .iload_n 3), (47, .sipush 9999)]) (pc' := 50) (lv' := [(3, .inl w1)]) (st' := [.inl 9999, .inl w1]) (h' := h2) (cs := []) (by decide +kernel) rfl trivial) ?_
    rcases it_of hF with ⟨hb, hF⟩ | ⟨hb, hF⟩
    · refine RK.of (RN.icf (cd := .ge) (off := 7) (tgt := 57) (by decide +kernel) (mif_gen hb)) ?_
      refine RK.of (RN.blk (ops := [(53, .iload_n 3)]) (pc' := 54) (lv' := [(3, .inl w1)]) (st' := [.inl w1]) (h' := h2) (cs := []) (by decide +kernel) rfl trivial) ?_
      refine RK.of (RN.goto (off := 6) (tgt := 60) (by decide +kernel)) ?_
      exact RK.iR (by decide +kernel) rfl hL hK hF
    · refine RK.of (RN.ict (cd := .ge) (off := 7) (tgt := 57) (by decide +kernel) (mif_ge hb)) ?_
      refine RK.of (RN.blk (ops := [(57, .sipush 9999)]) (pc' := 60) (lv' := [(3, .inl w1)]) (st' := [.inl 9999]) (h' := h2) (cs := []) (by decide +kernel) rfl trivial) ?_
      exact RK.iR (by decide +kernel) rfl hL hK hF
end Gc
