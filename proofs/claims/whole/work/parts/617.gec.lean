/-! METHODS AS FUNCTIONS, references resolved (by program): X12_look, X12_fillsCanBe, X12_said, X12_sent, X12_seed, X12_draw, X12_posts, X12_count, X12_image, X12_back -/
section Gc
variable {xs : Int → Int} {L : Int}
noncomputable def GX12_look_L46 (u2 : Int) (K0 : Int → Int → MH → Option (Int × MH)) : Nat → Int → Int → Int → MH → Option (Int × MH)
  | 0, _, _, _, _ => none
  | f + 1, v3, v4, v5, h =>
    (if v5 < (m_rd h 344 3) then
     (bd (GX12_alikeAt v5 h) (fun x2 h1 =>
      (if x2 = 0 then
       GX12_look_L46 u2 K0 f v3 v4 (m_w32 (v5 + 1)) h1
      else
       (if v3 < 0 then
        GX12_look_L46 u2 K0 f v5 x2 (m_w32 (v5 + 1)) h1
       else
        (if x2 < v4 then
         GX12_look_L46 u2 K0 f v5 x2 (m_w32 (v5 + 1)) h1
        else
         GX12_look_L46 u2 K0 f v3 v4 (m_w32 (v5 + 1)) h1)))))
    else
     K0 v3 v4 h)
theorem DX12_look_L46 {d : Nat} {u2 : Int} {K0 : Int → Int → MH → Option (Int × MH)} {r : Int × MH} {h0 hB : MH} (hB0 : KD h0 hB) (hK0 : ∀ (w3 : Int) (w4 : Int) (h : MH), LR h → KD hB h → K0 w3 w4 h = some r → RK xs L iX12_look (d + 9) 97 [(2, .inl u2), (3, .inl w3), (4, .inl w4)] [] h (RIo r) h0 r.2) : ∀ (f : Nat) (v3 : Int) (v4 : Int) (v5 : Int) (h : MH), LR h → KD hB h → GX12_look_L46 u2 K0 f v3 v4 v5 h = some r → RK xs L iX12_look (d + 9) 46 [(0, .inr (.inr 334)), (2, .inl u2), (3, .inl v3), (4, .inl v4), (5, .inl v5)] [] h (RIo r) h0 r.2 := by
  intro f
  induction f with
  | zero =>
    intro v3 v4 v5 h hL hJ hF
    cases hF
  | succ f ih =>
    intro v3 v4 v5 h hL hJ hF
    unfold GX12_look_L46 at hF
    have hK := hB0.tr hJ
    refine RK.of (RN.blk (ops := [(46, .iload 5), (48, .aload_n 0)]) (pc' := 49) (lv' := [(0, .inr (.inr 334)), (2, .inl u2), (3, .inl v3), (4, .inl v4), (5, .inl v5)]) (st' := [.inr (.inr 334), .inl v5]) (h' := h) (cs := []) (by decide +kernel) rfl trivial) ?_
    refine RK.of (RN.gr (i := 39) (ci := 12) (k := 20) (fn := true) (v := 344) (by decide +kernel) rfl (TO.gk (o_334 hL)) (hL.fa (v := 344) 20 1 167 (o_334 hL) rfl (by decide) rfl (by decide)).1) ?_
    refine RK.of (RN.blk (ops := [(52, .iconst 3), (53, .iaload)]) (pc' := 54) (lv' := [(0, .inr (.inr 334)), (2, .inl u2), (3, .inl v3), (4, .inl v4), (5, .inl v5)]) (st' := [.inl (m_rd h 344 3), .inl v5]) (h' := h) (cs := [GI h 344 1 3]) (by decide +kernel) rfl ⟨(a_344 hL).gi (by decide) (by decide), trivial⟩) ?_
    rcases it_of hF with ⟨hb, hF⟩ | ⟨hb, hF⟩
    · refine RK.of (RN.icf (cd := .ge) (off := 43) (tgt := 97) (by decide +kernel) (mif_gen hb)) ?_
      refine RK.of (RN.blk (ops := [(57, .aload_n 0), (58, .iload 5)]) (pc' := 60) (lv' := [(0, .inr (.inr 334)), (2, .inl u2), (3, .inl v3), (4, .inl v4), (5, .inl v5)]) (st' := [.inl v5, .inr (.inr 334)]) (h' := h) (cs := []) (by decide +kernel) rfl trivial) ?_
      obtain ⟨x2, h1, hG, hF⟩ := bd_of hF
      have hq := rcv_ok (as := [.inl v5]) (TO.gk (o_334 hL))
      obtain ⟨hN, hL, hQ⟩ := DX12_alikeAt (d := d + 8) hL  hG
      refine RK.of (RN.cv (i := 459) (k := 271) (q2 := iX12_alikeAt) (as := [.inr (.inr 334), .inl v5]) (r := []) (v := some (.inl x2)) (h1 := h1) (by decide +kernel) rfl rfl rfl rfl rfl hq hN) ?_
      have hK := hK.tr hQ
      have hJ := hJ.tr hQ
      refine RK.of (RN.blk (ops := [(63, .istore 6), (65, .iload 6)]) (pc' := 67) (lv' := [(6, .inl x2), (0, .inr (.inr 334)), (2, .inl u2), (3, .inl v3), (4, .inl v4), (5, .inl v5)]) (st' := [.inl x2]) (h' := h1) (cs := []) (by decide +kernel) rfl trivial) ?_
      rcases it_of hF with ⟨hb, hF⟩ | ⟨hb, hF⟩
      · refine RK.of (RN.ift (cd := .eq) (off := 24) (tgt := 91) (by decide +kernel) (mif_eq hb)) ?_
        refine RK.of (RN.blk (ops := [(91, .iinc 5 1)]) (pc' := 94) (lv' := [(5, .inl (m_w32 (v5 + 1))), (6, .inl x2), (0, .inr (.inr 334)), (2, .inl u2), (3, .inl v3), (4, .inl v4)]) (st' := []) (h' := h1) (cs := []) (by decide +kernel) rfl trivial) ?_
        refine RK.of (RN.goto (off := -48) (tgt := 46) (by decide +kernel)) ?_
        exact RK.sub (ih _ _ _ _ hL hJ hF) (sub_cons rfl (sub_cons rfl (sub_cons rfl (sub_cons rfl (sub_cons rfl sub_nil)))))
      · refine RK.of (RN.iff (cd := .eq) (off := 24) (tgt := 91) (by decide +kernel) (mif_eqn hb)) ?_
        refine RK.of (RN.blk (ops := [(70, .iload_n 3)]) (pc' := 71) (lv' := [(6, .inl x2), (0, .inr (.inr 334)), (2, .inl u2), (3, .inl v3), (4, .inl v4), (5, .inl v5)]) (st' := [.inl v3]) (h' := h1) (cs := []) (by decide +kernel) rfl trivial) ?_
        rcases it_of hF with ⟨hb, hF⟩ | ⟨hb, hF⟩
        · refine RK.of (RN.ift (cd := .lt) (off := 13) (tgt := 84) (by decide +kernel) (mif_lt hb)) ?_
          refine RK.of (RN.blk (ops := [(84, .iload 5), (86, .istore_n 3), (87, .iload 6), (89, .istore 4)]) (pc' := 91) (lv' := [(4, .inl x2), (3, .inl v5), (6, .inl x2), (0, .inr (.inr 334)), (2, .inl u2), (5, .inl v5)]) (st' := []) (h' := h1) (cs := []) (by decide +kernel) rfl trivial) ?_
          refine RK.of (RN.blk (ops := [(91, .iinc 5 1)]) (pc' := 94) (lv' := [(5, .inl (m_w32 (v5 + 1))), (4, .inl x2), (3, .inl v5), (6, .inl x2), (0, .inr (.inr 334)), (2, .inl u2)]) (st' := []) (h' := h1) (cs := []) (by decide +kernel) rfl trivial) ?_
          refine RK.of (RN.goto (off := -48) (tgt := 46) (by decide +kernel)) ?_
          exact RK.sub (ih _ _ _ _ hL hJ hF) (sub_cons rfl (sub_cons rfl (sub_cons rfl (sub_cons rfl (sub_cons rfl sub_nil)))))
        · refine RK.of (RN.iff (cd := .lt) (off := 13) (tgt := 84) (by decide +kernel) (mif_ltn hb)) ?_
          refine RK.of (RN.blk (ops := [(74, .iload 6), (76, .iload 4)]) (pc' := 78) (lv' := [(6, .inl x2), (0, .inr (.inr 334)), (2, .inl u2), (3, .inl v3), (4, .inl v4), (5, .inl v5)]) (st' := [.inl v4, .inl x2]) (h' := h1) (cs := []) (by decide +kernel) rfl trivial) ?_
          rcases it_of hF with ⟨hb, hF⟩ | ⟨hb, hF⟩
          · refine RK.of (RN.ict (cd := .lt) (off := 6) (tgt := 84) (by decide +kernel) (mif_lt hb)) ?_
            refine RK.of (RN.blk (ops := [(84, .iload 5), (86, .istore_n 3), (87, .iload 6), (89, .istore 4)]) (pc' := 91) (lv' := [(4, .inl x2), (3, .inl v5), (6, .inl x2), (0, .inr (.inr 334)), (2, .inl u2), (5, .inl v5)]) (st' := []) (h' := h1) (cs := []) (by decide +kernel) rfl trivial) ?_
            refine RK.of (RN.blk (ops := [(91, .iinc 5 1)]) (pc' := 94) (lv' := [(5, .inl (m_w32 (v5 + 1))), (4, .inl x2), (3, .inl v5), (6, .inl x2), (0, .inr (.inr 334)), (2, .inl u2)]) (st' := []) (h' := h1) (cs := []) (by decide +kernel) rfl trivial) ?_
            refine RK.of (RN.goto (off := -48) (tgt := 46) (by decide +kernel)) ?_
            exact RK.sub (ih _ _ _ _ hL hJ hF) (sub_cons rfl (sub_cons rfl (sub_cons rfl (sub_cons rfl (sub_cons rfl sub_nil)))))
          · refine RK.of (RN.icf (cd := .lt) (off := 6) (tgt := 84) (by decide +kernel) (mif_ltn hb)) ?_
            refine RK.of (RN.goto (off := 10) (tgt := 91) (by decide +kernel)) ?_
            refine RK.of (RN.blk (ops := [(91, .iinc 5 1)]) (pc' := 94) (lv' := [(5, .inl (m_w32 (v5 + 1))), (6, .inl x2), (0, .inr (.inr 334)), (2, .inl u2), (3, .inl v3), (4, .inl v4)]) (st' := []) (h' := h1) (cs := []) (by decide +kernel) rfl trivial) ?_
            refine RK.of (RN.goto (off := -48) (tgt := 46) (by decide +kernel)) ?_
            exact RK.sub (ih _ _ _ _ hL hJ hF) (sub_cons rfl (sub_cons rfl (sub_cons rfl (sub_cons rfl (sub_cons rfl sub_nil)))))
    · refine RK.of (RN.ict (cd := .ge) (off := 43) (tgt := 97) (by decide +kernel) (mif_ge hb)) ?_
      exact RK.sub (hK0 _ _ _ hL hJ hF) (sub_cons rfl (sub_cons rfl (sub_cons rfl sub_nil)))
noncomputable def GX12_look (a1 : Int) (a2 : Int) (h : MH) : Option (Int × MH) :=
  (bd (GX12_isFrame h) (fun x2 h1 =>
   (if x2 = 0 then
    some ((-1), h1)
   else
    (bd (GX12_in a1 0 60 h1) (fun x4 h3 =>
     (if x4 = 0 then
      some ((-1), h3)
     else
      (bd (GX12_in a2 0 1 h3) (fun x6 h5 =>
       (if x6 = 0 then
        some ((-1), h5)
       else
        (bv (GX12_fillsFits a1 h5) (fun h7 =>
         GX12_look_L46 a2 (fun w8 w9 h10 =>
          (if a2 = 0 then
           some (w8, h10)
          else
           some (w9, h10))) FU (-2) (-2) 0 h7)))))))))))
theorem DX12_look {d : Nat} {a1 : Int} {a2 : Int} {h : MH} {r : Int × MH} (hL : LR h) (hF : GX12_look a1 a2 h = some r) : RN xs L iX12_look (d + 9) 0 (lvE 0 [.inr (.inr 334), .inl a1, .inl a2]) [] h (RIo r) ∧ LR r.2 ∧ KD h r.2 := by
  unfold GX12_look at hF
  have hK : KD h h := KD.rf
  show RK xs L iX12_look (d + 9) 0 (lvE 0 [.inr (.inr 334), .inl a1, .inl a2]) [] h (RIo r) h r.2
  refine RK.of (RN.blk (ops := [(0, .aload_n 0)]) (pc' := 1) (lv' := [(0, .inr (.inr 334)), (1, .inl a1), (2, .inl a2)]) (st' := [.inr (.inr 334)]) (h' := h) (cs := []) (by decide +kernel) rfl trivial) ?_
  obtain ⟨x2, h1, hG, hF⟩ := bd_of hF
  have hq := rcv_ok (as := []) (TO.gk (o_334 hL))
  obtain ⟨hN, hL, hQ⟩ := DX12_isFrame (d := d + 8) hL  hG
  refine RK.of (RN.cv (i := 295) (k := 202) (q2 := iX12_isFrame) (as := [.inr (.inr 334)]) (r := []) (v := some (.inl x2)) (h1 := h1) (by decide +kernel) rfl rfl rfl rfl rfl hq hN) ?_
  have hK := hK.tr hQ
  rcases it_of hF with ⟨hb, hF⟩ | ⟨hb, hF⟩
  · refine RK.of (RN.ift (cd := .eq) (off := 25) (tgt := 29) (by decide +kernel) (mif_eq hb)) ?_
    refine RK.of (RN.blk (ops := [(29, .iconst (-1))]) (pc' := 30) (lv' := [(0, .inr (.inr 334)), (1, .inl a1), (2, .inl a2)]) (st' := [.inl (-1)]) (h' := h1) (cs := []) (by decide +kernel) rfl trivial) ?_
    exact RK.iR (by decide +kernel) rfl hL hK hF
  · refine RK.of (RN.iff (cd := .eq) (off := 25) (tgt := 29) (by decide +kernel) (mif_eqn hb)) ?_
    refine RK.of (RN.blk (ops := [(7, .iload_n 1), (8, .i2l), (9, .lconst 0), (10, .ldc2_w 446)]) (pc' := 13) (lv' := [(0, .inr (.inr 334)), (1, .inl a1), (2, .inl a2)]) (st' := [.inr (.inl 60), .inr (.inl 0), .inr (.inl a1)]) (h' := h1) (cs := []) (by decide +kernel) rfl trivial) ?_
    obtain ⟨x4, h3, hG, hF⟩ := bd_of hF
    obtain ⟨hN, hL, hQ⟩ := DX12_in (d := d + 8) hL  hG
    refine RK.of (RN.cst (i := 127) (k := 156) (q2 := iX12_in) (as := [.inr (.inl a1), .inr (.inl 0), .inr (.inl 60)]) (r := []) (v := some (.inl x4)) (h1 := h3) (by decide +kernel) rfl rfl rfl rfl rfl hN) ?_
    have hK := hK.tr hQ
    rcases it_of hF with ⟨hb, hF⟩ | ⟨hb, hF⟩
    · refine RK.of (RN.ift (cd := .eq) (off := 13) (tgt := 29) (by decide +kernel) (mif_eq hb)) ?_
      refine RK.of (RN.blk (ops := [(29, .iconst (-1))]) (pc' := 30) (lv' := [(0, .inr (.inr 334)), (1, .inl a1), (2, .inl a2)]) (st' := [.inl (-1)]) (h' := h3) (cs := []) (by decide +kernel) rfl trivial) ?_
      exact RK.iR (by decide +kernel) rfl hL hK hF
    · refine RK.of (RN.iff (cd := .eq) (off := 13) (tgt := 29) (by decide +kernel) (mif_eqn hb)) ?_
      refine RK.of (RN.blk (ops := [(19, .iload_n 2), (20, .i2l), (21, .lconst 0), (22, .lconst 1)]) (pc' := 23) (lv' := [(0, .inr (.inr 334)), (1, .inl a1), (2, .inl a2)]) (st' := [.inr (.inl 1), .inr (.inl 0), .inr (.inl a2)]) (h' := h3) (cs := []) (by decide +kernel) rfl trivial) ?_
      obtain ⟨x6, h5, hG, hF⟩ := bd_of hF
      obtain ⟨hN, hL, hQ⟩ := DX12_in (d := d + 8) hL  hG
      refine RK.of (RN.cst (i := 127) (k := 156) (q2 := iX12_in) (as := [.inr (.inl a2), .inr (.inl 0), .inr (.inl 1)]) (r := []) (v := some (.inl x6)) (h1 := h5) (by decide +kernel) rfl rfl rfl rfl rfl hN) ?_
      have hK := hK.tr hQ
      rcases it_of hF with ⟨hb, hF⟩ | ⟨hb, hF⟩
      · refine RK.of (RN.iff (cd := .ne) (off := 5) (tgt := 31) (by decide +kernel) (mif_nen hb)) ?_
        refine RK.of (RN.blk (ops := [(29, .iconst (-1))]) (pc' := 30) (lv' := [(0, .inr (.inr 334)), (1, .inl a1), (2, .inl a2)]) (st' := [.inl (-1)]) (h' := h5) (cs := []) (by decide +kernel) rfl trivial) ?_
        exact RK.iR (by decide +kernel) rfl hL hK hF
      · refine RK.of (RN.ift (cd := .ne) (off := 5) (tgt := 31) (by decide +kernel) (mif_ne hb)) ?_
        refine RK.of (RN.blk (ops := [(31, .aload_n 0), (32, .iload_n 1)]) (pc' := 33) (lv' := [(0, .inr (.inr 334)), (1, .inl a1), (2, .inl a2)]) (st' := [.inl a1, .inr (.inr 334)]) (h' := h5) (cs := []) (by decide +kernel) rfl trivial) ?_
        obtain ⟨h7, hG, hF⟩ := bv_of hF
        have hq := rcv_ok (as := [.inl a1]) (TO.gk (o_334 hL))
        obtain ⟨hN, hL, hQ⟩ := DX12_fillsFits (d := d) hL  hG
        refine RK.of (RN.cv (i := 456) (k := 269) (q2 := iX12_fillsFits) (as := [.inr (.inr 334), .inl a1]) (r := []) (v := none) (h1 := h7) (by decide +kernel) rfl rfl rfl rfl rfl hq hN) ?_
        have hK := hK.tr hQ
        refine RK.of (RN.blk (ops := [(36, .bipush (-2)), (38, .istore_n 3), (39, .bipush (-2)), (41, .istore 4), (43, .iconst 0), (44, .istore 5)]) (pc' := 46) (lv' := [(5, .inl 0), (4, .inl (-2)), (3, .inl (-2)), (0, .inr (.inr 334)), (1, .inl a1), (2, .inl a2)]) (st' := []) (h' := h7) (cs := []) (by decide +kernel) rfl trivial) ?_
        refine RK.sub (DX12_look_L46 hK ?_ _ _ _ _ _ hL KD.rf hF) (sub_cons rfl (sub_cons rfl (sub_cons rfl (sub_cons rfl (sub_cons rfl sub_nil)))))
        · intro w8 w9 h10 hL hq hF
          have hK := hK.tr hq
          refine RK.of (RN.blk (ops := [(97, .iload_n 2)]) (pc' := 98) (lv' := [(2, .inl a2), (3, .inl w8), (4, .inl w9)]) (st' := [.inl a2]) (h' := h10) (cs := []) (by decide +kernel) rfl trivial) ?_
          rcases it_of hF with ⟨hb, hF⟩ | ⟨hb, hF⟩
          · refine RK.of (RN.iff (cd := .ne) (off := 7) (tgt := 105) (by decide +kernel) (mif_nen hb)) ?_
            refine RK.of (RN.blk (ops := [(101, .iload_n 3)]) (pc' := 102) (lv' := [(2, .inl a2), (3, .inl w8), (4, .inl w9)]) (st' := [.inl w8]) (h' := h10) (cs := []) (by decide +kernel) rfl trivial) ?_
            refine RK.of (RN.goto (off := 5) (tgt := 107) (by decide +kernel)) ?_
            exact RK.iR (by decide +kernel) rfl hL hK hF
          · refine RK.of (RN.ift (cd := .ne) (off := 7) (tgt := 105) (by decide +kernel) (mif_ne hb)) ?_
            refine RK.of (RN.blk (ops := [(105, .iload 4)]) (pc' := 107) (lv' := [(2, .inl a2), (3, .inl w8), (4, .inl w9)]) (st' := [.inl w9]) (h' := h10) (cs := []) (by decide +kernel) rfl trivial) ?_
            exact RK.iR (by decide +kernel) rfl hL hK hF
noncomputable def GX12_fillsCanBe_L14 (u1 : Int) (u2 : Int) (u3 : Int) (K0 : MH → Option (MH)) : Nat → Int → MH → Option (MH)
  | 0, _, _ => none
  | f + 1, v4, h =>
    (if v4 < u2 then
     gd [IB u1 167] (
      (bv (GX12_begins (m_wr h 344 u1 v4)) (fun h1 =>
       (bd (GX12_areAllSo 0 (-1) h1) (fun x3 h2 =>
        gd [IB v4 256] (
         GX12_fillsCanBe_L14 u1 u2 u3 K0 f (m_w32 (v4 + 1)) (m_wr h2 354 v4 (m_bst h2 354 x3))))))))
    else
     K0 h)
theorem DX12_fillsCanBe_L14 {d : Nat} {u1 : Int} {u2 : Int} {u3 : Int} {K0 : MH → Option (MH)} {r : MH} {h0 hB : MH} (hB0 : KD h0 hB) (hK0 : ∀ (h : MH), LR h → KD hB h → K0 h = some r → RK xs L iX12_fillsCanBe (d + 8) 51 [(0, .inr (.inr 334)), (1, .inl u1), (3, .inl u3)] [] h (RVo r) h0 r) : ∀ (f : Nat) (v4 : Int) (h : MH), LR h → KD hB h → GX12_fillsCanBe_L14 u1 u2 u3 K0 f v4 h = some r → RK xs L iX12_fillsCanBe (d + 8) 14 [(0, .inr (.inr 334)), (1, .inl u1), (2, .inl u2), (3, .inl u3), (4, .inl v4)] [] h (RVo r) h0 r := by
  intro f
  induction f with
  | zero =>
    intro v4 h hL hJ hF
    cases hF
  | succ f ih =>
    intro v4 h hL hJ hF
    unfold GX12_fillsCanBe_L14 at hF
    have hK := hB0.tr hJ
    refine RK.of (RN.blk (ops := [(14, .iload 4), (16, .iload_n 2)]) (pc' := 17) (lv' := [(0, .inr (.inr 334)), (1, .inl u1), (2, .inl u2), (3, .inl u3), (4, .inl v4)]) (st' := [.inl u2, .inl v4]) (h' := h) (cs := []) (by decide +kernel) rfl trivial) ?_
    rcases it_of hF with ⟨hb, hF⟩ | ⟨hb, hF⟩
    · refine RK.of (RN.icf (cd := .ge) (off := 34) (tgt := 51) (by decide +kernel) (mif_gen hb)) ?_
      refine RK.of (RN.blk (ops := [(20, .aload_n 0)]) (pc' := 21) (lv' := [(0, .inr (.inr 334)), (1, .inl u1), (2, .inl u2), (3, .inl u3), (4, .inl v4)]) (st' := [.inr (.inr 334)]) (h' := h) (cs := []) (by decide +kernel) rfl trivial) ?_
      refine RK.of (RN.gr (i := 39) (ci := 12) (k := 20) (fn := true) (v := 344) (by decide +kernel) rfl (TO.gk (o_334 hL)) (hL.fa (v := 344) 20 1 167 (o_334 hL) rfl (by decide) rfl (by decide)).1) ?_
      obtain ⟨hc, hF⟩ := gd_of hF
      refine RK.of (RN.blk (ops := [(24, .iload_n 1), (25, .iload 4), (27, .iastore)]) (pc' := 28) (lv' := [(0, .inr (.inr 334)), (1, .inl u1), (2, .inl u2), (3, .inl u3), (4, .inl v4)]) (st' := []) (h' := (m_wr h 344 u1 v4)) (cs := [GI h 344 1 u1]) (by decide +kernel) rfl ⟨(a_344 hL).gi hc.1.1 hc.1.2, trivial⟩) ?_
      have hL : LR (m_wr h 344 u1 v4) := hL.wa (TA.le5 (a_344 hL) (by decide))
      have hK := hK.tr (KD.wr : KD h (m_wr h 344 u1 v4))
      have hJ := hJ.tr (KD.wr : KD h (m_wr h 344 u1 v4))
      refine RK.of (RN.blk (ops := [(28, .aload_n 0)]) (pc' := 29) (lv' := [(0, .inr (.inr 334)), (1, .inl u1), (2, .inl u2), (3, .inl u3), (4, .inl v4)]) (st' := [.inr (.inr 334)]) (h' := (m_wr h 344 u1 v4)) (cs := []) (by decide +kernel) rfl trivial) ?_
      obtain ⟨h1, hG, hF⟩ := bv_of hF
      have hq := rcv_ok (as := []) (TO.gk (o_334 hL))
      obtain ⟨hN, hL, hQ⟩ := DX12_begins (d := d + 7) hL  hG
      refine RK.of (RN.cv (i := 274) (k := 211) (q2 := iX12_begins) (as := [.inr (.inr 334)]) (r := []) (v := none) (h1 := h1) (by decide +kernel) rfl rfl rfl rfl rfl hq hN) ?_
      have hK := hK.tr hQ
      have hJ := hJ.tr hQ
      refine RK.of (RN.blk (ops := [(32, .aload_n 0)]) (pc' := 33) (lv' := [(0, .inr (.inr 334)), (1, .inl u1), (2, .inl u2), (3, .inl u3), (4, .inl v4)]) (st' := [.inr (.inr 334)]) (h' := h1) (cs := []) (by decide +kernel) rfl trivial) ?_
      refine RK.of (RN.gr (i := 74) (ci := 12) (k := 36) (fn := true) (v := 354) (by decide +kernel) rfl (TO.gk (o_334 hL)) (hL.fa (v := 354) 36 4 256 (o_334 hL) rfl (by decide) rfl (by decide)).1) ?_
      refine RK.of (RN.blk (ops := [(36, .iload 4), (38, .aload_n 0), (39, .iconst 0), (40, .iconst (-1))]) (pc' := 41) (lv' := [(0, .inr (.inr 334)), (1, .inl u1), (2, .inl u2), (3, .inl u3), (4, .inl v4)]) (st' := [.inl (-1), .inl 0, .inr (.inr 334), .inl v4, .inr (.inr 354)]) (h' := h1) (cs := []) (by decide +kernel) rfl trivial) ?_
      obtain ⟨x3, h2, hG, hF⟩ := bd_of hF
      have hq := rcv_ok (as := [.inl 0, .inl (-1)]) (TO.gk (o_334 hL))
      obtain ⟨hN, hL, hQ⟩ := DX12_areAllSo (d := d) hL  hG
      refine RK.of (RN.cv (i := 453) (k := 268) (q2 := iX12_areAllSo) (as := [.inr (.inr 334), .inl 0, .inl (-1)]) (r := [.inl v4, .inr (.inr 354)]) (v := some (.inl x3)) (h1 := h2) (by decide +kernel) rfl rfl rfl rfl rfl hq hN) ?_
      have hK := hK.tr hQ
      have hJ := hJ.tr hQ
      obtain ⟨hc, hF⟩ := gd_of hF
      refine RK.of (RN.blk (ops := [(44, .bastore)]) (pc' := 45) (lv' := [(0, .inr (.inr 334)), (1, .inl u1), (2, .inl u2), (3, .inl u3), (4, .inl v4)]) (st' := []) (h' := (m_wr h2 354 v4 (m_bst h2 354 x3))) (cs := [GB h2 354 v4]) (by decide +kernel) rfl ⟨(a_354 hL).gb (by decide) hc.1.1 hc.1.2, trivial⟩) ?_
      have hL : LR (m_wr h2 354 v4 (m_bst h2 354 x3)) := hL.wa (TA.le5 (a_354 hL) (by decide))
      have hK := hK.tr (KD.wr : KD h2 (m_wr h2 354 v4 (m_bst h2 354 x3)))
      have hJ := hJ.tr (KD.wr : KD h2 (m_wr h2 354 v4 (m_bst h2 354 x3)))
      refine RK.of (RN.blk (ops := [(45, .iinc 4 1)]) (pc' := 48) (lv' := [(4, .inl (m_w32 (v4 + 1))), (0, .inr (.inr 334)), (1, .inl u1), (2, .inl u2), (3, .inl u3)]) (st' := []) (h' := (m_wr h2 354 v4 (m_bst h2 354 x3))) (cs := []) (by decide +kernel) rfl trivial) ?_
      refine RK.of (RN.goto (off := -34) (tgt := 14) (by decide +kernel)) ?_
      exact RK.sub (ih _ _ hL hJ hF) (sub_cons rfl (sub_cons rfl (sub_cons rfl (sub_cons rfl (sub_cons rfl sub_nil)))))
    · refine RK.of (RN.ict (cd := .ge) (off := 34) (tgt := 51) (by decide +kernel) (mif_ge hb)) ?_
      exact RK.sub (hK0 _ hL hJ hF) (sub_cons rfl (sub_cons rfl (sub_cons rfl sub_nil)))
noncomputable def GX12_fillsCanBe (a1 : Int) (a2 : Int) (h : MH) : Option (MH) :=
  gd [IB a1 167] (
   (bv (GX12_keeps h) (fun h1 =>
    GX12_fillsCanBe_L14 a1 a2 (m_rd h 344 a1) (fun h2 =>
     gd [IB a1 167] (
      (bv (GX12_laysBack (m_wr h2 344 a1 (m_rd h 344 a1))) (fun h3 =>
       some h3)))) FU 0 h1)))
theorem DX12_fillsCanBe {d : Nat} {a1 : Int} {a2 : Int} {h : MH} {r : MH} (hL : LR h) (hF : GX12_fillsCanBe a1 a2 h = some r) : RN xs L iX12_fillsCanBe (d + 8) 0 (lvE 0 [.inr (.inr 334), .inl a1, .inl a2]) [] h (RVo r) ∧ LR r ∧ KD h r := by
  unfold GX12_fillsCanBe at hF
  have hK : KD h h := KD.rf
  show RK xs L iX12_fillsCanBe (d + 8) 0 (lvE 0 [.inr (.inr 334), .inl a1, .inl a2]) [] h (RVo r) h r
  refine RK.of (RN.blk (ops := [(0, .aload_n 0)]) (pc' := 1) (lv' := [(0, .inr (.inr 334)), (1, .inl a1), (2, .inl a2)]) (st' := [.inr (.inr 334)]) (h' := h) (cs := []) (by decide +kernel) rfl trivial) ?_
  refine RK.of (RN.gr (i := 39) (ci := 12) (k := 20) (fn := true) (v := 344) (by decide +kernel) rfl (TO.gk (o_334 hL)) (hL.fa (v := 344) 20 1 167 (o_334 hL) rfl (by decide) rfl (by decide)).1) ?_
  obtain ⟨hc, hF⟩ := gd_of hF
  refine RK.of (RN.blk (ops := [(4, .iload_n 1), (5, .iaload), (6, .istore_n 3), (7, .aload_n 0)]) (pc' := 8) (lv' := [(3, .inl (m_rd h 344 a1)), (0, .inr (.inr 334)), (1, .inl a1), (2, .inl a2)]) (st' := [.inr (.inr 334)]) (h' := h) (cs := [GI h 344 1 a1]) (by decide +kernel) rfl ⟨(a_344 hL).gi hc.1.1 hc.1.2, trivial⟩) ?_
  obtain ⟨h1, hG, hF⟩ := bv_of hF
  have hq := rcv_ok (as := []) (TO.gk (o_334 hL))
  obtain ⟨hN, hL, hQ⟩ := DX12_keeps (d := d + 7) hL  hG
  refine RK.of (RN.cv (i := 422) (k := 253) (q2 := iX12_keeps) (as := [.inr (.inr 334)]) (r := []) (v := none) (h1 := h1) (by decide +kernel) rfl rfl rfl rfl rfl hq hN) ?_
  have hK := hK.tr hQ
  refine RK.of (RN.blk (ops := [(11, .iconst 0), (12, .istore 4)]) (pc' := 14) (lv' := [(4, .inl 0), (3, .inl (m_rd h 344 a1)), (0, .inr (.inr 334)), (1, .inl a1), (2, .inl a2)]) (st' := []) (h' := h1) (cs := []) (by decide +kernel) rfl trivial) ?_
  refine RK.sub (DX12_fillsCanBe_L14 hK ?_ _ _ _ hL KD.rf hF) (sub_cons rfl (sub_cons rfl (sub_cons rfl (sub_cons rfl (sub_cons rfl sub_nil)))))
  · intro h2 hL hq hF
    have hK := hK.tr hq
    refine RK.of (RN.blk (ops := [(51, .aload_n 0)]) (pc' := 52) (lv' := [(0, .inr (.inr 334)), (1, .inl a1), (3, .inl (m_rd h 344 a1))]) (st' := [.inr (.inr 334)]) (h' := h2) (cs := []) (by decide +kernel) rfl trivial) ?_
    refine RK.of (RN.gr (i := 39) (ci := 12) (k := 20) (fn := true) (v := 344) (by decide +kernel) rfl (TO.gk (o_334 hL)) (hL.fa (v := 344) 20 1 167 (o_334 hL) rfl (by decide) rfl (by decide)).1) ?_
    obtain ⟨hc, hF⟩ := gd_of hF
    refine RK.of (RN.blk (ops := [(55, .iload_n 1), (56, .iload_n 3), (57, .iastore)]) (pc' := 58) (lv' := [(0, .inr (.inr 334)), (1, .inl a1), (3, .inl (m_rd h 344 a1))]) (st' := []) (h' := (m_wr h2 344 a1 (m_rd h 344 a1))) (cs := [GI h2 344 1 a1]) (by decide +kernel) rfl ⟨(a_344 hL).gi hc.1.1 hc.1.2, trivial⟩) ?_
    have hL : LR (m_wr h2 344 a1 (m_rd h 344 a1)) := hL.wa (TA.le5 (a_344 hL) (by decide))
    have hK := hK.tr (KD.wr : KD h2 (m_wr h2 344 a1 (m_rd h 344 a1)))
    refine RK.of (RN.blk (ops := [(58, .aload_n 0)]) (pc' := 59) (lv' := [(0, .inr (.inr 334)), (1, .inl a1), (3, .inl (m_rd h 344 a1))]) (st' := [.inr (.inr 334)]) (h' := (m_wr h2 344 a1 (m_rd h 344 a1))) (cs := []) (by decide +kernel) rfl trivial) ?_
    obtain ⟨h3, hG, hF⟩ := bv_of hF
    have hq := rcv_ok (as := []) (TO.gk (o_334 hL))
    obtain ⟨hN, hL, hQ⟩ := DX12_laysBack (d := d + 7) hL  hG
    refine RK.of (RN.cv (i := 414) (k := 254) (q2 := iX12_laysBack) (as := [.inr (.inr 334)]) (r := []) (v := none) (h1 := h3) (by decide +kernel) rfl rfl rfl rfl rfl hq hN) ?_
    have hK := hK.tr hQ
    exact RK.vR (by decide +kernel) rfl hL hK hF
noncomputable def GX12_said_L52 (u2 : Int) (K0 : Int → Int → MH → Option (Int × MH)) : Nat → Int → Int → Int → MH → Option (Int × MH)
  | 0, _, _, _, _ => none
  | f + 1, v3, v4, v5, h =>
    (if v5 < 0 then
     K0 v3 v4 h
    else
     gd [IB v5 256] (
      (if (m_rd h 354 v5) = 0 then
       GX12_said_L52 u2 K0 f v3 v4 (m_w32 (v5 + (-1))) h
      else
       GX12_said_L52 u2 K0 f (m_w32 (v3 + 1)) v5 (m_w32 (v5 + (-1))) h)))
theorem DX12_said_L52 {d : Nat} {u2 : Int} {K0 : Int → Int → MH → Option (Int × MH)} {r : Int × MH} {h0 hB : MH} (hB0 : KD h0 hB) (hK0 : ∀ (w3 : Int) (w4 : Int) (h : MH), LR h → KD hB h → K0 w3 w4 h = some r → RK xs L iX12_said (d + 9) 83 [(2, .inl u2), (3, .inl w3), (4, .inl w4)] [] h (RIo r) h0 r.2) : ∀ (f : Nat) (v3 : Int) (v4 : Int) (v5 : Int) (h : MH), LR h → KD hB h → GX12_said_L52 u2 K0 f v3 v4 v5 h = some r → RK xs L iX12_said (d + 9) 52 [(0, .inr (.inr 334)), (2, .inl u2), (3, .inl v3), (4, .inl v4), (5, .inl v5)] [] h (RIo r) h0 r.2 := by
  intro f
  induction f with
  | zero =>
    intro v3 v4 v5 h hL hJ hF
    cases hF
  | succ f ih =>
    intro v3 v4 v5 h hL hJ hF
    unfold GX12_said_L52 at hF
    have hK := hB0.tr hJ
    refine RK.of (RN.blk (ops := [(52, .iload 5)]) (pc' := 54) (lv' := [(0, .inr (.inr 334)), (2, .inl u2), (3, .inl v3), (4, .inl v4), (5, .inl v5)]) (st' := [.inl v5]) (h' := h) (cs := []) (by decide +kernel) rfl trivial) ?_
    rcases it_of hF with ⟨hb, hF⟩ | ⟨hb, hF⟩
    · refine RK.of (RN.ift (cd := .lt) (off := 29) (tgt := 83) (by decide +kernel) (mif_lt hb)) ?_
      exact RK.sub (hK0 _ _ _ hL hJ hF) (sub_cons rfl (sub_cons rfl (sub_cons rfl sub_nil)))
    · refine RK.of (RN.iff (cd := .lt) (off := 29) (tgt := 83) (by decide +kernel) (mif_ltn hb)) ?_
      refine RK.of (RN.blk (ops := [(57, .aload_n 0)]) (pc' := 58) (lv' := [(0, .inr (.inr 334)), (2, .inl u2), (3, .inl v3), (4, .inl v4), (5, .inl v5)]) (st' := [.inr (.inr 334)]) (h' := h) (cs := []) (by decide +kernel) rfl trivial) ?_
      refine RK.of (RN.gr (i := 74) (ci := 12) (k := 36) (fn := true) (v := 354) (by decide +kernel) rfl (TO.gk (o_334 hL)) (hL.fa (v := 354) 36 4 256 (o_334 hL) rfl (by decide) rfl (by decide)).1) ?_
      obtain ⟨hc, hF⟩ := gd_of hF
      refine RK.of (RN.blk (ops := [(61, .iload 5), (63, .baload)]) (pc' := 64) (lv' := [(0, .inr (.inr 334)), (2, .inl u2), (3, .inl v3), (4, .inl v4), (5, .inl v5)]) (st' := [.inl (m_rd h 354 v5)]) (h' := h) (cs := [GB h 354 v5]) (by decide +kernel) rfl ⟨(a_354 hL).gb (by decide) hc.1.1 hc.1.2, trivial⟩) ?_
      rcases it_of hF with ⟨hb, hF⟩ | ⟨hb, hF⟩
      · refine RK.of (RN.iff (cd := .ne) (off := 6) (tgt := 70) (by decide +kernel) (mif_nen hb)) ?_
        refine RK.of (RN.goto (off := 10) (tgt := 77) (by decide +kernel)) ?_
        refine RK.of (RN.blk (ops := [(77, .iinc 5 (-1))]) (pc' := 80) (lv' := [(5, .inl (m_w32 (v5 + (-1)))), (0, .inr (.inr 334)), (2, .inl u2), (3, .inl v3), (4, .inl v4)]) (st' := []) (h' := h) (cs := []) (by decide +kernel) rfl trivial) ?_
        refine RK.of (RN.goto (off := -28) (tgt := 52) (by decide +kernel)) ?_
        exact RK.sub (ih _ _ _ _ hL hJ hF) (sub_cons rfl (sub_cons rfl (sub_cons rfl (sub_cons rfl (sub_cons rfl sub_nil)))))
      · refine RK.of (RN.ift (cd := .ne) (off := 6) (tgt := 70) (by decide +kernel) (mif_ne hb)) ?_
        refine RK.of (RN.blk (ops := [(70, .iinc 3 1), (73, .iload 5), (75, .istore 4)]) (pc' := 77) (lv' := [(4, .inl v5), (3, .inl (m_w32 (v3 + 1))), (0, .inr (.inr 334)), (2, .inl u2), (5, .inl v5)]) (st' := []) (h' := h) (cs := []) (by decide +kernel) rfl trivial) ?_
        refine RK.of (RN.blk (ops := [(77, .iinc 5 (-1))]) (pc' := 80) (lv' := [(5, .inl (m_w32 (v5 + (-1)))), (4, .inl v5), (3, .inl (m_w32 (v3 + 1))), (0, .inr (.inr 334)), (2, .inl u2)]) (st' := []) (h' := h) (cs := []) (by decide +kernel) rfl trivial) ?_
        refine RK.of (RN.goto (off := -28) (tgt := 52) (by decide +kernel)) ?_
        exact RK.sub (ih _ _ _ _ hL hJ hF) (sub_cons rfl (sub_cons rfl (sub_cons rfl (sub_cons rfl (sub_cons rfl sub_nil)))))
noncomputable def GX12_said (a1 : Int) (a2 : Int) (h : MH) : Option (Int × MH) :=
  (if a1 < 0 then
   some ((-1), h)
  else
   (if a1 < (m_rd h 344 5) then
    (bd (GX12_in a2 0 1 h) (fun x2 h1 =>
     (if x2 = 0 then
      some ((-1), h1)
     else
      (bd (GX12_codesMany h1) (fun x4 h3 =>
       (bv (GX12_fillsCanBe (m_w32 (124 + a1)) x4 h3) (fun h5 =>
        (bd (GX12_codesMany h5) (fun x7 h6 =>
         GX12_said_L52 a2 (fun w8 w9 h10 =>
          (if a2 = 0 then
           some (w8, h10)
          else
           some (w9, h10))) FU 0 (-2) (m_w32 (x7 - 1)) h6)))))))))
   else
    some ((-1), h)))
theorem DX12_said {d : Nat} {a1 : Int} {a2 : Int} {h : MH} {r : Int × MH} (hL : LR h) (hF : GX12_said a1 a2 h = some r) : RN xs L iX12_said (d + 9) 0 (lvE 0 [.inr (.inr 334), .inl a1, .inl a2]) [] h (RIo r) ∧ LR r.2 ∧ KD h r.2 := by
  unfold GX12_said at hF
  have hK : KD h h := KD.rf
  show RK xs L iX12_said (d + 9) 0 (lvE 0 [.inr (.inr 334), .inl a1, .inl a2]) [] h (RIo r) h r.2
  refine RK.of (RN.blk (ops := [(0, .iload_n 1)]) (pc' := 1) (lv' := [(0, .inr (.inr 334)), (1, .inl a1), (2, .inl a2)]) (st' := [.inl a1]) (h' := h) (cs := []) (by decide +kernel) rfl trivial) ?_
  rcases it_of hF with ⟨hb, hF⟩ | ⟨hb, hF⟩
  · refine RK.of (RN.ift (cd := .lt) (off := 23) (tgt := 24) (by decide +kernel) (mif_lt hb)) ?_
    refine RK.of (RN.blk (ops := [(24, .iconst (-1))]) (pc' := 25) (lv' := [(0, .inr (.inr 334)), (1, .inl a1), (2, .inl a2)]) (st' := [.inl (-1)]) (h' := h) (cs := []) (by decide +kernel) rfl trivial) ?_
    exact RK.iR (by decide +kernel) rfl hL hK hF
  · refine RK.of (RN.iff (cd := .lt) (off := 23) (tgt := 24) (by decide +kernel) (mif_ltn hb)) ?_
    refine RK.of (RN.blk (ops := [(4, .iload_n 1), (5, .aload_n 0)]) (pc' := 6) (lv' := [(0, .inr (.inr 334)), (1, .inl a1), (2, .inl a2)]) (st' := [.inr (.inr 334), .inl a1]) (h' := h) (cs := []) (by decide +kernel) rfl trivial) ?_
    refine RK.of (RN.gr (i := 39) (ci := 12) (k := 20) (fn := true) (v := 344) (by decide +kernel) rfl (TO.gk (o_334 hL)) (hL.fa (v := 344) 20 1 167 (o_334 hL) rfl (by decide) rfl (by decide)).1) ?_
    refine RK.of (RN.blk (ops := [(9, .iconst 5), (10, .iaload)]) (pc' := 11) (lv' := [(0, .inr (.inr 334)), (1, .inl a1), (2, .inl a2)]) (st' := [.inl (m_rd h 344 5), .inl a1]) (h' := h) (cs := [GI h 344 1 5]) (by decide +kernel) rfl ⟨(a_344 hL).gi (by decide) (by decide), trivial⟩) ?_
    rcases it_of hF with ⟨hb, hF⟩ | ⟨hb, hF⟩
    · refine RK.of (RN.icf (cd := .ge) (off := 13) (tgt := 24) (by decide +kernel) (mif_gen hb)) ?_
      refine RK.of (RN.blk (ops := [(14, .iload_n 2), (15, .i2l), (16, .lconst 0), (17, .lconst 1)]) (pc' := 18) (lv' := [(0, .inr (.inr 334)), (1, .inl a1), (2, .inl a2)]) (st' := [.inr (.inl 1), .inr (.inl 0), .inr (.inl a2)]) (h' := h) (cs := []) (by decide +kernel) rfl trivial) ?_
      obtain ⟨x2, h1, hG, hF⟩ := bd_of hF
      obtain ⟨hN, hL, hQ⟩ := DX12_in (d := d + 8) hL  hG
      refine RK.of (RN.cst (i := 127) (k := 156) (q2 := iX12_in) (as := [.inr (.inl a2), .inr (.inl 0), .inr (.inl 1)]) (r := []) (v := some (.inl x2)) (h1 := h1) (by decide +kernel) rfl rfl rfl rfl rfl hN) ?_
      have hK := hK.tr hQ
      rcases it_of hF with ⟨hb, hF⟩ | ⟨hb, hF⟩
      · refine RK.of (RN.iff (cd := .ne) (off := 5) (tgt := 26) (by decide +kernel) (mif_nen hb)) ?_
        refine RK.of (RN.blk (ops := [(24, .iconst (-1))]) (pc' := 25) (lv' := [(0, .inr (.inr 334)), (1, .inl a1), (2, .inl a2)]) (st' := [.inl (-1)]) (h' := h1) (cs := []) (by decide +kernel) rfl trivial) ?_
        exact RK.iR (by decide +kernel) rfl hL hK hF
      · refine RK.of (RN.ift (cd := .ne) (off := 5) (tgt := 26) (by decide +kernel) (mif_ne hb)) ?_
        refine RK.of (RN.blk (ops := [(26, .iconst 0), (27, .istore_n 3), (28, .bipush (-2)), (30, .istore 4), (32, .aload_n 0), (33, .bipush 124), (35, .iload_n 1), (36, .iadd), (37, .aload_n 0)]) (pc' := 38) (lv' := [(4, .inl (-2)), (3, .inl 0), (0, .inr (.inr 334)), (1, .inl a1), (2, .inl a2)]) (st' := [.inr (.inr 334), .inl (m_w32 (124 + a1)), .inr (.inr 334)]) (h' := h1) (cs := []) (by decide +kernel) rfl trivial) ?_
        obtain ⟨x4, h3, hG, hF⟩ := bd_of hF
        have hq := rcv_ok (as := []) (TO.gk (o_334 hL))
        obtain ⟨hN, hL, hQ⟩ := DX12_codesMany (d := d + 7) hL  hG
        refine RK.of (RN.cv (i := 298) (k := 203) (q2 := iX12_codesMany) (as := [.inr (.inr 334)]) (r := [.inl (m_w32 (124 + a1)), .inr (.inr 334)]) (v := some (.inl x4)) (h1 := h3) (by decide +kernel) rfl rfl rfl rfl rfl hq hN) ?_
        have hK := hK.tr hQ
        obtain ⟨h5, hG, hF⟩ := bv_of hF
        have hq := rcv_ok (as := [.inl (m_w32 (124 + a1)), .inl x4]) (TO.gk (o_334 hL))
        obtain ⟨hN, hL, hQ⟩ := DX12_fillsCanBe (d := d) hL  hG
        refine RK.of (RN.cv (i := 462) (k := 273) (q2 := iX12_fillsCanBe) (as := [.inr (.inr 334), .inl (m_w32 (124 + a1)), .inl x4]) (r := []) (v := none) (h1 := h5) (by decide +kernel) rfl rfl rfl rfl rfl hq hN) ?_
        have hK := hK.tr hQ
        refine RK.of (RN.blk (ops := [(44, .aload_n 0)]) (pc' := 45) (lv' := [(4, .inl (-2)), (3, .inl 0), (0, .inr (.inr 334)), (1, .inl a1), (2, .inl a2)]) (st' := [.inr (.inr 334)]) (h' := h5) (cs := []) (by decide +kernel) rfl trivial) ?_
        obtain ⟨x7, h6, hG, hF⟩ := bd_of hF
        have hq := rcv_ok (as := []) (TO.gk (o_334 hL))
        obtain ⟨hN, hL, hQ⟩ := DX12_codesMany (d := d + 7) hL  hG
        refine RK.of (RN.cv (i := 298) (k := 203) (q2 := iX12_codesMany) (as := [.inr (.inr 334)]) (r := []) (v := some (.inl x7)) (h1 := h6) (by decide +kernel) rfl rfl rfl rfl rfl hq hN) ?_
        have hK := hK.tr hQ
        refine RK.of (RN.blk (ops := [(48, .iconst 1), (49, .isub), (50, .istore 5)]) (pc' := 52) (lv' := [(5, .inl (m_w32 (x7 - 1))), (4, .inl (-2)), (3, .inl 0), (0, .inr (.inr 334)), (1, .inl a1), (2, .inl a2)]) (st' := []) (h' := h6) (cs := []) (by decide +kernel) rfl trivial) ?_
        refine RK.sub (DX12_said_L52 hK ?_ _ _ _ _ _ hL KD.rf hF) (sub_cons rfl (sub_cons rfl (sub_cons rfl (sub_cons rfl (sub_cons rfl sub_nil)))))
        · intro w8 w9 h10 hL hq hF
          have hK := hK.tr hq
          refine RK.of (RN.blk (ops := [(83, .iload_n 2)]) (pc' := 84) (lv' := [(2, .inl a2), (3, .inl w8), (4, .inl w9)]) (st' := [.inl a2]) (h' := h10) (cs := []) (by decide +kernel) rfl trivial) ?_
          rcases it_of hF with ⟨hb, hF⟩ | ⟨hb, hF⟩
          · refine RK.of (RN.iff (cd := .ne) (off := 7) (tgt := 91) (by decide +kernel) (mif_nen hb)) ?_
            refine RK.of (RN.blk (ops := [(87, .iload_n 3)]) (pc' := 88) (lv' := [(2, .inl a2), (3, .inl w8), (4, .inl w9)]) (st' := [.inl w8]) (h' := h10) (cs := []) (by decide +kernel) rfl trivial) ?_
            refine RK.of (RN.goto (off := 5) (tgt := 93) (by decide +kernel)) ?_
            exact RK.iR (by decide +kernel) rfl hL hK hF
          · refine RK.of (RN.ift (cd := .ne) (off := 7) (tgt := 91) (by decide +kernel) (mif_ne hb)) ?_
            refine RK.of (RN.blk (ops := [(91, .iload 4)]) (pc' := 93) (lv' := [(2, .inl a2), (3, .inl w8), (4, .inl w9)]) (st' := [.inl w9]) (h' := h10) (cs := []) (by decide +kernel) rfl trivial) ?_
            exact RK.iR (by decide +kernel) rfl hL hK hF
    · refine RK.of (RN.ict (cd := .ge) (off := 13) (tgt := 24) (by decide +kernel) (mif_ge hb)) ?_
      refine RK.of (RN.blk (ops := [(24, .iconst (-1))]) (pc' := 25) (lv' := [(0, .inr (.inr 334)), (1, .inl a1), (2, .inl a2)]) (st' := [.inl (-1)]) (h' := h) (cs := []) (by decide +kernel) rfl trivial) ?_
      exact RK.iR (by decide +kernel) rfl hL hK hF
noncomputable def GX12_sent_L38 (K0 : Int → MH → Option (Int × MH)) : Nat → Int → Int → MH → Option (Int × MH)
  | 0, _, _, _ => none
  | f + 1, v2, v3, h =>
    (if v3 < (m_rd h 344 3) then
     gd [IB v3 256] (
      (if (m_rd h 354 v3) = 0 then
       GX12_sent_L38 K0 f (m_bor v2 0) (m_w32 (v3 + 1)) h
      else
       GX12_sent_L38 K0 f (m_bor v2 (m_shl 1 v3)) (m_w32 (v3 + 1)) h))
    else
     K0 v2 h)
theorem DX12_sent_L38 {d : Nat} {K0 : Int → MH → Option (Int × MH)} {r : Int × MH} {h0 hB : MH} (hB0 : KD h0 hB) (hK0 : ∀ (w2 : Int) (h : MH), LR h → KD hB h → K0 w2 h = some r → RK xs L iX12_sent (d + 9) 73 [(2, .inl w2)] [] h (RIo r) h0 r.2) : ∀ (f : Nat) (v2 : Int) (v3 : Int) (h : MH), LR h → KD hB h → GX12_sent_L38 K0 f v2 v3 h = some r → RK xs L iX12_sent (d + 9) 38 [(0, .inr (.inr 334)), (2, .inl v2), (3, .inl v3)] [] h (RIo r) h0 r.2 := by
  intro f
  induction f with
  | zero =>
    intro v2 v3 h hL hJ hF
    cases hF
  | succ f ih =>
    intro v2 v3 h hL hJ hF
    unfold GX12_sent_L38 at hF
    have hK := hB0.tr hJ
    refine RK.of (RN.blk (ops := [(38, .iload_n 3), (39, .aload_n 0)]) (pc' := 40) (lv' := [(0, .inr (.inr 334)), (2, .inl v2), (3, .inl v3)]) (st' := [.inr (.inr 334), .inl v3]) (h' := h) (cs := []) (by decide +kernel) rfl trivial) ?_
    refine RK.of (RN.gr (i := 39) (ci := 12) (k := 20) (fn := true) (v := 344) (by decide +kernel) rfl (TO.gk (o_334 hL)) (hL.fa (v := 344) 20 1 167 (o_334 hL) rfl (by decide) rfl (by decide)).1) ?_
    refine RK.of (RN.blk (ops := [(43, .iconst 3), (44, .iaload)]) (pc' := 45) (lv' := [(0, .inr (.inr 334)), (2, .inl v2), (3, .inl v3)]) (st' := [.inl (m_rd h 344 3), .inl v3]) (h' := h) (cs := [GI h 344 1 3]) (by decide +kernel) rfl ⟨(a_344 hL).gi (by decide) (by decide), trivial⟩) ?_
    rcases it_of hF with ⟨hb, hF⟩ | ⟨hb, hF⟩
    · refine RK.of (RN.icf (cd := .ge) (off := 28) (tgt := 73) (by decide +kernel) (mif_gen hb)) ?_
      refine RK.of (RN.blk (ops := [(48, .iload_n 2), (49, .aload_n 0)]) (pc' := 50) (lv' := [(0, .inr (.inr 334)), (2, .inl v2), (3, .inl v3)]) (st' := [.inr (.inr 334), .inl v2]) (h' := h) (cs := []) (by decide +kernel) rfl trivial) ?_
      refine RK.of (RN.gr (i := 74) (ci := 12) (k := 36) (fn := true) (v := 354) (by decide +kernel) rfl (TO.gk (o_334 hL)) (hL.fa (v := 354) 36 4 256 (o_334 hL) rfl (by decide) rfl (by decide)).1) ?_
      obtain ⟨hc, hF⟩ := gd_of hF
      refine RK.of (RN.blk (ops := [(53, .iload_n 3), (54, .baload)]) (pc' := 55) (lv' := [(0, .inr (.inr 334)), (2, .inl v2), (3, .inl v3)]) (st' := [.inl (m_rd h 354 v3), .inl v2]) (h' := h) (cs := [GB h 354 v3]) (by decide +kernel) rfl ⟨(a_354 hL).gb (by decide) hc.1.1 hc.1.2, trivial⟩) ?_
      rcases it_of hF with ⟨hb, hF⟩ | ⟨hb, hF⟩
      · refine RK.of (RN.ift (cd := .eq) (off := 9) (tgt := 64) (by decide +kernel) (mif_eq hb)) ?_
        refine RK.of (RN.blk (ops := [(64, .iconst 0)]) (pc' := 65) (lv' := [(0, .inr (.inr 334)), (2, .inl v2), (3, .inl v3)]) (st' := [.inl 0, .inl v2]) (h' := h) (cs := []) (by decide +kernel) rfl trivial) ?_
        refine RK.of (RN.blk (ops := [(65, .ior), (66, .istore_n 2), (67, .iinc 3 1)]) (pc' := 70) (lv' := [(3, .inl (m_w32 (v3 + 1))), (2, .inl (m_bor v2 0)), (0, .inr (.inr 334))]) (st' := []) (h' := h) (cs := []) (by decide +kernel) rfl trivial) ?_
        refine RK.of (RN.goto (off := -32) (tgt := 38) (by decide +kernel)) ?_
        exact RK.sub (ih _ _ _ hL hJ hF) (sub_cons rfl (sub_cons rfl (sub_cons rfl sub_nil)))
      · refine RK.of (RN.iff (cd := .eq) (off := 9) (tgt := 64) (by decide +kernel) (mif_eqn hb)) ?_
        refine RK.of (RN.blk (ops := [(58, .iconst 1), (59, .iload_n 3), (60, .ishl)]) (pc' := 61) (lv' := [(0, .inr (.inr 334)), (2, .inl v2), (3, .inl v3)]) (st' := [.inl (m_shl 1 v3), .inl v2]) (h' := h) (cs := []) (by decide +kernel) rfl trivial) ?_
        refine RK.of (RN.goto (off := 4) (tgt := 65) (by decide +kernel)) ?_
        refine RK.of (RN.blk (ops := [(65, .ior), (66, .istore_n 2), (67, .iinc 3 1)]) (pc' := 70) (lv' := [(3, .inl (m_w32 (v3 + 1))), (2, .inl (m_bor v2 (m_shl 1 v3))), (0, .inr (.inr 334))]) (st' := []) (h' := h) (cs := []) (by decide +kernel) rfl trivial) ?_
        refine RK.of (RN.goto (off := -32) (tgt := 38) (by decide +kernel)) ?_
        exact RK.sub (ih _ _ _ hL hJ hF) (sub_cons rfl (sub_cons rfl (sub_cons rfl sub_nil)))
    · refine RK.of (RN.ict (cd := .ge) (off := 28) (tgt := 73) (by decide +kernel) (mif_ge hb)) ?_
      exact RK.sub (hK0 _ _ hL hJ hF) (sub_cons rfl sub_nil)
noncomputable def GX12_sent (a1 : Int) (h : MH) : Option (Int × MH) :=
  (if a1 < 0 then
   some ((-1), h)
  else
   (if a1 < (m_rd h 344 4) then
    (bv (GX12_fillsCanBe (m_w32 ((m_w32 (88 + (m_w32 (3 * a1)))) + 2)) (m_rd h 344 3) h) (fun h1 =>
     GX12_sent_L38 (fun w2 h3 =>
      some (w2, h3)) FU 0 0 h1))
   else
    some ((-1), h)))
theorem DX12_sent {d : Nat} {a1 : Int} {h : MH} {r : Int × MH} (hL : LR h) (hF : GX12_sent a1 h = some r) : RN xs L iX12_sent (d + 9) 0 (lvE 0 [.inr (.inr 334), .inl a1]) [] h (RIo r) ∧ LR r.2 ∧ KD h r.2 := by
  unfold GX12_sent at hF
  have hK : KD h h := KD.rf
  show RK xs L iX12_sent (d + 9) 0 (lvE 0 [.inr (.inr 334), .inl a1]) [] h (RIo r) h r.2
  refine RK.of (RN.blk (ops := [(0, .iload_n 1)]) (pc' := 1) (lv' := [(0, .inr (.inr 334)), (1, .inl a1)]) (st' := [.inl a1]) (h' := h) (cs := []) (by decide +kernel) rfl trivial) ?_
  rcases it_of hF with ⟨hb, hF⟩ | ⟨hb, hF⟩
  · refine RK.of (RN.ift (cd := .lt) (off := 13) (tgt := 14) (by decide +kernel) (mif_lt hb)) ?_
    refine RK.of (RN.blk (ops := [(14, .iconst (-1))]) (pc' := 15) (lv' := [(0, .inr (.inr 334)), (1, .inl a1)]) (st' := [.inl (-1)]) (h' := h) (cs := []) (by decide +kernel) rfl trivial) ?_
    exact RK.iR (by decide +kernel) rfl hL hK hF
  · refine RK.of (RN.iff (cd := .lt) (off := 13) (tgt := 14) (by decide +kernel) (mif_ltn hb)) ?_
    refine RK.of (RN.blk (ops := [(4, .iload_n 1), (5, .aload_n 0)]) (pc' := 6) (lv' := [(0, .inr (.inr 334)), (1, .inl a1)]) (st' := [.inr (.inr 334), .inl a1]) (h' := h) (cs := []) (by decide +kernel) rfl trivial) ?_
    refine RK.of (RN.gr (i := 39) (ci := 12) (k := 20) (fn := true) (v := 344) (by decide +kernel) rfl (TO.gk (o_334 hL)) (hL.fa (v := 344) 20 1 167 (o_334 hL) rfl (by decide) rfl (by decide)).1) ?_
    refine RK.of (RN.blk (ops := [(9, .iconst 4), (10, .iaload)]) (pc' := 11) (lv' := [(0, .inr (.inr 334)), (1, .inl a1)]) (st' := [.inl (m_rd h 344 4), .inl a1]) (h' := h) (cs := [GI h 344 1 4]) (by decide +kernel) rfl ⟨(a_344 hL).gi (by decide) (by decide), trivial⟩) ?_
    rcases it_of hF with ⟨hb, hF⟩ | ⟨hb, hF⟩
    · refine RK.of (RN.ict (cd := .lt) (off := 5) (tgt := 16) (by decide +kernel) (mif_lt hb)) ?_
      refine RK.of (RN.blk (ops := [(16, .iconst 0), (17, .istore_n 2), (18, .aload_n 0), (19, .bipush 88), (21, .iconst 3), (22, .iload_n 1), (23, .imul), (24, .iadd), (25, .iconst 2), (26, .iadd), (27, .aload_n 0)]) (pc' := 28) (lv' := [(2, .inl 0), (0, .inr (.inr 334)), (1, .inl a1)]) (st' := [.inr (.inr 334), .inl (m_w32 ((m_w32 (88 + (m_w32 (3 * a1)))) + 2)), .inr (.inr 334)]) (h' := h) (cs := []) (by decide +kernel) rfl trivial) ?_
      refine RK.of (RN.gr (i := 39) (ci := 12) (k := 20) (fn := true) (v := 344) (by decide +kernel) rfl (TO.gk (o_334 hL)) (hL.fa (v := 344) 20 1 167 (o_334 hL) rfl (by decide) rfl (by decide)).1) ?_
      refine RK.of (RN.blk (ops := [(31, .iconst 3), (32, .iaload)]) (pc' := 33) (lv' := [(2, .inl 0), (0, .inr (.inr 334)), (1, .inl a1)]) (st' := [.inl (m_rd h 344 3), .inl (m_w32 ((m_w32 (88 + (m_w32 (3 * a1)))) + 2)), .inr (.inr 334)]) (h' := h) (cs := [GI h 344 1 3]) (by decide +kernel) rfl ⟨(a_344 hL).gi (by decide) (by decide), trivial⟩) ?_
      obtain ⟨h1, hG, hF⟩ := bv_of hF
      have hq := rcv_ok (as := [.inl (m_w32 ((m_w32 (88 + (m_w32 (3 * a1)))) + 2)), .inl (m_rd h 344 3)]) (TO.gk (o_334 hL))
      obtain ⟨hN, hL, hQ⟩ := DX12_fillsCanBe (d := d) hL  hG
      refine RK.of (RN.cv (i := 462) (k := 273) (q2 := iX12_fillsCanBe) (as := [.inr (.inr 334), .inl (m_w32 ((m_w32 (88 + (m_w32 (3 * a1)))) + 2)), .inl (m_rd h 344 3)]) (r := []) (v := none) (h1 := h1) (by decide +kernel) rfl rfl rfl rfl rfl hq hN) ?_
      have hK := hK.tr hQ
      refine RK.of (RN.blk (ops := [(36, .iconst 0), (37, .istore_n 3)]) (pc' := 38) (lv' := [(3, .inl 0), (2, .inl 0), (0, .inr (.inr 334)), (1, .inl a1)]) (st' := []) (h' := h1) (cs := []) (by decide +kernel) rfl trivial) ?_
      refine RK.sub (DX12_sent_L38 hK ?_ _ _ _ _ hL KD.rf hF) (sub_cons rfl (sub_cons rfl (sub_cons rfl sub_nil)))
      · intro w2 h3 hL hq hF
        have hK := hK.tr hq
        refine RK.of (RN.blk (ops := [(73, .iload_n 2)]) (pc' := 74) (lv' := [(2, .inl w2)]) (st' := [.inl w2]) (h' := h3) (cs := []) (by decide +kernel) rfl trivial) ?_
        exact RK.iR (by decide +kernel) rfl hL hK hF
    · refine RK.of (RN.icf (cd := .lt) (off := 5) (tgt := 16) (by decide +kernel) (mif_ltn hb)) ?_
      refine RK.of (RN.blk (ops := [(14, .iconst (-1))]) (pc' := 15) (lv' := [(0, .inr (.inr 334)), (1, .inl a1)]) (st' := [.inl (-1)]) (h' := h) (cs := []) (by decide +kernel) rfl trivial) ?_
      exact RK.iR (by decide +kernel) rfl hL hK hF
noncomputable def GX12_seed (a1 : Int) (h : MH) : Option (Int × MH) :=
  (if a1 < 0 then
   some ((-1), h)
  else
   some ((m_rd h 334 22), (m_wr h 334 22 a1)))
theorem DX12_seed {d : Nat} {a1 : Int} {h : MH} {r : Int × MH} (hL : LR h) (hF : GX12_seed a1 h = some r) : RN xs L iX12_seed (d) 0 (lvE 0 [.inr (.inr 334), .inl a1]) [] h (RIo r) ∧ LR r.2 ∧ KD h r.2 := by
  unfold GX12_seed at hF
  have hK : KD h h := KD.rf
  show RK xs L iX12_seed (d) 0 (lvE 0 [.inr (.inr 334), .inl a1]) [] h (RIo r) h r.2
  refine RK.of (RN.blk (ops := [(0, .iload_n 1)]) (pc' := 1) (lv' := [(0, .inr (.inr 334)), (1, .inl a1)]) (st' := [.inl a1]) (h' := h) (cs := []) (by decide +kernel) rfl trivial) ?_
  rcases it_of hF with ⟨hb, hF⟩ | ⟨hb, hF⟩
  · refine RK.of (RN.iff (cd := .ge) (off := 5) (tgt := 6) (by decide +kernel) (mif_gen hb)) ?_
    refine RK.of (RN.blk (ops := [(4, .iconst (-1))]) (pc' := 5) (lv' := [(0, .inr (.inr 334)), (1, .inl a1)]) (st' := [.inl (-1)]) (h' := h) (cs := []) (by decide +kernel) rfl trivial) ?_
    exact RK.iR (by decide +kernel) rfl hL hK hF
  · refine RK.of (RN.ift (cd := .ge) (off := 5) (tgt := 6) (by decide +kernel) (mif_ge hb)) ?_
    refine RK.of (RN.blk (ops := [(6, .aload_n 0), (7, .getfield 465), (10, .istore_n 2), (11, .aload_n 0), (12, .iload_n 1), (13, .putfield 465)]) (pc' := 16) (lv' := [(2, .inl (m_rd h 334 22)), (0, .inr (.inr 334)), (1, .inl a1)]) (st' := []) (h' := (m_wr h 334 22 a1)) (cs := [GK h 334 12, GK h 334 12]) (by decide +kernel) rfl ⟨(o_334 hL).gk, (o_334 hL).gk, trivial⟩) ?_
    have hL : LR (m_wr h 334 22 a1) := LR.wf (k := 22) hL (o_334 hL) rfl
    have hK := hK.tr (KD.wr : KD h (m_wr h 334 22 a1))
    refine RK.of (RN.blk (ops := [(16, .iload_n 2)]) (pc' := 17) (lv' := [(2, .inl (m_rd h 334 22)), (0, .inr (.inr 334)), (1, .inl a1)]) (st' := [.inl (m_rd h 334 22)]) (h' := (m_wr h 334 22 a1)) (cs := []) (by decide +kernel) rfl trivial) ?_
    exact RK.iR (by decide +kernel) rfl hL hK hF
noncomputable def GX12_draw (a1 : Int) (h : MH) : Option (Int × MH) :=
  hl (m_wr h 334 37 (Int.tmod (m_w64 ((m_w64 ((m_rd h 334 37) * 1103515245)) + 12345)) 2147483648)) (fun h1 =>
   gd [(a1 : Int) ≠ 0] (
    some ((m_w32 (Int.tmod (m_w64 (Int.tdiv (m_rd h1 334 37) 65536)) a1)), h1)))
theorem DX12_draw {d : Nat} {a1 : Int} {h : MH} {r : Int × MH} (hL : LR h) (hF : GX12_draw a1 h = some r) : RN xs L iX12_draw (d) 0 (lvE 0 [.inr (.inr 334), .inl a1]) [] h (RIo r) ∧ LR r.2 ∧ KD h r.2 := by
  unfold GX12_draw at hF
  have hK : KD h h := KD.rf
  show RK xs L iX12_draw (d) 0 (lvE 0 [.inr (.inr 334), .inl a1]) [] h (RIo r) h r.2
  refine RK.of (RN.blk (ops := [(0, .aload_n 0), (1, .aload_n 0), (2, .getfield 468), (5, .ldc2_w 472), (8, .lmul), (9, .ldc2_w 474), (12, .ladd), (13, .ldc2_w 476), (16, .lrem), (17, .putfield 468)]) (pc' := 20) (lv' := [(0, .inr (.inr 334)), (1, .inl a1)]) (st' := []) (h' := (m_wr h 334 37 (Int.tmod (m_w64 ((m_w64 ((m_rd h 334 37) * 1103515245)) + 12345)) 2147483648))) (cs := [GK h 334 12, (2147483648 : Int) ≠ 0, GK h 334 12]) (by decide +kernel) rfl ⟨(o_334 hL).gk, (by decide), (o_334 hL).gk, trivial⟩) ?_
  have hL : LR (m_wr h 334 37 (Int.tmod (m_w64 ((m_w64 ((m_rd h 334 37) * 1103515245)) + 12345)) 2147483648)) := LR.wf (k := 37) hL (o_334 hL) rfl
  have hK := hK.tr (KD.wr : KD h (m_wr h 334 37 (Int.tmod (m_w64 ((m_w64 ((m_rd h 334 37) * 1103515245)) + 12345)) 2147483648)))
  obtain ⟨h1, he, hF⟩ := hl_of hF
  refine RK.of (RN.hl he) ?_
  rw [← he] at hL hK
  obtain ⟨hc, hF⟩ := gd_of hF
  refine RK.of (RN.blk (ops := [(20, .aload_n 0), (21, .getfield 468), (24, .ldc2_w 478), (27, .ldiv), (28, .iload_n 1), (29, .i2l), (30, .lrem), (31, .l2i)]) (pc' := 32) (lv' := [(0, .inr (.inr 334)), (1, .inl a1)]) (st' := [.inl (m_w32 (Int.tmod (m_w64 (Int.tdiv (m_rd h1 334 37) 65536)) a1))]) (h' := h1) (cs := [GK h1 334 12, (65536 : Int) ≠ 0, (a1 : Int) ≠ 0]) (by decide +kernel) rfl ⟨(o_334 hL).gk, (by decide), hc.1, trivial⟩) ?_
  exact RK.iR (by decide +kernel) rfl hL hK hF
noncomputable def GX12_posts_L87 (u1 : Int) (u2 : Int) (u3 : Int) (u4 : Int) (u5 : Int) (u6 : Int) (u7 : Int) (K0 : MH → Option (Int × MH)) : Nat → Int → MH → Option (Int × MH)
  | 0, _, _ => none
  | f + 1, v8, h =>
    (if v8 < u2 then
     (bd (GX12_draw 100 h) (fun x2 h1 =>
      jn (fun (h4 : MH) =>
       (bd (GX12_passes h4) (fun x6 h5 =>
        GX12_posts_L87 u1 u2 u3 u4 u5 u6 u7 K0 f (m_w32 (v8 + 1)) h5))) (fun j3 =>
       (if x2 < u3 then
        (bd (GX12_codesMany h1) (fun x8 h7 =>
         (bd (GX12_draw x8 h7) (fun x10 h9 =>
          (bv (GX12_comes x10 h9) (fun h11 =>
           j3 h11))))))
       else
        j3 h1))))
    else
     K0 h)
theorem DX12_posts_L87 {d : Nat} {u1 : Int} {u2 : Int} {u3 : Int} {u4 : Int} {u5 : Int} {u6 : Int} {u7 : Int} {K0 : MH → Option (Int × MH)} {r : Int × MH} {h0 hB : MH} (hB0 : KD h0 hB) (hK0 : ∀ (h : MH), LR h → KD hB h → K0 h = some r → RK xs L iX12_posts (d + 7) 126 [(0, .inr (.inr 334)), (1, .inl u1), (2, .inl u2), (3, .inl u3), (4, .inl u4), (5, .inl u5), (6, .inl u6), (7, .inl u7)] [] h (RIo r) h0 r.2) : ∀ (f : Nat) (v8 : Int) (h : MH), LR h → KD hB h → GX12_posts_L87 u1 u2 u3 u4 u5 u6 u7 K0 f v8 h = some r → RK xs L iX12_posts (d + 7) 87 [(0, .inr (.inr 334)), (1, .inl u1), (2, .inl u2), (3, .inl u3), (4, .inl u4), (5, .inl u5), (6, .inl u6), (7, .inl u7), (8, .inl v8)] [] h (RIo r) h0 r.2 := by
  intro f
  induction f with
  | zero =>
    intro v8 h hL hJ hF
    cases hF
  | succ f ih =>
    intro v8 h hL hJ hF
    unfold GX12_posts_L87 at hF
    have hK := hB0.tr hJ
    refine RK.of (RN.blk (ops := [(87, .iload 8), (89, .iload_n 2)]) (pc' := 90) (lv' := [(0, .inr (.inr 334)), (1, .inl u1), (2, .inl u2), (3, .inl u3), (4, .inl u4), (5, .inl u5), (6, .inl u6), (7, .inl u7), (8, .inl v8)]) (st' := [.inl u2, .inl v8]) (h' := h) (cs := []) (by decide +kernel) rfl trivial) ?_
    rcases it_of hF with ⟨hb, hF⟩ | ⟨hb, hF⟩
    · refine RK.of (RN.icf (cd := .ge) (off := 36) (tgt := 126) (by decide +kernel) (mif_gen hb)) ?_
      refine RK.of (RN.blk (ops := [(93, .aload_n 0), (94, .bipush 100)]) (pc' := 96) (lv' := [(0, .inr (.inr 334)), (1, .inl u1), (2, .inl u2), (3, .inl u3), (4, .inl u4), (5, .inl u5), (6, .inl u6), (7, .inl u7), (8, .inl v8)]) (st' := [.inl 100, .inr (.inr 334)]) (h' := h) (cs := []) (by decide +kernel) rfl trivial) ?_
      obtain ⟨x2, h1, hG, hF⟩ := bd_of hF
      have hq := rcv_ok (as := [.inl 100]) (TO.gk (o_334 hL))
      obtain ⟨hN, hL, hQ⟩ := DX12_draw (d := d + 6) hL  hG
      refine RK.of (RN.cv (i := 482) (k := 277) (q2 := iX12_draw) (as := [.inr (.inr 334), .inl 100]) (r := []) (v := some (.inl x2)) (h1 := h1) (by decide +kernel) rfl rfl rfl rfl rfl hq hN) ?_
      have hK := hK.tr hQ
      have hJ := hJ.tr hQ
      refine RK.of (RN.blk (ops := [(99, .iload_n 3)]) (pc' := 100) (lv' := [(0, .inr (.inr 334)), (1, .inl u1), (2, .inl u2), (3, .inl u3), (4, .inl u4), (5, .inl u5), (6, .inl u6), (7, .inl u7), (8, .inl v8)]) (st' := [.inl u3, .inl x2]) (h' := h1) (cs := []) (by decide +kernel) rfl trivial) ?_
      refine jn_use (fun j3 => ∀ (h4 : MH), LR h4 → KD hB h4 → j3 h4 = some r → RK xs L iX12_posts (d + 7) 115 [(0, .inr (.inr 334)), (1, .inl u1), (2, .inl u2), (3, .inl u3), (4, .inl u4), (5, .inl u5), (6, .inl u6), (7, .inl u7), (8, .inl v8)] [] h4 (RIo r) h0 r.2) ?_ ?_ hF
      · intro h4 hL hJ hF
        have hK := hB0.tr hJ
        refine RK.of (RN.blk (ops := [(115, .aload_n 0)]) (pc' := 116) (lv' := [(0, .inr (.inr 334)), (1, .inl u1), (2, .inl u2), (3, .inl u3), (4, .inl u4), (5, .inl u5), (6, .inl u6), (7, .inl u7), (8, .inl v8)]) (st' := [.inr (.inr 334)]) (h' := h4) (cs := []) (by decide +kernel) rfl trivial) ?_
        obtain ⟨x6, h5, hG, hF⟩ := bd_of hF
        have hq := rcv_ok (as := []) (TO.gk (o_334 hL))
        obtain ⟨hN, hL, hQ⟩ := DX12_passes (d := d) hL  hG
        refine RK.of (RN.cv (i := 350) (k := 222) (q2 := iX12_passes) (as := [.inr (.inr 334)]) (r := []) (v := some (.inl x6)) (h1 := h5) (by decide +kernel) rfl rfl rfl rfl rfl hq hN) ?_
        have hK := hK.tr hQ
        have hJ := hJ.tr hQ
        refine RK.of (RN.blk (ops := [(119, .pop), (120, .iinc 8 1)]) (pc' := 123) (lv' := [(8, .inl (m_w32 (v8 + 1))), (0, .inr (.inr 334)), (1, .inl u1), (2, .inl u2), (3, .inl u3), (4, .inl u4), (5, .inl u5), (6, .inl u6), (7, .inl u7)]) (st' := []) (h' := h5) (cs := []) (by decide +kernel) rfl trivial) ?_
        refine RK.of (RN.goto (off := -36) (tgt := 87) (by decide +kernel)) ?_
        exact RK.sub (ih _ _ hL hJ hF) (sub_cons rfl (sub_cons rfl (sub_cons rfl (sub_cons rfl (sub_cons rfl (sub_cons rfl (sub_cons rfl (sub_cons rfl (sub_cons rfl sub_nil)))))))))
      · intro j3 Jj3 hF
        rcases it_of hF with ⟨hb, hF⟩ | ⟨hb, hF⟩
        · refine RK.of (RN.icf (cd := .ge) (off := 15) (tgt := 115) (by decide +kernel) (mif_gen hb)) ?_
          refine RK.of (RN.blk (ops := [(103, .aload_n 0), (104, .aload_n 0), (105, .aload_n 0)]) (pc' := 106) (lv' := [(0, .inr (.inr 334)), (1, .inl u1), (2, .inl u2), (3, .inl u3), (4, .inl u4), (5, .inl u5), (6, .inl u6), (7, .inl u7), (8, .inl v8)]) (st' := [.inr (.inr 334), .inr (.inr 334), .inr (.inr 334)]) (h' := h1) (cs := []) (by decide +kernel) rfl trivial) ?_
          obtain ⟨x8, h7, hG, hF⟩ := bd_of hF
          have hq := rcv_ok (as := []) (TO.gk (o_334 hL))
          obtain ⟨hN, hL, hQ⟩ := DX12_codesMany (d := d + 5) hL  hG
          refine RK.of (RN.cv (i := 298) (k := 203) (q2 := iX12_codesMany) (as := [.inr (.inr 334)]) (r := [.inr (.inr 334), .inr (.inr 334)]) (v := some (.inl x8)) (h1 := h7) (by decide +kernel) rfl rfl rfl rfl rfl hq hN) ?_
          have hK := hK.tr hQ
          have hJ := hJ.tr hQ
          obtain ⟨x10, h9, hG, hF⟩ := bd_of hF
          have hq := rcv_ok (as := [.inl x8]) (TO.gk (o_334 hL))
          obtain ⟨hN, hL, hQ⟩ := DX12_draw (d := d + 6) hL  hG
          refine RK.of (RN.cv (i := 482) (k := 277) (q2 := iX12_draw) (as := [.inr (.inr 334), .inl x8]) (r := [.inr (.inr 334)]) (v := some (.inl x10)) (h1 := h9) (by decide +kernel) rfl rfl rfl rfl rfl hq hN) ?_
          have hK := hK.tr hQ
          have hJ := hJ.tr hQ
          obtain ⟨h11, hG, hF⟩ := bv_of hF
          have hq := rcv_ok (as := [.inl x10]) (TO.gk (o_334 hL))
          obtain ⟨hN, hL, hQ⟩ := DX12_comes (d := d + 6) hL  hG
          refine RK.of (RN.cv (i := 359) (k := 227) (q2 := iX12_comes) (as := [.inr (.inr 334), .inl x10]) (r := []) (v := none) (h1 := h11) (by decide +kernel) rfl rfl rfl rfl rfl hq hN) ?_
          have hK := hK.tr hQ
          have hJ := hJ.tr hQ
          exact RK.sub (Jj3 _ hL hJ hF) (sub_cons rfl (sub_cons rfl (sub_cons rfl (sub_cons rfl (sub_cons rfl (sub_cons rfl (sub_cons rfl (sub_cons rfl (sub_cons rfl sub_nil)))))))))
        · refine RK.of (RN.ict (cd := .ge) (off := 15) (tgt := 115) (by decide +kernel) (mif_ge hb)) ?_
          exact RK.sub (Jj3 _ hL hJ hF) (sub_cons rfl (sub_cons rfl (sub_cons rfl (sub_cons rfl (sub_cons rfl (sub_cons rfl (sub_cons rfl (sub_cons rfl (sub_cons rfl sub_nil)))))))))
    · refine RK.of (RN.ict (cd := .ge) (off := 36) (tgt := 126) (by decide +kernel) (mif_ge hb)) ?_
      exact RK.sub (hK0 _ hL hJ hF) (sub_cons rfl (sub_cons rfl (sub_cons rfl (sub_cons rfl (sub_cons rfl (sub_cons rfl (sub_cons rfl (sub_cons rfl sub_nil))))))))
noncomputable def GX12_posts_L78 (u1 : Int) (u2 : Int) (u3 : Int) (u4 : Int) (K0 : Int → Int → MH → Option (Int × MH)) : Nat → Int → Int → Int → MH → Option (Int × MH)
  | 0, _, _, _, _ => none
  | f + 1, v5, v6, v7, h =>
    (if v7 < u1 then
     GX12_posts_L87 u1 u2 u3 u4 v5 v6 v7 (fun h1 =>
      (bd (GX12_sumOver 20 h1) (fun x3 h2 =>
       (bv (GX12_laysBack h2) (fun h4 =>
        GX12_posts_L78 u1 u2 u3 u4 K0 f (m_w32 (v5 + x3)) (m_w32 (v6 + (m_rd h2 344 11))) (m_w32 (v7 + 1)) h4))))) FU 0 h
    else
     K0 v5 v6 h)
theorem DX12_posts_L78 {d : Nat} {u1 : Int} {u2 : Int} {u3 : Int} {u4 : Int} {K0 : Int → Int → MH → Option (Int × MH)} {r : Int × MH} {h0 hB : MH} (hB0 : KD h0 hB) (hK0 : ∀ (w5 : Int) (w6 : Int) (h : MH), LR h → KD hB h → K0 w5 w6 h = some r → RK xs L iX12_posts (d + 7) 159 [(4, .inl u4), (5, .inl w5), (6, .inl w6)] [] h (RIo r) h0 r.2) : ∀ (f : Nat) (v5 : Int) (v6 : Int) (v7 : Int) (h : MH), LR h → KD hB h → GX12_posts_L78 u1 u2 u3 u4 K0 f v5 v6 v7 h = some r → RK xs L iX12_posts (d + 7) 78 [(0, .inr (.inr 334)), (1, .inl u1), (2, .inl u2), (3, .inl u3), (4, .inl u4), (5, .inl v5), (6, .inl v6), (7, .inl v7)] [] h (RIo r) h0 r.2 := by
  intro f
  induction f with
  | zero =>
    intro v5 v6 v7 h hL hJ hF
    cases hF
  | succ f ih =>
    intro v5 v6 v7 h hL hJ hF
    unfold GX12_posts_L78 at hF
    have hK := hB0.tr hJ
    refine RK.of (RN.blk (ops := [(78, .iload 7), (80, .iload_n 1)]) (pc' := 81) (lv' := [(0, .inr (.inr 334)), (1, .inl u1), (2, .inl u2), (3, .inl u3), (4, .inl u4), (5, .inl v5), (6, .inl v6), (7, .inl v7)]) (st' := [.inl u1, .inl v7]) (h' := h) (cs := []) (by decide +kernel) rfl trivial) ?_
    rcases it_of hF with ⟨hb, hF⟩ | ⟨hb, hF⟩
    · refine RK.of (RN.icf (cd := .ge) (off := 78) (tgt := 159) (by decide +kernel) (mif_gen hb)) ?_
      refine RK.of (RN.blk (ops := [(84, .iconst 0), (85, .istore 8)]) (pc' := 87) (lv' := [(8, .inl 0), (0, .inr (.inr 334)), (1, .inl u1), (2, .inl u2), (3, .inl u3), (4, .inl u4), (5, .inl v5), (6, .inl v6), (7, .inl v7)]) (st' := []) (h' := h) (cs := []) (by decide +kernel) rfl trivial) ?_
      refine RK.sub (DX12_posts_L87 hK ?_ _ _ _ hL KD.rf hF) (sub_cons rfl (sub_cons rfl (sub_cons rfl (sub_cons rfl (sub_cons rfl (sub_cons rfl (sub_cons rfl (sub_cons rfl (sub_cons rfl sub_nil)))))))))
      · intro h1 hL hq hF
        have hK := hK.tr hq
        have hJ := hJ.tr hq
        refine RK.of (RN.blk (ops := [(126, .iload 5), (128, .aload_n 0), (129, .bipush 20)]) (pc' := 131) (lv' := [(0, .inr (.inr 334)), (1, .inl u1), (2, .inl u2), (3, .inl u3), (4, .inl u4), (5, .inl v5), (6, .inl v6), (7, .inl v7)]) (st' := [.inl 20, .inr (.inr 334), .inl v5]) (h' := h1) (cs := []) (by decide +kernel) rfl trivial) ?_
        obtain ⟨x3, h2, hG, hF⟩ := bd_of hF
        have hq := rcv_ok (as := [.inl 20]) (TO.gk (o_334 hL))
        obtain ⟨hN, hL, hQ⟩ := DX12_sumOver (d := d + 6) hL  hG
        refine RK.of (RN.cv (i := 325) (k := 210) (q2 := iX12_sumOver) (as := [.inr (.inr 334), .inl 20]) (r := [.inl v5]) (v := some (.inl x3)) (h1 := h2) (by decide +kernel) rfl rfl rfl rfl rfl hq hN) ?_
        have hK := hK.tr hQ
        have hJ := hJ.tr hQ
        refine RK.of (RN.blk (ops := [(134, .iadd), (135, .istore 5), (137, .iload 6), (139, .aload_n 0)]) (pc' := 140) (lv' := [(5, .inl (m_w32 (v5 + x3))), (0, .inr (.inr 334)), (1, .inl u1), (2, .inl u2), (3, .inl u3), (4, .inl u4), (6, .inl v6), (7, .inl v7)]) (st' := [.inr (.inr 334), .inl v6]) (h' := h2) (cs := []) (by decide +kernel) rfl trivial) ?_
        refine RK.of (RN.gr (i := 39) (ci := 12) (k := 20) (fn := true) (v := 344) (by decide +kernel) rfl (TO.gk (o_334 hL)) (hL.fa (v := 344) 20 1 167 (o_334 hL) rfl (by decide) rfl (by decide)).1) ?_
        refine RK.of (RN.blk (ops := [(143, .bipush 11), (145, .iaload), (146, .iadd), (147, .istore 6), (149, .aload_n 0)]) (pc' := 150) (lv' := [(6, .inl (m_w32 (v6 + (m_rd h2 344 11)))), (5, .inl (m_w32 (v5 + x3))), (0, .inr (.inr 334)), (1, .inl u1), (2, .inl u2), (3, .inl u3), (4, .inl u4), (7, .inl v7)]) (st' := [.inr (.inr 334)]) (h' := h2) (cs := [GI h2 344 1 11]) (by decide +kernel) rfl ⟨(a_344 hL).gi (by decide) (by decide), trivial⟩) ?_
        obtain ⟨h4, hG, hF⟩ := bv_of hF
        have hq := rcv_ok (as := []) (TO.gk (o_334 hL))
        obtain ⟨hN, hL, hQ⟩ := DX12_laysBack (d := d + 6) hL  hG
        refine RK.of (RN.cv (i := 414) (k := 254) (q2 := iX12_laysBack) (as := [.inr (.inr 334)]) (r := []) (v := none) (h1 := h4) (by decide +kernel) rfl rfl rfl rfl rfl hq hN) ?_
        have hK := hK.tr hQ
        have hJ := hJ.tr hQ
        refine RK.of (RN.blk (ops := [(153, .iinc 7 1)]) (pc' := 156) (lv' := [(7, .inl (m_w32 (v7 + 1))), (6, .inl (m_w32 (v6 + (m_rd h2 344 11)))), (5, .inl (m_w32 (v5 + x3))), (0, .inr (.inr 334)), (1, .inl u1), (2, .inl u2), (3, .inl u3), (4, .inl u4)]) (st' := []) (h' := h4) (cs := []) (by decide +kernel) rfl trivial) ?_
        refine RK.of (RN.goto (off := -78) (tgt := 78) (by decide +kernel)) ?_
        exact RK.sub (ih _ _ _ _ hL hJ hF) (sub_cons rfl (sub_cons rfl (sub_cons rfl (sub_cons rfl (sub_cons rfl (sub_cons rfl (sub_cons rfl (sub_cons rfl sub_nil))))))))
    · refine RK.of (RN.ict (cd := .ge) (off := 78) (tgt := 159) (by decide +kernel) (mif_ge hb)) ?_
      exact RK.sub (hK0 _ _ _ hL hJ hF) (sub_cons rfl (sub_cons rfl (sub_cons rfl sub_nil)))
noncomputable def GX12_posts (a1 : Int) (a2 : Int) (a3 : Int) (a4 : Int) (h : MH) : Option (Int × MH) :=
  (bd (GX12_isFrame h) (fun x2 h1 =>
   (if x2 = 0 then
    some ((-1), h1)
   else
    (bd (GX12_in a1 1 10 h1) (fun x4 h3 =>
     (if x4 = 0 then
      some ((-1), h3)
     else
      (bd (GX12_in a2 1 60 h3) (fun x6 h5 =>
       (if x6 = 0 then
        some ((-1), h5)
       else
        (bd (GX12_in a3 0 100 h5) (fun x8 h7 =>
         (if x8 = 0 then
          some ((-1), h7)
         else
          (bd (GX12_in a4 0 1 h7) (fun x10 h9 =>
           (if x10 = 0 then
            some ((-1), h9)
           else
            (bv (GX12_keeps (m_wr h9 334 37 (m_rd h9 334 22))) (fun h11 =>
             GX12_posts_L78 a1 a2 a3 a4 (fun w12 w13 h14 =>
              (if a4 = 0 then
               some (w12, h14)
              else
               some (w13, h14))) FU 0 0 0 h11)))))))))))))))))
theorem DX12_posts {d : Nat} {a1 : Int} {a2 : Int} {a3 : Int} {a4 : Int} {h : MH} {r : Int × MH} (hL : LR h) (hF : GX12_posts a1 a2 a3 a4 h = some r) : RN xs L iX12_posts (d + 7) 0 (lvE 0 [.inr (.inr 334), .inl a1, .inl a2, .inl a3, .inl a4]) [] h (RIo r) ∧ LR r.2 ∧ KD h r.2 := by
  unfold GX12_posts at hF
  have hK : KD h h := KD.rf
  show RK xs L iX12_posts (d + 7) 0 (lvE 0 [.inr (.inr 334), .inl a1, .inl a2, .inl a3, .inl a4]) [] h (RIo r) h r.2
  refine RK.of (RN.blk (ops := [(0, .aload_n 0)]) (pc' := 1) (lv' := [(0, .inr (.inr 334)), (1, .inl a1), (2, .inl a2), (3, .inl a3), (4, .inl a4)]) (st' := [.inr (.inr 334)]) (h' := h) (cs := []) (by decide +kernel) rfl trivial) ?_
  obtain ⟨x2, h1, hG, hF⟩ := bd_of hF
  have hq := rcv_ok (as := []) (TO.gk (o_334 hL))
  obtain ⟨hN, hL, hQ⟩ := DX12_isFrame (d := d + 6) hL  hG
  refine RK.of (RN.cv (i := 295) (k := 202) (q2 := iX12_isFrame) (as := [.inr (.inr 334)]) (r := []) (v := some (.inl x2)) (h1 := h1) (by decide +kernel) rfl rfl rfl rfl rfl hq hN) ?_
  have hK := hK.tr hQ
  rcases it_of hF with ⟨hb, hF⟩ | ⟨hb, hF⟩
  · refine RK.of (RN.ift (cd := .eq) (off := 50) (tgt := 54) (by decide +kernel) (mif_eq hb)) ?_
    refine RK.of (RN.blk (ops := [(54, .iconst (-1))]) (pc' := 55) (lv' := [(0, .inr (.inr 334)), (1, .inl a1), (2, .inl a2), (3, .inl a3), (4, .inl a4)]) (st' := [.inl (-1)]) (h' := h1) (cs := []) (by decide +kernel) rfl trivial) ?_
    exact RK.iR (by decide +kernel) rfl hL hK hF
  · refine RK.of (RN.iff (cd := .eq) (off := 50) (tgt := 54) (by decide +kernel) (mif_eqn hb)) ?_
    refine RK.of (RN.blk (ops := [(7, .iload_n 1), (8, .i2l), (9, .lconst 1), (10, .ldc2_w 480)]) (pc' := 13) (lv' := [(0, .inr (.inr 334)), (1, .inl a1), (2, .inl a2), (3, .inl a3), (4, .inl a4)]) (st' := [.inr (.inl 10), .inr (.inl 1), .inr (.inl a1)]) (h' := h1) (cs := []) (by decide +kernel) rfl trivial) ?_
    obtain ⟨x4, h3, hG, hF⟩ := bd_of hF
    obtain ⟨hN, hL, hQ⟩ := DX12_in (d := d + 6) hL  hG
    refine RK.of (RN.cst (i := 127) (k := 156) (q2 := iX12_in) (as := [.inr (.inl a1), .inr (.inl 1), .inr (.inl 10)]) (r := []) (v := some (.inl x4)) (h1 := h3) (by decide +kernel) rfl rfl rfl rfl rfl hN) ?_
    have hK := hK.tr hQ
    rcases it_of hF with ⟨hb, hF⟩ | ⟨hb, hF⟩
    · refine RK.of (RN.ift (cd := .eq) (off := 38) (tgt := 54) (by decide +kernel) (mif_eq hb)) ?_
      refine RK.of (RN.blk (ops := [(54, .iconst (-1))]) (pc' := 55) (lv' := [(0, .inr (.inr 334)), (1, .inl a1), (2, .inl a2), (3, .inl a3), (4, .inl a4)]) (st' := [.inl (-1)]) (h' := h3) (cs := []) (by decide +kernel) rfl trivial) ?_
      exact RK.iR (by decide +kernel) rfl hL hK hF
    · refine RK.of (RN.iff (cd := .eq) (off := 38) (tgt := 54) (by decide +kernel) (mif_eqn hb)) ?_
      refine RK.of (RN.blk (ops := [(19, .iload_n 2), (20, .i2l), (21, .lconst 1), (22, .ldc2_w 446)]) (pc' := 25) (lv' := [(0, .inr (.inr 334)), (1, .inl a1), (2, .inl a2), (3, .inl a3), (4, .inl a4)]) (st' := [.inr (.inl 60), .inr (.inl 1), .inr (.inl a2)]) (h' := h3) (cs := []) (by decide +kernel) rfl trivial) ?_
      obtain ⟨x6, h5, hG, hF⟩ := bd_of hF
      obtain ⟨hN, hL, hQ⟩ := DX12_in (d := d + 6) hL  hG
      refine RK.of (RN.cst (i := 127) (k := 156) (q2 := iX12_in) (as := [.inr (.inl a2), .inr (.inl 1), .inr (.inl 60)]) (r := []) (v := some (.inl x6)) (h1 := h5) (by decide +kernel) rfl rfl rfl rfl rfl hN) ?_
      have hK := hK.tr hQ
      rcases it_of hF with ⟨hb, hF⟩ | ⟨hb, hF⟩
      · refine RK.of (RN.ift (cd := .eq) (off := 26) (tgt := 54) (by decide +kernel) (mif_eq hb)) ?_
        refine RK.of (RN.blk (ops := [(54, .iconst (-1))]) (pc' := 55) (lv' := [(0, .inr (.inr 334)), (1, .inl a1), (2, .inl a2), (3, .inl a3), (4, .inl a4)]) (st' := [.inl (-1)]) (h' := h5) (cs := []) (by decide +kernel) rfl trivial) ?_
        exact RK.iR (by decide +kernel) rfl hL hK hF
      · refine RK.of (RN.iff (cd := .eq) (off := 26) (tgt := 54) (by decide +kernel) (mif_eqn hb)) ?_
        refine RK.of (RN.blk (ops := [(31, .iload_n 3), (32, .i2l), (33, .lconst 0), (34, .ldc2_w 432)]) (pc' := 37) (lv' := [(0, .inr (.inr 334)), (1, .inl a1), (2, .inl a2), (3, .inl a3), (4, .inl a4)]) (st' := [.inr (.inl 100), .inr (.inl 0), .inr (.inl a3)]) (h' := h5) (cs := []) (by decide +kernel) rfl trivial) ?_
        obtain ⟨x8, h7, hG, hF⟩ := bd_of hF
        obtain ⟨hN, hL, hQ⟩ := DX12_in (d := d + 6) hL  hG
        refine RK.of (RN.cst (i := 127) (k := 156) (q2 := iX12_in) (as := [.inr (.inl a3), .inr (.inl 0), .inr (.inl 100)]) (r := []) (v := some (.inl x8)) (h1 := h7) (by decide +kernel) rfl rfl rfl rfl rfl hN) ?_
        have hK := hK.tr hQ
        rcases it_of hF with ⟨hb, hF⟩ | ⟨hb, hF⟩
        · refine RK.of (RN.ift (cd := .eq) (off := 14) (tgt := 54) (by decide +kernel) (mif_eq hb)) ?_
          refine RK.of (RN.blk (ops := [(54, .iconst (-1))]) (pc' := 55) (lv' := [(0, .inr (.inr 334)), (1, .inl a1), (2, .inl a2), (3, .inl a3), (4, .inl a4)]) (st' := [.inl (-1)]) (h' := h7) (cs := []) (by decide +kernel) rfl trivial) ?_
          exact RK.iR (by decide +kernel) rfl hL hK hF
        · refine RK.of (RN.iff (cd := .eq) (off := 14) (tgt := 54) (by decide +kernel) (mif_eqn hb)) ?_
          refine RK.of (RN.blk (ops := [(43, .iload 4), (45, .i2l), (46, .lconst 0), (47, .lconst 1)]) (pc' := 48) (lv' := [(0, .inr (.inr 334)), (1, .inl a1), (2, .inl a2), (3, .inl a3), (4, .inl a4)]) (st' := [.inr (.inl 1), .inr (.inl 0), .inr (.inl a4)]) (h' := h7) (cs := []) (by decide +kernel) rfl trivial) ?_
          obtain ⟨x10, h9, hG, hF⟩ := bd_of hF
          obtain ⟨hN, hL, hQ⟩ := DX12_in (d := d + 6) hL  hG
          refine RK.of (RN.cst (i := 127) (k := 156) (q2 := iX12_in) (as := [.inr (.inl a4), .inr (.inl 0), .inr (.inl 1)]) (r := []) (v := some (.inl x10)) (h1 := h9) (by decide +kernel) rfl rfl rfl rfl rfl hN) ?_
          have hK := hK.tr hQ
          rcases it_of hF with ⟨hb, hF⟩ | ⟨hb, hF⟩
          · refine RK.of (RN.iff (cd := .ne) (off := 5) (tgt := 56) (by decide +kernel) (mif_nen hb)) ?_
            refine RK.of (RN.blk (ops := [(54, .iconst (-1))]) (pc' := 55) (lv' := [(0, .inr (.inr 334)), (1, .inl a1), (2, .inl a2), (3, .inl a3), (4, .inl a4)]) (st' := [.inl (-1)]) (h' := h9) (cs := []) (by decide +kernel) rfl trivial) ?_
            exact RK.iR (by decide +kernel) rfl hL hK hF
          · refine RK.of (RN.ift (cd := .ne) (off := 5) (tgt := 56) (by decide +kernel) (mif_ne hb)) ?_
            refine RK.of (RN.blk (ops := [(56, .aload_n 0), (57, .aload_n 0), (58, .getfield 465), (61, .i2l), (62, .putfield 468)]) (pc' := 65) (lv' := [(0, .inr (.inr 334)), (1, .inl a1), (2, .inl a2), (3, .inl a3), (4, .inl a4)]) (st' := []) (h' := (m_wr h9 334 37 (m_rd h9 334 22))) (cs := [GK h9 334 12, GK h9 334 12]) (by decide +kernel) rfl ⟨(o_334 hL).gk, (o_334 hL).gk, trivial⟩) ?_
            have hL : LR (m_wr h9 334 37 (m_rd h9 334 22)) := LR.wf (k := 37) hL (o_334 hL) rfl
            have hK := hK.tr (KD.wr : KD h9 (m_wr h9 334 37 (m_rd h9 334 22)))
            refine RK.of (RN.blk (ops := [(65, .iconst 0), (66, .istore 5), (68, .iconst 0), (69, .istore 6), (71, .aload_n 0)]) (pc' := 72) (lv' := [(6, .inl 0), (5, .inl 0), (0, .inr (.inr 334)), (1, .inl a1), (2, .inl a2), (3, .inl a3), (4, .inl a4)]) (st' := [.inr (.inr 334)]) (h' := (m_wr h9 334 37 (m_rd h9 334 22))) (cs := []) (by decide +kernel) rfl trivial) ?_
            obtain ⟨h11, hG, hF⟩ := bv_of hF
            have hq := rcv_ok (as := []) (TO.gk (o_334 hL))
            obtain ⟨hN, hL, hQ⟩ := DX12_keeps (d := d + 6) hL  hG
            refine RK.of (RN.cv (i := 422) (k := 253) (q2 := iX12_keeps) (as := [.inr (.inr 334)]) (r := []) (v := none) (h1 := h11) (by decide +kernel) rfl rfl rfl rfl rfl hq hN) ?_
            have hK := hK.tr hQ
            refine RK.of (RN.blk (ops := [(75, .iconst 0), (76, .istore 7)]) (pc' := 78) (lv' := [(7, .inl 0), (6, .inl 0), (5, .inl 0), (0, .inr (.inr 334)), (1, .inl a1), (2, .inl a2), (3, .inl a3), (4, .inl a4)]) (st' := []) (h' := h11) (cs := []) (by decide +kernel) rfl trivial) ?_
            refine RK.sub (DX12_posts_L78 hK ?_ _ _ _ _ _ hL KD.rf hF) (sub_cons rfl (sub_cons rfl (sub_cons rfl (sub_cons rfl (sub_cons rfl (sub_cons rfl (sub_cons rfl (sub_cons rfl sub_nil))))))))
            · intro w12 w13 h14 hL hq hF
              have hK := hK.tr hq
              refine RK.of (RN.blk (ops := [(159, .iload 4)]) (pc' := 161) (lv' := [(4, .inl a4), (5, .inl w12), (6, .inl w13)]) (st' := [.inl a4]) (h' := h14) (cs := []) (by decide +kernel) rfl trivial) ?_
              rcases it_of hF with ⟨hb, hF⟩ | ⟨hb, hF⟩
              · refine RK.of (RN.iff (cd := .ne) (off := 8) (tgt := 169) (by decide +kernel) (mif_nen hb)) ?_
                refine RK.of (RN.blk (ops := [(164, .iload 5)]) (pc' := 166) (lv' := [(4, .inl a4), (5, .inl w12), (6, .inl w13)]) (st' := [.inl w12]) (h' := h14) (cs := []) (by decide +kernel) rfl trivial) ?_
                refine RK.of (RN.goto (off := 5) (tgt := 171) (by decide +kernel)) ?_
                exact RK.iR (by decide +kernel) rfl hL hK hF
              · refine RK.of (RN.ift (cd := .ne) (off := 8) (tgt := 169) (by decide +kernel) (mif_ne hb)) ?_
                refine RK.of (RN.blk (ops := [(169, .iload 6)]) (pc' := 171) (lv' := [(4, .inl a4), (5, .inl w12), (6, .inl w13)]) (st' := [.inl w13]) (h' := h14) (cs := []) (by decide +kernel) rfl trivial) ?_
                exact RK.iR (by decide +kernel) rfl hL hK hF
noncomputable def GX12_count (a1 : Int) (h : MH) : Option (Int × MH) :=
  (if a1 = 0 then
   gd [IB (m_w32 (a1 + 1)) 167] (
    some ((m_rd h 344 (m_w32 (a1 + 1))), h))
  else
  (if a1 = 1 then
   gd [IB (m_w32 (a1 + 1)) 167] (
    some ((m_rd h 344 (m_w32 (a1 + 1))), h))
  else
  (if a1 = 2 then
   gd [IB (m_w32 (a1 + 1)) 167] (
    some ((m_rd h 344 (m_w32 (a1 + 1))), h))
  else
  (if a1 = 3 then
   some ((m_rd h 344 13), h)
  else
  (if a1 = 4 then
   some ((m_rd h 344 12), h)
  else
  (if a1 = 5 then
   some ((m_rd h 334 2), h)
  else
  (if a1 = 6 then
   some ((m_rd h 334 21), h)
  else
  (if a1 = 7 then
   some ((m_rd h 344 10), h)
  else
  (if a1 = 8 then
   (bd (GX12_sumOver 14 h) (fun x2 h1 =>
    some (x2, h1)))
  else
  (if a1 = 9 then
   (bd (GX12_sumOver 20 h) (fun x4 h3 =>
    some (x4, h3)))
  else
  (if a1 = 10 then
   some ((m_rd h 344 11), h)
  else
  (if a1 = 11 then
   some ((m_rd h 344 166), h)
  else
  (if a1 = 12 then
   some ((m_rd h 334 25), h)
  else
  (if a1 = 13 then
   some ((m_rd h 334 22), h)
  else
  (if a1 = 14 then
   some ((m_rd h 334 1), h)
  else
   some ((-1), h))))))))))))))))
theorem DX12_count {d : Nat} {a1 : Int} {h : MH} {r : Int × MH} (hL : LR h) (hF : GX12_count a1 h = some r) : RN xs L iX12_count (d + 1) 0 (lvE 0 [.inr (.inr 334), .inl a1]) [] h (RIo r) ∧ LR r.2 ∧ KD h r.2 := by
  unfold GX12_count at hF
  have hK : KD h h := KD.rf
  show RK xs L iX12_count (d + 1) 0 (lvE 0 [.inr (.inr 334), .inl a1]) [] h (RIo r) h r.2
  refine RK.of (RN.blk (ops := [(0, .iload_n 1)]) (pc' := 1) (lv' := [(0, .inr (.inr 334)), (1, .inl a1)]) (st' := [.inl a1]) (h' := h) (cs := []) (by decide +kernel) rfl trivial) ?_
  rcases it_of hF with ⟨hb0, hF⟩ | ⟨hb0, hF⟩
  · refine RK.of (fun k9 => RN.tsw (dflt := 164) (lo := 0) (hi := 14) (offs := #[75, 75, 75, 84, 92, 100, 105, 110, 118, 125, 132, 140, 149, 154, 159]) (by decide +kernel) (RN.sth hb0 (tgt := 76) rfl k9)) ?_
    refine RK.of (RN.blk (ops := [(76, .aload_n 0)]) (pc' := 77) (lv' := [(0, .inr (.inr 334)), (1, .inl a1)]) (st' := [.inr (.inr 334)]) (h' := h) (cs := []) (by decide +kernel) rfl trivial) ?_
    refine RK.of (RN.gr (i := 39) (ci := 12) (k := 20) (fn := true) (v := 344) (by decide +kernel) rfl (TO.gk (o_334 hL)) (hL.fa (v := 344) 20 1 167 (o_334 hL) rfl (by decide) rfl (by decide)).1) ?_
    obtain ⟨hc, hF⟩ := gd_of hF
    refine RK.of (RN.blk (ops := [(80, .iload_n 1), (81, .iconst 1), (82, .iadd), (83, .iaload)]) (pc' := 84) (lv' := [(0, .inr (.inr 334)), (1, .inl a1)]) (st' := [.inl (m_rd h 344 (m_w32 (a1 + 1)))]) (h' := h) (cs := [GI h 344 1 (m_w32 (a1 + 1))]) (by decide +kernel) rfl ⟨(a_344 hL).gi hc.1.1 hc.1.2, trivial⟩) ?_
    exact RK.iR (by decide +kernel) rfl hL hK hF
  rcases it_of hF with ⟨hb1, hF⟩ | ⟨hb1, hF⟩
  · refine RK.of (fun k9 => RN.tsw (dflt := 164) (lo := 0) (hi := 14) (offs := #[75, 75, 75, 84, 92, 100, 105, 110, 118, 125, 132, 140, 149, 154, 159]) (by decide +kernel) (RN.stm hb0 (RN.sth hb1 (tgt := 76) rfl k9))) ?_
    refine RK.of (RN.blk (ops := [(76, .aload_n 0)]) (pc' := 77) (lv' := [(0, .inr (.inr 334)), (1, .inl a1)]) (st' := [.inr (.inr 334)]) (h' := h) (cs := []) (by decide +kernel) rfl trivial) ?_
    refine RK.of (RN.gr (i := 39) (ci := 12) (k := 20) (fn := true) (v := 344) (by decide +kernel) rfl (TO.gk (o_334 hL)) (hL.fa (v := 344) 20 1 167 (o_334 hL) rfl (by decide) rfl (by decide)).1) ?_
    obtain ⟨hc, hF⟩ := gd_of hF
    refine RK.of (RN.blk (ops := [(80, .iload_n 1), (81, .iconst 1), (82, .iadd), (83, .iaload)]) (pc' := 84) (lv' := [(0, .inr (.inr 334)), (1, .inl a1)]) (st' := [.inl (m_rd h 344 (m_w32 (a1 + 1)))]) (h' := h) (cs := [GI h 344 1 (m_w32 (a1 + 1))]) (by decide +kernel) rfl ⟨(a_344 hL).gi hc.1.1 hc.1.2, trivial⟩) ?_
    exact RK.iR (by decide +kernel) rfl hL hK hF
  rcases it_of hF with ⟨hb2, hF⟩ | ⟨hb2, hF⟩
  · refine RK.of (fun k9 => RN.tsw (dflt := 164) (lo := 0) (hi := 14) (offs := #[75, 75, 75, 84, 92, 100, 105, 110, 118, 125, 132, 140, 149, 154, 159]) (by decide +kernel) (RN.stm hb0 (RN.stm hb1 (RN.sth hb2 (tgt := 76) rfl k9)))) ?_
    refine RK.of (RN.blk (ops := [(76, .aload_n 0)]) (pc' := 77) (lv' := [(0, .inr (.inr 334)), (1, .inl a1)]) (st' := [.inr (.inr 334)]) (h' := h) (cs := []) (by decide +kernel) rfl trivial) ?_
    refine RK.of (RN.gr (i := 39) (ci := 12) (k := 20) (fn := true) (v := 344) (by decide +kernel) rfl (TO.gk (o_334 hL)) (hL.fa (v := 344) 20 1 167 (o_334 hL) rfl (by decide) rfl (by decide)).1) ?_
    obtain ⟨hc, hF⟩ := gd_of hF
    refine RK.of (RN.blk (ops := [(80, .iload_n 1), (81, .iconst 1), (82, .iadd), (83, .iaload)]) (pc' := 84) (lv' := [(0, .inr (.inr 334)), (1, .inl a1)]) (st' := [.inl (m_rd h 344 (m_w32 (a1 + 1)))]) (h' := h) (cs := [GI h 344 1 (m_w32 (a1 + 1))]) (by decide +kernel) rfl ⟨(a_344 hL).gi hc.1.1 hc.1.2, trivial⟩) ?_
    exact RK.iR (by decide +kernel) rfl hL hK hF
  rcases it_of hF with ⟨hb3, hF⟩ | ⟨hb3, hF⟩
  · refine RK.of (fun k9 => RN.tsw (dflt := 164) (lo := 0) (hi := 14) (offs := #[75, 75, 75, 84, 92, 100, 105, 110, 118, 125, 132, 140, 149, 154, 159]) (by decide +kernel) (RN.stm hb0 (RN.stm hb1 (RN.stm hb2 (RN.sth hb3 (tgt := 85) rfl k9))))) ?_
    refine RK.of (RN.blk (ops := [(85, .aload_n 0)]) (pc' := 86) (lv' := [(0, .inr (.inr 334)), (1, .inl a1)]) (st' := [.inr (.inr 334)]) (h' := h) (cs := []) (by decide +kernel) rfl trivial) ?_
    refine RK.of (RN.gr (i := 39) (ci := 12) (k := 20) (fn := true) (v := 344) (by decide +kernel) rfl (TO.gk (o_334 hL)) (hL.fa (v := 344) 20 1 167 (o_334 hL) rfl (by decide) rfl (by decide)).1) ?_
    refine RK.of (RN.blk (ops := [(89, .bipush 13), (91, .iaload)]) (pc' := 92) (lv' := [(0, .inr (.inr 334)), (1, .inl a1)]) (st' := [.inl (m_rd h 344 13)]) (h' := h) (cs := [GI h 344 1 13]) (by decide +kernel) rfl ⟨(a_344 hL).gi (by decide) (by decide), trivial⟩) ?_
    exact RK.iR (by decide +kernel) rfl hL hK hF
  rcases it_of hF with ⟨hb4, hF⟩ | ⟨hb4, hF⟩
  · refine RK.of (fun k9 => RN.tsw (dflt := 164) (lo := 0) (hi := 14) (offs := #[75, 75, 75, 84, 92, 100, 105, 110, 118, 125, 132, 140, 149, 154, 159]) (by decide +kernel) (RN.stm hb0 (RN.stm hb1 (RN.stm hb2 (RN.stm hb3 (RN.sth hb4 (tgt := 93) rfl k9)))))) ?_
    refine RK.of (RN.blk (ops := [(93, .aload_n 0)]) (pc' := 94) (lv' := [(0, .inr (.inr 334)), (1, .inl a1)]) (st' := [.inr (.inr 334)]) (h' := h) (cs := []) (by decide +kernel) rfl trivial) ?_
    refine RK.of (RN.gr (i := 39) (ci := 12) (k := 20) (fn := true) (v := 344) (by decide +kernel) rfl (TO.gk (o_334 hL)) (hL.fa (v := 344) 20 1 167 (o_334 hL) rfl (by decide) rfl (by decide)).1) ?_
    refine RK.of (RN.blk (ops := [(97, .bipush 12), (99, .iaload)]) (pc' := 100) (lv' := [(0, .inr (.inr 334)), (1, .inl a1)]) (st' := [.inl (m_rd h 344 12)]) (h' := h) (cs := [GI h 344 1 12]) (by decide +kernel) rfl ⟨(a_344 hL).gi (by decide) (by decide), trivial⟩) ?_
    exact RK.iR (by decide +kernel) rfl hL hK hF
  rcases it_of hF with ⟨hb5, hF⟩ | ⟨hb5, hF⟩
  · refine RK.of (fun k9 => RN.tsw (dflt := 164) (lo := 0) (hi := 14) (offs := #[75, 75, 75, 84, 92, 100, 105, 110, 118, 125, 132, 140, 149, 154, 159]) (by decide +kernel) (RN.stm hb0 (RN.stm hb1 (RN.stm hb2 (RN.stm hb3 (RN.stm hb4 (RN.sth hb5 (tgt := 101) rfl k9))))))) ?_
    refine RK.of (RN.blk (ops := [(101, .aload_n 0), (102, .getfield 268)]) (pc' := 105) (lv' := [(0, .inr (.inr 334)), (1, .inl a1)]) (st' := [.inl (m_rd h 334 2)]) (h' := h) (cs := [GK h 334 12]) (by decide +kernel) rfl ⟨(o_334 hL).gk, trivial⟩) ?_
    exact RK.iR (by decide +kernel) rfl hL hK hF
  rcases it_of hF with ⟨hb6, hF⟩ | ⟨hb6, hF⟩
  · refine RK.of (fun k9 => RN.tsw (dflt := 164) (lo := 0) (hi := 14) (offs := #[75, 75, 75, 84, 92, 100, 105, 110, 118, 125, 132, 140, 149, 154, 159]) (by decide +kernel) (RN.stm hb0 (RN.stm hb1 (RN.stm hb2 (RN.stm hb3 (RN.stm hb4 (RN.stm hb5 (RN.sth hb6 (tgt := 106) rfl k9)))))))) ?_
    refine RK.of (RN.blk (ops := [(106, .aload_n 0), (107, .getfield 42)]) (pc' := 110) (lv' := [(0, .inr (.inr 334)), (1, .inl a1)]) (st' := [.inl (m_rd h 334 21)]) (h' := h) (cs := [GK h 334 12]) (by decide +kernel) rfl ⟨(o_334 hL).gk, trivial⟩) ?_
    exact RK.iR (by decide +kernel) rfl hL hK hF
  rcases it_of hF with ⟨hb7, hF⟩ | ⟨hb7, hF⟩
  · refine RK.of (fun k9 => RN.tsw (dflt := 164) (lo := 0) (hi := 14) (offs := #[75, 75, 75, 84, 92, 100, 105, 110, 118, 125, 132, 140, 149, 154, 159]) (by decide +kernel) (RN.stm hb0 (RN.stm hb1 (RN.stm hb2 (RN.stm hb3 (RN.stm hb4 (RN.stm hb5 (RN.stm hb6 (RN.sth hb7 (tgt := 111) rfl k9))))))))) ?_
    refine RK.of (RN.blk (ops := [(111, .aload_n 0)]) (pc' := 112) (lv' := [(0, .inr (.inr 334)), (1, .inl a1)]) (st' := [.inr (.inr 334)]) (h' := h) (cs := []) (by decide +kernel) rfl trivial) ?_
    refine RK.of (RN.gr (i := 39) (ci := 12) (k := 20) (fn := true) (v := 344) (by decide +kernel) rfl (TO.gk (o_334 hL)) (hL.fa (v := 344) 20 1 167 (o_334 hL) rfl (by decide) rfl (by decide)).1) ?_
    refine RK.of (RN.blk (ops := [(115, .bipush 10), (117, .iaload)]) (pc' := 118) (lv' := [(0, .inr (.inr 334)), (1, .inl a1)]) (st' := [.inl (m_rd h 344 10)]) (h' := h) (cs := [GI h 344 1 10]) (by decide +kernel) rfl ⟨(a_344 hL).gi (by decide) (by decide), trivial⟩) ?_
    exact RK.iR (by decide +kernel) rfl hL hK hF
  rcases it_of hF with ⟨hb8, hF⟩ | ⟨hb8, hF⟩
  · refine RK.of (fun k9 => RN.tsw (dflt := 164) (lo := 0) (hi := 14) (offs := #[75, 75, 75, 84, 92, 100, 105, 110, 118, 125, 132, 140, 149, 154, 159]) (by decide +kernel) (RN.stm hb0 (RN.stm hb1 (RN.stm hb2 (RN.stm hb3 (RN.stm hb4 (RN.stm hb5 (RN.stm hb6 (RN.stm hb7 (RN.sth hb8 (tgt := 119) rfl k9)))))))))) ?_
    refine RK.of (RN.blk (ops := [(119, .aload_n 0), (120, .bipush 14)]) (pc' := 122) (lv' := [(0, .inr (.inr 334)), (1, .inl a1)]) (st' := [.inl 14, .inr (.inr 334)]) (h' := h) (cs := []) (by decide +kernel) rfl trivial) ?_
    obtain ⟨x2, h1, hG, hF⟩ := bd_of hF
    have hq := rcv_ok (as := [.inl 14]) (TO.gk (o_334 hL))
    obtain ⟨hN, hL, hQ⟩ := DX12_sumOver (d := d) hL  hG
    refine RK.of (RN.cv (i := 325) (k := 210) (q2 := iX12_sumOver) (as := [.inr (.inr 334), .inl 14]) (r := []) (v := some (.inl x2)) (h1 := h1) (by decide +kernel) rfl rfl rfl rfl rfl hq hN) ?_
    have hK := hK.tr hQ
    exact RK.iR (by decide +kernel) rfl hL hK hF
  rcases it_of hF with ⟨hb9, hF⟩ | ⟨hb9, hF⟩
  · refine RK.of (fun k9 => RN.tsw (dflt := 164) (lo := 0) (hi := 14) (offs := #[75, 75, 75, 84, 92, 100, 105, 110, 118, 125, 132, 140, 149, 154, 159]) (by decide +kernel) (RN.stm hb0 (RN.stm hb1 (RN.stm hb2 (RN.stm hb3 (RN.stm hb4 (RN.stm hb5 (RN.stm hb6 (RN.stm hb7 (RN.stm hb8 (RN.sth hb9 (tgt := 126) rfl k9))))))))))) ?_
    refine RK.of (RN.blk (ops := [(126, .aload_n 0), (127, .bipush 20)]) (pc' := 129) (lv' := [(0, .inr (.inr 334)), (1, .inl a1)]) (st' := [.inl 20, .inr (.inr 334)]) (h' := h) (cs := []) (by decide +kernel) rfl trivial) ?_
    obtain ⟨x4, h3, hG, hF⟩ := bd_of hF
    have hq := rcv_ok (as := [.inl 20]) (TO.gk (o_334 hL))
    obtain ⟨hN, hL, hQ⟩ := DX12_sumOver (d := d) hL  hG
    refine RK.of (RN.cv (i := 325) (k := 210) (q2 := iX12_sumOver) (as := [.inr (.inr 334), .inl 20]) (r := []) (v := some (.inl x4)) (h1 := h3) (by decide +kernel) rfl rfl rfl rfl rfl hq hN) ?_
    have hK := hK.tr hQ
    exact RK.iR (by decide +kernel) rfl hL hK hF
  rcases it_of hF with ⟨hb10, hF⟩ | ⟨hb10, hF⟩
  · refine RK.of (fun k9 => RN.tsw (dflt := 164) (lo := 0) (hi := 14) (offs := #[75, 75, 75, 84, 92, 100, 105, 110, 118, 125, 132, 140, 149, 154, 159]) (by decide +kernel) (RN.stm hb0 (RN.stm hb1 (RN.stm hb2 (RN.stm hb3 (RN.stm hb4 (RN.stm hb5 (RN.stm hb6 (RN.stm hb7 (RN.stm hb8 (RN.stm hb9 (RN.sth hb10 (tgt := 133) rfl k9)))))))))))) ?_
    refine RK.of (RN.blk (ops := [(133, .aload_n 0)]) (pc' := 134) (lv' := [(0, .inr (.inr 334)), (1, .inl a1)]) (st' := [.inr (.inr 334)]) (h' := h) (cs := []) (by decide +kernel) rfl trivial) ?_
    refine RK.of (RN.gr (i := 39) (ci := 12) (k := 20) (fn := true) (v := 344) (by decide +kernel) rfl (TO.gk (o_334 hL)) (hL.fa (v := 344) 20 1 167 (o_334 hL) rfl (by decide) rfl (by decide)).1) ?_
    refine RK.of (RN.blk (ops := [(137, .bipush 11), (139, .iaload)]) (pc' := 140) (lv' := [(0, .inr (.inr 334)), (1, .inl a1)]) (st' := [.inl (m_rd h 344 11)]) (h' := h) (cs := [GI h 344 1 11]) (by decide +kernel) rfl ⟨(a_344 hL).gi (by decide) (by decide), trivial⟩) ?_
    exact RK.iR (by decide +kernel) rfl hL hK hF
  rcases it_of hF with ⟨hb11, hF⟩ | ⟨hb11, hF⟩
  · refine RK.of (fun k9 => RN.tsw (dflt := 164) (lo := 0) (hi := 14) (offs := #[75, 75, 75, 84, 92, 100, 105, 110, 118, 125, 132, 140, 149, 154, 159]) (by decide +kernel) (RN.stm hb0 (RN.stm hb1 (RN.stm hb2 (RN.stm hb3 (RN.stm hb4 (RN.stm hb5 (RN.stm hb6 (RN.stm hb7 (RN.stm hb8 (RN.stm hb9 (RN.stm hb10 (RN.sth hb11 (tgt := 141) rfl k9))))))))))))) ?_
    refine RK.of (RN.blk (ops := [(141, .aload_n 0)]) (pc' := 142) (lv' := [(0, .inr (.inr 334)), (1, .inl a1)]) (st' := [.inr (.inr 334)]) (h' := h) (cs := []) (by decide +kernel) rfl trivial) ?_
    refine RK.of (RN.gr (i := 39) (ci := 12) (k := 20) (fn := true) (v := 344) (by decide +kernel) rfl (TO.gk (o_334 hL)) (hL.fa (v := 344) 20 1 167 (o_334 hL) rfl (by decide) rfl (by decide)).1) ?_
    refine RK.of (RN.blk (ops := [(145, .sipush 166), (148, .iaload)]) (pc' := 149) (lv' := [(0, .inr (.inr 334)), (1, .inl a1)]) (st' := [.inl (m_rd h 344 166)]) (h' := h) (cs := [GI h 344 1 166]) (by decide +kernel) rfl ⟨(a_344 hL).gi (by decide) (by decide), trivial⟩) ?_
    exact RK.iR (by decide +kernel) rfl hL hK hF
  rcases it_of hF with ⟨hb12, hF⟩ | ⟨hb12, hF⟩
  · refine RK.of (fun k9 => RN.tsw (dflt := 164) (lo := 0) (hi := 14) (offs := #[75, 75, 75, 84, 92, 100, 105, 110, 118, 125, 132, 140, 149, 154, 159]) (by decide +kernel) (RN.stm hb0 (RN.stm hb1 (RN.stm hb2 (RN.stm hb3 (RN.stm hb4 (RN.stm hb5 (RN.stm hb6 (RN.stm hb7 (RN.stm hb8 (RN.stm hb9 (RN.stm hb10 (RN.stm hb11 (RN.sth hb12 (tgt := 150) rfl k9)))))))))))))) ?_
    refine RK.of (RN.blk (ops := [(150, .aload_n 0), (151, .getfield 277)]) (pc' := 154) (lv' := [(0, .inr (.inr 334)), (1, .inl a1)]) (st' := [.inl (m_rd h 334 25)]) (h' := h) (cs := [GK h 334 12]) (by decide +kernel) rfl ⟨(o_334 hL).gk, trivial⟩) ?_
    exact RK.iR (by decide +kernel) rfl hL hK hF
  rcases it_of hF with ⟨hb13, hF⟩ | ⟨hb13, hF⟩
  · refine RK.of (fun k9 => RN.tsw (dflt := 164) (lo := 0) (hi := 14) (offs := #[75, 75, 75, 84, 92, 100, 105, 110, 118, 125, 132, 140, 149, 154, 159]) (by decide +kernel) (RN.stm hb0 (RN.stm hb1 (RN.stm hb2 (RN.stm hb3 (RN.stm hb4 (RN.stm hb5 (RN.stm hb6 (RN.stm hb7 (RN.stm hb8 (RN.stm hb9 (RN.stm hb10 (RN.stm hb11 (RN.stm hb12 (RN.sth hb13 (tgt := 155) rfl k9))))))))))))))) ?_
    refine RK.of (RN.blk (ops := [(155, .aload_n 0), (156, .getfield 465)]) (pc' := 159) (lv' := [(0, .inr (.inr 334)), (1, .inl a1)]) (st' := [.inl (m_rd h 334 22)]) (h' := h) (cs := [GK h 334 12]) (by decide +kernel) rfl ⟨(o_334 hL).gk, trivial⟩) ?_
    exact RK.iR (by decide +kernel) rfl hL hK hF
  rcases it_of hF with ⟨hb14, hF⟩ | ⟨hb14, hF⟩
  · refine RK.of (fun k9 => RN.tsw (dflt := 164) (lo := 0) (hi := 14) (offs := #[75, 75, 75, 84, 92, 100, 105, 110, 118, 125, 132, 140, 149, 154, 159]) (by decide +kernel) (RN.stm hb0 (RN.stm hb1 (RN.stm hb2 (RN.stm hb3 (RN.stm hb4 (RN.stm hb5 (RN.stm hb6 (RN.stm hb7 (RN.stm hb8 (RN.stm hb9 (RN.stm hb10 (RN.stm hb11 (RN.stm hb12 (RN.stm hb13 (RN.sth hb14 (tgt := 160) rfl k9)))))))))))))))) ?_
    refine RK.of (RN.blk (ops := [(160, .aload_n 0), (161, .getfield 89)]) (pc' := 164) (lv' := [(0, .inr (.inr 334)), (1, .inl a1)]) (st' := [.inl (m_rd h 334 1)]) (h' := h) (cs := [GK h 334 12]) (by decide +kernel) rfl ⟨(o_334 hL).gk, trivial⟩) ?_
    exact RK.iR (by decide +kernel) rfl hL hK hF
  refine RK.of (fun k9 => RN.tsw (dflt := 164) (lo := 0) (hi := 14) (offs := #[75, 75, 75, 84, 92, 100, 105, 110, 118, 125, 132, 140, 149, 154, 159]) (by decide +kernel) (RN.stm hb0 (RN.stm hb1 (RN.stm hb2 (RN.stm hb3 (RN.stm hb4 (RN.stm hb5 (RN.stm hb6 (RN.stm hb7 (RN.stm hb8 (RN.stm hb9 (RN.stm hb10 (RN.stm hb11 (RN.stm hb12 (RN.stm hb13 (RN.stm hb14 (RN.std (tgt := 165) rfl k9))))))))))))))))) ?_
  refine RK.of (RN.blk (ops := [(165, .iconst (-1))]) (pc' := 166) (lv' := [(0, .inr (.inr 334)), (1, .inl a1)]) (st' := [.inl (-1)]) (h' := h) (cs := []) (by decide +kernel) rfl trivial) ?_
  exact RK.iR (by decide +kernel) rfl hL hK hF
noncomputable def GX12_image_L43 (u1 : Int) (K0 : MH → Option (Int × MH)) : Nat → Int → MH → Option (Int × MH)
  | 0, _, _ => none
  | f + 1, v2, h =>
    (if v2 < 167 then
     gd [IB v2 167, IB (m_w32 ((m_w32 (167 * u1)) + v2)) 668] (
      GX12_image_L43 u1 K0 f (m_w32 (v2 + 1)) (m_wr h 355 (m_w32 ((m_w32 (167 * u1)) + v2)) (m_rd h 344 v2)))
    else
     K0 h)
theorem DX12_image_L43 {d : Nat} {u1 : Int} {K0 : MH → Option (Int × MH)} {r : Int × MH} {h0 hB : MH} (hB0 : KD h0 hB) (hK0 : ∀ (h : MH), LR h → KD hB h → K0 h = some r → RK xs L iX12_image (d + 1) 74 [(0, .inr (.inr 334))] [] h (RIo r) h0 r.2) : ∀ (f : Nat) (v2 : Int) (h : MH), LR h → KD hB h → GX12_image_L43 u1 K0 f v2 h = some r → RK xs L iX12_image (d + 1) 43 [(0, .inr (.inr 334)), (1, .inl u1), (2, .inl v2)] [] h (RIo r) h0 r.2 := by
  intro f
  induction f with
  | zero =>
    intro v2 h hL hJ hF
    cases hF
  | succ f ih =>
    intro v2 h hL hJ hF
    unfold GX12_image_L43 at hF
    have hK := hB0.tr hJ
    refine RK.of (RN.blk (ops := [(43, .iload_n 2), (44, .sipush 167)]) (pc' := 47) (lv' := [(0, .inr (.inr 334)), (1, .inl u1), (2, .inl v2)]) (st' := [.inl 167, .inl v2]) (h' := h) (cs := []) (by decide +kernel) rfl trivial) ?_
    rcases it_of hF with ⟨hb, hF⟩ | ⟨hb, hF⟩
    · refine RK.of (RN.icf (cd := .ge) (off := 27) (tgt := 74) (by decide +kernel) (mif_gen hb)) ?_
      refine RK.of (RN.blk (ops := [(50, .aload_n 0)]) (pc' := 51) (lv' := [(0, .inr (.inr 334)), (1, .inl u1), (2, .inl v2)]) (st' := [.inr (.inr 334)]) (h' := h) (cs := []) (by decide +kernel) rfl trivial) ?_
      refine RK.of (RN.gr (i := 77) (ci := 12) (k := 38) (fn := true) (v := 355) (by decide +kernel) rfl (TO.gk (o_334 hL)) (hL.fa (v := 355) 38 1 668 (o_334 hL) rfl (by decide) rfl (by decide)).1) ?_
      refine RK.of (RN.blk (ops := [(54, .sipush 167), (57, .iload_n 1), (58, .imul), (59, .iload_n 2), (60, .iadd), (61, .aload_n 0)]) (pc' := 62) (lv' := [(0, .inr (.inr 334)), (1, .inl u1), (2, .inl v2)]) (st' := [.inr (.inr 334), .inl (m_w32 ((m_w32 (167 * u1)) + v2)), .inr (.inr 355)]) (h' := h) (cs := []) (by decide +kernel) rfl trivial) ?_
      refine RK.of (RN.gr (i := 39) (ci := 12) (k := 20) (fn := true) (v := 344) (by decide +kernel) rfl (TO.gk (o_334 hL)) (hL.fa (v := 344) 20 1 167 (o_334 hL) rfl (by decide) rfl (by decide)).1) ?_
      obtain ⟨hc, hF⟩ := gd_of hF
      refine RK.of (RN.blk (ops := [(65, .iload_n 2), (66, .iaload), (67, .iastore)]) (pc' := 68) (lv' := [(0, .inr (.inr 334)), (1, .inl u1), (2, .inl v2)]) (st' := []) (h' := (m_wr h 355 (m_w32 ((m_w32 (167 * u1)) + v2)) (m_rd h 344 v2))) (cs := [GI h 344 1 v2, GI h 355 1 (m_w32 ((m_w32 (167 * u1)) + v2))]) (by decide +kernel) rfl ⟨(a_344 hL).gi hc.1.1 hc.1.2, (a_355 hL).gi hc.2.1.1 hc.2.1.2, trivial⟩) ?_
      have hL : LR (m_wr h 355 (m_w32 ((m_w32 (167 * u1)) + v2)) (m_rd h 344 v2)) := hL.wa (TA.le5 (a_355 hL) (by decide))
      have hK := hK.tr (KD.wr : KD h (m_wr h 355 (m_w32 ((m_w32 (167 * u1)) + v2)) (m_rd h 344 v2)))
      have hJ := hJ.tr (KD.wr : KD h (m_wr h 355 (m_w32 ((m_w32 (167 * u1)) + v2)) (m_rd h 344 v2)))
      refine RK.of (RN.blk (ops := [(68, .iinc 2 1)]) (pc' := 71) (lv' := [(2, .inl (m_w32 (v2 + 1))), (0, .inr (.inr 334)), (1, .inl u1)]) (st' := []) (h' := (m_wr h 355 (m_w32 ((m_w32 (167 * u1)) + v2)) (m_rd h 344 v2))) (cs := []) (by decide +kernel) rfl trivial) ?_
      refine RK.of (RN.goto (off := -28) (tgt := 43) (by decide +kernel)) ?_
      exact RK.sub (ih _ _ hL hJ hF) (sub_cons rfl (sub_cons rfl (sub_cons rfl sub_nil)))
    · refine RK.of (RN.ict (cd := .ge) (off := 27) (tgt := 74) (by decide +kernel) (mif_ge hb)) ?_
      exact RK.sub (hK0 _ hL hJ hF) (sub_cons rfl sub_nil)
noncomputable def GX12_image (a1 : Int) (h : MH) : Option (Int × MH) :=
  (bd (GX12_in a1 0 3 h) (fun x2 h1 =>
   (if x2 = 0 then
    some ((-1), h1)
   else
    gd [IB a1 4] (
     gd [IB a1 4] (
      hl (m_wr (m_wr h1 358 a1 (m_bst h1 358 1)) 356 a1 (m_rd (m_wr h1 358 a1 (m_bst h1 358 1)) 334 21)) (fun h3 =>
       gd [IB a1 4] (
        GX12_image_L43 a1 (fun h4 =>
         some ((m_rd h4 344 10), h4)) FU 0 (m_wr h3 357 a1 (m_rd h3 334 22)))))))))
theorem DX12_image {d : Nat} {a1 : Int} {h : MH} {r : Int × MH} (hL : LR h) (hF : GX12_image a1 h = some r) : RN xs L iX12_image (d + 1) 0 (lvE 0 [.inr (.inr 334), .inl a1]) [] h (RIo r) ∧ LR r.2 ∧ KD h r.2 := by
  unfold GX12_image at hF
  have hK : KD h h := KD.rf
  show RK xs L iX12_image (d + 1) 0 (lvE 0 [.inr (.inr 334), .inl a1]) [] h (RIo r) h r.2
  refine RK.of (RN.blk (ops := [(0, .iload_n 1), (1, .i2l), (2, .lconst 0), (3, .ldc2_w 434)]) (pc' := 6) (lv' := [(0, .inr (.inr 334)), (1, .inl a1)]) (st' := [.inr (.inl 3), .inr (.inl 0), .inr (.inl a1)]) (h' := h) (cs := []) (by decide +kernel) rfl trivial) ?_
  obtain ⟨x2, h1, hG, hF⟩ := bd_of hF
  obtain ⟨hN, hL, hQ⟩ := DX12_in (d := d) hL  hG
  refine RK.of (RN.cst (i := 127) (k := 156) (q2 := iX12_in) (as := [.inr (.inl a1), .inr (.inl 0), .inr (.inl 3)]) (r := []) (v := some (.inl x2)) (h1 := h1) (by decide +kernel) rfl rfl rfl rfl rfl hN) ?_
  have hK := hK.tr hQ
  rcases it_of hF with ⟨hb, hF⟩ | ⟨hb, hF⟩
  · refine RK.of (RN.iff (cd := .ne) (off := 5) (tgt := 14) (by decide +kernel) (mif_nen hb)) ?_
    refine RK.of (RN.blk (ops := [(12, .iconst (-1))]) (pc' := 13) (lv' := [(0, .inr (.inr 334)), (1, .inl a1)]) (st' := [.inl (-1)]) (h' := h1) (cs := []) (by decide +kernel) rfl trivial) ?_
    exact RK.iR (by decide +kernel) rfl hL hK hF
  · refine RK.of (RN.ift (cd := .ne) (off := 5) (tgt := 14) (by decide +kernel) (mif_ne hb)) ?_
    refine RK.of (RN.blk (ops := [(14, .aload_n 0)]) (pc' := 15) (lv' := [(0, .inr (.inr 334)), (1, .inl a1)]) (st' := [.inr (.inr 334)]) (h' := h1) (cs := []) (by decide +kernel) rfl trivial) ?_
    refine RK.of (RN.gr (i := 86) (ci := 12) (k := 41) (fn := true) (v := 358) (by decide +kernel) rfl (TO.gk (o_334 hL)) (hL.fa (v := 358) 41 4 4 (o_334 hL) rfl (by decide) rfl (by decide)).1) ?_
    obtain ⟨hc, hF⟩ := gd_of hF
    refine RK.of (RN.blk (ops := [(18, .iload_n 1), (19, .iconst 1), (20, .bastore)]) (pc' := 21) (lv' := [(0, .inr (.inr 334)), (1, .inl a1)]) (st' := []) (h' := (m_wr h1 358 a1 (m_bst h1 358 1))) (cs := [GB h1 358 a1]) (by decide +kernel) rfl ⟨(a_358 hL).gb (by decide) hc.1.1 hc.1.2, trivial⟩) ?_
    have hL : LR (m_wr h1 358 a1 (m_bst h1 358 1)) := hL.wa (TA.le5 (a_358 hL) (by decide))
    have hK := hK.tr (KD.wr : KD h1 (m_wr h1 358 a1 (m_bst h1 358 1)))
    refine RK.of (RN.blk (ops := [(21, .aload_n 0)]) (pc' := 22) (lv' := [(0, .inr (.inr 334)), (1, .inl a1)]) (st' := [.inr (.inr 334)]) (h' := (m_wr h1 358 a1 (m_bst h1 358 1))) (cs := []) (by decide +kernel) rfl trivial) ?_
    refine RK.of (RN.gr (i := 80) (ci := 12) (k := 39) (fn := true) (v := 356) (by decide +kernel) rfl (TO.gk (o_334 hL)) (hL.fa (v := 356) 39 1 4 (o_334 hL) rfl (by decide) rfl (by decide)).1) ?_
    obtain ⟨hc, hF⟩ := gd_of hF
    refine RK.of (RN.blk (ops := [(25, .iload_n 1), (26, .aload_n 0), (27, .getfield 42), (30, .iastore)]) (pc' := 31) (lv' := [(0, .inr (.inr 334)), (1, .inl a1)]) (st' := []) (h' := (m_wr (m_wr h1 358 a1 (m_bst h1 358 1)) 356 a1 (m_rd (m_wr h1 358 a1 (m_bst h1 358 1)) 334 21))) (cs := [GK (m_wr h1 358 a1 (m_bst h1 358 1)) 334 12, GI (m_wr h1 358 a1 (m_bst h1 358 1)) 356 1 a1]) (by decide +kernel) rfl ⟨(o_334 hL).gk, (a_356 hL).gi hc.1.1 hc.1.2, trivial⟩) ?_
    have hL : LR (m_wr (m_wr h1 358 a1 (m_bst h1 358 1)) 356 a1 (m_rd (m_wr h1 358 a1 (m_bst h1 358 1)) 334 21)) := hL.wa (TA.le5 (a_356 hL) (by decide))
    have hK := hK.tr (KD.wr : KD (m_wr h1 358 a1 (m_bst h1 358 1)) (m_wr (m_wr h1 358 a1 (m_bst h1 358 1)) 356 a1 (m_rd (m_wr h1 358 a1 (m_bst h1 358 1)) 334 21)))
    obtain ⟨h3, he, hF⟩ := hl_of hF
    refine RK.of (RN.hl he) ?_
    rw [← he] at hL hK
    refine RK.of (RN.blk (ops := [(31, .aload_n 0)]) (pc' := 32) (lv' := [(0, .inr (.inr 334)), (1, .inl a1)]) (st' := [.inr (.inr 334)]) (h' := h3) (cs := []) (by decide +kernel) rfl trivial) ?_
    refine RK.of (RN.gr (i := 83) (ci := 12) (k := 40) (fn := true) (v := 357) (by decide +kernel) rfl (TO.gk (o_334 hL)) (hL.fa (v := 357) 40 1 4 (o_334 hL) rfl (by decide) rfl (by decide)).1) ?_
    obtain ⟨hc, hF⟩ := gd_of hF
    refine RK.of (RN.blk (ops := [(35, .iload_n 1), (36, .aload_n 0), (37, .getfield 465), (40, .iastore)]) (pc' := 41) (lv' := [(0, .inr (.inr 334)), (1, .inl a1)]) (st' := []) (h' := (m_wr h3 357 a1 (m_rd h3 334 22))) (cs := [GK h3 334 12, GI h3 357 1 a1]) (by decide +kernel) rfl ⟨(o_334 hL).gk, (a_357 hL).gi hc.1.1 hc.1.2, trivial⟩) ?_
    have hL : LR (m_wr h3 357 a1 (m_rd h3 334 22)) := hL.wa (TA.le5 (a_357 hL) (by decide))
    have hK := hK.tr (KD.wr : KD h3 (m_wr h3 357 a1 (m_rd h3 334 22)))
    refine RK.of (RN.blk (ops := [(41, .iconst 0), (42, .istore_n 2)]) (pc' := 43) (lv' := [(2, .inl 0), (0, .inr (.inr 334)), (1, .inl a1)]) (st' := []) (h' := (m_wr h3 357 a1 (m_rd h3 334 22))) (cs := []) (by decide +kernel) rfl trivial) ?_
    refine RK.sub (DX12_image_L43 hK ?_ _ _ _ hL KD.rf hF) (sub_cons rfl (sub_cons rfl (sub_cons rfl sub_nil)))
    · intro h4 hL hq hF
      have hK := hK.tr hq
      refine RK.of (RN.blk (ops := [(74, .aload_n 0)]) (pc' := 75) (lv' := [(0, .inr (.inr 334))]) (st' := [.inr (.inr 334)]) (h' := h4) (cs := []) (by decide +kernel) rfl trivial) ?_
      refine RK.of (RN.gr (i := 39) (ci := 12) (k := 20) (fn := true) (v := 344) (by decide +kernel) rfl (TO.gk (o_334 hL)) (hL.fa (v := 344) 20 1 167 (o_334 hL) rfl (by decide) rfl (by decide)).1) ?_
      refine RK.of (RN.blk (ops := [(78, .bipush 10), (80, .iaload)]) (pc' := 81) (lv' := [(0, .inr (.inr 334))]) (st' := [.inl (m_rd h4 344 10)]) (h' := h4) (cs := [GI h4 344 1 10]) (by decide +kernel) rfl ⟨(a_344 hL).gi (by decide) (by decide), trivial⟩) ?_
      exact RK.iR (by decide +kernel) rfl hL hK hF
noncomputable def GX12_back_L50 (u1 : Int) (K0 : MH → Option (Int × MH)) : Nat → Int → MH → Option (Int × MH)
  | 0, _, _ => none
  | f + 1, v2, h =>
    (if v2 < 167 then
     gd [IB (m_w32 ((m_w32 (167 * u1)) + v2)) 668, IB v2 167] (
      GX12_back_L50 u1 K0 f (m_w32 (v2 + 1)) (m_wr h 344 v2 (m_rd h 355 (m_w32 ((m_w32 (167 * u1)) + v2)))))
    else
     K0 h)
theorem DX12_back_L50 {d : Nat} {u1 : Int} {K0 : MH → Option (Int × MH)} {r : Int × MH} {h0 hB : MH} (hB0 : KD h0 hB) (hK0 : ∀ (h : MH), LR h → KD hB h → K0 h = some r → RK xs L iX12_back (d + 1) 81 [(0, .inr (.inr 334))] [] h (RIo r) h0 r.2) : ∀ (f : Nat) (v2 : Int) (h : MH), LR h → KD hB h → GX12_back_L50 u1 K0 f v2 h = some r → RK xs L iX12_back (d + 1) 50 [(0, .inr (.inr 334)), (1, .inl u1), (2, .inl v2)] [] h (RIo r) h0 r.2 := by
  intro f
  induction f with
  | zero =>
    intro v2 h hL hJ hF
    cases hF
  | succ f ih =>
    intro v2 h hL hJ hF
    unfold GX12_back_L50 at hF
    have hK := hB0.tr hJ
    refine RK.of (RN.blk (ops := [(50, .iload_n 2), (51, .sipush 167)]) (pc' := 54) (lv' := [(0, .inr (.inr 334)), (1, .inl u1), (2, .inl v2)]) (st' := [.inl 167, .inl v2]) (h' := h) (cs := []) (by decide +kernel) rfl trivial) ?_
    rcases it_of hF with ⟨hb, hF⟩ | ⟨hb, hF⟩
    · refine RK.of (RN.icf (cd := .ge) (off := 27) (tgt := 81) (by decide +kernel) (mif_gen hb)) ?_
      refine RK.of (RN.blk (ops := [(57, .aload_n 0)]) (pc' := 58) (lv' := [(0, .inr (.inr 334)), (1, .inl u1), (2, .inl v2)]) (st' := [.inr (.inr 334)]) (h' := h) (cs := []) (by decide +kernel) rfl trivial) ?_
      refine RK.of (RN.gr (i := 39) (ci := 12) (k := 20) (fn := true) (v := 344) (by decide +kernel) rfl (TO.gk (o_334 hL)) (hL.fa (v := 344) 20 1 167 (o_334 hL) rfl (by decide) rfl (by decide)).1) ?_
      refine RK.of (RN.blk (ops := [(61, .iload_n 2), (62, .aload_n 0)]) (pc' := 63) (lv' := [(0, .inr (.inr 334)), (1, .inl u1), (2, .inl v2)]) (st' := [.inr (.inr 334), .inl v2, .inr (.inr 344)]) (h' := h) (cs := []) (by decide +kernel) rfl trivial) ?_
      refine RK.of (RN.gr (i := 77) (ci := 12) (k := 38) (fn := true) (v := 355) (by decide +kernel) rfl (TO.gk (o_334 hL)) (hL.fa (v := 355) 38 1 668 (o_334 hL) rfl (by decide) rfl (by decide)).1) ?_
      obtain ⟨hc, hF⟩ := gd_of hF
      refine RK.of (RN.blk (ops := [(66, .sipush 167), (69, .iload_n 1), (70, .imul), (71, .iload_n 2), (72, .iadd), (73, .iaload), (74, .iastore)]) (pc' := 75) (lv' := [(0, .inr (.inr 334)), (1, .inl u1), (2, .inl v2)]) (st' := []) (h' := (m_wr h 344 v2 (m_rd h 355 (m_w32 ((m_w32 (167 * u1)) + v2))))) (cs := [GI h 355 1 (m_w32 ((m_w32 (167 * u1)) + v2)), GI h 344 1 v2]) (by decide +kernel) rfl ⟨(a_355 hL).gi hc.1.1 hc.1.2, (a_344 hL).gi hc.2.1.1 hc.2.1.2, trivial⟩) ?_
      have hL : LR (m_wr h 344 v2 (m_rd h 355 (m_w32 ((m_w32 (167 * u1)) + v2)))) := hL.wa (TA.le5 (a_344 hL) (by decide))
      have hK := hK.tr (KD.wr : KD h (m_wr h 344 v2 (m_rd h 355 (m_w32 ((m_w32 (167 * u1)) + v2)))))
      have hJ := hJ.tr (KD.wr : KD h (m_wr h 344 v2 (m_rd h 355 (m_w32 ((m_w32 (167 * u1)) + v2)))))
      refine RK.of (RN.blk (ops := [(75, .iinc 2 1)]) (pc' := 78) (lv' := [(2, .inl (m_w32 (v2 + 1))), (0, .inr (.inr 334)), (1, .inl u1)]) (st' := []) (h' := (m_wr h 344 v2 (m_rd h 355 (m_w32 ((m_w32 (167 * u1)) + v2))))) (cs := []) (by decide +kernel) rfl trivial) ?_
      refine RK.of (RN.goto (off := -28) (tgt := 50) (by decide +kernel)) ?_
      exact RK.sub (ih _ _ hL hJ hF) (sub_cons rfl (sub_cons rfl (sub_cons rfl sub_nil)))
    · refine RK.of (RN.ict (cd := .ge) (off := 27) (tgt := 81) (by decide +kernel) (mif_ge hb)) ?_
      exact RK.sub (hK0 _ hL hJ hF) (sub_cons rfl sub_nil)
noncomputable def GX12_back (a1 : Int) (h : MH) : Option (Int × MH) :=
  (bd (GX12_in a1 0 3 h) (fun x2 h1 =>
   (if x2 = 0 then
    some ((-1), h1)
   else
    gd [IB a1 4] (
     (if (m_rd h1 358 a1) = 0 then
      some ((-1), h1)
     else
      gd [IB a1 4] (
       gd [IB a1 4] (
        hl (m_wr (m_wr h1 334 21 (m_rd h1 356 a1)) 334 22 (m_rd (m_wr h1 334 21 (m_rd h1 356 a1)) 357 a1)) (fun h3 =>
         GX12_back_L50 a1 (fun h4 =>
          some ((m_rd h4 344 10), h4)) FU 0 (m_wr h3 334 25 0)))))))))
theorem DX12_back {d : Nat} {a1 : Int} {h : MH} {r : Int × MH} (hL : LR h) (hF : GX12_back a1 h = some r) : RN xs L iX12_back (d + 1) 0 (lvE 0 [.inr (.inr 334), .inl a1]) [] h (RIo r) ∧ LR r.2 ∧ KD h r.2 := by
  unfold GX12_back at hF
  have hK : KD h h := KD.rf
  show RK xs L iX12_back (d + 1) 0 (lvE 0 [.inr (.inr 334), .inl a1]) [] h (RIo r) h r.2
  refine RK.of (RN.blk (ops := [(0, .iload_n 1), (1, .i2l), (2, .lconst 0), (3, .ldc2_w 434)]) (pc' := 6) (lv' := [(0, .inr (.inr 334)), (1, .inl a1)]) (st' := [.inr (.inl 3), .inr (.inl 0), .inr (.inl a1)]) (h' := h) (cs := []) (by decide +kernel) rfl trivial) ?_
  obtain ⟨x2, h1, hG, hF⟩ := bd_of hF
  obtain ⟨hN, hL, hQ⟩ := DX12_in (d := d) hL  hG
  refine RK.of (RN.cst (i := 127) (k := 156) (q2 := iX12_in) (as := [.inr (.inl a1), .inr (.inl 0), .inr (.inl 3)]) (r := []) (v := some (.inl x2)) (h1 := h1) (by decide +kernel) rfl rfl rfl rfl rfl hN) ?_
  have hK := hK.tr hQ
  rcases it_of hF with ⟨hb, hF⟩ | ⟨hb, hF⟩
  · refine RK.of (RN.ift (cd := .eq) (off := 12) (tgt := 21) (by decide +kernel) (mif_eq hb)) ?_
    refine RK.of (RN.blk (ops := [(21, .iconst (-1))]) (pc' := 22) (lv' := [(0, .inr (.inr 334)), (1, .inl a1)]) (st' := [.inl (-1)]) (h' := h1) (cs := []) (by decide +kernel) rfl trivial) ?_
    exact RK.iR (by decide +kernel) rfl hL hK hF
  · refine RK.of (RN.iff (cd := .eq) (off := 12) (tgt := 21) (by decide +kernel) (mif_eqn hb)) ?_
    refine RK.of (RN.blk (ops := [(12, .aload_n 0)]) (pc' := 13) (lv' := [(0, .inr (.inr 334)), (1, .inl a1)]) (st' := [.inr (.inr 334)]) (h' := h1) (cs := []) (by decide +kernel) rfl trivial) ?_
    refine RK.of (RN.gr (i := 86) (ci := 12) (k := 41) (fn := true) (v := 358) (by decide +kernel) rfl (TO.gk (o_334 hL)) (hL.fa (v := 358) 41 4 4 (o_334 hL) rfl (by decide) rfl (by decide)).1) ?_
    obtain ⟨hc, hF⟩ := gd_of hF
    refine RK.of (RN.blk (ops := [(16, .iload_n 1), (17, .baload)]) (pc' := 18) (lv' := [(0, .inr (.inr 334)), (1, .inl a1)]) (st' := [.inl (m_rd h1 358 a1)]) (h' := h1) (cs := [GB h1 358 a1]) (by decide +kernel) rfl ⟨(a_358 hL).gb (by decide) hc.1.1 hc.1.2, trivial⟩) ?_
    rcases it_of hF with ⟨hb, hF⟩ | ⟨hb, hF⟩
    · refine RK.of (RN.iff (cd := .ne) (off := 5) (tgt := 23) (by decide +kernel) (mif_nen hb)) ?_
      refine RK.of (RN.blk (ops := [(21, .iconst (-1))]) (pc' := 22) (lv' := [(0, .inr (.inr 334)), (1, .inl a1)]) (st' := [.inl (-1)]) (h' := h1) (cs := []) (by decide +kernel) rfl trivial) ?_
      exact RK.iR (by decide +kernel) rfl hL hK hF
    · refine RK.of (RN.ift (cd := .ne) (off := 5) (tgt := 23) (by decide +kernel) (mif_ne hb)) ?_
      refine RK.of (RN.blk (ops := [(23, .aload_n 0), (24, .aload_n 0)]) (pc' := 25) (lv' := [(0, .inr (.inr 334)), (1, .inl a1)]) (st' := [.inr (.inr 334), .inr (.inr 334)]) (h' := h1) (cs := []) (by decide +kernel) rfl trivial) ?_
      refine RK.of (RN.gr (i := 80) (ci := 12) (k := 39) (fn := true) (v := 356) (by decide +kernel) rfl (TO.gk (o_334 hL)) (hL.fa (v := 356) 39 1 4 (o_334 hL) rfl (by decide) rfl (by decide)).1) ?_
      obtain ⟨hc, hF⟩ := gd_of hF
      refine RK.of (RN.blk (ops := [(28, .iload_n 1), (29, .iaload), (30, .putfield 42)]) (pc' := 33) (lv' := [(0, .inr (.inr 334)), (1, .inl a1)]) (st' := []) (h' := (m_wr h1 334 21 (m_rd h1 356 a1))) (cs := [GI h1 356 1 a1, GK h1 334 12]) (by decide +kernel) rfl ⟨(a_356 hL).gi hc.1.1 hc.1.2, (o_334 hL).gk, trivial⟩) ?_
      have hL : LR (m_wr h1 334 21 (m_rd h1 356 a1)) := LR.wf (k := 21) hL (o_334 hL) rfl
      have hK := hK.tr (KD.wr : KD h1 (m_wr h1 334 21 (m_rd h1 356 a1)))
      refine RK.of (RN.blk (ops := [(33, .aload_n 0), (34, .aload_n 0)]) (pc' := 35) (lv' := [(0, .inr (.inr 334)), (1, .inl a1)]) (st' := [.inr (.inr 334), .inr (.inr 334)]) (h' := (m_wr h1 334 21 (m_rd h1 356 a1))) (cs := []) (by decide +kernel) rfl trivial) ?_
      refine RK.of (RN.gr (i := 83) (ci := 12) (k := 40) (fn := true) (v := 357) (by decide +kernel) rfl (TO.gk (o_334 hL)) (hL.fa (v := 357) 40 1 4 (o_334 hL) rfl (by decide) rfl (by decide)).1) ?_
      obtain ⟨hc, hF⟩ := gd_of hF
      refine RK.of (RN.blk (ops := [(38, .iload_n 1), (39, .iaload), (40, .putfield 465)]) (pc' := 43) (lv' := [(0, .inr (.inr 334)), (1, .inl a1)]) (st' := []) (h' := (m_wr (m_wr h1 334 21 (m_rd h1 356 a1)) 334 22 (m_rd (m_wr h1 334 21 (m_rd h1 356 a1)) 357 a1))) (cs := [GI (m_wr h1 334 21 (m_rd h1 356 a1)) 357 1 a1, GK (m_wr h1 334 21 (m_rd h1 356 a1)) 334 12]) (by decide +kernel) rfl ⟨(a_357 hL).gi hc.1.1 hc.1.2, (o_334 hL).gk, trivial⟩) ?_
      have hL : LR (m_wr (m_wr h1 334 21 (m_rd h1 356 a1)) 334 22 (m_rd (m_wr h1 334 21 (m_rd h1 356 a1)) 357 a1)) := LR.wf (k := 22) hL (o_334 hL) rfl
      have hK := hK.tr (KD.wr : KD (m_wr h1 334 21 (m_rd h1 356 a1)) (m_wr (m_wr h1 334 21 (m_rd h1 356 a1)) 334 22 (m_rd (m_wr h1 334 21 (m_rd h1 356 a1)) 357 a1)))
      obtain ⟨h3, he, hF⟩ := hl_of hF
      refine RK.of (RN.hl he) ?_
      rw [← he] at hL hK
      refine RK.of (RN.blk (ops := [(43, .aload_n 0), (44, .iconst 0), (45, .putfield 277)]) (pc' := 48) (lv' := [(0, .inr (.inr 334)), (1, .inl a1)]) (st' := []) (h' := (m_wr h3 334 25 0)) (cs := [GK h3 334 12]) (by decide +kernel) rfl ⟨(o_334 hL).gk, trivial⟩) ?_
      have hL : LR (m_wr h3 334 25 0) := LR.wf (k := 25) hL (o_334 hL) rfl
      have hK := hK.tr (KD.wr : KD h3 (m_wr h3 334 25 0))
      refine RK.of (RN.blk (ops := [(48, .iconst 0), (49, .istore_n 2)]) (pc' := 50) (lv' := [(2, .inl 0), (0, .inr (.inr 334)), (1, .inl a1)]) (st' := []) (h' := (m_wr h3 334 25 0)) (cs := []) (by decide +kernel) rfl trivial) ?_
      refine RK.sub (DX12_back_L50 hK ?_ _ _ _ hL KD.rf hF) (sub_cons rfl (sub_cons rfl (sub_cons rfl sub_nil)))
      · intro h4 hL hq hF
        have hK := hK.tr hq
        refine RK.of (RN.blk (ops := [(81, .aload_n 0)]) (pc' := 82) (lv' := [(0, .inr (.inr 334))]) (st' := [.inr (.inr 334)]) (h' := h4) (cs := []) (by decide +kernel) rfl trivial) ?_
        refine RK.of (RN.gr (i := 39) (ci := 12) (k := 20) (fn := true) (v := 344) (by decide +kernel) rfl (TO.gk (o_334 hL)) (hL.fa (v := 344) 20 1 167 (o_334 hL) rfl (by decide) rfl (by decide)).1) ?_
        refine RK.of (RN.blk (ops := [(85, .bipush 10), (87, .iaload)]) (pc' := 88) (lv' := [(0, .inr (.inr 334))]) (st' := [.inl (m_rd h4 344 10)]) (h' := h4) (cs := [GI h4 344 1 10]) (by decide +kernel) rfl ⟨(a_344 hL).gi (by decide) (by decide), trivial⟩) ?_
        exact RK.iR (by decide +kernel) rfl hL hK hF
end Gc
