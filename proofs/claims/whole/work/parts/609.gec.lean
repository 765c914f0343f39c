/-! METHODS AS FUNCTIONS, references resolved (by program): X11_image, X11_back, X12_in, X12_isOf, X12_bits, X12_power, X12_four, X12_feed, X12_end, X12_fails, X12_see, X12_isDigit, X12_isLetter, X12_isWord, X12_passWord, X12_takesWord, X12_numberHere, X12_wordHere, X12_puts, X12_makes, X12_opens, X12_strength, X12_layDown -/
section Gc
variable {xs : Int → Int} {L : Int}
noncomputable def GX11_image (a1 : Int) (h : MH) : Option (Int × MH) :=
  (if a1 < 0 then
   some ((-1), h)
  else
   (if a1 < 4 then
    gd [IB a1 4] (
     (bv (GX2_copyFrom (45 + 23 * a1) 20 h) (fun h2 =>
      gd [IB a1 4] (
       some ((m_rd (m_wr h2 44 a1 (m_bst h2 44 1)) 32 6), (m_wr h2 44 a1 (m_bst h2 44 1)))))))
   else
    some ((-1), h)))
theorem DX11_image {d : Nat} {a1 : Int} {h : MH} {r : Int × MH} (hL : LR h) (hF : GX11_image a1 h = some r) : RN xs L iX11_image (d + 4) 0 (lvE 0 [.inr (.inr 0), .inl a1]) [] h (RIo r) ∧ LR r.2 ∧ KD h r.2 := by
  unfold GX11_image at hF
  have hK : KD h h := KD.rf
  show RK xs L iX11_image (d + 4) 0 (lvE 0 [.inr (.inr 0), .inl a1]) [] h (RIo r) h r.2
  refine RK.of (RN.blk (ops := [(0, .iload_n 1)]) (pc' := 1) (lv' := [(0, .inr (.inr 0)), (1, .inl a1)]) (st' := [.inl a1]) (h' := h) (cs := []) (by decide +kernel) rfl trivial) ?_
  rcases it_of hF with ⟨hb, hF⟩ | ⟨hb, hF⟩
  · refine RK.of (RN.ift (cd := .lt) (off := 8) (tgt := 9) (by decide +kernel) (mif_lt hb)) ?_
    refine RK.of (RN.blk (ops := [(9, .iconst (-1))]) (pc' := 10) (lv' := [(0, .inr (.inr 0)), (1, .inl a1)]) (st' := [.inl (-1)]) (h' := h) (cs := []) (by decide +kernel) rfl trivial) ?_
    exact RK.iR (by decide +kernel) rfl hL hK hF
  · refine RK.of (RN.iff (cd := .lt) (off := 8) (tgt := 9) (by decide +kernel) (mif_ltn hb)) ?_
    refine RK.of (RN.blk (ops := [(4, .iload_n 1), (5, .iconst 4)]) (pc' := 6) (lv' := [(0, .inr (.inr 0)), (1, .inl a1)]) (st' := [.inl 4, .inl a1]) (h' := h) (cs := []) (by decide +kernel) rfl trivial) ?_
    rcases it_of hF with ⟨hb, hF⟩ | ⟨hb, hF⟩
    · refine RK.of (RN.ict (cd := .lt) (off := 5) (tgt := 11) (by decide +kernel) (mif_lt hb)) ?_
      refine RK.of (RN.blk (ops := [(11, .aload_n 0)]) (pc' := 12) (lv' := [(0, .inr (.inr 0)), (1, .inl a1)]) (st' := [.inr (.inr 0)]) (h' := h) (cs := []) (by decide +kernel) rfl trivial) ?_
      refine RK.of (RN.gr (i := 45) (ci := 11) (k := 6) (fn := true) (v := 43) (by decide +kernel) rfl (TO.gk (o_0 hL)) (hL.fa (v := 43) 6 6 4 (o_0 hL) rfl (by decide) rfl (by decide)).1) ?_
      refine RK.of (RN.blk (ops := [(15, .iload_n 1)]) (pc' := 16) (lv' := [(0, .inr (.inr 0)), (1, .inl a1)]) (st' := [.inl a1, .inr (.inr 43)]) (h' := h) (cs := []) (by decide +kernel) rfl trivial) ?_
      obtain ⟨hc, hF⟩ := gd_of hF
      refine RK.of (RN.ga (by decide +kernel) ((a_43 hL).ga (by decide) (by decide) hc.1.1 hc.1.2) (hL.2.2.2.1 _ hc.1.1 hc.1.2)) ?_
      have k_d1 := hL.img hc.1.1 hc.1.2
      refine RK.of (RN.blk (ops := [(17, .aload_n 0)]) (pc' := 18) (lv' := [(0, .inr (.inr 0)), (1, .inl a1)]) (st' := [.inr (.inr 0), .inr (.inr (45 + 23 * a1))]) (h' := h) (cs := []) (by decide +kernel) rfl trivial) ?_
      refine RK.of (RN.gr (i := 41) (ci := 11) (k := 5) (fn := true) (v := 20) (by decide +kernel) rfl (TO.gk (o_0 hL)) (hL.fo (v := 20) 5 2 (o_0 hL) rfl (by decide) rfl).1) ?_
      obtain ⟨h2, hG, hF⟩ := bv_of hF
      have hq := rcv_ok (as := [.inr (.inr 20)]) (TO.gk k_d1)
      obtain ⟨hN, hL, hQ⟩ := DX2_copyFrom (d := d) hL k_d1 (o_20 hL) hG
      refine RK.of (RN.cv (i := 357) (k := 31) (q2 := iX2_copyFrom) (as := [.inr (.inr (45 + 23 * a1)), .inr (.inr 20)]) (r := []) (v := none) (h1 := h2) (by decide +kernel) rfl rfl rfl rfl rfl hq hN) ?_
      have k_d1 := hQ.to k_d1
      have hK := hK.tr hQ
      refine RK.of (RN.blk (ops := [(24, .aload_n 0)]) (pc' := 25) (lv' := [(0, .inr (.inr 0)), (1, .inl a1)]) (st' := [.inr (.inr 0)]) (h' := h2) (cs := []) (by decide +kernel) rfl trivial) ?_
      refine RK.of (RN.gr (i := 49) (ci := 11) (k := 7) (fn := true) (v := 44) (by decide +kernel) rfl (TO.gk (o_0 hL)) (hL.fa (v := 44) 7 4 4 (o_0 hL) rfl (by decide) rfl (by decide)).1) ?_
      obtain ⟨hc, hF⟩ := gd_of hF
      refine RK.of (RN.blk (ops := [(28, .iload_n 1), (29, .iconst 1), (30, .bastore)]) (pc' := 31) (lv' := [(0, .inr (.inr 0)), (1, .inl a1)]) (st' := []) (h' := (m_wr h2 44 a1 (m_bst h2 44 1))) (cs := [GB h2 44 a1]) (by decide +kernel) rfl ⟨(a_44 hL).gb (by decide) hc.1.1 hc.1.2, trivial⟩) ?_
      have hL : LR (m_wr h2 44 a1 (m_bst h2 44 1)) := hL.wa (TA.le5 (a_44 hL) (by decide))
      have k_d1 := (KD.wr : KD h2 (m_wr h2 44 a1 (m_bst h2 44 1))).to k_d1
      have hK := hK.tr (KD.wr : KD h2 (m_wr h2 44 a1 (m_bst h2 44 1)))
      refine RK.of (RN.blk (ops := [(31, .aload_n 0)]) (pc' := 32) (lv' := [(0, .inr (.inr 0)), (1, .inl a1)]) (st' := [.inr (.inr 0)]) (h' := (m_wr h2 44 a1 (m_bst h2 44 1))) (cs := []) (by decide +kernel) rfl trivial) ?_
      refine RK.of (RN.gr (i := 41) (ci := 11) (k := 5) (fn := true) (v := 20) (by decide +kernel) rfl (TO.gk (o_0 hL)) (hL.fo (v := 20) 5 2 (o_0 hL) rfl (by decide) rfl).1) ?_
      refine RK.of (RN.gr (i := 110) (ci := 2) (k := 2) (fn := true) (v := 32) (by decide +kernel) rfl (TO.gk (o_20 hL)) (hL.fo (v := 32) 2 10 (o_20 hL) rfl (by decide) rfl).1) ?_
      refine RK.of (RN.blk (ops := [(38, .getfield 173)]) (pc' := 41) (lv' := [(0, .inr (.inr 0)), (1, .inl a1)]) (st' := [.inl (m_rd (m_wr h2 44 a1 (m_bst h2 44 1)) 32 6)]) (h' := (m_wr h2 44 a1 (m_bst h2 44 1))) (cs := [GK (m_wr h2 44 a1 (m_bst h2 44 1)) 32 10]) (by decide +kernel) rfl ⟨(o_32 hL).gk, trivial⟩) ?_
      exact RK.iR (by decide +kernel) rfl hL hK hF
    · refine RK.of (RN.icf (cd := .lt) (off := 5) (tgt := 11) (by decide +kernel) (mif_ltn hb)) ?_
      refine RK.of (RN.blk (ops := [(9, .iconst (-1))]) (pc' := 10) (lv' := [(0, .inr (.inr 0)), (1, .inl a1)]) (st' := [.inl (-1)]) (h' := h) (cs := []) (by decide +kernel) rfl trivial) ?_
      exact RK.iR (by decide +kernel) rfl hL hK hF
noncomputable def GX11_back (a1 : Int) (h : MH) : Option (Int × MH) :=
  (if a1 < 0 then
   some ((-1), h)
  else
   (if a1 < 4 then
    gd [IB a1 4] (
     (if (m_rd h 44 a1) = 0 then
      some ((-1), h)
     else
      gd [IB a1 4] (
       (bv (GX2_copyFrom 20 (45 + 23 * a1) h) (fun h2 =>
        some ((m_rd (m_wr h2 0 10 0) 32 6), (m_wr h2 0 10 0)))))))
   else
    some ((-1), h)))
theorem DX11_back {d : Nat} {a1 : Int} {h : MH} {r : Int × MH} (hL : LR h) (hF : GX11_back a1 h = some r) : RN xs L iX11_back (d + 4) 0 (lvE 0 [.inr (.inr 0), .inl a1]) [] h (RIo r) ∧ LR r.2 ∧ KD h r.2 := by
  unfold GX11_back at hF
  have hK : KD h h := KD.rf
  show RK xs L iX11_back (d + 4) 0 (lvE 0 [.inr (.inr 0), .inl a1]) [] h (RIo r) h r.2
  refine RK.of (RN.blk (ops := [(0, .iload_n 1)]) (pc' := 1) (lv' := [(0, .inr (.inr 0)), (1, .inl a1)]) (st' := [.inl a1]) (h' := h) (cs := []) (by decide +kernel) rfl trivial) ?_
  rcases it_of hF with ⟨hb, hF⟩ | ⟨hb, hF⟩
  · refine RK.of (RN.ift (cd := .lt) (off := 17) (tgt := 18) (by decide +kernel) (mif_lt hb)) ?_
    refine RK.of (RN.blk (ops := [(18, .iconst (-1))]) (pc' := 19) (lv' := [(0, .inr (.inr 0)), (1, .inl a1)]) (st' := [.inl (-1)]) (h' := h) (cs := []) (by decide +kernel) rfl trivial) ?_
    exact RK.iR (by decide +kernel) rfl hL hK hF
  · refine RK.of (RN.iff (cd := .lt) (off := 17) (tgt := 18) (by decide +kernel) (mif_ltn hb)) ?_
    refine RK.of (RN.blk (ops := [(4, .iload_n 1), (5, .iconst 4)]) (pc' := 6) (lv' := [(0, .inr (.inr 0)), (1, .inl a1)]) (st' := [.inl 4, .inl a1]) (h' := h) (cs := []) (by decide +kernel) rfl trivial) ?_
    rcases it_of hF with ⟨hb, hF⟩ | ⟨hb, hF⟩
    · refine RK.of (RN.icf (cd := .ge) (off := 12) (tgt := 18) (by decide +kernel) (mif_gen hb)) ?_
      refine RK.of (RN.blk (ops := [(9, .aload_n 0)]) (pc' := 10) (lv' := [(0, .inr (.inr 0)), (1, .inl a1)]) (st' := [.inr (.inr 0)]) (h' := h) (cs := []) (by decide +kernel) rfl trivial) ?_
      refine RK.of (RN.gr (i := 49) (ci := 11) (k := 7) (fn := true) (v := 44) (by decide +kernel) rfl (TO.gk (o_0 hL)) (hL.fa (v := 44) 7 4 4 (o_0 hL) rfl (by decide) rfl (by decide)).1) ?_
      obtain ⟨hc, hF⟩ := gd_of hF
      refine RK.of (RN.blk (ops := [(13, .iload_n 1), (14, .baload)]) (pc' := 15) (lv' := [(0, .inr (.inr 0)), (1, .inl a1)]) (st' := [.inl (m_rd h 44 a1)]) (h' := h) (cs := [GB h 44 a1]) (by decide +kernel) rfl ⟨(a_44 hL).gb (by decide) hc.1.1 hc.1.2, trivial⟩) ?_
      rcases it_of hF with ⟨hb, hF⟩ | ⟨hb, hF⟩
      · refine RK.of (RN.iff (cd := .ne) (off := 5) (tgt := 20) (by decide +kernel) (mif_nen hb)) ?_
        refine RK.of (RN.blk (ops := [(18, .iconst (-1))]) (pc' := 19) (lv' := [(0, .inr (.inr 0)), (1, .inl a1)]) (st' := [.inl (-1)]) (h' := h) (cs := []) (by decide +kernel) rfl trivial) ?_
        exact RK.iR (by decide +kernel) rfl hL hK hF
      · refine RK.of (RN.ift (cd := .ne) (off := 5) (tgt := 20) (by decide +kernel) (mif_ne hb)) ?_
        refine RK.of (RN.blk (ops := [(20, .aload_n 0)]) (pc' := 21) (lv' := [(0, .inr (.inr 0)), (1, .inl a1)]) (st' := [.inr (.inr 0)]) (h' := h) (cs := []) (by decide +kernel) rfl trivial) ?_
        refine RK.of (RN.gr (i := 41) (ci := 11) (k := 5) (fn := true) (v := 20) (by decide +kernel) rfl (TO.gk (o_0 hL)) (hL.fo (v := 20) 5 2 (o_0 hL) rfl (by decide) rfl).1) ?_
        refine RK.of (RN.blk (ops := [(24, .aload_n 0)]) (pc' := 25) (lv' := [(0, .inr (.inr 0)), (1, .inl a1)]) (st' := [.inr (.inr 0), .inr (.inr 20)]) (h' := h) (cs := []) (by decide +kernel) rfl trivial) ?_
        refine RK.of (RN.gr (i := 45) (ci := 11) (k := 6) (fn := true) (v := 43) (by decide +kernel) rfl (TO.gk (o_0 hL)) (hL.fa (v := 43) 6 6 4 (o_0 hL) rfl (by decide) rfl (by decide)).1) ?_
        refine RK.of (RN.blk (ops := [(28, .iload_n 1)]) (pc' := 29) (lv' := [(0, .inr (.inr 0)), (1, .inl a1)]) (st' := [.inl a1, .inr (.inr 43), .inr (.inr 20)]) (h' := h) (cs := []) (by decide +kernel) rfl trivial) ?_
        obtain ⟨hc, hF⟩ := gd_of hF
        refine RK.of (RN.ga (by decide +kernel) ((a_43 hL).ga (by decide) (by decide) hc.1.1 hc.1.2) (hL.2.2.2.1 _ hc.1.1 hc.1.2)) ?_
        have k_d1 := hL.img hc.1.1 hc.1.2
        obtain ⟨h2, hG, hF⟩ := bv_of hF
        have hq := rcv_ok (as := [.inr (.inr (45 + 23 * a1))]) (TO.gk (o_20 hL))
        obtain ⟨hN, hL, hQ⟩ := DX2_copyFrom (d := d) hL (o_20 hL) k_d1 hG
        refine RK.of (RN.cv (i := 357) (k := 31) (q2 := iX2_copyFrom) (as := [.inr (.inr 20), .inr (.inr (45 + 23 * a1))]) (r := []) (v := none) (h1 := h2) (by decide +kernel) rfl rfl rfl rfl rfl hq hN) ?_
        have k_d1 := hQ.to k_d1
        have hK := hK.tr hQ
        refine RK.of (RN.blk (ops := [(33, .aload_n 0), (34, .iconst 0), (35, .putfield 107)]) (pc' := 38) (lv' := [(0, .inr (.inr 0)), (1, .inl a1)]) (st' := []) (h' := (m_wr h2 0 10 0)) (cs := [GK h2 0 11]) (by decide +kernel) rfl ⟨(o_0 hL).gk, trivial⟩) ?_
        have hL : LR (m_wr h2 0 10 0) := LR.wf (k := 10) hL (o_0 hL) rfl
        have k_d1 := (KD.wr : KD h2 (m_wr h2 0 10 0)).to k_d1
        have hK := hK.tr (KD.wr : KD h2 (m_wr h2 0 10 0))
        refine RK.of (RN.blk (ops := [(38, .aload_n 0)]) (pc' := 39) (lv' := [(0, .inr (.inr 0)), (1, .inl a1)]) (st' := [.inr (.inr 0)]) (h' := (m_wr h2 0 10 0)) (cs := []) (by decide +kernel) rfl trivial) ?_
        refine RK.of (RN.gr (i := 41) (ci := 11) (k := 5) (fn := true) (v := 20) (by decide +kernel) rfl (TO.gk (o_0 hL)) (hL.fo (v := 20) 5 2 (o_0 hL) rfl (by decide) rfl).1) ?_
        refine RK.of (RN.gr (i := 110) (ci := 2) (k := 2) (fn := true) (v := 32) (by decide +kernel) rfl (TO.gk (o_20 hL)) (hL.fo (v := 32) 2 10 (o_20 hL) rfl (by decide) rfl).1) ?_
        refine RK.of (RN.blk (ops := [(45, .getfield 173)]) (pc' := 48) (lv' := [(0, .inr (.inr 0)), (1, .inl a1)]) (st' := [.inl (m_rd (m_wr h2 0 10 0) 32 6)]) (h' := (m_wr h2 0 10 0)) (cs := [GK (m_wr h2 0 10 0) 32 10]) (by decide +kernel) rfl ⟨(o_32 hL).gk, trivial⟩) ?_
        exact RK.iR (by decide +kernel) rfl hL hK hF
    · refine RK.of (RN.ict (cd := .ge) (off := 12) (tgt := 18) (by decide +kernel) (mif_ge hb)) ?_
      refine RK.of (RN.blk (ops := [(18, .iconst (-1))]) (pc' := 19) (lv' := [(0, .inr (.inr 0)), (1, .inl a1)]) (st' := [.inl (-1)]) (h' := h) (cs := []) (by decide +kernel) rfl trivial) ?_
      exact RK.iR (by decide +kernel) rfl hL hK hF
noncomputable def GX12_in (a1 : Int) (a2 : Int) (a3 : Int) (h : MH) : Option (Int × MH) :=
  (if (m_lcmp a1 a2) < 0 then
   some (0, h)
  else
   (if 0 < (m_lcmp a1 a3) then
    some (0, h)
   else
    some (1, h)))
theorem DX12_in {d : Nat} {a1 : Int} {a2 : Int} {a3 : Int} {h : MH} {r : Int × MH} (hL : LR h) (hF : GX12_in a1 a2 a3 h = some r) : RN xs L iX12_in (d) 0 (lvE 0 [.inr (.inl a1), .inr (.inl a2), .inr (.inl a3)]) [] h (RIo r) ∧ LR r.2 ∧ KD h r.2 := by
  unfold GX12_in at hF
  have hK : KD h h := KD.rf
  show RK xs L iX12_in (d) 0 (lvE 0 [.inr (.inl a1), .inr (.inl a2), .inr (.inl a3)]) [] h (RIo r) h r.2
  refine RK.of (RN.blk (ops := [(0, .lload_n 0), (1, .lload_n 2), (2, .lcmp)]) (pc' := 3) (lv' := [(0, .inr (.inl a1)), (2, .inr (.inl a2)), (4, .inr (.inl a3))]) (st' := [.inl (m_lcmp a1 a2)]) (h' := h) (cs := []) (by decide +kernel) rfl trivial) ?_
  rcases it_of hF with ⟨hb, hF⟩ | ⟨hb, hF⟩
  · refine RK.of (RN.ift (cd := .lt) (off := 14) (tgt := 17) (by decide +kernel) (mif_lt hb)) ?_
    refine RK.of (RN.blk (ops := [(17, .iconst 0)]) (pc' := 18) (lv' := [(0, .inr (.inl a1)), (2, .inr (.inl a2)), (4, .inr (.inl a3))]) (st' := [.inl 0]) (h' := h) (cs := []) (by decide +kernel) rfl trivial) ?_
    exact RK.zR (by decide +kernel) rfl (Or.inl rfl) hL hK hF
  · refine RK.of (RN.iff (cd := .lt) (off := 14) (tgt := 17) (by decide +kernel) (mif_ltn hb)) ?_
    refine RK.of (RN.blk (ops := [(6, .lload_n 0), (7, .lload 4), (9, .lcmp)]) (pc' := 10) (lv' := [(0, .inr (.inl a1)), (2, .inr (.inl a2)), (4, .inr (.inl a3))]) (st' := [.inl (m_lcmp a1 a3)]) (h' := h) (cs := []) (by decide +kernel) rfl trivial) ?_
    rcases it_of hF with ⟨hb, hF⟩ | ⟨hb, hF⟩
    · refine RK.of (RN.ift (cd := .gt) (off := 7) (tgt := 17) (by decide +kernel) (mif_gt hb)) ?_
      refine RK.of (RN.blk (ops := [(17, .iconst 0)]) (pc' := 18) (lv' := [(0, .inr (.inl a1)), (2, .inr (.inl a2)), (4, .inr (.inl a3))]) (st' := [.inl 0]) (h' := h) (cs := []) (by decide +kernel) rfl trivial) ?_
      exact RK.zR (by decide +kernel) rfl (Or.inl rfl) hL hK hF
    · refine RK.of (RN.iff (cd := .gt) (off := 7) (tgt := 17) (by decide +kernel) (mif_gtn hb)) ?_
      refine RK.of (RN.blk (ops := [(13, .iconst 1)]) (pc' := 14) (lv' := [(0, .inr (.inl a1)), (2, .inr (.inl a2)), (4, .inr (.inl a3))]) (st' := [.inl 1]) (h' := h) (cs := []) (by decide +kernel) rfl trivial) ?_
      refine RK.of (RN.goto (off := 4) (tgt := 18) (by decide +kernel)) ?_
      exact RK.zR (by decide +kernel) rfl (Or.inr rfl) hL hK hF
noncomputable def GX12_isOf (a1 : Int) (a2 : Int) (h : MH) : Option (Int × MH) :=
  (if (m_band (m_shr a1 a2) 1) = 1 then
   some (1, h)
  else
   some (0, h))
theorem DX12_isOf {d : Nat} {a1 : Int} {a2 : Int} {h : MH} {r : Int × MH} (hL : LR h) (hF : GX12_isOf a1 a2 h = some r) : RN xs L iX12_isOf (d) 0 (lvE 0 [.inl a1, .inl a2]) [] h (RIo r) ∧ LR r.2 ∧ KD h r.2 := by
  unfold GX12_isOf at hF
  have hK : KD h h := KD.rf
  show RK xs L iX12_isOf (d) 0 (lvE 0 [.inl a1, .inl a2]) [] h (RIo r) h r.2
  refine RK.of (RN.blk (ops := [(0, .iload_n 0), (1, .iload_n 1), (2, .ishr), (3, .iconst 1), (4, .iand), (5, .iconst 1)]) (pc' := 6) (lv' := [(0, .inl a1), (1, .inl a2)]) (st' := [.inl 1, .inl (m_band (m_shr a1 a2) 1)]) (h' := h) (cs := []) (by decide +kernel) rfl trivial) ?_
  rcases it_of hF with ⟨hb, hF⟩ | ⟨hb, hF⟩
  · refine RK.of (RN.icf (cd := .ne) (off := 7) (tgt := 13) (by decide +kernel) (mif_nen hb)) ?_
    refine RK.of (RN.blk (ops := [(9, .iconst 1)]) (pc' := 10) (lv' := [(0, .inl a1), (1, .inl a2)]) (st' := [.inl 1]) (h' := h) (cs := []) (by decide +kernel) rfl trivial) ?_
    refine RK.of (RN.goto (off := 4) (tgt := 14) (by decide +kernel)) ?_
    exact RK.zR (by decide +kernel) rfl (Or.inr rfl) hL hK hF
  · refine RK.of (RN.ict (cd := .ne) (off := 7) (tgt := 13) (by decide +kernel) (mif_ne hb)) ?_
    refine RK.of (RN.blk (ops := [(13, .iconst 0)]) (pc' := 14) (lv' := [(0, .inl a1), (1, .inl a2)]) (st' := [.inl 0]) (h' := h) (cs := []) (by decide +kernel) rfl trivial) ?_
    exact RK.zR (by decide +kernel) rfl (Or.inl rfl) hL hK hF
noncomputable def GX12_bits_L4 (K0 : Int → MH → Option (Int × MH)) : Nat → Int → Int → MH → Option (Int × MH)
  | 0, _, _, _ => none
  | f + 1, v1, v2, h =>
    (if v2 = 0 then
     K0 v1 h
    else
     GX12_bits_L4 K0 f (m_w32 (v1 + 1)) (m_band v2 (m_w32 (v2 - 1))) h)
theorem DX12_bits_L4 {d : Nat} {K0 : Int → MH → Option (Int × MH)} {r : Int × MH} {h0 hB : MH} (hB0 : KD h0 hB) (hK0 : ∀ (w1 : Int) (h : MH), LR h → KD hB h → K0 w1 h = some r → RK xs L iX12_bits (d) 20 [(1, .inl w1)] [] h (RIo r) h0 r.2) : ∀ (f : Nat) (v1 : Int) (v2 : Int) (h : MH), LR h → KD hB h → GX12_bits_L4 K0 f v1 v2 h = some r → RK xs L iX12_bits (d) 4 [(1, .inl v1), (2, .inl v2)] [] h (RIo r) h0 r.2 := by
  intro f
  induction f with
  | zero =>
    intro v1 v2 h hL hJ hF
    cases hF
  | succ f ih =>
    intro v1 v2 h hL hJ hF
    unfold GX12_bits_L4 at hF
    have hK := hB0.tr hJ
    refine RK.of (RN.blk (ops := [(4, .iload_n 2)]) (pc' := 5) (lv' := [(1, .inl v1), (2, .inl v2)]) (st' := [.inl v2]) (h' := h) (cs := []) (by decide +kernel) rfl trivial) ?_
    rcases it_of hF with ⟨hb, hF⟩ | ⟨hb, hF⟩
    · refine RK.of (RN.ift (cd := .eq) (off := 15) (tgt := 20) (by decide +kernel) (mif_eq hb)) ?_
      exact RK.sub (hK0 _ _ hL hJ hF) (sub_cons rfl sub_nil)
    · refine RK.of (RN.iff (cd := .eq) (off := 15) (tgt := 20) (by decide +kernel) (mif_eqn hb)) ?_
      refine RK.of (RN.blk (ops := [(8, .iinc 1 1), (11, .iload_n 2), (12, .iload_n 2), (13, .iconst 1), (14, .isub), (15, .iand), (16, .istore_n 2)]) (pc' := 17) (lv' := [(2, .inl (m_band v2 (m_w32 (v2 - 1)))), (1, .inl (m_w32 (v1 + 1)))]) (st' := []) (h' := h) (cs := []) (by decide +kernel) rfl trivial) ?_
      refine RK.of (RN.goto (off := -13) (tgt := 4) (by decide +kernel)) ?_
      exact RK.sub (ih _ _ _ hL hJ hF) (sub_cons rfl (sub_cons rfl sub_nil))
noncomputable def GX12_bits (a1 : Int) (h : MH) : Option (Int × MH) :=
  GX12_bits_L4 (fun w1 h2 =>
   some (w1, h2)) FU 0 a1 h
theorem DX12_bits {d : Nat} {a1 : Int} {h : MH} {r : Int × MH} (hL : LR h) (hF : GX12_bits a1 h = some r) : RN xs L iX12_bits (d) 0 (lvE 0 [.inl a1]) [] h (RIo r) ∧ LR r.2 ∧ KD h r.2 := by
  unfold GX12_bits at hF
  have hK : KD h h := KD.rf
  show RK xs L iX12_bits (d) 0 (lvE 0 [.inl a1]) [] h (RIo r) h r.2
  refine RK.of (RN.blk (ops := [(0, .iconst 0), (1, .istore_n 1), (2, .iload_n 0), (3, .istore_n 2)]) (pc' := 4) (lv' := [(2, .inl a1), (1, .inl 0), (0, .inl a1)]) (st' := []) (h' := h) (cs := []) (by decide +kernel) rfl trivial) ?_
  refine RK.sub (DX12_bits_L4 hK ?_ _ _ _ _ hL KD.rf hF) (sub_cons rfl (sub_cons rfl sub_nil))
  · intro w1 h2 hL hq hF
    have hK := hK.tr hq
    refine RK.of (RN.blk (ops := [(20, .iload_n 1)]) (pc' := 21) (lv' := [(1, .inl w1)]) (st' := [.inl w1]) (h' := h2) (cs := []) (by decide +kernel) rfl trivial) ?_
    exact RK.iR (by decide +kernel) rfl hL hK hF
noncomputable def GX12_power_L4 (u0 : Int) (u1 : Int) (K0 : Int → MH → Option (Int × MH)) : Nat → Int → Int → MH → Option (Int × MH)
  | 0, _, _, _ => none
  | f + 1, v2, v3, h =>
    (if v3 < u1 then
     GX12_power_L4 u0 u1 K0 f (m_w32 (v2 * u0)) (m_w32 (v3 + 1)) h
    else
     K0 v2 h)
theorem DX12_power_L4 {d : Nat} {u0 : Int} {u1 : Int} {K0 : Int → MH → Option (Int × MH)} {r : Int × MH} {h0 hB : MH} (hB0 : KD h0 hB) (hK0 : ∀ (w2 : Int) (h : MH), LR h → KD hB h → K0 w2 h = some r → RK xs L iX12_power (d) 19 [(2, .inl w2)] [] h (RIo r) h0 r.2) : ∀ (f : Nat) (v2 : Int) (v3 : Int) (h : MH), LR h → KD hB h → GX12_power_L4 u0 u1 K0 f v2 v3 h = some r → RK xs L iX12_power (d) 4 [(0, .inl u0), (1, .inl u1), (2, .inl v2), (3, .inl v3)] [] h (RIo r) h0 r.2 := by
  intro f
  induction f with
  | zero =>
    intro v2 v3 h hL hJ hF
    cases hF
  | succ f ih =>
    intro v2 v3 h hL hJ hF
    unfold GX12_power_L4 at hF
    have hK := hB0.tr hJ
    refine RK.of (RN.blk (ops := [(4, .iload_n 3), (5, .iload_n 1)]) (pc' := 6) (lv' := [(0, .inl u0), (1, .inl u1), (2, .inl v2), (3, .inl v3)]) (st' := [.inl u1, .inl v3]) (h' := h) (cs := []) (by decide +kernel) rfl trivial) ?_
    rcases it_of hF with ⟨hb, hF⟩ | ⟨hb, hF⟩
    · refine RK.of (RN.icf (cd := .ge) (off := 13) (tgt := 19) (by decide +kernel) (mif_gen hb)) ?_
      refine RK.of (RN.blk (ops := [(9, .iload_n 2), (10, .iload_n 0), (11, .imul), (12, .istore_n 2), (13, .iinc 3 1)]) (pc' := 16) (lv' := [(3, .inl (m_w32 (v3 + 1))), (2, .inl (m_w32 (v2 * u0))), (0, .inl u0), (1, .inl u1)]) (st' := []) (h' := h) (cs := []) (by decide +kernel) rfl trivial) ?_
      refine RK.of (RN.goto (off := -12) (tgt := 4) (by decide +kernel)) ?_
      exact RK.sub (ih _ _ _ hL hJ hF) (sub_cons rfl (sub_cons rfl (sub_cons rfl (sub_cons rfl sub_nil))))
    · refine RK.of (RN.ict (cd := .ge) (off := 13) (tgt := 19) (by decide +kernel) (mif_ge hb)) ?_
      exact RK.sub (hK0 _ _ hL hJ hF) (sub_cons rfl sub_nil)
noncomputable def GX12_power (a1 : Int) (a2 : Int) (h : MH) : Option (Int × MH) :=
  GX12_power_L4 a1 a2 (fun w1 h2 =>
   some (w1, h2)) FU 1 0 h
theorem DX12_power {d : Nat} {a1 : Int} {a2 : Int} {h : MH} {r : Int × MH} (hL : LR h) (hF : GX12_power a1 a2 h = some r) : RN xs L iX12_power (d) 0 (lvE 0 [.inl a1, .inl a2]) [] h (RIo r) ∧ LR r.2 ∧ KD h r.2 := by
  unfold GX12_power at hF
  have hK : KD h h := KD.rf
  show RK xs L iX12_power (d) 0 (lvE 0 [.inl a1, .inl a2]) [] h (RIo r) h r.2
  refine RK.of (RN.blk (ops := [(0, .iconst 1), (1, .istore_n 2), (2, .iconst 0), (3, .istore_n 3)]) (pc' := 4) (lv' := [(3, .inl 0), (2, .inl 1), (0, .inl a1), (1, .inl a2)]) (st' := []) (h' := h) (cs := []) (by decide +kernel) rfl trivial) ?_
  refine RK.sub (DX12_power_L4 hK ?_ _ _ _ _ hL KD.rf hF) (sub_cons rfl (sub_cons rfl (sub_cons rfl (sub_cons rfl sub_nil))))
  · intro w1 h2 hL hq hF
    have hK := hK.tr hq
    refine RK.of (RN.blk (ops := [(19, .iload_n 2)]) (pc' := 20) (lv' := [(2, .inl w1)]) (st' := [.inl w1]) (h' := h2) (cs := []) (by decide +kernel) rfl trivial) ?_
    exact RK.iR (by decide +kernel) rfl hL hK hF
noncomputable def GX12_four_L3 (u1 : Int) (K0 : MH → Option (MH)) : Nat → Int → MH → Option (MH)
  | 0, _, _ => none
  | f + 1, v2, h =>
    (if v2 < 0 then
     K0 h
    else
     gd [IB (m_rd h 334 1) 400] (
      hl (m_wr (m_wr h 335 (m_rd h 334 1) (m_bst h 335 (m_i2b (m_shr u1 v2)))) 334 1 (m_w32 ((m_rd (m_wr h 335 (m_rd h 334 1) (m_bst h 335 (m_i2b (m_shr u1 v2)))) 334 1) + 1))) (fun h1 =>
       GX12_four_L3 u1 K0 f (m_w32 (v2 + (-8))) h1)))
theorem DX12_four_L3 {d : Nat} {u1 : Int} {K0 : MH → Option (MH)} {r : MH} {h0 hB : MH} (hB0 : KD h0 hB) (hK0 : ∀ (h : MH), LR h → KD hB h → K0 h = some r → RK xs L iX12_four (d) 36 [] [] h (RVo r) h0 r) : ∀ (f : Nat) (v2 : Int) (h : MH), LR h → KD hB h → GX12_four_L3 u1 K0 f v2 h = some r → RK xs L iX12_four (d) 3 [(0, .inr (.inr 334)), (1, .inl u1), (2, .inl v2)] [] h (RVo r) h0 r := by
  intro f
  induction f with
  | zero =>
    intro v2 h hL hJ hF
    cases hF
  | succ f ih =>
    intro v2 h hL hJ hF
    unfold GX12_four_L3 at hF
    have hK := hB0.tr hJ
    refine RK.of (RN.blk (ops := [(3, .iload_n 2)]) (pc' := 4) (lv' := [(0, .inr (.inr 334)), (1, .inl u1), (2, .inl v2)]) (st' := [.inl v2]) (h' := h) (cs := []) (by decide +kernel) rfl trivial) ?_
    rcases it_of hF with ⟨hb, hF⟩ | ⟨hb, hF⟩
    · refine RK.of (RN.ift (cd := .lt) (off := 32) (tgt := 36) (by decide +kernel) (mif_lt hb)) ?_
      exact RK.sub (hK0 _ hL hJ hF) sub_nil
    · refine RK.of (RN.iff (cd := .lt) (off := 32) (tgt := 36) (by decide +kernel) (mif_ltn hb)) ?_
      refine RK.of (RN.blk (ops := [(7, .aload_n 0)]) (pc' := 8) (lv' := [(0, .inr (.inr 334)), (1, .inl u1), (2, .inl v2)]) (st' := [.inr (.inr 334)]) (h' := h) (cs := []) (by decide +kernel) rfl trivial) ?_
      refine RK.of (RN.gr (i := 7) (ci := 12) (k := 0) (fn := true) (v := 335) (by decide +kernel) rfl (TO.gk (o_334 hL)) (hL.fa (v := 335) 0 3 400 (o_334 hL) rfl (by decide) rfl (by decide)).1) ?_
      obtain ⟨hc, hF⟩ := gd_of hF
      refine RK.of (RN.blk (ops := [(11, .aload_n 0), (12, .getfield 89), (15, .iload_n 1), (16, .iload_n 2), (17, .ishr), (18, .i2b), (19, .bastore)]) (pc' := 20) (lv' := [(0, .inr (.inr 334)), (1, .inl u1), (2, .inl v2)]) (st' := []) (h' := (m_wr h 335 (m_rd h 334 1) (m_bst h 335 (m_i2b (m_shr u1 v2))))) (cs := [GK h 334 12, GB h 335 (m_rd h 334 1)]) (by decide +kernel) rfl ⟨(o_334 hL).gk, (a_335 hL).gb (by decide) hc.1.1 hc.1.2, trivial⟩) ?_
      have hL : LR (m_wr h 335 (m_rd h 334 1) (m_bst h 335 (m_i2b (m_shr u1 v2)))) := hL.wa (TA.le5 (a_335 hL) (by decide))
      have hK := hK.tr (KD.wr : KD h (m_wr h 335 (m_rd h 334 1) (m_bst h 335 (m_i2b (m_shr u1 v2)))))
      have hJ := hJ.tr (KD.wr : KD h (m_wr h 335 (m_rd h 334 1) (m_bst h 335 (m_i2b (m_shr u1 v2)))))
      refine RK.of (RN.blk (ops := [(20, .aload_n 0), (21, .dup), (22, .getfield 89), (25, .iconst 1), (26, .iadd), (27, .putfield 89)]) (pc' := 30) (lv' := [(0, .inr (.inr 334)), (1, .inl u1), (2, .inl v2)]) (st' := []) (h' := (m_wr (m_wr h 335 (m_rd h 334 1) (m_bst h 335 (m_i2b (m_shr u1 v2)))) 334 1 (m_w32 ((m_rd (m_wr h 335 (m_rd h 334 1) (m_bst h 335 (m_i2b (m_shr u1 v2)))) 334 1) + 1)))) (cs := [GK (m_wr h 335 (m_rd h 334 1) (m_bst h 335 (m_i2b (m_shr u1 v2)))) 334 12, GK (m_wr h 335 (m_rd h 334 1) (m_bst h 335 (m_i2b (m_shr u1 v2)))) 334 12]) (by decide +kernel) rfl ⟨(o_334 hL).gk, (o_334 hL).gk, trivial⟩) ?_
      have hL : LR (m_wr (m_wr h 335 (m_rd h 334 1) (m_bst h 335 (m_i2b (m_shr u1 v2)))) 334 1 (m_w32 ((m_rd (m_wr h 335 (m_rd h 334 1) (m_bst h 335 (m_i2b (m_shr u1 v2)))) 334 1) + 1))) := LR.wf (k := 1) hL (o_334 hL) rfl
      have hK := hK.tr (KD.wr : KD (m_wr h 335 (m_rd h 334 1) (m_bst h 335 (m_i2b (m_shr u1 v2)))) (m_wr (m_wr h 335 (m_rd h 334 1) (m_bst h 335 (m_i2b (m_shr u1 v2)))) 334 1 (m_w32 ((m_rd (m_wr h 335 (m_rd h 334 1) (m_bst h 335 (m_i2b (m_shr u1 v2)))) 334 1) + 1))))
      have hJ := hJ.tr (KD.wr : KD (m_wr h 335 (m_rd h 334 1) (m_bst h 335 (m_i2b (m_shr u1 v2)))) (m_wr (m_wr h 335 (m_rd h 334 1) (m_bst h 335 (m_i2b (m_shr u1 v2)))) 334 1 (m_w32 ((m_rd (m_wr h 335 (m_rd h 334 1) (m_bst h 335 (m_i2b (m_shr u1 v2)))) 334 1) + 1))))
      obtain ⟨h1, he, hF⟩ := hl_of hF
      refine RK.of (RN.hl he) ?_
      rw [← he] at hL hK hJ
      refine RK.of (RN.blk (ops := [(30, .iinc 2 (-8))]) (pc' := 33) (lv' := [(2, .inl (m_w32 (v2 + (-8)))), (0, .inr (.inr 334)), (1, .inl u1)]) (st' := []) (h' := h1) (cs := []) (by decide +kernel) rfl trivial) ?_
      refine RK.of (RN.goto (off := -30) (tgt := 3) (by decide +kernel)) ?_
      exact RK.sub (ih _ _ hL hJ hF) (sub_cons rfl (sub_cons rfl (sub_cons rfl sub_nil)))
noncomputable def GX12_four (a1 : Int) (h : MH) : Option (MH) :=
  GX12_four_L3 a1 (fun h1 =>
   some h1) FU 24 h
theorem DX12_four {d : Nat} {a1 : Int} {h : MH} {r : MH} (hL : LR h) (hF : GX12_four a1 h = some r) : RN xs L iX12_four (d) 0 (lvE 0 [.inr (.inr 334), .inl a1]) [] h (RVo r) ∧ LR r ∧ KD h r := by
  unfold GX12_four at hF
  have hK : KD h h := KD.rf
  show RK xs L iX12_four (d) 0 (lvE 0 [.inr (.inr 334), .inl a1]) [] h (RVo r) h r
  refine RK.of (RN.blk (ops := [(0, .bipush 24), (2, .istore_n 2)]) (pc' := 3) (lv' := [(2, .inl 24), (0, .inr (.inr 334)), (1, .inl a1)]) (st' := []) (h' := h) (cs := []) (by decide +kernel) rfl trivial) ?_
  refine RK.sub (DX12_four_L3 hK ?_ _ _ _ hL KD.rf hF) (sub_cons rfl (sub_cons rfl (sub_cons rfl sub_nil)))
  · intro h1 hL hq hF
    have hK := hK.tr hq
    exact RK.vR (by decide +kernel) rfl hL hK hF
noncomputable def GX12_feed (a1 : Int) (a2 : Int) (a3 : Int) (a4 : Int) (a5 : Int) (h : MH) : Option (Int × MH) :=
  (if 400 < (m_w32 ((m_rd h 334 1) + 20)) then
   some ((-1), h)
  else
   (bv (GX12_four a1 h) (fun h1 =>
    (bv (GX12_four a2 h1) (fun h2 =>
     (bv (GX12_four a3 h2) (fun h3 =>
      (bv (GX12_four a4 h3) (fun h4 =>
       (bv (GX12_four a5 h4) (fun h5 =>
        some ((m_rd h5 334 1), h5))))))))))))
theorem DX12_feed {d : Nat} {a1 : Int} {a2 : Int} {a3 : Int} {a4 : Int} {a5 : Int} {h : MH} {r : Int × MH} (hL : LR h) (hF : GX12_feed a1 a2 a3 a4 a5 h = some r) : RN xs L iX12_feed (d + 1) 0 (lvE 0 [.inr (.inr 334), .inl a1, .inl a2, .inl a3, .inl a4, .inl a5]) [] h (RIo r) ∧ LR r.2 ∧ KD h r.2 := by
  unfold GX12_feed at hF
  have hK : KD h h := KD.rf
  show RK xs L iX12_feed (d + 1) 0 (lvE 0 [.inr (.inr 334), .inl a1, .inl a2, .inl a3, .inl a4, .inl a5]) [] h (RIo r) h r.2
  refine RK.of (RN.blk (ops := [(0, .aload_n 0), (1, .getfield 89), (4, .bipush 20), (6, .iadd), (7, .sipush 400)]) (pc' := 10) (lv' := [(0, .inr (.inr 334)), (1, .inl a1), (2, .inl a2), (3, .inl a3), (4, .inl a4), (5, .inl a5)]) (st' := [.inl 400, .inl (m_w32 ((m_rd h 334 1) + 20))]) (h' := h) (cs := [GK h 334 12]) (by decide +kernel) rfl ⟨(o_334 hL).gk, trivial⟩) ?_
  rcases it_of hF with ⟨hb, hF⟩ | ⟨hb, hF⟩
  · refine RK.of (RN.icf (cd := .le) (off := 5) (tgt := 15) (by decide +kernel) (mif_len hb)) ?_
    refine RK.of (RN.blk (ops := [(13, .iconst (-1))]) (pc' := 14) (lv' := [(0, .inr (.inr 334)), (1, .inl a1), (2, .inl a2), (3, .inl a3), (4, .inl a4), (5, .inl a5)]) (st' := [.inl (-1)]) (h' := h) (cs := []) (by decide +kernel) rfl trivial) ?_
    exact RK.iR (by decide +kernel) rfl hL hK hF
  · refine RK.of (RN.ict (cd := .le) (off := 5) (tgt := 15) (by decide +kernel) (mif_le hb)) ?_
    refine RK.of (RN.blk (ops := [(15, .aload_n 0), (16, .iload_n 1)]) (pc' := 17) (lv' := [(0, .inr (.inr 334)), (1, .inl a1), (2, .inl a2), (3, .inl a3), (4, .inl a4), (5, .inl a5)]) (st' := [.inl a1, .inr (.inr 334)]) (h' := h) (cs := []) (by decide +kernel) rfl trivial) ?_
    obtain ⟨h1, hG, hF⟩ := bv_of hF
    have hq := rcv_ok (as := [.inl a1]) (TO.gk (o_334 hL))
    obtain ⟨hN, hL, hQ⟩ := DX12_four (d := d) hL  hG
    refine RK.of (RN.cv (i := 92) (k := 160) (q2 := iX12_four) (as := [.inr (.inr 334), .inl a1]) (r := []) (v := none) (h1 := h1) (by decide +kernel) rfl rfl rfl rfl rfl hq hN) ?_
    have hK := hK.tr hQ
    refine RK.of (RN.blk (ops := [(20, .aload_n 0), (21, .iload_n 2)]) (pc' := 22) (lv' := [(0, .inr (.inr 334)), (1, .inl a1), (2, .inl a2), (3, .inl a3), (4, .inl a4), (5, .inl a5)]) (st' := [.inl a2, .inr (.inr 334)]) (h' := h1) (cs := []) (by decide +kernel) rfl trivial) ?_
    obtain ⟨h2, hG, hF⟩ := bv_of hF
    have hq := rcv_ok (as := [.inl a2]) (TO.gk (o_334 hL))
    obtain ⟨hN, hL, hQ⟩ := DX12_four (d := d) hL  hG
    refine RK.of (RN.cv (i := 92) (k := 160) (q2 := iX12_four) (as := [.inr (.inr 334), .inl a2]) (r := []) (v := none) (h1 := h2) (by decide +kernel) rfl rfl rfl rfl rfl hq hN) ?_
    have hK := hK.tr hQ
    refine RK.of (RN.blk (ops := [(25, .aload_n 0), (26, .iload_n 3)]) (pc' := 27) (lv' := [(0, .inr (.inr 334)), (1, .inl a1), (2, .inl a2), (3, .inl a3), (4, .inl a4), (5, .inl a5)]) (st' := [.inl a3, .inr (.inr 334)]) (h' := h2) (cs := []) (by decide +kernel) rfl trivial) ?_
    obtain ⟨h3, hG, hF⟩ := bv_of hF
    have hq := rcv_ok (as := [.inl a3]) (TO.gk (o_334 hL))
    obtain ⟨hN, hL, hQ⟩ := DX12_four (d := d) hL  hG
    refine RK.of (RN.cv (i := 92) (k := 160) (q2 := iX12_four) (as := [.inr (.inr 334), .inl a3]) (r := []) (v := none) (h1 := h3) (by decide +kernel) rfl rfl rfl rfl rfl hq hN) ?_
    have hK := hK.tr hQ
    refine RK.of (RN.blk (ops := [(30, .aload_n 0), (31, .iload 4)]) (pc' := 33) (lv' := [(0, .inr (.inr 334)), (1, .inl a1), (2, .inl a2), (3, .inl a3), (4, .inl a4), (5, .inl a5)]) (st' := [.inl a4, .inr (.inr 334)]) (h' := h3) (cs := []) (by decide +kernel) rfl trivial) ?_
    obtain ⟨h4, hG, hF⟩ := bv_of hF
    have hq := rcv_ok (as := [.inl a4]) (TO.gk (o_334 hL))
    obtain ⟨hN, hL, hQ⟩ := DX12_four (d := d) hL  hG
    refine RK.of (RN.cv (i := 92) (k := 160) (q2 := iX12_four) (as := [.inr (.inr 334), .inl a4]) (r := []) (v := none) (h1 := h4) (by decide +kernel) rfl rfl rfl rfl rfl hq hN) ?_
    have hK := hK.tr hQ
    refine RK.of (RN.blk (ops := [(36, .aload_n 0), (37, .iload 5)]) (pc' := 39) (lv' := [(0, .inr (.inr 334)), (1, .inl a1), (2, .inl a2), (3, .inl a3), (4, .inl a4), (5, .inl a5)]) (st' := [.inl a5, .inr (.inr 334)]) (h' := h4) (cs := []) (by decide +kernel) rfl trivial) ?_
    obtain ⟨h5, hG, hF⟩ := bv_of hF
    have hq := rcv_ok (as := [.inl a5]) (TO.gk (o_334 hL))
    obtain ⟨hN, hL, hQ⟩ := DX12_four (d := d) hL  hG
    refine RK.of (RN.cv (i := 92) (k := 160) (q2 := iX12_four) (as := [.inr (.inr 334), .inl a5]) (r := []) (v := none) (h1 := h5) (by decide +kernel) rfl rfl rfl rfl rfl hq hN) ?_
    have hK := hK.tr hQ
    refine RK.of (RN.blk (ops := [(42, .aload_n 0), (43, .getfield 89)]) (pc' := 46) (lv' := [(0, .inr (.inr 334)), (1, .inl a1), (2, .inl a2), (3, .inl a3), (4, .inl a4), (5, .inl a5)]) (st' := [.inl (m_rd h5 334 1)]) (h' := h5) (cs := [GK h5 334 12]) (by decide +kernel) rfl ⟨(o_334 hL).gk, trivial⟩) ?_
    exact RK.iR (by decide +kernel) rfl hL hK hF
noncomputable def GX12_end (a1 : Int) (h : MH) : Option (Int × MH) :=
  (if a1 < 0 then
   some ((-1), h)
  else
   (if (m_rd h 334 1) < a1 then
    some ((-1), h)
   else
    some (a1, (m_wr h 334 1 a1))))
theorem DX12_end {d : Nat} {a1 : Int} {h : MH} {r : Int × MH} (hL : LR h) (hF : GX12_end a1 h = some r) : RN xs L iX12_end (d) 0 (lvE 0 [.inr (.inr 334), .inl a1]) [] h (RIo r) ∧ LR r.2 ∧ KD h r.2 := by
  unfold GX12_end at hF
  have hK : KD h h := KD.rf
  show RK xs L iX12_end (d) 0 (lvE 0 [.inr (.inr 334), .inl a1]) [] h (RIo r) h r.2
  refine RK.of (RN.blk (ops := [(0, .iload_n 1)]) (pc' := 1) (lv' := [(0, .inr (.inr 334)), (1, .inl a1)]) (st' := [.inl a1]) (h' := h) (cs := []) (by decide +kernel) rfl trivial) ?_
  rcases it_of hF with ⟨hb, hF⟩ | ⟨hb, hF⟩
  · refine RK.of (RN.ift (cd := .lt) (off := 11) (tgt := 12) (by decide +kernel) (mif_lt hb)) ?_
    refine RK.of (RN.blk (ops := [(12, .iconst (-1))]) (pc' := 13) (lv' := [(0, .inr (.inr 334)), (1, .inl a1)]) (st' := [.inl (-1)]) (h' := h) (cs := []) (by decide +kernel) rfl trivial) ?_
    exact RK.iR (by decide +kernel) rfl hL hK hF
  · refine RK.of (RN.iff (cd := .lt) (off := 11) (tgt := 12) (by decide +kernel) (mif_ltn hb)) ?_
    refine RK.of (RN.blk (ops := [(4, .iload_n 1), (5, .aload_n 0), (6, .getfield 89)]) (pc' := 9) (lv' := [(0, .inr (.inr 334)), (1, .inl a1)]) (st' := [.inl (m_rd h 334 1), .inl a1]) (h' := h) (cs := [GK h 334 12]) (by decide +kernel) rfl ⟨(o_334 hL).gk, trivial⟩) ?_
    rcases it_of hF with ⟨hb, hF⟩ | ⟨hb, hF⟩
    · refine RK.of (RN.icf (cd := .le) (off := 5) (tgt := 14) (by decide +kernel) (mif_len hb)) ?_
      refine RK.of (RN.blk (ops := [(12, .iconst (-1))]) (pc' := 13) (lv' := [(0, .inr (.inr 334)), (1, .inl a1)]) (st' := [.inl (-1)]) (h' := h) (cs := []) (by decide +kernel) rfl trivial) ?_
      exact RK.iR (by decide +kernel) rfl hL hK hF
    · refine RK.of (RN.ict (cd := .le) (off := 5) (tgt := 14) (by decide +kernel) (mif_le hb)) ?_
      refine RK.of (RN.blk (ops := [(14, .aload_n 0), (15, .iload_n 1), (16, .putfield 89)]) (pc' := 19) (lv' := [(0, .inr (.inr 334)), (1, .inl a1)]) (st' := []) (h' := (m_wr h 334 1 a1)) (cs := [GK h 334 12]) (by decide +kernel) rfl ⟨(o_334 hL).gk, trivial⟩) ?_
      have hL : LR (m_wr h 334 1 a1) := LR.wf (k := 1) hL (o_334 hL) rfl
      have hK := hK.tr (KD.wr : KD h (m_wr h 334 1 a1))
      refine RK.of (RN.blk (ops := [(19, .iload_n 1)]) (pc' := 20) (lv' := [(0, .inr (.inr 334)), (1, .inl a1)]) (st' := [.inl a1]) (h' := (m_wr h 334 1 a1)) (cs := []) (by decide +kernel) rfl trivial) ?_
      exact RK.iR (by decide +kernel) rfl hL hK hF
noncomputable def GX12_fails (a1 : Int) (a2 : Int) (h : MH) : Option (Int × MH) :=
  (if (m_rd h 334 9) = 0 then
   some (0, (m_wr h 334 9 (m_w32 ((m_w32 (1 + (m_w32 (8 * a2)))) + a1))))
  else
   some (0, h))
theorem DX12_fails {d : Nat} {a1 : Int} {a2 : Int} {h : MH} {r : Int × MH} (hL : LR h) (hF : GX12_fails a1 a2 h = some r) : RN xs L iX12_fails (d) 0 (lvE 0 [.inr (.inr 334), .inl a1, .inl a2]) [] h (RIo r) ∧ LR r.2 ∧ KD h r.2 := by
  unfold GX12_fails at hF
  have hK : KD h h := KD.rf
  show RK xs L iX12_fails (d) 0 (lvE 0 [.inr (.inr 334), .inl a1, .inl a2]) [] h (RIo r) h r.2
  refine RK.of (RN.blk (ops := [(0, .aload_n 0), (1, .getfield 96)]) (pc' := 4) (lv' := [(0, .inr (.inr 334)), (1, .inl a1), (2, .inl a2)]) (st' := [.inl (m_rd h 334 9)]) (h' := h) (cs := [GK h 334 12]) (by decide +kernel) rfl ⟨(o_334 hL).gk, trivial⟩) ?_
  rcases it_of hF with ⟨hb, hF⟩ | ⟨hb, hF⟩
  · refine RK.of (RN.iff (cd := .ne) (off := 15) (tgt := 19) (by decide +kernel) (mif_nen hb)) ?_
    refine RK.of (RN.blk (ops := [(7, .aload_n 0), (8, .iconst 1), (9, .bipush 8), (11, .iload_n 2), (12, .imul), (13, .iadd), (14, .iload_n 1), (15, .iadd), (16, .putfield 96)]) (pc' := 19) (lv' := [(0, .inr (.inr 334)), (1, .inl a1), (2, .inl a2)]) (st' := []) (h' := (m_wr h 334 9 (m_w32 ((m_w32 (1 + (m_w32 (8 * a2)))) + a1)))) (cs := [GK h 334 12]) (by decide +kernel) rfl ⟨(o_334 hL).gk, trivial⟩) ?_
    have hL : LR (m_wr h 334 9 (m_w32 ((m_w32 (1 + (m_w32 (8 * a2)))) + a1))) := LR.wf (k := 9) hL (o_334 hL) rfl
    have hK := hK.tr (KD.wr : KD h (m_wr h 334 9 (m_w32 ((m_w32 (1 + (m_w32 (8 * a2)))) + a1))))
    refine RK.of (RN.blk (ops := [(19, .iconst 0)]) (pc' := 20) (lv' := [(0, .inr (.inr 334)), (1, .inl a1), (2, .inl a2)]) (st' := [.inl 0]) (h' := (m_wr h 334 9 (m_w32 ((m_w32 (1 + (m_w32 (8 * a2)))) + a1)))) (cs := []) (by decide +kernel) rfl trivial) ?_
    exact RK.zR (by decide +kernel) rfl (Or.inl rfl) hL hK hF
  · refine RK.of (RN.ift (cd := .ne) (off := 15) (tgt := 19) (by decide +kernel) (mif_ne hb)) ?_
    refine RK.of (RN.blk (ops := [(19, .iconst 0)]) (pc' := 20) (lv' := [(0, .inr (.inr 334)), (1, .inl a1), (2, .inl a2)]) (st' := [.inl 0]) (h' := h) (cs := []) (by decide +kernel) rfl trivial) ?_
    exact RK.zR (by decide +kernel) rfl (Or.inl rfl) hL hK hF
noncomputable def GX12_see_L0 (K0 : MH → Option (Int × MH)) : Nat → MH → Option (Int × MH)
  | 0, _ => none
  | f + 1, h =>
    (if (m_rd h 334 8) < (m_rd h 334 1) then
     gd [IB (m_rd h 334 8) 400] (
      (if (m_rd h 335 (m_rd h 334 8)) = 32 then
       GX12_see_L0 K0 f (m_wr h 334 8 (m_w32 ((m_rd h 334 8) + 1)))
      else
       K0 h))
    else
     K0 h)
theorem DX12_see_L0 {d : Nat} {K0 : MH → Option (Int × MH)} {r : Int × MH} {h0 hB : MH} (hB0 : KD h0 hB) (hK0 : ∀ (h : MH), LR h → KD hB h → K0 h = some r → RK xs L iX12_see (d) 38 [(0, .inr (.inr 334))] [] h (RIo r) h0 r.2) : ∀ (f : Nat) (h : MH), LR h → KD hB h → GX12_see_L0 K0 f  h = some r → RK xs L iX12_see (d) 0 [(0, .inr (.inr 334))] [] h (RIo r) h0 r.2 := by
  intro f
  induction f with
  | zero =>
    intro h hL hJ hF
    cases hF
  | succ f ih =>
    intro h hL hJ hF
    unfold GX12_see_L0 at hF
    have hK := hB0.tr hJ
    refine RK.of (RN.blk (ops := [(0, .aload_n 0), (1, .getfield 99), (4, .aload_n 0), (5, .getfield 89)]) (pc' := 8) (lv' := [(0, .inr (.inr 334))]) (st' := [.inl (m_rd h 334 1), .inl (m_rd h 334 8)]) (h' := h) (cs := [GK h 334 12, GK h 334 12]) (by decide +kernel) rfl ⟨(o_334 hL).gk, (o_334 hL).gk, trivial⟩) ?_
    rcases it_of hF with ⟨hb, hF⟩ | ⟨hb, hF⟩
    · refine RK.of (RN.icf (cd := .ge) (off := 30) (tgt := 38) (by decide +kernel) (mif_gen hb)) ?_
      refine RK.of (RN.blk (ops := [(11, .aload_n 0)]) (pc' := 12) (lv' := [(0, .inr (.inr 334))]) (st' := [.inr (.inr 334)]) (h' := h) (cs := []) (by decide +kernel) rfl trivial) ?_
      refine RK.of (RN.gr (i := 7) (ci := 12) (k := 0) (fn := true) (v := 335) (by decide +kernel) rfl (TO.gk (o_334 hL)) (hL.fa (v := 335) 0 3 400 (o_334 hL) rfl (by decide) rfl (by decide)).1) ?_
      obtain ⟨hc, hF⟩ := gd_of hF
      refine RK.of (RN.blk (ops := [(15, .aload_n 0), (16, .getfield 99), (19, .baload), (20, .bipush 32)]) (pc' := 22) (lv' := [(0, .inr (.inr 334))]) (st' := [.inl 32, .inl (m_rd h 335 (m_rd h 334 8))]) (h' := h) (cs := [GK h 334 12, GB h 335 (m_rd h 334 8)]) (by decide +kernel) rfl ⟨(o_334 hL).gk, (a_335 hL).gb (by decide) hc.1.1 hc.1.2, trivial⟩) ?_
      rcases it_of hF with ⟨hb, hF⟩ | ⟨hb, hF⟩
      · refine RK.of (RN.icf (cd := .ne) (off := 16) (tgt := 38) (by decide +kernel) (mif_nen hb)) ?_
        refine RK.of (RN.blk (ops := [(25, .aload_n 0), (26, .dup), (27, .getfield 99), (30, .iconst 1), (31, .iadd), (32, .putfield 99)]) (pc' := 35) (lv' := [(0, .inr (.inr 334))]) (st' := []) (h' := (m_wr h 334 8 (m_w32 ((m_rd h 334 8) + 1)))) (cs := [GK h 334 12, GK h 334 12]) (by decide +kernel) rfl ⟨(o_334 hL).gk, (o_334 hL).gk, trivial⟩) ?_
        have hL : LR (m_wr h 334 8 (m_w32 ((m_rd h 334 8) + 1))) := LR.wf (k := 8) hL (o_334 hL) rfl
        have hK := hK.tr (KD.wr : KD h (m_wr h 334 8 (m_w32 ((m_rd h 334 8) + 1))))
        have hJ := hJ.tr (KD.wr : KD h (m_wr h 334 8 (m_w32 ((m_rd h 334 8) + 1))))
        refine RK.of (RN.goto (off := -35) (tgt := 0) (by decide +kernel)) ?_
        exact RK.sub (ih _ hL hJ hF) (sub_cons rfl sub_nil)
      · refine RK.of (RN.ict (cd := .ne) (off := 16) (tgt := 38) (by decide +kernel) (mif_ne hb)) ?_
        exact RK.sub (hK0 _ hL hJ hF) (sub_cons rfl sub_nil)
    · refine RK.of (RN.ict (cd := .ge) (off := 30) (tgt := 38) (by decide +kernel) (mif_ge hb)) ?_
      exact RK.sub (hK0 _ hL hJ hF) (sub_cons rfl sub_nil)
noncomputable def GX12_see (h : MH) : Option (Int × MH) :=
  GX12_see_L0 (fun h1 =>
   (if (m_rd h1 334 8) < (m_rd h1 334 1) then
    gd [IB (m_rd h1 334 8) 400] (
     some ((m_band (m_rd h1 335 (m_rd h1 334 8)) 255), h1))
   else
    some ((-1), h1))) FU h
theorem DX12_see {d : Nat} {h : MH} {r : Int × MH} (hL : LR h) (hF : GX12_see h = some r) : RN xs L iX12_see (d) 0 (lvE 0 [.inr (.inr 334)]) [] h (RIo r) ∧ LR r.2 ∧ KD h r.2 := by
  unfold GX12_see at hF
  have hK : KD h h := KD.rf
  show RK xs L iX12_see (d) 0 (lvE 0 [.inr (.inr 334)]) [] h (RIo r) h r.2
  refine RK.sub (DX12_see_L0 hK ?_ _ _ hL KD.rf hF) (sub_cons rfl sub_nil)
  · intro h1 hL hq hF
    have hK := hK.tr hq
    refine RK.of (RN.blk (ops := [(38, .aload_n 0), (39, .getfield 99), (42, .aload_n 0), (43, .getfield 89)]) (pc' := 46) (lv' := [(0, .inr (.inr 334))]) (st' := [.inl (m_rd h1 334 1), .inl (m_rd h1 334 8)]) (h' := h1) (cs := [GK h1 334 12, GK h1 334 12]) (by decide +kernel) rfl ⟨(o_334 hL).gk, (o_334 hL).gk, trivial⟩) ?_
    rcases it_of hF with ⟨hb, hF⟩ | ⟨hb, hF⟩
    · refine RK.of (RN.icf (cd := .ge) (off := 19) (tgt := 65) (by decide +kernel) (mif_gen hb)) ?_
      refine RK.of (RN.blk (ops := [(49, .aload_n 0)]) (pc' := 50) (lv' := [(0, .inr (.inr 334))]) (st' := [.inr (.inr 334)]) (h' := h1) (cs := []) (by decide +kernel) rfl trivial) ?_
      refine RK.of (RN.gr (i := 7) (ci := 12) (k := 0) (fn := true) (v := 335) (by decide +kernel) rfl (TO.gk (o_334 hL)) (hL.fa (v := 335) 0 3 400 (o_334 hL) rfl (by decide) rfl (by decide)).1) ?_
      obtain ⟨hc, hF⟩ := gd_of hF
      refine RK.of (RN.blk (ops := [(53, .aload_n 0), (54, .getfield 99), (57, .baload), (58, .sipush 255), (61, .iand)]) (pc' := 62) (lv' := [(0, .inr (.inr 334))]) (st' := [.inl (m_band (m_rd h1 335 (m_rd h1 334 8)) 255)]) (h' := h1) (cs := [GK h1 334 12, GB h1 335 (m_rd h1 334 8)]) (by decide +kernel) rfl ⟨(o_334 hL).gk, (a_335 hL).gb (by decide) hc.1.1 hc.1.2, trivial⟩) ?_
      refine RK.of (RN.goto (off := 4) (tgt := 66) (by decide +kernel)) ?_
      exact RK.iR (by decide +kernel) rfl hL hK hF
    · refine RK.of (RN.ict (cd := .ge) (off := 19) (tgt := 65) (by decide +kernel) (mif_ge hb)) ?_
      refine RK.of (RN.blk (ops := [(65, .iconst (-1))]) (pc' := 66) (lv' := [(0, .inr (.inr 334))]) (st' := [.inl (-1)]) (h' := h1) (cs := []) (by decide +kernel) rfl trivial) ?_
      exact RK.iR (by decide +kernel) rfl hL hK hF
noncomputable def GX12_isDigit (a1 : Int) (h : MH) : Option (Int × MH) :=
  (if a1 < (m_rd h 334 1) then
   gd [IB a1 400] (
    (if (m_rd h 335 a1) < 48 then
     some (0, h)
    else
     gd [IB a1 400] (
      (if 57 < (m_rd h 335 a1) then
       some (0, h)
      else
       some (1, h)))))
  else
   some (0, h))
theorem DX12_isDigit {d : Nat} {a1 : Int} {h : MH} {r : Int × MH} (hL : LR h) (hF : GX12_isDigit a1 h = some r) : RN xs L iX12_isDigit (d) 0 (lvE 0 [.inr (.inr 334), .inl a1]) [] h (RIo r) ∧ LR r.2 ∧ KD h r.2 := by
  unfold GX12_isDigit at hF
  have hK : KD h h := KD.rf
  show RK xs L iX12_isDigit (d) 0 (lvE 0 [.inr (.inr 334), .inl a1]) [] h (RIo r) h r.2
  refine RK.of (RN.blk (ops := [(0, .iload_n 1), (1, .aload_n 0), (2, .getfield 89)]) (pc' := 5) (lv' := [(0, .inr (.inr 334)), (1, .inl a1)]) (st' := [.inl (m_rd h 334 1), .inl a1]) (h' := h) (cs := [GK h 334 12]) (by decide +kernel) rfl ⟨(o_334 hL).gk, trivial⟩) ?_
  rcases it_of hF with ⟨hb, hF⟩ | ⟨hb, hF⟩
  · refine RK.of (RN.icf (cd := .ge) (off := 29) (tgt := 34) (by decide +kernel) (mif_gen hb)) ?_
    refine RK.of (RN.blk (ops := [(8, .aload_n 0)]) (pc' := 9) (lv' := [(0, .inr (.inr 334)), (1, .inl a1)]) (st' := [.inr (.inr 334)]) (h' := h) (cs := []) (by decide +kernel) rfl trivial) ?_
    refine RK.of (RN.gr (i := 7) (ci := 12) (k := 0) (fn := true) (v := 335) (by decide +kernel) rfl (TO.gk (o_334 hL)) (hL.fa (v := 335) 0 3 400 (o_334 hL) rfl (by decide) rfl (by decide)).1) ?_
    obtain ⟨hc, hF⟩ := gd_of hF
    refine RK.of (RN.blk (ops := [(12, .iload_n 1), (13, .baload), (14, .bipush 48)]) (pc' := 16) (lv' := [(0, .inr (.inr 334)), (1, .inl a1)]) (st' := [.inl 48, .inl (m_rd h 335 a1)]) (h' := h) (cs := [GB h 335 a1]) (by decide +kernel) rfl ⟨(a_335 hL).gb (by decide) hc.1.1 hc.1.2, trivial⟩) ?_
    rcases it_of hF with ⟨hb, hF⟩ | ⟨hb, hF⟩
    · refine RK.of (RN.ict (cd := .lt) (off := 18) (tgt := 34) (by decide +kernel) (mif_lt hb)) ?_
      refine RK.of (RN.blk (ops := [(34, .iconst 0)]) (pc' := 35) (lv' := [(0, .inr (.inr 334)), (1, .inl a1)]) (st' := [.inl 0]) (h' := h) (cs := []) (by decide +kernel) rfl trivial) ?_
      exact RK.zR (by decide +kernel) rfl (Or.inl rfl) hL hK hF
    · refine RK.of (RN.icf (cd := .lt) (off := 18) (tgt := 34) (by decide +kernel) (mif_ltn hb)) ?_
      refine RK.of (RN.blk (ops := [(19, .aload_n 0)]) (pc' := 20) (lv' := [(0, .inr (.inr 334)), (1, .inl a1)]) (st' := [.inr (.inr 334)]) (h' := h) (cs := []) (by decide +kernel) rfl trivial) ?_
      refine RK.of (RN.gr (i := 7) (ci := 12) (k := 0) (fn := true) (v := 335) (by decide +kernel) rfl (TO.gk (o_334 hL)) (hL.fa (v := 335) 0 3 400 (o_334 hL) rfl (by decide) rfl (by decide)).1) ?_
      obtain ⟨hc, hF⟩ := gd_of hF
      refine RK.of (RN.blk (ops := [(23, .iload_n 1), (24, .baload), (25, .bipush 57)]) (pc' := 27) (lv' := [(0, .inr (.inr 334)), (1, .inl a1)]) (st' := [.inl 57, .inl (m_rd h 335 a1)]) (h' := h) (cs := [GB h 335 a1]) (by decide +kernel) rfl ⟨(a_335 hL).gb (by decide) hc.1.1 hc.1.2, trivial⟩) ?_
      rcases it_of hF with ⟨hb, hF⟩ | ⟨hb, hF⟩
      · refine RK.of (RN.ict (cd := .gt) (off := 7) (tgt := 34) (by decide +kernel) (mif_gt hb)) ?_
        refine RK.of (RN.blk (ops := [(34, .iconst 0)]) (pc' := 35) (lv' := [(0, .inr (.inr 334)), (1, .inl a1)]) (st' := [.inl 0]) (h' := h) (cs := []) (by decide +kernel) rfl trivial) ?_
        exact RK.zR (by decide +kernel) rfl (Or.inl rfl) hL hK hF
      · refine RK.of (RN.icf (cd := .gt) (off := 7) (tgt := 34) (by decide +kernel) (mif_gtn hb)) ?_
        refine RK.of (RN.blk (ops := [(30, .iconst 1)]) (pc' := 31) (lv' := [(0, .inr (.inr 334)), (1, .inl a1)]) (st' := [.inl 1]) (h' := h) (cs := []) (by decide +kernel) rfl trivial) ?_
        refine RK.of (RN.goto (off := 4) (tgt := 35) (by decide +kernel)) ?_
        exact RK.zR (by decide +kernel) rfl (Or.inr rfl) hL hK hF
  · refine RK.of (RN.ict (cd := .ge) (off := 29) (tgt := 34) (by decide +kernel) (mif_ge hb)) ?_
    refine RK.of (RN.blk (ops := [(34, .iconst 0)]) (pc' := 35) (lv' := [(0, .inr (.inr 334)), (1, .inl a1)]) (st' := [.inl 0]) (h' := h) (cs := []) (by decide +kernel) rfl trivial) ?_
    exact RK.zR (by decide +kernel) rfl (Or.inl rfl) hL hK hF
noncomputable def GX12_isLetter (a1 : Int) (h : MH) : Option (Int × MH) :=
  (if a1 < (m_rd h 334 1) then
   gd [IB a1 400] (
    (if (m_rd h 335 a1) < 97 then
     some (0, h)
    else
     gd [IB a1 400] (
      (if 122 < (m_rd h 335 a1) then
       some (0, h)
      else
       some (1, h)))))
  else
   some (0, h))
theorem DX12_isLetter {d : Nat} {a1 : Int} {h : MH} {r : Int × MH} (hL : LR h) (hF : GX12_isLetter a1 h = some r) : RN xs L iX12_isLetter (d) 0 (lvE 0 [.inr (.inr 334), .inl a1]) [] h (RIo r) ∧ LR r.2 ∧ KD h r.2 := by
  unfold GX12_isLetter at hF
  have hK : KD h h := KD.rf
  show RK xs L iX12_isLetter (d) 0 (lvE 0 [.inr (.inr 334), .inl a1]) [] h (RIo r) h r.2
  refine RK.of (RN.blk (ops := [(0, .iload_n 1), (1, .aload_n 0), (2, .getfield 89)]) (pc' := 5) (lv' := [(0, .inr (.inr 334)), (1, .inl a1)]) (st' := [.inl (m_rd h 334 1), .inl a1]) (h' := h) (cs := [GK h 334 12]) (by decide +kernel) rfl ⟨(o_334 hL).gk, trivial⟩) ?_
  rcases it_of hF with ⟨hb, hF⟩ | ⟨hb, hF⟩
  · refine RK.of (RN.icf (cd := .ge) (off := 29) (tgt := 34) (by decide +kernel) (mif_gen hb)) ?_
    refine RK.of (RN.blk (ops := [(8, .aload_n 0)]) (pc' := 9) (lv' := [(0, .inr (.inr 334)), (1, .inl a1)]) (st' := [.inr (.inr 334)]) (h' := h) (cs := []) (by decide +kernel) rfl trivial) ?_
    refine RK.of (RN.gr (i := 7) (ci := 12) (k := 0) (fn := true) (v := 335) (by decide +kernel) rfl (TO.gk (o_334 hL)) (hL.fa (v := 335) 0 3 400 (o_334 hL) rfl (by decide) rfl (by decide)).1) ?_
    obtain ⟨hc, hF⟩ := gd_of hF
    refine RK.of (RN.blk (ops := [(12, .iload_n 1), (13, .baload), (14, .bipush 97)]) (pc' := 16) (lv' := [(0, .inr (.inr 334)), (1, .inl a1)]) (st' := [.inl 97, .inl (m_rd h 335 a1)]) (h' := h) (cs := [GB h 335 a1]) (by decide +kernel) rfl ⟨(a_335 hL).gb (by decide) hc.1.1 hc.1.2, trivial⟩) ?_
    rcases it_of hF with ⟨hb, hF⟩ | ⟨hb, hF⟩
    · refine RK.of (RN.ict (cd := .lt) (off := 18) (tgt := 34) (by decide +kernel) (mif_lt hb)) ?_
      refine RK.of (RN.blk (ops := [(34, .iconst 0)]) (pc' := 35) (lv' := [(0, .inr (.inr 334)), (1, .inl a1)]) (st' := [.inl 0]) (h' := h) (cs := []) (by decide +kernel) rfl trivial) ?_
      exact RK.zR (by decide +kernel) rfl (Or.inl rfl) hL hK hF
    · refine RK.of (RN.icf (cd := .lt) (off := 18) (tgt := 34) (by decide +kernel) (mif_ltn hb)) ?_
      refine RK.of (RN.blk (ops := [(19, .aload_n 0)]) (pc' := 20) (lv' := [(0, .inr (.inr 334)), (1, .inl a1)]) (st' := [.inr (.inr 334)]) (h' := h) (cs := []) (by decide +kernel) rfl trivial) ?_
      refine RK.of (RN.gr (i := 7) (ci := 12) (k := 0) (fn := true) (v := 335) (by decide +kernel) rfl (TO.gk (o_334 hL)) (hL.fa (v := 335) 0 3 400 (o_334 hL) rfl (by decide) rfl (by decide)).1) ?_
      obtain ⟨hc, hF⟩ := gd_of hF
      refine RK.of (RN.blk (ops := [(23, .iload_n 1), (24, .baload), (25, .bipush 122)]) (pc' := 27) (lv' := [(0, .inr (.inr 334)), (1, .inl a1)]) (st' := [.inl 122, .inl (m_rd h 335 a1)]) (h' := h) (cs := [GB h 335 a1]) (by decide +kernel) rfl ⟨(a_335 hL).gb (by decide) hc.1.1 hc.1.2, trivial⟩) ?_
      rcases it_of hF with ⟨hb, hF⟩ | ⟨hb, hF⟩
      · refine RK.of (RN.ict (cd := .gt) (off := 7) (tgt := 34) (by decide +kernel) (mif_gt hb)) ?_
        refine RK.of (RN.blk (ops := [(34, .iconst 0)]) (pc' := 35) (lv' := [(0, .inr (.inr 334)), (1, .inl a1)]) (st' := [.inl 0]) (h' := h) (cs := []) (by decide +kernel) rfl trivial) ?_
        exact RK.zR (by decide +kernel) rfl (Or.inl rfl) hL hK hF
      · refine RK.of (RN.icf (cd := .gt) (off := 7) (tgt := 34) (by decide +kernel) (mif_gtn hb)) ?_
        refine RK.of (RN.blk (ops := [(30, .iconst 1)]) (pc' := 31) (lv' := [(0, .inr (.inr 334)), (1, .inl a1)]) (st' := [.inl 1]) (h' := h) (cs := []) (by decide +kernel) rfl trivial) ?_
        refine RK.of (RN.goto (off := 4) (tgt := 35) (by decide +kernel)) ?_
        exact RK.zR (by decide +kernel) rfl (Or.inr rfl) hL hK hF
  · refine RK.of (RN.ict (cd := .ge) (off := 29) (tgt := 34) (by decide +kernel) (mif_ge hb)) ?_
    refine RK.of (RN.blk (ops := [(34, .iconst 0)]) (pc' := 35) (lv' := [(0, .inr (.inr 334)), (1, .inl a1)]) (st' := [.inl 0]) (h' := h) (cs := []) (by decide +kernel) rfl trivial) ?_
    exact RK.zR (by decide +kernel) rfl (Or.inl rfl) hL hK hF
noncomputable def GX12_isWord_L10 (u1 : Int) (K0 : Int → Int → MH → Option (Int × MH)) : Nat → Int → Int → MH → Option (Int × MH)
  | 0, _, _, _ => none
  | f + 1, v3, v5, h =>
    (bd (GX12_isLetter (m_w32 ((m_rd h 334 8) + v5)) h) (fun x2 h1 =>
     (if x2 = 0 then
      K0 v3 v5 h1
     else
      (if v5 < 8 then
       gd [IB (m_w32 ((m_rd h1 334 8) + v5)) 400] (
        GX12_isWord_L10 u1 K0 f (m_lor (m_lshl v3 8) (m_rd h1 335 (m_w32 ((m_rd h1 334 8) + v5)))) (m_w32 (v5 + 1)) h1)
      else
       GX12_isWord_L10 u1 K0 f v3 (m_w32 (v5 + 1)) h1))))
theorem DX12_isWord_L10 {d : Nat} {u1 : Int} {K0 : Int → Int → MH → Option (Int × MH)} {r : Int × MH} {h0 hB : MH} (hB0 : KD h0 hB) (hK0 : ∀ (w3 : Int) (w5 : Int) (h : MH), LR h → KD hB h → K0 w3 w5 h = some r → RK xs L iX12_isWord (d + 1) 56 [(1, .inr (.inl u1)), (3, .inr (.inl w3)), (5, .inl w5)] [] h (RIo r) h0 r.2) : ∀ (f : Nat) (v3 : Int) (v5 : Int) (h : MH), LR h → KD hB h → GX12_isWord_L10 u1 K0 f v3 v5 h = some r → RK xs L iX12_isWord (d + 1) 10 [(0, .inr (.inr 334)), (1, .inr (.inl u1)), (3, .inr (.inl v3)), (5, .inl v5)] [] h (RIo r) h0 r.2 := by
  intro f
  induction f with
  | zero =>
    intro v3 v5 h hL hJ hF
    cases hF
  | succ f ih =>
    intro v3 v5 h hL hJ hF
    unfold GX12_isWord_L10 at hF
    have hK := hB0.tr hJ
    refine RK.of (RN.blk (ops := [(10, .aload_n 0), (11, .aload_n 0), (12, .getfield 99), (15, .iload 5), (17, .iadd)]) (pc' := 18) (lv' := [(0, .inr (.inr 334)), (1, .inr (.inl u1)), (3, .inr (.inl v3)), (5, .inl v5)]) (st' := [.inl (m_w32 ((m_rd h 334 8) + v5)), .inr (.inr 334)]) (h' := h) (cs := [GK h 334 12]) (by decide +kernel) rfl ⟨(o_334 hL).gk, trivial⟩) ?_
    obtain ⟨x2, h1, hG, hF⟩ := bd_of hF
    have hq := rcv_ok (as := [.inl (m_w32 ((m_rd h 334 8) + v5))]) (TO.gk (o_334 hL))
    obtain ⟨hN, hL, hQ⟩ := DX12_isLetter (d := d) hL  hG
    refine RK.of (RN.cv (i := 106) (k := 166) (q2 := iX12_isLetter) (as := [.inr (.inr 334), .inl (m_w32 ((m_rd h 334 8) + v5))]) (r := []) (v := some (.inl x2)) (h1 := h1) (by decide +kernel) rfl rfl rfl rfl rfl hq hN) ?_
    have hK := hK.tr hQ
    have hJ := hJ.tr hQ
    rcases it_of hF with ⟨hb, hF⟩ | ⟨hb, hF⟩
    · refine RK.of (RN.ift (cd := .eq) (off := 35) (tgt := 56) (by decide +kernel) (mif_eq hb)) ?_
      exact RK.sub (hK0 _ _ _ hL hJ hF) (sub_cons rfl (sub_cons rfl (sub_cons rfl sub_nil)))
    · refine RK.of (RN.iff (cd := .eq) (off := 35) (tgt := 56) (by decide +kernel) (mif_eqn hb)) ?_
      refine RK.of (RN.blk (ops := [(24, .iload 5), (26, .bipush 8)]) (pc' := 28) (lv' := [(0, .inr (.inr 334)), (1, .inr (.inl u1)), (3, .inr (.inl v3)), (5, .inl v5)]) (st' := [.inl 8, .inl v5]) (h' := h1) (cs := []) (by decide +kernel) rfl trivial) ?_
      rcases it_of hF with ⟨hb, hF⟩ | ⟨hb, hF⟩
      · refine RK.of (RN.icf (cd := .ge) (off := 22) (tgt := 50) (by decide +kernel) (mif_gen hb)) ?_
        refine RK.of (RN.blk (ops := [(31, .lload_n 3), (32, .bipush 8), (34, .lshl), (35, .aload_n 0)]) (pc' := 36) (lv' := [(0, .inr (.inr 334)), (1, .inr (.inl u1)), (3, .inr (.inl v3)), (5, .inl v5)]) (st' := [.inr (.inr 334), .inr (.inl (m_lshl v3 8))]) (h' := h1) (cs := []) (by decide +kernel) rfl trivial) ?_
        refine RK.of (RN.gr (i := 7) (ci := 12) (k := 0) (fn := true) (v := 335) (by decide +kernel) rfl (TO.gk (o_334 hL)) (hL.fa (v := 335) 0 3 400 (o_334 hL) rfl (by decide) rfl (by decide)).1) ?_
        obtain ⟨hc, hF⟩ := gd_of hF
        refine RK.of (RN.blk (ops := [(39, .aload_n 0), (40, .getfield 99), (43, .iload 5), (45, .iadd), (46, .baload), (47, .i2l), (48, .lor), (49, .lstore_n 3)]) (pc' := 50) (lv' := [(3, .inr (.inl (m_lor (m_lshl v3 8) (m_rd h1 335 (m_w32 ((m_rd h1 334 8) + v5)))))), (0, .inr (.inr 334)), (1, .inr (.inl u1)), (5, .inl v5)]) (st' := []) (h' := h1) (cs := [GK h1 334 12, GB h1 335 (m_w32 ((m_rd h1 334 8) + v5))]) (by decide +kernel) rfl ⟨(o_334 hL).gk, (a_335 hL).gb (by decide) hc.1.1 hc.1.2, trivial⟩) ?_
        refine RK.of (RN.blk (ops := [(50, .iinc 5 1)]) (pc' := 53) (lv' := [(5, .inl (m_w32 (v5 + 1))), (3, .inr (.inl (m_lor (m_lshl v3 8) (m_rd h1 335 (m_w32 ((m_rd h1 334 8) + v5)))))), (0, .inr (.inr 334)), (1, .inr (.inl u1))]) (st' := []) (h' := h1) (cs := []) (by decide +kernel) rfl trivial) ?_
        refine RK.of (RN.goto (off := -43) (tgt := 10) (by decide +kernel)) ?_
        exact RK.sub (ih _ _ _ hL hJ hF) (sub_cons rfl (sub_cons rfl (sub_cons rfl (sub_cons rfl sub_nil))))
      · refine RK.of (RN.ict (cd := .ge) (off := 22) (tgt := 50) (by decide +kernel) (mif_ge hb)) ?_
        refine RK.of (RN.blk (ops := [(50, .iinc 5 1)]) (pc' := 53) (lv' := [(5, .inl (m_w32 (v5 + 1))), (0, .inr (.inr 334)), (1, .inr (.inl u1)), (3, .inr (.inl v3))]) (st' := []) (h' := h1) (cs := []) (by decide +kernel) rfl trivial) ?_
        refine RK.of (RN.goto (off := -43) (tgt := 10) (by decide +kernel)) ?_
        exact RK.sub (ih _ _ _ hL hJ hF) (sub_cons rfl (sub_cons rfl (sub_cons rfl (sub_cons rfl sub_nil))))
noncomputable def GX12_isWord (a1 : Int) (h : MH) : Option (Int × MH) :=
  (bd (GX12_see h) (fun x2 h1 =>
   GX12_isWord_L10 a1 (fun w3 w4 h5 =>
    (if 0 < w4 then
     (if w4 < 8 then
      (if (m_lcmp w3 a1) = 0 then
       some (1, h5)
      else
       some (0, h5))
     else
      some (0, h5))
    else
     some (0, h5))) FU 0 0 h1))
theorem DX12_isWord {d : Nat} {a1 : Int} {h : MH} {r : Int × MH} (hL : LR h) (hF : GX12_isWord a1 h = some r) : RN xs L iX12_isWord (d + 1) 0 (lvE 0 [.inr (.inr 334), .inr (.inl a1)]) [] h (RIo r) ∧ LR r.2 ∧ KD h r.2 := by
  unfold GX12_isWord at hF
  have hK : KD h h := KD.rf
  show RK xs L iX12_isWord (d + 1) 0 (lvE 0 [.inr (.inr 334), .inr (.inl a1)]) [] h (RIo r) h r.2
  refine RK.of (RN.blk (ops := [(0, .aload_n 0)]) (pc' := 1) (lv' := [(0, .inr (.inr 334)), (1, .inr (.inl a1))]) (st' := [.inr (.inr 334)]) (h' := h) (cs := []) (by decide +kernel) rfl trivial) ?_
  obtain ⟨x2, h1, hG, hF⟩ := bd_of hF
  have hq := rcv_ok (as := []) (TO.gk (o_334 hL))
  obtain ⟨hN, hL, hQ⟩ := DX12_see (d := d) hL  hG
  refine RK.of (RN.cv (i := 102) (k := 164) (q2 := iX12_see) (as := [.inr (.inr 334)]) (r := []) (v := some (.inl x2)) (h1 := h1) (by decide +kernel) rfl rfl rfl rfl rfl hq hN) ?_
  have hK := hK.tr hQ
  refine RK.of (RN.blk (ops := [(4, .pop), (5, .lconst 0), (6, .lstore_n 3), (7, .iconst 0), (8, .istore 5)]) (pc' := 10) (lv' := [(5, .inl 0), (3, .inr (.inl 0)), (0, .inr (.inr 334)), (1, .inr (.inl a1))]) (st' := []) (h' := h1) (cs := []) (by decide +kernel) rfl trivial) ?_
  refine RK.sub (DX12_isWord_L10 hK ?_ _ _ _ _ hL KD.rf hF) (sub_cons rfl (sub_cons rfl (sub_cons rfl (sub_cons rfl sub_nil))))
  · intro w3 w4 h5 hL hq hF
    have hK := hK.tr hq
    refine RK.of (RN.blk (ops := [(56, .iload 5)]) (pc' := 58) (lv' := [(1, .inr (.inl a1)), (3, .inr (.inl w3)), (5, .inl w4)]) (st' := [.inl w4]) (h' := h5) (cs := []) (by decide +kernel) rfl trivial) ?_
    rcases it_of hF with ⟨hb, hF⟩ | ⟨hb, hF⟩
    · refine RK.of (RN.iff (cd := .le) (off := 20) (tgt := 78) (by decide +kernel) (mif_len hb)) ?_
      refine RK.of (RN.blk (ops := [(61, .iload 5), (63, .bipush 8)]) (pc' := 65) (lv' := [(1, .inr (.inl a1)), (3, .inr (.inl w3)), (5, .inl w4)]) (st' := [.inl 8, .inl w4]) (h' := h5) (cs := []) (by decide +kernel) rfl trivial) ?_
      rcases it_of hF with ⟨hb, hF⟩ | ⟨hb, hF⟩
      · refine RK.of (RN.icf (cd := .ge) (off := 13) (tgt := 78) (by decide +kernel) (mif_gen hb)) ?_
        refine RK.of (RN.blk (ops := [(68, .lload_n 3), (69, .lload_n 1), (70, .lcmp)]) (pc' := 71) (lv' := [(1, .inr (.inl a1)), (3, .inr (.inl w3)), (5, .inl w4)]) (st' := [.inl (m_lcmp w3 a1)]) (h' := h5) (cs := []) (by decide +kernel) rfl trivial) ?_
        rcases it_of hF with ⟨hb, hF⟩ | ⟨hb, hF⟩
        · refine RK.of (RN.iff (cd := .ne) (off := 7) (tgt := 78) (by decide +kernel) (mif_nen hb)) ?_
          refine RK.of (RN.blk (ops := [(74, .iconst 1)]) (pc' := 75) (lv' := [(1, .inr (.inl a1)), (3, .inr (.inl w3)), (5, .inl w4)]) (st' := [.inl 1]) (h' := h5) (cs := []) (by decide +kernel) rfl trivial) ?_
          refine RK.of (RN.goto (off := 4) (tgt := 79) (by decide +kernel)) ?_
          exact RK.zR (by decide +kernel) rfl (Or.inr rfl) hL hK hF
        · refine RK.of (RN.ift (cd := .ne) (off := 7) (tgt := 78) (by decide +kernel) (mif_ne hb)) ?_
          refine RK.of (RN.blk (ops := [(78, .iconst 0)]) (pc' := 79) (lv' := [(1, .inr (.inl a1)), (3, .inr (.inl w3)), (5, .inl w4)]) (st' := [.inl 0]) (h' := h5) (cs := []) (by decide +kernel) rfl trivial) ?_
          exact RK.zR (by decide +kernel) rfl (Or.inl rfl) hL hK hF
      · refine RK.of (RN.ict (cd := .ge) (off := 13) (tgt := 78) (by decide +kernel) (mif_ge hb)) ?_
        refine RK.of (RN.blk (ops := [(78, .iconst 0)]) (pc' := 79) (lv' := [(1, .inr (.inl a1)), (3, .inr (.inl w3)), (5, .inl w4)]) (st' := [.inl 0]) (h' := h5) (cs := []) (by decide +kernel) rfl trivial) ?_
        exact RK.zR (by decide +kernel) rfl (Or.inl rfl) hL hK hF
    · refine RK.of (RN.ift (cd := .le) (off := 20) (tgt := 78) (by decide +kernel) (mif_le hb)) ?_
      refine RK.of (RN.blk (ops := [(78, .iconst 0)]) (pc' := 79) (lv' := [(1, .inr (.inl a1)), (3, .inr (.inl w3)), (5, .inl w4)]) (st' := [.inl 0]) (h' := h5) (cs := []) (by decide +kernel) rfl trivial) ?_
      exact RK.zR (by decide +kernel) rfl (Or.inl rfl) hL hK hF
noncomputable def GX12_passWord_L0 (K0 : MH → Option (MH)) : Nat → MH → Option (MH)
  | 0, _ => none
  | f + 1, h =>
    (bd (GX12_isLetter (m_rd h 334 8) h) (fun x2 h1 =>
     (if x2 = 0 then
      K0 h1
     else
      GX12_passWord_L0 K0 f (m_wr h1 334 8 (m_w32 ((m_rd h1 334 8) + 1))))))
theorem DX12_passWord_L0 {d : Nat} {K0 : MH → Option (MH)} {r : MH} {h0 hB : MH} (hB0 : KD h0 hB) (hK0 : ∀ (h : MH), LR h → KD hB h → K0 h = some r → RK xs L iX12_passWord (d + 1) 24 [] [] h (RVo r) h0 r) : ∀ (f : Nat) (h : MH), LR h → KD hB h → GX12_passWord_L0 K0 f  h = some r → RK xs L iX12_passWord (d + 1) 0 [(0, .inr (.inr 334))] [] h (RVo r) h0 r := by
  intro f
  induction f with
  | zero =>
    intro h hL hJ hF
    cases hF
  | succ f ih =>
    intro h hL hJ hF
    unfold GX12_passWord_L0 at hF
    have hK := hB0.tr hJ
    refine RK.of (RN.blk (ops := [(0, .aload_n 0), (1, .aload_n 0), (2, .getfield 99)]) (pc' := 5) (lv' := [(0, .inr (.inr 334))]) (st' := [.inl (m_rd h 334 8), .inr (.inr 334)]) (h' := h) (cs := [GK h 334 12]) (by decide +kernel) rfl ⟨(o_334 hL).gk, trivial⟩) ?_
    obtain ⟨x2, h1, hG, hF⟩ := bd_of hF
    have hq := rcv_ok (as := [.inl (m_rd h 334 8)]) (TO.gk (o_334 hL))
    obtain ⟨hN, hL, hQ⟩ := DX12_isLetter (d := d) hL  hG
    refine RK.of (RN.cv (i := 106) (k := 166) (q2 := iX12_isLetter) (as := [.inr (.inr 334), .inl (m_rd h 334 8)]) (r := []) (v := some (.inl x2)) (h1 := h1) (by decide +kernel) rfl rfl rfl rfl rfl hq hN) ?_
    have hK := hK.tr hQ
    have hJ := hJ.tr hQ
    rcases it_of hF with ⟨hb, hF⟩ | ⟨hb, hF⟩
    · refine RK.of (RN.ift (cd := .eq) (off := 16) (tgt := 24) (by decide +kernel) (mif_eq hb)) ?_
      exact RK.sub (hK0 _ hL hJ hF) sub_nil
    · refine RK.of (RN.iff (cd := .eq) (off := 16) (tgt := 24) (by decide +kernel) (mif_eqn hb)) ?_
      refine RK.of (RN.blk (ops := [(11, .aload_n 0), (12, .dup), (13, .getfield 99), (16, .iconst 1), (17, .iadd), (18, .putfield 99)]) (pc' := 21) (lv' := [(0, .inr (.inr 334))]) (st' := []) (h' := (m_wr h1 334 8 (m_w32 ((m_rd h1 334 8) + 1)))) (cs := [GK h1 334 12, GK h1 334 12]) (by decide +kernel) rfl ⟨(o_334 hL).gk, (o_334 hL).gk, trivial⟩) ?_
      have hL : LR (m_wr h1 334 8 (m_w32 ((m_rd h1 334 8) + 1))) := LR.wf (k := 8) hL (o_334 hL) rfl
      have hK := hK.tr (KD.wr : KD h1 (m_wr h1 334 8 (m_w32 ((m_rd h1 334 8) + 1))))
      have hJ := hJ.tr (KD.wr : KD h1 (m_wr h1 334 8 (m_w32 ((m_rd h1 334 8) + 1))))
      refine RK.of (RN.goto (off := -21) (tgt := 0) (by decide +kernel)) ?_
      exact RK.sub (ih _ hL hJ hF) (sub_cons rfl sub_nil)
noncomputable def GX12_passWord (h : MH) : Option (MH) :=
  GX12_passWord_L0 (fun h1 =>
   some h1) FU h
theorem DX12_passWord {d : Nat} {h : MH} {r : MH} (hL : LR h) (hF : GX12_passWord h = some r) : RN xs L iX12_passWord (d + 1) 0 (lvE 0 [.inr (.inr 334)]) [] h (RVo r) ∧ LR r ∧ KD h r := by
  unfold GX12_passWord at hF
  have hK : KD h h := KD.rf
  show RK xs L iX12_passWord (d + 1) 0 (lvE 0 [.inr (.inr 334)]) [] h (RVo r) h r
  refine RK.sub (DX12_passWord_L0 hK ?_ _ _ hL KD.rf hF) (sub_cons rfl sub_nil)
  · intro h1 hL hq hF
    have hK := hK.tr hq
    exact RK.vR (by decide +kernel) rfl hL hK hF
noncomputable def GX12_takesWord (a1 : Int) (h : MH) : Option (Int × MH) :=
  (bd (GX12_isWord a1 h) (fun x2 h1 =>
   (if x2 = 0 then
    some (0, h1)
   else
    (bv (GX12_passWord h1) (fun h3 =>
     some (1, h3))))))
theorem DX12_takesWord {d : Nat} {a1 : Int} {h : MH} {r : Int × MH} (hL : LR h) (hF : GX12_takesWord a1 h = some r) : RN xs L iX12_takesWord (d + 2) 0 (lvE 0 [.inr (.inr 334), .inr (.inl a1)]) [] h (RIo r) ∧ LR r.2 ∧ KD h r.2 := by
  unfold GX12_takesWord at hF
  have hK : KD h h := KD.rf
  show RK xs L iX12_takesWord (d + 2) 0 (lvE 0 [.inr (.inr 334), .inr (.inl a1)]) [] h (RIo r) h r.2
  refine RK.of (RN.blk (ops := [(0, .aload_n 0), (1, .lload_n 1)]) (pc' := 2) (lv' := [(0, .inr (.inr 334)), (1, .inr (.inl a1))]) (st' := [.inr (.inl a1), .inr (.inr 334)]) (h' := h) (cs := []) (by decide +kernel) rfl trivial) ?_
  obtain ⟨x2, h1, hG, hF⟩ := bd_of hF
  have hq := rcv_ok (as := [.inr (.inl a1)]) (TO.gk (o_334 hL))
  obtain ⟨hN, hL, hQ⟩ := DX12_isWord (d := d) hL  hG
  refine RK.of (RN.cv (i := 110) (k := 167) (q2 := iX12_isWord) (as := [.inr (.inr 334), .inr (.inl a1)]) (r := []) (v := some (.inl x2)) (h1 := h1) (by decide +kernel) rfl rfl rfl rfl rfl hq hN) ?_
  have hK := hK.tr hQ
  rcases it_of hF with ⟨hb, hF⟩ | ⟨hb, hF⟩
  · refine RK.of (RN.iff (cd := .ne) (off := 5) (tgt := 10) (by decide +kernel) (mif_nen hb)) ?_
    refine RK.of (RN.blk (ops := [(8, .iconst 0)]) (pc' := 9) (lv' := [(0, .inr (.inr 334)), (1, .inr (.inl a1))]) (st' := [.inl 0]) (h' := h1) (cs := []) (by decide +kernel) rfl trivial) ?_
    exact RK.zR (by decide +kernel) rfl (Or.inl rfl) hL hK hF
  · refine RK.of (RN.ift (cd := .ne) (off := 5) (tgt := 10) (by decide +kernel) (mif_ne hb)) ?_
    refine RK.of (RN.blk (ops := [(10, .aload_n 0)]) (pc' := 11) (lv' := [(0, .inr (.inr 334)), (1, .inr (.inl a1))]) (st' := [.inr (.inr 334)]) (h' := h1) (cs := []) (by decide +kernel) rfl trivial) ?_
    obtain ⟨h3, hG, hF⟩ := bv_of hF
    have hq := rcv_ok (as := []) (TO.gk (o_334 hL))
    obtain ⟨hN, hL, hQ⟩ := DX12_passWord (d := d) hL  hG
    refine RK.of (RN.cv (i := 114) (k := 168) (q2 := iX12_passWord) (as := [.inr (.inr 334)]) (r := []) (v := none) (h1 := h3) (by decide +kernel) rfl rfl rfl rfl rfl hq hN) ?_
    have hK := hK.tr hQ
    refine RK.of (RN.blk (ops := [(14, .iconst 1)]) (pc' := 15) (lv' := [(0, .inr (.inr 334)), (1, .inr (.inl a1))]) (st' := [.inl 1]) (h' := h3) (cs := []) (by decide +kernel) rfl trivial) ?_
    exact RK.zR (by decide +kernel) rfl (Or.inr rfl) hL hK hF
noncomputable def GX12_numberHere_L34 (u1 : Int) (u2 : Int) (u3 : Int) (K0 : Int → MH → Option (Int × MH)) : Nat → Int → MH → Option (Int × MH)
  | 0, _, _ => none
  | f + 1, v4, h =>
    (bd (GX12_isDigit (m_rd h 334 8) h) (fun x2 h1 =>
     (if x2 = 0 then
      K0 v4 h1
     else
      (if (m_w32 ((m_rd h1 334 8) - u3)) < 5 then
       gd [IB (m_rd h1 334 8) 400] (
        GX12_numberHere_L34 u1 u2 u3 K0 f (m_w32 ((m_w32 ((m_w32 (10 * v4)) + (m_rd h1 335 (m_rd h1 334 8)))) - 48)) (m_wr h1 334 8 (m_w32 ((m_rd h1 334 8) + 1))))
      else
       GX12_numberHere_L34 u1 u2 u3 K0 f v4 (m_wr h1 334 8 (m_w32 ((m_rd h1 334 8) + 1)))))))
theorem DX12_numberHere_L34 {d : Nat} {u1 : Int} {u2 : Int} {u3 : Int} {K0 : Int → MH → Option (Int × MH)} {r : Int × MH} {h0 hB : MH} (hB0 : KD h0 hB) (hK0 : ∀ (w4 : Int) (h : MH), LR h → KD hB h → K0 w4 h = some r → RK xs L iX12_numberHere (d + 1) 88 [(0, .inr (.inr 334)), (1, .inl u1), (2, .inl u2), (3, .inl u3), (4, .inl w4)] [] h (RIo r) h0 r.2) : ∀ (f : Nat) (v4 : Int) (h : MH), LR h → KD hB h → GX12_numberHere_L34 u1 u2 u3 K0 f v4 h = some r → RK xs L iX12_numberHere (d + 1) 34 [(0, .inr (.inr 334)), (1, .inl u1), (2, .inl u2), (3, .inl u3), (4, .inl v4)] [] h (RIo r) h0 r.2 := by
  intro f
  induction f with
  | zero =>
    intro v4 h hL hJ hF
    cases hF
  | succ f ih =>
    intro v4 h hL hJ hF
    unfold GX12_numberHere_L34 at hF
    have hK := hB0.tr hJ
    refine RK.of (RN.blk (ops := [(34, .aload_n 0), (35, .aload_n 0), (36, .getfield 99)]) (pc' := 39) (lv' := [(0, .inr (.inr 334)), (1, .inl u1), (2, .inl u2), (3, .inl u3), (4, .inl v4)]) (st' := [.inl (m_rd h 334 8), .inr (.inr 334)]) (h' := h) (cs := [GK h 334 12]) (by decide +kernel) rfl ⟨(o_334 hL).gk, trivial⟩) ?_
    obtain ⟨x2, h1, hG, hF⟩ := bd_of hF
    have hq := rcv_ok (as := [.inl (m_rd h 334 8)]) (TO.gk (o_334 hL))
    obtain ⟨hN, hL, hQ⟩ := DX12_isDigit (d := d) hL  hG
    refine RK.of (RN.cv (i := 117) (k := 165) (q2 := iX12_isDigit) (as := [.inr (.inr 334), .inl (m_rd h 334 8)]) (r := []) (v := some (.inl x2)) (h1 := h1) (by decide +kernel) rfl rfl rfl rfl rfl hq hN) ?_
    have hK := hK.tr hQ
    have hJ := hJ.tr hQ
    rcases it_of hF with ⟨hb, hF⟩ | ⟨hb, hF⟩
    · refine RK.of (RN.ift (cd := .eq) (off := 46) (tgt := 88) (by decide +kernel) (mif_eq hb)) ?_
      exact RK.sub (hK0 _ _ hL hJ hF) (sub_cons rfl (sub_cons rfl (sub_cons rfl (sub_cons rfl (sub_cons rfl sub_nil)))))
    · refine RK.of (RN.iff (cd := .eq) (off := 46) (tgt := 88) (by decide +kernel) (mif_eqn hb)) ?_
      refine RK.of (RN.blk (ops := [(45, .aload_n 0), (46, .getfield 99), (49, .iload_n 3), (50, .isub), (51, .iconst 5)]) (pc' := 52) (lv' := [(0, .inr (.inr 334)), (1, .inl u1), (2, .inl u2), (3, .inl u3), (4, .inl v4)]) (st' := [.inl 5, .inl (m_w32 ((m_rd h1 334 8) - u3))]) (h' := h1) (cs := [GK h1 334 12]) (by decide +kernel) rfl ⟨(o_334 hL).gk, trivial⟩) ?_
      rcases it_of hF with ⟨hb, hF⟩ | ⟨hb, hF⟩
      · refine RK.of (RN.icf (cd := .ge) (off := 23) (tgt := 75) (by decide +kernel) (mif_gen hb)) ?_
        refine RK.of (RN.blk (ops := [(55, .bipush 10), (57, .iload 4), (59, .imul), (60, .aload_n 0)]) (pc' := 61) (lv' := [(0, .inr (.inr 334)), (1, .inl u1), (2, .inl u2), (3, .inl u3), (4, .inl v4)]) (st' := [.inr (.inr 334), .inl (m_w32 (10 * v4))]) (h' := h1) (cs := []) (by decide +kernel) rfl trivial) ?_
        refine RK.of (RN.gr (i := 7) (ci := 12) (k := 0) (fn := true) (v := 335) (by decide +kernel) rfl (TO.gk (o_334 hL)) (hL.fa (v := 335) 0 3 400 (o_334 hL) rfl (by decide) rfl (by decide)).1) ?_
        obtain ⟨hc, hF⟩ := gd_of hF
        refine RK.of (RN.blk (ops := [(64, .aload_n 0), (65, .getfield 99), (68, .baload), (69, .iadd), (70, .bipush 48), (72, .isub), (73, .istore 4)]) (pc' := 75) (lv' := [(4, .inl (m_w32 ((m_w32 ((m_w32 (10 * v4)) + (m_rd h1 335 (m_rd h1 334 8)))) - 48))), (0, .inr (.inr 334)), (1, .inl u1), (2, .inl u2), (3, .inl u3)]) (st' := []) (h' := h1) (cs := [GK h1 334 12, GB h1 335 (m_rd h1 334 8)]) (by decide +kernel) rfl ⟨(o_334 hL).gk, (a_335 hL).gb (by decide) hc.1.1 hc.1.2, trivial⟩) ?_
        refine RK.of (RN.blk (ops := [(75, .aload_n 0), (76, .dup), (77, .getfield 99), (80, .iconst 1), (81, .iadd), (82, .putfield 99)]) (pc' := 85) (lv' := [(4, .inl (m_w32 ((m_w32 ((m_w32 (10 * v4)) + (m_rd h1 335 (m_rd h1 334 8)))) - 48))), (0, .inr (.inr 334)), (1, .inl u1), (2, .inl u2), (3, .inl u3)]) (st' := []) (h' := (m_wr h1 334 8 (m_w32 ((m_rd h1 334 8) + 1)))) (cs := [GK h1 334 12, GK h1 334 12]) (by decide +kernel) rfl ⟨(o_334 hL).gk, (o_334 hL).gk, trivial⟩) ?_
        have hL : LR (m_wr h1 334 8 (m_w32 ((m_rd h1 334 8) + 1))) := LR.wf (k := 8) hL (o_334 hL) rfl
        have hK := hK.tr (KD.wr : KD h1 (m_wr h1 334 8 (m_w32 ((m_rd h1 334 8) + 1))))
        have hJ := hJ.tr (KD.wr : KD h1 (m_wr h1 334 8 (m_w32 ((m_rd h1 334 8) + 1))))
        refine RK.of (RN.goto (off := -51) (tgt := 34) (by decide +kernel)) ?_
        exact RK.sub (ih _ _ hL hJ hF) (sub_cons rfl (sub_cons rfl (sub_cons rfl (sub_cons rfl (sub_cons rfl sub_nil)))))
      · refine RK.of (RN.ict (cd := .ge) (off := 23) (tgt := 75) (by decide +kernel) (mif_ge hb)) ?_
        refine RK.of (RN.blk (ops := [(75, .aload_n 0), (76, .dup), (77, .getfield 99), (80, .iconst 1), (81, .iadd), (82, .putfield 99)]) (pc' := 85) (lv' := [(0, .inr (.inr 334)), (1, .inl u1), (2, .inl u2), (3, .inl u3), (4, .inl v4)]) (st' := []) (h' := (m_wr h1 334 8 (m_w32 ((m_rd h1 334 8) + 1)))) (cs := [GK h1 334 12, GK h1 334 12]) (by decide +kernel) rfl ⟨(o_334 hL).gk, (o_334 hL).gk, trivial⟩) ?_
        have hL : LR (m_wr h1 334 8 (m_w32 ((m_rd h1 334 8) + 1))) := LR.wf (k := 8) hL (o_334 hL) rfl
        have hK := hK.tr (KD.wr : KD h1 (m_wr h1 334 8 (m_w32 ((m_rd h1 334 8) + 1))))
        have hJ := hJ.tr (KD.wr : KD h1 (m_wr h1 334 8 (m_w32 ((m_rd h1 334 8) + 1))))
        refine RK.of (RN.goto (off := -51) (tgt := 34) (by decide +kernel)) ?_
        exact RK.sub (ih _ _ hL hJ hF) (sub_cons rfl (sub_cons rfl (sub_cons rfl (sub_cons rfl (sub_cons rfl sub_nil)))))
noncomputable def GX12_numberHere (a1 : Int) (a2 : Int) (h : MH) : Option (Int × MH) :=
  (bd (GX12_see h) (fun x2 h1 =>
   (bd (GX12_isDigit (m_rd h1 334 8) h1) (fun x4 h3 =>
    (if x4 = 0 then
     (bd (GX12_fails 0 (m_rd h3 334 8) h3) (fun x14 h13 =>
      gd [GT x14] (some (x14, h13))))
    else
     GX12_numberHere_L34 a1 a2 (m_rd h3 334 8) (fun w5 h6 =>
      jn (fun (h8 : MH) =>
       (bd (GX12_fails 1 (m_rd h3 334 8) h8) (fun x10 h9 =>
        (if x10 = 0 then
         some (0, h9)
        else
         some (1, h9))))) (fun j7 =>
       (if 5 < (m_w32 ((m_rd (m_wr h6 334 10 w5) 334 8) - (m_rd h3 334 8))) then
        j7 (m_wr h6 334 10 w5)
       else
        (bd (GX12_in w5 a1 a2 (m_wr h6 334 10 w5)) (fun x12 h11 =>
         (if x12 = 0 then
          j7 h11
         else
          some (1, h11))))))) FU 0 h3)))))
theorem DX12_numberHere {d : Nat} {a1 : Int} {a2 : Int} {h : MH} {r : Int × MH} (hL : LR h) (hF : GX12_numberHere a1 a2 h = some r) : RN xs L iX12_numberHere (d + 1) 0 (lvE 0 [.inr (.inr 334), .inl a1, .inl a2]) [] h (RIo r) ∧ LR r.2 ∧ KD h r.2 := by
  unfold GX12_numberHere at hF
  have hK : KD h h := KD.rf
  show RK xs L iX12_numberHere (d + 1) 0 (lvE 0 [.inr (.inr 334), .inl a1, .inl a2]) [] h (RIo r) h r.2
  refine RK.of (RN.blk (ops := [(0, .aload_n 0)]) (pc' := 1) (lv' := [(0, .inr (.inr 334)), (1, .inl a1), (2, .inl a2)]) (st' := [.inr (.inr 334)]) (h' := h) (cs := []) (by decide +kernel) rfl trivial) ?_
  obtain ⟨x2, h1, hG, hF⟩ := bd_of hF
  have hq := rcv_ok (as := []) (TO.gk (o_334 hL))
  obtain ⟨hN, hL, hQ⟩ := DX12_see (d := d) hL  hG
  refine RK.of (RN.cv (i := 102) (k := 164) (q2 := iX12_see) (as := [.inr (.inr 334)]) (r := []) (v := some (.inl x2)) (h1 := h1) (by decide +kernel) rfl rfl rfl rfl rfl hq hN) ?_
  have hK := hK.tr hQ
  refine RK.of (RN.blk (ops := [(4, .pop), (5, .aload_n 0), (6, .aload_n 0), (7, .getfield 99)]) (pc' := 10) (lv' := [(0, .inr (.inr 334)), (1, .inl a1), (2, .inl a2)]) (st' := [.inl (m_rd h1 334 8), .inr (.inr 334)]) (h' := h1) (cs := [GK h1 334 12]) (by decide +kernel) rfl ⟨(o_334 hL).gk, trivial⟩) ?_
  obtain ⟨x4, h3, hG, hF⟩ := bd_of hF
  have hq := rcv_ok (as := [.inl (m_rd h1 334 8)]) (TO.gk (o_334 hL))
  obtain ⟨hN, hL, hQ⟩ := DX12_isDigit (d := d) hL  hG
  refine RK.of (RN.cv (i := 117) (k := 165) (q2 := iX12_isDigit) (as := [.inr (.inr 334), .inl (m_rd h1 334 8)]) (r := []) (v := some (.inl x4)) (h1 := h3) (by decide +kernel) rfl rfl rfl rfl rfl hq hN) ?_
  have hK := hK.tr hQ
  rcases it_of hF with ⟨hb, hF⟩ | ⟨hb, hF⟩
  · refine RK.of (RN.iff (cd := .ne) (off := 13) (tgt := 26) (by decide +kernel) (mif_nen hb)) ?_
    refine RK.of (RN.blk (ops := [(16, .aload_n 0), (17, .iconst 0), (18, .aload_n 0), (19, .getfield 99)]) (pc' := 22) (lv' := [(0, .inr (.inr 334)), (1, .inl a1), (2, .inl a2)]) (st' := [.inl (m_rd h3 334 8), .inl 0, .inr (.inr 334)]) (h' := h3) (cs := [GK h3 334 12]) (by decide +kernel) rfl ⟨(o_334 hL).gk, trivial⟩) ?_
    obtain ⟨x14, h13, hG, hF⟩ := bd_of hF
    have hq := rcv_ok (as := [.inl 0, .inl (m_rd h3 334 8)]) (TO.gk (o_334 hL))
    obtain ⟨hN, hL, hQ⟩ := DX12_fails (d := d) hL  hG
    refine RK.of (RN.cv (i := 120) (k := 163) (q2 := iX12_fails) (as := [.inr (.inr 334), .inl 0, .inl (m_rd h3 334 8)]) (r := []) (v := some (.inl x14)) (h1 := h13) (by decide +kernel) rfl rfl rfl rfl rfl hq hN) ?_
    have hK := hK.tr hQ
    obtain ⟨hc, hF⟩ := gd_of hF
    exact RK.zR (by decide +kernel) rfl hc.1 hL hK hF
  · refine RK.of (RN.ift (cd := .ne) (off := 13) (tgt := 26) (by decide +kernel) (mif_ne hb)) ?_
    refine RK.of (RN.blk (ops := [(26, .aload_n 0), (27, .getfield 99), (30, .istore_n 3), (31, .iconst 0), (32, .istore 4)]) (pc' := 34) (lv' := [(4, .inl 0), (3, .inl (m_rd h3 334 8)), (0, .inr (.inr 334)), (1, .inl a1), (2, .inl a2)]) (st' := []) (h' := h3) (cs := [GK h3 334 12]) (by decide +kernel) rfl ⟨(o_334 hL).gk, trivial⟩) ?_
    refine RK.sub (DX12_numberHere_L34 hK ?_ _ _ _ hL KD.rf hF) (sub_cons rfl (sub_cons rfl (sub_cons rfl (sub_cons rfl (sub_cons rfl sub_nil)))))
    · intro w5 h6 hL hq hF
      have hK := hK.tr hq
      refine RK.of (RN.blk (ops := [(88, .aload_n 0), (89, .iload 4), (91, .putfield 124)]) (pc' := 94) (lv' := [(0, .inr (.inr 334)), (1, .inl a1), (2, .inl a2), (3, .inl (m_rd h3 334 8)), (4, .inl w5)]) (st' := []) (h' := (m_wr h6 334 10 w5)) (cs := [GK h6 334 12]) (by decide +kernel) rfl ⟨(o_334 hL).gk, trivial⟩) ?_
      have hL : LR (m_wr h6 334 10 w5) := LR.wf (k := 10) hL (o_334 hL) rfl
      have hK := hK.tr (KD.wr : KD h6 (m_wr h6 334 10 w5))
      refine RK.of (RN.blk (ops := [(94, .aload_n 0), (95, .getfield 99), (98, .iload_n 3), (99, .isub), (100, .iconst 5)]) (pc' := 101) (lv' := [(0, .inr (.inr 334)), (1, .inl a1), (2, .inl a2), (3, .inl (m_rd h3 334 8)), (4, .inl w5)]) (st' := [.inl 5, .inl (m_w32 ((m_rd (m_wr h6 334 10 w5) 334 8) - (m_rd h3 334 8)))]) (h' := (m_wr h6 334 10 w5)) (cs := [GK (m_wr h6 334 10 w5) 334 12]) (by decide +kernel) rfl ⟨(o_334 hL).gk, trivial⟩) ?_
      refine jn_use (fun j7 => ∀ (h8 : MH), LR h8 → KD h h8 → j7 h8 = some r → RK xs L iX12_numberHere (d + 1) 117 [(0, .inr (.inr 334)), (3, .inl (m_rd h3 334 8))] [] h8 (RIo r) h r.2) ?_ ?_ hF
      · intro h8 hL hK hF
        refine RK.of (RN.blk (ops := [(117, .aload_n 0), (118, .iconst 1), (119, .iload_n 3)]) (pc' := 120) (lv' := [(0, .inr (.inr 334)), (3, .inl (m_rd h3 334 8))]) (st' := [.inl (m_rd h3 334 8), .inl 1, .inr (.inr 334)]) (h' := h8) (cs := []) (by decide +kernel) rfl trivial) ?_
        obtain ⟨x10, h9, hG, hF⟩ := bd_of hF
        have hq := rcv_ok (as := [.inl 1, .inl (m_rd h3 334 8)]) (TO.gk (o_334 hL))
        obtain ⟨hN, hL, hQ⟩ := DX12_fails (d := d) hL  hG
        refine RK.of (RN.cv (i := 120) (k := 163) (q2 := iX12_fails) (as := [.inr (.inr 334), .inl 1, .inl (m_rd h3 334 8)]) (r := []) (v := some (.inl x10)) (h1 := h9) (by decide +kernel) rfl rfl rfl rfl rfl hq hN) ?_
        have hK := hK.tr hQ
        rcases it_of hF with ⟨hb, hF⟩ | ⟨hb, hF⟩
        · refine RK.of (RN.ift (cd := .eq) (off := 7) (tgt := 130) (by decide +kernel) (mif_eq hb)) ?_
          refine RK.of (RN.blk (ops := [(130, .iconst 0)]) (pc' := 131) (lv' := [(0, .inr (.inr 334)), (3, .inl (m_rd h3 334 8))]) (st' := [.inl 0]) (h' := h9) (cs := []) (by decide +kernel) rfl trivial) ?_
          exact RK.zR (by decide +kernel) rfl (Or.inl rfl) hL hK hF
        · refine RK.of (RN.iff (cd := .eq) (off := 7) (tgt := 130) (by decide +kernel) (mif_eqn hb)) ?_
          refine RK.of (RN.blk (ops := [(126, .iconst 1)]) (pc' := 127) (lv' := [(0, .inr (.inr 334)), (3, .inl (m_rd h3 334 8))]) (st' := [.inl 1]) (h' := h9) (cs := []) (by decide +kernel) rfl trivial) ?_
          refine RK.of (RN.goto (off := 4) (tgt := 131) (by decide +kernel)) ?_
          exact RK.zR (by decide +kernel) rfl (Or.inr rfl) hL hK hF
      · intro j7 Jj7 hF
        rcases it_of hF with ⟨hb, hF⟩ | ⟨hb, hF⟩
        · refine RK.of (RN.ict (cd := .gt) (off := 16) (tgt := 117) (by decide +kernel) (mif_gt hb)) ?_
          exact RK.sub (Jj7 _ hL hK hF) (sub_cons rfl (sub_cons rfl sub_nil))
        · refine RK.of (RN.icf (cd := .gt) (off := 16) (tgt := 117) (by decide +kernel) (mif_gtn hb)) ?_
          refine RK.of (RN.blk (ops := [(104, .iload 4), (106, .i2l), (107, .iload_n 1), (108, .i2l), (109, .iload_n 2), (110, .i2l)]) (pc' := 111) (lv' := [(0, .inr (.inr 334)), (1, .inl a1), (2, .inl a2), (3, .inl (m_rd h3 334 8)), (4, .inl w5)]) (st' := [.inr (.inl a2), .inr (.inl a1), .inr (.inl w5)]) (h' := (m_wr h6 334 10 w5)) (cs := []) (by decide +kernel) rfl trivial) ?_
          obtain ⟨x12, h11, hG, hF⟩ := bd_of hF
          obtain ⟨hN, hL, hQ⟩ := DX12_in (d := d) hL  hG
          refine RK.of (RN.cst (i := 127) (k := 156) (q2 := iX12_in) (as := [.inr (.inl w5), .inr (.inl a1), .inr (.inl a2)]) (r := []) (v := some (.inl x12)) (h1 := h11) (by decide +kernel) rfl rfl rfl rfl rfl hN) ?_
          have hK := hK.tr hQ
          rcases it_of hF with ⟨hb, hF⟩ | ⟨hb, hF⟩
          · refine RK.of (RN.iff (cd := .ne) (off := 12) (tgt := 126) (by decide +kernel) (mif_nen hb)) ?_
            exact RK.sub (Jj7 _ hL hK hF) (sub_cons rfl (sub_cons rfl sub_nil))
          · refine RK.of (RN.ift (cd := .ne) (off := 12) (tgt := 126) (by decide +kernel) (mif_ne hb)) ?_
            refine RK.of (RN.blk (ops := [(126, .iconst 1)]) (pc' := 127) (lv' := [(0, .inr (.inr 334)), (1, .inl a1), (2, .inl a2), (3, .inl (m_rd h3 334 8)), (4, .inl w5)]) (st' := [.inl 1]) (h' := h11) (cs := []) (by decide +kernel) rfl trivial) ?_
            refine RK.of (RN.goto (off := 4) (tgt := 131) (by decide +kernel)) ?_
            exact RK.zR (by decide +kernel) rfl (Or.inr rfl) hL hK hF
noncomputable def GX12_wordHere (h : MH) : Option (Int × MH) :=
  (bd (GX12_isWord 482854658917 h) (fun x2 h1 =>
   (if x2 = 0 then
    (bd (GX12_isWord 1668244581 h1) (fun x4 h3 =>
     (if x4 = 0 then
      (bd (GX12_isWord 439855772532 h3) (fun x6 h5 =>
       (if x6 = 0 then
        (bd (GX12_isWord 1818325876 h5) (fun x8 h7 =>
         (if x8 = 0 then
          (bd (GX12_isWord 1752132709 h7) (fun x10 h9 =>
           (if x10 = 0 then
            (bd (GX12_isWord 465893420647 h9) (fun x12 h11 =>
             (if x12 = 0 then
              (bd (GX12_isWord 1919905645 h11) (fun x14 h13 =>
               (if x14 = 0 then
                (bd (GX12_isWord 6711668 h13) (fun x16 h15 =>
                 (if x16 = 0 then
                  (bd (GX12_isWord 33602627781095015 h15) (fun x18 h17 =>
                   (if x18 = 0 then
                    (bd (GX12_isWord 1650550643 h17) (fun x20 h19 =>
                     (if x20 = 0 then
                      (bd (GX12_isWord 1953854062 h19) (fun x22 h21 =>
                       (if x22 = 0 then
                        some ((-1), h21)
                       else
                        some (10, h21))))
                     else
                      some (9, h19))))
                   else
                    some (8, h17))))
                 else
                  some (7, h15))))
               else
                some (6, h13))))
             else
              some (5, h11))))
           else
            some (4, h9))))
         else
          some (3, h7))))
       else
        some (2, h5))))
     else
      some (1, h3))))
   else
    some (0, h1))))
theorem DX12_wordHere {d : Nat} {h : MH} {r : Int × MH} (hL : LR h) (hF : GX12_wordHere h = some r) : RN xs L iX12_wordHere (d + 2) 0 (lvE 0 [.inr (.inr 334)]) [] h (RIo r) ∧ LR r.2 ∧ KD h r.2 := by
  unfold GX12_wordHere at hF
  have hK : KD h h := KD.rf
  show RK xs L iX12_wordHere (d + 2) 0 (lvE 0 [.inr (.inr 334)]) [] h (RIo r) h r.2
  refine RK.of (RN.blk (ops := [(0, .aload_n 0), (1, .ldc2_w 131)]) (pc' := 4) (lv' := [(0, .inr (.inr 334))]) (st' := [.inr (.inl 482854658917), .inr (.inr 334)]) (h' := h) (cs := []) (by decide +kernel) rfl trivial) ?_
  obtain ⟨x2, h1, hG, hF⟩ := bd_of hF
  have hq := rcv_ok (as := [.inr (.inl 482854658917)]) (TO.gk (o_334 hL))
  obtain ⟨hN, hL, hQ⟩ := DX12_isWord (d := d) hL  hG
  refine RK.of (RN.cv (i := 110) (k := 167) (q2 := iX12_isWord) (as := [.inr (.inr 334), .inr (.inl 482854658917)]) (r := []) (v := some (.inl x2)) (h1 := h1) (by decide +kernel) rfl rfl rfl rfl rfl hq hN) ?_
  have hK := hK.tr hQ
  rcases it_of hF with ⟨hb, hF⟩ | ⟨hb, hF⟩
  · refine RK.of (RN.ift (cd := .eq) (off := 5) (tgt := 12) (by decide +kernel) (mif_eq hb)) ?_
    refine RK.of (RN.blk (ops := [(12, .aload_n 0), (13, .ldc2_w 133)]) (pc' := 16) (lv' := [(0, .inr (.inr 334))]) (st' := [.inr (.inl 1668244581), .inr (.inr 334)]) (h' := h1) (cs := []) (by decide +kernel) rfl trivial) ?_
    obtain ⟨x4, h3, hG, hF⟩ := bd_of hF
    have hq := rcv_ok (as := [.inr (.inl 1668244581)]) (TO.gk (o_334 hL))
    obtain ⟨hN, hL, hQ⟩ := DX12_isWord (d := d) hL  hG
    refine RK.of (RN.cv (i := 110) (k := 167) (q2 := iX12_isWord) (as := [.inr (.inr 334), .inr (.inl 1668244581)]) (r := []) (v := some (.inl x4)) (h1 := h3) (by decide +kernel) rfl rfl rfl rfl rfl hq hN) ?_
    have hK := hK.tr hQ
    rcases it_of hF with ⟨hb, hF⟩ | ⟨hb, hF⟩
    · refine RK.of (RN.ift (cd := .eq) (off := 5) (tgt := 24) (by decide +kernel) (mif_eq hb)) ?_
      refine RK.of (RN.blk (ops := [(24, .aload_n 0), (25, .ldc2_w 135)]) (pc' := 28) (lv' := [(0, .inr (.inr 334))]) (st' := [.inr (.inl 439855772532), .inr (.inr 334)]) (h' := h3) (cs := []) (by decide +kernel) rfl trivial) ?_
      obtain ⟨x6, h5, hG, hF⟩ := bd_of hF
      have hq := rcv_ok (as := [.inr (.inl 439855772532)]) (TO.gk (o_334 hL))
      obtain ⟨hN, hL, hQ⟩ := DX12_isWord (d := d) hL  hG
      refine RK.of (RN.cv (i := 110) (k := 167) (q2 := iX12_isWord) (as := [.inr (.inr 334), .inr (.inl 439855772532)]) (r := []) (v := some (.inl x6)) (h1 := h5) (by decide +kernel) rfl rfl rfl rfl rfl hq hN) ?_
      have hK := hK.tr hQ
      rcases it_of hF with ⟨hb, hF⟩ | ⟨hb, hF⟩
      · refine RK.of (RN.ift (cd := .eq) (off := 5) (tgt := 36) (by decide +kernel) (mif_eq hb)) ?_
        refine RK.of (RN.blk (ops := [(36, .aload_n 0), (37, .ldc2_w 137)]) (pc' := 40) (lv' := [(0, .inr (.inr 334))]) (st' := [.inr (.inl 1818325876), .inr (.inr 334)]) (h' := h5) (cs := []) (by decide +kernel) rfl trivial) ?_
        obtain ⟨x8, h7, hG, hF⟩ := bd_of hF
        have hq := rcv_ok (as := [.inr (.inl 1818325876)]) (TO.gk (o_334 hL))
        obtain ⟨hN, hL, hQ⟩ := DX12_isWord (d := d) hL  hG
        refine RK.of (RN.cv (i := 110) (k := 167) (q2 := iX12_isWord) (as := [.inr (.inr 334), .inr (.inl 1818325876)]) (r := []) (v := some (.inl x8)) (h1 := h7) (by decide +kernel) rfl rfl rfl rfl rfl hq hN) ?_
        have hK := hK.tr hQ
        rcases it_of hF with ⟨hb, hF⟩ | ⟨hb, hF⟩
        · refine RK.of (RN.ift (cd := .eq) (off := 5) (tgt := 48) (by decide +kernel) (mif_eq hb)) ?_
          refine RK.of (RN.blk (ops := [(48, .aload_n 0), (49, .ldc2_w 139)]) (pc' := 52) (lv' := [(0, .inr (.inr 334))]) (st' := [.inr (.inl 1752132709), .inr (.inr 334)]) (h' := h7) (cs := []) (by decide +kernel) rfl trivial) ?_
          obtain ⟨x10, h9, hG, hF⟩ := bd_of hF
          have hq := rcv_ok (as := [.inr (.inl 1752132709)]) (TO.gk (o_334 hL))
          obtain ⟨hN, hL, hQ⟩ := DX12_isWord (d := d) hL  hG
          refine RK.of (RN.cv (i := 110) (k := 167) (q2 := iX12_isWord) (as := [.inr (.inr 334), .inr (.inl 1752132709)]) (r := []) (v := some (.inl x10)) (h1 := h9) (by decide +kernel) rfl rfl rfl rfl rfl hq hN) ?_
          have hK := hK.tr hQ
          rcases it_of hF with ⟨hb, hF⟩ | ⟨hb, hF⟩
          · refine RK.of (RN.ift (cd := .eq) (off := 5) (tgt := 60) (by decide +kernel) (mif_eq hb)) ?_
            refine RK.of (RN.blk (ops := [(60, .aload_n 0), (61, .ldc2_w 141)]) (pc' := 64) (lv' := [(0, .inr (.inr 334))]) (st' := [.inr (.inl 465893420647), .inr (.inr 334)]) (h' := h9) (cs := []) (by decide +kernel) rfl trivial) ?_
            obtain ⟨x12, h11, hG, hF⟩ := bd_of hF
            have hq := rcv_ok (as := [.inr (.inl 465893420647)]) (TO.gk (o_334 hL))
            obtain ⟨hN, hL, hQ⟩ := DX12_isWord (d := d) hL  hG
            refine RK.of (RN.cv (i := 110) (k := 167) (q2 := iX12_isWord) (as := [.inr (.inr 334), .inr (.inl 465893420647)]) (r := []) (v := some (.inl x12)) (h1 := h11) (by decide +kernel) rfl rfl rfl rfl rfl hq hN) ?_
            have hK := hK.tr hQ
            rcases it_of hF with ⟨hb, hF⟩ | ⟨hb, hF⟩
            · refine RK.of (RN.ift (cd := .eq) (off := 5) (tgt := 72) (by decide +kernel) (mif_eq hb)) ?_
              refine RK.of (RN.blk (ops := [(72, .aload_n 0), (73, .ldc2_w 143)]) (pc' := 76) (lv' := [(0, .inr (.inr 334))]) (st' := [.inr (.inl 1919905645), .inr (.inr 334)]) (h' := h11) (cs := []) (by decide +kernel) rfl trivial) ?_
              obtain ⟨x14, h13, hG, hF⟩ := bd_of hF
              have hq := rcv_ok (as := [.inr (.inl 1919905645)]) (TO.gk (o_334 hL))
              obtain ⟨hN, hL, hQ⟩ := DX12_isWord (d := d) hL  hG
              refine RK.of (RN.cv (i := 110) (k := 167) (q2 := iX12_isWord) (as := [.inr (.inr 334), .inr (.inl 1919905645)]) (r := []) (v := some (.inl x14)) (h1 := h13) (by decide +kernel) rfl rfl rfl rfl rfl hq hN) ?_
              have hK := hK.tr hQ
              rcases it_of hF with ⟨hb, hF⟩ | ⟨hb, hF⟩
              · refine RK.of (RN.ift (cd := .eq) (off := 6) (tgt := 85) (by decide +kernel) (mif_eq hb)) ?_
                refine RK.of (RN.blk (ops := [(85, .aload_n 0), (86, .ldc2_w 145)]) (pc' := 89) (lv' := [(0, .inr (.inr 334))]) (st' := [.inr (.inl 6711668), .inr (.inr 334)]) (h' := h13) (cs := []) (by decide +kernel) rfl trivial) ?_
                obtain ⟨x16, h15, hG, hF⟩ := bd_of hF
                have hq := rcv_ok (as := [.inr (.inl 6711668)]) (TO.gk (o_334 hL))
                obtain ⟨hN, hL, hQ⟩ := DX12_isWord (d := d) hL  hG
                refine RK.of (RN.cv (i := 110) (k := 167) (q2 := iX12_isWord) (as := [.inr (.inr 334), .inr (.inl 6711668)]) (r := []) (v := some (.inl x16)) (h1 := h15) (by decide +kernel) rfl rfl rfl rfl rfl hq hN) ?_
                have hK := hK.tr hQ
                rcases it_of hF with ⟨hb, hF⟩ | ⟨hb, hF⟩
                · refine RK.of (RN.ift (cd := .eq) (off := 6) (tgt := 98) (by decide +kernel) (mif_eq hb)) ?_
                  refine RK.of (RN.blk (ops := [(98, .aload_n 0), (99, .ldc2_w 147)]) (pc' := 102) (lv' := [(0, .inr (.inr 334))]) (st' := [.inr (.inl 33602627781095015), .inr (.inr 334)]) (h' := h15) (cs := []) (by decide +kernel) rfl trivial) ?_
                  obtain ⟨x18, h17, hG, hF⟩ := bd_of hF
                  have hq := rcv_ok (as := [.inr (.inl 33602627781095015)]) (TO.gk (o_334 hL))
                  obtain ⟨hN, hL, hQ⟩ := DX12_isWord (d := d) hL  hG
                  refine RK.of (RN.cv (i := 110) (k := 167) (q2 := iX12_isWord) (as := [.inr (.inr 334), .inr (.inl 33602627781095015)]) (r := []) (v := some (.inl x18)) (h1 := h17) (by decide +kernel) rfl rfl rfl rfl rfl hq hN) ?_
                  have hK := hK.tr hQ
                  rcases it_of hF with ⟨hb, hF⟩ | ⟨hb, hF⟩
                  · refine RK.of (RN.ift (cd := .eq) (off := 6) (tgt := 111) (by decide +kernel) (mif_eq hb)) ?_
                    refine RK.of (RN.blk (ops := [(111, .aload_n 0), (112, .ldc2_w 149)]) (pc' := 115) (lv' := [(0, .inr (.inr 334))]) (st' := [.inr (.inl 1650550643), .inr (.inr 334)]) (h' := h17) (cs := []) (by decide +kernel) rfl trivial) ?_
                    obtain ⟨x20, h19, hG, hF⟩ := bd_of hF
                    have hq := rcv_ok (as := [.inr (.inl 1650550643)]) (TO.gk (o_334 hL))
                    obtain ⟨hN, hL, hQ⟩ := DX12_isWord (d := d) hL  hG
                    refine RK.of (RN.cv (i := 110) (k := 167) (q2 := iX12_isWord) (as := [.inr (.inr 334), .inr (.inl 1650550643)]) (r := []) (v := some (.inl x20)) (h1 := h19) (by decide +kernel) rfl rfl rfl rfl rfl hq hN) ?_
                    have hK := hK.tr hQ
                    rcases it_of hF with ⟨hb, hF⟩ | ⟨hb, hF⟩
                    · refine RK.of (RN.ift (cd := .eq) (off := 8) (tgt := 126) (by decide +kernel) (mif_eq hb)) ?_
                      refine RK.of (RN.blk (ops := [(126, .aload_n 0), (127, .ldc2_w 151)]) (pc' := 130) (lv' := [(0, .inr (.inr 334))]) (st' := [.inr (.inl 1953854062), .inr (.inr 334)]) (h' := h19) (cs := []) (by decide +kernel) rfl trivial) ?_
                      obtain ⟨x22, h21, hG, hF⟩ := bd_of hF
                      have hq := rcv_ok (as := [.inr (.inl 1953854062)]) (TO.gk (o_334 hL))
                      obtain ⟨hN, hL, hQ⟩ := DX12_isWord (d := d) hL  hG
                      refine RK.of (RN.cv (i := 110) (k := 167) (q2 := iX12_isWord) (as := [.inr (.inr 334), .inr (.inl 1953854062)]) (r := []) (v := some (.inl x22)) (h1 := h21) (by decide +kernel) rfl rfl rfl rfl rfl hq hN) ?_
                      have hK := hK.tr hQ
                      rcases it_of hF with ⟨hb, hF⟩ | ⟨hb, hF⟩
                      · refine RK.of (RN.ift (cd := .eq) (off := 8) (tgt := 141) (by decide +kernel) (mif_eq hb)) ?_
                        refine RK.of (RN.blk (ops := [(141, .iconst (-1))]) (pc' := 142) (lv' := [(0, .inr (.inr 334))]) (st' := [.inl (-1)]) (h' := h21) (cs := []) (by decide +kernel) rfl trivial) ?_
                        exact RK.iR (by decide +kernel) rfl hL hK hF
                      · refine RK.of (RN.iff (cd := .eq) (off := 8) (tgt := 141) (by decide +kernel) (mif_eqn hb)) ?_
                        refine RK.of (RN.blk (ops := [(136, .bipush 10)]) (pc' := 138) (lv' := [(0, .inr (.inr 334))]) (st' := [.inl 10]) (h' := h21) (cs := []) (by decide +kernel) rfl trivial) ?_
                        refine RK.of (RN.goto (off := 4) (tgt := 142) (by decide +kernel)) ?_
                        exact RK.iR (by decide +kernel) rfl hL hK hF
                    · refine RK.of (RN.iff (cd := .eq) (off := 8) (tgt := 126) (by decide +kernel) (mif_eqn hb)) ?_
                      refine RK.of (RN.blk (ops := [(121, .bipush 9)]) (pc' := 123) (lv' := [(0, .inr (.inr 334))]) (st' := [.inl 9]) (h' := h19) (cs := []) (by decide +kernel) rfl trivial) ?_
                      refine RK.of (RN.goto (off := 19) (tgt := 142) (by decide +kernel)) ?_
                      exact RK.iR (by decide +kernel) rfl hL hK hF
                  · refine RK.of (RN.iff (cd := .eq) (off := 6) (tgt := 111) (by decide +kernel) (mif_eqn hb)) ?_
                    refine RK.of (RN.blk (ops := [(108, .bipush 8)]) (pc' := 110) (lv' := [(0, .inr (.inr 334))]) (st' := [.inl 8]) (h' := h17) (cs := []) (by decide +kernel) rfl trivial) ?_
                    exact RK.iR (by decide +kernel) rfl hL hK hF
                · refine RK.of (RN.iff (cd := .eq) (off := 6) (tgt := 98) (by decide +kernel) (mif_eqn hb)) ?_
                  refine RK.of (RN.blk (ops := [(95, .bipush 7)]) (pc' := 97) (lv' := [(0, .inr (.inr 334))]) (st' := [.inl 7]) (h' := h15) (cs := []) (by decide +kernel) rfl trivial) ?_
                  exact RK.iR (by decide +kernel) rfl hL hK hF
              · refine RK.of (RN.iff (cd := .eq) (off := 6) (tgt := 85) (by decide +kernel) (mif_eqn hb)) ?_
                refine RK.of (RN.blk (ops := [(82, .bipush 6)]) (pc' := 84) (lv' := [(0, .inr (.inr 334))]) (st' := [.inl 6]) (h' := h13) (cs := []) (by decide +kernel) rfl trivial) ?_
                exact RK.iR (by decide +kernel) rfl hL hK hF
            · refine RK.of (RN.iff (cd := .eq) (off := 5) (tgt := 72) (by decide +kernel) (mif_eqn hb)) ?_
              refine RK.of (RN.blk (ops := [(70, .iconst 5)]) (pc' := 71) (lv' := [(0, .inr (.inr 334))]) (st' := [.inl 5]) (h' := h11) (cs := []) (by decide +kernel) rfl trivial) ?_
              exact RK.iR (by decide +kernel) rfl hL hK hF
          · refine RK.of (RN.iff (cd := .eq) (off := 5) (tgt := 60) (by decide +kernel) (mif_eqn hb)) ?_
            refine RK.of (RN.blk (ops := [(58, .iconst 4)]) (pc' := 59) (lv' := [(0, .inr (.inr 334))]) (st' := [.inl 4]) (h' := h9) (cs := []) (by decide +kernel) rfl trivial) ?_
            exact RK.iR (by decide +kernel) rfl hL hK hF
        · refine RK.of (RN.iff (cd := .eq) (off := 5) (tgt := 48) (by decide +kernel) (mif_eqn hb)) ?_
          refine RK.of (RN.blk (ops := [(46, .iconst 3)]) (pc' := 47) (lv' := [(0, .inr (.inr 334))]) (st' := [.inl 3]) (h' := h7) (cs := []) (by decide +kernel) rfl trivial) ?_
          exact RK.iR (by decide +kernel) rfl hL hK hF
      · refine RK.of (RN.iff (cd := .eq) (off := 5) (tgt := 36) (by decide +kernel) (mif_eqn hb)) ?_
        refine RK.of (RN.blk (ops := [(34, .iconst 2)]) (pc' := 35) (lv' := [(0, .inr (.inr 334))]) (st' := [.inl 2]) (h' := h5) (cs := []) (by decide +kernel) rfl trivial) ?_
        exact RK.iR (by decide +kernel) rfl hL hK hF
    · refine RK.of (RN.iff (cd := .eq) (off := 5) (tgt := 24) (by decide +kernel) (mif_eqn hb)) ?_
      refine RK.of (RN.blk (ops := [(22, .iconst 1)]) (pc' := 23) (lv' := [(0, .inr (.inr 334))]) (st' := [.inl 1]) (h' := h3) (cs := []) (by decide +kernel) rfl trivial) ?_
      exact RK.iR (by decide +kernel) rfl hL hK hF
  · refine RK.of (RN.iff (cd := .eq) (off := 5) (tgt := 12) (by decide +kernel) (mif_eqn hb)) ?_
    refine RK.of (RN.blk (ops := [(10, .iconst 0)]) (pc' := 11) (lv' := [(0, .inr (.inr 334))]) (st' := [.inl 0]) (h' := h1) (cs := []) (by decide +kernel) rfl trivial) ?_
    exact RK.iR (by decide +kernel) rfl hL hK hF
noncomputable def GX12_puts (a1 : Int) (a2 : Int) (h : MH) : Option (MH) :=
  gd [IB (m_rd h 334 11) 7, IB (m_w32 ((m_w32 (400 * (m_rd h 334 11))) + (m_rd h 337 (m_rd h 334 11)))) 2400] (
   hl (m_wr h 336 (m_w32 ((m_w32 (400 * (m_rd h 334 11))) + (m_rd h 337 (m_rd h 334 11)))) (m_w32 (a1 + (m_w32 (16 * a2))))) (fun h1 =>
    gd [IB (m_rd h1 334 11) 7] (
     some (m_wr h1 337 (m_rd h1 334 11) (m_w32 ((m_rd h1 337 (m_rd h1 334 11)) + 1))))))
theorem DX12_puts {d : Nat} {a1 : Int} {a2 : Int} {h : MH} {r : MH} (hL : LR h) (hF : GX12_puts a1 a2 h = some r) : RN xs L iX12_puts (d) 0 (lvE 0 [.inr (.inr 334), .inl a1, .inl a2]) [] h (RVo r) ∧ LR r ∧ KD h r := by
  unfold GX12_puts at hF
  have hK : KD h h := KD.rf
  show RK xs L iX12_puts (d) 0 (lvE 0 [.inr (.inr 334), .inl a1, .inl a2]) [] h (RVo r) h r
  refine RK.of (RN.blk (ops := [(0, .aload_n 0)]) (pc' := 1) (lv' := [(0, .inr (.inr 334)), (1, .inl a1), (2, .inl a2)]) (st' := [.inr (.inr 334)]) (h' := h) (cs := []) (by decide +kernel) rfl trivial) ?_
  refine RK.of (RN.gr (i := 13) (ci := 12) (k := 3) (fn := true) (v := 336) (by decide +kernel) rfl (TO.gk (o_334 hL)) (hL.fa (v := 336) 3 1 2400 (o_334 hL) rfl (by decide) rfl (by decide)).1) ?_
  refine RK.of (RN.blk (ops := [(4, .sipush 400), (7, .aload_n 0), (8, .getfield 153), (11, .imul), (12, .aload_n 0)]) (pc' := 13) (lv' := [(0, .inr (.inr 334)), (1, .inl a1), (2, .inl a2)]) (st' := [.inr (.inr 334), .inl (m_w32 (400 * (m_rd h 334 11))), .inr (.inr 336)]) (h' := h) (cs := [GK h 334 12]) (by decide +kernel) rfl ⟨(o_334 hL).gk, trivial⟩) ?_
  refine RK.of (RN.gr (i := 17) (ci := 12) (k := 4) (fn := true) (v := 337) (by decide +kernel) rfl (TO.gk (o_334 hL)) (hL.fa (v := 337) 4 1 7 (o_334 hL) rfl (by decide) rfl (by decide)).1) ?_
  obtain ⟨hc, hF⟩ := gd_of hF
  refine RK.of (RN.blk (ops := [(16, .aload_n 0), (17, .getfield 153), (20, .iaload), (21, .iadd), (22, .iload_n 1), (23, .bipush 16), (25, .iload_n 2), (26, .imul), (27, .iadd), (28, .iastore)]) (pc' := 29) (lv' := [(0, .inr (.inr 334)), (1, .inl a1), (2, .inl a2)]) (st' := []) (h' := (m_wr h 336 (m_w32 ((m_w32 (400 * (m_rd h 334 11))) + (m_rd h 337 (m_rd h 334 11)))) (m_w32 (a1 + (m_w32 (16 * a2)))))) (cs := [GK h 334 12, GI h 337 1 (m_rd h 334 11), GI h 336 1 (m_w32 ((m_w32 (400 * (m_rd h 334 11))) + (m_rd h 337 (m_rd h 334 11))))]) (by decide +kernel) rfl ⟨(o_334 hL).gk, (a_337 hL).gi hc.1.1 hc.1.2, (a_336 hL).gi hc.2.1.1 hc.2.1.2, trivial⟩) ?_
  have hL : LR (m_wr h 336 (m_w32 ((m_w32 (400 * (m_rd h 334 11))) + (m_rd h 337 (m_rd h 334 11)))) (m_w32 (a1 + (m_w32 (16 * a2))))) := hL.wa (TA.le5 (a_336 hL) (by decide))
  have hK := hK.tr (KD.wr : KD h (m_wr h 336 (m_w32 ((m_w32 (400 * (m_rd h 334 11))) + (m_rd h 337 (m_rd h 334 11)))) (m_w32 (a1 + (m_w32 (16 * a2))))))
  obtain ⟨h1, he, hF⟩ := hl_of hF
  refine RK.of (RN.hl he) ?_
  rw [← he] at hL hK
  refine RK.of (RN.blk (ops := [(29, .aload_n 0)]) (pc' := 30) (lv' := [(0, .inr (.inr 334)), (1, .inl a1), (2, .inl a2)]) (st' := [.inr (.inr 334)]) (h' := h1) (cs := []) (by decide +kernel) rfl trivial) ?_
  refine RK.of (RN.gr (i := 17) (ci := 12) (k := 4) (fn := true) (v := 337) (by decide +kernel) rfl (TO.gk (o_334 hL)) (hL.fa (v := 337) 4 1 7 (o_334 hL) rfl (by decide) rfl (by decide)).1) ?_
  obtain ⟨hc, hF⟩ := gd_of hF
  refine RK.of (RN.blk (ops := [(33, .aload_n 0), (34, .getfield 153), (37, .dup2), (38, .iaload), (39, .iconst 1), (40, .iadd), (41, .iastore)]) (pc' := 42) (lv' := [(0, .inr (.inr 334)), (1, .inl a1), (2, .inl a2)]) (st' := []) (h' := (m_wr h1 337 (m_rd h1 334 11) (m_w32 ((m_rd h1 337 (m_rd h1 334 11)) + 1)))) (cs := [GK h1 334 12, GI h1 337 1 (m_rd h1 334 11), GI h1 337 1 (m_rd h1 334 11)]) (by decide +kernel) rfl ⟨(o_334 hL).gk, (a_337 hL).gi hc.1.1 hc.1.2, (a_337 hL).gi hc.1.1 hc.1.2, trivial⟩) ?_
  have hL : LR (m_wr h1 337 (m_rd h1 334 11) (m_w32 ((m_rd h1 337 (m_rd h1 334 11)) + 1))) := hL.wa (TA.le5 (a_337 hL) (by decide))
  have hK := hK.tr (KD.wr : KD h1 (m_wr h1 337 (m_rd h1 334 11) (m_w32 ((m_rd h1 337 (m_rd h1 334 11)) + 1))))
  exact RK.vR (by decide +kernel) rfl hL hK hF
noncomputable def GX12_makes (a1 : Int) (h : MH) : Option (Int × MH) :=
  (if (m_rd h 334 12) = 60 then
   (bd (GX12_fails 3 a1 h) (fun x2 h1 =>
    gd [GT x2] (some (x2, h1))))
  else
   some (1, (m_wr h 334 12 (m_w32 ((m_rd h 334 12) + 1)))))
theorem DX12_makes {d : Nat} {a1 : Int} {h : MH} {r : Int × MH} (hL : LR h) (hF : GX12_makes a1 h = some r) : RN xs L iX12_makes (d + 1) 0 (lvE 0 [.inr (.inr 334), .inl a1]) [] h (RIo r) ∧ LR r.2 ∧ KD h r.2 := by
  unfold GX12_makes at hF
  have hK : KD h h := KD.rf
  show RK xs L iX12_makes (d + 1) 0 (lvE 0 [.inr (.inr 334), .inl a1]) [] h (RIo r) h r.2
  refine RK.of (RN.blk (ops := [(0, .aload_n 0), (1, .getfield 156), (4, .bipush 60)]) (pc' := 6) (lv' := [(0, .inr (.inr 334)), (1, .inl a1)]) (st' := [.inl 60, .inl (m_rd h 334 12)]) (h' := h) (cs := [GK h 334 12]) (by decide +kernel) rfl ⟨(o_334 hL).gk, trivial⟩) ?_
  rcases it_of hF with ⟨hb, hF⟩ | ⟨hb, hF⟩
  · refine RK.of (RN.icf (cd := .ne) (off := 10) (tgt := 16) (by decide +kernel) (mif_nen hb)) ?_
    refine RK.of (RN.blk (ops := [(9, .aload_n 0), (10, .iconst 3), (11, .iload_n 1)]) (pc' := 12) (lv' := [(0, .inr (.inr 334)), (1, .inl a1)]) (st' := [.inl a1, .inl 3, .inr (.inr 334)]) (h' := h) (cs := []) (by decide +kernel) rfl trivial) ?_
    obtain ⟨x2, h1, hG, hF⟩ := bd_of hF
    have hq := rcv_ok (as := [.inl 3, .inl a1]) (TO.gk (o_334 hL))
    obtain ⟨hN, hL, hQ⟩ := DX12_fails (d := d) hL  hG
    refine RK.of (RN.cv (i := 120) (k := 163) (q2 := iX12_fails) (as := [.inr (.inr 334), .inl 3, .inl a1]) (r := []) (v := some (.inl x2)) (h1 := h1) (by decide +kernel) rfl rfl rfl rfl rfl hq hN) ?_
    have hK := hK.tr hQ
    obtain ⟨hc, hF⟩ := gd_of hF
    exact RK.zR (by decide +kernel) rfl hc.1 hL hK hF
  · refine RK.of (RN.ict (cd := .ne) (off := 10) (tgt := 16) (by decide +kernel) (mif_ne hb)) ?_
    refine RK.of (RN.blk (ops := [(16, .aload_n 0), (17, .dup), (18, .getfield 156), (21, .iconst 1), (22, .iadd), (23, .putfield 156)]) (pc' := 26) (lv' := [(0, .inr (.inr 334)), (1, .inl a1)]) (st' := []) (h' := (m_wr h 334 12 (m_w32 ((m_rd h 334 12) + 1)))) (cs := [GK h 334 12, GK h 334 12]) (by decide +kernel) rfl ⟨(o_334 hL).gk, (o_334 hL).gk, trivial⟩) ?_
    have hL : LR (m_wr h 334 12 (m_w32 ((m_rd h 334 12) + 1))) := LR.wf (k := 12) hL (o_334 hL) rfl
    have hK := hK.tr (KD.wr : KD h (m_wr h 334 12 (m_w32 ((m_rd h 334 12) + 1))))
    refine RK.of (RN.blk (ops := [(26, .iconst 1)]) (pc' := 27) (lv' := [(0, .inr (.inr 334)), (1, .inl a1)]) (st' := [.inl 1]) (h' := (m_wr h 334 12 (m_w32 ((m_rd h 334 12) + 1)))) (cs := []) (by decide +kernel) rfl trivial) ?_
    exact RK.zR (by decide +kernel) rfl (Or.inr rfl) hL hK hF
noncomputable def GX12_opens (a1 : Int) (h : MH) : Option (Int × MH) :=
  (if (m_rd h 334 13) = 10 then
   (bd (GX12_fails 2 (m_rd h 334 8) h) (fun x3 h2 =>
    gd [GT x3] (some (x3, h2))))
  else
   gd [IB (m_rd (m_wr h 334 13 (m_w32 ((m_rd h 334 13) + 1))) 334 16) 400] (
    hl (m_wr (m_wr h 334 13 (m_w32 ((m_rd h 334 13) + 1))) 341 (m_rd (m_wr h 334 13 (m_w32 ((m_rd h 334 13) + 1))) 334 16) a1) (fun h1 =>
     some (1, (m_wr h1 334 16 (m_w32 ((m_rd h1 334 16) + 1)))))))
theorem DX12_opens {d : Nat} {a1 : Int} {h : MH} {r : Int × MH} (hL : LR h) (hF : GX12_opens a1 h = some r) : RN xs L iX12_opens (d + 1) 0 (lvE 0 [.inr (.inr 334), .inl a1]) [] h (RIo r) ∧ LR r.2 ∧ KD h r.2 := by
  unfold GX12_opens at hF
  have hK : KD h h := KD.rf
  show RK xs L iX12_opens (d + 1) 0 (lvE 0 [.inr (.inr 334), .inl a1]) [] h (RIo r) h r.2
  refine RK.of (RN.blk (ops := [(0, .aload_n 0), (1, .getfield 159), (4, .bipush 10)]) (pc' := 6) (lv' := [(0, .inr (.inr 334)), (1, .inl a1)]) (st' := [.inl 10, .inl (m_rd h 334 13)]) (h' := h) (cs := [GK h 334 12]) (by decide +kernel) rfl ⟨(o_334 hL).gk, trivial⟩) ?_
  rcases it_of hF with ⟨hb, hF⟩ | ⟨hb, hF⟩
  · refine RK.of (RN.icf (cd := .ne) (off := 13) (tgt := 19) (by decide +kernel) (mif_nen hb)) ?_
    refine RK.of (RN.blk (ops := [(9, .aload_n 0), (10, .iconst 2), (11, .aload_n 0), (12, .getfield 99)]) (pc' := 15) (lv' := [(0, .inr (.inr 334)), (1, .inl a1)]) (st' := [.inl (m_rd h 334 8), .inl 2, .inr (.inr 334)]) (h' := h) (cs := [GK h 334 12]) (by decide +kernel) rfl ⟨(o_334 hL).gk, trivial⟩) ?_
    obtain ⟨x3, h2, hG, hF⟩ := bd_of hF
    have hq := rcv_ok (as := [.inl 2, .inl (m_rd h 334 8)]) (TO.gk (o_334 hL))
    obtain ⟨hN, hL, hQ⟩ := DX12_fails (d := d) hL  hG
    refine RK.of (RN.cv (i := 120) (k := 163) (q2 := iX12_fails) (as := [.inr (.inr 334), .inl 2, .inl (m_rd h 334 8)]) (r := []) (v := some (.inl x3)) (h1 := h2) (by decide +kernel) rfl rfl rfl rfl rfl hq hN) ?_
    have hK := hK.tr hQ
    obtain ⟨hc, hF⟩ := gd_of hF
    exact RK.zR (by decide +kernel) rfl hc.1 hL hK hF
  · refine RK.of (RN.ict (cd := .ne) (off := 13) (tgt := 19) (by decide +kernel) (mif_ne hb)) ?_
    refine RK.of (RN.blk (ops := [(19, .aload_n 0), (20, .dup), (21, .getfield 159), (24, .iconst 1), (25, .iadd), (26, .putfield 159)]) (pc' := 29) (lv' := [(0, .inr (.inr 334)), (1, .inl a1)]) (st' := []) (h' := (m_wr h 334 13 (m_w32 ((m_rd h 334 13) + 1)))) (cs := [GK h 334 12, GK h 334 12]) (by decide +kernel) rfl ⟨(o_334 hL).gk, (o_334 hL).gk, trivial⟩) ?_
    have hL : LR (m_wr h 334 13 (m_w32 ((m_rd h 334 13) + 1))) := LR.wf (k := 13) hL (o_334 hL) rfl
    have hK := hK.tr (KD.wr : KD h (m_wr h 334 13 (m_w32 ((m_rd h 334 13) + 1))))
    refine RK.of (RN.blk (ops := [(29, .aload_n 0)]) (pc' := 30) (lv' := [(0, .inr (.inr 334)), (1, .inl a1)]) (st' := [.inr (.inr 334)]) (h' := (m_wr h 334 13 (m_w32 ((m_rd h 334 13) + 1)))) (cs := []) (by decide +kernel) rfl trivial) ?_
    refine RK.of (RN.gr (i := 29) (ci := 12) (k := 15) (fn := true) (v := 341) (by decide +kernel) rfl (TO.gk (o_334 hL)) (hL.fa (v := 341) 15 1 400 (o_334 hL) rfl (by decide) rfl (by decide)).1) ?_
    obtain ⟨hc, hF⟩ := gd_of hF
    refine RK.of (RN.blk (ops := [(33, .aload_n 0), (34, .getfield 162), (37, .iload_n 1), (38, .iastore)]) (pc' := 39) (lv' := [(0, .inr (.inr 334)), (1, .inl a1)]) (st' := []) (h' := (m_wr (m_wr h 334 13 (m_w32 ((m_rd h 334 13) + 1))) 341 (m_rd (m_wr h 334 13 (m_w32 ((m_rd h 334 13) + 1))) 334 16) a1)) (cs := [GK (m_wr h 334 13 (m_w32 ((m_rd h 334 13) + 1))) 334 12, GI (m_wr h 334 13 (m_w32 ((m_rd h 334 13) + 1))) 341 1 (m_rd (m_wr h 334 13 (m_w32 ((m_rd h 334 13) + 1))) 334 16)]) (by decide +kernel) rfl ⟨(o_334 hL).gk, (a_341 hL).gi hc.1.1 hc.1.2, trivial⟩) ?_
    have hL : LR (m_wr (m_wr h 334 13 (m_w32 ((m_rd h 334 13) + 1))) 341 (m_rd (m_wr h 334 13 (m_w32 ((m_rd h 334 13) + 1))) 334 16) a1) := hL.wa (TA.le5 (a_341 hL) (by decide))
    have hK := hK.tr (KD.wr : KD (m_wr h 334 13 (m_w32 ((m_rd h 334 13) + 1))) (m_wr (m_wr h 334 13 (m_w32 ((m_rd h 334 13) + 1))) 341 (m_rd (m_wr h 334 13 (m_w32 ((m_rd h 334 13) + 1))) 334 16) a1))
    obtain ⟨h1, he, hF⟩ := hl_of hF
    refine RK.of (RN.hl he) ?_
    rw [← he] at hL hK
    refine RK.of (RN.blk (ops := [(39, .aload_n 0), (40, .dup), (41, .getfield 162), (44, .iconst 1), (45, .iadd), (46, .putfield 162)]) (pc' := 49) (lv' := [(0, .inr (.inr 334)), (1, .inl a1)]) (st' := []) (h' := (m_wr h1 334 16 (m_w32 ((m_rd h1 334 16) + 1)))) (cs := [GK h1 334 12, GK h1 334 12]) (by decide +kernel) rfl ⟨(o_334 hL).gk, (o_334 hL).gk, trivial⟩) ?_
    have hL : LR (m_wr h1 334 16 (m_w32 ((m_rd h1 334 16) + 1))) := LR.wf (k := 16) hL (o_334 hL) rfl
    have hK := hK.tr (KD.wr : KD h1 (m_wr h1 334 16 (m_w32 ((m_rd h1 334 16) + 1))))
    refine RK.of (RN.blk (ops := [(49, .iconst 1)]) (pc' := 50) (lv' := [(0, .inr (.inr 334)), (1, .inl a1)]) (st' := [.inl 1]) (h' := (m_wr h1 334 16 (m_w32 ((m_rd h1 334 16) + 1)))) (cs := []) (by decide +kernel) rfl trivial) ?_
    exact RK.zR (by decide +kernel) rfl (Or.inr rfl) hL hK hF
noncomputable def GX12_strength (a1 : Int) (h : MH) : Option (Int × MH) :=
  (if a1 = 13 then
   some (1, h)
  else
   (if a1 = 12 then
    some (2, h)
   else
    (if a1 = 11 then
     some (3, h)
    else
     some (0, h))))
theorem DX12_strength {d : Nat} {a1 : Int} {h : MH} {r : Int × MH} (hL : LR h) (hF : GX12_strength a1 h = some r) : RN xs L iX12_strength (d) 0 (lvE 0 [.inl a1]) [] h (RIo r) ∧ LR r.2 ∧ KD h r.2 := by
  unfold GX12_strength at hF
  have hK : KD h h := KD.rf
  show RK xs L iX12_strength (d) 0 (lvE 0 [.inl a1]) [] h (RIo r) h r.2
  refine RK.of (RN.blk (ops := [(0, .iload_n 0), (1, .bipush 13)]) (pc' := 3) (lv' := [(0, .inl a1)]) (st' := [.inl 13, .inl a1]) (h' := h) (cs := []) (by decide +kernel) rfl trivial) ?_
  rcases it_of hF with ⟨hb, hF⟩ | ⟨hb, hF⟩
  · refine RK.of (RN.icf (cd := .ne) (off := 7) (tgt := 10) (by decide +kernel) (mif_nen hb)) ?_
    refine RK.of (RN.blk (ops := [(6, .iconst 1)]) (pc' := 7) (lv' := [(0, .inl a1)]) (st' := [.inl 1]) (h' := h) (cs := []) (by decide +kernel) rfl trivial) ?_
    refine RK.of (RN.goto (off := 24) (tgt := 31) (by decide +kernel)) ?_
    exact RK.iR (by decide +kernel) rfl hL hK hF
  · refine RK.of (RN.ict (cd := .ne) (off := 7) (tgt := 10) (by decide +kernel) (mif_ne hb)) ?_
    refine RK.of (RN.blk (ops := [(10, .iload_n 0), (11, .bipush 12)]) (pc' := 13) (lv' := [(0, .inl a1)]) (st' := [.inl 12, .inl a1]) (h' := h) (cs := []) (by decide +kernel) rfl trivial) ?_
    rcases it_of hF with ⟨hb, hF⟩ | ⟨hb, hF⟩
    · refine RK.of (RN.icf (cd := .ne) (off := 7) (tgt := 20) (by decide +kernel) (mif_nen hb)) ?_
      refine RK.of (RN.blk (ops := [(16, .iconst 2)]) (pc' := 17) (lv' := [(0, .inl a1)]) (st' := [.inl 2]) (h' := h) (cs := []) (by decide +kernel) rfl trivial) ?_
      refine RK.of (RN.goto (off := 14) (tgt := 31) (by decide +kernel)) ?_
      exact RK.iR (by decide +kernel) rfl hL hK hF
    · refine RK.of (RN.ict (cd := .ne) (off := 7) (tgt := 20) (by decide +kernel) (mif_ne hb)) ?_
      refine RK.of (RN.blk (ops := [(20, .iload_n 0), (21, .bipush 11)]) (pc' := 23) (lv' := [(0, .inl a1)]) (st' := [.inl 11, .inl a1]) (h' := h) (cs := []) (by decide +kernel) rfl trivial) ?_
      rcases it_of hF with ⟨hb, hF⟩ | ⟨hb, hF⟩
      · refine RK.of (RN.icf (cd := .ne) (off := 7) (tgt := 30) (by decide +kernel) (mif_nen hb)) ?_
        refine RK.of (RN.blk (ops := [(26, .iconst 3)]) (pc' := 27) (lv' := [(0, .inl a1)]) (st' := [.inl 3]) (h' := h) (cs := []) (by decide +kernel) rfl trivial) ?_
        refine RK.of (RN.goto (off := 4) (tgt := 31) (by decide +kernel)) ?_
        exact RK.iR (by decide +kernel) rfl hL hK hF
      · refine RK.of (RN.ict (cd := .ne) (off := 7) (tgt := 30) (by decide +kernel) (mif_ne hb)) ?_
        refine RK.of (RN.blk (ops := [(30, .iconst 0)]) (pc' := 31) (lv' := [(0, .inl a1)]) (st' := [.inl 0]) (h' := h) (cs := []) (by decide +kernel) rfl trivial) ?_
        exact RK.iR (by decide +kernel) rfl hL hK hF
noncomputable def GX12_layDown_L0 (u1 : Int) (K0 : MH → Option (MH)) : Nat → MH → Option (MH)
  | 0, _ => none
  | f + 1, h =>
    (if 0 < (m_rd h 334 16) then
     gd [IB (m_w32 ((m_rd h 334 16) - 1)) 400] (
      (bd (GX12_strength (m_rd h 341 (m_w32 ((m_rd h 334 16) - 1))) h) (fun x2 h1 =>
       (if x2 < u1 then
        K0 h1
       else
        gd [IB (m_rd (m_wr h1 334 16 (m_w32 ((m_rd h1 334 16) - 1))) 334 16) 400] (
         (bv (GX12_puts (m_rd (m_wr h1 334 16 (m_w32 ((m_rd h1 334 16) - 1))) 341 (m_rd (m_wr h1 334 16 (m_w32 ((m_rd h1 334 16) - 1))) 334 16)) 0 (m_wr h1 334 16 (m_w32 ((m_rd h1 334 16) - 1)))) (fun h3 =>
          gd [IB (m_rd h3 334 16) 400] (
           (if (m_rd h3 341 (m_rd h3 334 16)) = 11 then
            GX12_layDown_L0 u1 K0 f (m_wr h3 334 13 (m_w32 ((m_rd h3 334 13) - 1)))
           else
            GX12_layDown_L0 u1 K0 f h3)))))))))
    else
     K0 h)
theorem DX12_layDown_L0 {d : Nat} {u1 : Int} {K0 : MH → Option (MH)} {r : MH} {h0 hB : MH} (hB0 : KD h0 hB) (hK0 : ∀ (h : MH), LR h → KD hB h → K0 h = some r → RK xs L iX12_layDown (d + 1) 76 [] [] h (RVo r) h0 r) : ∀ (f : Nat) (h : MH), LR h → KD hB h → GX12_layDown_L0 u1 K0 f  h = some r → RK xs L iX12_layDown (d + 1) 0 [(0, .inr (.inr 334)), (1, .inl u1)] [] h (RVo r) h0 r := by
  intro f
  induction f with
  | zero =>
    intro h hL hJ hF
    cases hF
  | succ f ih =>
    intro h hL hJ hF
    unfold GX12_layDown_L0 at hF
    have hK := hB0.tr hJ
    refine RK.of (RN.blk (ops := [(0, .aload_n 0), (1, .getfield 162)]) (pc' := 4) (lv' := [(0, .inr (.inr 334)), (1, .inl u1)]) (st' := [.inl (m_rd h 334 16)]) (h' := h) (cs := [GK h 334 12]) (by decide +kernel) rfl ⟨(o_334 hL).gk, trivial⟩) ?_
    rcases it_of hF with ⟨hb, hF⟩ | ⟨hb, hF⟩
    · refine RK.of (RN.iff (cd := .le) (off := 72) (tgt := 76) (by decide +kernel) (mif_len hb)) ?_
      refine RK.of (RN.blk (ops := [(7, .aload_n 0)]) (pc' := 8) (lv' := [(0, .inr (.inr 334)), (1, .inl u1)]) (st' := [.inr (.inr 334)]) (h' := h) (cs := []) (by decide +kernel) rfl trivial) ?_
      refine RK.of (RN.gr (i := 29) (ci := 12) (k := 15) (fn := true) (v := 341) (by decide +kernel) rfl (TO.gk (o_334 hL)) (hL.fa (v := 341) 15 1 400 (o_334 hL) rfl (by decide) rfl (by decide)).1) ?_
      obtain ⟨hc, hF⟩ := gd_of hF
      refine RK.of (RN.blk (ops := [(11, .aload_n 0), (12, .getfield 162), (15, .iconst 1), (16, .isub), (17, .iaload)]) (pc' := 18) (lv' := [(0, .inr (.inr 334)), (1, .inl u1)]) (st' := [.inl (m_rd h 341 (m_w32 ((m_rd h 334 16) - 1)))]) (h' := h) (cs := [GK h 334 12, GI h 341 1 (m_w32 ((m_rd h 334 16) - 1))]) (by decide +kernel) rfl ⟨(o_334 hL).gk, (a_341 hL).gi hc.1.1 hc.1.2, trivial⟩) ?_
      obtain ⟨x2, h1, hG, hF⟩ := bd_of hF
      obtain ⟨hN, hL, hQ⟩ := DX12_strength (d := d) hL  hG
      refine RK.of (RN.cst (i := 165) (k := 175) (q2 := iX12_strength) (as := [.inl (m_rd h 341 (m_w32 ((m_rd h 334 16) - 1)))]) (r := []) (v := some (.inl x2)) (h1 := h1) (by decide +kernel) rfl rfl rfl rfl rfl hN) ?_
      have hK := hK.tr hQ
      have hJ := hJ.tr hQ
      refine RK.of (RN.blk (ops := [(21, .iload_n 1)]) (pc' := 22) (lv' := [(0, .inr (.inr 334)), (1, .inl u1)]) (st' := [.inl u1, .inl x2]) (h' := h1) (cs := []) (by decide +kernel) rfl trivial) ?_
      rcases it_of hF with ⟨hb, hF⟩ | ⟨hb, hF⟩
      · refine RK.of (RN.ict (cd := .lt) (off := 54) (tgt := 76) (by decide +kernel) (mif_lt hb)) ?_
        exact RK.sub (hK0 _ hL hJ hF) sub_nil
      · refine RK.of (RN.icf (cd := .lt) (off := 54) (tgt := 76) (by decide +kernel) (mif_ltn hb)) ?_
        refine RK.of (RN.blk (ops := [(25, .aload_n 0), (26, .dup), (27, .getfield 162), (30, .iconst 1), (31, .isub), (32, .putfield 162)]) (pc' := 35) (lv' := [(0, .inr (.inr 334)), (1, .inl u1)]) (st' := []) (h' := (m_wr h1 334 16 (m_w32 ((m_rd h1 334 16) - 1)))) (cs := [GK h1 334 12, GK h1 334 12]) (by decide +kernel) rfl ⟨(o_334 hL).gk, (o_334 hL).gk, trivial⟩) ?_
        have hL : LR (m_wr h1 334 16 (m_w32 ((m_rd h1 334 16) - 1))) := LR.wf (k := 16) hL (o_334 hL) rfl
        have hK := hK.tr (KD.wr : KD h1 (m_wr h1 334 16 (m_w32 ((m_rd h1 334 16) - 1))))
        have hJ := hJ.tr (KD.wr : KD h1 (m_wr h1 334 16 (m_w32 ((m_rd h1 334 16) - 1))))
        refine RK.of (RN.blk (ops := [(35, .aload_n 0), (36, .aload_n 0)]) (pc' := 37) (lv' := [(0, .inr (.inr 334)), (1, .inl u1)]) (st' := [.inr (.inr 334), .inr (.inr 334)]) (h' := (m_wr h1 334 16 (m_w32 ((m_rd h1 334 16) - 1)))) (cs := []) (by decide +kernel) rfl trivial) ?_
        refine RK.of (RN.gr (i := 29) (ci := 12) (k := 15) (fn := true) (v := 341) (by decide +kernel) rfl (TO.gk (o_334 hL)) (hL.fa (v := 341) 15 1 400 (o_334 hL) rfl (by decide) rfl (by decide)).1) ?_
        obtain ⟨hc, hF⟩ := gd_of hF
        refine RK.of (RN.blk (ops := [(40, .aload_n 0), (41, .getfield 162), (44, .iaload), (45, .iconst 0)]) (pc' := 46) (lv' := [(0, .inr (.inr 334)), (1, .inl u1)]) (st' := [.inl 0, .inl (m_rd (m_wr h1 334 16 (m_w32 ((m_rd h1 334 16) - 1))) 341 (m_rd (m_wr h1 334 16 (m_w32 ((m_rd h1 334 16) - 1))) 334 16)), .inr (.inr 334)]) (h' := (m_wr h1 334 16 (m_w32 ((m_rd h1 334 16) - 1)))) (cs := [GK (m_wr h1 334 16 (m_w32 ((m_rd h1 334 16) - 1))) 334 12, GI (m_wr h1 334 16 (m_w32 ((m_rd h1 334 16) - 1))) 341 1 (m_rd (m_wr h1 334 16 (m_w32 ((m_rd h1 334 16) - 1))) 334 16)]) (by decide +kernel) rfl ⟨(o_334 hL).gk, (a_341 hL).gi hc.1.1 hc.1.2, trivial⟩) ?_
        obtain ⟨h3, hG, hF⟩ := bv_of hF
        have hq := rcv_ok (as := [.inl (m_rd (m_wr h1 334 16 (m_w32 ((m_rd h1 334 16) - 1))) 341 (m_rd (m_wr h1 334 16 (m_w32 ((m_rd h1 334 16) - 1))) 334 16)), .inl 0]) (TO.gk (o_334 hL))
        obtain ⟨hN, hL, hQ⟩ := DX12_puts (d := d) hL  hG
        refine RK.of (RN.cv (i := 169) (k := 172) (q2 := iX12_puts) (as := [.inr (.inr 334), .inl (m_rd (m_wr h1 334 16 (m_w32 ((m_rd h1 334 16) - 1))) 341 (m_rd (m_wr h1 334 16 (m_w32 ((m_rd h1 334 16) - 1))) 334 16)), .inl 0]) (r := []) (v := none) (h1 := h3) (by decide +kernel) rfl rfl rfl rfl rfl hq hN) ?_
        have hK := hK.tr hQ
        have hJ := hJ.tr hQ
        refine RK.of (RN.blk (ops := [(49, .aload_n 0)]) (pc' := 50) (lv' := [(0, .inr (.inr 334)), (1, .inl u1)]) (st' := [.inr (.inr 334)]) (h' := h3) (cs := []) (by decide +kernel) rfl trivial) ?_
        refine RK.of (RN.gr (i := 29) (ci := 12) (k := 15) (fn := true) (v := 341) (by decide +kernel) rfl (TO.gk (o_334 hL)) (hL.fa (v := 341) 15 1 400 (o_334 hL) rfl (by decide) rfl (by decide)).1) ?_
        obtain ⟨hc, hF⟩ := gd_of hF
        refine RK.of (RN.blk (ops := [(53, .aload_n 0), (54, .getfield 162), (57, .iaload), (58, .bipush 11)]) (pc' := 60) (lv' := [(0, .inr (.inr 334)), (1, .inl u1)]) (st' := [.inl 11, .inl (m_rd h3 341 (m_rd h3 334 16))]) (h' := h3) (cs := [GK h3 334 12, GI h3 341 1 (m_rd h3 334 16)]) (by decide +kernel) rfl ⟨(o_334 hL).gk, (a_341 hL).gi hc.1.1 hc.1.2, trivial⟩) ?_
        rcases it_of hF with ⟨hb, hF⟩ | ⟨hb, hF⟩
        · refine RK.of (RN.icf (cd := .ne) (off := -60) (tgt := 0) (by decide +kernel) (mif_nen hb)) ?_
          refine RK.of (RN.blk (ops := [(63, .aload_n 0), (64, .dup), (65, .getfield 159), (68, .iconst 1), (69, .isub), (70, .putfield 159)]) (pc' := 73) (lv' := [(0, .inr (.inr 334)), (1, .inl u1)]) (st' := []) (h' := (m_wr h3 334 13 (m_w32 ((m_rd h3 334 13) - 1)))) (cs := [GK h3 334 12, GK h3 334 12]) (by decide +kernel) rfl ⟨(o_334 hL).gk, (o_334 hL).gk, trivial⟩) ?_
          have hL : LR (m_wr h3 334 13 (m_w32 ((m_rd h3 334 13) - 1))) := LR.wf (k := 13) hL (o_334 hL) rfl
          have hK := hK.tr (KD.wr : KD h3 (m_wr h3 334 13 (m_w32 ((m_rd h3 334 13) - 1))))
          have hJ := hJ.tr (KD.wr : KD h3 (m_wr h3 334 13 (m_w32 ((m_rd h3 334 13) - 1))))
          refine RK.of (RN.goto (off := -73) (tgt := 0) (by decide +kernel)) ?_
          exact RK.sub (ih _ hL hJ hF) (sub_cons rfl (sub_cons rfl sub_nil))
        · refine RK.of (RN.ict (cd := .ne) (off := -60) (tgt := 0) (by decide +kernel) (mif_ne hb)) ?_
          exact RK.sub (ih _ hL hJ hF) (sub_cons rfl (sub_cons rfl sub_nil))
    · refine RK.of (RN.ift (cd := .le) (off := 72) (tgt := 76) (by decide +kernel) (mif_le hb)) ?_
      exact RK.sub (hK0 _ hL hJ hF) sub_nil
noncomputable def GX12_layDown (a1 : Int) (h : MH) : Option (MH) :=
  GX12_layDown_L0 a1 (fun h1 =>
   some h1) FU h
theorem DX12_layDown {d : Nat} {a1 : Int} {h : MH} {r : MH} (hL : LR h) (hF : GX12_layDown a1 h = some r) : RN xs L iX12_layDown (d + 1) 0 (lvE 0 [.inr (.inr 334), .inl a1]) [] h (RVo r) ∧ LR r ∧ KD h r := by
  unfold GX12_layDown at hF
  have hK : KD h h := KD.rf
  show RK xs L iX12_layDown (d + 1) 0 (lvE 0 [.inr (.inr 334), .inl a1]) [] h (RVo r) h r
  refine RK.sub (DX12_layDown_L0 hK ?_ _ _ hL KD.rf hF) (sub_cons rfl (sub_cons rfl sub_nil))
  · intro h1 hL hq hF
    have hK := hK.tr hq
    exact RK.vR (by decide +kernel) rfl hL hK hF
end Gc
