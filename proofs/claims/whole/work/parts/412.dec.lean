/-! METHODS AS FUNCTIONS, and their certificates (by program): X12_isLetterToldHere, X12_frameLineHere, X12_isFrameWord, X12_clauseHere, X12_readsAll, X12_rule, X12_begins, X12_frame, X12_isRule, X12_push, X12_pop, X12_sumOfTwo, X12_reckons -/
section Dc
variable {xs : Int → Int} {L : Int}
noncomputable def FX12_isLetterToldHere (t : Int) (a1 : Int) (h : MH) : Option (Int × MH) :=
  gd [GK h t 12, GI h (m_rd h t 7) 1 5] (
   (if (m_rd h (m_rd h t 7) 5) = 12 then
    gd [GK h t 12] (bd (FX12_fails t 4 a1 h) (fun x7 h6 =>
     gd [GT x7] (some (x7, h6))))
   else
    gd [GK h t 12] (bv (FX12_passWord t h) (fun h1 =>
     gd [GK h1 t 12, GI h1 (m_rd h1 t 7) 1 5, GK h1 t 12, GI h1 (m_rd h1 t 7) 1 1, GK h1 t 12, GI h1 (m_rd h1 t 7) 1 2] (
      (bd (FX12_power (m_rd h1 (m_rd h1 t 7) 1) (m_rd h1 (m_rd h1 t 7) 2) h1) (fun x3 h2 =>
       gd [GK h2 t 12] (bd (FX12_cellHere t (m_w32 (124 + (m_rd h1 (m_rd h1 t 7) 5))) 0 (m_w32 (x3 - 1)) h2) (fun x5 h4 =>
        (if x5 = 0 then
         some (0, h4)
        else
         gd [GK h4 t 12, GI h4 (m_rd h4 t 7) 1 5, GI h4 (m_rd h4 t 7) 1 5] (
          some (1, (m_wr h4 (m_rd h4 t 7) 5 (m_w32 ((m_rd h4 (m_rd h4 t 7) 5) + 1)))))))))))))))
theorem CX12_isLetterToldHere {d : Nat} {t : Int} {a1 : Int} {h : MH} {r : Int × MH} (hF : FX12_isLetterToldHere t a1 h = some r) : RN xs L iX12_isLetterToldHere (d + 3) 0 (lvE 0 [.inr (.inr t), .inl a1]) [] h (RIo r) := by
  unfold FX12_isLetterToldHere at hF
  obtain ⟨hc, hF⟩ := gd_of hF
  refine RN.blk (ops := [(0, .aload_n 0), (1, .getfield 26), (4, .iconst 5), (5, .iaload), (6, .bipush 12)]) (pc' := 8) (lv' := [(0, .inr (.inr t)), (1, .inl a1)]) (st' := [.inl 12, .inl (m_rd h (m_rd h t 7) 5)]) (h' := h) (cs := [GK h t 12, GI h (m_rd h t 7) 1 5]) (by decide +kernel) rfl hc ?_
  rcases it_of hF with ⟨hb, hF⟩ | ⟨hb, hF⟩
  · refine RN.icf (cd := .ne) (off := 10) (tgt := 18) (by decide +kernel) (mif_nen hb) ?_
    refine RN.blk (ops := [(11, .aload_n 0), (12, .iconst 4), (13, .iload_n 1)]) (pc' := 14) (lv' := [(0, .inr (.inr t)), (1, .inl a1)]) (st' := [.inl a1, .inl 4, .inr (.inr t)]) (h' := h) (cs := []) (by decide +kernel) rfl trivial ?_
    obtain ⟨hc, hF⟩ := gd_of hF
    obtain ⟨x7, h6, hG, hF⟩ := bd_of hF
    refine RN.cv (i := 120) (k := 163) (q2 := iX12_fails) (as := [.inr (.inr t), .inl 4, .inl a1]) (r := []) (v := some (.inl x7)) (h1 := h6) (by decide +kernel) rfl rfl rfl rfl rfl (rcv_ok hc.1) (CX12_fails (d := d + 2) hG) ?_
    obtain ⟨hc, hF⟩ := gd_of hF
    exact RN.zR (by decide +kernel) rfl hc.1 hF
  · refine RN.ict (cd := .ne) (off := 10) (tgt := 18) (by decide +kernel) (mif_ne hb) ?_
    refine RN.blk (ops := [(18, .aload_n 0)]) (pc' := 19) (lv' := [(0, .inr (.inr t)), (1, .inl a1)]) (st' := [.inr (.inr t)]) (h' := h) (cs := []) (by decide +kernel) rfl trivial ?_
    obtain ⟨hc, hF⟩ := gd_of hF
    obtain ⟨h1, hG, hF⟩ := bv_of hF
    refine RN.cv (i := 114) (k := 168) (q2 := iX12_passWord) (as := [.inr (.inr t)]) (r := []) (v := none) (h1 := h1) (by decide +kernel) rfl rfl rfl rfl rfl (rcv_ok hc.1) (CX12_passWord (d := d + 1) hG) ?_
    obtain ⟨hc, hF⟩ := gd_of hF
    refine RN.blk (ops := [(22, .aload_n 0), (23, .bipush 124), (25, .aload_n 0), (26, .getfield 26), (29, .iconst 5), (30, .iaload), (31, .iadd), (32, .iconst 0), (33, .aload_n 0), (34, .getfield 26), (37, .iconst 1), (38, .iaload), (39, .aload_n 0), (40, .getfield 26), (43, .iconst 2), (44, .iaload)]) (pc' := 45) (lv' := [(0, .inr (.inr t)), (1, .inl a1)]) (st' := [.inl (m_rd h1 (m_rd h1 t 7) 2), .inl (m_rd h1 (m_rd h1 t 7) 1), .inl 0, .inl (m_w32 (124 + (m_rd h1 (m_rd h1 t 7) 5))), .inr (.inr t)]) (h' := h1) (cs := [GK h1 t 12, GI h1 (m_rd h1 t 7) 1 5, GK h1 t 12, GI h1 (m_rd h1 t 7) 1 1, GK h1 t 12, GI h1 (m_rd h1 t 7) 1 2]) (by decide +kernel) rfl hc ?_
    obtain ⟨x3, h2, hG, hF⟩ := bd_of hF
    refine RN.cst (i := 229) (k := 159) (q2 := iX12_power) (as := [.inl (m_rd h1 (m_rd h1 t 7) 1), .inl (m_rd h1 (m_rd h1 t 7) 2)]) (r := [.inl 0, .inl (m_w32 (124 + (m_rd h1 (m_rd h1 t 7) 5))), .inr (.inr t)]) (v := some (.inl x3)) (h1 := h2) (by decide +kernel) rfl rfl rfl rfl rfl (CX12_power (d := d + 2) hG) ?_
    refine RN.blk (ops := [(48, .iconst 1), (49, .isub)]) (pc' := 50) (lv' := [(0, .inr (.inr t)), (1, .inl a1)]) (st' := [.inl (m_w32 (x3 - 1)), .inl 0, .inl (m_w32 (124 + (m_rd h1 (m_rd h1 t 7) 5))), .inr (.inr t)]) (h' := h2) (cs := []) (by decide +kernel) rfl trivial ?_
    obtain ⟨hc, hF⟩ := gd_of hF
    obtain ⟨x5, h4, hG, hF⟩ := bd_of hF
    refine RN.cv (i := 225) (k := 186) (q2 := iX12_cellHere) (as := [.inr (.inr t), .inl (m_w32 (124 + (m_rd h1 (m_rd h1 t 7) 5))), .inl 0, .inl (m_w32 (x3 - 1))]) (r := []) (v := some (.inl x5)) (h1 := h4) (by decide +kernel) rfl rfl rfl rfl rfl (rcv_ok hc.1) (CX12_cellHere (d := d) hG) ?_
    rcases it_of hF with ⟨hb, hF⟩ | ⟨hb, hF⟩
    · refine RN.iff (cd := .ne) (off := 5) (tgt := 58) (by decide +kernel) (mif_nen hb) ?_
      refine RN.blk (ops := [(56, .iconst 0)]) (pc' := 57) (lv' := [(0, .inr (.inr t)), (1, .inl a1)]) (st' := [.inl 0]) (h' := h4) (cs := []) (by decide +kernel) rfl trivial ?_
      exact RN.zR (by decide +kernel) rfl (Or.inl rfl) hF
    · refine RN.ift (cd := .ne) (off := 5) (tgt := 58) (by decide +kernel) (mif_ne hb) ?_
      obtain ⟨hc, hF⟩ := gd_of hF
      refine RN.blk (ops := [(58, .aload_n 0), (59, .getfield 26), (62, .iconst 5), (63, .dup2), (64, .iaload), (65, .iconst 1), (66, .iadd), (67, .iastore), (68, .iconst 1)]) (pc' := 69) (lv' := [(0, .inr (.inr t)), (1, .inl a1)]) (st' := [.inl 1]) (h' := (m_wr h4 (m_rd h4 t 7) 5 (m_w32 ((m_rd h4 (m_rd h4 t 7) 5) + 1)))) (cs := [GK h4 t 12, GI h4 (m_rd h4 t 7) 1 5, GI h4 (m_rd h4 t 7) 1 5]) (by decide +kernel) rfl hc ?_
      exact RN.zR (by decide +kernel) rfl (Or.inr rfl) hF
noncomputable def FX12_frameLineHere (t : Int) (a1 : Int) (h : MH) : Option (Int × MH) :=
  gd [GK h t 12] (bd (FX12_isWord t 440005651813 h) (fun x2 h1 =>
   (if x2 = 0 then
    gd [GK h1 t 12, GI h1 (m_rd h1 t 7) 1 0] (
     (if (m_rd h1 (m_rd h1 t 7) 0) = 0 then
      gd [GK h1 t 12] (bd (FX12_fails t 4 a1 h1) (fun x14 h13 =>
       gd [GT x14] (some (x14, h13))))
     else
      gd [GK h1 t 12] (bd (FX12_isWord t 1919905645 h1) (fun x4 h3 =>
       (if x4 = 0 then
        gd [GK h3 t 12] (bd (FX12_isWord t 1886151022 h3) (fun x6 h5 =>
         (if x6 = 0 then
          gd [GK h5 t 12] (bd (FX12_isLetterToldHere t a1 h5) (fun x8 h7 =>
           gd [GT x8] (some (x8, h7))))
         else
          gd [GK h5 t 12] (bd (FX12_isPlanHere t a1 h5) (fun x10 h9 =>
           gd [GT x10] (some (x10, h9)))))))
       else
        gd [GK h3 t 12] (bd (FX12_isRoomHere t h3) (fun x12 h11 =>
         gd [GT x12] (some (x12, h11)))))))))
   else
    gd [GK h1 t 12] (bd (FX12_isFrameHere t a1 h1) (fun x16 h15 =>
     gd [GT x16] (some (x16, h15)))))))
theorem CX12_frameLineHere {d : Nat} {t : Int} {a1 : Int} {h : MH} {r : Int × MH} (hF : FX12_frameLineHere t a1 h = some r) : RN xs L iX12_frameLineHere (d + 4) 0 (lvE 0 [.inr (.inr t), .inl a1]) [] h (RIo r) := by
  unfold FX12_frameLineHere at hF
  refine RN.blk (ops := [(0, .aload_n 0), (1, .ldc2_w 233)]) (pc' := 4) (lv' := [(0, .inr (.inr t)), (1, .inl a1)]) (st' := [.inr (.inl 440005651813), .inr (.inr t)]) (h' := h) (cs := []) (by decide +kernel) rfl trivial ?_
  obtain ⟨hc, hF⟩ := gd_of hF
  obtain ⟨x2, h1, hG, hF⟩ := bd_of hF
  refine RN.cv (i := 110) (k := 167) (q2 := iX12_isWord) (as := [.inr (.inr t), .inr (.inl 440005651813)]) (r := []) (v := some (.inl x2)) (h1 := h1) (by decide +kernel) rfl rfl rfl rfl rfl (rcv_ok hc.1) (CX12_isWord (d := d + 2) hG) ?_
  rcases it_of hF with ⟨hb, hF⟩ | ⟨hb, hF⟩
  · refine RN.ift (cd := .eq) (off := 9) (tgt := 16) (by decide +kernel) (mif_eq hb) ?_
    obtain ⟨hc, hF⟩ := gd_of hF
    refine RN.blk (ops := [(16, .aload_n 0), (17, .getfield 26), (20, .iconst 0), (21, .iaload)]) (pc' := 22) (lv' := [(0, .inr (.inr t)), (1, .inl a1)]) (st' := [.inl (m_rd h1 (m_rd h1 t 7) 0)]) (h' := h1) (cs := [GK h1 t 12, GI h1 (m_rd h1 t 7) 1 0]) (by decide +kernel) rfl hc ?_
    rcases it_of hF with ⟨hb, hF⟩ | ⟨hb, hF⟩
    · refine RN.iff (cd := .ne) (off := 10) (tgt := 32) (by decide +kernel) (mif_nen hb) ?_
      refine RN.blk (ops := [(25, .aload_n 0), (26, .iconst 4), (27, .iload_n 1)]) (pc' := 28) (lv' := [(0, .inr (.inr t)), (1, .inl a1)]) (st' := [.inl a1, .inl 4, .inr (.inr t)]) (h' := h1) (cs := []) (by decide +kernel) rfl trivial ?_
      obtain ⟨hc, hF⟩ := gd_of hF
      obtain ⟨x14, h13, hG, hF⟩ := bd_of hF
      refine RN.cv (i := 120) (k := 163) (q2 := iX12_fails) (as := [.inr (.inr t), .inl 4, .inl a1]) (r := []) (v := some (.inl x14)) (h1 := h13) (by decide +kernel) rfl rfl rfl rfl rfl (rcv_ok hc.1) (CX12_fails (d := d + 3) hG) ?_
      obtain ⟨hc, hF⟩ := gd_of hF
      exact RN.zR (by decide +kernel) rfl hc.1 hF
    · refine RN.ift (cd := .ne) (off := 10) (tgt := 32) (by decide +kernel) (mif_ne hb) ?_
      refine RN.blk (ops := [(32, .aload_n 0), (33, .ldc2_w 143)]) (pc' := 36) (lv' := [(0, .inr (.inr t)), (1, .inl a1)]) (st' := [.inr (.inl 1919905645), .inr (.inr t)]) (h' := h1) (cs := []) (by decide +kernel) rfl trivial ?_
      obtain ⟨hc, hF⟩ := gd_of hF
      obtain ⟨x4, h3, hG, hF⟩ := bd_of hF
      refine RN.cv (i := 110) (k := 167) (q2 := iX12_isWord) (as := [.inr (.inr t), .inr (.inl 1919905645)]) (r := []) (v := some (.inl x4)) (h1 := h3) (by decide +kernel) rfl rfl rfl rfl rfl (rcv_ok hc.1) (CX12_isWord (d := d + 2) hG) ?_
      rcases it_of hF with ⟨hb, hF⟩ | ⟨hb, hF⟩
      · refine RN.ift (cd := .eq) (off := 8) (tgt := 47) (by decide +kernel) (mif_eq hb) ?_
        refine RN.blk (ops := [(47, .aload_n 0), (48, .ldc2_w 241)]) (pc' := 51) (lv' := [(0, .inr (.inr t)), (1, .inl a1)]) (st' := [.inr (.inl 1886151022), .inr (.inr t)]) (h' := h3) (cs := []) (by decide +kernel) rfl trivial ?_
        obtain ⟨hc, hF⟩ := gd_of hF
        obtain ⟨x6, h5, hG, hF⟩ := bd_of hF
        refine RN.cv (i := 110) (k := 167) (q2 := iX12_isWord) (as := [.inr (.inr t), .inr (.inl 1886151022)]) (r := []) (v := some (.inl x6)) (h1 := h5) (by decide +kernel) rfl rfl rfl rfl rfl (rcv_ok hc.1) (CX12_isWord (d := d + 2) hG) ?_
        rcases it_of hF with ⟨hb, hF⟩ | ⟨hb, hF⟩
        · refine RN.ift (cd := .eq) (off := 11) (tgt := 65) (by decide +kernel) (mif_eq hb) ?_
          refine RN.blk (ops := [(65, .aload_n 0), (66, .iload_n 1)]) (pc' := 67) (lv' := [(0, .inr (.inr t)), (1, .inl a1)]) (st' := [.inl a1, .inr (.inr t)]) (h' := h5) (cs := []) (by decide +kernel) rfl trivial ?_
          obtain ⟨hc, hF⟩ := gd_of hF
          obtain ⟨x8, h7, hG, hF⟩ := bd_of hF
          refine RN.cv (i := 246) (k := 190) (q2 := iX12_isLetterToldHere) (as := [.inr (.inr t), .inl a1]) (r := []) (v := some (.inl x8)) (h1 := h7) (by decide +kernel) rfl rfl rfl rfl rfl (rcv_ok hc.1) (CX12_isLetterToldHere (d := d) hG) ?_
          obtain ⟨hc, hF⟩ := gd_of hF
          exact RN.zR (by decide +kernel) rfl hc.1 hF
        · refine RN.iff (cd := .eq) (off := 11) (tgt := 65) (by decide +kernel) (mif_eqn hb) ?_
          refine RN.blk (ops := [(57, .aload_n 0), (58, .iload_n 1)]) (pc' := 59) (lv' := [(0, .inr (.inr t)), (1, .inl a1)]) (st' := [.inl a1, .inr (.inr t)]) (h' := h5) (cs := []) (by decide +kernel) rfl trivial ?_
          obtain ⟨hc, hF⟩ := gd_of hF
          obtain ⟨x10, h9, hG, hF⟩ := bd_of hF
          refine RN.cv (i := 243) (k := 189) (q2 := iX12_isPlanHere) (as := [.inr (.inr t), .inl a1]) (r := []) (v := some (.inl x10)) (h1 := h9) (by decide +kernel) rfl rfl rfl rfl rfl (rcv_ok hc.1) (CX12_isPlanHere (d := d + 1) hG) ?_
          refine RN.goto (off := 8) (tgt := 70) (by decide +kernel) ?_
          obtain ⟨hc, hF⟩ := gd_of hF
          exact RN.zR (by decide +kernel) rfl hc.1 hF
      · refine RN.iff (cd := .eq) (off := 8) (tgt := 47) (by decide +kernel) (mif_eqn hb) ?_
        refine RN.blk (ops := [(42, .aload_n 0)]) (pc' := 43) (lv' := [(0, .inr (.inr t)), (1, .inl a1)]) (st' := [.inr (.inr t)]) (h' := h3) (cs := []) (by decide +kernel) rfl trivial ?_
        obtain ⟨hc, hF⟩ := gd_of hF
        obtain ⟨x12, h11, hG, hF⟩ := bd_of hF
        refine RN.cv (i := 238) (k := 188) (q2 := iX12_isRoomHere) (as := [.inr (.inr t)]) (r := []) (v := some (.inl x12)) (h1 := h11) (by decide +kernel) rfl rfl rfl rfl rfl (rcv_ok hc.1) (CX12_isRoomHere (d := d) hG) ?_
        obtain ⟨hc, hF⟩ := gd_of hF
        exact RN.zR (by decide +kernel) rfl hc.1 hF
  · refine RN.iff (cd := .eq) (off := 9) (tgt := 16) (by decide +kernel) (mif_eqn hb) ?_
    refine RN.blk (ops := [(10, .aload_n 0), (11, .iload_n 1)]) (pc' := 12) (lv' := [(0, .inr (.inr t)), (1, .inl a1)]) (st' := [.inl a1, .inr (.inr t)]) (h' := h1) (cs := []) (by decide +kernel) rfl trivial ?_
    obtain ⟨hc, hF⟩ := gd_of hF
    obtain ⟨x16, h15, hG, hF⟩ := bd_of hF
    refine RN.cv (i := 235) (k := 187) (q2 := iX12_isFrameHere) (as := [.inr (.inr t), .inl a1]) (r := []) (v := some (.inl x16)) (h1 := h15) (by decide +kernel) rfl rfl rfl rfl rfl (rcv_ok hc.1) (CX12_isFrameHere (d := d) hG) ?_
    obtain ⟨hc, hF⟩ := gd_of hF
    exact RN.zR (by decide +kernel) rfl hc.1 hF
noncomputable def FX12_isFrameWord (t : Int) (h : MH) : Option (Int × MH) :=
  gd [GK h t 12] (bd (FX12_isWord t 440005651813 h) (fun x2 h1 =>
   (if x2 = 0 then
    gd [GK h1 t 12] (bd (FX12_isWord t 1919905645 h1) (fun x4 h3 =>
     (if x4 = 0 then
      gd [GK h3 t 12] (bd (FX12_isWord t 1886151022 h3) (fun x6 h5 =>
       (if x6 = 0 then
        gd [GK h5 t 12] (bd (FX12_isWord t 119183001281906 h5) (fun x8 h7 =>
         (if x8 = 0 then
          some (0, h7)
         else
          some (1, h7))))
       else
        some (1, h5))))
     else
      some (1, h3))))
   else
    some (1, h1))))
theorem CX12_isFrameWord {d : Nat} {t : Int} {h : MH} {r : Int × MH} (hF : FX12_isFrameWord t h = some r) : RN xs L iX12_isFrameWord (d + 2) 0 (lvE 0 [.inr (.inr t)]) [] h (RIo r) := by
  unfold FX12_isFrameWord at hF
  refine RN.blk (ops := [(0, .aload_n 0), (1, .ldc2_w 233)]) (pc' := 4) (lv' := [(0, .inr (.inr t))]) (st' := [.inr (.inl 440005651813), .inr (.inr t)]) (h' := h) (cs := []) (by decide +kernel) rfl trivial ?_
  obtain ⟨hc, hF⟩ := gd_of hF
  obtain ⟨x2, h1, hG, hF⟩ := bd_of hF
  refine RN.cv (i := 110) (k := 167) (q2 := iX12_isWord) (as := [.inr (.inr t), .inr (.inl 440005651813)]) (r := []) (v := some (.inl x2)) (h1 := h1) (by decide +kernel) rfl rfl rfl rfl rfl (rcv_ok hc.1) (CX12_isWord (d := d) hG) ?_
  rcases it_of hF with ⟨hb, hF⟩ | ⟨hb, hF⟩
  · refine RN.iff (cd := .ne) (off := 33) (tgt := 40) (by decide +kernel) (mif_nen hb) ?_
    refine RN.blk (ops := [(10, .aload_n 0), (11, .ldc2_w 143)]) (pc' := 14) (lv' := [(0, .inr (.inr t))]) (st' := [.inr (.inl 1919905645), .inr (.inr t)]) (h' := h1) (cs := []) (by decide +kernel) rfl trivial ?_
    obtain ⟨hc, hF⟩ := gd_of hF
    obtain ⟨x4, h3, hG, hF⟩ := bd_of hF
    refine RN.cv (i := 110) (k := 167) (q2 := iX12_isWord) (as := [.inr (.inr t), .inr (.inl 1919905645)]) (r := []) (v := some (.inl x4)) (h1 := h3) (by decide +kernel) rfl rfl rfl rfl rfl (rcv_ok hc.1) (CX12_isWord (d := d) hG) ?_
    rcases it_of hF with ⟨hb, hF⟩ | ⟨hb, hF⟩
    · refine RN.iff (cd := .ne) (off := 23) (tgt := 40) (by decide +kernel) (mif_nen hb) ?_
      refine RN.blk (ops := [(20, .aload_n 0), (21, .ldc2_w 241)]) (pc' := 24) (lv' := [(0, .inr (.inr t))]) (st' := [.inr (.inl 1886151022), .inr (.inr t)]) (h' := h3) (cs := []) (by decide +kernel) rfl trivial ?_
      obtain ⟨hc, hF⟩ := gd_of hF
      obtain ⟨x6, h5, hG, hF⟩ := bd_of hF
      refine RN.cv (i := 110) (k := 167) (q2 := iX12_isWord) (as := [.inr (.inr t), .inr (.inl 1886151022)]) (r := []) (v := some (.inl x6)) (h1 := h5) (by decide +kernel) rfl rfl rfl rfl rfl (rcv_ok hc.1) (CX12_isWord (d := d) hG) ?_
      rcases it_of hF with ⟨hb, hF⟩ | ⟨hb, hF⟩
      · refine RN.iff (cd := .ne) (off := 13) (tgt := 40) (by decide +kernel) (mif_nen hb) ?_
        refine RN.blk (ops := [(30, .aload_n 0), (31, .ldc2_w 249)]) (pc' := 34) (lv' := [(0, .inr (.inr t))]) (st' := [.inr (.inl 119183001281906), .inr (.inr t)]) (h' := h5) (cs := []) (by decide +kernel) rfl trivial ?_
        obtain ⟨hc, hF⟩ := gd_of hF
        obtain ⟨x8, h7, hG, hF⟩ := bd_of hF
        refine RN.cv (i := 110) (k := 167) (q2 := iX12_isWord) (as := [.inr (.inr t), .inr (.inl 119183001281906)]) (r := []) (v := some (.inl x8)) (h1 := h7) (by decide +kernel) rfl rfl rfl rfl rfl (rcv_ok hc.1) (CX12_isWord (d := d) hG) ?_
        rcases it_of hF with ⟨hb, hF⟩ | ⟨hb, hF⟩
        · refine RN.ift (cd := .eq) (off := 7) (tgt := 44) (by decide +kernel) (mif_eq hb) ?_
          refine RN.blk (ops := [(44, .iconst 0)]) (pc' := 45) (lv' := [(0, .inr (.inr t))]) (st' := [.inl 0]) (h' := h7) (cs := []) (by decide +kernel) rfl trivial ?_
          exact RN.zR (by decide +kernel) rfl (Or.inl rfl) hF
        · refine RN.iff (cd := .eq) (off := 7) (tgt := 44) (by decide +kernel) (mif_eqn hb) ?_
          refine RN.blk (ops := [(40, .iconst 1)]) (pc' := 41) (lv' := [(0, .inr (.inr t))]) (st' := [.inl 1]) (h' := h7) (cs := []) (by decide +kernel) rfl trivial ?_
          refine RN.goto (off := 4) (tgt := 45) (by decide +kernel) ?_
          exact RN.zR (by decide +kernel) rfl (Or.inr rfl) hF
      · refine RN.ift (cd := .ne) (off := 13) (tgt := 40) (by decide +kernel) (mif_ne hb) ?_
        refine RN.blk (ops := [(40, .iconst 1)]) (pc' := 41) (lv' := [(0, .inr (.inr t))]) (st' := [.inl 1]) (h' := h5) (cs := []) (by decide +kernel) rfl trivial ?_
        refine RN.goto (off := 4) (tgt := 45) (by decide +kernel) ?_
        exact RN.zR (by decide +kernel) rfl (Or.inr rfl) hF
    · refine RN.ift (cd := .ne) (off := 23) (tgt := 40) (by decide +kernel) (mif_ne hb) ?_
      refine RN.blk (ops := [(40, .iconst 1)]) (pc' := 41) (lv' := [(0, .inr (.inr t))]) (st' := [.inl 1]) (h' := h3) (cs := []) (by decide +kernel) rfl trivial ?_
      refine RN.goto (off := 4) (tgt := 45) (by decide +kernel) ?_
      exact RN.zR (by decide +kernel) rfl (Or.inr rfl) hF
  · refine RN.ift (cd := .ne) (off := 33) (tgt := 40) (by decide +kernel) (mif_ne hb) ?_
    refine RN.blk (ops := [(40, .iconst 1)]) (pc' := 41) (lv' := [(0, .inr (.inr t))]) (st' := [.inl 1]) (h' := h1) (cs := []) (by decide +kernel) rfl trivial ?_
    refine RN.goto (off := 4) (tgt := 45) (by decide +kernel) ?_
    exact RN.zR (by decide +kernel) rfl (Or.inr rfl) hF
noncomputable def FX12_clauseHere (t : Int) (h : MH) : Option (Int × MH) :=
  gd [GK h t 12] (bd (FX12_see t h) (fun x2 h1 =>
   gd [GK h1 t 12, GK h1 t 12] (
    jn (fun (s4 : Int) =>
     jn (fun (h6 : MH) =>
      gd [GK h6 t 12] (bd (FX12_fails t 0 (m_rd h1 t 8) h6) (fun x8 h7 =>
       gd [GT x8] (some (x8, h7))))) (fun j5 =>
      jn (fun (h10 : MH) =>
       gd [GK h10 t 12] (
        jn (fun (s12 : Int) =>
         (if (m_rd h10 t 14) = s12 then
          gd [GK h10 t 12] (bd (FX12_fails t 4 (m_rd h1 t 8) h10) (fun x18 h17 =>
           gd [GT x18] (some (x18, h17))))
         else
          gd [GK h10 t 12, GK h10 t 12] (
           (if s4 = 0 then
            gd [GK h10 t 12] (bd (FX12_isTakeHere t (m_wr h10 t 14 (m_w32 ((m_rd h10 t 14) + 1)))) (fun x14 h13 =>
             gd [GT x14] (some (x14, h13))))
           else
            gd [GK h10 t 12] (bd (FX12_frameLineHere t (m_rd h1 t 8) (m_wr h10 t 14 (m_w32 ((m_rd h10 t 14) + 1)))) (fun x16 h15 =>
             gd [GT x16] (some (x16, h15)))))))) (fun j11 =>
         (if s4 = 0 then
          j11 12
         else
          j11 40)))) (fun j9 =>
       (if s4 = 0 then
        gd [GK h1 t 12] (bd (FX12_isWord t 1952541541 h1) (fun x20 h19 =>
         (if x20 = 0 then
          j5 h19
         else
          j9 h19)))
       else
        gd [GK h1 t 12] (bd (FX12_isFrameWord t h1) (fun x22 h21 =>
         (if x22 = 0 then
          j5 h21
         else
          j9 h21))))))) (fun j3 =>
     (if (m_rd h1 t 11) = 6 then
      j3 1
     else
      j3 0)))))
theorem CX12_clauseHere {d : Nat} {t : Int} {h : MH} {r : Int × MH} (hF : FX12_clauseHere t h = some r) : RN xs L iX12_clauseHere (d + 10) 0 (lvE 0 [.inr (.inr t)]) [] h (RIo r) := by
  unfold FX12_clauseHere at hF
  refine RN.blk (ops := [(0, .aload_n 0)]) (pc' := 1) (lv' := [(0, .inr (.inr t))]) (st' := [.inr (.inr t)]) (h' := h) (cs := []) (by decide +kernel) rfl trivial ?_
  obtain ⟨hc, hF⟩ := gd_of hF
  obtain ⟨x2, h1, hG, hF⟩ := bd_of hF
  refine RN.cv (i := 102) (k := 164) (q2 := iX12_see) (as := [.inr (.inr t)]) (r := []) (v := some (.inl x2)) (h1 := h1) (by decide +kernel) rfl rfl rfl rfl rfl (rcv_ok hc.1) (CX12_see (d := d + 9) hG) ?_
  obtain ⟨hc, hF⟩ := gd_of hF
  refine RN.blk (ops := [(4, .pop), (5, .aload_n 0), (6, .getfield 99), (9, .istore_n 1), (10, .aload_n 0), (11, .getfield 153), (14, .bipush 6)]) (pc' := 16) (lv' := [(1, .inl (m_rd h1 t 8)), (0, .inr (.inr t))]) (st' := [.inl 6, .inl (m_rd h1 t 11)]) (h' := h1) (cs := [GK h1 t 12, GK h1 t 12]) (by decide +kernel) rfl hc ?_
  refine jn_use (fun j3 => ∀ (s4 : Int), j3 s4 = some r → RN xs L iX12_clauseHere (d + 10) 24 [(0, .inr (.inr t)), (1, .inl (m_rd h1 t 8))] [.inl s4] h1 (RIo r)) ?_ ?_ hF
  · intro s4 hF
    refine RN.blk (ops := [(24, .istore_n 2), (25, .iload_n 2)]) (pc' := 26) (lv' := [(2, .inl s4), (0, .inr (.inr t)), (1, .inl (m_rd h1 t 8))]) (st' := [.inl s4]) (h' := h1) (cs := []) (by decide +kernel) rfl trivial ?_
    refine jn_use (fun j5 => ∀ (h6 : MH), j5 h6 = some r → RN xs L iX12_clauseHere (d + 10) 49 [(0, .inr (.inr t)), (1, .inl (m_rd h1 t 8))] [] h6 (RIo r)) ?_ ?_ hF
    · intro h6 hF
      refine RN.blk (ops := [(49, .aload_n 0), (50, .iconst 0), (51, .iload_n 1)]) (pc' := 52) (lv' := [(0, .inr (.inr t)), (1, .inl (m_rd h1 t 8))]) (st' := [.inl (m_rd h1 t 8), .inl 0, .inr (.inr t)]) (h' := h6) (cs := []) (by decide +kernel) rfl trivial ?_
      obtain ⟨hc, hF⟩ := gd_of hF
      obtain ⟨x8, h7, hG, hF⟩ := bd_of hF
      refine RN.cv (i := 120) (k := 163) (q2 := iX12_fails) (as := [.inr (.inr t), .inl 0, .inl (m_rd h1 t 8)]) (r := []) (v := some (.inl x8)) (h1 := h7) (by decide +kernel) rfl rfl rfl rfl rfl (rcv_ok hc.1) (CX12_fails (d := d + 9) hG) ?_
      obtain ⟨hc, hF⟩ := gd_of hF
      exact RN.zR (by decide +kernel) rfl hc.1 hF
    · intro j5 Jj5 hF
      refine jn_use (fun j9 => ∀ (h10 : MH), j9 h10 = some r → RN xs L iX12_clauseHere (d + 10) 56 [(0, .inr (.inr t)), (1, .inl (m_rd h1 t 8)), (2, .inl s4)] [] h10 (RIo r)) ?_ ?_ hF
      · intro h10 hF
        obtain ⟨hc, hF⟩ := gd_of hF
        refine RN.blk (ops := [(56, .aload_n 0), (57, .getfield 256), (60, .iload_n 2)]) (pc' := 61) (lv' := [(0, .inr (.inr t)), (1, .inl (m_rd h1 t 8)), (2, .inl s4)]) (st' := [.inl s4, .inl (m_rd h10 t 14)]) (h' := h10) (cs := [GK h10 t 12]) (by decide +kernel) rfl hc ?_
        refine jn_use (fun j11 => ∀ (s12 : Int), j11 s12 = some r → RN xs L iX12_clauseHere (d + 10) 71 [(0, .inr (.inr t)), (1, .inl (m_rd h1 t 8)), (2, .inl s4)] [.inl s12, .inl (m_rd h10 t 14)] h10 (RIo r)) ?_ ?_ hF
        · intro s12 hF
          rcases it_of hF with ⟨hb, hF⟩ | ⟨hb, hF⟩
          · refine RN.icf (cd := .ne) (off := 10) (tgt := 81) (by decide +kernel) (mif_nen hb) ?_
            refine RN.blk (ops := [(74, .aload_n 0), (75, .iconst 4), (76, .iload_n 1)]) (pc' := 77) (lv' := [(0, .inr (.inr t)), (1, .inl (m_rd h1 t 8)), (2, .inl s4)]) (st' := [.inl (m_rd h1 t 8), .inl 4, .inr (.inr t)]) (h' := h10) (cs := []) (by decide +kernel) rfl trivial ?_
            obtain ⟨hc, hF⟩ := gd_of hF
            obtain ⟨x18, h17, hG, hF⟩ := bd_of hF
            refine RN.cv (i := 120) (k := 163) (q2 := iX12_fails) (as := [.inr (.inr t), .inl 4, .inl (m_rd h1 t 8)]) (r := []) (v := some (.inl x18)) (h1 := h17) (by decide +kernel) rfl rfl rfl rfl rfl (rcv_ok hc.1) (CX12_fails (d := d + 9) hG) ?_
            obtain ⟨hc, hF⟩ := gd_of hF
            exact RN.zR (by decide +kernel) rfl hc.1 hF
          · refine RN.ict (cd := .ne) (off := 10) (tgt := 81) (by decide +kernel) (mif_ne hb) ?_
            obtain ⟨hc, hF⟩ := gd_of hF
            refine RN.blk (ops := [(81, .aload_n 0), (82, .dup), (83, .getfield 256), (86, .iconst 1), (87, .iadd), (88, .putfield 256), (91, .iload_n 2)]) (pc' := 92) (lv' := [(0, .inr (.inr t)), (1, .inl (m_rd h1 t 8)), (2, .inl s4)]) (st' := [.inl s4]) (h' := (m_wr h10 t 14 (m_w32 ((m_rd h10 t 14) + 1)))) (cs := [GK h10 t 12, GK h10 t 12]) (by decide +kernel) rfl hc ?_
            rcases it_of hF with ⟨hb, hF⟩ | ⟨hb, hF⟩
            · refine RN.ift (cd := .eq) (off := 11) (tgt := 103) (by decide +kernel) (mif_eq hb) ?_
              refine RN.blk (ops := [(103, .aload_n 0)]) (pc' := 104) (lv' := [(0, .inr (.inr t)), (1, .inl (m_rd h1 t 8)), (2, .inl s4)]) (st' := [.inr (.inr t)]) (h' := (m_wr h10 t 14 (m_w32 ((m_rd h10 t 14) + 1)))) (cs := []) (by decide +kernel) rfl trivial ?_
              obtain ⟨hc, hF⟩ := gd_of hF
              obtain ⟨x14, h13, hG, hF⟩ := bd_of hF
              refine RN.cv (i := 262) (k := 185) (q2 := iX12_isTakeHere) (as := [.inr (.inr t)]) (r := []) (v := some (.inl x14)) (h1 := h13) (by decide +kernel) rfl rfl rfl rfl rfl (rcv_ok hc.1) (CX12_isTakeHere (d := d) hG) ?_
              obtain ⟨hc, hF⟩ := gd_of hF
              exact RN.zR (by decide +kernel) rfl hc.1 hF
            · refine RN.iff (cd := .eq) (off := 11) (tgt := 103) (by decide +kernel) (mif_eqn hb) ?_
              refine RN.blk (ops := [(95, .aload_n 0), (96, .iload_n 1)]) (pc' := 97) (lv' := [(0, .inr (.inr t)), (1, .inl (m_rd h1 t 8)), (2, .inl s4)]) (st' := [.inl (m_rd h1 t 8), .inr (.inr t)]) (h' := (m_wr h10 t 14 (m_w32 ((m_rd h10 t 14) + 1)))) (cs := []) (by decide +kernel) rfl trivial ?_
              obtain ⟨hc, hF⟩ := gd_of hF
              obtain ⟨x16, h15, hG, hF⟩ := bd_of hF
              refine RN.cv (i := 259) (k := 191) (q2 := iX12_frameLineHere) (as := [.inr (.inr t), .inl (m_rd h1 t 8)]) (r := []) (v := some (.inl x16)) (h1 := h15) (by decide +kernel) rfl rfl rfl rfl rfl (rcv_ok hc.1) (CX12_frameLineHere (d := d + 5) hG) ?_
              refine RN.goto (off := 7) (tgt := 107) (by decide +kernel) ?_
              obtain ⟨hc, hF⟩ := gd_of hF
              exact RN.zR (by decide +kernel) rfl hc.1 hF
        · intro j11 Jj11 hF
          rcases it_of hF with ⟨hb, hF⟩ | ⟨hb, hF⟩
          · refine RN.ift (cd := .eq) (off := 8) (tgt := 69) (by decide +kernel) (mif_eq hb) ?_
            refine RN.blk (ops := [(69, .bipush 12)]) (pc' := 71) (lv' := [(0, .inr (.inr t)), (1, .inl (m_rd h1 t 8)), (2, .inl s4)]) (st' := [.inl 12, .inl (m_rd h10 t 14)]) (h' := h10) (cs := []) (by decide +kernel) rfl trivial ?_
            exact RN.sub (Jj11 _ hF) (sub_cons rfl (sub_cons rfl (sub_cons rfl sub_nil)))
          · refine RN.iff (cd := .eq) (off := 8) (tgt := 69) (by decide +kernel) (mif_eqn hb) ?_
            refine RN.blk (ops := [(64, .bipush 40)]) (pc' := 66) (lv' := [(0, .inr (.inr t)), (1, .inl (m_rd h1 t 8)), (2, .inl s4)]) (st' := [.inl 40, .inl (m_rd h10 t 14)]) (h' := h10) (cs := []) (by decide +kernel) rfl trivial ?_
            refine RN.goto (off := 5) (tgt := 71) (by decide +kernel) ?_
            exact RN.sub (Jj11 _ hF) (sub_cons rfl (sub_cons rfl (sub_cons rfl sub_nil)))
      · intro j9 Jj9 hF
        rcases it_of hF with ⟨hb, hF⟩ | ⟨hb, hF⟩
        · refine RN.ift (cd := .eq) (off := 13) (tgt := 39) (by decide +kernel) (mif_eq hb) ?_
          refine RN.blk (ops := [(39, .aload_n 0), (40, .ldc2_w 254)]) (pc' := 43) (lv' := [(2, .inl s4), (0, .inr (.inr t)), (1, .inl (m_rd h1 t 8))]) (st' := [.inr (.inl 1952541541), .inr (.inr t)]) (h' := h1) (cs := []) (by decide +kernel) rfl trivial ?_
          obtain ⟨hc, hF⟩ := gd_of hF
          obtain ⟨x20, h19, hG, hF⟩ := bd_of hF
          refine RN.cv (i := 110) (k := 167) (q2 := iX12_isWord) (as := [.inr (.inr t), .inr (.inl 1952541541)]) (r := []) (v := some (.inl x20)) (h1 := h19) (by decide +kernel) rfl rfl rfl rfl rfl (rcv_ok hc.1) (CX12_isWord (d := d + 8) hG) ?_
          rcases it_of hF with ⟨hb, hF⟩ | ⟨hb, hF⟩
          · refine RN.iff (cd := .ne) (off := 10) (tgt := 56) (by decide +kernel) (mif_nen hb) ?_
            exact RN.sub (Jj5 _ hF) (sub_cons rfl (sub_cons rfl sub_nil))
          · refine RN.ift (cd := .ne) (off := 10) (tgt := 56) (by decide +kernel) (mif_ne hb) ?_
            exact RN.sub (Jj9 _ hF) (sub_cons rfl (sub_cons rfl (sub_cons rfl sub_nil)))
        · refine RN.iff (cd := .eq) (off := 13) (tgt := 39) (by decide +kernel) (mif_eqn hb) ?_
          refine RN.blk (ops := [(29, .aload_n 0)]) (pc' := 30) (lv' := [(2, .inl s4), (0, .inr (.inr t)), (1, .inl (m_rd h1 t 8))]) (st' := [.inr (.inr t)]) (h' := h1) (cs := []) (by decide +kernel) rfl trivial ?_
          obtain ⟨hc, hF⟩ := gd_of hF
          obtain ⟨x22, h21, hG, hF⟩ := bd_of hF
          refine RN.cv (i := 251) (k := 192) (q2 := iX12_isFrameWord) (as := [.inr (.inr t)]) (r := []) (v := some (.inl x22)) (h1 := h21) (by decide +kernel) rfl rfl rfl rfl rfl (rcv_ok hc.1) (CX12_isFrameWord (d := d + 7) hG) ?_
          rcases it_of hF with ⟨hb, hF⟩ | ⟨hb, hF⟩
          · refine RN.iff (cd := .ne) (off := 23) (tgt := 56) (by decide +kernel) (mif_nen hb) ?_
            refine RN.goto (off := 13) (tgt := 49) (by decide +kernel) ?_
            exact RN.sub (Jj5 _ hF) (sub_cons rfl (sub_cons rfl sub_nil))
          · refine RN.ift (cd := .ne) (off := 23) (tgt := 56) (by decide +kernel) (mif_ne hb) ?_
            exact RN.sub (Jj9 _ hF) (sub_cons rfl (sub_cons rfl (sub_cons rfl sub_nil)))
  · intro j3 Jj3 hF
    rcases it_of hF with ⟨hb, hF⟩ | ⟨hb, hF⟩
    · refine RN.icf (cd := .ne) (off := 7) (tgt := 23) (by decide +kernel) (mif_nen hb) ?_
      refine RN.blk (ops := [(19, .iconst 1)]) (pc' := 20) (lv' := [(1, .inl (m_rd h1 t 8)), (0, .inr (.inr t))]) (st' := [.inl 1]) (h' := h1) (cs := []) (by decide +kernel) rfl trivial ?_
      refine RN.goto (off := 4) (tgt := 24) (by decide +kernel) ?_
      exact RN.sub (Jj3 _ hF) (sub_cons rfl (sub_cons rfl sub_nil))
    · refine RN.ict (cd := .ne) (off := 7) (tgt := 23) (by decide +kernel) (mif_ne hb) ?_
      refine RN.blk (ops := [(23, .iconst 0)]) (pc' := 24) (lv' := [(1, .inl (m_rd h1 t 8)), (0, .inr (.inr t))]) (st' := [.inl 0]) (h' := h1) (cs := []) (by decide +kernel) rfl trivial ?_
      exact RN.sub (Jj3 _ hF) (sub_cons rfl (sub_cons rfl sub_nil))
noncomputable def FX12_readsAll_L35 (u0 : Int) (K0 : Int → MH → Option (Int × MH)) : Nat → Int → MH → Option (Int × MH)
  | 0, _, _ => none
  | f + 1, v1, h =>
    (if v1 = 0 then
     K0 v1 h
    else
     gd [GK h u0 12] (bd (FX12_see u0 h) (fun x2 h1 =>
      (if x2 = 59 then
       gd [GK h1 u0 12, GK h1 u0 12] (
        gd [GK h1 u0 12] (bd (FX12_clauseHere u0 (m_wr h1 u0 8 (m_w32 ((m_rd h1 u0 8) + 1)))) (fun x4 h3 =>
         FX12_readsAll_L35 u0 K0 f x4 h3)))
      else
       K0 v1 h1))))
theorem CX12_readsAll_L35 {d : Nat} {u0 : Int} {K0 : Int → MH → Option (Int × MH)} {r : Int × MH} (hK0 : ∀ (w1 : Int) (h : MH), K0 w1 h = some r → RN xs L iX12_readsAll (d + 11) 66 [(0, .inr (.inr u0)), (1, .inl w1)] [] h (RIo r)) : ∀ (f : Nat) (v1 : Int) (h : MH), FX12_readsAll_L35 u0 K0 f v1 h = some r → RN xs L iX12_readsAll (d + 11) 35 [(0, .inr (.inr u0)), (1, .inl v1)] [] h (RIo r) := by
  intro f
  induction f with
  | zero =>
    intro v1 h hF
    cases hF
  | succ f ih =>
    intro v1 h hF
    unfold FX12_readsAll_L35 at hF
    refine RN.blk (ops := [(35, .iload_n 1)]) (pc' := 36) (lv' := [(0, .inr (.inr u0)), (1, .inl v1)]) (st' := [.inl v1]) (h' := h) (cs := []) (by decide +kernel) rfl trivial ?_
    rcases it_of hF with ⟨hb, hF⟩ | ⟨hb, hF⟩
    · refine RN.ift (cd := .eq) (off := 30) (tgt := 66) (by decide +kernel) (mif_eq hb) ?_
      exact RN.sub (hK0 _ _ hF) (sub_cons rfl (sub_cons rfl sub_nil))
    · refine RN.iff (cd := .eq) (off := 30) (tgt := 66) (by decide +kernel) (mif_eqn hb) ?_
      refine RN.blk (ops := [(39, .aload_n 0)]) (pc' := 40) (lv' := [(0, .inr (.inr u0)), (1, .inl v1)]) (st' := [.inr (.inr u0)]) (h' := h) (cs := []) (by decide +kernel) rfl trivial ?_
      obtain ⟨hc, hF⟩ := gd_of hF
      obtain ⟨x2, h1, hG, hF⟩ := bd_of hF
      refine RN.cv (i := 102) (k := 164) (q2 := iX12_see) (as := [.inr (.inr u0)]) (r := []) (v := some (.inl x2)) (h1 := h1) (by decide +kernel) rfl rfl rfl rfl rfl (rcv_ok hc.1) (CX12_see (d := d + 10) hG) ?_
      refine RN.blk (ops := [(43, .bipush 59)]) (pc' := 45) (lv' := [(0, .inr (.inr u0)), (1, .inl v1)]) (st' := [.inl 59, .inl x2]) (h' := h1) (cs := []) (by decide +kernel) rfl trivial ?_
      rcases it_of hF with ⟨hb, hF⟩ | ⟨hb, hF⟩
      · refine RN.icf (cd := .ne) (off := 21) (tgt := 66) (by decide +kernel) (mif_nen hb) ?_
        obtain ⟨hc, hF⟩ := gd_of hF
        refine RN.blk (ops := [(48, .aload_n 0), (49, .dup), (50, .getfield 99), (53, .iconst 1), (54, .iadd), (55, .putfield 99), (58, .aload_n 0)]) (pc' := 59) (lv' := [(0, .inr (.inr u0)), (1, .inl v1)]) (st' := [.inr (.inr u0)]) (h' := (m_wr h1 u0 8 (m_w32 ((m_rd h1 u0 8) + 1)))) (cs := [GK h1 u0 12, GK h1 u0 12]) (by decide +kernel) rfl hc ?_
        obtain ⟨hc, hF⟩ := gd_of hF
        obtain ⟨x4, h3, hG, hF⟩ := bd_of hF
        refine RN.cv (i := 265) (k := 193) (q2 := iX12_clauseHere) (as := [.inr (.inr u0)]) (r := []) (v := some (.inl x4)) (h1 := h3) (by decide +kernel) rfl rfl rfl rfl rfl (rcv_ok hc.1) (CX12_clauseHere (d := d) hG) ?_
        refine RN.blk (ops := [(62, .istore_n 1)]) (pc' := 63) (lv' := [(1, .inl x4), (0, .inr (.inr u0))]) (st' := []) (h' := h3) (cs := []) (by decide +kernel) rfl trivial ?_
        refine RN.goto (off := -28) (tgt := 35) (by decide +kernel) ?_
        exact RN.sub (ih _ _ hF) (sub_cons rfl (sub_cons rfl sub_nil))
      · refine RN.ict (cd := .ne) (off := 21) (tgt := 66) (by decide +kernel) (mif_ne hb) ?_
        exact RN.sub (hK0 _ _ hF) (sub_cons rfl (sub_cons rfl sub_nil))
noncomputable def FX12_readsAll (t : Int) (h : MH) : Option (Int × MH) :=
  gd [GK h t 12, GK h t 12, GI h (m_rd h t 4) 1 (m_rd h t 11), GK h t 12, GK h t 12, GK h t 12] (
   hl (m_wr (m_wr (m_wr (m_wr h (m_rd h t 4) (m_rd h t 11) 0) t 14 0) t 8 0) t 9 0) (fun h1 =>
    gd [GK h1 t 12] (
     gd [GK h1 t 12] (bd (FX12_clauseHere t (m_wr h1 t 12 0)) (fun x3 h2 =>
      FX12_readsAll_L35 t (fun w4 h5 =>
       jn (fun (h7 : MH) =>
        gd [GK h7 t 12, GK h7 t 12] (
         (if (m_rd (m_wr h7 t 1 0) t 9) = 0 then
          some (1, (m_wr h7 t 1 0))
         else
          some (0, (m_wr h7 t 1 0))))) (fun j6 =>
        (if w4 = 0 then
         j6 h5
        else
         gd [GK h5 t 12] (bd (FX12_see t h5) (fun x9 h8 =>
          (if x9 = (-1) then
           j6 h8
          else
           gd [GK h8 t 12] (
            gd [GK h8 t 12] (bd (FX12_fails t 0 (m_rd h8 t 8) h8) (fun x11 h10 =>
             j6 h10))))))))) FU x3 h2)))))
theorem CX12_readsAll {d : Nat} {t : Int} {h : MH} {r : Int × MH} (hF : FX12_readsAll t h = some r) : RN xs L iX12_readsAll (d + 11) 0 (lvE 0 [.inr (.inr t)]) [] h (RIo r) := by
  unfold FX12_readsAll at hF
  obtain ⟨hc, hF⟩ := gd_of hF
  refine RN.blk (ops := [(0, .aload_n 0), (1, .getfield 17), (4, .aload_n 0), (5, .getfield 153), (8, .iconst 0), (9, .iastore), (10, .aload_n 0), (11, .iconst 0), (12, .putfield 256), (15, .aload_n 0), (16, .iconst 0), (17, .putfield 99), (20, .aload_n 0), (21, .iconst 0), (22, .putfield 96)]) (pc' := 25) (lv' := [(0, .inr (.inr t))]) (st' := []) (h' := (m_wr (m_wr (m_wr (m_wr h (m_rd h t 4) (m_rd h t 11) 0) t 14 0) t 8 0) t 9 0)) (cs := [GK h t 12, GK h t 12, GI h (m_rd h t 4) 1 (m_rd h t 11), GK h t 12, GK h t 12, GK h t 12]) (by decide +kernel) rfl hc ?_
  obtain ⟨h1, he, hF⟩ := hl_of hF
  refine RN.hl he ?_
  obtain ⟨hc, hF⟩ := gd_of hF
  refine RN.blk (ops := [(25, .aload_n 0), (26, .iconst 0), (27, .putfield 156), (30, .aload_n 0)]) (pc' := 31) (lv' := [(0, .inr (.inr t))]) (st' := [.inr (.inr t)]) (h' := (m_wr h1 t 12 0)) (cs := [GK h1 t 12]) (by decide +kernel) rfl hc ?_
  obtain ⟨hc, hF⟩ := gd_of hF
  obtain ⟨x3, h2, hG, hF⟩ := bd_of hF
  refine RN.cv (i := 265) (k := 193) (q2 := iX12_clauseHere) (as := [.inr (.inr t)]) (r := []) (v := some (.inl x3)) (h1 := h2) (by decide +kernel) rfl rfl rfl rfl rfl (rcv_ok hc.1) (CX12_clauseHere (d := d) hG) ?_
  refine RN.blk (ops := [(34, .istore_n 1)]) (pc' := 35) (lv' := [(1, .inl x3), (0, .inr (.inr t))]) (st' := []) (h' := h2) (cs := []) (by decide +kernel) rfl trivial ?_
  refine RN.sub (CX12_readsAll_L35 ?_ _ _ _ hF) (sub_cons rfl (sub_cons rfl sub_nil))
  · intro w4 h5 hF
    refine RN.blk (ops := [(66, .iload_n 1)]) (pc' := 67) (lv' := [(0, .inr (.inr t)), (1, .inl w4)]) (st' := [.inl w4]) (h' := h5) (cs := []) (by decide +kernel) rfl trivial ?_
    refine jn_use (fun j6 => ∀ (h7 : MH), j6 h7 = some r → RN xs L iX12_readsAll (d + 11) 88 [(0, .inr (.inr t))] [] h7 (RIo r)) ?_ ?_ hF
    · intro h7 hF
      obtain ⟨hc, hF⟩ := gd_of hF
      refine RN.blk (ops := [(88, .aload_n 0), (89, .iconst 0), (90, .putfield 89), (93, .aload_n 0), (94, .getfield 96)]) (pc' := 97) (lv' := [(0, .inr (.inr t))]) (st' := [.inl (m_rd (m_wr h7 t 1 0) t 9)]) (h' := (m_wr h7 t 1 0)) (cs := [GK h7 t 12, GK h7 t 12]) (by decide +kernel) rfl hc ?_
      rcases it_of hF with ⟨hb, hF⟩ | ⟨hb, hF⟩
      · refine RN.iff (cd := .ne) (off := 7) (tgt := 104) (by decide +kernel) (mif_nen hb) ?_
        refine RN.blk (ops := [(100, .iconst 1)]) (pc' := 101) (lv' := [(0, .inr (.inr t))]) (st' := [.inl 1]) (h' := (m_wr h7 t 1 0)) (cs := []) (by decide +kernel) rfl trivial ?_
        refine RN.goto (off := 4) (tgt := 105) (by decide +kernel) ?_
        exact RN.zR (by decide +kernel) rfl (Or.inr rfl) hF
      · refine RN.ift (cd := .ne) (off := 7) (tgt := 104) (by decide +kernel) (mif_ne hb) ?_
        refine RN.blk (ops := [(104, .iconst 0)]) (pc' := 105) (lv' := [(0, .inr (.inr t))]) (st' := [.inl 0]) (h' := (m_wr h7 t 1 0)) (cs := []) (by decide +kernel) rfl trivial ?_
        exact RN.zR (by decide +kernel) rfl (Or.inl rfl) hF
    · intro j6 Jj6 hF
      rcases it_of hF with ⟨hb, hF⟩ | ⟨hb, hF⟩
      · refine RN.ift (cd := .eq) (off := 21) (tgt := 88) (by decide +kernel) (mif_eq hb) ?_
        exact RN.sub (Jj6 _ hF) (sub_cons rfl sub_nil)
      · refine RN.iff (cd := .eq) (off := 21) (tgt := 88) (by decide +kernel) (mif_eqn hb) ?_
        refine RN.blk (ops := [(70, .aload_n 0)]) (pc' := 71) (lv' := [(0, .inr (.inr t)), (1, .inl w4)]) (st' := [.inr (.inr t)]) (h' := h5) (cs := []) (by decide +kernel) rfl trivial ?_
        obtain ⟨hc, hF⟩ := gd_of hF
        obtain ⟨x9, h8, hG, hF⟩ := bd_of hF
        refine RN.cv (i := 102) (k := 164) (q2 := iX12_see) (as := [.inr (.inr t)]) (r := []) (v := some (.inl x9)) (h1 := h8) (by decide +kernel) rfl rfl rfl rfl rfl (rcv_ok hc.1) (CX12_see (d := d + 10) hG) ?_
        refine RN.blk (ops := [(74, .iconst (-1))]) (pc' := 75) (lv' := [(0, .inr (.inr t)), (1, .inl w4)]) (st' := [.inl (-1), .inl x9]) (h' := h8) (cs := []) (by decide +kernel) rfl trivial ?_
        rcases it_of hF with ⟨hb, hF⟩ | ⟨hb, hF⟩
        · refine RN.ict (cd := .eq) (off := 13) (tgt := 88) (by decide +kernel) (mif_eq hb) ?_
          exact RN.sub (Jj6 _ hF) (sub_cons rfl sub_nil)
        · refine RN.icf (cd := .eq) (off := 13) (tgt := 88) (by decide +kernel) (mif_eqn hb) ?_
          obtain ⟨hc, hF⟩ := gd_of hF
          refine RN.blk (ops := [(78, .aload_n 0), (79, .iconst 0), (80, .aload_n 0), (81, .getfield 99)]) (pc' := 84) (lv' := [(0, .inr (.inr t)), (1, .inl w4)]) (st' := [.inl (m_rd h8 t 8), .inl 0, .inr (.inr t)]) (h' := h8) (cs := [GK h8 t 12]) (by decide +kernel) rfl hc ?_
          obtain ⟨hc, hF⟩ := gd_of hF
          obtain ⟨x11, h10, hG, hF⟩ := bd_of hF
          refine RN.cv (i := 120) (k := 163) (q2 := iX12_fails) (as := [.inr (.inr t), .inl 0, .inl (m_rd h8 t 8)]) (r := []) (v := some (.inl x11)) (h1 := h10) (by decide +kernel) rfl rfl rfl rfl rfl (rcv_ok hc.1) (CX12_fails (d := d + 10) hG) ?_
          refine RN.blk (ops := [(87, .pop)]) (pc' := 88) (lv' := [(0, .inr (.inr t)), (1, .inl w4)]) (st' := []) (h' := h10) (cs := []) (by decide +kernel) rfl trivial ?_
          exact RN.sub (Jj6 _ hF) (sub_cons rfl sub_nil)
noncomputable def FX12_rule (t : Int) (h : MH) : Option (Int × MH) :=
  gd [GK h t 12] (
   (if (m_rd h t 2) = 6 then
    some ((-1), h)
   else
    gd [GK h t 12, GK h t 12, GK h t 12, GK h t 12, GI h (m_rd (m_wr h t 11 (m_rd h t 2)) t 6) 1 (m_rd (m_wr h t 11 (m_rd h t 2)) t 11)] (
     hl (m_wr (m_wr h t 11 (m_rd h t 2)) (m_rd (m_wr h t 11 (m_rd h t 2)) t 6) (m_rd (m_wr h t 11 (m_rd h t 2)) t 11) 0) (fun h1 =>
      gd [GK h1 t 12] (bd (FX12_readsAll t h1) (fun x3 h2 =>
       (if x3 = 0 then
        gd [GK h2 t 12] (
         some ((m_w32 ((-2) - (m_rd h2 t 9))), h2))
       else
        gd [GK h2 t 12, GK h2 t 12, GK h2 t 12] (
         some ((m_w32 ((m_rd (m_wr h2 t 2 (m_w32 ((m_rd h2 t 2) + 1))) t 2) - 1)), (m_wr h2 t 2 (m_w32 ((m_rd h2 t 2) + 1))))))))))))
theorem CX12_rule {d : Nat} {t : Int} {h : MH} {r : Int × MH} (hF : FX12_rule t h = some r) : RN xs L iX12_rule (d + 12) 0 (lvE 0 [.inr (.inr t)]) [] h (RIo r) := by
  unfold FX12_rule at hF
  obtain ⟨hc, hF⟩ := gd_of hF
  refine RN.blk (ops := [(0, .aload_n 0), (1, .getfield 268), (4, .bipush 6)]) (pc' := 6) (lv' := [(0, .inr (.inr t))]) (st' := [.inl 6, .inl (m_rd h t 2)]) (h' := h) (cs := [GK h t 12]) (by decide +kernel) rfl hc ?_
  rcases it_of hF with ⟨hb, hF⟩ | ⟨hb, hF⟩
  · refine RN.icf (cd := .ne) (off := 5) (tgt := 11) (by decide +kernel) (mif_nen hb) ?_
    refine RN.blk (ops := [(9, .iconst (-1))]) (pc' := 10) (lv' := [(0, .inr (.inr t))]) (st' := [.inl (-1)]) (h' := h) (cs := []) (by decide +kernel) rfl trivial ?_
    exact RN.iR (by decide +kernel) rfl hF
  · refine RN.ict (cd := .ne) (off := 5) (tgt := 11) (by decide +kernel) (mif_ne hb) ?_
    obtain ⟨hc, hF⟩ := gd_of hF
    refine RN.blk (ops := [(11, .aload_n 0), (12, .aload_n 0), (13, .getfield 268), (16, .putfield 153), (19, .aload_n 0), (20, .getfield 23), (23, .aload_n 0), (24, .getfield 153), (27, .iconst 0), (28, .iastore)]) (pc' := 29) (lv' := [(0, .inr (.inr t))]) (st' := []) (h' := (m_wr (m_wr h t 11 (m_rd h t 2)) (m_rd (m_wr h t 11 (m_rd h t 2)) t 6) (m_rd (m_wr h t 11 (m_rd h t 2)) t 11) 0)) (cs := [GK h t 12, GK h t 12, GK h t 12, GK h t 12, GI h (m_rd (m_wr h t 11 (m_rd h t 2)) t 6) 1 (m_rd (m_wr h t 11 (m_rd h t 2)) t 11)]) (by decide +kernel) rfl hc ?_
    obtain ⟨h1, he, hF⟩ := hl_of hF
    refine RN.hl he ?_
    refine RN.blk (ops := [(29, .aload_n 0)]) (pc' := 30) (lv' := [(0, .inr (.inr t))]) (st' := [.inr (.inr t)]) (h' := h1) (cs := []) (by decide +kernel) rfl trivial ?_
    obtain ⟨hc, hF⟩ := gd_of hF
    obtain ⟨x3, h2, hG, hF⟩ := bd_of hF
    refine RN.cv (i := 271) (k := 194) (q2 := iX12_readsAll) (as := [.inr (.inr t)]) (r := []) (v := some (.inl x3)) (h1 := h2) (by decide +kernel) rfl rfl rfl rfl rfl (rcv_ok hc.1) (CX12_readsAll (d := d) hG) ?_
    rcases it_of hF with ⟨hb, hF⟩ | ⟨hb, hF⟩
    · refine RN.iff (cd := .ne) (off := 11) (tgt := 44) (by decide +kernel) (mif_nen hb) ?_
      obtain ⟨hc, hF⟩ := gd_of hF
      refine RN.blk (ops := [(36, .bipush (-2)), (38, .aload_n 0), (39, .getfield 96), (42, .isub)]) (pc' := 43) (lv' := [(0, .inr (.inr t))]) (st' := [.inl (m_w32 ((-2) - (m_rd h2 t 9)))]) (h' := h2) (cs := [GK h2 t 12]) (by decide +kernel) rfl hc ?_
      exact RN.iR (by decide +kernel) rfl hF
    · refine RN.ift (cd := .ne) (off := 11) (tgt := 44) (by decide +kernel) (mif_ne hb) ?_
      obtain ⟨hc, hF⟩ := gd_of hF
      refine RN.blk (ops := [(44, .aload_n 0), (45, .dup), (46, .getfield 268), (49, .iconst 1), (50, .iadd), (51, .putfield 268), (54, .aload_n 0), (55, .getfield 268), (58, .iconst 1), (59, .isub)]) (pc' := 60) (lv' := [(0, .inr (.inr t))]) (st' := [.inl (m_w32 ((m_rd (m_wr h2 t 2 (m_w32 ((m_rd h2 t 2) + 1))) t 2) - 1))]) (h' := (m_wr h2 t 2 (m_w32 ((m_rd h2 t 2) + 1)))) (cs := [GK h2 t 12, GK h2 t 12, GK h2 t 12]) (by decide +kernel) rfl hc ?_
      exact RN.iR (by decide +kernel) rfl hF
noncomputable def FX12_begins_L3 (u0 : Int) (K0 : MH → Option (MH)) : Nat → Int → MH → Option (MH)
  | 0, _, _ => none
  | f + 1, v1, h =>
    (if v1 < 82 then
     gd [GK h u0 12, GI h (m_rd h u0 20) 1 v1] (
      FX12_begins_L3 u0 K0 f (m_w32 (v1 + 1)) (m_wr h (m_rd h u0 20) v1 0))
    else
     K0 h)
theorem CX12_begins_L3 {d : Nat} {u0 : Int} {K0 : MH → Option (MH)} {r : MH} (hK0 : ∀ (h : MH), K0 h = some r → RN xs L iX12_begins (d) 22 [(0, .inr (.inr u0))] [] h (RVo r)) : ∀ (f : Nat) (v1 : Int) (h : MH), FX12_begins_L3 u0 K0 f v1 h = some r → RN xs L iX12_begins (d) 3 [(0, .inr (.inr u0)), (1, .inl v1)] [] h (RVo r) := by
  intro f
  induction f with
  | zero =>
    intro v1 h hF
    cases hF
  | succ f ih =>
    intro v1 h hF
    unfold FX12_begins_L3 at hF
    refine RN.blk (ops := [(3, .iload_n 1), (4, .bipush 82)]) (pc' := 6) (lv' := [(0, .inr (.inr u0)), (1, .inl v1)]) (st' := [.inl 82, .inl v1]) (h' := h) (cs := []) (by decide +kernel) rfl trivial ?_
    rcases it_of hF with ⟨hb, hF⟩ | ⟨hb, hF⟩
    · refine RN.icf (cd := .ge) (off := 16) (tgt := 22) (by decide +kernel) (mif_gen hb) ?_
      obtain ⟨hc, hF⟩ := gd_of hF
      refine RN.blk (ops := [(9, .aload_n 0), (10, .getfield 39), (13, .iload_n 1), (14, .iconst 0), (15, .iastore), (16, .iinc 1 1)]) (pc' := 19) (lv' := [(1, .inl (m_w32 (v1 + 1))), (0, .inr (.inr u0))]) (st' := []) (h' := (m_wr h (m_rd h u0 20) v1 0)) (cs := [GK h u0 12, GI h (m_rd h u0 20) 1 v1]) (by decide +kernel) rfl hc ?_
      refine RN.goto (off := -16) (tgt := 3) (by decide +kernel) ?_
      exact RN.sub (ih _ _ hF) (sub_cons rfl (sub_cons rfl sub_nil))
    · refine RN.ict (cd := .ge) (off := 16) (tgt := 22) (by decide +kernel) (mif_ge hb) ?_
      exact RN.sub (hK0 _ hF) (sub_cons rfl sub_nil)
noncomputable def FX12_begins_L50 (u0 : Int) (K0 : MH → Option (MH)) : Nat → Int → MH → Option (MH)
  | 0, _, _ => none
  | f + 1, v1, h =>
    gd [GK h u0 12, GI h (m_rd h u0 20) 1 5] (
     (if v1 < (m_rd h (m_rd h u0 20) 5) then
      gd [GK h u0 12, GK h u0 12, GI h (m_rd h u0 20) 1 (m_w32 (124 + v1)), GI h (m_rd h u0 20) 1 (m_w32 (26 + v1))] (
       hl (m_wr h (m_rd h u0 20) (m_w32 (26 + v1)) (m_rd h (m_rd h u0 20) (m_w32 (124 + v1)))) (fun h1 =>
        FX12_begins_L50 u0 K0 f (m_w32 (v1 + 1)) h1))
     else
      K0 h))
theorem CX12_begins_L50 {d : Nat} {u0 : Int} {K0 : MH → Option (MH)} {r : MH} (hK0 : ∀ (h : MH), K0 h = some r → RN xs L iX12_begins (d) 84 [(0, .inr (.inr u0))] [] h (RVo r)) : ∀ (f : Nat) (v1 : Int) (h : MH), FX12_begins_L50 u0 K0 f v1 h = some r → RN xs L iX12_begins (d) 50 [(0, .inr (.inr u0)), (1, .inl v1)] [] h (RVo r) := by
  intro f
  induction f with
  | zero =>
    intro v1 h hF
    cases hF
  | succ f ih =>
    intro v1 h hF
    unfold FX12_begins_L50 at hF
    obtain ⟨hc, hF⟩ := gd_of hF
    refine RN.blk (ops := [(50, .iload_n 1), (51, .aload_n 0), (52, .getfield 39), (55, .iconst 5), (56, .iaload)]) (pc' := 57) (lv' := [(0, .inr (.inr u0)), (1, .inl v1)]) (st' := [.inl (m_rd h (m_rd h u0 20) 5), .inl v1]) (h' := h) (cs := [GK h u0 12, GI h (m_rd h u0 20) 1 5]) (by decide +kernel) rfl hc ?_
    rcases it_of hF with ⟨hb, hF⟩ | ⟨hb, hF⟩
    · refine RN.icf (cd := .ge) (off := 27) (tgt := 84) (by decide +kernel) (mif_gen hb) ?_
      obtain ⟨hc, hF⟩ := gd_of hF
      refine RN.blk (ops := [(60, .aload_n 0), (61, .getfield 39), (64, .bipush 26), (66, .iload_n 1), (67, .iadd), (68, .aload_n 0), (69, .getfield 39), (72, .bipush 124), (74, .iload_n 1), (75, .iadd), (76, .iaload), (77, .iastore)]) (pc' := 78) (lv' := [(0, .inr (.inr u0)), (1, .inl v1)]) (st' := []) (h' := (m_wr h (m_rd h u0 20) (m_w32 (26 + v1)) (m_rd h (m_rd h u0 20) (m_w32 (124 + v1))))) (cs := [GK h u0 12, GK h u0 12, GI h (m_rd h u0 20) 1 (m_w32 (124 + v1)), GI h (m_rd h u0 20) 1 (m_w32 (26 + v1))]) (by decide +kernel) rfl hc ?_
      obtain ⟨h1, he, hF⟩ := hl_of hF
      refine RN.hl he ?_
      refine RN.blk (ops := [(78, .iinc 1 1)]) (pc' := 81) (lv' := [(1, .inl (m_w32 (v1 + 1))), (0, .inr (.inr u0))]) (st' := []) (h' := h1) (cs := []) (by decide +kernel) rfl trivial ?_
      refine RN.goto (off := -31) (tgt := 50) (by decide +kernel) ?_
      exact RN.sub (ih _ _ hF) (sub_cons rfl (sub_cons rfl sub_nil))
    · refine RN.ict (cd := .ge) (off := 27) (tgt := 84) (by decide +kernel) (mif_ge hb) ?_
      exact RN.sub (hK0 _ hF) (sub_cons rfl sub_nil)
noncomputable def FX12_begins_L86 (u0 : Int) (K0 : MH → Option (MH)) : Nat → Int → MH → Option (MH)
  | 0, _, _ => none
  | f + 1, v1, h =>
    gd [GK h u0 12, GI h (m_rd h u0 20) 1 4] (
     (if v1 < (m_w32 (3 * (m_rd h (m_rd h u0 20) 4))) then
      gd [GK h u0 12, GK h u0 12, GI h (m_rd h u0 20) 1 (m_w32 (88 + v1)), GI h (m_rd h u0 20) 1 (m_w32 (46 + v1))] (
       hl (m_wr h (m_rd h u0 20) (m_w32 (46 + v1)) (m_rd h (m_rd h u0 20) (m_w32 (88 + v1)))) (fun h1 =>
        FX12_begins_L86 u0 K0 f (m_w32 (v1 + 1)) h1))
     else
      K0 h))
theorem CX12_begins_L86 {d : Nat} {u0 : Int} {K0 : MH → Option (MH)} {r : MH} (hK0 : ∀ (h : MH), K0 h = some r → RN xs L iX12_begins (d) 122 [] [] h (RVo r)) : ∀ (f : Nat) (v1 : Int) (h : MH), FX12_begins_L86 u0 K0 f v1 h = some r → RN xs L iX12_begins (d) 86 [(0, .inr (.inr u0)), (1, .inl v1)] [] h (RVo r) := by
  intro f
  induction f with
  | zero =>
    intro v1 h hF
    cases hF
  | succ f ih =>
    intro v1 h hF
    unfold FX12_begins_L86 at hF
    obtain ⟨hc, hF⟩ := gd_of hF
    refine RN.blk (ops := [(86, .iload_n 1), (87, .iconst 3), (88, .aload_n 0), (89, .getfield 39), (92, .iconst 4), (93, .iaload), (94, .imul)]) (pc' := 95) (lv' := [(0, .inr (.inr u0)), (1, .inl v1)]) (st' := [.inl (m_w32 (3 * (m_rd h (m_rd h u0 20) 4))), .inl v1]) (h' := h) (cs := [GK h u0 12, GI h (m_rd h u0 20) 1 4]) (by decide +kernel) rfl hc ?_
    rcases it_of hF with ⟨hb, hF⟩ | ⟨hb, hF⟩
    · refine RN.icf (cd := .ge) (off := 27) (tgt := 122) (by decide +kernel) (mif_gen hb) ?_
      obtain ⟨hc, hF⟩ := gd_of hF
      refine RN.blk (ops := [(98, .aload_n 0), (99, .getfield 39), (102, .bipush 46), (104, .iload_n 1), (105, .iadd), (106, .aload_n 0), (107, .getfield 39), (110, .bipush 88), (112, .iload_n 1), (113, .iadd), (114, .iaload), (115, .iastore)]) (pc' := 116) (lv' := [(0, .inr (.inr u0)), (1, .inl v1)]) (st' := []) (h' := (m_wr h (m_rd h u0 20) (m_w32 (46 + v1)) (m_rd h (m_rd h u0 20) (m_w32 (88 + v1))))) (cs := [GK h u0 12, GK h u0 12, GI h (m_rd h u0 20) 1 (m_w32 (88 + v1)), GI h (m_rd h u0 20) 1 (m_w32 (46 + v1))]) (by decide +kernel) rfl hc ?_
      obtain ⟨h1, he, hF⟩ := hl_of hF
      refine RN.hl he ?_
      refine RN.blk (ops := [(116, .iinc 1 1)]) (pc' := 119) (lv' := [(1, .inl (m_w32 (v1 + 1))), (0, .inr (.inr u0))]) (st' := []) (h' := h1) (cs := []) (by decide +kernel) rfl trivial ?_
      refine RN.goto (off := -33) (tgt := 86) (by decide +kernel) ?_
      exact RN.sub (ih _ _ hF) (sub_cons rfl (sub_cons rfl sub_nil))
    · refine RN.ict (cd := .ge) (off := 27) (tgt := 122) (by decide +kernel) (mif_ge hb) ?_
      exact RN.sub (hK0 _ hF) sub_nil
noncomputable def FX12_begins (t : Int) (h : MH) : Option (MH) :=
  FX12_begins_L3 t (fun h1 =>
   gd [GK h1 t 12, GK h1 t 12, GI h1 (m_rd h1 t 20) 1 5, GI h1 (m_rd h1 t 20) 1 12, GK h1 t 12, GK h1 t 12, GI h1 (m_rd (m_wr h1 (m_rd h1 t 20) 12 (m_rd h1 (m_rd h1 t 20) 5)) t 20) 1 4, GI h1 (m_rd (m_wr h1 (m_rd h1 t 20) 12 (m_rd h1 (m_rd h1 t 20) 5)) t 20) 1 13] (
    hl (m_wr (m_wr h1 (m_rd h1 t 20) 12 (m_rd h1 (m_rd h1 t 20) 5)) (m_rd (m_wr h1 (m_rd h1 t 20) 12 (m_rd h1 (m_rd h1 t 20) 5)) t 20) 13 (m_rd (m_wr h1 (m_rd h1 t 20) 12 (m_rd h1 (m_rd h1 t 20) 5)) (m_rd (m_wr h1 (m_rd h1 t 20) 12 (m_rd h1 (m_rd h1 t 20) 5)) t 20) 4)) (fun h2 =>
     FX12_begins_L50 t (fun h3 =>
      FX12_begins_L86 t (fun h4 =>
       some h4) FU 0 h3) FU 0 h2))) FU 10 h
theorem CX12_begins {d : Nat} {t : Int} {h : MH} {r : MH} (hF : FX12_begins t h = some r) : RN xs L iX12_begins (d) 0 (lvE 0 [.inr (.inr t)]) [] h (RVo r) := by
  unfold FX12_begins at hF
  refine RN.blk (ops := [(0, .bipush 10), (2, .istore_n 1)]) (pc' := 3) (lv' := [(1, .inl 10), (0, .inr (.inr t))]) (st' := []) (h' := h) (cs := []) (by decide +kernel) rfl trivial ?_
  refine RN.sub (CX12_begins_L3 ?_ _ _ _ hF) (sub_cons rfl (sub_cons rfl sub_nil))
  · intro h1 hF
    obtain ⟨hc, hF⟩ := gd_of hF
    refine RN.blk (ops := [(22, .aload_n 0), (23, .getfield 39), (26, .bipush 12), (28, .aload_n 0), (29, .getfield 39), (32, .iconst 5), (33, .iaload), (34, .iastore), (35, .aload_n 0), (36, .getfield 39), (39, .bipush 13), (41, .aload_n 0), (42, .getfield 39), (45, .iconst 4), (46, .iaload), (47, .iastore)]) (pc' := 48) (lv' := [(0, .inr (.inr t))]) (st' := []) (h' := (m_wr (m_wr h1 (m_rd h1 t 20) 12 (m_rd h1 (m_rd h1 t 20) 5)) (m_rd (m_wr h1 (m_rd h1 t 20) 12 (m_rd h1 (m_rd h1 t 20) 5)) t 20) 13 (m_rd (m_wr h1 (m_rd h1 t 20) 12 (m_rd h1 (m_rd h1 t 20) 5)) (m_rd (m_wr h1 (m_rd h1 t 20) 12 (m_rd h1 (m_rd h1 t 20) 5)) t 20) 4))) (cs := [GK h1 t 12, GK h1 t 12, GI h1 (m_rd h1 t 20) 1 5, GI h1 (m_rd h1 t 20) 1 12, GK h1 t 12, GK h1 t 12, GI h1 (m_rd (m_wr h1 (m_rd h1 t 20) 12 (m_rd h1 (m_rd h1 t 20) 5)) t 20) 1 4, GI h1 (m_rd (m_wr h1 (m_rd h1 t 20) 12 (m_rd h1 (m_rd h1 t 20) 5)) t 20) 1 13]) (by decide +kernel) rfl hc ?_
    obtain ⟨h2, he, hF⟩ := hl_of hF
    refine RN.hl he ?_
    refine RN.blk (ops := [(48, .iconst 0), (49, .istore_n 1)]) (pc' := 50) (lv' := [(1, .inl 0), (0, .inr (.inr t))]) (st' := []) (h' := h2) (cs := []) (by decide +kernel) rfl trivial ?_
    refine RN.sub (CX12_begins_L50 ?_ _ _ _ hF) (sub_cons rfl (sub_cons rfl sub_nil))
    · intro h3 hF
      refine RN.blk (ops := [(84, .iconst 0), (85, .istore_n 1)]) (pc' := 86) (lv' := [(1, .inl 0), (0, .inr (.inr t))]) (st' := []) (h' := h3) (cs := []) (by decide +kernel) rfl trivial ?_
      refine RN.sub (CX12_begins_L86 ?_ _ _ _ hF) (sub_cons rfl (sub_cons rfl sub_nil))
      · intro h4 hF
        exact RN.vR (by decide +kernel) rfl hF
noncomputable def FX12_frame_L8 (u0 : Int) (K0 : MH → Option (Int × MH)) : Nat → Int → MH → Option (Int × MH)
  | 0, _, _ => none
  | f + 1, v1, h =>
    (if v1 < 136 then
     gd [GK h u0 12, GI h (m_rd h u0 7) 1 v1] (
      FX12_frame_L8 u0 K0 f (m_w32 (v1 + 1)) (m_wr h (m_rd h u0 7) v1 0))
    else
     K0 h)
theorem CX12_frame_L8 {d : Nat} {u0 : Int} {K0 : MH → Option (Int × MH)} {r : Int × MH} (hK0 : ∀ (h : MH), K0 h = some r → RN xs L iX12_frame (d + 12) 28 [(0, .inr (.inr u0))] [] h (RIo r)) : ∀ (f : Nat) (v1 : Int) (h : MH), FX12_frame_L8 u0 K0 f v1 h = some r → RN xs L iX12_frame (d + 12) 8 [(0, .inr (.inr u0)), (1, .inl v1)] [] h (RIo r) := by
  intro f
  induction f with
  | zero =>
    intro v1 h hF
    cases hF
  | succ f ih =>
    intro v1 h hF
    unfold FX12_frame_L8 at hF
    refine RN.blk (ops := [(8, .iload_n 1), (9, .sipush 136)]) (pc' := 12) (lv' := [(0, .inr (.inr u0)), (1, .inl v1)]) (st' := [.inl 136, .inl v1]) (h' := h) (cs := []) (by decide +kernel) rfl trivial ?_
    rcases it_of hF with ⟨hb, hF⟩ | ⟨hb, hF⟩
    · refine RN.icf (cd := .ge) (off := 16) (tgt := 28) (by decide +kernel) (mif_gen hb) ?_
      obtain ⟨hc, hF⟩ := gd_of hF
      refine RN.blk (ops := [(15, .aload_n 0), (16, .getfield 26), (19, .iload_n 1), (20, .iconst 0), (21, .iastore), (22, .iinc 1 1)]) (pc' := 25) (lv' := [(1, .inl (m_w32 (v1 + 1))), (0, .inr (.inr u0))]) (st' := []) (h' := (m_wr h (m_rd h u0 7) v1 0)) (cs := [GK h u0 12, GI h (m_rd h u0 7) 1 v1]) (by decide +kernel) rfl hc ?_
      refine RN.goto (off := -17) (tgt := 8) (by decide +kernel) ?_
      exact RN.sub (ih _ _ hF) (sub_cons rfl (sub_cons rfl sub_nil))
    · refine RN.ict (cd := .ge) (off := 16) (tgt := 28) (by decide +kernel) (mif_ge hb) ?_
      exact RN.sub (hK0 _ hF) (sub_cons rfl sub_nil)
noncomputable def FX12_frame_L45 (u0 : Int) (K0 : MH → Option (Int × MH)) : Nat → Int → MH → Option (Int × MH)
  | 0, _, _ => none
  | f + 1, v1, h =>
    (if v1 < 167 then
     gd [GK h u0 12] (
      (if v1 < 136 then
       gd [GK h u0 12, GI h (m_rd h u0 7) 1 v1] (
        gd [GI h (m_rd h u0 20) 1 v1] (
         FX12_frame_L45 u0 K0 f (m_w32 (v1 + 1)) (m_wr h (m_rd h u0 20) v1 (m_rd h (m_rd h u0 7) v1))))
      else
       gd [GI h (m_rd h u0 20) 1 v1] (
        FX12_frame_L45 u0 K0 f (m_w32 (v1 + 1)) (m_wr h (m_rd h u0 20) v1 0))))
    else
     K0 h)
theorem CX12_frame_L45 {d : Nat} {u0 : Int} {K0 : MH → Option (Int × MH)} {r : Int × MH} (hK0 : ∀ (h : MH), K0 h = some r → RN xs L iX12_frame (d + 12) 81 [(0, .inr (.inr u0))] [] h (RIo r)) : ∀ (f : Nat) (v1 : Int) (h : MH), FX12_frame_L45 u0 K0 f v1 h = some r → RN xs L iX12_frame (d + 12) 45 [(0, .inr (.inr u0)), (1, .inl v1)] [] h (RIo r) := by
  intro f
  induction f with
  | zero =>
    intro v1 h hF
    cases hF
  | succ f ih =>
    intro v1 h hF
    unfold FX12_frame_L45 at hF
    refine RN.blk (ops := [(45, .iload_n 1), (46, .sipush 167)]) (pc' := 49) (lv' := [(0, .inr (.inr u0)), (1, .inl v1)]) (st' := [.inl 167, .inl v1]) (h' := h) (cs := []) (by decide +kernel) rfl trivial ?_
    rcases it_of hF with ⟨hb, hF⟩ | ⟨hb, hF⟩
    · refine RN.icf (cd := .ge) (off := 32) (tgt := 81) (by decide +kernel) (mif_gen hb) ?_
      obtain ⟨hc, hF⟩ := gd_of hF
      refine RN.blk (ops := [(52, .aload_n 0), (53, .getfield 39), (56, .iload_n 1), (57, .iload_n 1), (58, .sipush 136)]) (pc' := 61) (lv' := [(0, .inr (.inr u0)), (1, .inl v1)]) (st' := [.inl 136, .inl v1, .inl v1, .inr (.inr (m_rd h u0 20))]) (h' := h) (cs := [GK h u0 12]) (by decide +kernel) rfl hc ?_
      rcases it_of hF with ⟨hb, hF⟩ | ⟨hb, hF⟩
      · refine RN.icf (cd := .ge) (off := 12) (tgt := 73) (by decide +kernel) (mif_gen hb) ?_
        obtain ⟨hc, hF⟩ := gd_of hF
        refine RN.blk (ops := [(64, .aload_n 0), (65, .getfield 26), (68, .iload_n 1), (69, .iaload)]) (pc' := 70) (lv' := [(0, .inr (.inr u0)), (1, .inl v1)]) (st' := [.inl (m_rd h (m_rd h u0 7) v1), .inl v1, .inr (.inr (m_rd h u0 20))]) (h' := h) (cs := [GK h u0 12, GI h (m_rd h u0 7) 1 v1]) (by decide +kernel) rfl hc ?_
        refine RN.goto (off := 4) (tgt := 74) (by decide +kernel) ?_
        obtain ⟨hc, hF⟩ := gd_of hF
        refine RN.blk (ops := [(74, .iastore), (75, .iinc 1 1)]) (pc' := 78) (lv' := [(1, .inl (m_w32 (v1 + 1))), (0, .inr (.inr u0))]) (st' := []) (h' := (m_wr h (m_rd h u0 20) v1 (m_rd h (m_rd h u0 7) v1))) (cs := [GI h (m_rd h u0 20) 1 v1]) (by decide +kernel) rfl hc ?_
        refine RN.goto (off := -33) (tgt := 45) (by decide +kernel) ?_
        exact RN.sub (ih _ _ hF) (sub_cons rfl (sub_cons rfl sub_nil))
      · refine RN.ict (cd := .ge) (off := 12) (tgt := 73) (by decide +kernel) (mif_ge hb) ?_
        refine RN.blk (ops := [(73, .iconst 0)]) (pc' := 74) (lv' := [(0, .inr (.inr u0)), (1, .inl v1)]) (st' := [.inl 0, .inl v1, .inr (.inr (m_rd h u0 20))]) (h' := h) (cs := []) (by decide +kernel) rfl trivial ?_
        obtain ⟨hc, hF⟩ := gd_of hF
        refine RN.blk (ops := [(74, .iastore), (75, .iinc 1 1)]) (pc' := 78) (lv' := [(1, .inl (m_w32 (v1 + 1))), (0, .inr (.inr u0))]) (st' := []) (h' := (m_wr h (m_rd h u0 20) v1 0)) (cs := [GI h (m_rd h u0 20) 1 v1]) (by decide +kernel) rfl hc ?_
        refine RN.goto (off := -33) (tgt := 45) (by decide +kernel) ?_
        exact RN.sub (ih _ _ hF) (sub_cons rfl (sub_cons rfl sub_nil))
    · refine RN.ict (cd := .ge) (off := 32) (tgt := 81) (by decide +kernel) (mif_ge hb) ?_
      exact RN.sub (hK0 _ hF) (sub_cons rfl sub_nil)
noncomputable def FX12_frame (t : Int) (h : MH) : Option (Int × MH) :=
  gd [GK h t 12] (
   FX12_frame_L8 t (fun h1 =>
    gd [GK h1 t 12] (bd (FX12_readsAll t h1) (fun x3 h2 =>
     (if x3 = 0 then
      gd [GK h2 t 12] (
       some ((m_w32 ((-2) - (m_rd h2 t 9))), h2))
     else
      FX12_frame_L45 t (fun h4 =>
       gd [GK h4 t 12] (bv (FX12_begins t h4) (fun h5 =>
        gd [GK h5 t 12, GK h5 t 12, GI h5 (m_rd (m_wr h5 t 25 0) t 20) 1 4] (
         some ((m_rd (m_wr h5 t 25 0) (m_rd (m_wr h5 t 25 0) t 20) 4), (m_wr h5 t 25 0)))))) FU 0 h2)))) FU 0 (m_wr h t 11 6))
theorem CX12_frame {d : Nat} {t : Int} {h : MH} {r : Int × MH} (hF : FX12_frame t h = some r) : RN xs L iX12_frame (d + 12) 0 (lvE 0 [.inr (.inr t)]) [] h (RIo r) := by
  unfold FX12_frame at hF
  obtain ⟨hc, hF⟩ := gd_of hF
  refine RN.blk (ops := [(0, .aload_n 0), (1, .bipush 6), (3, .putfield 153), (6, .iconst 0), (7, .istore_n 1)]) (pc' := 8) (lv' := [(1, .inl 0), (0, .inr (.inr t))]) (st' := []) (h' := (m_wr h t 11 6)) (cs := [GK h t 12]) (by decide +kernel) rfl hc ?_
  refine RN.sub (CX12_frame_L8 ?_ _ _ _ hF) (sub_cons rfl (sub_cons rfl sub_nil))
  · intro h1 hF
    refine RN.blk (ops := [(28, .aload_n 0)]) (pc' := 29) (lv' := [(0, .inr (.inr t))]) (st' := [.inr (.inr t)]) (h' := h1) (cs := []) (by decide +kernel) rfl trivial ?_
    obtain ⟨hc, hF⟩ := gd_of hF
    obtain ⟨x3, h2, hG, hF⟩ := bd_of hF
    refine RN.cv (i := 271) (k := 194) (q2 := iX12_readsAll) (as := [.inr (.inr t)]) (r := []) (v := some (.inl x3)) (h1 := h2) (by decide +kernel) rfl rfl rfl rfl rfl (rcv_ok hc.1) (CX12_readsAll (d := d) hG) ?_
    rcases it_of hF with ⟨hb, hF⟩ | ⟨hb, hF⟩
    · refine RN.iff (cd := .ne) (off := 11) (tgt := 43) (by decide +kernel) (mif_nen hb) ?_
      obtain ⟨hc, hF⟩ := gd_of hF
      refine RN.blk (ops := [(35, .bipush (-2)), (37, .aload_n 0), (38, .getfield 96), (41, .isub)]) (pc' := 42) (lv' := [(0, .inr (.inr t))]) (st' := [.inl (m_w32 ((-2) - (m_rd h2 t 9)))]) (h' := h2) (cs := [GK h2 t 12]) (by decide +kernel) rfl hc ?_
      exact RN.iR (by decide +kernel) rfl hF
    · refine RN.ift (cd := .ne) (off := 11) (tgt := 43) (by decide +kernel) (mif_ne hb) ?_
      refine RN.blk (ops := [(43, .iconst 0), (44, .istore_n 1)]) (pc' := 45) (lv' := [(1, .inl 0), (0, .inr (.inr t))]) (st' := []) (h' := h2) (cs := []) (by decide +kernel) rfl trivial ?_
      refine RN.sub (CX12_frame_L45 ?_ _ _ _ hF) (sub_cons rfl (sub_cons rfl sub_nil))
      · intro h4 hF
        refine RN.blk (ops := [(81, .aload_n 0)]) (pc' := 82) (lv' := [(0, .inr (.inr t))]) (st' := [.inr (.inr t)]) (h' := h4) (cs := []) (by decide +kernel) rfl trivial ?_
        obtain ⟨hc, hF⟩ := gd_of hF
        obtain ⟨h5, hG, hF⟩ := bv_of hF
        refine RN.cv (i := 274) (k := 211) (q2 := iX12_begins) (as := [.inr (.inr t)]) (r := []) (v := none) (h1 := h5) (by decide +kernel) rfl rfl rfl rfl rfl (rcv_ok hc.1) (CX12_begins (d := d + 11) hG) ?_
        obtain ⟨hc, hF⟩ := gd_of hF
        refine RN.blk (ops := [(85, .aload_n 0), (86, .iconst 0), (87, .putfield 277), (90, .aload_n 0), (91, .getfield 39), (94, .iconst 4), (95, .iaload)]) (pc' := 96) (lv' := [(0, .inr (.inr t))]) (st' := [.inl (m_rd (m_wr h5 t 25 0) (m_rd (m_wr h5 t 25 0) t 20) 4)]) (h' := (m_wr h5 t 25 0)) (cs := [GK h5 t 12, GK h5 t 12, GI h5 (m_rd (m_wr h5 t 25 0) t 20) 1 4]) (by decide +kernel) rfl hc ?_
        exact RN.iR (by decide +kernel) rfl hF
noncomputable def FX12_isRule (t : Int) (a1 : Int) (h : MH) : Option (Int × MH) :=
  (if a1 < 0 then
   some (0, h)
  else
   gd [GK h t 12] (
    (if a1 < (m_rd h t 2) then
     some (1, h)
    else
     some (0, h))))
theorem CX12_isRule {d : Nat} {t : Int} {a1 : Int} {h : MH} {r : Int × MH} (hF : FX12_isRule t a1 h = some r) : RN xs L iX12_isRule (d) 0 (lvE 0 [.inr (.inr t), .inl a1]) [] h (RIo r) := by
  unfold FX12_isRule at hF
  refine RN.blk (ops := [(0, .iload_n 1)]) (pc' := 1) (lv' := [(0, .inr (.inr t)), (1, .inl a1)]) (st' := [.inl a1]) (h' := h) (cs := []) (by decide +kernel) rfl trivial ?_
  rcases it_of hF with ⟨hb, hF⟩ | ⟨hb, hF⟩
  · refine RN.ift (cd := .lt) (off := 15) (tgt := 16) (by decide +kernel) (mif_lt hb) ?_
    refine RN.blk (ops := [(16, .iconst 0)]) (pc' := 17) (lv' := [(0, .inr (.inr t)), (1, .inl a1)]) (st' := [.inl 0]) (h' := h) (cs := []) (by decide +kernel) rfl trivial ?_
    exact RN.zR (by decide +kernel) rfl (Or.inl rfl) hF
  · refine RN.iff (cd := .lt) (off := 15) (tgt := 16) (by decide +kernel) (mif_ltn hb) ?_
    obtain ⟨hc, hF⟩ := gd_of hF
    refine RN.blk (ops := [(4, .iload_n 1), (5, .aload_n 0), (6, .getfield 268)]) (pc' := 9) (lv' := [(0, .inr (.inr t)), (1, .inl a1)]) (st' := [.inl (m_rd h t 2), .inl a1]) (h' := h) (cs := [GK h t 12]) (by decide +kernel) rfl hc ?_
    rcases it_of hF with ⟨hb, hF⟩ | ⟨hb, hF⟩
    · refine RN.icf (cd := .ge) (off := 7) (tgt := 16) (by decide +kernel) (mif_gen hb) ?_
      refine RN.blk (ops := [(12, .iconst 1)]) (pc' := 13) (lv' := [(0, .inr (.inr t)), (1, .inl a1)]) (st' := [.inl 1]) (h' := h) (cs := []) (by decide +kernel) rfl trivial ?_
      refine RN.goto (off := 4) (tgt := 17) (by decide +kernel) ?_
      exact RN.zR (by decide +kernel) rfl (Or.inr rfl) hF
    · refine RN.ict (cd := .ge) (off := 7) (tgt := 16) (by decide +kernel) (mif_ge hb) ?_
      refine RN.blk (ops := [(16, .iconst 0)]) (pc' := 17) (lv' := [(0, .inr (.inr t)), (1, .inl a1)]) (st' := [.inl 0]) (h' := h) (cs := []) (by decide +kernel) rfl trivial ?_
      exact RN.zR (by decide +kernel) rfl (Or.inl rfl) hF
noncomputable def FX12_push (t : Int) (a1 : Int) (h : MH) : Option (MH) :=
  gd [GK h t 12, GK h t 12, GI h (m_rd h t 17) 2 (m_rd h t 18), GK h t 12, GK h t 12] (
   some (m_wr (m_wr h (m_rd h t 17) (m_rd h t 18) a1) t 18 (m_w32 ((m_rd (m_wr h (m_rd h t 17) (m_rd h t 18) a1) t 18) + 1))))
theorem CX12_push {d : Nat} {t : Int} {a1 : Int} {h : MH} {r : MH} (hF : FX12_push t a1 h = some r) : RN xs L iX12_push (d) 0 (lvE 0 [.inr (.inr t), .inr (.inl a1)]) [] h (RVo r) := by
  unfold FX12_push at hF
  obtain ⟨hc, hF⟩ := gd_of hF
  refine RN.blk (ops := [(0, .aload_n 0), (1, .getfield 32), (4, .aload_n 0), (5, .getfield 280), (8, .lload_n 1), (9, .lastore), (10, .aload_n 0), (11, .dup), (12, .getfield 280), (15, .iconst 1), (16, .iadd), (17, .putfield 280)]) (pc' := 20) (lv' := [(0, .inr (.inr t)), (1, .inr (.inl a1))]) (st' := []) (h' := (m_wr (m_wr h (m_rd h t 17) (m_rd h t 18) a1) t 18 (m_w32 ((m_rd (m_wr h (m_rd h t 17) (m_rd h t 18) a1) t 18) + 1)))) (cs := [GK h t 12, GK h t 12, GI h (m_rd h t 17) 2 (m_rd h t 18), GK h t 12, GK h t 12]) (by decide +kernel) rfl hc ?_
  exact RN.vR (by decide +kernel) rfl hF
noncomputable def FX12_pop (t : Int) (h : MH) : Option (Int × MH) :=
  gd [GK h t 12, GK h t 12, GK h t 12, GK h t 12, GI h (m_rd (m_wr h t 18 (m_w32 ((m_rd h t 18) - 1))) t 17) 2 (m_rd (m_wr h t 18 (m_w32 ((m_rd h t 18) - 1))) t 18)] (
   some ((m_rd (m_wr h t 18 (m_w32 ((m_rd h t 18) - 1))) (m_rd (m_wr h t 18 (m_w32 ((m_rd h t 18) - 1))) t 17) (m_rd (m_wr h t 18 (m_w32 ((m_rd h t 18) - 1))) t 18)), (m_wr h t 18 (m_w32 ((m_rd h t 18) - 1)))))
theorem CX12_pop {d : Nat} {t : Int} {h : MH} {r : Int × MH} (hF : FX12_pop t h = some r) : RN xs L iX12_pop (d) 0 (lvE 0 [.inr (.inr t)]) [] h (RJo r) := by
  unfold FX12_pop at hF
  obtain ⟨hc, hF⟩ := gd_of hF
  refine RN.blk (ops := [(0, .aload_n 0), (1, .dup), (2, .getfield 280), (5, .iconst 1), (6, .isub), (7, .putfield 280), (10, .aload_n 0), (11, .getfield 32), (14, .aload_n 0), (15, .getfield 280), (18, .laload)]) (pc' := 19) (lv' := [(0, .inr (.inr t))]) (st' := [.inr (.inl (m_rd (m_wr h t 18 (m_w32 ((m_rd h t 18) - 1))) (m_rd (m_wr h t 18 (m_w32 ((m_rd h t 18) - 1))) t 17) (m_rd (m_wr h t 18 (m_w32 ((m_rd h t 18) - 1))) t 18)))]) (h' := (m_wr h t 18 (m_w32 ((m_rd h t 18) - 1)))) (cs := [GK h t 12, GK h t 12, GK h t 12, GK h t 12, GI h (m_rd (m_wr h t 18 (m_w32 ((m_rd h t 18) - 1))) t 17) 2 (m_rd (m_wr h t 18 (m_w32 ((m_rd h t 18) - 1))) t 18)]) (by decide +kernel) rfl hc ?_
  exact RN.lR (by decide +kernel) rfl hF
noncomputable def FX12_sumOfTwo (a1 : Int) (a2 : Int) (a3 : Int) (h : MH) : Option (Int × MH) :=
  (if a1 = 2 then
   some ((m_w64 (a2 + a3)), h)
  else
  (if a1 = 3 then
   some ((m_w64 (a2 - a3)), h)
  else
  (if a1 = 4 then
   some ((m_w64 (a2 * a3)), h)
  else
  (if a1 = 5 then
   (if (m_lcmp a3 0) = 0 then
    some (0, h)
   else
    gd [(a3 : Int) ≠ 0] (
     some ((m_w64 (Int.tdiv a2 a3)), h)))
  else
  (if a1 = 6 then
   (if (m_lcmp a2 a3) < 0 then
    some (1, h)
   else
    some (0, h))
  else
  (if a1 = 7 then
   (if 0 < (m_lcmp a2 a3) then
    some (0, h)
   else
    some (1, h))
  else
  (if a1 = 8 then
   (if (m_lcmp a2 a3) = 0 then
    some (1, h)
   else
    some (0, h))
  else
  (if a1 = 9 then
   (if (m_lcmp a2 a3) < 0 then
    some (0, h)
   else
    some (1, h))
  else
  (if a1 = 10 then
   (if 0 < (m_lcmp a2 a3) then
    some (1, h)
   else
    some (0, h))
  else
  (if a1 = 11 then
   some ((m_lor a2 a3), h)
  else
  (if a1 = 12 then
   some ((m_land a2 a3), h)
  else
  (if a1 = 13 then
   some ((m_lor a2 a3), h)
  else
  (if a1 = 14 then
   (if (m_lcmp a3 0) = 0 then
    some (0, h)
   else
    gd [(a3 : Int) ≠ 0] (
     some ((Int.tmod a2 a3), h)))
  else
   some ((m_lor a2 a3), h))))))))))))))
theorem CX12_sumOfTwo {d : Nat} {a1 : Int} {a2 : Int} {a3 : Int} {h : MH} {r : Int × MH} (hF : FX12_sumOfTwo a1 a2 a3 h = some r) : RN xs L iX12_sumOfTwo (d) 0 (lvE 0 [.inl a1, .inr (.inl a2), .inr (.inl a3)]) [] h (RJo r) := by
  unfold FX12_sumOfTwo at hF
  refine RN.blk (ops := [(0, .iload_n 0)]) (pc' := 1) (lv' := [(0, .inl a1), (1, .inr (.inl a2)), (3, .inr (.inl a3))]) (st' := [.inl a1]) (h' := h) (cs := []) (by decide +kernel) rfl trivial ?_
  rcases it_of hF with ⟨hb0, hF⟩ | ⟨hb0, hF⟩
  · refine RN.tsw (dflt := 171) (lo := 2) (hi := 14) (offs := #[67, 71, 75, 79, 107, 119, 131, 143, 155, 171, 167, 171, 93]) (by decide +kernel) (RN.sth hb0 (tgt := 68) rfl ?_)
    refine RN.blk (ops := [(68, .lload_n 1), (69, .lload_n 3), (70, .ladd)]) (pc' := 71) (lv' := [(0, .inl a1), (1, .inr (.inl a2)), (3, .inr (.inl a3))]) (st' := [.inr (.inl (m_w64 (a2 + a3)))]) (h' := h) (cs := []) (by decide +kernel) rfl trivial ?_
    exact RN.lR (by decide +kernel) rfl hF
  rcases it_of hF with ⟨hb1, hF⟩ | ⟨hb1, hF⟩
  · refine RN.tsw (dflt := 171) (lo := 2) (hi := 14) (offs := #[67, 71, 75, 79, 107, 119, 131, 143, 155, 171, 167, 171, 93]) (by decide +kernel) (RN.stm hb0 (RN.sth hb1 (tgt := 72) rfl ?_))
    refine RN.blk (ops := [(72, .lload_n 1), (73, .lload_n 3), (74, .lsub)]) (pc' := 75) (lv' := [(0, .inl a1), (1, .inr (.inl a2)), (3, .inr (.inl a3))]) (st' := [.inr (.inl (m_w64 (a2 - a3)))]) (h' := h) (cs := []) (by decide +kernel) rfl trivial ?_
    exact RN.lR (by decide +kernel) rfl hF
  rcases it_of hF with ⟨hb2, hF⟩ | ⟨hb2, hF⟩
  · refine RN.tsw (dflt := 171) (lo := 2) (hi := 14) (offs := #[67, 71, 75, 79, 107, 119, 131, 143, 155, 171, 167, 171, 93]) (by decide +kernel) (RN.stm hb0 (RN.stm hb1 (RN.sth hb2 (tgt := 76) rfl ?_)))
    refine RN.blk (ops := [(76, .lload_n 1), (77, .lload_n 3), (78, .lmul)]) (pc' := 79) (lv' := [(0, .inl a1), (1, .inr (.inl a2)), (3, .inr (.inl a3))]) (st' := [.inr (.inl (m_w64 (a2 * a3)))]) (h' := h) (cs := []) (by decide +kernel) rfl trivial ?_
    exact RN.lR (by decide +kernel) rfl hF
  rcases it_of hF with ⟨hb3, hF⟩ | ⟨hb3, hF⟩
  · refine RN.tsw (dflt := 171) (lo := 2) (hi := 14) (offs := #[67, 71, 75, 79, 107, 119, 131, 143, 155, 171, 167, 171, 93]) (by decide +kernel) (RN.stm hb0 (RN.stm hb1 (RN.stm hb2 (RN.sth hb3 (tgt := 80) rfl ?_))))
    refine RN.blk (ops := [(80, .lload_n 3), (81, .lconst 0), (82, .lcmp)]) (pc' := 83) (lv' := [(0, .inl a1), (1, .inr (.inl a2)), (3, .inr (.inl a3))]) (st' := [.inl (m_lcmp a3 0)]) (h' := h) (cs := []) (by decide +kernel) rfl trivial ?_
    rcases it_of hF with ⟨hb, hF⟩ | ⟨hb, hF⟩
    · refine RN.iff (cd := .ne) (off := 7) (tgt := 90) (by decide +kernel) (mif_nen hb) ?_
      refine RN.blk (ops := [(86, .lconst 0)]) (pc' := 87) (lv' := [(0, .inl a1), (1, .inr (.inl a2)), (3, .inr (.inl a3))]) (st' := [.inr (.inl 0)]) (h' := h) (cs := []) (by decide +kernel) rfl trivial ?_
      refine RN.goto (off := 6) (tgt := 93) (by decide +kernel) ?_
      exact RN.lR (by decide +kernel) rfl hF
    · refine RN.ift (cd := .ne) (off := 7) (tgt := 90) (by decide +kernel) (mif_ne hb) ?_
      obtain ⟨hc, hF⟩ := gd_of hF
      refine RN.blk (ops := [(90, .lload_n 1), (91, .lload_n 3), (92, .ldiv)]) (pc' := 93) (lv' := [(0, .inl a1), (1, .inr (.inl a2)), (3, .inr (.inl a3))]) (st' := [.inr (.inl (m_w64 (Int.tdiv a2 a3)))]) (h' := h) (cs := [(a3 : Int) ≠ 0]) (by decide +kernel) rfl hc ?_
      exact RN.lR (by decide +kernel) rfl hF
  rcases it_of hF with ⟨hb4, hF⟩ | ⟨hb4, hF⟩
  · refine RN.tsw (dflt := 171) (lo := 2) (hi := 14) (offs := #[67, 71, 75, 79, 107, 119, 131, 143, 155, 171, 167, 171, 93]) (by decide +kernel) (RN.stm hb0 (RN.stm hb1 (RN.stm hb2 (RN.stm hb3 (RN.sth hb4 (tgt := 108) rfl ?_)))))
    refine RN.blk (ops := [(108, .lload_n 1), (109, .lload_n 3), (110, .lcmp)]) (pc' := 111) (lv' := [(0, .inl a1), (1, .inr (.inl a2)), (3, .inr (.inl a3))]) (st' := [.inl (m_lcmp a2 a3)]) (h' := h) (cs := []) (by decide +kernel) rfl trivial ?_
    rcases it_of hF with ⟨hb, hF⟩ | ⟨hb, hF⟩
    · refine RN.iff (cd := .ge) (off := 7) (tgt := 118) (by decide +kernel) (mif_gen hb) ?_
      refine RN.blk (ops := [(114, .lconst 1)]) (pc' := 115) (lv' := [(0, .inl a1), (1, .inr (.inl a2)), (3, .inr (.inl a3))]) (st' := [.inr (.inl 1)]) (h' := h) (cs := []) (by decide +kernel) rfl trivial ?_
      refine RN.goto (off := 4) (tgt := 119) (by decide +kernel) ?_
      exact RN.lR (by decide +kernel) rfl hF
    · refine RN.ift (cd := .ge) (off := 7) (tgt := 118) (by decide +kernel) (mif_ge hb) ?_
      refine RN.blk (ops := [(118, .lconst 0)]) (pc' := 119) (lv' := [(0, .inl a1), (1, .inr (.inl a2)), (3, .inr (.inl a3))]) (st' := [.inr (.inl 0)]) (h' := h) (cs := []) (by decide +kernel) rfl trivial ?_
      exact RN.lR (by decide +kernel) rfl hF
  rcases it_of hF with ⟨hb5, hF⟩ | ⟨hb5, hF⟩
  · refine RN.tsw (dflt := 171) (lo := 2) (hi := 14) (offs := #[67, 71, 75, 79, 107, 119, 131, 143, 155, 171, 167, 171, 93]) (by decide +kernel) (RN.stm hb0 (RN.stm hb1 (RN.stm hb2 (RN.stm hb3 (RN.stm hb4 (RN.sth hb5 (tgt := 120) rfl ?_))))))
    refine RN.blk (ops := [(120, .lload_n 1), (121, .lload_n 3), (122, .lcmp)]) (pc' := 123) (lv' := [(0, .inl a1), (1, .inr (.inl a2)), (3, .inr (.inl a3))]) (st' := [.inl (m_lcmp a2 a3)]) (h' := h) (cs := []) (by decide +kernel) rfl trivial ?_
    rcases it_of hF with ⟨hb, hF⟩ | ⟨hb, hF⟩
    · refine RN.ift (cd := .gt) (off := 7) (tgt := 130) (by decide +kernel) (mif_gt hb) ?_
      refine RN.blk (ops := [(130, .lconst 0)]) (pc' := 131) (lv' := [(0, .inl a1), (1, .inr (.inl a2)), (3, .inr (.inl a3))]) (st' := [.inr (.inl 0)]) (h' := h) (cs := []) (by decide +kernel) rfl trivial ?_
      exact RN.lR (by decide +kernel) rfl hF
    · refine RN.iff (cd := .gt) (off := 7) (tgt := 130) (by decide +kernel) (mif_gtn hb) ?_
      refine RN.blk (ops := [(126, .lconst 1)]) (pc' := 127) (lv' := [(0, .inl a1), (1, .inr (.inl a2)), (3, .inr (.inl a3))]) (st' := [.inr (.inl 1)]) (h' := h) (cs := []) (by decide +kernel) rfl trivial ?_
      refine RN.goto (off := 4) (tgt := 131) (by decide +kernel) ?_
      exact RN.lR (by decide +kernel) rfl hF
  rcases it_of hF with ⟨hb6, hF⟩ | ⟨hb6, hF⟩
  · refine RN.tsw (dflt := 171) (lo := 2) (hi := 14) (offs := #[67, 71, 75, 79, 107, 119, 131, 143, 155, 171, 167, 171, 93]) (by decide +kernel) (RN.stm hb0 (RN.stm hb1 (RN.stm hb2 (RN.stm hb3 (RN.stm hb4 (RN.stm hb5 (RN.sth hb6 (tgt := 132) rfl ?_)))))))
    refine RN.blk (ops := [(132, .lload_n 1), (133, .lload_n 3), (134, .lcmp)]) (pc' := 135) (lv' := [(0, .inl a1), (1, .inr (.inl a2)), (3, .inr (.inl a3))]) (st' := [.inl (m_lcmp a2 a3)]) (h' := h) (cs := []) (by decide +kernel) rfl trivial ?_
    rcases it_of hF with ⟨hb, hF⟩ | ⟨hb, hF⟩
    · refine RN.iff (cd := .ne) (off := 7) (tgt := 142) (by decide +kernel) (mif_nen hb) ?_
      refine RN.blk (ops := [(138, .lconst 1)]) (pc' := 139) (lv' := [(0, .inl a1), (1, .inr (.inl a2)), (3, .inr (.inl a3))]) (st' := [.inr (.inl 1)]) (h' := h) (cs := []) (by decide +kernel) rfl trivial ?_
      refine RN.goto (off := 4) (tgt := 143) (by decide +kernel) ?_
      exact RN.lR (by decide +kernel) rfl hF
    · refine RN.ift (cd := .ne) (off := 7) (tgt := 142) (by decide +kernel) (mif_ne hb) ?_
      refine RN.blk (ops := [(142, .lconst 0)]) (pc' := 143) (lv' := [(0, .inl a1), (1, .inr (.inl a2)), (3, .inr (.inl a3))]) (st' := [.inr (.inl 0)]) (h' := h) (cs := []) (by decide +kernel) rfl trivial ?_
      exact RN.lR (by decide +kernel) rfl hF
  rcases it_of hF with ⟨hb7, hF⟩ | ⟨hb7, hF⟩
  · refine RN.tsw (dflt := 171) (lo := 2) (hi := 14) (offs := #[67, 71, 75, 79, 107, 119, 131, 143, 155, 171, 167, 171, 93]) (by decide +kernel) (RN.stm hb0 (RN.stm hb1 (RN.stm hb2 (RN.stm hb3 (RN.stm hb4 (RN.stm hb5 (RN.stm hb6 (RN.sth hb7 (tgt := 144) rfl ?_))))))))
    refine RN.blk (ops := [(144, .lload_n 1), (145, .lload_n 3), (146, .lcmp)]) (pc' := 147) (lv' := [(0, .inl a1), (1, .inr (.inl a2)), (3, .inr (.inl a3))]) (st' := [.inl (m_lcmp a2 a3)]) (h' := h) (cs := []) (by decide +kernel) rfl trivial ?_
    rcases it_of hF with ⟨hb, hF⟩ | ⟨hb, hF⟩
    · refine RN.ift (cd := .lt) (off := 7) (tgt := 154) (by decide +kernel) (mif_lt hb) ?_
      refine RN.blk (ops := [(154, .lconst 0)]) (pc' := 155) (lv' := [(0, .inl a1), (1, .inr (.inl a2)), (3, .inr (.inl a3))]) (st' := [.inr (.inl 0)]) (h' := h) (cs := []) (by decide +kernel) rfl trivial ?_
      exact RN.lR (by decide +kernel) rfl hF
    · refine RN.iff (cd := .lt) (off := 7) (tgt := 154) (by decide +kernel) (mif_ltn hb) ?_
      refine RN.blk (ops := [(150, .lconst 1)]) (pc' := 151) (lv' := [(0, .inl a1), (1, .inr (.inl a2)), (3, .inr (.inl a3))]) (st' := [.inr (.inl 1)]) (h' := h) (cs := []) (by decide +kernel) rfl trivial ?_
      refine RN.goto (off := 4) (tgt := 155) (by decide +kernel) ?_
      exact RN.lR (by decide +kernel) rfl hF
  rcases it_of hF with ⟨hb8, hF⟩ | ⟨hb8, hF⟩
  · refine RN.tsw (dflt := 171) (lo := 2) (hi := 14) (offs := #[67, 71, 75, 79, 107, 119, 131, 143, 155, 171, 167, 171, 93]) (by decide +kernel) (RN.stm hb0 (RN.stm hb1 (RN.stm hb2 (RN.stm hb3 (RN.stm hb4 (RN.stm hb5 (RN.stm hb6 (RN.stm hb7 (RN.sth hb8 (tgt := 156) rfl ?_)))))))))
    refine RN.blk (ops := [(156, .lload_n 1), (157, .lload_n 3), (158, .lcmp)]) (pc' := 159) (lv' := [(0, .inl a1), (1, .inr (.inl a2)), (3, .inr (.inl a3))]) (st' := [.inl (m_lcmp a2 a3)]) (h' := h) (cs := []) (by decide +kernel) rfl trivial ?_
    rcases it_of hF with ⟨hb, hF⟩ | ⟨hb, hF⟩
    · refine RN.iff (cd := .le) (off := 7) (tgt := 166) (by decide +kernel) (mif_len hb) ?_
      refine RN.blk (ops := [(162, .lconst 1)]) (pc' := 163) (lv' := [(0, .inl a1), (1, .inr (.inl a2)), (3, .inr (.inl a3))]) (st' := [.inr (.inl 1)]) (h' := h) (cs := []) (by decide +kernel) rfl trivial ?_
      refine RN.goto (off := 4) (tgt := 167) (by decide +kernel) ?_
      exact RN.lR (by decide +kernel) rfl hF
    · refine RN.ift (cd := .le) (off := 7) (tgt := 166) (by decide +kernel) (mif_le hb) ?_
      refine RN.blk (ops := [(166, .lconst 0)]) (pc' := 167) (lv' := [(0, .inl a1), (1, .inr (.inl a2)), (3, .inr (.inl a3))]) (st' := [.inr (.inl 0)]) (h' := h) (cs := []) (by decide +kernel) rfl trivial ?_
      exact RN.lR (by decide +kernel) rfl hF
  rcases it_of hF with ⟨hb9, hF⟩ | ⟨hb9, hF⟩
  · refine RN.tsw (dflt := 171) (lo := 2) (hi := 14) (offs := #[67, 71, 75, 79, 107, 119, 131, 143, 155, 171, 167, 171, 93]) (by decide +kernel) (RN.stm hb0 (RN.stm hb1 (RN.stm hb2 (RN.stm hb3 (RN.stm hb4 (RN.stm hb5 (RN.stm hb6 (RN.stm hb7 (RN.stm hb8 (RN.sth hb9 (tgt := 172) rfl ?_))))))))))
    refine RN.blk (ops := [(172, .lload_n 1), (173, .lload_n 3), (174, .lor)]) (pc' := 175) (lv' := [(0, .inl a1), (1, .inr (.inl a2)), (3, .inr (.inl a3))]) (st' := [.inr (.inl (m_lor a2 a3))]) (h' := h) (cs := []) (by decide +kernel) rfl trivial ?_
    exact RN.lR (by decide +kernel) rfl hF
  rcases it_of hF with ⟨hb10, hF⟩ | ⟨hb10, hF⟩
  · refine RN.tsw (dflt := 171) (lo := 2) (hi := 14) (offs := #[67, 71, 75, 79, 107, 119, 131, 143, 155, 171, 167, 171, 93]) (by decide +kernel) (RN.stm hb0 (RN.stm hb1 (RN.stm hb2 (RN.stm hb3 (RN.stm hb4 (RN.stm hb5 (RN.stm hb6 (RN.stm hb7 (RN.stm hb8 (RN.stm hb9 (RN.sth hb10 (tgt := 168) rfl ?_)))))))))))
    refine RN.blk (ops := [(168, .lload_n 1), (169, .lload_n 3), (170, .land)]) (pc' := 171) (lv' := [(0, .inl a1), (1, .inr (.inl a2)), (3, .inr (.inl a3))]) (st' := [.inr (.inl (m_land a2 a3))]) (h' := h) (cs := []) (by decide +kernel) rfl trivial ?_
    exact RN.lR (by decide +kernel) rfl hF
  rcases it_of hF with ⟨hb11, hF⟩ | ⟨hb11, hF⟩
  · refine RN.tsw (dflt := 171) (lo := 2) (hi := 14) (offs := #[67, 71, 75, 79, 107, 119, 131, 143, 155, 171, 167, 171, 93]) (by decide +kernel) (RN.stm hb0 (RN.stm hb1 (RN.stm hb2 (RN.stm hb3 (RN.stm hb4 (RN.stm hb5 (RN.stm hb6 (RN.stm hb7 (RN.stm hb8 (RN.stm hb9 (RN.stm hb10 (RN.sth hb11 (tgt := 172) rfl ?_))))))))))))
    refine RN.blk (ops := [(172, .lload_n 1), (173, .lload_n 3), (174, .lor)]) (pc' := 175) (lv' := [(0, .inl a1), (1, .inr (.inl a2)), (3, .inr (.inl a3))]) (st' := [.inr (.inl (m_lor a2 a3))]) (h' := h) (cs := []) (by decide +kernel) rfl trivial ?_
    exact RN.lR (by decide +kernel) rfl hF
  rcases it_of hF with ⟨hb12, hF⟩ | ⟨hb12, hF⟩
  · refine RN.tsw (dflt := 171) (lo := 2) (hi := 14) (offs := #[67, 71, 75, 79, 107, 119, 131, 143, 155, 171, 167, 171, 93]) (by decide +kernel) (RN.stm hb0 (RN.stm hb1 (RN.stm hb2 (RN.stm hb3 (RN.stm hb4 (RN.stm hb5 (RN.stm hb6 (RN.stm hb7 (RN.stm hb8 (RN.stm hb9 (RN.stm hb10 (RN.stm hb11 (RN.sth hb12 (tgt := 94) rfl ?_)))))))))))))
    refine RN.blk (ops := [(94, .lload_n 3), (95, .lconst 0), (96, .lcmp)]) (pc' := 97) (lv' := [(0, .inl a1), (1, .inr (.inl a2)), (3, .inr (.inl a3))]) (st' := [.inl (m_lcmp a3 0)]) (h' := h) (cs := []) (by decide +kernel) rfl trivial ?_
    rcases it_of hF with ⟨hb, hF⟩ | ⟨hb, hF⟩
    · refine RN.iff (cd := .ne) (off := 7) (tgt := 104) (by decide +kernel) (mif_nen hb) ?_
      refine RN.blk (ops := [(100, .lconst 0)]) (pc' := 101) (lv' := [(0, .inl a1), (1, .inr (.inl a2)), (3, .inr (.inl a3))]) (st' := [.inr (.inl 0)]) (h' := h) (cs := []) (by decide +kernel) rfl trivial ?_
      refine RN.goto (off := 6) (tgt := 107) (by decide +kernel) ?_
      exact RN.lR (by decide +kernel) rfl hF
    · refine RN.ift (cd := .ne) (off := 7) (tgt := 104) (by decide +kernel) (mif_ne hb) ?_
      obtain ⟨hc, hF⟩ := gd_of hF
      refine RN.blk (ops := [(104, .lload_n 1), (105, .lload_n 3), (106, .lrem)]) (pc' := 107) (lv' := [(0, .inl a1), (1, .inr (.inl a2)), (3, .inr (.inl a3))]) (st' := [.inr (.inl (Int.tmod a2 a3))]) (h' := h) (cs := [(a3 : Int) ≠ 0]) (by decide +kernel) rfl hc ?_
      exact RN.lR (by decide +kernel) rfl hF
  refine RN.tsw (dflt := 171) (lo := 2) (hi := 14) (offs := #[67, 71, 75, 79, 107, 119, 131, 143, 155, 171, 167, 171, 93]) (by decide +kernel) (RN.stm hb0 (RN.stm hb1 (RN.stm hb2 (RN.stm hb3 (RN.stm hb4 (RN.stm hb5 (RN.stm hb6 (RN.stm hb7 (RN.stm hb8 (RN.stm hb9 (RN.stm hb10 (RN.stm hb11 (RN.stm hb12 (RN.std (tgt := 172) rfl ?_))))))))))))))
  refine RN.blk (ops := [(172, .lload_n 1), (173, .lload_n 3), (174, .lor)]) (pc' := 175) (lv' := [(0, .inl a1), (1, .inr (.inl a2)), (3, .inr (.inl a3))]) (st' := [.inr (.inl (m_lor a2 a3))]) (h' := h) (cs := []) (by decide +kernel) rfl trivial ?_
  exact RN.lR (by decide +kernel) rfl hF
noncomputable def FX12_reckons_L8 (u0 : Int) (u1 : Int) (u3 : Int) (K0 : MH → Option (Int × MH)) : Nat → Int → MH → Option (Int × MH)
  | 0, _, _ => none
  | f + 1, v4, h =>
    (if v4 < u3 then
     gd [GK h u0 12, GI h (m_rd h u0 3) 1 (m_w32 ((m_w32 (400 * u1)) + v4)), GK h u0 12, GI h (m_rd h u0 3) 1 (m_w32 ((m_w32 (400 * u1)) + v4))] (
      (if (m_band (m_rd h (m_rd h u0 3) (m_w32 ((m_w32 (400 * u1)) + v4))) 15) = 0 then
       gd [GK h u0 12] (bv (FX12_push u0 (m_shr (m_rd h (m_rd h u0 3) (m_w32 ((m_w32 (400 * u1)) + v4))) 4) h) (fun h12 =>
        FX12_reckons_L8 u0 u1 u3 K0 f (m_w32 (v4 + 1)) h12))
      else
       (if (m_band (m_rd h (m_rd h u0 3) (m_w32 ((m_w32 (400 * u1)) + v4))) 15) = 1 then
        gd [GK h u0 12, GI h (m_rd h u0 19) 2 (m_shr (m_rd h (m_rd h u0 3) (m_w32 ((m_w32 (400 * u1)) + v4))) 4)] (
         gd [GK h u0 12] (bv (FX12_push u0 (m_rd h (m_rd h u0 19) (m_shr (m_rd h (m_rd h u0 3) (m_w32 ((m_w32 (400 * u1)) + v4))) 4)) h) (fun h11 =>
          FX12_reckons_L8 u0 u1 u3 K0 f (m_w32 (v4 + 1)) h11)))
       else
        (if (m_band (m_rd h (m_rd h u0 3) (m_w32 ((m_w32 (400 * u1)) + v4))) 15) = 11 then
         gd [GK h u0 12] (bd (FX12_pop u0 h) (fun x9 h8 =>
          gd [GK h8 u0 12] (bv (FX12_push u0 (m_w64 (1 - x9)) h8) (fun h10 =>
           FX12_reckons_L8 u0 u1 u3 K0 f (m_w32 (v4 + 1)) h10))))
        else
         gd [GK h u0 12] (bd (FX12_pop u0 h) (fun x2 h1 =>
          gd [GK h1 u0 12] (bd (FX12_pop u0 h1) (fun x4 h3 =>
           (bd (FX12_sumOfTwo (m_band (m_rd h (m_rd h u0 3) (m_w32 ((m_w32 (400 * u1)) + v4))) 15) x4 x2 h3) (fun x6 h5 =>
            gd [GK h5 u0 12] (bv (FX12_push u0 x6 h5) (fun h7 =>
             FX12_reckons_L8 u0 u1 u3 K0 f (m_w32 (v4 + 1)) h7))))))))))))
    else
     K0 h)
theorem CX12_reckons_L8 {d : Nat} {u0 : Int} {u1 : Int} {u3 : Int} {K0 : MH → Option (Int × MH)} {r : Int × MH} (hK0 : ∀ (h : MH), K0 h = some r → RN xs L iX12_reckons (d + 1) 135 [(0, .inr (.inr u0))] [] h (RJo r)) : ∀ (f : Nat) (v4 : Int) (h : MH), FX12_reckons_L8 u0 u1 u3 K0 f v4 h = some r → RN xs L iX12_reckons (d + 1) 8 [(0, .inr (.inr u0)), (1, .inl u1), (3, .inl u3), (4, .inl v4)] [] h (RJo r) := by
  intro f
  induction f with
  | zero =>
    intro v4 h hF
    cases hF
  | succ f ih =>
    intro v4 h hF
    unfold FX12_reckons_L8 at hF
    refine RN.blk (ops := [(8, .iload 4), (10, .iload_n 3)]) (pc' := 11) (lv' := [(0, .inr (.inr u0)), (1, .inl u1), (3, .inl u3), (4, .inl v4)]) (st' := [.inl u3, .inl v4]) (h' := h) (cs := []) (by decide +kernel) rfl trivial ?_
    rcases it_of hF with ⟨hb, hF⟩ | ⟨hb, hF⟩
    · refine RN.icf (cd := .ge) (off := 124) (tgt := 135) (by decide +kernel) (mif_gen hb) ?_
      obtain ⟨hc, hF⟩ := gd_of hF
      refine RN.blk (ops := [(14, .aload_n 0), (15, .getfield 13), (18, .sipush 400), (21, .iload_n 1), (22, .imul), (23, .iload 4), (25, .iadd), (26, .iaload), (27, .bipush 15), (29, .iand), (30, .istore 5), (32, .aload_n 0), (33, .getfield 13), (36, .sipush 400), (39, .iload_n 1), (40, .imul), (41, .iload 4), (43, .iadd), (44, .iaload), (45, .iconst 4), (46, .ishr), (47, .istore 6), (49, .iload 5)]) (pc' := 51) (lv' := [(6, .inl (m_shr (m_rd h (m_rd h u0 3) (m_w32 ((m_w32 (400 * u1)) + v4))) 4)), (5, .inl (m_band (m_rd h (m_rd h u0 3) (m_w32 ((m_w32 (400 * u1)) + v4))) 15)), (0, .inr (.inr u0)), (1, .inl u1), (3, .inl u3), (4, .inl v4)]) (st' := [.inl (m_band (m_rd h (m_rd h u0 3) (m_w32 ((m_w32 (400 * u1)) + v4))) 15)]) (h' := h) (cs := [GK h u0 12, GI h (m_rd h u0 3) 1 (m_w32 ((m_w32 (400 * u1)) + v4)), GK h u0 12, GI h (m_rd h u0 3) 1 (m_w32 ((m_w32 (400 * u1)) + v4))]) (by decide +kernel) rfl hc ?_
      rcases it_of hF with ⟨hb, hF⟩ | ⟨hb, hF⟩
      · refine RN.iff (cd := .ne) (off := 13) (tgt := 64) (by decide +kernel) (mif_nen hb) ?_
        refine RN.blk (ops := [(54, .aload_n 0), (55, .iload 6), (57, .i2l)]) (pc' := 58) (lv' := [(6, .inl (m_shr (m_rd h (m_rd h u0 3) (m_w32 ((m_w32 (400 * u1)) + v4))) 4)), (5, .inl (m_band (m_rd h (m_rd h u0 3) (m_w32 ((m_w32 (400 * u1)) + v4))) 15)), (0, .inr (.inr u0)), (1, .inl u1), (3, .inl u3), (4, .inl v4)]) (st' := [.inr (.inl (m_shr (m_rd h (m_rd h u0 3) (m_w32 ((m_w32 (400 * u1)) + v4))) 4)), .inr (.inr u0)]) (h' := h) (cs := []) (by decide +kernel) rfl trivial ?_
        obtain ⟨hc, hF⟩ := gd_of hF
        obtain ⟨h12, hG, hF⟩ := bv_of hF
        refine RN.cv (i := 283) (k := 198) (q2 := iX12_push) (as := [.inr (.inr u0), .inr (.inl (m_shr (m_rd h (m_rd h u0 3) (m_w32 ((m_w32 (400 * u1)) + v4))) 4))]) (r := []) (v := none) (h1 := h12) (by decide +kernel) rfl rfl rfl rfl rfl (rcv_ok hc.1) (CX12_push (d := d) hG) ?_
        refine RN.goto (off := 68) (tgt := 129) (by decide +kernel) ?_
        refine RN.blk (ops := [(129, .iinc 4 1)]) (pc' := 132) (lv' := [(4, .inl (m_w32 (v4 + 1))), (6, .inl (m_shr (m_rd h (m_rd h u0 3) (m_w32 ((m_w32 (400 * u1)) + v4))) 4)), (5, .inl (m_band (m_rd h (m_rd h u0 3) (m_w32 ((m_w32 (400 * u1)) + v4))) 15)), (0, .inr (.inr u0)), (1, .inl u1), (3, .inl u3)]) (st' := []) (h' := h12) (cs := []) (by decide +kernel) rfl trivial ?_
        refine RN.goto (off := -124) (tgt := 8) (by decide +kernel) ?_
        exact RN.sub (ih _ _ hF) (sub_cons rfl (sub_cons rfl (sub_cons rfl (sub_cons rfl sub_nil))))
      · refine RN.ift (cd := .ne) (off := 13) (tgt := 64) (by decide +kernel) (mif_ne hb) ?_
        refine RN.blk (ops := [(64, .iload 5), (66, .iconst 1)]) (pc' := 67) (lv' := [(6, .inl (m_shr (m_rd h (m_rd h u0 3) (m_w32 ((m_w32 (400 * u1)) + v4))) 4)), (5, .inl (m_band (m_rd h (m_rd h u0 3) (m_w32 ((m_w32 (400 * u1)) + v4))) 15)), (0, .inr (.inr u0)), (1, .inl u1), (3, .inl u3), (4, .inl v4)]) (st' := [.inl 1, .inl (m_band (m_rd h (m_rd h u0 3) (m_w32 ((m_w32 (400 * u1)) + v4))) 15)]) (h' := h) (cs := []) (by decide +kernel) rfl trivial ?_
        rcases it_of hF with ⟨hb, hF⟩ | ⟨hb, hF⟩
        · refine RN.icf (cd := .ne) (off := 17) (tgt := 84) (by decide +kernel) (mif_nen hb) ?_
          obtain ⟨hc, hF⟩ := gd_of hF
          refine RN.blk (ops := [(70, .aload_n 0), (71, .aload_n 0), (72, .getfield 36), (75, .iload 6), (77, .laload)]) (pc' := 78) (lv' := [(6, .inl (m_shr (m_rd h (m_rd h u0 3) (m_w32 ((m_w32 (400 * u1)) + v4))) 4)), (5, .inl (m_band (m_rd h (m_rd h u0 3) (m_w32 ((m_w32 (400 * u1)) + v4))) 15)), (0, .inr (.inr u0)), (1, .inl u1), (3, .inl u3), (4, .inl v4)]) (st' := [.inr (.inl (m_rd h (m_rd h u0 19) (m_shr (m_rd h (m_rd h u0 3) (m_w32 ((m_w32 (400 * u1)) + v4))) 4))), .inr (.inr u0)]) (h' := h) (cs := [GK h u0 12, GI h (m_rd h u0 19) 2 (m_shr (m_rd h (m_rd h u0 3) (m_w32 ((m_w32 (400 * u1)) + v4))) 4)]) (by decide +kernel) rfl hc ?_
          obtain ⟨hc, hF⟩ := gd_of hF
          obtain ⟨h11, hG, hF⟩ := bv_of hF
          refine RN.cv (i := 283) (k := 198) (q2 := iX12_push) (as := [.inr (.inr u0), .inr (.inl (m_rd h (m_rd h u0 19) (m_shr (m_rd h (m_rd h u0 3) (m_w32 ((m_w32 (400 * u1)) + v4))) 4)))]) (r := []) (v := none) (h1 := h11) (by decide +kernel) rfl rfl rfl rfl rfl (rcv_ok hc.1) (CX12_push (d := d) hG) ?_
          refine RN.goto (off := 48) (tgt := 129) (by decide +kernel) ?_
          refine RN.blk (ops := [(129, .iinc 4 1)]) (pc' := 132) (lv' := [(4, .inl (m_w32 (v4 + 1))), (6, .inl (m_shr (m_rd h (m_rd h u0 3) (m_w32 ((m_w32 (400 * u1)) + v4))) 4)), (5, .inl (m_band (m_rd h (m_rd h u0 3) (m_w32 ((m_w32 (400 * u1)) + v4))) 15)), (0, .inr (.inr u0)), (1, .inl u1), (3, .inl u3)]) (st' := []) (h' := h11) (cs := []) (by decide +kernel) rfl trivial ?_
          refine RN.goto (off := -124) (tgt := 8) (by decide +kernel) ?_
          exact RN.sub (ih _ _ hF) (sub_cons rfl (sub_cons rfl (sub_cons rfl (sub_cons rfl sub_nil))))
        · refine RN.ict (cd := .ne) (off := 17) (tgt := 84) (by decide +kernel) (mif_ne hb) ?_
          refine RN.blk (ops := [(84, .iload 5), (86, .bipush 11)]) (pc' := 88) (lv' := [(6, .inl (m_shr (m_rd h (m_rd h u0 3) (m_w32 ((m_w32 (400 * u1)) + v4))) 4)), (5, .inl (m_band (m_rd h (m_rd h u0 3) (m_w32 ((m_w32 (400 * u1)) + v4))) 15)), (0, .inr (.inr u0)), (1, .inl u1), (3, .inl u3), (4, .inl v4)]) (st' := [.inl 11, .inl (m_band (m_rd h (m_rd h u0 3) (m_w32 ((m_w32 (400 * u1)) + v4))) 15)]) (h' := h) (cs := []) (by decide +kernel) rfl trivial ?_
          rcases it_of hF with ⟨hb, hF⟩ | ⟨hb, hF⟩
          · refine RN.icf (cd := .ne) (off := 16) (tgt := 104) (by decide +kernel) (mif_nen hb) ?_
            refine RN.blk (ops := [(91, .aload_n 0), (92, .lconst 1), (93, .aload_n 0)]) (pc' := 94) (lv' := [(6, .inl (m_shr (m_rd h (m_rd h u0 3) (m_w32 ((m_w32 (400 * u1)) + v4))) 4)), (5, .inl (m_band (m_rd h (m_rd h u0 3) (m_w32 ((m_w32 (400 * u1)) + v4))) 15)), (0, .inr (.inr u0)), (1, .inl u1), (3, .inl u3), (4, .inl v4)]) (st' := [.inr (.inr u0), .inr (.inl 1), .inr (.inr u0)]) (h' := h) (cs := []) (by decide +kernel) rfl trivial ?_
            obtain ⟨hc, hF⟩ := gd_of hF
            obtain ⟨x9, h8, hG, hF⟩ := bd_of hF
            refine RN.cv (i := 287) (k := 199) (q2 := iX12_pop) (as := [.inr (.inr u0)]) (r := [.inr (.inl 1), .inr (.inr u0)]) (v := some (.inr (.inl x9))) (h1 := h8) (by decide +kernel) rfl rfl rfl rfl rfl (rcv_ok hc.1) (CX12_pop (d := d) hG) ?_
            refine RN.blk (ops := [(97, .lsub)]) (pc' := 98) (lv' := [(6, .inl (m_shr (m_rd h (m_rd h u0 3) (m_w32 ((m_w32 (400 * u1)) + v4))) 4)), (5, .inl (m_band (m_rd h (m_rd h u0 3) (m_w32 ((m_w32 (400 * u1)) + v4))) 15)), (0, .inr (.inr u0)), (1, .inl u1), (3, .inl u3), (4, .inl v4)]) (st' := [.inr (.inl (m_w64 (1 - x9))), .inr (.inr u0)]) (h' := h8) (cs := []) (by decide +kernel) rfl trivial ?_
            obtain ⟨hc, hF⟩ := gd_of hF
            obtain ⟨h10, hG, hF⟩ := bv_of hF
            refine RN.cv (i := 283) (k := 198) (q2 := iX12_push) (as := [.inr (.inr u0), .inr (.inl (m_w64 (1 - x9)))]) (r := []) (v := none) (h1 := h10) (by decide +kernel) rfl rfl rfl rfl rfl (rcv_ok hc.1) (CX12_push (d := d) hG) ?_
            refine RN.goto (off := 28) (tgt := 129) (by decide +kernel) ?_
            refine RN.blk (ops := [(129, .iinc 4 1)]) (pc' := 132) (lv' := [(4, .inl (m_w32 (v4 + 1))), (6, .inl (m_shr (m_rd h (m_rd h u0 3) (m_w32 ((m_w32 (400 * u1)) + v4))) 4)), (5, .inl (m_band (m_rd h (m_rd h u0 3) (m_w32 ((m_w32 (400 * u1)) + v4))) 15)), (0, .inr (.inr u0)), (1, .inl u1), (3, .inl u3)]) (st' := []) (h' := h10) (cs := []) (by decide +kernel) rfl trivial ?_
            refine RN.goto (off := -124) (tgt := 8) (by decide +kernel) ?_
            exact RN.sub (ih _ _ hF) (sub_cons rfl (sub_cons rfl (sub_cons rfl (sub_cons rfl sub_nil))))
          · refine RN.ict (cd := .ne) (off := 16) (tgt := 104) (by decide +kernel) (mif_ne hb) ?_
            refine RN.blk (ops := [(104, .aload_n 0)]) (pc' := 105) (lv' := [(6, .inl (m_shr (m_rd h (m_rd h u0 3) (m_w32 ((m_w32 (400 * u1)) + v4))) 4)), (5, .inl (m_band (m_rd h (m_rd h u0 3) (m_w32 ((m_w32 (400 * u1)) + v4))) 15)), (0, .inr (.inr u0)), (1, .inl u1), (3, .inl u3), (4, .inl v4)]) (st' := [.inr (.inr u0)]) (h' := h) (cs := []) (by decide +kernel) rfl trivial ?_
            obtain ⟨hc, hF⟩ := gd_of hF
            obtain ⟨x2, h1, hG, hF⟩ := bd_of hF
            refine RN.cv (i := 287) (k := 199) (q2 := iX12_pop) (as := [.inr (.inr u0)]) (r := []) (v := some (.inr (.inl x2))) (h1 := h1) (by decide +kernel) rfl rfl rfl rfl rfl (rcv_ok hc.1) (CX12_pop (d := d) hG) ?_
            refine RN.blk (ops := [(108, .lstore 7), (110, .aload_n 0)]) (pc' := 111) (lv' := [(7, .inr (.inl x2)), (6, .inl (m_shr (m_rd h (m_rd h u0 3) (m_w32 ((m_w32 (400 * u1)) + v4))) 4)), (5, .inl (m_band (m_rd h (m_rd h u0 3) (m_w32 ((m_w32 (400 * u1)) + v4))) 15)), (0, .inr (.inr u0)), (1, .inl u1), (3, .inl u3), (4, .inl v4)]) (st' := [.inr (.inr u0)]) (h' := h1) (cs := []) (by decide +kernel) rfl trivial ?_
            obtain ⟨hc, hF⟩ := gd_of hF
            obtain ⟨x4, h3, hG, hF⟩ := bd_of hF
            refine RN.cv (i := 287) (k := 199) (q2 := iX12_pop) (as := [.inr (.inr u0)]) (r := []) (v := some (.inr (.inl x4))) (h1 := h3) (by decide +kernel) rfl rfl rfl rfl rfl (rcv_ok hc.1) (CX12_pop (d := d) hG) ?_
            refine RN.blk (ops := [(114, .lstore 9), (116, .aload_n 0), (117, .iload 5), (119, .lload 9), (121, .lload 7)]) (pc' := 123) (lv' := [(9, .inr (.inl x4)), (7, .inr (.inl x2)), (6, .inl (m_shr (m_rd h (m_rd h u0 3) (m_w32 ((m_w32 (400 * u1)) + v4))) 4)), (5, .inl (m_band (m_rd h (m_rd h u0 3) (m_w32 ((m_w32 (400 * u1)) + v4))) 15)), (0, .inr (.inr u0)), (1, .inl u1), (3, .inl u3), (4, .inl v4)]) (st' := [.inr (.inl x2), .inr (.inl x4), .inl (m_band (m_rd h (m_rd h u0 3) (m_w32 ((m_w32 (400 * u1)) + v4))) 15), .inr (.inr u0)]) (h' := h3) (cs := []) (by decide +kernel) rfl trivial ?_
            obtain ⟨x6, h5, hG, hF⟩ := bd_of hF
            refine RN.cst (i := 291) (k := 200) (q2 := iX12_sumOfTwo) (as := [.inl (m_band (m_rd h (m_rd h u0 3) (m_w32 ((m_w32 (400 * u1)) + v4))) 15), .inr (.inl x4), .inr (.inl x2)]) (r := [.inr (.inr u0)]) (v := some (.inr (.inl x6))) (h1 := h5) (by decide +kernel) rfl rfl rfl rfl rfl (CX12_sumOfTwo (d := d) hG) ?_
            obtain ⟨hc, hF⟩ := gd_of hF
            obtain ⟨h7, hG, hF⟩ := bv_of hF
            refine RN.cv (i := 283) (k := 198) (q2 := iX12_push) (as := [.inr (.inr u0), .inr (.inl x6)]) (r := []) (v := none) (h1 := h7) (by decide +kernel) rfl rfl rfl rfl rfl (rcv_ok hc.1) (CX12_push (d := d) hG) ?_
            refine RN.blk (ops := [(129, .iinc 4 1)]) (pc' := 132) (lv' := [(4, .inl (m_w32 (v4 + 1))), (9, .inr (.inl x4)), (7, .inr (.inl x2)), (6, .inl (m_shr (m_rd h (m_rd h u0 3) (m_w32 ((m_w32 (400 * u1)) + v4))) 4)), (5, .inl (m_band (m_rd h (m_rd h u0 3) (m_w32 ((m_w32 (400 * u1)) + v4))) 15)), (0, .inr (.inr u0)), (1, .inl u1), (3, .inl u3)]) (st' := []) (h' := h7) (cs := []) (by decide +kernel) rfl trivial ?_
            refine RN.goto (off := -124) (tgt := 8) (by decide +kernel) ?_
            exact RN.sub (ih _ _ hF) (sub_cons rfl (sub_cons rfl (sub_cons rfl (sub_cons rfl sub_nil))))
    · refine RN.ict (cd := .ge) (off := 124) (tgt := 135) (by decide +kernel) (mif_ge hb) ?_
      exact RN.sub (hK0 _ hF) (sub_cons rfl sub_nil)
noncomputable def FX12_reckons (t : Int) (a1 : Int) (a2 : Int) (a3 : Int) (h : MH) : Option (Int × MH) :=
  gd [GK h t 12] (
   FX12_reckons_L8 t a1 a3 (fun h1 =>
    gd [GK h1 t 12] (bd (FX12_pop t h1) (fun x3 h2 =>
     some (x3, h2)))) FU a2 (m_wr h t 18 0))
theorem CX12_reckons {d : Nat} {t : Int} {a1 : Int} {a2 : Int} {a3 : Int} {h : MH} {r : Int × MH} (hF : FX12_reckons t a1 a2 a3 h = some r) : RN xs L iX12_reckons (d + 1) 0 (lvE 0 [.inr (.inr t), .inl a1, .inl a2, .inl a3]) [] h (RJo r) := by
  unfold FX12_reckons at hF
  obtain ⟨hc, hF⟩ := gd_of hF
  refine RN.blk (ops := [(0, .aload_n 0), (1, .iconst 0), (2, .putfield 280), (5, .iload_n 2), (6, .istore 4)]) (pc' := 8) (lv' := [(4, .inl a2), (0, .inr (.inr t)), (1, .inl a1), (2, .inl a2), (3, .inl a3)]) (st' := []) (h' := (m_wr h t 18 0)) (cs := [GK h t 12]) (by decide +kernel) rfl hc ?_
  refine RN.sub (CX12_reckons_L8 ?_ _ _ _ hF) (sub_cons rfl (sub_cons rfl (sub_cons rfl (sub_cons rfl sub_nil))))
  · intro h1 hF
    refine RN.blk (ops := [(135, .aload_n 0)]) (pc' := 136) (lv' := [(0, .inr (.inr t))]) (st' := [.inr (.inr t)]) (h' := h1) (cs := []) (by decide +kernel) rfl trivial ?_
    obtain ⟨hc, hF⟩ := gd_of hF
    obtain ⟨x3, h2, hG, hF⟩ := bd_of hF
    refine RN.cv (i := 287) (k := 199) (q2 := iX12_pop) (as := [.inr (.inr t)]) (r := []) (v := some (.inr (.inl x3))) (h1 := h2) (by decide +kernel) rfl rfl rfl rfl rfl (rcv_ok hc.1) (CX12_pop (d := d) hG) ?_
    exact RN.lR (by decide +kernel) rfl hF
end Dc
