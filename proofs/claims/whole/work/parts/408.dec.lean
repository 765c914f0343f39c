/-! METHODS AS FUNCTIONS, and their certificates (by program): X11_may, J6_bitCount_0f7a4, X11_read, X11_codes, X11_slips, X11_worst, X11_idle, X11_least, X11_one, X11_change, X11_ahead, X11_sorted, X11_tied, X11_enough, X11_said -/
section Dc
variable {xs : Int → Int} {L : Int}
noncomputable def FX11_may (t : Int) (a1 : Int) (h : MH) : Option (Int × MH) :=
  gd [GK h t 11] (bv (FX11_drawNow t h) (fun h1 =>
   gd [GK h1 t 11] (
    gd [GK h1 (m_rd h1 t 11) 1] (bd (FX1_takeReading (m_rd h1 t 11) a1 h1) (fun x3 h2 =>
     (if x3 = 0 then
      some ((-1), h2)
     else
      gd [GK h2 t 11] (
       gd [GK h2 (m_rd h2 t 11) 1] (bd (FX1_meantHoles (m_rd h2 t 11) h2) (fun x5 h4 =>
        some (x5, h4))))))))))
theorem CX11_may {d : Nat} {t : Int} {a1 : Int} {h : MH} {r : Int × MH} (hF : FX11_may t a1 h = some r) : RN xs L iX11_may (d + 4) 0 (lvE 0 [.inr (.inr t), .inl a1]) [] h (RIo r) := by
  unfold FX11_may at hF
  refine RN.blk (ops := [(0, .aload_n 0)]) (pc' := 1) (lv' := [(0, .inr (.inr t)), (1, .inl a1)]) (st' := [.inr (.inr t)]) (h' := h) (cs := []) (by decide +kernel) rfl trivial ?_
  obtain ⟨hc, hF⟩ := gd_of hF
  obtain ⟨h1, hG, hF⟩ := bv_of hF
  refine RN.cv (i := 242) (k := 153) (q2 := iX11_drawNow) (as := [.inr (.inr t)]) (r := []) (v := none) (h1 := h1) (by decide +kernel) rfl rfl rfl rfl rfl (rcv_ok hc.1) (CX11_drawNow (d := d) hG) ?_
  obtain ⟨hc, hF⟩ := gd_of hF
  refine RN.blk (ops := [(4, .aload_n 0), (5, .getfield 63), (8, .iload_n 1)]) (pc' := 9) (lv' := [(0, .inr (.inr t)), (1, .inl a1)]) (st' := [.inl a1, .inr (.inr (m_rd h1 t 11))]) (h' := h1) (cs := [GK h1 t 11]) (by decide +kernel) rfl hc ?_
  obtain ⟨hc, hF⟩ := gd_of hF
  obtain ⟨x3, h2, hG, hF⟩ := bd_of hF
  refine RN.cv (i := 255) (k := 19) (q2 := iX1_takeReading) (as := [.inr (.inr (m_rd h1 t 11)), .inl a1]) (r := []) (v := some (.inl x3)) (h1 := h2) (by decide +kernel) rfl rfl rfl rfl rfl (rcv_ok hc.1) (CX1_takeReading (d := d + 3) hG) ?_
  rcases it_of hF with ⟨hb, hF⟩ | ⟨hb, hF⟩
  · refine RN.ift (cd := .eq) (off := 13) (tgt := 25) (by decide +kernel) (mif_eq hb) ?_
    refine RN.blk (ops := [(25, .iconst (-1))]) (pc' := 26) (lv' := [(0, .inr (.inr t)), (1, .inl a1)]) (st' := [.inl (-1)]) (h' := h2) (cs := []) (by decide +kernel) rfl trivial ?_
    exact RN.iR (by decide +kernel) rfl hF
  · refine RN.iff (cd := .eq) (off := 13) (tgt := 25) (by decide +kernel) (mif_eqn hb) ?_
    obtain ⟨hc, hF⟩ := gd_of hF
    refine RN.blk (ops := [(15, .aload_n 0), (16, .getfield 63)]) (pc' := 19) (lv' := [(0, .inr (.inr t)), (1, .inl a1)]) (st' := [.inr (.inr (m_rd h2 t 11))]) (h' := h2) (cs := [GK h2 t 11]) (by decide +kernel) rfl hc ?_
    obtain ⟨hc, hF⟩ := gd_of hF
    obtain ⟨x5, h4, hG, hF⟩ := bd_of hF
    refine RN.cv (i := 258) (k := 21) (q2 := iX1_meantHoles) (as := [.inr (.inr (m_rd h2 t 11))]) (r := []) (v := some (.inl x5)) (h1 := h4) (by decide +kernel) rfl rfl rfl rfl rfl (rcv_ok hc.1) (CX1_meantHoles (d := d) hG) ?_
    refine RN.goto (off := 4) (tgt := 26) (by decide +kernel) ?_
    exact RN.iR (by decide +kernel) rfl hF
noncomputable def FJ6_bitCount_0f7a4 (a1 : Int) (h : MH) : Option (Int × MH) :=
  some ((m_band (m_w32 ((m_w32 ((m_band (m_w32 ((m_w32 ((m_band (m_w32 (a1 - (m_band (m_ushr a1 1) 1431655765))) 858993459) + (m_band (m_ushr (m_w32 (a1 - (m_band (m_ushr a1 1) 1431655765))) 2) 858993459))) + (m_ushr (m_w32 ((m_band (m_w32 (a1 - (m_band (m_ushr a1 1) 1431655765))) 858993459) + (m_band (m_ushr (m_w32 (a1 - (m_band (m_ushr a1 1) 1431655765))) 2) 858993459))) 4))) 252645135) + (m_ushr (m_band (m_w32 ((m_w32 ((m_band (m_w32 (a1 - (m_band (m_ushr a1 1) 1431655765))) 858993459) + (m_band (m_ushr (m_w32 (a1 - (m_band (m_ushr a1 1) 1431655765))) 2) 858993459))) + (m_ushr (m_w32 ((m_band (m_w32 (a1 - (m_band (m_ushr a1 1) 1431655765))) 858993459) + (m_band (m_ushr (m_w32 (a1 - (m_band (m_ushr a1 1) 1431655765))) 2) 858993459))) 4))) 252645135) 8))) + (m_ushr (m_w32 ((m_band (m_w32 ((m_w32 ((m_band (m_w32 (a1 - (m_band (m_ushr a1 1) 1431655765))) 858993459) + (m_band (m_ushr (m_w32 (a1 - (m_band (m_ushr a1 1) 1431655765))) 2) 858993459))) + (m_ushr (m_w32 ((m_band (m_w32 (a1 - (m_band (m_ushr a1 1) 1431655765))) 858993459) + (m_band (m_ushr (m_w32 (a1 - (m_band (m_ushr a1 1) 1431655765))) 2) 858993459))) 4))) 252645135) + (m_ushr (m_band (m_w32 ((m_w32 ((m_band (m_w32 (a1 - (m_band (m_ushr a1 1) 1431655765))) 858993459) + (m_band (m_ushr (m_w32 (a1 - (m_band (m_ushr a1 1) 1431655765))) 2) 858993459))) + (m_ushr (m_w32 ((m_band (m_w32 (a1 - (m_band (m_ushr a1 1) 1431655765))) 858993459) + (m_band (m_ushr (m_w32 (a1 - (m_band (m_ushr a1 1) 1431655765))) 2) 858993459))) 4))) 252645135) 8))) 16))) 63), h)
theorem CJ6_bitCount_0f7a4 {d : Nat} {a1 : Int} {h : MH} {r : Int × MH} (hF : FJ6_bitCount_0f7a4 a1 h = some r) : RN xs L iJ6_bitCount_0f7a4 (d) 0 (lvE 0 [.inl a1]) [] h (RIo r) := by
  unfold FJ6_bitCount_0f7a4 at hF
  refine RN.blk (ops := [(0, .iload_n 0), (1, .iload_n 0), (2, .iconst 1), (3, .iushr), (4, .ldc_w 265), (7, .iand), (8, .isub), (9, .istore_n 0), (10, .iload_n 0), (11, .ldc_w 266), (14, .iand), (15, .iload_n 0), (16, .iconst 2), (17, .iushr), (18, .ldc_w 266), (21, .iand), (22, .iadd), (23, .istore_n 0), (24, .iload_n 0), (25, .iload_n 0), (26, .iconst 4), (27, .iushr), (28, .iadd), (29, .ldc_w 267), (32, .iand), (33, .istore_n 0), (34, .iload_n 0), (35, .iload_n 0), (36, .bipush 8), (38, .iushr), (39, .iadd), (40, .istore_n 0), (41, .iload_n 0), (42, .iload_n 0), (43, .bipush 16), (45, .iushr), (46, .iadd), (47, .istore_n 0), (48, .iload_n 0), (49, .bipush 63), (51, .iand)]) (pc' := 52) (lv' := [(0, .inl (m_w32 ((m_w32 ((m_band (m_w32 ((m_w32 ((m_band (m_w32 (a1 - (m_band (m_ushr a1 1) 1431655765))) 858993459) + (m_band (m_ushr (m_w32 (a1 - (m_band (m_ushr a1 1) 1431655765))) 2) 858993459))) + (m_ushr (m_w32 ((m_band (m_w32 (a1 - (m_band (m_ushr a1 1) 1431655765))) 858993459) + (m_band (m_ushr (m_w32 (a1 - (m_band (m_ushr a1 1) 1431655765))) 2) 858993459))) 4))) 252645135) + (m_ushr (m_band (m_w32 ((m_w32 ((m_band (m_w32 (a1 - (m_band (m_ushr a1 1) 1431655765))) 858993459) + (m_band (m_ushr (m_w32 (a1 - (m_band (m_ushr a1 1) 1431655765))) 2) 858993459))) + (m_ushr (m_w32 ((m_band (m_w32 (a1 - (m_band (m_ushr a1 1) 1431655765))) 858993459) + (m_band (m_ushr (m_w32 (a1 - (m_band (m_ushr a1 1) 1431655765))) 2) 858993459))) 4))) 252645135) 8))) + (m_ushr (m_w32 ((m_band (m_w32 ((m_w32 ((m_band (m_w32 (a1 - (m_band (m_ushr a1 1) 1431655765))) 858993459) + (m_band (m_ushr (m_w32 (a1 - (m_band (m_ushr a1 1) 1431655765))) 2) 858993459))) + (m_ushr (m_w32 ((m_band (m_w32 (a1 - (m_band (m_ushr a1 1) 1431655765))) 858993459) + (m_band (m_ushr (m_w32 (a1 - (m_band (m_ushr a1 1) 1431655765))) 2) 858993459))) 4))) 252645135) + (m_ushr (m_band (m_w32 ((m_w32 ((m_band (m_w32 (a1 - (m_band (m_ushr a1 1) 1431655765))) 858993459) + (m_band (m_ushr (m_w32 (a1 - (m_band (m_ushr a1 1) 1431655765))) 2) 858993459))) + (m_ushr (m_w32 ((m_band (m_w32 (a1 - (m_band (m_ushr a1 1) 1431655765))) 858993459) + (m_band (m_ushr (m_w32 (a1 - (m_band (m_ushr a1 1) 1431655765))) 2) 858993459))) 4))) 252645135) 8))) 16))))]) (st' := [.inl (m_band (m_w32 ((m_w32 ((m_band (m_w32 ((m_w32 ((m_band (m_w32 (a1 - (m_band (m_ushr a1 1) 1431655765))) 858993459) + (m_band (m_ushr (m_w32 (a1 - (m_band (m_ushr a1 1) 1431655765))) 2) 858993459))) + (m_ushr (m_w32 ((m_band (m_w32 (a1 - (m_band (m_ushr a1 1) 1431655765))) 858993459) + (m_band (m_ushr (m_w32 (a1 - (m_band (m_ushr a1 1) 1431655765))) 2) 858993459))) 4))) 252645135) + (m_ushr (m_band (m_w32 ((m_w32 ((m_band (m_w32 (a1 - (m_band (m_ushr a1 1) 1431655765))) 858993459) + (m_band (m_ushr (m_w32 (a1 - (m_band (m_ushr a1 1) 1431655765))) 2) 858993459))) + (m_ushr (m_w32 ((m_band (m_w32 (a1 - (m_band (m_ushr a1 1) 1431655765))) 858993459) + (m_band (m_ushr (m_w32 (a1 - (m_band (m_ushr a1 1) 1431655765))) 2) 858993459))) 4))) 252645135) 8))) + (m_ushr (m_w32 ((m_band (m_w32 ((m_w32 ((m_band (m_w32 (a1 - (m_band (m_ushr a1 1) 1431655765))) 858993459) + (m_band (m_ushr (m_w32 (a1 - (m_band (m_ushr a1 1) 1431655765))) 2) 858993459))) + (m_ushr (m_w32 ((m_band (m_w32 (a1 - (m_band (m_ushr a1 1) 1431655765))) 858993459) + (m_band (m_ushr (m_w32 (a1 - (m_band (m_ushr a1 1) 1431655765))) 2) 858993459))) 4))) 252645135) + (m_ushr (m_band (m_w32 ((m_w32 ((m_band (m_w32 (a1 - (m_band (m_ushr a1 1) 1431655765))) 858993459) + (m_band (m_ushr (m_w32 (a1 - (m_band (m_ushr a1 1) 1431655765))) 2) 858993459))) + (m_ushr (m_w32 ((m_band (m_w32 (a1 - (m_band (m_ushr a1 1) 1431655765))) 858993459) + (m_band (m_ushr (m_w32 (a1 - (m_band (m_ushr a1 1) 1431655765))) 2) 858993459))) 4))) 252645135) 8))) 16))) 63)]) (h' := h) (cs := []) (by decide +kernel) rfl trivial ?_
  exact RN.iR (by decide +kernel) rfl hF
noncomputable def FX11_read (t : Int) (a1 : Int) (a2 : Int) (h : MH) : Option (Int × MH) :=
  (if a2 < 0 then
   some ((-1), h)
  else
   (if 1 < a2 then
    some ((-1), h)
   else
    gd [GK h t 11] (bv (FX11_drawNow t h) (fun h1 =>
     gd [GK h1 t 11] (
      gd [GK h1 (m_rd h1 t 11) 1] (bd (FX1_takeReading (m_rd h1 t 11) a1 h1) (fun x3 h2 =>
       (if x3 = 0 then
        some ((-1), h2)
       else
        gd [GK h2 t 11] (
         gd [GK h2 (m_rd h2 t 11) 1] (bd (FX1_setToRead (m_rd h2 t 11) h2) (fun x5 h4 =>
          (if a2 = 0 then
           (bd (FJ6_bitCount_0f7a4 x5 h4) (fun x7 h6 =>
            some (x7, h6)))
          else
           some (x5, h4)))))))))))))
theorem CX11_read {d : Nat} {t : Int} {a1 : Int} {a2 : Int} {h : MH} {r : Int × MH} (hF : FX11_read t a1 a2 h = some r) : RN xs L iX11_read (d + 5) 0 (lvE 0 [.inr (.inr t), .inl a1, .inl a2]) [] h (RIo r) := by
  unfold FX11_read at hF
  refine RN.blk (ops := [(0, .iload_n 2)]) (pc' := 1) (lv' := [(0, .inr (.inr t)), (1, .inl a1), (2, .inl a2)]) (st' := [.inl a2]) (h' := h) (cs := []) (by decide +kernel) rfl trivial ?_
  rcases it_of hF with ⟨hb, hF⟩ | ⟨hb, hF⟩
  · refine RN.ift (cd := .lt) (off := 8) (tgt := 9) (by decide +kernel) (mif_lt hb) ?_
    refine RN.blk (ops := [(9, .iconst (-1))]) (pc' := 10) (lv' := [(0, .inr (.inr t)), (1, .inl a1), (2, .inl a2)]) (st' := [.inl (-1)]) (h' := h) (cs := []) (by decide +kernel) rfl trivial ?_
    exact RN.iR (by decide +kernel) rfl hF
  · refine RN.iff (cd := .lt) (off := 8) (tgt := 9) (by decide +kernel) (mif_ltn hb) ?_
    refine RN.blk (ops := [(4, .iload_n 2), (5, .iconst 1)]) (pc' := 6) (lv' := [(0, .inr (.inr t)), (1, .inl a1), (2, .inl a2)]) (st' := [.inl 1, .inl a2]) (h' := h) (cs := []) (by decide +kernel) rfl trivial ?_
    rcases it_of hF with ⟨hb, hF⟩ | ⟨hb, hF⟩
    · refine RN.icf (cd := .le) (off := 5) (tgt := 11) (by decide +kernel) (mif_len hb) ?_
      refine RN.blk (ops := [(9, .iconst (-1))]) (pc' := 10) (lv' := [(0, .inr (.inr t)), (1, .inl a1), (2, .inl a2)]) (st' := [.inl (-1)]) (h' := h) (cs := []) (by decide +kernel) rfl trivial ?_
      exact RN.iR (by decide +kernel) rfl hF
    · refine RN.ict (cd := .le) (off := 5) (tgt := 11) (by decide +kernel) (mif_le hb) ?_
      refine RN.blk (ops := [(11, .aload_n 0)]) (pc' := 12) (lv' := [(0, .inr (.inr t)), (1, .inl a1), (2, .inl a2)]) (st' := [.inr (.inr t)]) (h' := h) (cs := []) (by decide +kernel) rfl trivial ?_
      obtain ⟨hc, hF⟩ := gd_of hF
      obtain ⟨h1, hG, hF⟩ := bv_of hF
      refine RN.cv (i := 242) (k := 153) (q2 := iX11_drawNow) (as := [.inr (.inr t)]) (r := []) (v := none) (h1 := h1) (by decide +kernel) rfl rfl rfl rfl rfl (rcv_ok hc.1) (CX11_drawNow (d := d + 1) hG) ?_
      obtain ⟨hc, hF⟩ := gd_of hF
      refine RN.blk (ops := [(15, .aload_n 0), (16, .getfield 63), (19, .iload_n 1)]) (pc' := 20) (lv' := [(0, .inr (.inr t)), (1, .inl a1), (2, .inl a2)]) (st' := [.inl a1, .inr (.inr (m_rd h1 t 11))]) (h' := h1) (cs := [GK h1 t 11]) (by decide +kernel) rfl hc ?_
      obtain ⟨hc, hF⟩ := gd_of hF
      obtain ⟨x3, h2, hG, hF⟩ := bd_of hF
      refine RN.cv (i := 255) (k := 19) (q2 := iX1_takeReading) (as := [.inr (.inr (m_rd h1 t 11)), .inl a1]) (r := []) (v := some (.inl x3)) (h1 := h2) (by decide +kernel) rfl rfl rfl rfl rfl (rcv_ok hc.1) (CX1_takeReading (d := d + 4) hG) ?_
      rcases it_of hF with ⟨hb, hF⟩ | ⟨hb, hF⟩
      · refine RN.iff (cd := .ne) (off := 5) (tgt := 28) (by decide +kernel) (mif_nen hb) ?_
        refine RN.blk (ops := [(26, .iconst (-1))]) (pc' := 27) (lv' := [(0, .inr (.inr t)), (1, .inl a1), (2, .inl a2)]) (st' := [.inl (-1)]) (h' := h2) (cs := []) (by decide +kernel) rfl trivial ?_
        exact RN.iR (by decide +kernel) rfl hF
      · refine RN.ift (cd := .ne) (off := 5) (tgt := 28) (by decide +kernel) (mif_ne hb) ?_
        obtain ⟨hc, hF⟩ := gd_of hF
        refine RN.blk (ops := [(28, .aload_n 0), (29, .getfield 63)]) (pc' := 32) (lv' := [(0, .inr (.inr t)), (1, .inl a1), (2, .inl a2)]) (st' := [.inr (.inr (m_rd h2 t 11))]) (h' := h2) (cs := [GK h2 t 11]) (by decide +kernel) rfl hc ?_
        obtain ⟨hc, hF⟩ := gd_of hF
        obtain ⟨x5, h4, hG, hF⟩ := bd_of hF
        refine RN.cv (i := 261) (k := 22) (q2 := iX1_setToRead) (as := [.inr (.inr (m_rd h2 t 11))]) (r := []) (v := some (.inl x5)) (h1 := h4) (by decide +kernel) rfl rfl rfl rfl rfl (rcv_ok hc.1) (CX1_setToRead (d := d) hG) ?_
        refine RN.blk (ops := [(35, .istore_n 3), (36, .iload_n 2)]) (pc' := 37) (lv' := [(3, .inl x5), (0, .inr (.inr t)), (1, .inl a1), (2, .inl a2)]) (st' := [.inl a2]) (h' := h4) (cs := []) (by decide +kernel) rfl trivial ?_
        rcases it_of hF with ⟨hb, hF⟩ | ⟨hb, hF⟩
        · refine RN.iff (cd := .ne) (off := 10) (tgt := 47) (by decide +kernel) (mif_nen hb) ?_
          refine RN.blk (ops := [(40, .iload_n 3)]) (pc' := 41) (lv' := [(3, .inl x5), (0, .inr (.inr t)), (1, .inl a1), (2, .inl a2)]) (st' := [.inl x5]) (h' := h4) (cs := []) (by decide +kernel) rfl trivial ?_
          obtain ⟨x7, h6, hG, hF⟩ := bd_of hF
          refine RN.cst (i := 264) (k := 282) (q2 := iJ6_bitCount_0f7a4) (as := [.inl x5]) (r := []) (v := some (.inl x7)) (h1 := h6) (by decide +kernel) rfl rfl rfl rfl rfl (CJ6_bitCount_0f7a4 (d := d + 4) hG) ?_
          refine RN.goto (off := 4) (tgt := 48) (by decide +kernel) ?_
          exact RN.iR (by decide +kernel) rfl hF
        · refine RN.ift (cd := .ne) (off := 10) (tgt := 47) (by decide +kernel) (mif_ne hb) ?_
          refine RN.blk (ops := [(47, .iload_n 3)]) (pc' := 48) (lv' := [(3, .inl x5), (0, .inr (.inr t)), (1, .inl a1), (2, .inl a2)]) (st' := [.inl x5]) (h' := h4) (cs := []) (by decide +kernel) rfl trivial ?_
          exact RN.iR (by decide +kernel) rfl hF
noncomputable def FX11_codes (t : Int) (a1 : Int) (a2 : Int) (h : MH) : Option (Int × MH) :=
  jn (fun (s2 : Int) (h3 : MH) =>
   gd [GK h3 t 11] (bd (FX11_hasFrame t h3) (fun x5 h4 =>
    (if x5 = 0 then
     some ((-3), h4)
    else
     (if s2 = 0 then
      some ((-3), h4)
     else
      (if a2 < 0 then
       some ((-3), h4)
      else
       (if 1 < a2 then
        some ((-3), h4)
       else
        gd [GK h4 t 11] (bv (FX11_drawNow t h4) (fun h6 =>
         (if a2 = 0 then
          gd [GK h6 t 11] (
           gd [GK h6 (m_rd h6 t 11) 1] (bd (FX1_howManyTo (m_rd h6 t 11) a1 h6) (fun x10 h9 =>
            some (x10, h9))))
         else
          gd [GK h6 t 11] (
           gd [GK h6 (m_rd h6 t 11) 1] (bd (FX1_leastTo (m_rd h6 t 11) a1 h6) (fun x8 h7 =>
            some (x8, h7)))))))))))))) (fun j1 =>
   jn (fun (h12 : MH) =>
    j1 1 h12) (fun j11 =>
    (if a1 = (-1) then
     j11 h
    else
     gd [GK h t 11, GK h (m_rd h t 5) 2] (
      gd [GK h (m_rd h (m_rd h t 5) 0) 8] (bd (FX8_hasHole (m_rd h (m_rd h t 5) 0) a1 h) (fun x14 h13 =>
       (if x14 = 0 then
        j1 0 h13
       else
        j11 h13)))))))
theorem CX11_codes {d : Nat} {t : Int} {a1 : Int} {a2 : Int} {h : MH} {r : Int × MH} (hF : FX11_codes t a1 a2 h = some r) : RN xs L iX11_codes (d + 4) 0 (lvE 0 [.inr (.inr t), .inl a1, .inl a2]) [] h (RIo r) := by
  unfold FX11_codes at hF
  refine RN.blk (ops := [(0, .iload_n 1), (1, .iconst (-1))]) (pc' := 2) (lv' := [(0, .inr (.inr t)), (1, .inl a1), (2, .inl a2)]) (st' := [.inl (-1), .inl a1]) (h' := h) (cs := []) (by decide +kernel) rfl trivial ?_
  refine jn_use (fun j1 => ∀ (s2 : Int) (h3 : MH), j1 s2 h3 = some r → RN xs L iX11_codes (d + 4) 24 [(0, .inr (.inr t)), (1, .inl a1), (2, .inl a2)] [.inl s2] h3 (RIo r)) ?_ ?_ hF
  · intro s2 h3 hF
    refine RN.blk (ops := [(24, .istore_n 3), (25, .aload_n 0)]) (pc' := 26) (lv' := [(3, .inl s2), (0, .inr (.inr t)), (1, .inl a1), (2, .inl a2)]) (st' := [.inr (.inr t)]) (h' := h3) (cs := []) (by decide +kernel) rfl trivial ?_
    obtain ⟨hc, hF⟩ := gd_of hF
    obtain ⟨x5, h4, hG, hF⟩ := bd_of hF
    refine RN.cv (i := 191) (k := 149) (q2 := iX11_hasFrame) (as := [.inr (.inr t)]) (r := []) (v := some (.inl x5)) (h1 := h4) (by decide +kernel) rfl rfl rfl rfl rfl (rcv_ok hc.1) (CX11_hasFrame (d := d + 3) hG) ?_
    rcases it_of hF with ⟨hb, hF⟩ | ⟨hb, hF⟩
    · refine RN.ift (cd := .eq) (off := 16) (tgt := 45) (by decide +kernel) (mif_eq hb) ?_
      refine RN.blk (ops := [(45, .bipush (-3))]) (pc' := 47) (lv' := [(3, .inl s2), (0, .inr (.inr t)), (1, .inl a1), (2, .inl a2)]) (st' := [.inl (-3)]) (h' := h4) (cs := []) (by decide +kernel) rfl trivial ?_
      exact RN.iR (by decide +kernel) rfl hF
    · refine RN.iff (cd := .eq) (off := 16) (tgt := 45) (by decide +kernel) (mif_eqn hb) ?_
      refine RN.blk (ops := [(32, .iload_n 3)]) (pc' := 33) (lv' := [(3, .inl s2), (0, .inr (.inr t)), (1, .inl a1), (2, .inl a2)]) (st' := [.inl s2]) (h' := h4) (cs := []) (by decide +kernel) rfl trivial ?_
      rcases it_of hF with ⟨hb, hF⟩ | ⟨hb, hF⟩
      · refine RN.ift (cd := .eq) (off := 12) (tgt := 45) (by decide +kernel) (mif_eq hb) ?_
        refine RN.blk (ops := [(45, .bipush (-3))]) (pc' := 47) (lv' := [(3, .inl s2), (0, .inr (.inr t)), (1, .inl a1), (2, .inl a2)]) (st' := [.inl (-3)]) (h' := h4) (cs := []) (by decide +kernel) rfl trivial ?_
        exact RN.iR (by decide +kernel) rfl hF
      · refine RN.iff (cd := .eq) (off := 12) (tgt := 45) (by decide +kernel) (mif_eqn hb) ?_
        refine RN.blk (ops := [(36, .iload_n 2)]) (pc' := 37) (lv' := [(3, .inl s2), (0, .inr (.inr t)), (1, .inl a1), (2, .inl a2)]) (st' := [.inl a2]) (h' := h4) (cs := []) (by decide +kernel) rfl trivial ?_
        rcases it_of hF with ⟨hb, hF⟩ | ⟨hb, hF⟩
        · refine RN.ift (cd := .lt) (off := 8) (tgt := 45) (by decide +kernel) (mif_lt hb) ?_
          refine RN.blk (ops := [(45, .bipush (-3))]) (pc' := 47) (lv' := [(3, .inl s2), (0, .inr (.inr t)), (1, .inl a1), (2, .inl a2)]) (st' := [.inl (-3)]) (h' := h4) (cs := []) (by decide +kernel) rfl trivial ?_
          exact RN.iR (by decide +kernel) rfl hF
        · refine RN.iff (cd := .lt) (off := 8) (tgt := 45) (by decide +kernel) (mif_ltn hb) ?_
          refine RN.blk (ops := [(40, .iload_n 2), (41, .iconst 1)]) (pc' := 42) (lv' := [(3, .inl s2), (0, .inr (.inr t)), (1, .inl a1), (2, .inl a2)]) (st' := [.inl 1, .inl a2]) (h' := h4) (cs := []) (by decide +kernel) rfl trivial ?_
          rcases it_of hF with ⟨hb, hF⟩ | ⟨hb, hF⟩
          · refine RN.icf (cd := .le) (off := 6) (tgt := 48) (by decide +kernel) (mif_len hb) ?_
            refine RN.blk (ops := [(45, .bipush (-3))]) (pc' := 47) (lv' := [(3, .inl s2), (0, .inr (.inr t)), (1, .inl a1), (2, .inl a2)]) (st' := [.inl (-3)]) (h' := h4) (cs := []) (by decide +kernel) rfl trivial ?_
            exact RN.iR (by decide +kernel) rfl hF
          · refine RN.ict (cd := .le) (off := 6) (tgt := 48) (by decide +kernel) (mif_le hb) ?_
            refine RN.blk (ops := [(48, .aload_n 0)]) (pc' := 49) (lv' := [(3, .inl s2), (0, .inr (.inr t)), (1, .inl a1), (2, .inl a2)]) (st' := [.inr (.inr t)]) (h' := h4) (cs := []) (by decide +kernel) rfl trivial ?_
            obtain ⟨hc, hF⟩ := gd_of hF
            obtain ⟨h6, hG, hF⟩ := bv_of hF
            refine RN.cv (i := 242) (k := 153) (q2 := iX11_drawNow) (as := [.inr (.inr t)]) (r := []) (v := none) (h1 := h6) (by decide +kernel) rfl rfl rfl rfl rfl (rcv_ok hc.1) (CX11_drawNow (d := d) hG) ?_
            refine RN.blk (ops := [(52, .iload_n 2)]) (pc' := 53) (lv' := [(3, .inl s2), (0, .inr (.inr t)), (1, .inl a1), (2, .inl a2)]) (st' := [.inl a2]) (h' := h6) (cs := []) (by decide +kernel) rfl trivial ?_
            rcases it_of hF with ⟨hb, hF⟩ | ⟨hb, hF⟩
            · refine RN.iff (cd := .ne) (off := 14) (tgt := 67) (by decide +kernel) (mif_nen hb) ?_
              obtain ⟨hc, hF⟩ := gd_of hF
              refine RN.blk (ops := [(56, .aload_n 0), (57, .getfield 63), (60, .iload_n 1)]) (pc' := 61) (lv' := [(3, .inl s2), (0, .inr (.inr t)), (1, .inl a1), (2, .inl a2)]) (st' := [.inl a1, .inr (.inr (m_rd h6 t 11))]) (h' := h6) (cs := [GK h6 t 11]) (by decide +kernel) rfl hc ?_
              obtain ⟨hc, hF⟩ := gd_of hF
              obtain ⟨x10, h9, hG, hF⟩ := bd_of hF
              refine RN.cv (i := 269) (k := 17) (q2 := iX1_howManyTo) (as := [.inr (.inr (m_rd h6 t 11)), .inl a1]) (r := []) (v := some (.inl x10)) (h1 := h9) (by decide +kernel) rfl rfl rfl rfl rfl (rcv_ok hc.1) (CX1_howManyTo (d := d) hG) ?_
              refine RN.goto (off := 11) (tgt := 75) (by decide +kernel) ?_
              exact RN.iR (by decide +kernel) rfl hF
            · refine RN.ift (cd := .ne) (off := 14) (tgt := 67) (by decide +kernel) (mif_ne hb) ?_
              obtain ⟨hc, hF⟩ := gd_of hF
              refine RN.blk (ops := [(67, .aload_n 0), (68, .getfield 63), (71, .iload_n 1)]) (pc' := 72) (lv' := [(3, .inl s2), (0, .inr (.inr t)), (1, .inl a1), (2, .inl a2)]) (st' := [.inl a1, .inr (.inr (m_rd h6 t 11))]) (h' := h6) (cs := [GK h6 t 11]) (by decide +kernel) rfl hc ?_
              obtain ⟨hc, hF⟩ := gd_of hF
              obtain ⟨x8, h7, hG, hF⟩ := bd_of hF
              refine RN.cv (i := 272) (k := 18) (q2 := iX1_leastTo) (as := [.inr (.inr (m_rd h6 t 11)), .inl a1]) (r := []) (v := some (.inl x8)) (h1 := h7) (by decide +kernel) rfl rfl rfl rfl rfl (rcv_ok hc.1) (CX1_leastTo (d := d) hG) ?_
              exact RN.iR (by decide +kernel) rfl hF
  · intro j1 Jj1 hF
    refine jn_use (fun j11 => ∀ (h12 : MH), j11 h12 = some r → RN xs L iX11_codes (d + 4) 19 [(0, .inr (.inr t)), (1, .inl a1), (2, .inl a2)] [] h12 (RIo r)) ?_ ?_ hF
    · intro h12 hF
      refine RN.blk (ops := [(19, .iconst 1)]) (pc' := 20) (lv' := [(0, .inr (.inr t)), (1, .inl a1), (2, .inl a2)]) (st' := [.inl 1]) (h' := h12) (cs := []) (by decide +kernel) rfl trivial ?_
      refine RN.goto (off := 4) (tgt := 24) (by decide +kernel) ?_
      exact RN.sub (Jj1 _ _ hF) (sub_cons rfl (sub_cons rfl (sub_cons rfl sub_nil)))
    · intro j11 Jj11 hF
      rcases it_of hF with ⟨hb, hF⟩ | ⟨hb, hF⟩
      · refine RN.ict (cd := .eq) (off := 17) (tgt := 19) (by decide +kernel) (mif_eq hb) ?_
        exact RN.sub (Jj11 _ hF) (sub_cons rfl (sub_cons rfl (sub_cons rfl sub_nil)))
      · refine RN.icf (cd := .eq) (off := 17) (tgt := 19) (by decide +kernel) (mif_eqn hb) ?_
        obtain ⟨hc, hF⟩ := gd_of hF
        refine RN.blk (ops := [(5, .aload_n 0), (6, .getfield 41), (9, .getfield 130), (12, .iload_n 1)]) (pc' := 13) (lv' := [(0, .inr (.inr t)), (1, .inl a1), (2, .inl a2)]) (st' := [.inl a1, .inr (.inr (m_rd h (m_rd h t 5) 0))]) (h' := h) (cs := [GK h t 11, GK h (m_rd h t 5) 2]) (by decide +kernel) rfl hc ?_
        obtain ⟨hc, hF⟩ := gd_of hF
        obtain ⟨x14, h13, hG, hF⟩ := bd_of hF
        refine RN.cv (i := 131) (k := 81) (q2 := iX8_hasHole) (as := [.inr (.inr (m_rd h (m_rd h t 5) 0)), .inl a1]) (r := []) (v := some (.inl x14)) (h1 := h13) (by decide +kernel) rfl rfl rfl rfl rfl (rcv_ok hc.1) (CX8_hasHole (d := d + 3) hG) ?_
        rcases it_of hF with ⟨hb, hF⟩ | ⟨hb, hF⟩
        · refine RN.ift (cd := .eq) (off := 7) (tgt := 23) (by decide +kernel) (mif_eq hb) ?_
          refine RN.blk (ops := [(23, .iconst 0)]) (pc' := 24) (lv' := [(0, .inr (.inr t)), (1, .inl a1), (2, .inl a2)]) (st' := [.inl 0]) (h' := h13) (cs := []) (by decide +kernel) rfl trivial ?_
          exact RN.sub (Jj1 _ _ hF) (sub_cons rfl (sub_cons rfl (sub_cons rfl sub_nil)))
        · refine RN.iff (cd := .eq) (off := 7) (tgt := 23) (by decide +kernel) (mif_eqn hb) ?_
          exact RN.sub (Jj11 _ hF) (sub_cons rfl (sub_cons rfl (sub_cons rfl sub_nil)))
noncomputable def FX11_slips (t : Int) (a1 : Int) (h : MH) : Option (Int × MH) :=
  gd [GK h t 11, GK h (m_rd h t 5) 2] (
   gd [GK h (m_rd h (m_rd h t 5) 0) 8] (bd (FX8_hasCode (m_rd h (m_rd h t 5) 0) a1 h) (fun x2 h1 =>
    (if x2 = 0 then
     some ((-1), h1)
    else
     gd [GK h1 t 11] (bv (FX11_drawNow t h1) (fun h3 =>
      gd [GK h3 t 11] (
       gd [GK h3 (m_rd h3 t 11) 1] (bd (FX1_slipsOf (m_rd h3 t 11) a1 h3) (fun x5 h4 =>
        some (x5, h4))))))))))
theorem CX11_slips {d : Nat} {t : Int} {a1 : Int} {h : MH} {r : Int × MH} (hF : FX11_slips t a1 h = some r) : RN xs L iX11_slips (d + 4) 0 (lvE 0 [.inr (.inr t), .inl a1]) [] h (RIo r) := by
  unfold FX11_slips at hF
  obtain ⟨hc, hF⟩ := gd_of hF
  refine RN.blk (ops := [(0, .aload_n 0), (1, .getfield 41), (4, .getfield 130), (7, .iload_n 1)]) (pc' := 8) (lv' := [(0, .inr (.inr t)), (1, .inl a1)]) (st' := [.inl a1, .inr (.inr (m_rd h (m_rd h t 5) 0))]) (h' := h) (cs := [GK h t 11, GK h (m_rd h t 5) 2]) (by decide +kernel) rfl hc ?_
  obtain ⟨hc, hF⟩ := gd_of hF
  obtain ⟨x2, h1, hG, hF⟩ := bd_of hF
  refine RN.cv (i := 216) (k := 82) (q2 := iX8_hasCode) (as := [.inr (.inr (m_rd h (m_rd h t 5) 0)), .inl a1]) (r := []) (v := some (.inl x2)) (h1 := h1) (by decide +kernel) rfl rfl rfl rfl rfl (rcv_ok hc.1) (CX8_hasCode (d := d + 3) hG) ?_
  rcases it_of hF with ⟨hb, hF⟩ | ⟨hb, hF⟩
  · refine RN.iff (cd := .ne) (off := 5) (tgt := 16) (by decide +kernel) (mif_nen hb) ?_
    refine RN.blk (ops := [(14, .iconst (-1))]) (pc' := 15) (lv' := [(0, .inr (.inr t)), (1, .inl a1)]) (st' := [.inl (-1)]) (h' := h1) (cs := []) (by decide +kernel) rfl trivial ?_
    exact RN.iR (by decide +kernel) rfl hF
  · refine RN.ift (cd := .ne) (off := 5) (tgt := 16) (by decide +kernel) (mif_ne hb) ?_
    refine RN.blk (ops := [(16, .aload_n 0)]) (pc' := 17) (lv' := [(0, .inr (.inr t)), (1, .inl a1)]) (st' := [.inr (.inr t)]) (h' := h1) (cs := []) (by decide +kernel) rfl trivial ?_
    obtain ⟨hc, hF⟩ := gd_of hF
    obtain ⟨h3, hG, hF⟩ := bv_of hF
    refine RN.cv (i := 242) (k := 153) (q2 := iX11_drawNow) (as := [.inr (.inr t)]) (r := []) (v := none) (h1 := h3) (by decide +kernel) rfl rfl rfl rfl rfl (rcv_ok hc.1) (CX11_drawNow (d := d) hG) ?_
    obtain ⟨hc, hF⟩ := gd_of hF
    refine RN.blk (ops := [(20, .aload_n 0), (21, .getfield 63), (24, .iload_n 1)]) (pc' := 25) (lv' := [(0, .inr (.inr t)), (1, .inl a1)]) (st' := [.inl a1, .inr (.inr (m_rd h3 t 11))]) (h' := h3) (cs := [GK h3 t 11]) (by decide +kernel) rfl hc ?_
    obtain ⟨hc, hF⟩ := gd_of hF
    obtain ⟨x5, h4, hG, hF⟩ := bd_of hF
    refine RN.cv (i := 275) (k := 24) (q2 := iX1_slipsOf) (as := [.inr (.inr (m_rd h3 t 11)), .inl a1]) (r := []) (v := some (.inl x5)) (h1 := h4) (by decide +kernel) rfl rfl rfl rfl rfl (rcv_ok hc.1) (CX1_slipsOf (d := d) hG) ?_
    exact RN.iR (by decide +kernel) rfl hF
noncomputable def FX11_worst (t : Int) (a1 : Int) (h : MH) : Option (Int × MH) :=
  gd [GK h t 11] (bd (FX11_hasFrame t h) (fun x2 h1 =>
   (if x2 = 0 then
    some ((-1), h1)
   else
    (if a1 < 0 then
     some ((-1), h1)
    else
     (if 1 < a1 then
      some ((-1), h1)
     else
      gd [GK h1 t 11] (bv (FX11_drawNow t h1) (fun h3 =>
       gd [GK h3 t 11] (
        gd [GK h3 (m_rd h3 t 11) 1] (bd (FX1_mostSlipping (m_rd h3 t 11) h3) (fun x5 h4 =>
         (if a1 = 0 then
          some (x5, h4)
         else
          gd [GK h4 t 11] (
           gd [GK h4 (m_rd h4 t 11) 1] (bd (FX1_slipsOf (m_rd h4 t 11) x5 h4) (fun x7 h6 =>
            some (x7, h6)))))))))))))))
theorem CX11_worst {d : Nat} {t : Int} {a1 : Int} {h : MH} {r : Int × MH} (hF : FX11_worst t a1 h = some r) : RN xs L iX11_worst (d + 5) 0 (lvE 0 [.inr (.inr t), .inl a1]) [] h (RIo r) := by
  unfold FX11_worst at hF
  refine RN.blk (ops := [(0, .aload_n 0)]) (pc' := 1) (lv' := [(0, .inr (.inr t)), (1, .inl a1)]) (st' := [.inr (.inr t)]) (h' := h) (cs := []) (by decide +kernel) rfl trivial ?_
  obtain ⟨hc, hF⟩ := gd_of hF
  obtain ⟨x2, h1, hG, hF⟩ := bd_of hF
  refine RN.cv (i := 191) (k := 149) (q2 := iX11_hasFrame) (as := [.inr (.inr t)]) (r := []) (v := some (.inl x2)) (h1 := h1) (by decide +kernel) rfl rfl rfl rfl rfl (rcv_ok hc.1) (CX11_hasFrame (d := d + 4) hG) ?_
  rcases it_of hF with ⟨hb, hF⟩ | ⟨hb, hF⟩
  · refine RN.ift (cd := .eq) (off := 12) (tgt := 16) (by decide +kernel) (mif_eq hb) ?_
    refine RN.blk (ops := [(16, .iconst (-1))]) (pc' := 17) (lv' := [(0, .inr (.inr t)), (1, .inl a1)]) (st' := [.inl (-1)]) (h' := h1) (cs := []) (by decide +kernel) rfl trivial ?_
    exact RN.iR (by decide +kernel) rfl hF
  · refine RN.iff (cd := .eq) (off := 12) (tgt := 16) (by decide +kernel) (mif_eqn hb) ?_
    refine RN.blk (ops := [(7, .iload_n 1)]) (pc' := 8) (lv' := [(0, .inr (.inr t)), (1, .inl a1)]) (st' := [.inl a1]) (h' := h1) (cs := []) (by decide +kernel) rfl trivial ?_
    rcases it_of hF with ⟨hb, hF⟩ | ⟨hb, hF⟩
    · refine RN.ift (cd := .lt) (off := 8) (tgt := 16) (by decide +kernel) (mif_lt hb) ?_
      refine RN.blk (ops := [(16, .iconst (-1))]) (pc' := 17) (lv' := [(0, .inr (.inr t)), (1, .inl a1)]) (st' := [.inl (-1)]) (h' := h1) (cs := []) (by decide +kernel) rfl trivial ?_
      exact RN.iR (by decide +kernel) rfl hF
    · refine RN.iff (cd := .lt) (off := 8) (tgt := 16) (by decide +kernel) (mif_ltn hb) ?_
      refine RN.blk (ops := [(11, .iload_n 1), (12, .iconst 1)]) (pc' := 13) (lv' := [(0, .inr (.inr t)), (1, .inl a1)]) (st' := [.inl 1, .inl a1]) (h' := h1) (cs := []) (by decide +kernel) rfl trivial ?_
      rcases it_of hF with ⟨hb, hF⟩ | ⟨hb, hF⟩
      · refine RN.icf (cd := .le) (off := 5) (tgt := 18) (by decide +kernel) (mif_len hb) ?_
        refine RN.blk (ops := [(16, .iconst (-1))]) (pc' := 17) (lv' := [(0, .inr (.inr t)), (1, .inl a1)]) (st' := [.inl (-1)]) (h' := h1) (cs := []) (by decide +kernel) rfl trivial ?_
        exact RN.iR (by decide +kernel) rfl hF
      · refine RN.ict (cd := .le) (off := 5) (tgt := 18) (by decide +kernel) (mif_le hb) ?_
        refine RN.blk (ops := [(18, .aload_n 0)]) (pc' := 19) (lv' := [(0, .inr (.inr t)), (1, .inl a1)]) (st' := [.inr (.inr t)]) (h' := h1) (cs := []) (by decide +kernel) rfl trivial ?_
        obtain ⟨hc, hF⟩ := gd_of hF
        obtain ⟨h3, hG, hF⟩ := bv_of hF
        refine RN.cv (i := 242) (k := 153) (q2 := iX11_drawNow) (as := [.inr (.inr t)]) (r := []) (v := none) (h1 := h3) (by decide +kernel) rfl rfl rfl rfl rfl (rcv_ok hc.1) (CX11_drawNow (d := d + 1) hG) ?_
        obtain ⟨hc, hF⟩ := gd_of hF
        refine RN.blk (ops := [(22, .aload_n 0), (23, .getfield 63)]) (pc' := 26) (lv' := [(0, .inr (.inr t)), (1, .inl a1)]) (st' := [.inr (.inr (m_rd h3 t 11))]) (h' := h3) (cs := [GK h3 t 11]) (by decide +kernel) rfl hc ?_
        obtain ⟨hc, hF⟩ := gd_of hF
        obtain ⟨x5, h4, hG, hF⟩ := bd_of hF
        refine RN.cv (i := 278) (k := 25) (q2 := iX1_mostSlipping) (as := [.inr (.inr (m_rd h3 t 11))]) (r := []) (v := some (.inl x5)) (h1 := h4) (by decide +kernel) rfl rfl rfl rfl rfl (rcv_ok hc.1) (CX1_mostSlipping (d := d) hG) ?_
        refine RN.blk (ops := [(29, .istore_n 2), (30, .iload_n 1)]) (pc' := 31) (lv' := [(2, .inl x5), (0, .inr (.inr t)), (1, .inl a1)]) (st' := [.inl a1]) (h' := h4) (cs := []) (by decide +kernel) rfl trivial ?_
        rcases it_of hF with ⟨hb, hF⟩ | ⟨hb, hF⟩
        · refine RN.iff (cd := .ne) (off := 7) (tgt := 38) (by decide +kernel) (mif_nen hb) ?_
          refine RN.blk (ops := [(34, .iload_n 2)]) (pc' := 35) (lv' := [(2, .inl x5), (0, .inr (.inr t)), (1, .inl a1)]) (st' := [.inl x5]) (h' := h4) (cs := []) (by decide +kernel) rfl trivial ?_
          refine RN.goto (off := 11) (tgt := 46) (by decide +kernel) ?_
          exact RN.iR (by decide +kernel) rfl hF
        · refine RN.ift (cd := .ne) (off := 7) (tgt := 38) (by decide +kernel) (mif_ne hb) ?_
          obtain ⟨hc, hF⟩ := gd_of hF
          refine RN.blk (ops := [(38, .aload_n 0), (39, .getfield 63), (42, .iload_n 2)]) (pc' := 43) (lv' := [(2, .inl x5), (0, .inr (.inr t)), (1, .inl a1)]) (st' := [.inl x5, .inr (.inr (m_rd h4 t 11))]) (h' := h4) (cs := [GK h4 t 11]) (by decide +kernel) rfl hc ?_
          obtain ⟨hc, hF⟩ := gd_of hF
          obtain ⟨x7, h6, hG, hF⟩ := bd_of hF
          refine RN.cv (i := 275) (k := 24) (q2 := iX1_slipsOf) (as := [.inr (.inr (m_rd h4 t 11)), .inl x5]) (r := []) (v := some (.inl x7)) (h1 := h6) (by decide +kernel) rfl rfl rfl rfl rfl (rcv_ok hc.1) (CX1_slipsOf (d := d + 1) hG) ?_
          exact RN.iR (by decide +kernel) rfl hF
noncomputable def FX11_idle (t : Int) (h : MH) : Option (Int × MH) :=
  gd [GK h t 11] (bd (FX11_hasFrame t h) (fun x2 h1 =>
   (if x2 = 0 then
    some ((-1), h1)
   else
    gd [GK h1 t 11] (bv (FX11_drawNow t h1) (fun h3 =>
     gd [GK h3 t 11] (
      gd [GK h3 (m_rd h3 t 11) 1] (bd (FX1_idleEntries (m_rd h3 t 11) h3) (fun x5 h4 =>
       some (x5, h4)))))))))
theorem CX11_idle {d : Nat} {t : Int} {h : MH} {r : Int × MH} (hF : FX11_idle t h = some r) : RN xs L iX11_idle (d + 4) 0 (lvE 0 [.inr (.inr t)]) [] h (RIo r) := by
  unfold FX11_idle at hF
  refine RN.blk (ops := [(0, .aload_n 0)]) (pc' := 1) (lv' := [(0, .inr (.inr t))]) (st' := [.inr (.inr t)]) (h' := h) (cs := []) (by decide +kernel) rfl trivial ?_
  obtain ⟨hc, hF⟩ := gd_of hF
  obtain ⟨x2, h1, hG, hF⟩ := bd_of hF
  refine RN.cv (i := 191) (k := 149) (q2 := iX11_hasFrame) (as := [.inr (.inr t)]) (r := []) (v := some (.inl x2)) (h1 := h1) (by decide +kernel) rfl rfl rfl rfl rfl (rcv_ok hc.1) (CX11_hasFrame (d := d + 3) hG) ?_
  rcases it_of hF with ⟨hb, hF⟩ | ⟨hb, hF⟩
  · refine RN.iff (cd := .ne) (off := 5) (tgt := 9) (by decide +kernel) (mif_nen hb) ?_
    refine RN.blk (ops := [(7, .iconst (-1))]) (pc' := 8) (lv' := [(0, .inr (.inr t))]) (st' := [.inl (-1)]) (h' := h1) (cs := []) (by decide +kernel) rfl trivial ?_
    exact RN.iR (by decide +kernel) rfl hF
  · refine RN.ift (cd := .ne) (off := 5) (tgt := 9) (by decide +kernel) (mif_ne hb) ?_
    refine RN.blk (ops := [(9, .aload_n 0)]) (pc' := 10) (lv' := [(0, .inr (.inr t))]) (st' := [.inr (.inr t)]) (h' := h1) (cs := []) (by decide +kernel) rfl trivial ?_
    obtain ⟨hc, hF⟩ := gd_of hF
    obtain ⟨h3, hG, hF⟩ := bv_of hF
    refine RN.cv (i := 242) (k := 153) (q2 := iX11_drawNow) (as := [.inr (.inr t)]) (r := []) (v := none) (h1 := h3) (by decide +kernel) rfl rfl rfl rfl rfl (rcv_ok hc.1) (CX11_drawNow (d := d) hG) ?_
    obtain ⟨hc, hF⟩ := gd_of hF
    refine RN.blk (ops := [(13, .aload_n 0), (14, .getfield 63)]) (pc' := 17) (lv' := [(0, .inr (.inr t))]) (st' := [.inr (.inr (m_rd h3 t 11))]) (h' := h3) (cs := [GK h3 t 11]) (by decide +kernel) rfl hc ?_
    obtain ⟨hc, hF⟩ := gd_of hF
    obtain ⟨x5, h4, hG, hF⟩ := bd_of hF
    refine RN.cv (i := 281) (k := 26) (q2 := iX1_idleEntries) (as := [.inr (.inr (m_rd h3 t 11))]) (r := []) (v := some (.inl x5)) (h1 := h4) (by decide +kernel) rfl rfl rfl rfl rfl (rcv_ok hc.1) (CX1_idleEntries (d := d + 1) hG) ?_
    exact RN.iR (by decide +kernel) rfl hF
noncomputable def FX11_least (t : Int) (h : MH) : Option (Int × MH) :=
  gd [GK h t 11] (bd (FX11_hasFrame t h) (fun x2 h1 =>
   (if x2 = 0 then
    some ((-1), h1)
   else
    gd [GK h1 t 11] (bv (FX11_drawNow t h1) (fun h3 =>
     gd [GK h3 t 11] (
      gd [GK h3 (m_rd h3 t 11) 1] (bd (FX1_fewestEntries (m_rd h3 t 11) h3) (fun x5 h4 =>
       some (x5, h4)))))))))
theorem CX11_least {d : Nat} {t : Int} {h : MH} {r : Int × MH} (hF : FX11_least t h = some r) : RN xs L iX11_least (d + 4) 0 (lvE 0 [.inr (.inr t)]) [] h (RIo r) := by
  unfold FX11_least at hF
  refine RN.blk (ops := [(0, .aload_n 0)]) (pc' := 1) (lv' := [(0, .inr (.inr t))]) (st' := [.inr (.inr t)]) (h' := h) (cs := []) (by decide +kernel) rfl trivial ?_
  obtain ⟨hc, hF⟩ := gd_of hF
  obtain ⟨x2, h1, hG, hF⟩ := bd_of hF
  refine RN.cv (i := 191) (k := 149) (q2 := iX11_hasFrame) (as := [.inr (.inr t)]) (r := []) (v := some (.inl x2)) (h1 := h1) (by decide +kernel) rfl rfl rfl rfl rfl (rcv_ok hc.1) (CX11_hasFrame (d := d + 3) hG) ?_
  rcases it_of hF with ⟨hb, hF⟩ | ⟨hb, hF⟩
  · refine RN.iff (cd := .ne) (off := 5) (tgt := 9) (by decide +kernel) (mif_nen hb) ?_
    refine RN.blk (ops := [(7, .iconst (-1))]) (pc' := 8) (lv' := [(0, .inr (.inr t))]) (st' := [.inl (-1)]) (h' := h1) (cs := []) (by decide +kernel) rfl trivial ?_
    exact RN.iR (by decide +kernel) rfl hF
  · refine RN.ift (cd := .ne) (off := 5) (tgt := 9) (by decide +kernel) (mif_ne hb) ?_
    refine RN.blk (ops := [(9, .aload_n 0)]) (pc' := 10) (lv' := [(0, .inr (.inr t))]) (st' := [.inr (.inr t)]) (h' := h1) (cs := []) (by decide +kernel) rfl trivial ?_
    obtain ⟨hc, hF⟩ := gd_of hF
    obtain ⟨h3, hG, hF⟩ := bv_of hF
    refine RN.cv (i := 242) (k := 153) (q2 := iX11_drawNow) (as := [.inr (.inr t)]) (r := []) (v := none) (h1 := h3) (by decide +kernel) rfl rfl rfl rfl rfl (rcv_ok hc.1) (CX11_drawNow (d := d) hG) ?_
    obtain ⟨hc, hF⟩ := gd_of hF
    refine RN.blk (ops := [(13, .aload_n 0), (14, .getfield 63)]) (pc' := 17) (lv' := [(0, .inr (.inr t))]) (st' := [.inr (.inr (m_rd h3 t 11))]) (h' := h3) (cs := [GK h3 t 11]) (by decide +kernel) rfl hc ?_
    obtain ⟨hc, hF⟩ := gd_of hF
    obtain ⟨x5, h4, hG, hF⟩ := bd_of hF
    refine RN.cv (i := 284) (k := 27) (q2 := iX1_fewestEntries) (as := [.inr (.inr (m_rd h3 t 11))]) (r := []) (v := some (.inl x5)) (h1 := h4) (by decide +kernel) rfl rfl rfl rfl rfl (rcv_ok hc.1) (CX1_fewestEntries (d := d) hG) ?_
    exact RN.iR (by decide +kernel) rfl hF
noncomputable def FX11_one (t : Int) (a1 : Int) (h : MH) : Option (Int × MH) :=
  gd [GK h t 11] (bd (FX11_hasFrame t h) (fun x2 h1 =>
   (if x2 = 0 then
    some ((-2), h1)
   else
    (if a1 < 0 then
     some ((-2), h1)
    else
     (if 4 < a1 then
      some ((-2), h1)
     else
      gd [GK h1 t 11] (bv (FX11_drawNow t h1) (fun h3 =>
       gd [GK h3 t 11, GK h3 t 11, GK h3 (m_rd h3 t 5) 2, GK h3 t 11, GK h3 (m_rd h3 t 5) 2] (
        gd [GK h3 (m_rd h3 t 13) 0] (bv (FX0_seekEntry (m_rd h3 t 13) (m_rd h3 (m_rd h3 t 5) 0) (m_rd h3 (m_rd h3 t 5) 2) h3) (fun h4 =>
         (if a1 = 0 then
          gd [GK h4 t 11, GK h4 (m_rd h4 t 13) 0] (
           some ((m_rd h4 (m_rd h4 t 13) 0), h4))
         else
         (if a1 = 1 then
          gd [GK h4 t 11, GK h4 (m_rd h4 t 13) 0] (
           some ((m_rd h4 (m_rd h4 t 13) 1), h4))
         else
         (if a1 = 2 then
          gd [GK h4 t 11, GK h4 (m_rd h4 t 13) 0] (
           some ((m_rd h4 (m_rd h4 t 13) 2), h4))
         else
         (if a1 = 3 then
          gd [GK h4 t 11, GK h4 (m_rd h4 t 13) 0] (
           some ((m_rd h4 (m_rd h4 t 13) 3), h4))
         else
          gd [GK h4 t 11, GK h4 (m_rd h4 t 13) 0] (
           some ((m_rd h4 (m_rd h4 t 13) 4), h4))))))))))))))))
theorem CX11_one {d : Nat} {t : Int} {a1 : Int} {h : MH} {r : Int × MH} (hF : FX11_one t a1 h = some r) : RN xs L iX11_one (d + 6) 0 (lvE 0 [.inr (.inr t), .inl a1]) [] h (RIo r) := by
  unfold FX11_one at hF
  refine RN.blk (ops := [(0, .aload_n 0)]) (pc' := 1) (lv' := [(0, .inr (.inr t)), (1, .inl a1)]) (st' := [.inr (.inr t)]) (h' := h) (cs := []) (by decide +kernel) rfl trivial ?_
  obtain ⟨hc, hF⟩ := gd_of hF
  obtain ⟨x2, h1, hG, hF⟩ := bd_of hF
  refine RN.cv (i := 191) (k := 149) (q2 := iX11_hasFrame) (as := [.inr (.inr t)]) (r := []) (v := some (.inl x2)) (h1 := h1) (by decide +kernel) rfl rfl rfl rfl rfl (rcv_ok hc.1) (CX11_hasFrame (d := d + 5) hG) ?_
  rcases it_of hF with ⟨hb, hF⟩ | ⟨hb, hF⟩
  · refine RN.ift (cd := .eq) (off := 12) (tgt := 16) (by decide +kernel) (mif_eq hb) ?_
    refine RN.blk (ops := [(16, .bipush (-2))]) (pc' := 18) (lv' := [(0, .inr (.inr t)), (1, .inl a1)]) (st' := [.inl (-2)]) (h' := h1) (cs := []) (by decide +kernel) rfl trivial ?_
    exact RN.iR (by decide +kernel) rfl hF
  · refine RN.iff (cd := .eq) (off := 12) (tgt := 16) (by decide +kernel) (mif_eqn hb) ?_
    refine RN.blk (ops := [(7, .iload_n 1)]) (pc' := 8) (lv' := [(0, .inr (.inr t)), (1, .inl a1)]) (st' := [.inl a1]) (h' := h1) (cs := []) (by decide +kernel) rfl trivial ?_
    rcases it_of hF with ⟨hb, hF⟩ | ⟨hb, hF⟩
    · refine RN.ift (cd := .lt) (off := 8) (tgt := 16) (by decide +kernel) (mif_lt hb) ?_
      refine RN.blk (ops := [(16, .bipush (-2))]) (pc' := 18) (lv' := [(0, .inr (.inr t)), (1, .inl a1)]) (st' := [.inl (-2)]) (h' := h1) (cs := []) (by decide +kernel) rfl trivial ?_
      exact RN.iR (by decide +kernel) rfl hF
    · refine RN.iff (cd := .lt) (off := 8) (tgt := 16) (by decide +kernel) (mif_ltn hb) ?_
      refine RN.blk (ops := [(11, .iload_n 1), (12, .iconst 4)]) (pc' := 13) (lv' := [(0, .inr (.inr t)), (1, .inl a1)]) (st' := [.inl 4, .inl a1]) (h' := h1) (cs := []) (by decide +kernel) rfl trivial ?_
      rcases it_of hF with ⟨hb, hF⟩ | ⟨hb, hF⟩
      · refine RN.icf (cd := .le) (off := 6) (tgt := 19) (by decide +kernel) (mif_len hb) ?_
        refine RN.blk (ops := [(16, .bipush (-2))]) (pc' := 18) (lv' := [(0, .inr (.inr t)), (1, .inl a1)]) (st' := [.inl (-2)]) (h' := h1) (cs := []) (by decide +kernel) rfl trivial ?_
        exact RN.iR (by decide +kernel) rfl hF
      · refine RN.ict (cd := .le) (off := 6) (tgt := 19) (by decide +kernel) (mif_le hb) ?_
        refine RN.blk (ops := [(19, .aload_n 0)]) (pc' := 20) (lv' := [(0, .inr (.inr t)), (1, .inl a1)]) (st' := [.inr (.inr t)]) (h' := h1) (cs := []) (by decide +kernel) rfl trivial ?_
        obtain ⟨hc, hF⟩ := gd_of hF
        obtain ⟨h3, hG, hF⟩ := bv_of hF
        refine RN.cv (i := 242) (k := 153) (q2 := iX11_drawNow) (as := [.inr (.inr t)]) (r := []) (v := none) (h1 := h3) (by decide +kernel) rfl rfl rfl rfl rfl (rcv_ok hc.1) (CX11_drawNow (d := d + 2) hG) ?_
        obtain ⟨hc, hF⟩ := gd_of hF
        refine RN.blk (ops := [(23, .aload_n 0), (24, .getfield 79), (27, .aload_n 0), (28, .getfield 41), (31, .getfield 130), (34, .aload_n 0), (35, .getfield 41), (38, .getfield 110)]) (pc' := 41) (lv' := [(0, .inr (.inr t)), (1, .inl a1)]) (st' := [.inr (.inr (m_rd h3 (m_rd h3 t 5) 2)), .inr (.inr (m_rd h3 (m_rd h3 t 5) 0)), .inr (.inr (m_rd h3 t 13))]) (h' := h3) (cs := [GK h3 t 11, GK h3 t 11, GK h3 (m_rd h3 t 5) 2, GK h3 t 11, GK h3 (m_rd h3 t 5) 2]) (by decide +kernel) rfl hc ?_
        obtain ⟨hc, hF⟩ := gd_of hF
        obtain ⟨h4, hG, hF⟩ := bv_of hF
        refine RN.cv (i := 287) (k := 3) (q2 := iX0_seekEntry) (as := [.inr (.inr (m_rd h3 t 13)), .inr (.inr (m_rd h3 (m_rd h3 t 5) 0)), .inr (.inr (m_rd h3 (m_rd h3 t 5) 2))]) (r := []) (v := none) (h1 := h4) (by decide +kernel) rfl rfl rfl rfl rfl (rcv_ok hc.1) (CX0_seekEntry (d := d) hG) ?_
        refine RN.blk (ops := [(44, .iload_n 1)]) (pc' := 45) (lv' := [(0, .inr (.inr t)), (1, .inl a1)]) (st' := [.inl a1]) (h' := h4) (cs := []) (by decide +kernel) rfl trivial ?_
        rcases it_of hF with ⟨hb0, hF⟩ | ⟨hb0, hF⟩
        · refine RN.tsw (dflt := 63) (lo := 0) (hi := 3) (offs := #[31, 39, 47, 55]) (by decide +kernel) (RN.sth hb0 (tgt := 76) rfl ?_)
          obtain ⟨hc, hF⟩ := gd_of hF
          refine RN.blk (ops := [(76, .aload_n 0), (77, .getfield 79), (80, .getfield 290)]) (pc' := 83) (lv' := [(0, .inr (.inr t)), (1, .inl a1)]) (st' := [.inl (m_rd h4 (m_rd h4 t 13) 0)]) (h' := h4) (cs := [GK h4 t 11, GK h4 (m_rd h4 t 13) 0]) (by decide +kernel) rfl hc ?_
          exact RN.iR (by decide +kernel) rfl hF
        rcases it_of hF with ⟨hb1, hF⟩ | ⟨hb1, hF⟩
        · refine RN.tsw (dflt := 63) (lo := 0) (hi := 3) (offs := #[31, 39, 47, 55]) (by decide +kernel) (RN.stm hb0 (RN.sth hb1 (tgt := 84) rfl ?_))
          obtain ⟨hc, hF⟩ := gd_of hF
          refine RN.blk (ops := [(84, .aload_n 0), (85, .getfield 79), (88, .getfield 291)]) (pc' := 91) (lv' := [(0, .inr (.inr t)), (1, .inl a1)]) (st' := [.inl (m_rd h4 (m_rd h4 t 13) 1)]) (h' := h4) (cs := [GK h4 t 11, GK h4 (m_rd h4 t 13) 0]) (by decide +kernel) rfl hc ?_
          exact RN.iR (by decide +kernel) rfl hF
        rcases it_of hF with ⟨hb2, hF⟩ | ⟨hb2, hF⟩
        · refine RN.tsw (dflt := 63) (lo := 0) (hi := 3) (offs := #[31, 39, 47, 55]) (by decide +kernel) (RN.stm hb0 (RN.stm hb1 (RN.sth hb2 (tgt := 92) rfl ?_)))
          obtain ⟨hc, hF⟩ := gd_of hF
          refine RN.blk (ops := [(92, .aload_n 0), (93, .getfield 79), (96, .getfield 293)]) (pc' := 99) (lv' := [(0, .inr (.inr t)), (1, .inl a1)]) (st' := [.inl (m_rd h4 (m_rd h4 t 13) 2)]) (h' := h4) (cs := [GK h4 t 11, GK h4 (m_rd h4 t 13) 0]) (by decide +kernel) rfl hc ?_
          exact RN.iR (by decide +kernel) rfl hF
        rcases it_of hF with ⟨hb3, hF⟩ | ⟨hb3, hF⟩
        · refine RN.tsw (dflt := 63) (lo := 0) (hi := 3) (offs := #[31, 39, 47, 55]) (by decide +kernel) (RN.stm hb0 (RN.stm hb1 (RN.stm hb2 (RN.sth hb3 (tgt := 100) rfl ?_))))
          obtain ⟨hc, hF⟩ := gd_of hF
          refine RN.blk (ops := [(100, .aload_n 0), (101, .getfield 79), (104, .getfield 294)]) (pc' := 107) (lv' := [(0, .inr (.inr t)), (1, .inl a1)]) (st' := [.inl (m_rd h4 (m_rd h4 t 13) 3)]) (h' := h4) (cs := [GK h4 t 11, GK h4 (m_rd h4 t 13) 0]) (by decide +kernel) rfl hc ?_
          exact RN.iR (by decide +kernel) rfl hF
        refine RN.tsw (dflt := 63) (lo := 0) (hi := 3) (offs := #[31, 39, 47, 55]) (by decide +kernel) (RN.stm hb0 (RN.stm hb1 (RN.stm hb2 (RN.stm hb3 (RN.std (tgt := 108) rfl ?_)))))
        obtain ⟨hc, hF⟩ := gd_of hF
        refine RN.blk (ops := [(108, .aload_n 0), (109, .getfield 79), (112, .getfield 296)]) (pc' := 115) (lv' := [(0, .inr (.inr t)), (1, .inl a1)]) (st' := [.inl (m_rd h4 (m_rd h4 t 13) 4)]) (h' := h4) (cs := [GK h4 t 11, GK h4 (m_rd h4 t 13) 0]) (by decide +kernel) rfl hc ?_
        exact RN.iR (by decide +kernel) rfl hF
noncomputable def FX11_change (t : Int) (a1 : Int) (h : MH) : Option (Int × MH) :=
  gd [GK h t 11] (bd (FX11_hasFrame t h) (fun x2 h1 =>
   (if x2 = 0 then
    some ((-2), h1)
   else
    (if a1 < 0 then
     some ((-2), h1)
    else
     (if 2 < a1 then
      some ((-2), h1)
     else
      gd [GK h1 t 11] (bv (FX11_drawNow t h1) (fun h3 =>
       gd [GK h3 t 11, GK h3 t 11, GK h3 (m_rd h3 t 5) 2, GK h3 t 11, GK h3 (m_rd h3 t 5) 2] (
        gd [GK h3 (m_rd h3 t 13) 0] (bv (FX0_seekChange (m_rd h3 t 13) (m_rd h3 (m_rd h3 t 5) 0) (m_rd h3 (m_rd h3 t 5) 2) h3) (fun h4 =>
         (if a1 = 0 then
          gd [GK h4 t 11, GK h4 (m_rd h4 t 13) 0] (
           some ((m_rd h4 (m_rd h4 t 13) 1), h4))
         else
         (if a1 = 1 then
          gd [GK h4 t 11, GK h4 (m_rd h4 t 13) 0] (
           some ((m_rd h4 (m_rd h4 t 13) 4), h4))
         else
          gd [GK h4 t 11, GK h4 (m_rd h4 t 13) 0] (
           some ((m_rd h4 (m_rd h4 t 13) 5), h4))))))))))))))
theorem CX11_change {d : Nat} {t : Int} {a1 : Int} {h : MH} {r : Int × MH} (hF : FX11_change t a1 h = some r) : RN xs L iX11_change (d + 5) 0 (lvE 0 [.inr (.inr t), .inl a1]) [] h (RIo r) := by
  unfold FX11_change at hF
  refine RN.blk (ops := [(0, .aload_n 0)]) (pc' := 1) (lv' := [(0, .inr (.inr t)), (1, .inl a1)]) (st' := [.inr (.inr t)]) (h' := h) (cs := []) (by decide +kernel) rfl trivial ?_
  obtain ⟨hc, hF⟩ := gd_of hF
  obtain ⟨x2, h1, hG, hF⟩ := bd_of hF
  refine RN.cv (i := 191) (k := 149) (q2 := iX11_hasFrame) (as := [.inr (.inr t)]) (r := []) (v := some (.inl x2)) (h1 := h1) (by decide +kernel) rfl rfl rfl rfl rfl (rcv_ok hc.1) (CX11_hasFrame (d := d + 4) hG) ?_
  rcases it_of hF with ⟨hb, hF⟩ | ⟨hb, hF⟩
  · refine RN.ift (cd := .eq) (off := 12) (tgt := 16) (by decide +kernel) (mif_eq hb) ?_
    refine RN.blk (ops := [(16, .bipush (-2))]) (pc' := 18) (lv' := [(0, .inr (.inr t)), (1, .inl a1)]) (st' := [.inl (-2)]) (h' := h1) (cs := []) (by decide +kernel) rfl trivial ?_
    exact RN.iR (by decide +kernel) rfl hF
  · refine RN.iff (cd := .eq) (off := 12) (tgt := 16) (by decide +kernel) (mif_eqn hb) ?_
    refine RN.blk (ops := [(7, .iload_n 1)]) (pc' := 8) (lv' := [(0, .inr (.inr t)), (1, .inl a1)]) (st' := [.inl a1]) (h' := h1) (cs := []) (by decide +kernel) rfl trivial ?_
    rcases it_of hF with ⟨hb, hF⟩ | ⟨hb, hF⟩
    · refine RN.ift (cd := .lt) (off := 8) (tgt := 16) (by decide +kernel) (mif_lt hb) ?_
      refine RN.blk (ops := [(16, .bipush (-2))]) (pc' := 18) (lv' := [(0, .inr (.inr t)), (1, .inl a1)]) (st' := [.inl (-2)]) (h' := h1) (cs := []) (by decide +kernel) rfl trivial ?_
      exact RN.iR (by decide +kernel) rfl hF
    · refine RN.iff (cd := .lt) (off := 8) (tgt := 16) (by decide +kernel) (mif_ltn hb) ?_
      refine RN.blk (ops := [(11, .iload_n 1), (12, .iconst 2)]) (pc' := 13) (lv' := [(0, .inr (.inr t)), (1, .inl a1)]) (st' := [.inl 2, .inl a1]) (h' := h1) (cs := []) (by decide +kernel) rfl trivial ?_
      rcases it_of hF with ⟨hb, hF⟩ | ⟨hb, hF⟩
      · refine RN.icf (cd := .le) (off := 6) (tgt := 19) (by decide +kernel) (mif_len hb) ?_
        refine RN.blk (ops := [(16, .bipush (-2))]) (pc' := 18) (lv' := [(0, .inr (.inr t)), (1, .inl a1)]) (st' := [.inl (-2)]) (h' := h1) (cs := []) (by decide +kernel) rfl trivial ?_
        exact RN.iR (by decide +kernel) rfl hF
      · refine RN.ict (cd := .le) (off := 6) (tgt := 19) (by decide +kernel) (mif_le hb) ?_
        refine RN.blk (ops := [(19, .aload_n 0)]) (pc' := 20) (lv' := [(0, .inr (.inr t)), (1, .inl a1)]) (st' := [.inr (.inr t)]) (h' := h1) (cs := []) (by decide +kernel) rfl trivial ?_
        obtain ⟨hc, hF⟩ := gd_of hF
        obtain ⟨h3, hG, hF⟩ := bv_of hF
        refine RN.cv (i := 242) (k := 153) (q2 := iX11_drawNow) (as := [.inr (.inr t)]) (r := []) (v := none) (h1 := h3) (by decide +kernel) rfl rfl rfl rfl rfl (rcv_ok hc.1) (CX11_drawNow (d := d + 1) hG) ?_
        obtain ⟨hc, hF⟩ := gd_of hF
        refine RN.blk (ops := [(23, .aload_n 0), (24, .getfield 79), (27, .aload_n 0), (28, .getfield 41), (31, .getfield 130), (34, .aload_n 0), (35, .getfield 41), (38, .getfield 110)]) (pc' := 41) (lv' := [(0, .inr (.inr t)), (1, .inl a1)]) (st' := [.inr (.inr (m_rd h3 (m_rd h3 t 5) 2)), .inr (.inr (m_rd h3 (m_rd h3 t 5) 0)), .inr (.inr (m_rd h3 t 13))]) (h' := h3) (cs := [GK h3 t 11, GK h3 t 11, GK h3 (m_rd h3 t 5) 2, GK h3 t 11, GK h3 (m_rd h3 t 5) 2]) (by decide +kernel) rfl hc ?_
        obtain ⟨hc, hF⟩ := gd_of hF
        obtain ⟨h4, hG, hF⟩ := bv_of hF
        refine RN.cv (i := 298) (k := 6) (q2 := iX0_seekChange) (as := [.inr (.inr (m_rd h3 t 13)), .inr (.inr (m_rd h3 (m_rd h3 t 5) 0)), .inr (.inr (m_rd h3 (m_rd h3 t 5) 2))]) (r := []) (v := none) (h1 := h4) (by decide +kernel) rfl rfl rfl rfl rfl (rcv_ok hc.1) (CX0_seekChange (d := d) hG) ?_
        refine RN.blk (ops := [(44, .iload_n 1)]) (pc' := 45) (lv' := [(0, .inr (.inr t)), (1, .inl a1)]) (st' := [.inl a1]) (h' := h4) (cs := []) (by decide +kernel) rfl trivial ?_
        rcases it_of hF with ⟨hb0, hF⟩ | ⟨hb0, hF⟩
        · refine RN.lsw (dflt := 43) (ps := #[(0, 27), (1, 35)]) (by decide +kernel) (RN.slh hb0 (tgt := 72) rfl ?_)
          obtain ⟨hc, hF⟩ := gd_of hF
          refine RN.blk (ops := [(72, .aload_n 0), (73, .getfield 79), (76, .getfield 291)]) (pc' := 79) (lv' := [(0, .inr (.inr t)), (1, .inl a1)]) (st' := [.inl (m_rd h4 (m_rd h4 t 13) 1)]) (h' := h4) (cs := [GK h4 t 11, GK h4 (m_rd h4 t 13) 0]) (by decide +kernel) rfl hc ?_
          exact RN.iR (by decide +kernel) rfl hF
        rcases it_of hF with ⟨hb1, hF⟩ | ⟨hb1, hF⟩
        · refine RN.lsw (dflt := 43) (ps := #[(0, 27), (1, 35)]) (by decide +kernel) (RN.slm hb0 (RN.slh hb1 (tgt := 80) rfl ?_))
          obtain ⟨hc, hF⟩ := gd_of hF
          refine RN.blk (ops := [(80, .aload_n 0), (81, .getfield 79), (84, .getfield 296)]) (pc' := 87) (lv' := [(0, .inr (.inr t)), (1, .inl a1)]) (st' := [.inl (m_rd h4 (m_rd h4 t 13) 4)]) (h' := h4) (cs := [GK h4 t 11, GK h4 (m_rd h4 t 13) 0]) (by decide +kernel) rfl hc ?_
          exact RN.iR (by decide +kernel) rfl hF
        refine RN.lsw (dflt := 43) (ps := #[(0, 27), (1, 35)]) (by decide +kernel) (RN.slm hb0 (RN.slm hb1 (RN.sld (tgt := 88) rfl ?_)))
        obtain ⟨hc, hF⟩ := gd_of hF
        refine RN.blk (ops := [(88, .aload_n 0), (89, .getfield 79), (92, .getfield 301)]) (pc' := 95) (lv' := [(0, .inr (.inr t)), (1, .inl a1)]) (st' := [.inl (m_rd h4 (m_rd h4 t 13) 5)]) (h' := h4) (cs := [GK h4 t 11, GK h4 (m_rd h4 t 13) 0]) (by decide +kernel) rfl hc ?_
        exact RN.iR (by decide +kernel) rfl hF
noncomputable def FX11_ahead (t : Int) (a1 : Int) (a2 : Int) (a3 : Int) (h : MH) : Option (Int × MH) :=
  jn (fun (s2 : Int) (h3 : MH) =>
   gd [GK h3 t 11] (bd (FX11_hasFrame t h3) (fun x5 h4 =>
    (if x5 = 0 then
     some ((-1), h4)
    else
     (if s2 = 0 then
      some ((-1), h4)
     else
      (if a2 < 0 then
       some ((-1), h4)
      else
       (if 100 < a2 then
        some ((-1), h4)
       else
        gd [GK h4 t 11] (bv (FX11_startFromNow t h4) (fun h6 =>
         gd [GK h6 t 11] (
          gd [GK h6 t 11] (bd (FX11_ruleInForce t h6) (fun x8 h7 =>
           gd [GK h7 (m_rd h6 t 12) 7] (bv (FX7_steps (m_rd h6 t 12) x8 a2 h7) (fun h9 =>
            (if a3 = 0 then
             gd [GK h9 t 11, GK h9 (m_rd h9 t 12) 7, GK h9 (m_rd h9 (m_rd h9 t 12) 1) 10, GI h9 (m_rd h9 (m_rd h9 (m_rd h9 t 12) 1) 3) 1 a1] (
              some ((m_rd h9 (m_rd h9 (m_rd h9 (m_rd h9 t 12) 1) 3) a1), h9))
            else
            (if a3 = 1 then
             gd [GK h9 t 11, GK h9 (m_rd h9 t 12) 7, GK h9 (m_rd h9 (m_rd h9 t 12) 1) 10] (
              some ((m_rd h9 (m_rd h9 (m_rd h9 t 12) 1) 1), h9))
            else
            (if a3 = 2 then
             gd [GK h9 t 11, GK h9 (m_rd h9 t 12) 7] (
              gd [GK h9 (m_rd h9 (m_rd h9 t 12) 1) 10] (bd (FX10_bagsOfAll (m_rd h9 (m_rd h9 t 12) 1) h9) (fun x11 h10 =>
               some (x11, h10))))
            else
             gd [GK h9 t 11, GK h9 (m_rd h9 t 12) 7, GK h9 (m_rd h9 (m_rd h9 t 12) 1) 10] (
              some ((m_rd h9 (m_rd h9 (m_rd h9 t 12) 1) 5), h9))))))))))))))))))) (fun j1 =>
   (if a3 = 0 then
    gd [GK h t 11, GK h (m_rd h t 5) 2] (
     gd [GK h (m_rd h (m_rd h t 5) 0) 8] (bd (FX8_hasHole (m_rd h (m_rd h t 5) 0) a1 h) (fun x14 h13 =>
      j1 x14 h13)))
   else
    jn (
     j1 0 h) (fun j12 =>
     (if 0 < a3 then
      (if 3 < a3 then
       j12
      else
       j1 1 h)
     else
      j12))))
theorem CX11_ahead {d : Nat} {t : Int} {a1 : Int} {a2 : Int} {a3 : Int} {h : MH} {r : Int × MH} (hF : FX11_ahead t a1 a2 a3 h = some r) : RN xs L iX11_ahead (d + 6) 0 (lvE 0 [.inr (.inr t), .inl a1, .inl a2, .inl a3]) [] h (RIo r) := by
  unfold FX11_ahead at hF
  refine RN.blk (ops := [(0, .iload_n 3)]) (pc' := 1) (lv' := [(0, .inr (.inr t)), (1, .inl a1), (2, .inl a2), (3, .inl a3)]) (st' := [.inl a3]) (h' := h) (cs := []) (by decide +kernel) rfl trivial ?_
  refine jn_use (fun j1 => ∀ (s2 : Int) (h3 : MH), j1 s2 h3 = some r → RN xs L iX11_ahead (d + 6) 32 [(0, .inr (.inr t)), (1, .inl a1), (2, .inl a2), (3, .inl a3)] [.inl s2] h3 (RIo r)) ?_ ?_ hF
  · intro s2 h3 hF
    refine RN.blk (ops := [(32, .istore 4), (34, .aload_n 0)]) (pc' := 35) (lv' := [(4, .inl s2), (0, .inr (.inr t)), (1, .inl a1), (2, .inl a2), (3, .inl a3)]) (st' := [.inr (.inr t)]) (h' := h3) (cs := []) (by decide +kernel) rfl trivial ?_
    obtain ⟨hc, hF⟩ := gd_of hF
    obtain ⟨x5, h4, hG, hF⟩ := bd_of hF
    refine RN.cv (i := 191) (k := 149) (q2 := iX11_hasFrame) (as := [.inr (.inr t)]) (r := []) (v := some (.inl x5)) (h1 := h4) (by decide +kernel) rfl rfl rfl rfl rfl (rcv_ok hc.1) (CX11_hasFrame (d := d + 5) hG) ?_
    rcases it_of hF with ⟨hb, hF⟩ | ⟨hb, hF⟩
    · refine RN.ift (cd := .eq) (off := 18) (tgt := 56) (by decide +kernel) (mif_eq hb) ?_
      refine RN.blk (ops := [(56, .iconst (-1))]) (pc' := 57) (lv' := [(4, .inl s2), (0, .inr (.inr t)), (1, .inl a1), (2, .inl a2), (3, .inl a3)]) (st' := [.inl (-1)]) (h' := h4) (cs := []) (by decide +kernel) rfl trivial ?_
      exact RN.iR (by decide +kernel) rfl hF
    · refine RN.iff (cd := .eq) (off := 18) (tgt := 56) (by decide +kernel) (mif_eqn hb) ?_
      refine RN.blk (ops := [(41, .iload 4)]) (pc' := 43) (lv' := [(4, .inl s2), (0, .inr (.inr t)), (1, .inl a1), (2, .inl a2), (3, .inl a3)]) (st' := [.inl s2]) (h' := h4) (cs := []) (by decide +kernel) rfl trivial ?_
      rcases it_of hF with ⟨hb, hF⟩ | ⟨hb, hF⟩
      · refine RN.ift (cd := .eq) (off := 13) (tgt := 56) (by decide +kernel) (mif_eq hb) ?_
        refine RN.blk (ops := [(56, .iconst (-1))]) (pc' := 57) (lv' := [(4, .inl s2), (0, .inr (.inr t)), (1, .inl a1), (2, .inl a2), (3, .inl a3)]) (st' := [.inl (-1)]) (h' := h4) (cs := []) (by decide +kernel) rfl trivial ?_
        exact RN.iR (by decide +kernel) rfl hF
      · refine RN.iff (cd := .eq) (off := 13) (tgt := 56) (by decide +kernel) (mif_eqn hb) ?_
        refine RN.blk (ops := [(46, .iload_n 2)]) (pc' := 47) (lv' := [(4, .inl s2), (0, .inr (.inr t)), (1, .inl a1), (2, .inl a2), (3, .inl a3)]) (st' := [.inl a2]) (h' := h4) (cs := []) (by decide +kernel) rfl trivial ?_
        rcases it_of hF with ⟨hb, hF⟩ | ⟨hb, hF⟩
        · refine RN.ift (cd := .lt) (off := 9) (tgt := 56) (by decide +kernel) (mif_lt hb) ?_
          refine RN.blk (ops := [(56, .iconst (-1))]) (pc' := 57) (lv' := [(4, .inl s2), (0, .inr (.inr t)), (1, .inl a1), (2, .inl a2), (3, .inl a3)]) (st' := [.inl (-1)]) (h' := h4) (cs := []) (by decide +kernel) rfl trivial ?_
          exact RN.iR (by decide +kernel) rfl hF
        · refine RN.iff (cd := .lt) (off := 9) (tgt := 56) (by decide +kernel) (mif_ltn hb) ?_
          refine RN.blk (ops := [(50, .iload_n 2), (51, .bipush 100)]) (pc' := 53) (lv' := [(4, .inl s2), (0, .inr (.inr t)), (1, .inl a1), (2, .inl a2), (3, .inl a3)]) (st' := [.inl 100, .inl a2]) (h' := h4) (cs := []) (by decide +kernel) rfl trivial ?_
          rcases it_of hF with ⟨hb, hF⟩ | ⟨hb, hF⟩
          · refine RN.icf (cd := .le) (off := 5) (tgt := 58) (by decide +kernel) (mif_len hb) ?_
            refine RN.blk (ops := [(56, .iconst (-1))]) (pc' := 57) (lv' := [(4, .inl s2), (0, .inr (.inr t)), (1, .inl a1), (2, .inl a2), (3, .inl a3)]) (st' := [.inl (-1)]) (h' := h4) (cs := []) (by decide +kernel) rfl trivial ?_
            exact RN.iR (by decide +kernel) rfl hF
          · refine RN.ict (cd := .le) (off := 5) (tgt := 58) (by decide +kernel) (mif_le hb) ?_
            refine RN.blk (ops := [(58, .aload_n 0)]) (pc' := 59) (lv' := [(4, .inl s2), (0, .inr (.inr t)), (1, .inl a1), (2, .inl a2), (3, .inl a3)]) (st' := [.inr (.inr t)]) (h' := h4) (cs := []) (by decide +kernel) rfl trivial ?_
            obtain ⟨hc, hF⟩ := gd_of hF
            obtain ⟨h6, hG, hF⟩ := bv_of hF
            refine RN.cv (i := 195) (k := 154) (q2 := iX11_startFromNow) (as := [.inr (.inr t)]) (r := []) (v := none) (h1 := h6) (by decide +kernel) rfl rfl rfl rfl rfl (rcv_ok hc.1) (CX11_startFromNow (d := d + 1) hG) ?_
            obtain ⟨hc, hF⟩ := gd_of hF
            refine RN.blk (ops := [(62, .aload_n 0), (63, .getfield 72), (66, .aload_n 0)]) (pc' := 67) (lv' := [(4, .inl s2), (0, .inr (.inr t)), (1, .inl a1), (2, .inl a2), (3, .inl a3)]) (st' := [.inr (.inr t), .inr (.inr (m_rd h6 t 12))]) (h' := h6) (cs := [GK h6 t 11]) (by decide +kernel) rfl hc ?_
            obtain ⟨hc, hF⟩ := gd_of hF
            obtain ⟨x8, h7, hG, hF⟩ := bd_of hF
            refine RN.cv (i := 198) (k := 151) (q2 := iX11_ruleInForce) (as := [.inr (.inr t)]) (r := [.inr (.inr (m_rd h6 t 12))]) (v := some (.inr (.inr x8))) (h1 := h7) (by decide +kernel) rfl rfl rfl rfl rfl (rcv_ok hc.1) (CX11_ruleInForce (d := d + 4) hG) ?_
            refine RN.blk (ops := [(70, .iload_n 2)]) (pc' := 71) (lv' := [(4, .inl s2), (0, .inr (.inr t)), (1, .inl a1), (2, .inl a2), (3, .inl a3)]) (st' := [.inl a2, .inr (.inr x8), .inr (.inr (m_rd h6 t 12))]) (h' := h7) (cs := []) (by decide +kernel) rfl trivial ?_
            obtain ⟨hc, hF⟩ := gd_of hF
            obtain ⟨h9, hG, hF⟩ := bv_of hF
            refine RN.cv (i := 304) (k := 72) (q2 := iX7_steps) (as := [.inr (.inr (m_rd h6 t 12)), .inr (.inr x8), .inl a2]) (r := []) (v := none) (h1 := h9) (by decide +kernel) rfl rfl rfl rfl rfl (rcv_ok hc.1) (CX7_steps (d := d) hG) ?_
            refine RN.blk (ops := [(74, .iload_n 3)]) (pc' := 75) (lv' := [(4, .inl s2), (0, .inr (.inr t)), (1, .inl a1), (2, .inl a2), (3, .inl a3)]) (st' := [.inl a3]) (h' := h9) (cs := []) (by decide +kernel) rfl trivial ?_
            rcases it_of hF with ⟨hb0, hF⟩ | ⟨hb0, hF⟩
            · refine RN.tsw (dflt := 60) (lo := 0) (hi := 2) (offs := #[25, 38, 49]) (by decide +kernel) (RN.sth hb0 (tgt := 100) rfl ?_)
              obtain ⟨hc, hF⟩ := gd_of hF
              refine RN.blk (ops := [(100, .aload_n 0), (101, .getfield 72), (104, .getfield 209), (107, .getfield 141), (110, .iload_n 1), (111, .iaload)]) (pc' := 112) (lv' := [(4, .inl s2), (0, .inr (.inr t)), (1, .inl a1), (2, .inl a2), (3, .inl a3)]) (st' := [.inl (m_rd h9 (m_rd h9 (m_rd h9 (m_rd h9 t 12) 1) 3) a1)]) (h' := h9) (cs := [GK h9 t 11, GK h9 (m_rd h9 t 12) 7, GK h9 (m_rd h9 (m_rd h9 t 12) 1) 10, GI h9 (m_rd h9 (m_rd h9 (m_rd h9 t 12) 1) 3) 1 a1]) (by decide +kernel) rfl hc ?_
              exact RN.iR (by decide +kernel) rfl hF
            rcases it_of hF with ⟨hb1, hF⟩ | ⟨hb1, hF⟩
            · refine RN.tsw (dflt := 60) (lo := 0) (hi := 2) (offs := #[25, 38, 49]) (by decide +kernel) (RN.stm hb0 (RN.sth hb1 (tgt := 113) rfl ?_))
              obtain ⟨hc, hF⟩ := gd_of hF
              refine RN.blk (ops := [(113, .aload_n 0), (114, .getfield 72), (117, .getfield 209), (120, .getfield 159)]) (pc' := 123) (lv' := [(4, .inl s2), (0, .inr (.inr t)), (1, .inl a1), (2, .inl a2), (3, .inl a3)]) (st' := [.inl (m_rd h9 (m_rd h9 (m_rd h9 t 12) 1) 1)]) (h' := h9) (cs := [GK h9 t 11, GK h9 (m_rd h9 t 12) 7, GK h9 (m_rd h9 (m_rd h9 t 12) 1) 10]) (by decide +kernel) rfl hc ?_
              exact RN.iR (by decide +kernel) rfl hF
            rcases it_of hF with ⟨hb2, hF⟩ | ⟨hb2, hF⟩
            · refine RN.tsw (dflt := 60) (lo := 0) (hi := 2) (offs := #[25, 38, 49]) (by decide +kernel) (RN.stm hb0 (RN.stm hb1 (RN.sth hb2 (tgt := 124) rfl ?_)))
              obtain ⟨hc, hF⟩ := gd_of hF
              refine RN.blk (ops := [(124, .aload_n 0), (125, .getfield 72), (128, .getfield 209)]) (pc' := 131) (lv' := [(4, .inl s2), (0, .inr (.inr t)), (1, .inl a1), (2, .inl a2), (3, .inl a3)]) (st' := [.inr (.inr (m_rd h9 (m_rd h9 t 12) 1))]) (h' := h9) (cs := [GK h9 t 11, GK h9 (m_rd h9 t 12) 7]) (by decide +kernel) rfl hc ?_
              obtain ⟨hc, hF⟩ := gd_of hF
              obtain ⟨x11, h10, hG, hF⟩ := bd_of hF
              refine RN.cv (i := 179) (k := 106) (q2 := iX10_bagsOfAll) (as := [.inr (.inr (m_rd h9 (m_rd h9 t 12) 1))]) (r := []) (v := some (.inl x11)) (h1 := h10) (by decide +kernel) rfl rfl rfl rfl rfl (rcv_ok hc.1) (CX10_bagsOfAll (d := d + 4) hG) ?_
              exact RN.iR (by decide +kernel) rfl hF
            refine RN.tsw (dflt := 60) (lo := 0) (hi := 2) (offs := #[25, 38, 49]) (by decide +kernel) (RN.stm hb0 (RN.stm hb1 (RN.stm hb2 (RN.std (tgt := 135) rfl ?_))))
            obtain ⟨hc, hF⟩ := gd_of hF
            refine RN.blk (ops := [(135, .aload_n 0), (136, .getfield 72), (139, .getfield 209), (142, .getfield 182)]) (pc' := 145) (lv' := [(4, .inl s2), (0, .inr (.inr t)), (1, .inl a1), (2, .inl a2), (3, .inl a3)]) (st' := [.inl (m_rd h9 (m_rd h9 (m_rd h9 t 12) 1) 5)]) (h' := h9) (cs := [GK h9 t 11, GK h9 (m_rd h9 t 12) 7, GK h9 (m_rd h9 (m_rd h9 t 12) 1) 10]) (by decide +kernel) rfl hc ?_
            exact RN.iR (by decide +kernel) rfl hF
  · intro j1 Jj1 hF
    rcases it_of hF with ⟨hb, hF⟩ | ⟨hb, hF⟩
    · refine RN.iff (cd := .ne) (off := 17) (tgt := 18) (by decide +kernel) (mif_nen hb) ?_
      obtain ⟨hc, hF⟩ := gd_of hF
      refine RN.blk (ops := [(4, .aload_n 0), (5, .getfield 41), (8, .getfield 130), (11, .iload_n 1)]) (pc' := 12) (lv' := [(0, .inr (.inr t)), (1, .inl a1), (2, .inl a2), (3, .inl a3)]) (st' := [.inl a1, .inr (.inr (m_rd h (m_rd h t 5) 0))]) (h' := h) (cs := [GK h t 11, GK h (m_rd h t 5) 2]) (by decide +kernel) rfl hc ?_
      obtain ⟨hc, hF⟩ := gd_of hF
      obtain ⟨x14, h13, hG, hF⟩ := bd_of hF
      refine RN.cv (i := 131) (k := 81) (q2 := iX8_hasHole) (as := [.inr (.inr (m_rd h (m_rd h t 5) 0)), .inl a1]) (r := []) (v := some (.inl x14)) (h1 := h13) (by decide +kernel) rfl rfl rfl rfl rfl (rcv_ok hc.1) (CX8_hasHole (d := d + 5) hG) ?_
      refine RN.goto (off := 17) (tgt := 32) (by decide +kernel) ?_
      exact RN.sub (Jj1 _ _ hF) (sub_cons rfl (sub_cons rfl (sub_cons rfl (sub_cons rfl sub_nil))))
    · refine RN.ift (cd := .ne) (off := 17) (tgt := 18) (by decide +kernel) (mif_ne hb) ?_
      refine RN.blk (ops := [(18, .iload_n 3)]) (pc' := 19) (lv' := [(0, .inr (.inr t)), (1, .inl a1), (2, .inl a2), (3, .inl a3)]) (st' := [.inl a3]) (h' := h) (cs := []) (by decide +kernel) rfl trivial ?_
      refine jn_use (fun j12 => j12 = some r → RN xs L iX11_ahead (d + 6) 31 [(0, .inr (.inr t)), (1, .inl a1), (2, .inl a2), (3, .inl a3)] [] h (RIo r)) ?_ ?_ hF
      · intro  hF
        refine RN.blk (ops := [(31, .iconst 0)]) (pc' := 32) (lv' := [(0, .inr (.inr t)), (1, .inl a1), (2, .inl a2), (3, .inl a3)]) (st' := [.inl 0]) (h' := h) (cs := []) (by decide +kernel) rfl trivial ?_
        exact RN.sub (Jj1 _ _ hF) (sub_cons rfl (sub_cons rfl (sub_cons rfl (sub_cons rfl sub_nil))))
      · intro j12 Jj12 hF
        rcases it_of hF with ⟨hb, hF⟩ | ⟨hb, hF⟩
        · refine RN.iff (cd := .le) (off := 12) (tgt := 31) (by decide +kernel) (mif_len hb) ?_
          refine RN.blk (ops := [(22, .iload_n 3), (23, .iconst 3)]) (pc' := 24) (lv' := [(0, .inr (.inr t)), (1, .inl a1), (2, .inl a2), (3, .inl a3)]) (st' := [.inl 3, .inl a3]) (h' := h) (cs := []) (by decide +kernel) rfl trivial ?_
          rcases it_of hF with ⟨hb, hF⟩ | ⟨hb, hF⟩
          · refine RN.ict (cd := .gt) (off := 7) (tgt := 31) (by decide +kernel) (mif_gt hb) ?_
            exact RN.sub (Jj12 hF) (sub_cons rfl (sub_cons rfl (sub_cons rfl (sub_cons rfl sub_nil))))
          · refine RN.icf (cd := .gt) (off := 7) (tgt := 31) (by decide +kernel) (mif_gtn hb) ?_
            refine RN.blk (ops := [(27, .iconst 1)]) (pc' := 28) (lv' := [(0, .inr (.inr t)), (1, .inl a1), (2, .inl a2), (3, .inl a3)]) (st' := [.inl 1]) (h' := h) (cs := []) (by decide +kernel) rfl trivial ?_
            refine RN.goto (off := 4) (tgt := 32) (by decide +kernel) ?_
            exact RN.sub (Jj1 _ _ hF) (sub_cons rfl (sub_cons rfl (sub_cons rfl (sub_cons rfl sub_nil))))
        · refine RN.ift (cd := .le) (off := 12) (tgt := 31) (by decide +kernel) (mif_le hb) ?_
          exact RN.sub (Jj12 hF) (sub_cons rfl (sub_cons rfl (sub_cons rfl (sub_cons rfl sub_nil))))
noncomputable def FX11_sorted (t : Int) (h : MH) : Option (Int × MH) :=
  gd [GK h t 11] (bd (FX11_hasFrame t h) (fun x2 h1 =>
   (if x2 = 0 then
    some ((-1), h1)
   else
    gd [GK h1 t 11] (bv (FX11_startFromNow t h1) (fun h3 =>
     gd [GK h3 t 11] (
      gd [GK h3 t 11] (bd (FX11_ruleInForce t h3) (fun x5 h4 =>
       gd [GK h4 (m_rd h3 t 12) 7] (bd (FX7_turnOfSorting (m_rd h3 t 12) x5 h4) (fun x7 h6 =>
        some (x7, h6)))))))))))
theorem CX11_sorted {d : Nat} {t : Int} {h : MH} {r : Int × MH} (hF : FX11_sorted t h = some r) : RN xs L iX11_sorted (d + 6) 0 (lvE 0 [.inr (.inr t)]) [] h (RIo r) := by
  unfold FX11_sorted at hF
  refine RN.blk (ops := [(0, .aload_n 0)]) (pc' := 1) (lv' := [(0, .inr (.inr t))]) (st' := [.inr (.inr t)]) (h' := h) (cs := []) (by decide +kernel) rfl trivial ?_
  obtain ⟨hc, hF⟩ := gd_of hF
  obtain ⟨x2, h1, hG, hF⟩ := bd_of hF
  refine RN.cv (i := 191) (k := 149) (q2 := iX11_hasFrame) (as := [.inr (.inr t)]) (r := []) (v := some (.inl x2)) (h1 := h1) (by decide +kernel) rfl rfl rfl rfl rfl (rcv_ok hc.1) (CX11_hasFrame (d := d + 5) hG) ?_
  rcases it_of hF with ⟨hb, hF⟩ | ⟨hb, hF⟩
  · refine RN.iff (cd := .ne) (off := 5) (tgt := 9) (by decide +kernel) (mif_nen hb) ?_
    refine RN.blk (ops := [(7, .iconst (-1))]) (pc' := 8) (lv' := [(0, .inr (.inr t))]) (st' := [.inl (-1)]) (h' := h1) (cs := []) (by decide +kernel) rfl trivial ?_
    exact RN.iR (by decide +kernel) rfl hF
  · refine RN.ift (cd := .ne) (off := 5) (tgt := 9) (by decide +kernel) (mif_ne hb) ?_
    refine RN.blk (ops := [(9, .aload_n 0)]) (pc' := 10) (lv' := [(0, .inr (.inr t))]) (st' := [.inr (.inr t)]) (h' := h1) (cs := []) (by decide +kernel) rfl trivial ?_
    obtain ⟨hc, hF⟩ := gd_of hF
    obtain ⟨h3, hG, hF⟩ := bv_of hF
    refine RN.cv (i := 195) (k := 154) (q2 := iX11_startFromNow) (as := [.inr (.inr t)]) (r := []) (v := none) (h1 := h3) (by decide +kernel) rfl rfl rfl rfl rfl (rcv_ok hc.1) (CX11_startFromNow (d := d + 1) hG) ?_
    obtain ⟨hc, hF⟩ := gd_of hF
    refine RN.blk (ops := [(13, .aload_n 0), (14, .getfield 72), (17, .aload_n 0)]) (pc' := 18) (lv' := [(0, .inr (.inr t))]) (st' := [.inr (.inr t), .inr (.inr (m_rd h3 t 12))]) (h' := h3) (cs := [GK h3 t 11]) (by decide +kernel) rfl hc ?_
    obtain ⟨hc, hF⟩ := gd_of hF
    obtain ⟨x5, h4, hG, hF⟩ := bd_of hF
    refine RN.cv (i := 198) (k := 151) (q2 := iX11_ruleInForce) (as := [.inr (.inr t)]) (r := [.inr (.inr (m_rd h3 t 12))]) (v := some (.inr (.inr x5))) (h1 := h4) (by decide +kernel) rfl rfl rfl rfl rfl (rcv_ok hc.1) (CX11_ruleInForce (d := d + 4) hG) ?_
    obtain ⟨hc, hF⟩ := gd_of hF
    obtain ⟨x7, h6, hG, hF⟩ := bd_of hF
    refine RN.cv (i := 308) (k := 73) (q2 := iX7_turnOfSorting) (as := [.inr (.inr (m_rd h3 t 12)), .inr (.inr x5)]) (r := []) (v := some (.inl x7)) (h1 := h6) (by decide +kernel) rfl rfl rfl rfl rfl (rcv_ok hc.1) (CX7_turnOfSorting (d := d) hG) ?_
    exact RN.iR (by decide +kernel) rfl hF
noncomputable def FX11_tied (t : Int) (a1 : Int) (h : MH) : Option (Int × MH) :=
  gd [GK h t 11, GK h (m_rd h t 5) 2] (
   gd [GK h (m_rd h (m_rd h t 5) 0) 8] (bd (FX8_hasHole (m_rd h (m_rd h t 5) 0) a1 h) (fun x2 h1 =>
    (if x2 = 0 then
     some ((-1), h1)
    else
     gd [GK h1 t 11] (bv (FX11_startFromNow t h1) (fun h3 =>
      gd [GK h3 t 11] (
       gd [GK h3 t 11] (bd (FX11_ruleInForce t h3) (fun x5 h4 =>
        gd [GK h4 (m_rd h3 t 12) 7] (bd (FX7_turnOfTying (m_rd h3 t 12) x5 a1 200 h4) (fun x7 h6 =>
         some (x7, h6))))))))))))
theorem CX11_tied {d : Nat} {t : Int} {a1 : Int} {h : MH} {r : Int × MH} (hF : FX11_tied t a1 h = some r) : RN xs L iX11_tied (d + 6) 0 (lvE 0 [.inr (.inr t), .inl a1]) [] h (RIo r) := by
  unfold FX11_tied at hF
  obtain ⟨hc, hF⟩ := gd_of hF
  refine RN.blk (ops := [(0, .aload_n 0), (1, .getfield 41), (4, .getfield 130), (7, .iload_n 1)]) (pc' := 8) (lv' := [(0, .inr (.inr t)), (1, .inl a1)]) (st' := [.inl a1, .inr (.inr (m_rd h (m_rd h t 5) 0))]) (h' := h) (cs := [GK h t 11, GK h (m_rd h t 5) 2]) (by decide +kernel) rfl hc ?_
  obtain ⟨hc, hF⟩ := gd_of hF
  obtain ⟨x2, h1, hG, hF⟩ := bd_of hF
  refine RN.cv (i := 131) (k := 81) (q2 := iX8_hasHole) (as := [.inr (.inr (m_rd h (m_rd h t 5) 0)), .inl a1]) (r := []) (v := some (.inl x2)) (h1 := h1) (by decide +kernel) rfl rfl rfl rfl rfl (rcv_ok hc.1) (CX8_hasHole (d := d + 5) hG) ?_
  rcases it_of hF with ⟨hb, hF⟩ | ⟨hb, hF⟩
  · refine RN.iff (cd := .ne) (off := 5) (tgt := 16) (by decide +kernel) (mif_nen hb) ?_
    refine RN.blk (ops := [(14, .iconst (-1))]) (pc' := 15) (lv' := [(0, .inr (.inr t)), (1, .inl a1)]) (st' := [.inl (-1)]) (h' := h1) (cs := []) (by decide +kernel) rfl trivial ?_
    exact RN.iR (by decide +kernel) rfl hF
  · refine RN.ift (cd := .ne) (off := 5) (tgt := 16) (by decide +kernel) (mif_ne hb) ?_
    refine RN.blk (ops := [(16, .aload_n 0)]) (pc' := 17) (lv' := [(0, .inr (.inr t)), (1, .inl a1)]) (st' := [.inr (.inr t)]) (h' := h1) (cs := []) (by decide +kernel) rfl trivial ?_
    obtain ⟨hc, hF⟩ := gd_of hF
    obtain ⟨h3, hG, hF⟩ := bv_of hF
    refine RN.cv (i := 195) (k := 154) (q2 := iX11_startFromNow) (as := [.inr (.inr t)]) (r := []) (v := none) (h1 := h3) (by decide +kernel) rfl rfl rfl rfl rfl (rcv_ok hc.1) (CX11_startFromNow (d := d + 1) hG) ?_
    obtain ⟨hc, hF⟩ := gd_of hF
    refine RN.blk (ops := [(20, .aload_n 0), (21, .getfield 72), (24, .aload_n 0)]) (pc' := 25) (lv' := [(0, .inr (.inr t)), (1, .inl a1)]) (st' := [.inr (.inr t), .inr (.inr (m_rd h3 t 12))]) (h' := h3) (cs := [GK h3 t 11]) (by decide +kernel) rfl hc ?_
    obtain ⟨hc, hF⟩ := gd_of hF
    obtain ⟨x5, h4, hG, hF⟩ := bd_of hF
    refine RN.cv (i := 198) (k := 151) (q2 := iX11_ruleInForce) (as := [.inr (.inr t)]) (r := [.inr (.inr (m_rd h3 t 12))]) (v := some (.inr (.inr x5))) (h1 := h4) (by decide +kernel) rfl rfl rfl rfl rfl (rcv_ok hc.1) (CX11_ruleInForce (d := d + 4) hG) ?_
    refine RN.blk (ops := [(28, .iload_n 1), (29, .sipush 200)]) (pc' := 32) (lv' := [(0, .inr (.inr t)), (1, .inl a1)]) (st' := [.inl 200, .inl a1, .inr (.inr x5), .inr (.inr (m_rd h3 t 12))]) (h' := h4) (cs := []) (by decide +kernel) rfl trivial ?_
    obtain ⟨hc, hF⟩ := gd_of hF
    obtain ⟨x7, h6, hG, hF⟩ := bd_of hF
    refine RN.cv (i := 311) (k := 74) (q2 := iX7_turnOfTying) (as := [.inr (.inr (m_rd h3 t 12)), .inr (.inr x5), .inl a1, .inl 200]) (r := []) (v := some (.inl x7)) (h1 := h6) (by decide +kernel) rfl rfl rfl rfl rfl (rcv_ok hc.1) (CX7_turnOfTying (d := d) hG) ?_
    exact RN.iR (by decide +kernel) rfl hF
noncomputable def FX11_enough_L33 (u0 : Int) (u1 : Int) (u2 : Int) (K0 : Int → MH → Option (Int × MH)) (K1 : MH → Option (Int × MH)) : Nat → Int → MH → Option (Int × MH)
  | 0, _, _ => none
  | f + 1, v3, h =>
    (if 20 < v3 then
     K1 h
    else
     gd [GK h u0 11, GK h (m_rd h u0 12) 7, GK h u0 11, GK h (m_rd h u0 5) 2] (
      gd [GK h (m_rd h (m_rd h u0 12) 1) 10] (bv (FX10_copyFrom (m_rd h (m_rd h u0 12) 1) (m_rd h (m_rd h u0 5) 2) h) (fun h1 =>
       gd [GK h1 u0 11, GK h1 (m_rd h1 u0 12) 7, GK h1 (m_rd h1 (m_rd h1 u0 12) 0) 8, GI h1 (m_rd h1 (m_rd h1 (m_rd h1 u0 12) 0) 5) 1 u1, GK h1 u0 11] (
        gd [GK h1 u0 11] (bd (FX11_ruleInForce u0 (m_wr h1 (m_rd h1 (m_rd h1 (m_rd h1 u0 12) 0) 5) u1 v3)) (fun x3 h2 =>
         gd [GK h2 (m_rd (m_wr h1 (m_rd h1 (m_rd h1 (m_rd h1 u0 12) 0) 5) u1 v3) u0 12) 7] (bd (FX7_turnOfTying (m_rd (m_wr h1 (m_rd h1 (m_rd h1 (m_rd h1 u0 12) 0) 5) u1 v3) u0 12) x3 u1 u2 h2) (fun x5 h4 =>
          (if x5 = (-2) then
           K0 v3 h4
          else
           FX11_enough_L33 u0 u1 u2 K0 K1 f (m_w32 (v3 + 1)) h4))))))))))
theorem CX11_enough_L33 {d : Nat} {u0 : Int} {u1 : Int} {u2 : Int} {K0 : Int → MH → Option (Int × MH)} {K1 : MH → Option (Int × MH)} {r : Int × MH} (hK0 : ∀ (w3 : Int) (h : MH), K0 w3 h = some r → RN xs L iX11_enough (d + 6) 87 [(3, .inl w3)] [] h (RIo r)) (hK1 : ∀ (h : MH), K1 h = some r → RN xs L iX11_enough (d + 6) 95 [] [] h (RIo r)) : ∀ (f : Nat) (v3 : Int) (h : MH), FX11_enough_L33 u0 u1 u2 K0 K1 f v3 h = some r → RN xs L iX11_enough (d + 6) 33 [(0, .inr (.inr u0)), (1, .inl u1), (2, .inl u2), (3, .inl v3)] [] h (RIo r) := by
  intro f
  induction f with
  | zero =>
    intro v3 h hF
    cases hF
  | succ f ih =>
    intro v3 h hF
    unfold FX11_enough_L33 at hF
    refine RN.blk (ops := [(33, .iload_n 3), (34, .bipush 20)]) (pc' := 36) (lv' := [(0, .inr (.inr u0)), (1, .inl u1), (2, .inl u2), (3, .inl v3)]) (st' := [.inl 20, .inl v3]) (h' := h) (cs := []) (by decide +kernel) rfl trivial ?_
    rcases it_of hF with ⟨hb, hF⟩ | ⟨hb, hF⟩
    · refine RN.ict (cd := .gt) (off := 59) (tgt := 95) (by decide +kernel) (mif_gt hb) ?_
      exact RN.sub (hK1 _ hF) sub_nil
    · refine RN.icf (cd := .gt) (off := 59) (tgt := 95) (by decide +kernel) (mif_gtn hb) ?_
      obtain ⟨hc, hF⟩ := gd_of hF
      refine RN.blk (ops := [(39, .aload_n 0), (40, .getfield 72), (43, .getfield 209), (46, .aload_n 0), (47, .getfield 41), (50, .getfield 110)]) (pc' := 53) (lv' := [(0, .inr (.inr u0)), (1, .inl u1), (2, .inl u2), (3, .inl v3)]) (st' := [.inr (.inr (m_rd h (m_rd h u0 5) 2)), .inr (.inr (m_rd h (m_rd h u0 12) 1))]) (h' := h) (cs := [GK h u0 11, GK h (m_rd h u0 12) 7, GK h u0 11, GK h (m_rd h u0 5) 2]) (by decide +kernel) rfl hc ?_
      obtain ⟨hc, hF⟩ := gd_of hF
      obtain ⟨h1, hG, hF⟩ := bv_of hF
      refine RN.cv (i := 212) (k := 101) (q2 := iX10_copyFrom) (as := [.inr (.inr (m_rd h (m_rd h u0 12) 1)), .inr (.inr (m_rd h (m_rd h u0 5) 2))]) (r := []) (v := none) (h1 := h1) (by decide +kernel) rfl rfl rfl rfl rfl (rcv_ok hc.1) (CX10_copyFrom (d := d + 3) hG) ?_
      obtain ⟨hc, hF⟩ := gd_of hF
      refine RN.blk (ops := [(56, .aload_n 0), (57, .getfield 72), (60, .getfield 315), (63, .getfield 137), (66, .iload_n 1), (67, .iload_n 3), (68, .iastore), (69, .aload_n 0), (70, .getfield 72), (73, .aload_n 0)]) (pc' := 74) (lv' := [(0, .inr (.inr u0)), (1, .inl u1), (2, .inl u2), (3, .inl v3)]) (st' := [.inr (.inr u0), .inr (.inr (m_rd (m_wr h1 (m_rd h1 (m_rd h1 (m_rd h1 u0 12) 0) 5) u1 v3) u0 12))]) (h' := (m_wr h1 (m_rd h1 (m_rd h1 (m_rd h1 u0 12) 0) 5) u1 v3)) (cs := [GK h1 u0 11, GK h1 (m_rd h1 u0 12) 7, GK h1 (m_rd h1 (m_rd h1 u0 12) 0) 8, GI h1 (m_rd h1 (m_rd h1 (m_rd h1 u0 12) 0) 5) 1 u1, GK h1 u0 11]) (by decide +kernel) rfl hc ?_
      obtain ⟨hc, hF⟩ := gd_of hF
      obtain ⟨x3, h2, hG, hF⟩ := bd_of hF
      refine RN.cv (i := 198) (k := 151) (q2 := iX11_ruleInForce) (as := [.inr (.inr u0)]) (r := [.inr (.inr (m_rd (m_wr h1 (m_rd h1 (m_rd h1 (m_rd h1 u0 12) 0) 5) u1 v3) u0 12))]) (v := some (.inr (.inr x3))) (h1 := h2) (by decide +kernel) rfl rfl rfl rfl rfl (rcv_ok hc.1) (CX11_ruleInForce (d := d + 4) hG) ?_
      refine RN.blk (ops := [(77, .iload_n 1), (78, .iload_n 2)]) (pc' := 79) (lv' := [(0, .inr (.inr u0)), (1, .inl u1), (2, .inl u2), (3, .inl v3)]) (st' := [.inl u2, .inl u1, .inr (.inr x3), .inr (.inr (m_rd (m_wr h1 (m_rd h1 (m_rd h1 (m_rd h1 u0 12) 0) 5) u1 v3) u0 12))]) (h' := h2) (cs := []) (by decide +kernel) rfl trivial ?_
      obtain ⟨hc, hF⟩ := gd_of hF
      obtain ⟨x5, h4, hG, hF⟩ := bd_of hF
      refine RN.cv (i := 311) (k := 74) (q2 := iX7_turnOfTying) (as := [.inr (.inr (m_rd (m_wr h1 (m_rd h1 (m_rd h1 (m_rd h1 u0 12) 0) 5) u1 v3) u0 12)), .inr (.inr x3), .inl u1, .inl u2]) (r := []) (v := some (.inl x5)) (h1 := h4) (by decide +kernel) rfl rfl rfl rfl rfl (rcv_ok hc.1) (CX7_turnOfTying (d := d) hG) ?_
      refine RN.blk (ops := [(82, .bipush (-2))]) (pc' := 84) (lv' := [(0, .inr (.inr u0)), (1, .inl u1), (2, .inl u2), (3, .inl v3)]) (st' := [.inl (-2), .inl x5]) (h' := h4) (cs := []) (by decide +kernel) rfl trivial ?_
      rcases it_of hF with ⟨hb, hF⟩ | ⟨hb, hF⟩
      · refine RN.icf (cd := .ne) (off := 5) (tgt := 89) (by decide +kernel) (mif_nen hb) ?_
        exact RN.sub (hK0 _ _ hF) (sub_cons rfl sub_nil)
      · refine RN.ict (cd := .ne) (off := 5) (tgt := 89) (by decide +kernel) (mif_ne hb) ?_
        refine RN.blk (ops := [(89, .iinc 3 1)]) (pc' := 92) (lv' := [(3, .inl (m_w32 (v3 + 1))), (0, .inr (.inr u0)), (1, .inl u1), (2, .inl u2)]) (st' := []) (h' := h4) (cs := []) (by decide +kernel) rfl trivial ?_
        refine RN.goto (off := -59) (tgt := 33) (by decide +kernel) ?_
        exact RN.sub (ih _ _ hF) (sub_cons rfl (sub_cons rfl (sub_cons rfl (sub_cons rfl sub_nil))))
noncomputable def FX11_enough (t : Int) (a1 : Int) (a2 : Int) (h : MH) : Option (Int × MH) :=
  gd [GK h t 11, GK h (m_rd h t 5) 2] (
   gd [GK h (m_rd h (m_rd h t 5) 0) 8] (bd (FX8_hasHole (m_rd h (m_rd h t 5) 0) a1 h) (fun x2 h1 =>
    (if x2 = 0 then
     some ((-1), h1)
    else
     (if a2 < 1 then
      some ((-1), h1)
     else
      (if 40 < a2 then
       some ((-1), h1)
      else
       gd [GK h1 t 11] (bv (FX11_startFromNow t h1) (fun h3 =>
        FX11_enough_L33 t a1 a2 (fun w4 h5 =>
         some (w4, h5)) (fun h6 =>
         some ((-2), h6)) FU 1 h3))))))))
theorem CX11_enough {d : Nat} {t : Int} {a1 : Int} {a2 : Int} {h : MH} {r : Int × MH} (hF : FX11_enough t a1 a2 h = some r) : RN xs L iX11_enough (d + 6) 0 (lvE 0 [.inr (.inr t), .inl a1, .inl a2]) [] h (RIo r) := by
  unfold FX11_enough at hF
  obtain ⟨hc, hF⟩ := gd_of hF
  refine RN.blk (ops := [(0, .aload_n 0), (1, .getfield 41), (4, .getfield 130), (7, .iload_n 1)]) (pc' := 8) (lv' := [(0, .inr (.inr t)), (1, .inl a1), (2, .inl a2)]) (st' := [.inl a1, .inr (.inr (m_rd h (m_rd h t 5) 0))]) (h' := h) (cs := [GK h t 11, GK h (m_rd h t 5) 2]) (by decide +kernel) rfl hc ?_
  obtain ⟨hc, hF⟩ := gd_of hF
  obtain ⟨x2, h1, hG, hF⟩ := bd_of hF
  refine RN.cv (i := 131) (k := 81) (q2 := iX8_hasHole) (as := [.inr (.inr (m_rd h (m_rd h t 5) 0)), .inl a1]) (r := []) (v := some (.inl x2)) (h1 := h1) (by decide +kernel) rfl rfl rfl rfl rfl (rcv_ok hc.1) (CX8_hasHole (d := d + 5) hG) ?_
  rcases it_of hF with ⟨hb, hF⟩ | ⟨hb, hF⟩
  · refine RN.ift (cd := .eq) (off := 14) (tgt := 25) (by decide +kernel) (mif_eq hb) ?_
    refine RN.blk (ops := [(25, .iconst (-1))]) (pc' := 26) (lv' := [(0, .inr (.inr t)), (1, .inl a1), (2, .inl a2)]) (st' := [.inl (-1)]) (h' := h1) (cs := []) (by decide +kernel) rfl trivial ?_
    exact RN.iR (by decide +kernel) rfl hF
  · refine RN.iff (cd := .eq) (off := 14) (tgt := 25) (by decide +kernel) (mif_eqn hb) ?_
    refine RN.blk (ops := [(14, .iload_n 2), (15, .iconst 1)]) (pc' := 16) (lv' := [(0, .inr (.inr t)), (1, .inl a1), (2, .inl a2)]) (st' := [.inl 1, .inl a2]) (h' := h1) (cs := []) (by decide +kernel) rfl trivial ?_
    rcases it_of hF with ⟨hb, hF⟩ | ⟨hb, hF⟩
    · refine RN.ict (cd := .lt) (off := 9) (tgt := 25) (by decide +kernel) (mif_lt hb) ?_
      refine RN.blk (ops := [(25, .iconst (-1))]) (pc' := 26) (lv' := [(0, .inr (.inr t)), (1, .inl a1), (2, .inl a2)]) (st' := [.inl (-1)]) (h' := h1) (cs := []) (by decide +kernel) rfl trivial ?_
      exact RN.iR (by decide +kernel) rfl hF
    · refine RN.icf (cd := .lt) (off := 9) (tgt := 25) (by decide +kernel) (mif_ltn hb) ?_
      refine RN.blk (ops := [(19, .iload_n 2), (20, .bipush 40)]) (pc' := 22) (lv' := [(0, .inr (.inr t)), (1, .inl a1), (2, .inl a2)]) (st' := [.inl 40, .inl a2]) (h' := h1) (cs := []) (by decide +kernel) rfl trivial ?_
      rcases it_of hF with ⟨hb, hF⟩ | ⟨hb, hF⟩
      · refine RN.icf (cd := .le) (off := 5) (tgt := 27) (by decide +kernel) (mif_len hb) ?_
        refine RN.blk (ops := [(25, .iconst (-1))]) (pc' := 26) (lv' := [(0, .inr (.inr t)), (1, .inl a1), (2, .inl a2)]) (st' := [.inl (-1)]) (h' := h1) (cs := []) (by decide +kernel) rfl trivial ?_
        exact RN.iR (by decide +kernel) rfl hF
      · refine RN.ict (cd := .le) (off := 5) (tgt := 27) (by decide +kernel) (mif_le hb) ?_
        refine RN.blk (ops := [(27, .aload_n 0)]) (pc' := 28) (lv' := [(0, .inr (.inr t)), (1, .inl a1), (2, .inl a2)]) (st' := [.inr (.inr t)]) (h' := h1) (cs := []) (by decide +kernel) rfl trivial ?_
        obtain ⟨hc, hF⟩ := gd_of hF
        obtain ⟨h3, hG, hF⟩ := bv_of hF
        refine RN.cv (i := 195) (k := 154) (q2 := iX11_startFromNow) (as := [.inr (.inr t)]) (r := []) (v := none) (h1 := h3) (by decide +kernel) rfl rfl rfl rfl rfl (rcv_ok hc.1) (CX11_startFromNow (d := d + 1) hG) ?_
        refine RN.blk (ops := [(31, .iconst 1), (32, .istore_n 3)]) (pc' := 33) (lv' := [(3, .inl 1), (0, .inr (.inr t)), (1, .inl a1), (2, .inl a2)]) (st' := []) (h' := h3) (cs := []) (by decide +kernel) rfl trivial ?_
        refine RN.sub (CX11_enough_L33 ?_ ?_ _ _ _ hF) (sub_cons rfl (sub_cons rfl (sub_cons rfl (sub_cons rfl sub_nil))))
        · intro w4 h5 hF
          refine RN.blk (ops := [(87, .iload_n 3)]) (pc' := 88) (lv' := [(3, .inl w4)]) (st' := [.inl w4]) (h' := h5) (cs := []) (by decide +kernel) rfl trivial ?_
          exact RN.iR (by decide +kernel) rfl hF
        · intro h6 hF
          refine RN.blk (ops := [(95, .bipush (-2))]) (pc' := 97) (lv' := []) (st' := [.inl (-2)]) (h' := h6) (cs := []) (by decide +kernel) rfl trivial ?_
          exact RN.iR (by decide +kernel) rfl hF
noncomputable def FX11_said_L59 (u0 : Int) (u1 : Int) (u2 : Int) (K0 : Int → Int → MH → Option (Int × MH)) : Nat → Int → Int → Int → MH → Option (Int × MH)
  | 0, _, _, _, _ => none
  | f + 1, v3, v4, v5, h =>
    gd [GK h u0 11, GK h (m_rd h u0 5) 2, GK h (m_rd h (m_rd h u0 5) 0) 8] (
     (if v5 < (m_rd h (m_rd h (m_rd h u0 5) 0) 3) then
      gd [GK h u0 11, GK h (m_rd h u0 12) 7, GK h u0 11, GK h (m_rd h u0 5) 2] (
       gd [GK h (m_rd h (m_rd h u0 12) 1) 10] (bv (FX10_copyFrom (m_rd h (m_rd h u0 12) 1) (m_rd h (m_rd h u0 5) 1) h) (fun h1 =>
        gd [GK h1 u0 11, GK h1 (m_rd h1 u0 12) 7, GK h1 (m_rd h1 (m_rd h1 u0 12) 1) 10, GI h1 (m_rd h1 (m_rd h1 (m_rd h1 u0 12) 1) 2) 1 u1, GK h1 u0 11, GK h1 u0 11] (
         gd [GK h1 u0 11] (bd (FX11_ruleInForce u0 (m_wr h1 (m_rd h1 (m_rd h1 (m_rd h1 u0 12) 1) 2) u1 v5)) (fun x3 h2 =>
          gd [GK h2 (m_rd (m_wr h1 (m_rd h1 (m_rd h1 (m_rd h1 u0 12) 1) 2) u1 v5) u0 12) 7] (bd (FX7_agrees (m_rd (m_wr h1 (m_rd h1 (m_rd h1 (m_rd h1 u0 12) 1) 2) u1 v5) u0 12) (m_rd (m_wr h1 (m_rd h1 (m_rd h1 (m_rd h1 u0 12) 1) 2) u1 v5) u0 5) x3 h2) (fun x5 h4 =>
           (if x5 = 0 then
            FX11_said_L59 u0 u1 u2 K0 f v3 v4 (m_w32 (v5 + 1)) h4
           else
            (if v4 = (-2) then
             FX11_said_L59 u0 u1 u2 K0 f (m_w32 (v3 + 1)) v5 (m_w32 (v5 + 1)) h4
            else
             FX11_said_L59 u0 u1 u2 K0 f (m_w32 (v3 + 1)) v4 (m_w32 (v5 + 1)) h4))))))))))
     else
      K0 v3 v4 h))
theorem CX11_said_L59 {d : Nat} {u0 : Int} {u1 : Int} {u2 : Int} {K0 : Int → Int → MH → Option (Int × MH)} {r : Int × MH} (hK0 : ∀ (w3 : Int) (w4 : Int) (h : MH), K0 w3 w4 h = some r → RN xs L iX11_said (d + 6) 143 [(2, .inl u2), (3, .inl w3), (4, .inl w4)] [] h (RIo r)) : ∀ (f : Nat) (v3 : Int) (v4 : Int) (v5 : Int) (h : MH), FX11_said_L59 u0 u1 u2 K0 f v3 v4 v5 h = some r → RN xs L iX11_said (d + 6) 59 [(0, .inr (.inr u0)), (1, .inl u1), (2, .inl u2), (3, .inl v3), (4, .inl v4), (5, .inl v5)] [] h (RIo r) := by
  intro f
  induction f with
  | zero =>
    intro v3 v4 v5 h hF
    cases hF
  | succ f ih =>
    intro v3 v4 v5 h hF
    unfold FX11_said_L59 at hF
    obtain ⟨hc, hF⟩ := gd_of hF
    refine RN.blk (ops := [(59, .iload 5), (61, .aload_n 0), (62, .getfield 41), (65, .getfield 130), (68, .getfield 320)]) (pc' := 71) (lv' := [(0, .inr (.inr u0)), (1, .inl u1), (2, .inl u2), (3, .inl v3), (4, .inl v4), (5, .inl v5)]) (st' := [.inl (m_rd h (m_rd h (m_rd h u0 5) 0) 3), .inl v5]) (h' := h) (cs := [GK h u0 11, GK h (m_rd h u0 5) 2, GK h (m_rd h (m_rd h u0 5) 0) 8]) (by decide +kernel) rfl hc ?_
    rcases it_of hF with ⟨hb, hF⟩ | ⟨hb, hF⟩
    · refine RN.icf (cd := .ge) (off := 72) (tgt := 143) (by decide +kernel) (mif_gen hb) ?_
      obtain ⟨hc, hF⟩ := gd_of hF
      refine RN.blk (ops := [(74, .aload_n 0), (75, .getfield 72), (78, .getfield 209), (81, .aload_n 0), (82, .getfield 41), (85, .getfield 316)]) (pc' := 88) (lv' := [(0, .inr (.inr u0)), (1, .inl u1), (2, .inl u2), (3, .inl v3), (4, .inl v4), (5, .inl v5)]) (st' := [.inr (.inr (m_rd h (m_rd h u0 5) 1)), .inr (.inr (m_rd h (m_rd h u0 12) 1))]) (h' := h) (cs := [GK h u0 11, GK h (m_rd h u0 12) 7, GK h u0 11, GK h (m_rd h u0 5) 2]) (by decide +kernel) rfl hc ?_
      obtain ⟨hc, hF⟩ := gd_of hF
      obtain ⟨h1, hG, hF⟩ := bv_of hF
      refine RN.cv (i := 212) (k := 101) (q2 := iX10_copyFrom) (as := [.inr (.inr (m_rd h (m_rd h u0 12) 1)), .inr (.inr (m_rd h (m_rd h u0 5) 1))]) (r := []) (v := none) (h1 := h1) (by decide +kernel) rfl rfl rfl rfl rfl (rcv_ok hc.1) (CX10_copyFrom (d := d + 3) hG) ?_
      obtain ⟨hc, hF⟩ := gd_of hF
      refine RN.blk (ops := [(91, .aload_n 0), (92, .getfield 72), (95, .getfield 209), (98, .getfield 162), (101, .iload_n 1), (102, .iload 5), (104, .iastore), (105, .aload_n 0), (106, .getfield 72), (109, .aload_n 0), (110, .getfield 41), (113, .aload_n 0)]) (pc' := 114) (lv' := [(0, .inr (.inr u0)), (1, .inl u1), (2, .inl u2), (3, .inl v3), (4, .inl v4), (5, .inl v5)]) (st' := [.inr (.inr u0), .inr (.inr (m_rd (m_wr h1 (m_rd h1 (m_rd h1 (m_rd h1 u0 12) 1) 2) u1 v5) u0 5)), .inr (.inr (m_rd (m_wr h1 (m_rd h1 (m_rd h1 (m_rd h1 u0 12) 1) 2) u1 v5) u0 12))]) (h' := (m_wr h1 (m_rd h1 (m_rd h1 (m_rd h1 u0 12) 1) 2) u1 v5)) (cs := [GK h1 u0 11, GK h1 (m_rd h1 u0 12) 7, GK h1 (m_rd h1 (m_rd h1 u0 12) 1) 10, GI h1 (m_rd h1 (m_rd h1 (m_rd h1 u0 12) 1) 2) 1 u1, GK h1 u0 11, GK h1 u0 11]) (by decide +kernel) rfl hc ?_
      obtain ⟨hc, hF⟩ := gd_of hF
      obtain ⟨x3, h2, hG, hF⟩ := bd_of hF
      refine RN.cv (i := 198) (k := 151) (q2 := iX11_ruleInForce) (as := [.inr (.inr u0)]) (r := [.inr (.inr (m_rd (m_wr h1 (m_rd h1 (m_rd h1 (m_rd h1 u0 12) 1) 2) u1 v5) u0 5)), .inr (.inr (m_rd (m_wr h1 (m_rd h1 (m_rd h1 (m_rd h1 u0 12) 1) 2) u1 v5) u0 12))]) (v := some (.inr (.inr x3))) (h1 := h2) (by decide +kernel) rfl rfl rfl rfl rfl (rcv_ok hc.1) (CX11_ruleInForce (d := d + 4) hG) ?_
      obtain ⟨hc, hF⟩ := gd_of hF
      obtain ⟨x5, h4, hG, hF⟩ := bd_of hF
      refine RN.cv (i := 323) (k := 75) (q2 := iX7_agrees) (as := [.inr (.inr (m_rd (m_wr h1 (m_rd h1 (m_rd h1 (m_rd h1 u0 12) 1) 2) u1 v5) u0 12)), .inr (.inr (m_rd (m_wr h1 (m_rd h1 (m_rd h1 (m_rd h1 u0 12) 1) 2) u1 v5) u0 5)), .inr (.inr x3)]) (r := []) (v := some (.inl x5)) (h1 := h4) (by decide +kernel) rfl rfl rfl rfl rfl (rcv_ok hc.1) (CX7_agrees (d := d) hG) ?_
      rcases it_of hF with ⟨hb, hF⟩ | ⟨hb, hF⟩
      · refine RN.ift (cd := .eq) (off := 17) (tgt := 137) (by decide +kernel) (mif_eq hb) ?_
        refine RN.blk (ops := [(137, .iinc 5 1)]) (pc' := 140) (lv' := [(5, .inl (m_w32 (v5 + 1))), (0, .inr (.inr u0)), (1, .inl u1), (2, .inl u2), (3, .inl v3), (4, .inl v4)]) (st' := []) (h' := h4) (cs := []) (by decide +kernel) rfl trivial ?_
        refine RN.goto (off := -81) (tgt := 59) (by decide +kernel) ?_
        exact RN.sub (ih _ _ _ _ hF) (sub_cons rfl (sub_cons rfl (sub_cons rfl (sub_cons rfl (sub_cons rfl (sub_cons rfl sub_nil))))))
      · refine RN.iff (cd := .eq) (off := 17) (tgt := 137) (by decide +kernel) (mif_eqn hb) ?_
        refine RN.blk (ops := [(123, .iinc 3 1), (126, .iload 4), (128, .bipush (-2))]) (pc' := 130) (lv' := [(3, .inl (m_w32 (v3 + 1))), (0, .inr (.inr u0)), (1, .inl u1), (2, .inl u2), (4, .inl v4), (5, .inl v5)]) (st' := [.inl (-2), .inl v4]) (h' := h4) (cs := []) (by decide +kernel) rfl trivial ?_
        rcases it_of hF with ⟨hb, hF⟩ | ⟨hb, hF⟩
        · refine RN.icf (cd := .ne) (off := 7) (tgt := 137) (by decide +kernel) (mif_nen hb) ?_
          refine RN.blk (ops := [(133, .iload 5), (135, .istore 4)]) (pc' := 137) (lv' := [(4, .inl v5), (3, .inl (m_w32 (v3 + 1))), (0, .inr (.inr u0)), (1, .inl u1), (2, .inl u2), (5, .inl v5)]) (st' := []) (h' := h4) (cs := []) (by decide +kernel) rfl trivial ?_
          refine RN.blk (ops := [(137, .iinc 5 1)]) (pc' := 140) (lv' := [(5, .inl (m_w32 (v5 + 1))), (4, .inl v5), (3, .inl (m_w32 (v3 + 1))), (0, .inr (.inr u0)), (1, .inl u1), (2, .inl u2)]) (st' := []) (h' := h4) (cs := []) (by decide +kernel) rfl trivial ?_
          refine RN.goto (off := -81) (tgt := 59) (by decide +kernel) ?_
          exact RN.sub (ih _ _ _ _ hF) (sub_cons rfl (sub_cons rfl (sub_cons rfl (sub_cons rfl (sub_cons rfl (sub_cons rfl sub_nil))))))
        · refine RN.ict (cd := .ne) (off := 7) (tgt := 137) (by decide +kernel) (mif_ne hb) ?_
          refine RN.blk (ops := [(137, .iinc 5 1)]) (pc' := 140) (lv' := [(5, .inl (m_w32 (v5 + 1))), (3, .inl (m_w32 (v3 + 1))), (0, .inr (.inr u0)), (1, .inl u1), (2, .inl u2), (4, .inl v4)]) (st' := []) (h' := h4) (cs := []) (by decide +kernel) rfl trivial ?_
          refine RN.goto (off := -81) (tgt := 59) (by decide +kernel) ?_
          exact RN.sub (ih _ _ _ _ hF) (sub_cons rfl (sub_cons rfl (sub_cons rfl (sub_cons rfl (sub_cons rfl (sub_cons rfl sub_nil))))))
    · refine RN.ict (cd := .ge) (off := 72) (tgt := 143) (by decide +kernel) (mif_ge hb) ?_
      exact RN.sub (hK0 _ _ _ hF) (sub_cons rfl (sub_cons rfl (sub_cons rfl sub_nil)))
noncomputable def FX11_said (t : Int) (a1 : Int) (a2 : Int) (h : MH) : Option (Int × MH) :=
  (if a1 < 0 then
   some ((-1), h)
  else
   gd [GK h t 11, GK h (m_rd h t 5) 2, GK h (m_rd h (m_rd h t 5) 1) 10] (
    (if a1 < (m_rd h (m_rd h (m_rd h t 5) 1) 1) then
     (if a2 < 0 then
      some ((-1), h)
     else
      (if 1 < a2 then
       some ((-1), h)
      else
       gd [GK h t 11, GK h t 11, GK h (m_rd h t 5) 2, GK h t 11, GK h (m_rd h t 5) 2] (
        gd [GK h (m_rd h t 12) 7] (bv (FX7_start (m_rd h t 12) (m_rd h (m_rd h t 5) 0) (m_rd h (m_rd h t 5) 1) h) (fun h1 =>
         FX11_said_L59 t a1 a2 (fun w2 w3 h4 =>
          (if a2 = 0 then
           some (w2, h4)
          else
           some (w3, h4))) FU 0 (-2) 0 h1)))))
    else
     some ((-1), h))))
theorem CX11_said {d : Nat} {t : Int} {a1 : Int} {a2 : Int} {h : MH} {r : Int × MH} (hF : FX11_said t a1 a2 h = some r) : RN xs L iX11_said (d + 6) 0 (lvE 0 [.inr (.inr t), .inl a1, .inl a2]) [] h (RIo r) := by
  unfold FX11_said at hF
  refine RN.blk (ops := [(0, .iload_n 1)]) (pc' := 1) (lv' := [(0, .inr (.inr t)), (1, .inl a1), (2, .inl a2)]) (st' := [.inl a1]) (h' := h) (cs := []) (by decide +kernel) rfl trivial ?_
  rcases it_of hF with ⟨hb, hF⟩ | ⟨hb, hF⟩
  · refine RN.ift (cd := .lt) (off := 26) (tgt := 27) (by decide +kernel) (mif_lt hb) ?_
    refine RN.blk (ops := [(27, .iconst (-1))]) (pc' := 28) (lv' := [(0, .inr (.inr t)), (1, .inl a1), (2, .inl a2)]) (st' := [.inl (-1)]) (h' := h) (cs := []) (by decide +kernel) rfl trivial ?_
    exact RN.iR (by decide +kernel) rfl hF
  · refine RN.iff (cd := .lt) (off := 26) (tgt := 27) (by decide +kernel) (mif_ltn hb) ?_
    obtain ⟨hc, hF⟩ := gd_of hF
    refine RN.blk (ops := [(4, .iload_n 1), (5, .aload_n 0), (6, .getfield 41), (9, .getfield 316), (12, .getfield 159)]) (pc' := 15) (lv' := [(0, .inr (.inr t)), (1, .inl a1), (2, .inl a2)]) (st' := [.inl (m_rd h (m_rd h (m_rd h t 5) 1) 1), .inl a1]) (h' := h) (cs := [GK h t 11, GK h (m_rd h t 5) 2, GK h (m_rd h (m_rd h t 5) 1) 10]) (by decide +kernel) rfl hc ?_
    rcases it_of hF with ⟨hb, hF⟩ | ⟨hb, hF⟩
    · refine RN.icf (cd := .ge) (off := 12) (tgt := 27) (by decide +kernel) (mif_gen hb) ?_
      refine RN.blk (ops := [(18, .iload_n 2)]) (pc' := 19) (lv' := [(0, .inr (.inr t)), (1, .inl a1), (2, .inl a2)]) (st' := [.inl a2]) (h' := h) (cs := []) (by decide +kernel) rfl trivial ?_
      rcases it_of hF with ⟨hb, hF⟩ | ⟨hb, hF⟩
      · refine RN.ift (cd := .lt) (off := 8) (tgt := 27) (by decide +kernel) (mif_lt hb) ?_
        refine RN.blk (ops := [(27, .iconst (-1))]) (pc' := 28) (lv' := [(0, .inr (.inr t)), (1, .inl a1), (2, .inl a2)]) (st' := [.inl (-1)]) (h' := h) (cs := []) (by decide +kernel) rfl trivial ?_
        exact RN.iR (by decide +kernel) rfl hF
      · refine RN.iff (cd := .lt) (off := 8) (tgt := 27) (by decide +kernel) (mif_ltn hb) ?_
        refine RN.blk (ops := [(22, .iload_n 2), (23, .iconst 1)]) (pc' := 24) (lv' := [(0, .inr (.inr t)), (1, .inl a1), (2, .inl a2)]) (st' := [.inl 1, .inl a2]) (h' := h) (cs := []) (by decide +kernel) rfl trivial ?_
        rcases it_of hF with ⟨hb, hF⟩ | ⟨hb, hF⟩
        · refine RN.icf (cd := .le) (off := 5) (tgt := 29) (by decide +kernel) (mif_len hb) ?_
          refine RN.blk (ops := [(27, .iconst (-1))]) (pc' := 28) (lv' := [(0, .inr (.inr t)), (1, .inl a1), (2, .inl a2)]) (st' := [.inl (-1)]) (h' := h) (cs := []) (by decide +kernel) rfl trivial ?_
          exact RN.iR (by decide +kernel) rfl hF
        · refine RN.ict (cd := .le) (off := 5) (tgt := 29) (by decide +kernel) (mif_le hb) ?_
          obtain ⟨hc, hF⟩ := gd_of hF
          refine RN.blk (ops := [(29, .aload_n 0), (30, .getfield 72), (33, .aload_n 0), (34, .getfield 41), (37, .getfield 130), (40, .aload_n 0), (41, .getfield 41), (44, .getfield 316)]) (pc' := 47) (lv' := [(0, .inr (.inr t)), (1, .inl a1), (2, .inl a2)]) (st' := [.inr (.inr (m_rd h (m_rd h t 5) 1)), .inr (.inr (m_rd h (m_rd h t 5) 0)), .inr (.inr (m_rd h t 12))]) (h' := h) (cs := [GK h t 11, GK h t 11, GK h (m_rd h t 5) 2, GK h t 11, GK h (m_rd h t 5) 2]) (by decide +kernel) rfl hc ?_
          obtain ⟨hc, hF⟩ := gd_of hF
          obtain ⟨h1, hG, hF⟩ := bv_of hF
          refine RN.cv (i := 317) (k := 67) (q2 := iX7_start) (as := [.inr (.inr (m_rd h t 12)), .inr (.inr (m_rd h (m_rd h t 5) 0)), .inr (.inr (m_rd h (m_rd h t 5) 1))]) (r := []) (v := none) (h1 := h1) (by decide +kernel) rfl rfl rfl rfl rfl (rcv_ok hc.1) (CX7_start (d := d + 2) hG) ?_
          refine RN.blk (ops := [(50, .iconst 0), (51, .istore_n 3), (52, .bipush (-2)), (54, .istore 4), (56, .iconst 0), (57, .istore 5)]) (pc' := 59) (lv' := [(5, .inl 0), (4, .inl (-2)), (3, .inl 0), (0, .inr (.inr t)), (1, .inl a1), (2, .inl a2)]) (st' := []) (h' := h1) (cs := []) (by decide +kernel) rfl trivial ?_
          refine RN.sub (CX11_said_L59 ?_ _ _ _ _ _ hF) (sub_cons rfl (sub_cons rfl (sub_cons rfl (sub_cons rfl (sub_cons rfl (sub_cons rfl sub_nil))))))
          · intro w2 w3 h4 hF
            refine RN.blk (ops := [(143, .iload_n 2)]) (pc' := 144) (lv' := [(2, .inl a2), (3, .inl w2), (4, .inl w3)]) (st' := [.inl a2]) (h' := h4) (cs := []) (by decide +kernel) rfl trivial ?_
            rcases it_of hF with ⟨hb, hF⟩ | ⟨hb, hF⟩
            · refine RN.iff (cd := .ne) (off := 7) (tgt := 151) (by decide +kernel) (mif_nen hb) ?_
              refine RN.blk (ops := [(147, .iload_n 3)]) (pc' := 148) (lv' := [(2, .inl a2), (3, .inl w2), (4, .inl w3)]) (st' := [.inl w2]) (h' := h4) (cs := []) (by decide +kernel) rfl trivial ?_
              refine RN.goto (off := 5) (tgt := 153) (by decide +kernel) ?_
              exact RN.iR (by decide +kernel) rfl hF
            · refine RN.ift (cd := .ne) (off := 7) (tgt := 151) (by decide +kernel) (mif_ne hb) ?_
              refine RN.blk (ops := [(151, .iload 4)]) (pc' := 153) (lv' := [(2, .inl a2), (3, .inl w2), (4, .inl w3)]) (st' := [.inl w3]) (h' := h4) (cs := []) (by decide +kernel) rfl trivial ?_
              exact RN.iR (by decide +kernel) rfl hF
    · refine RN.ict (cd := .ge) (off := 12) (tgt := 27) (by decide +kernel) (mif_ge hb) ?_
      refine RN.blk (ops := [(27, .iconst (-1))]) (pc' := 28) (lv' := [(0, .inr (.inr t)), (1, .inl a1), (2, .inl a2)]) (st' := [.inl (-1)]) (h' := h) (cs := []) (by decide +kernel) rfl trivial ?_
      exact RN.iR (by decide +kernel) rfl hF
end Dc
