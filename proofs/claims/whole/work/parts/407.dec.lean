/-! METHODS AS FUNCTIONS, and their certificates (by program): X11_feed, X11_end, X11_frame, X11_rule, X11_force, X11_hole, X11_entry, X11_waits, X11_count, X11_hasFrame, X11_remember, X11_ruleAt, X11_ruleInForce, X11_startFromNow, X11_turn, X11_post, X11_tie, X11_enter, X11_strike, X11_undo, X11_drawNow, X11_where -/
section Dc
variable {xs : Int → Int} {L : Int}
noncomputable def FX11_feed (t : Int) (a1 : Int) (a2 : Int) (a3 : Int) (a4 : Int) (a5 : Int) (h : MH) : Option (Int × MH) :=
  gd [GK h t 11, GK h (m_rd h t 0) 9] (
   (if 400 < (m_w32 ((m_rd h (m_rd h t 0) 1) + 20)) then
    some ((-1), h)
   else
    gd [GK h t 11] (
     gd [GK h (m_rd h t 0) 9] (bv (FX9_add (m_rd h t 0) a1 h) (fun h1 =>
      gd [GK h1 t 11] (
       gd [GK h1 (m_rd h1 t 0) 9] (bv (FX9_add (m_rd h1 t 0) a2 h1) (fun h2 =>
        gd [GK h2 t 11] (
         gd [GK h2 (m_rd h2 t 0) 9] (bv (FX9_add (m_rd h2 t 0) a3 h2) (fun h3 =>
          gd [GK h3 t 11] (
           gd [GK h3 (m_rd h3 t 0) 9] (bv (FX9_add (m_rd h3 t 0) a4 h3) (fun h4 =>
            gd [GK h4 t 11] (
             gd [GK h4 (m_rd h4 t 0) 9] (bv (FX9_add (m_rd h4 t 0) a5 h4) (fun h5 =>
              gd [GK h5 t 11, GK h5 (m_rd h5 t 0) 9] (
               some ((m_rd h5 (m_rd h5 t 0) 1), h5)))))))))))))))))))
theorem CX11_feed {d : Nat} {t : Int} {a1 : Int} {a2 : Int} {a3 : Int} {a4 : Int} {a5 : Int} {h : MH} {r : Int × MH} (hF : FX11_feed t a1 a2 a3 a4 a5 h = some r) : RN xs L iX11_feed (d + 1) 0 (lvE 0 [.inr (.inr t), .inl a1, .inl a2, .inl a3, .inl a4, .inl a5]) [] h (RIo r) := by
  unfold FX11_feed at hF
  obtain ⟨hc, hF⟩ := gd_of hF
  refine RN.blk (ops := [(0, .aload_n 0), (1, .getfield 10), (4, .getfield 83), (7, .bipush 20), (9, .iadd), (10, .sipush 400)]) (pc' := 13) (lv' := [(0, .inr (.inr t)), (1, .inl a1), (2, .inl a2), (3, .inl a3), (4, .inl a4), (5, .inl a5)]) (st' := [.inl 400, .inl (m_w32 ((m_rd h (m_rd h t 0) 1) + 20))]) (h' := h) (cs := [GK h t 11, GK h (m_rd h t 0) 9]) (by decide +kernel) rfl hc ?_
  rcases it_of hF with ⟨hb, hF⟩ | ⟨hb, hF⟩
  · refine RN.icf (cd := .le) (off := 5) (tgt := 18) (by decide +kernel) (mif_len hb) ?_
    refine RN.blk (ops := [(16, .iconst (-1))]) (pc' := 17) (lv' := [(0, .inr (.inr t)), (1, .inl a1), (2, .inl a2), (3, .inl a3), (4, .inl a4), (5, .inl a5)]) (st' := [.inl (-1)]) (h' := h) (cs := []) (by decide +kernel) rfl trivial ?_
    exact RN.iR (by decide +kernel) rfl hF
  · refine RN.ict (cd := .le) (off := 5) (tgt := 18) (by decide +kernel) (mif_le hb) ?_
    obtain ⟨hc, hF⟩ := gd_of hF
    refine RN.blk (ops := [(18, .aload_n 0), (19, .getfield 10), (22, .iload_n 1)]) (pc' := 23) (lv' := [(0, .inr (.inr t)), (1, .inl a1), (2, .inl a2), (3, .inl a3), (4, .inl a4), (5, .inl a5)]) (st' := [.inl a1, .inr (.inr (m_rd h t 0))]) (h' := h) (cs := [GK h t 11]) (by decide +kernel) rfl hc ?_
    obtain ⟨hc, hF⟩ := gd_of hF
    obtain ⟨h1, hG, hF⟩ := bv_of hF
    refine RN.cv (i := 87) (k := 89) (q2 := iX9_add) (as := [.inr (.inr (m_rd h t 0)), .inl a1]) (r := []) (v := none) (h1 := h1) (by decide +kernel) rfl rfl rfl rfl rfl (rcv_ok hc.1) (CX9_add (d := d) hG) ?_
    obtain ⟨hc, hF⟩ := gd_of hF
    refine RN.blk (ops := [(26, .aload_n 0), (27, .getfield 10), (30, .iload_n 2)]) (pc' := 31) (lv' := [(0, .inr (.inr t)), (1, .inl a1), (2, .inl a2), (3, .inl a3), (4, .inl a4), (5, .inl a5)]) (st' := [.inl a2, .inr (.inr (m_rd h1 t 0))]) (h' := h1) (cs := [GK h1 t 11]) (by decide +kernel) rfl hc ?_
    obtain ⟨hc, hF⟩ := gd_of hF
    obtain ⟨h2, hG, hF⟩ := bv_of hF
    refine RN.cv (i := 87) (k := 89) (q2 := iX9_add) (as := [.inr (.inr (m_rd h1 t 0)), .inl a2]) (r := []) (v := none) (h1 := h2) (by decide +kernel) rfl rfl rfl rfl rfl (rcv_ok hc.1) (CX9_add (d := d) hG) ?_
    obtain ⟨hc, hF⟩ := gd_of hF
    refine RN.blk (ops := [(34, .aload_n 0), (35, .getfield 10), (38, .iload_n 3)]) (pc' := 39) (lv' := [(0, .inr (.inr t)), (1, .inl a1), (2, .inl a2), (3, .inl a3), (4, .inl a4), (5, .inl a5)]) (st' := [.inl a3, .inr (.inr (m_rd h2 t 0))]) (h' := h2) (cs := [GK h2 t 11]) (by decide +kernel) rfl hc ?_
    obtain ⟨hc, hF⟩ := gd_of hF
    obtain ⟨h3, hG, hF⟩ := bv_of hF
    refine RN.cv (i := 87) (k := 89) (q2 := iX9_add) (as := [.inr (.inr (m_rd h2 t 0)), .inl a3]) (r := []) (v := none) (h1 := h3) (by decide +kernel) rfl rfl rfl rfl rfl (rcv_ok hc.1) (CX9_add (d := d) hG) ?_
    obtain ⟨hc, hF⟩ := gd_of hF
    refine RN.blk (ops := [(42, .aload_n 0), (43, .getfield 10), (46, .iload 4)]) (pc' := 48) (lv' := [(0, .inr (.inr t)), (1, .inl a1), (2, .inl a2), (3, .inl a3), (4, .inl a4), (5, .inl a5)]) (st' := [.inl a4, .inr (.inr (m_rd h3 t 0))]) (h' := h3) (cs := [GK h3 t 11]) (by decide +kernel) rfl hc ?_
    obtain ⟨hc, hF⟩ := gd_of hF
    obtain ⟨h4, hG, hF⟩ := bv_of hF
    refine RN.cv (i := 87) (k := 89) (q2 := iX9_add) (as := [.inr (.inr (m_rd h3 t 0)), .inl a4]) (r := []) (v := none) (h1 := h4) (by decide +kernel) rfl rfl rfl rfl rfl (rcv_ok hc.1) (CX9_add (d := d) hG) ?_
    obtain ⟨hc, hF⟩ := gd_of hF
    refine RN.blk (ops := [(51, .aload_n 0), (52, .getfield 10), (55, .iload 5)]) (pc' := 57) (lv' := [(0, .inr (.inr t)), (1, .inl a1), (2, .inl a2), (3, .inl a3), (4, .inl a4), (5, .inl a5)]) (st' := [.inl a5, .inr (.inr (m_rd h4 t 0))]) (h' := h4) (cs := [GK h4 t 11]) (by decide +kernel) rfl hc ?_
    obtain ⟨hc, hF⟩ := gd_of hF
    obtain ⟨h5, hG, hF⟩ := bv_of hF
    refine RN.cv (i := 87) (k := 89) (q2 := iX9_add) (as := [.inr (.inr (m_rd h4 t 0)), .inl a5]) (r := []) (v := none) (h1 := h5) (by decide +kernel) rfl rfl rfl rfl rfl (rcv_ok hc.1) (CX9_add (d := d) hG) ?_
    obtain ⟨hc, hF⟩ := gd_of hF
    refine RN.blk (ops := [(60, .aload_n 0), (61, .getfield 10), (64, .getfield 83)]) (pc' := 67) (lv' := [(0, .inr (.inr t)), (1, .inl a1), (2, .inl a2), (3, .inl a3), (4, .inl a4), (5, .inl a5)]) (st' := [.inl (m_rd h5 (m_rd h5 t 0) 1)]) (h' := h5) (cs := [GK h5 t 11, GK h5 (m_rd h5 t 0) 9]) (by decide +kernel) rfl hc ?_
    exact RN.iR (by decide +kernel) rfl hF
noncomputable def FX11_end (t : Int) (a1 : Int) (h : MH) : Option (Int × MH) :=
  (if a1 < 0 then
   some ((-1), h)
  else
   gd [GK h t 11, GK h (m_rd h t 0) 9] (
    (if (m_rd h (m_rd h t 0) 1) < a1 then
     some ((-1), h)
    else
     gd [GK h t 11, GK h (m_rd h t 0) 9] (
      some (a1, (m_wr h (m_rd h t 0) 1 a1))))))
theorem CX11_end {d : Nat} {t : Int} {a1 : Int} {h : MH} {r : Int × MH} (hF : FX11_end t a1 h = some r) : RN xs L iX11_end (d) 0 (lvE 0 [.inr (.inr t), .inl a1]) [] h (RIo r) := by
  unfold FX11_end at hF
  refine RN.blk (ops := [(0, .iload_n 1)]) (pc' := 1) (lv' := [(0, .inr (.inr t)), (1, .inl a1)]) (st' := [.inl a1]) (h' := h) (cs := []) (by decide +kernel) rfl trivial ?_
  rcases it_of hF with ⟨hb, hF⟩ | ⟨hb, hF⟩
  · refine RN.ift (cd := .lt) (off := 14) (tgt := 15) (by decide +kernel) (mif_lt hb) ?_
    refine RN.blk (ops := [(15, .iconst (-1))]) (pc' := 16) (lv' := [(0, .inr (.inr t)), (1, .inl a1)]) (st' := [.inl (-1)]) (h' := h) (cs := []) (by decide +kernel) rfl trivial ?_
    exact RN.iR (by decide +kernel) rfl hF
  · refine RN.iff (cd := .lt) (off := 14) (tgt := 15) (by decide +kernel) (mif_ltn hb) ?_
    obtain ⟨hc, hF⟩ := gd_of hF
    refine RN.blk (ops := [(4, .iload_n 1), (5, .aload_n 0), (6, .getfield 10), (9, .getfield 83)]) (pc' := 12) (lv' := [(0, .inr (.inr t)), (1, .inl a1)]) (st' := [.inl (m_rd h (m_rd h t 0) 1), .inl a1]) (h' := h) (cs := [GK h t 11, GK h (m_rd h t 0) 9]) (by decide +kernel) rfl hc ?_
    rcases it_of hF with ⟨hb, hF⟩ | ⟨hb, hF⟩
    · refine RN.icf (cd := .le) (off := 5) (tgt := 17) (by decide +kernel) (mif_len hb) ?_
      refine RN.blk (ops := [(15, .iconst (-1))]) (pc' := 16) (lv' := [(0, .inr (.inr t)), (1, .inl a1)]) (st' := [.inl (-1)]) (h' := h) (cs := []) (by decide +kernel) rfl trivial ?_
      exact RN.iR (by decide +kernel) rfl hF
    · refine RN.ict (cd := .le) (off := 5) (tgt := 17) (by decide +kernel) (mif_le hb) ?_
      obtain ⟨hc, hF⟩ := gd_of hF
      refine RN.blk (ops := [(17, .aload_n 0), (18, .getfield 10), (21, .iload_n 1), (22, .putfield 83), (25, .iload_n 1)]) (pc' := 26) (lv' := [(0, .inr (.inr t)), (1, .inl a1)]) (st' := [.inl a1]) (h' := (m_wr h (m_rd h t 0) 1 a1)) (cs := [GK h t 11, GK h (m_rd h t 0) 9]) (by decide +kernel) rfl hc ?_
      exact RN.iR (by decide +kernel) rfl hF
noncomputable def FX11_frame (t : Int) (h : MH) : Option (Int × MH) :=
  gd [GK h t 11] (
   gd [GK h (m_rd h t 1) 3] (bd (FX3_parse (m_rd h t 1) h) (fun x2 h1 =>
    gd [GK h1 t 11, GK h1 (m_rd h1 t 0) 9] (
     (if x2 = 0 then
      gd [GK h1 t 11, GK h1 t 11, GK h1 (m_rd (m_wr h1 (m_rd h1 t 0) 1 0) t 1) 3, GK h1 t 11, GK h1 (m_rd (m_wr h1 (m_rd h1 t 0) 1 0) t 1) 3] (
       gd [GK h1 (m_rd (m_wr h1 (m_rd h1 t 0) 1 0) t 5) 2] (bv (FX2_take (m_rd (m_wr h1 (m_rd h1 t 0) 1 0) t 5) (m_rd (m_wr h1 (m_rd h1 t 0) 1 0) (m_rd (m_wr h1 (m_rd h1 t 0) 1 0) t 1) 1) (m_rd (m_wr h1 (m_rd h1 t 0) 1 0) (m_rd (m_wr h1 (m_rd h1 t 0) 1 0) t 1) 2) (m_wr h1 (m_rd h1 t 0) 1 0)) (fun h3 =>
        gd [GK h3 t 11, GK h3 t 11, GK h3 (m_rd (m_wr h3 t 10 0) t 5) 2, GK h3 (m_rd (m_wr h3 t 10 0) (m_rd (m_wr h3 t 10 0) t 5) 2) 10, GK h3 (m_rd (m_wr h3 t 10 0) (m_rd (m_wr h3 t 10 0) (m_rd (m_wr h3 t 10 0) t 5) 2) 0) 4] (
         some ((m_rd (m_wr h3 t 10 0) (m_rd (m_wr h3 t 10 0) (m_rd (m_wr h3 t 10 0) (m_rd (m_wr h3 t 10 0) t 5) 2) 0) 0), (m_wr h3 t 10 0))))))
     else
      some ((m_w32 ((-2) - x2)), (m_wr h1 (m_rd h1 t 0) 1 0)))))))
theorem CX11_frame {d : Nat} {t : Int} {h : MH} {r : Int × MH} (hF : FX11_frame t h = some r) : RN xs L iX11_frame (d + 10) 0 (lvE 0 [.inr (.inr t)]) [] h (RIo r) := by
  unfold FX11_frame at hF
  obtain ⟨hc, hF⟩ := gd_of hF
  refine RN.blk (ops := [(0, .aload_n 0), (1, .getfield 21)]) (pc' := 4) (lv' := [(0, .inr (.inr t))]) (st' := [.inr (.inr (m_rd h t 1))]) (h' := h) (cs := [GK h t 11]) (by decide +kernel) rfl hc ?_
  obtain ⟨hc, hF⟩ := gd_of hF
  obtain ⟨x2, h1, hG, hF⟩ := bd_of hF
  refine RN.cv (i := 91) (k := 36) (q2 := iX3_parse) (as := [.inr (.inr (m_rd h t 1))]) (r := []) (v := some (.inl x2)) (h1 := h1) (by decide +kernel) rfl rfl rfl rfl rfl (rcv_ok hc.1) (CX3_parse (d := d) hG) ?_
  obtain ⟨hc, hF⟩ := gd_of hF
  refine RN.blk (ops := [(7, .istore_n 1), (8, .aload_n 0), (9, .getfield 10), (12, .iconst 0), (13, .putfield 83), (16, .iload_n 1)]) (pc' := 17) (lv' := [(1, .inl x2), (0, .inr (.inr t))]) (st' := [.inl x2]) (h' := (m_wr h1 (m_rd h1 t 0) 1 0)) (cs := [GK h1 t 11, GK h1 (m_rd h1 t 0) 9]) (by decide +kernel) rfl hc ?_
  rcases it_of hF with ⟨hb, hF⟩ | ⟨hb, hF⟩
  · refine RN.ift (cd := .eq) (off := 8) (tgt := 25) (by decide +kernel) (mif_eq hb) ?_
    obtain ⟨hc, hF⟩ := gd_of hF
    refine RN.blk (ops := [(25, .aload_n 0), (26, .getfield 41), (29, .aload_n 0), (30, .getfield 21), (33, .getfield 95), (36, .aload_n 0), (37, .getfield 21), (40, .getfield 99)]) (pc' := 43) (lv' := [(1, .inl x2), (0, .inr (.inr t))]) (st' := [.inr (.inr (m_rd (m_wr h1 (m_rd h1 t 0) 1 0) (m_rd (m_wr h1 (m_rd h1 t 0) 1 0) t 1) 2)), .inr (.inr (m_rd (m_wr h1 (m_rd h1 t 0) 1 0) (m_rd (m_wr h1 (m_rd h1 t 0) 1 0) t 1) 1)), .inr (.inr (m_rd (m_wr h1 (m_rd h1 t 0) 1 0) t 5))]) (h' := (m_wr h1 (m_rd h1 t 0) 1 0)) (cs := [GK h1 t 11, GK h1 t 11, GK h1 (m_rd (m_wr h1 (m_rd h1 t 0) 1 0) t 1) 3, GK h1 t 11, GK h1 (m_rd (m_wr h1 (m_rd h1 t 0) 1 0) t 1) 3]) (by decide +kernel) rfl hc ?_
    obtain ⟨hc, hF⟩ := gd_of hF
    obtain ⟨h3, hG, hF⟩ := bv_of hF
    refine RN.cv (i := 103) (k := 30) (q2 := iX2_take) (as := [.inr (.inr (m_rd (m_wr h1 (m_rd h1 t 0) 1 0) t 5)), .inr (.inr (m_rd (m_wr h1 (m_rd h1 t 0) 1 0) (m_rd (m_wr h1 (m_rd h1 t 0) 1 0) t 1) 1)), .inr (.inr (m_rd (m_wr h1 (m_rd h1 t 0) 1 0) (m_rd (m_wr h1 (m_rd h1 t 0) 1 0) t 1) 2))]) (r := []) (v := none) (h1 := h3) (by decide +kernel) rfl rfl rfl rfl rfl (rcv_ok hc.1) (CX2_take (d := d + 6) hG) ?_
    obtain ⟨hc, hF⟩ := gd_of hF
    refine RN.blk (ops := [(46, .aload_n 0), (47, .iconst 0), (48, .putfield 107), (51, .aload_n 0), (52, .getfield 41), (55, .getfield 110), (58, .getfield 113), (61, .getfield 117)]) (pc' := 64) (lv' := [(1, .inl x2), (0, .inr (.inr t))]) (st' := [.inl (m_rd (m_wr h3 t 10 0) (m_rd (m_wr h3 t 10 0) (m_rd (m_wr h3 t 10 0) (m_rd (m_wr h3 t 10 0) t 5) 2) 0) 0)]) (h' := (m_wr h3 t 10 0)) (cs := [GK h3 t 11, GK h3 t 11, GK h3 (m_rd (m_wr h3 t 10 0) t 5) 2, GK h3 (m_rd (m_wr h3 t 10 0) (m_rd (m_wr h3 t 10 0) t 5) 2) 10, GK h3 (m_rd (m_wr h3 t 10 0) (m_rd (m_wr h3 t 10 0) (m_rd (m_wr h3 t 10 0) t 5) 2) 0) 4]) (by decide +kernel) rfl hc ?_
    exact RN.iR (by decide +kernel) rfl hF
  · refine RN.iff (cd := .eq) (off := 8) (tgt := 25) (by decide +kernel) (mif_eqn hb) ?_
    refine RN.blk (ops := [(20, .bipush (-2)), (22, .iload_n 1), (23, .isub)]) (pc' := 24) (lv' := [(1, .inl x2), (0, .inr (.inr t))]) (st' := [.inl (m_w32 ((-2) - x2))]) (h' := (m_wr h1 (m_rd h1 t 0) 1 0)) (cs := []) (by decide +kernel) rfl trivial ?_
    exact RN.iR (by decide +kernel) rfl hF
noncomputable def FX11_rule (t : Int) (h : MH) : Option (Int × MH) :=
  gd [GK h t 11] (
   (if (m_rd h t 4) < 6 then
    gd [GK h t 11] (
     gd [GK h (m_rd h t 2) 6] (bd (FX6_parse (m_rd h t 2) h) (fun x2 h1 =>
      gd [GK h1 t 11, GK h1 (m_rd h1 t 0) 9] (
       (if x2 = 0 then
        gd [GK h1 t 11, GK h1 t 11] (
         hl (m_al (m_wr h1 (m_rd h1 t 0) 1 0) 105 0 4 (fun j => bif Nat.beq ((m_ft 5).getD j.toNat 0) 2 then -1 else 0)) (fun h3 =>
          gd [GK h3 t 11] (
           gd [GK h3 ((m_wr h1 (m_rd h1 t 0) 1 0).1.1 : Int) 5] (bv (FX5_init ((m_wr h1 (m_rd h1 t 0) 1 0).1.1 : Int) (m_rd h3 t 2) h3) (fun h4 =>
            gd [GS h4 (m_rd (m_wr h1 (m_rd h1 t 0) 1 0) t 3) (m_rd (m_wr h1 (m_rd h1 t 0) 1 0) t 4) ((m_wr h1 (m_rd h1 t 0) 1 0).1.1 : Int)] (
             hl (m_wr h4 (m_rd (m_wr h1 (m_rd h1 t 0) 1 0) t 3) (m_rd (m_wr h1 (m_rd h1 t 0) 1 0) t 4) ((m_wr h1 (m_rd h1 t 0) 1 0).1.1 : Int)) (fun h5 =>
              gd [GK h5 t 11, GK h5 t 11, GK h5 t 11] (
               some ((m_w32 ((m_rd (m_wr h5 t 4 (m_w32 ((m_rd h5 t 4) + 1))) t 4) - 1)), (m_wr h5 t 4 (m_w32 ((m_rd h5 t 4) + 1))))))))))))
       else
        some ((m_w32 ((-2) - x2)), (m_wr h1 (m_rd h1 t 0) 1 0)))))))
   else
    some ((-1), h)))
theorem CX11_rule {d : Nat} {t : Int} {h : MH} {r : Int × MH} (hF : FX11_rule t h = some r) : RN xs L iX11_rule (d + 50) 0 (lvE 0 [.inr (.inr t)]) [] h (RIo r) := by
  unfold FX11_rule at hF
  obtain ⟨hc, hF⟩ := gd_of hF
  refine RN.blk (ops := [(0, .aload_n 0), (1, .getfield 120), (4, .bipush 6)]) (pc' := 6) (lv' := [(0, .inr (.inr t))]) (st' := [.inl 6, .inl (m_rd h t 4)]) (h' := h) (cs := [GK h t 11]) (by decide +kernel) rfl hc ?_
  rcases it_of hF with ⟨hb, hF⟩ | ⟨hb, hF⟩
  · refine RN.ict (cd := .lt) (off := 5) (tgt := 11) (by decide +kernel) (mif_lt hb) ?_
    obtain ⟨hc, hF⟩ := gd_of hF
    refine RN.blk (ops := [(11, .aload_n 0), (12, .getfield 28)]) (pc' := 15) (lv' := [(0, .inr (.inr t))]) (st' := [.inr (.inr (m_rd h t 2))]) (h' := h) (cs := [GK h t 11]) (by decide +kernel) rfl hc ?_
    obtain ⟨hc, hF⟩ := gd_of hF
    obtain ⟨x2, h1, hG, hF⟩ := bd_of hF
    refine RN.cv (i := 123) (k := 56) (q2 := iX6_parse) (as := [.inr (.inr (m_rd h t 2))]) (r := []) (v := some (.inl x2)) (h1 := h1) (by decide +kernel) rfl rfl rfl rfl rfl (rcv_ok hc.1) (CX6_parse (d := d) hG) ?_
    obtain ⟨hc, hF⟩ := gd_of hF
    refine RN.blk (ops := [(18, .istore_n 1), (19, .aload_n 0), (20, .getfield 10), (23, .iconst 0), (24, .putfield 83), (27, .iload_n 1)]) (pc' := 28) (lv' := [(1, .inl x2), (0, .inr (.inr t))]) (st' := [.inl x2]) (h' := (m_wr h1 (m_rd h1 t 0) 1 0)) (cs := [GK h1 t 11, GK h1 (m_rd h1 t 0) 9]) (by decide +kernel) rfl hc ?_
    rcases it_of hF with ⟨hb, hF⟩ | ⟨hb, hF⟩
    · refine RN.ift (cd := .eq) (off := 8) (tgt := 36) (by decide +kernel) (mif_eq hb) ?_
      obtain ⟨hc, hF⟩ := gd_of hF
      refine RN.blk (ops := [(36, .aload_n 0), (37, .getfield 34), (40, .aload_n 0), (41, .getfield 120), (44, .new 32)]) (pc' := 47) (lv' := [(1, .inl x2), (0, .inr (.inr t))]) (st' := [.inr (.inr ((m_wr h1 (m_rd h1 t 0) 1 0).1.1 : Int)), .inl (m_rd (m_wr h1 (m_rd h1 t 0) 1 0) t 4), .inr (.inr (m_rd (m_wr h1 (m_rd h1 t 0) 1 0) t 3))]) (h' := (m_al (m_wr h1 (m_rd h1 t 0) 1 0) 105 0 4 (fun j => bif Nat.beq ((m_ft 5).getD j.toNat 0) 2 then -1 else 0))) (cs := [GK h1 t 11, GK h1 t 11]) (by decide +kernel) rfl hc ?_
      obtain ⟨h3, he, hF⟩ := hl_of hF
      refine RN.hl he ?_
      obtain ⟨hc, hF⟩ := gd_of hF
      refine RN.blk (ops := [(47, .dup), (48, .aload_n 0), (49, .getfield 28)]) (pc' := 52) (lv' := [(1, .inl x2), (0, .inr (.inr t))]) (st' := [.inr (.inr (m_rd h3 t 2)), .inr (.inr ((m_wr h1 (m_rd h1 t 0) 1 0).1.1 : Int)), .inr (.inr ((m_wr h1 (m_rd h1 t 0) 1 0).1.1 : Int)), .inl (m_rd (m_wr h1 (m_rd h1 t 0) 1 0) t 4), .inr (.inr (m_rd (m_wr h1 (m_rd h1 t 0) 1 0) t 3))]) (h' := h3) (cs := [GK h3 t 11]) (by decide +kernel) rfl hc ?_
      obtain ⟨hc, hF⟩ := gd_of hF
      obtain ⟨h4, hG, hF⟩ := bv_of hF
      refine RN.ci (i := 124) (k := 51) (q2 := iX5_init) (as := [.inr (.inr ((m_wr h1 (m_rd h1 t 0) 1 0).1.1 : Int)), .inr (.inr (m_rd h3 t 2))]) (r := [.inr (.inr ((m_wr h1 (m_rd h1 t 0) 1 0).1.1 : Int)), .inl (m_rd (m_wr h1 (m_rd h1 t 0) 1 0) t 4), .inr (.inr (m_rd (m_wr h1 (m_rd h1 t 0) 1 0) t 3))]) (v := none) (h1 := h4) (by decide +kernel) rfl rfl rfl rfl rfl (rcv_ok hc.1) (CX5_init (d := d + 48) hG) ?_
      obtain ⟨hc, hF⟩ := gd_of hF
      refine RN.blk (ops := [(55, .aastore)]) (pc' := 56) (lv' := [(1, .inl x2), (0, .inr (.inr t))]) (st' := []) (h' := (m_wr h4 (m_rd (m_wr h1 (m_rd h1 t 0) 1 0) t 3) (m_rd (m_wr h1 (m_rd h1 t 0) 1 0) t 4) ((m_wr h1 (m_rd h1 t 0) 1 0).1.1 : Int))) (cs := [GS h4 (m_rd (m_wr h1 (m_rd h1 t 0) 1 0) t 3) (m_rd (m_wr h1 (m_rd h1 t 0) 1 0) t 4) ((m_wr h1 (m_rd h1 t 0) 1 0).1.1 : Int)]) (by decide +kernel) rfl hc ?_
      obtain ⟨h5, he, hF⟩ := hl_of hF
      refine RN.hl he ?_
      obtain ⟨hc, hF⟩ := gd_of hF
      refine RN.blk (ops := [(56, .aload_n 0), (57, .dup), (58, .getfield 120), (61, .iconst 1), (62, .iadd), (63, .putfield 120), (66, .aload_n 0), (67, .getfield 120), (70, .iconst 1), (71, .isub)]) (pc' := 72) (lv' := [(1, .inl x2), (0, .inr (.inr t))]) (st' := [.inl (m_w32 ((m_rd (m_wr h5 t 4 (m_w32 ((m_rd h5 t 4) + 1))) t 4) - 1))]) (h' := (m_wr h5 t 4 (m_w32 ((m_rd h5 t 4) + 1)))) (cs := [GK h5 t 11, GK h5 t 11, GK h5 t 11]) (by decide +kernel) rfl hc ?_
      exact RN.iR (by decide +kernel) rfl hF
    · refine RN.iff (cd := .eq) (off := 8) (tgt := 36) (by decide +kernel) (mif_eqn hb) ?_
      refine RN.blk (ops := [(31, .bipush (-2)), (33, .iload_n 1), (34, .isub)]) (pc' := 35) (lv' := [(1, .inl x2), (0, .inr (.inr t))]) (st' := [.inl (m_w32 ((-2) - x2))]) (h' := (m_wr h1 (m_rd h1 t 0) 1 0)) (cs := []) (by decide +kernel) rfl trivial ?_
      exact RN.iR (by decide +kernel) rfl hF
  · refine RN.icf (cd := .lt) (off := 5) (tgt := 11) (by decide +kernel) (mif_ltn hb) ?_
    refine RN.blk (ops := [(9, .iconst (-1))]) (pc' := 10) (lv' := [(0, .inr (.inr t))]) (st' := [.inl (-1)]) (h' := h) (cs := []) (by decide +kernel) rfl trivial ?_
    exact RN.iR (by decide +kernel) rfl hF
noncomputable def FX11_force (t : Int) (a1 : Int) (h : MH) : Option (Int × MH) :=
  (if a1 < (-1) then
   some ((-2), h)
  else
   gd [GK h t 11] (
    (if a1 < (m_rd h t 4) then
     gd [GK h t 11, GK h (m_rd h t 5) 2, GK h t 11, GK h (m_rd h t 5) 2] (
      some ((m_rd h (m_rd h t 5) 3), (m_wr h (m_rd h t 5) 3 a1)))
    else
     some ((-2), h))))
theorem CX11_force {d : Nat} {t : Int} {a1 : Int} {h : MH} {r : Int × MH} (hF : FX11_force t a1 h = some r) : RN xs L iX11_force (d) 0 (lvE 0 [.inr (.inr t), .inl a1]) [] h (RIo r) := by
  unfold FX11_force at hF
  refine RN.blk (ops := [(0, .iload_n 1), (1, .iconst (-1))]) (pc' := 2) (lv' := [(0, .inr (.inr t)), (1, .inl a1)]) (st' := [.inl (-1), .inl a1]) (h' := h) (cs := []) (by decide +kernel) rfl trivial ?_
  rcases it_of hF with ⟨hb, hF⟩ | ⟨hb, hF⟩
  · refine RN.ict (cd := .lt) (off := 11) (tgt := 13) (by decide +kernel) (mif_lt hb) ?_
    refine RN.blk (ops := [(13, .bipush (-2))]) (pc' := 15) (lv' := [(0, .inr (.inr t)), (1, .inl a1)]) (st' := [.inl (-2)]) (h' := h) (cs := []) (by decide +kernel) rfl trivial ?_
    exact RN.iR (by decide +kernel) rfl hF
  · refine RN.icf (cd := .lt) (off := 11) (tgt := 13) (by decide +kernel) (mif_ltn hb) ?_
    obtain ⟨hc, hF⟩ := gd_of hF
    refine RN.blk (ops := [(5, .iload_n 1), (6, .aload_n 0), (7, .getfield 120)]) (pc' := 10) (lv' := [(0, .inr (.inr t)), (1, .inl a1)]) (st' := [.inl (m_rd h t 4), .inl a1]) (h' := h) (cs := [GK h t 11]) (by decide +kernel) rfl hc ?_
    rcases it_of hF with ⟨hb, hF⟩ | ⟨hb, hF⟩
    · refine RN.ict (cd := .lt) (off := 6) (tgt := 16) (by decide +kernel) (mif_lt hb) ?_
      obtain ⟨hc, hF⟩ := gd_of hF
      refine RN.blk (ops := [(16, .aload_n 0), (17, .getfield 41), (20, .getfield 127), (23, .istore_n 2), (24, .aload_n 0), (25, .getfield 41), (28, .iload_n 1), (29, .putfield 127), (32, .iload_n 2)]) (pc' := 33) (lv' := [(2, .inl (m_rd h (m_rd h t 5) 3)), (0, .inr (.inr t)), (1, .inl a1)]) (st' := [.inl (m_rd h (m_rd h t 5) 3)]) (h' := (m_wr h (m_rd h t 5) 3 a1)) (cs := [GK h t 11, GK h (m_rd h t 5) 2, GK h t 11, GK h (m_rd h t 5) 2]) (by decide +kernel) rfl hc ?_
      exact RN.iR (by decide +kernel) rfl hF
    · refine RN.icf (cd := .lt) (off := 6) (tgt := 16) (by decide +kernel) (mif_ltn hb) ?_
      refine RN.blk (ops := [(13, .bipush (-2))]) (pc' := 15) (lv' := [(0, .inr (.inr t)), (1, .inl a1)]) (st' := [.inl (-2)]) (h' := h) (cs := []) (by decide +kernel) rfl trivial ?_
      exact RN.iR (by decide +kernel) rfl hF
noncomputable def FX11_hole (t : Int) (a1 : Int) (a2 : Int) (h : MH) : Option (Int × MH) :=
  gd [GK h t 11, GK h (m_rd h t 5) 2] (
   gd [GK h (m_rd h (m_rd h t 5) 0) 8] (bd (FX8_hasHole (m_rd h (m_rd h t 5) 0) a1 h) (fun x2 h1 =>
    (if x2 = 0 then
     some ((-1), h1)
    else
     (if a2 = 0 then
      gd [GK h1 t 11, GK h1 (m_rd h1 t 5) 2, GK h1 (m_rd h1 (m_rd h1 t 5) 0) 8, GI h1 (m_rd h1 (m_rd h1 (m_rd h1 t 5) 0) 5) 1 a1] (
       some ((m_rd h1 (m_rd h1 (m_rd h1 (m_rd h1 t 5) 0) 5) a1), h1))
     else
     (if a2 = 1 then
      gd [GK h1 t 11, GK h1 (m_rd h1 t 5) 2, GK h1 (m_rd h1 (m_rd h1 t 5) 2) 10, GI h1 (m_rd h1 (m_rd h1 (m_rd h1 t 5) 2) 3) 1 a1] (
       some ((m_rd h1 (m_rd h1 (m_rd h1 (m_rd h1 t 5) 2) 3) a1), h1))
     else
     (if a2 = 2 then
      gd [GK h1 t 11, GK h1 (m_rd h1 t 5) 2, GK h1 (m_rd h1 (m_rd h1 t 5) 2) 10, GI h1 (m_rd h1 (m_rd h1 (m_rd h1 t 5) 2) 4) 1 a1] (
       some ((m_rd h1 (m_rd h1 (m_rd h1 (m_rd h1 t 5) 2) 4) a1), h1))
     else
      some ((-1), h1))))))))
theorem CX11_hole {d : Nat} {t : Int} {a1 : Int} {a2 : Int} {h : MH} {r : Int × MH} (hF : FX11_hole t a1 a2 h = some r) : RN xs L iX11_hole (d + 1) 0 (lvE 0 [.inr (.inr t), .inl a1, .inl a2]) [] h (RIo r) := by
  unfold FX11_hole at hF
  obtain ⟨hc, hF⟩ := gd_of hF
  refine RN.blk (ops := [(0, .aload_n 0), (1, .getfield 41), (4, .getfield 130), (7, .iload_n 1)]) (pc' := 8) (lv' := [(0, .inr (.inr t)), (1, .inl a1), (2, .inl a2)]) (st' := [.inl a1, .inr (.inr (m_rd h (m_rd h t 5) 0))]) (h' := h) (cs := [GK h t 11, GK h (m_rd h t 5) 2]) (by decide +kernel) rfl hc ?_
  obtain ⟨hc, hF⟩ := gd_of hF
  obtain ⟨x2, h1, hG, hF⟩ := bd_of hF
  refine RN.cv (i := 131) (k := 81) (q2 := iX8_hasHole) (as := [.inr (.inr (m_rd h (m_rd h t 5) 0)), .inl a1]) (r := []) (v := some (.inl x2)) (h1 := h1) (by decide +kernel) rfl rfl rfl rfl rfl (rcv_ok hc.1) (CX8_hasHole (d := d) hG) ?_
  rcases it_of hF with ⟨hb, hF⟩ | ⟨hb, hF⟩
  · refine RN.iff (cd := .ne) (off := 5) (tgt := 16) (by decide +kernel) (mif_nen hb) ?_
    refine RN.blk (ops := [(14, .iconst (-1))]) (pc' := 15) (lv' := [(0, .inr (.inr t)), (1, .inl a1), (2, .inl a2)]) (st' := [.inl (-1)]) (h' := h1) (cs := []) (by decide +kernel) rfl trivial ?_
    exact RN.iR (by decide +kernel) rfl hF
  · refine RN.ift (cd := .ne) (off := 5) (tgt := 16) (by decide +kernel) (mif_ne hb) ?_
    refine RN.blk (ops := [(16, .iload_n 2)]) (pc' := 17) (lv' := [(0, .inr (.inr t)), (1, .inl a1), (2, .inl a2)]) (st' := [.inl a2]) (h' := h1) (cs := []) (by decide +kernel) rfl trivial ?_
    rcases it_of hF with ⟨hb0, hF⟩ | ⟨hb0, hF⟩
    · refine RN.tsw (dflt := 66) (lo := 0) (hi := 2) (offs := #[27, 40, 53]) (by decide +kernel) (RN.sth hb0 (tgt := 44) rfl ?_)
      obtain ⟨hc, hF⟩ := gd_of hF
      refine RN.blk (ops := [(44, .aload_n 0), (45, .getfield 41), (48, .getfield 130), (51, .getfield 137), (54, .iload_n 1), (55, .iaload)]) (pc' := 56) (lv' := [(0, .inr (.inr t)), (1, .inl a1), (2, .inl a2)]) (st' := [.inl (m_rd h1 (m_rd h1 (m_rd h1 (m_rd h1 t 5) 0) 5) a1)]) (h' := h1) (cs := [GK h1 t 11, GK h1 (m_rd h1 t 5) 2, GK h1 (m_rd h1 (m_rd h1 t 5) 0) 8, GI h1 (m_rd h1 (m_rd h1 (m_rd h1 t 5) 0) 5) 1 a1]) (by decide +kernel) rfl hc ?_
      exact RN.iR (by decide +kernel) rfl hF
    rcases it_of hF with ⟨hb1, hF⟩ | ⟨hb1, hF⟩
    · refine RN.tsw (dflt := 66) (lo := 0) (hi := 2) (offs := #[27, 40, 53]) (by decide +kernel) (RN.stm hb0 (RN.sth hb1 (tgt := 57) rfl ?_))
      obtain ⟨hc, hF⟩ := gd_of hF
      refine RN.blk (ops := [(57, .aload_n 0), (58, .getfield 41), (61, .getfield 110), (64, .getfield 141), (67, .iload_n 1), (68, .iaload)]) (pc' := 69) (lv' := [(0, .inr (.inr t)), (1, .inl a1), (2, .inl a2)]) (st' := [.inl (m_rd h1 (m_rd h1 (m_rd h1 (m_rd h1 t 5) 2) 3) a1)]) (h' := h1) (cs := [GK h1 t 11, GK h1 (m_rd h1 t 5) 2, GK h1 (m_rd h1 (m_rd h1 t 5) 2) 10, GI h1 (m_rd h1 (m_rd h1 (m_rd h1 t 5) 2) 3) 1 a1]) (by decide +kernel) rfl hc ?_
      exact RN.iR (by decide +kernel) rfl hF
    rcases it_of hF with ⟨hb2, hF⟩ | ⟨hb2, hF⟩
    · refine RN.tsw (dflt := 66) (lo := 0) (hi := 2) (offs := #[27, 40, 53]) (by decide +kernel) (RN.stm hb0 (RN.stm hb1 (RN.sth hb2 (tgt := 70) rfl ?_)))
      obtain ⟨hc, hF⟩ := gd_of hF
      refine RN.blk (ops := [(70, .aload_n 0), (71, .getfield 41), (74, .getfield 110), (77, .getfield 144), (80, .iload_n 1), (81, .iaload)]) (pc' := 82) (lv' := [(0, .inr (.inr t)), (1, .inl a1), (2, .inl a2)]) (st' := [.inl (m_rd h1 (m_rd h1 (m_rd h1 (m_rd h1 t 5) 2) 4) a1)]) (h' := h1) (cs := [GK h1 t 11, GK h1 (m_rd h1 t 5) 2, GK h1 (m_rd h1 (m_rd h1 t 5) 2) 10, GI h1 (m_rd h1 (m_rd h1 (m_rd h1 t 5) 2) 4) 1 a1]) (by decide +kernel) rfl hc ?_
      exact RN.iR (by decide +kernel) rfl hF
    refine RN.tsw (dflt := 66) (lo := 0) (hi := 2) (offs := #[27, 40, 53]) (by decide +kernel) (RN.stm hb0 (RN.stm hb1 (RN.stm hb2 (RN.std (tgt := 83) rfl ?_))))
    refine RN.blk (ops := [(83, .iconst (-1))]) (pc' := 84) (lv' := [(0, .inr (.inr t)), (1, .inl a1), (2, .inl a2)]) (st' := [.inl (-1)]) (h' := h1) (cs := []) (by decide +kernel) rfl trivial ?_
    exact RN.iR (by decide +kernel) rfl hF
noncomputable def FX11_entry (t : Int) (a1 : Int) (a2 : Int) (h : MH) : Option (Int × MH) :=
  gd [GK h t 11, GK h (m_rd h t 5) 2, GK h (m_rd h (m_rd h t 5) 2) 10] (
   gd [GK h (m_rd h (m_rd h (m_rd h t 5) 2) 0) 4] (bd (FX4_has (m_rd h (m_rd h (m_rd h t 5) 2) 0) a1 h) (fun x2 h1 =>
    (if x2 = 0 then
     some ((-1), h1)
    else
     (if a2 = 0 then
      gd [GK h1 (m_rd h (m_rd h (m_rd h t 5) 2) 0) 4, GI h1 (m_rd h1 (m_rd h (m_rd h (m_rd h t 5) 2) 0) 1) 1 a1] (
       some ((m_rd h1 (m_rd h1 (m_rd h (m_rd h (m_rd h t 5) 2) 0) 1) a1), h1))
     else
     (if a2 = 1 then
      gd [GK h1 (m_rd h (m_rd h (m_rd h t 5) 2) 0) 4, GI h1 (m_rd h1 (m_rd h (m_rd h (m_rd h t 5) 2) 0) 2) 1 a1] (
       some ((m_rd h1 (m_rd h1 (m_rd h (m_rd h (m_rd h t 5) 2) 0) 2) a1), h1))
     else
     (if a2 = 2 then
      gd [GK h1 (m_rd h (m_rd h (m_rd h t 5) 2) 0) 4, GI h1 (m_rd h1 (m_rd h (m_rd h (m_rd h t 5) 2) 0) 3) 1 a1] (
       some ((m_rd h1 (m_rd h1 (m_rd h (m_rd h (m_rd h t 5) 2) 0) 3) a1), h1))
     else
      some ((-1), h1))))))))
theorem CX11_entry {d : Nat} {t : Int} {a1 : Int} {a2 : Int} {h : MH} {r : Int × MH} (hF : FX11_entry t a1 a2 h = some r) : RN xs L iX11_entry (d + 1) 0 (lvE 0 [.inr (.inr t), .inl a1, .inl a2]) [] h (RIo r) := by
  unfold FX11_entry at hF
  obtain ⟨hc, hF⟩ := gd_of hF
  refine RN.blk (ops := [(0, .aload_n 0), (1, .getfield 41), (4, .getfield 110), (7, .getfield 113), (10, .astore_n 3), (11, .aload_n 3), (12, .iload_n 1)]) (pc' := 13) (lv' := [(3, .inr (.inr (m_rd h (m_rd h (m_rd h t 5) 2) 0))), (0, .inr (.inr t)), (1, .inl a1), (2, .inl a2)]) (st' := [.inl a1, .inr (.inr (m_rd h (m_rd h (m_rd h t 5) 2) 0))]) (h' := h) (cs := [GK h t 11, GK h (m_rd h t 5) 2, GK h (m_rd h (m_rd h t 5) 2) 10]) (by decide +kernel) rfl hc ?_
  obtain ⟨hc, hF⟩ := gd_of hF
  obtain ⟨x2, h1, hG, hF⟩ := bd_of hF
  refine RN.cv (i := 147) (k := 46) (q2 := iX4_has) (as := [.inr (.inr (m_rd h (m_rd h (m_rd h t 5) 2) 0)), .inl a1]) (r := []) (v := some (.inl x2)) (h1 := h1) (by decide +kernel) rfl rfl rfl rfl rfl (rcv_ok hc.1) (CX4_has (d := d) hG) ?_
  rcases it_of hF with ⟨hb, hF⟩ | ⟨hb, hF⟩
  · refine RN.iff (cd := .ne) (off := 5) (tgt := 21) (by decide +kernel) (mif_nen hb) ?_
    refine RN.blk (ops := [(19, .iconst (-1))]) (pc' := 20) (lv' := [(3, .inr (.inr (m_rd h (m_rd h (m_rd h t 5) 2) 0))), (0, .inr (.inr t)), (1, .inl a1), (2, .inl a2)]) (st' := [.inl (-1)]) (h' := h1) (cs := []) (by decide +kernel) rfl trivial ?_
    exact RN.iR (by decide +kernel) rfl hF
  · refine RN.ift (cd := .ne) (off := 5) (tgt := 21) (by decide +kernel) (mif_ne hb) ?_
    refine RN.blk (ops := [(21, .iload_n 2)]) (pc' := 22) (lv' := [(3, .inr (.inr (m_rd h (m_rd h (m_rd h t 5) 2) 0))), (0, .inr (.inr t)), (1, .inl a1), (2, .inl a2)]) (st' := [.inl a2]) (h' := h1) (cs := []) (by decide +kernel) rfl trivial ?_
    rcases it_of hF with ⟨hb0, hF⟩ | ⟨hb0, hF⟩
    · refine RN.tsw (dflt := 47) (lo := 0) (hi := 2) (offs := #[26, 33, 40]) (by decide +kernel) (RN.sth hb0 (tgt := 48) rfl ?_)
      obtain ⟨hc, hF⟩ := gd_of hF
      refine RN.blk (ops := [(48, .aload_n 3), (49, .getfield 150), (52, .iload_n 1), (53, .iaload)]) (pc' := 54) (lv' := [(3, .inr (.inr (m_rd h (m_rd h (m_rd h t 5) 2) 0))), (0, .inr (.inr t)), (1, .inl a1), (2, .inl a2)]) (st' := [.inl (m_rd h1 (m_rd h1 (m_rd h (m_rd h (m_rd h t 5) 2) 0) 1) a1)]) (h' := h1) (cs := [GK h1 (m_rd h (m_rd h (m_rd h t 5) 2) 0) 4, GI h1 (m_rd h1 (m_rd h (m_rd h (m_rd h t 5) 2) 0) 1) 1 a1]) (by decide +kernel) rfl hc ?_
      exact RN.iR (by decide +kernel) rfl hF
    rcases it_of hF with ⟨hb1, hF⟩ | ⟨hb1, hF⟩
    · refine RN.tsw (dflt := 47) (lo := 0) (hi := 2) (offs := #[26, 33, 40]) (by decide +kernel) (RN.stm hb0 (RN.sth hb1 (tgt := 55) rfl ?_))
      obtain ⟨hc, hF⟩ := gd_of hF
      refine RN.blk (ops := [(55, .aload_n 3), (56, .getfield 153), (59, .iload_n 1), (60, .iaload)]) (pc' := 61) (lv' := [(3, .inr (.inr (m_rd h (m_rd h (m_rd h t 5) 2) 0))), (0, .inr (.inr t)), (1, .inl a1), (2, .inl a2)]) (st' := [.inl (m_rd h1 (m_rd h1 (m_rd h (m_rd h (m_rd h t 5) 2) 0) 2) a1)]) (h' := h1) (cs := [GK h1 (m_rd h (m_rd h (m_rd h t 5) 2) 0) 4, GI h1 (m_rd h1 (m_rd h (m_rd h (m_rd h t 5) 2) 0) 2) 1 a1]) (by decide +kernel) rfl hc ?_
      exact RN.iR (by decide +kernel) rfl hF
    rcases it_of hF with ⟨hb2, hF⟩ | ⟨hb2, hF⟩
    · refine RN.tsw (dflt := 47) (lo := 0) (hi := 2) (offs := #[26, 33, 40]) (by decide +kernel) (RN.stm hb0 (RN.stm hb1 (RN.sth hb2 (tgt := 62) rfl ?_)))
      obtain ⟨hc, hF⟩ := gd_of hF
      refine RN.blk (ops := [(62, .aload_n 3), (63, .getfield 156), (66, .iload_n 1), (67, .iaload)]) (pc' := 68) (lv' := [(3, .inr (.inr (m_rd h (m_rd h (m_rd h t 5) 2) 0))), (0, .inr (.inr t)), (1, .inl a1), (2, .inl a2)]) (st' := [.inl (m_rd h1 (m_rd h1 (m_rd h (m_rd h (m_rd h t 5) 2) 0) 3) a1)]) (h' := h1) (cs := [GK h1 (m_rd h (m_rd h (m_rd h t 5) 2) 0) 4, GI h1 (m_rd h1 (m_rd h (m_rd h (m_rd h t 5) 2) 0) 3) 1 a1]) (by decide +kernel) rfl hc ?_
      exact RN.iR (by decide +kernel) rfl hF
    refine RN.tsw (dflt := 47) (lo := 0) (hi := 2) (offs := #[26, 33, 40]) (by decide +kernel) (RN.stm hb0 (RN.stm hb1 (RN.stm hb2 (RN.std (tgt := 69) rfl ?_))))
    refine RN.blk (ops := [(69, .iconst (-1))]) (pc' := 70) (lv' := [(3, .inr (.inr (m_rd h (m_rd h (m_rd h t 5) 2) 0))), (0, .inr (.inr t)), (1, .inl a1), (2, .inl a2)]) (st' := [.inl (-1)]) (h' := h1) (cs := []) (by decide +kernel) rfl trivial ?_
    exact RN.iR (by decide +kernel) rfl hF
noncomputable def FX11_waits (t : Int) (a1 : Int) (h : MH) : Option (Int × MH) :=
  (if a1 < 0 then
   some ((-1), h)
  else
   gd [GK h t 11, GK h (m_rd h t 5) 2, GK h (m_rd h (m_rd h t 5) 2) 10] (
    (if a1 < (m_rd h (m_rd h (m_rd h t 5) 2) 1) then
     gd [GK h t 11, GK h (m_rd h t 5) 2, GK h (m_rd h (m_rd h t 5) 2) 10, GI h (m_rd h (m_rd h (m_rd h t 5) 2) 2) 1 a1] (
      some ((m_rd h (m_rd h (m_rd h (m_rd h t 5) 2) 2) a1), h))
    else
     some ((-1), h))))
theorem CX11_waits {d : Nat} {t : Int} {a1 : Int} {h : MH} {r : Int × MH} (hF : FX11_waits t a1 h = some r) : RN xs L iX11_waits (d) 0 (lvE 0 [.inr (.inr t), .inl a1]) [] h (RIo r) := by
  unfold FX11_waits at hF
  refine RN.blk (ops := [(0, .iload_n 1)]) (pc' := 1) (lv' := [(0, .inr (.inr t)), (1, .inl a1)]) (st' := [.inl a1]) (h' := h) (cs := []) (by decide +kernel) rfl trivial ?_
  rcases it_of hF with ⟨hb, hF⟩ | ⟨hb, hF⟩
  · refine RN.ift (cd := .lt) (off := 17) (tgt := 18) (by decide +kernel) (mif_lt hb) ?_
    refine RN.blk (ops := [(18, .iconst (-1))]) (pc' := 19) (lv' := [(0, .inr (.inr t)), (1, .inl a1)]) (st' := [.inl (-1)]) (h' := h) (cs := []) (by decide +kernel) rfl trivial ?_
    exact RN.iR (by decide +kernel) rfl hF
  · refine RN.iff (cd := .lt) (off := 17) (tgt := 18) (by decide +kernel) (mif_ltn hb) ?_
    obtain ⟨hc, hF⟩ := gd_of hF
    refine RN.blk (ops := [(4, .iload_n 1), (5, .aload_n 0), (6, .getfield 41), (9, .getfield 110), (12, .getfield 159)]) (pc' := 15) (lv' := [(0, .inr (.inr t)), (1, .inl a1)]) (st' := [.inl (m_rd h (m_rd h (m_rd h t 5) 2) 1), .inl a1]) (h' := h) (cs := [GK h t 11, GK h (m_rd h t 5) 2, GK h (m_rd h (m_rd h t 5) 2) 10]) (by decide +kernel) rfl hc ?_
    rcases it_of hF with ⟨hb, hF⟩ | ⟨hb, hF⟩
    · refine RN.ict (cd := .lt) (off := 5) (tgt := 20) (by decide +kernel) (mif_lt hb) ?_
      obtain ⟨hc, hF⟩ := gd_of hF
      refine RN.blk (ops := [(20, .aload_n 0), (21, .getfield 41), (24, .getfield 110), (27, .getfield 162), (30, .iload_n 1), (31, .iaload)]) (pc' := 32) (lv' := [(0, .inr (.inr t)), (1, .inl a1)]) (st' := [.inl (m_rd h (m_rd h (m_rd h (m_rd h t 5) 2) 2) a1)]) (h' := h) (cs := [GK h t 11, GK h (m_rd h t 5) 2, GK h (m_rd h (m_rd h t 5) 2) 10, GI h (m_rd h (m_rd h (m_rd h t 5) 2) 2) 1 a1]) (by decide +kernel) rfl hc ?_
      exact RN.iR (by decide +kernel) rfl hF
    · refine RN.icf (cd := .lt) (off := 5) (tgt := 20) (by decide +kernel) (mif_ltn hb) ?_
      refine RN.blk (ops := [(18, .iconst (-1))]) (pc' := 19) (lv' := [(0, .inr (.inr t)), (1, .inl a1)]) (st' := [.inl (-1)]) (h' := h) (cs := []) (by decide +kernel) rfl trivial ?_
      exact RN.iR (by decide +kernel) rfl hF
noncomputable def FX11_count (t : Int) (a1 : Int) (h : MH) : Option (Int × MH) :=
  (if a1 = 0 then
   gd [GK h t 11, GK h (m_rd h t 5) 2, GK h (m_rd h (m_rd h t 5) 0) 8] (
    some ((m_rd h (m_rd h (m_rd h t 5) 0) 0), h))
  else
  (if a1 = 1 then
   gd [GK h t 11, GK h (m_rd h t 5) 2, GK h (m_rd h (m_rd h t 5) 0) 8] (
    some ((m_rd h (m_rd h (m_rd h t 5) 0) 1), h))
  else
  (if a1 = 2 then
   gd [GK h t 11, GK h (m_rd h t 5) 2, GK h (m_rd h (m_rd h t 5) 0) 8] (
    some ((m_rd h (m_rd h (m_rd h t 5) 0) 2), h))
  else
  (if a1 = 3 then
   gd [GK h t 11, GK h (m_rd h t 5) 2, GK h (m_rd h (m_rd h t 5) 2) 10, GK h (m_rd h (m_rd h (m_rd h t 5) 2) 0) 4] (
    some ((m_rd h (m_rd h (m_rd h (m_rd h t 5) 2) 0) 0), h))
  else
  (if a1 = 4 then
   gd [GK h t 11, GK h (m_rd h t 5) 2, GK h (m_rd h (m_rd h t 5) 2) 10] (
    some ((m_rd h (m_rd h (m_rd h t 5) 2) 1), h))
  else
  (if a1 = 5 then
   gd [GK h t 11] (
    some ((m_rd h t 4), h))
  else
  (if a1 = 6 then
   gd [GK h t 11, GK h (m_rd h t 5) 2] (
    some ((m_rd h (m_rd h t 5) 3), h))
  else
  (if a1 = 7 then
   gd [GK h t 11, GK h (m_rd h t 5) 2, GK h (m_rd h (m_rd h t 5) 2) 10] (
    some ((m_rd h (m_rd h (m_rd h t 5) 2) 6), h))
  else
  (if a1 = 8 then
   gd [GK h t 11, GK h (m_rd h t 5) 2] (
    gd [GK h (m_rd h (m_rd h t 5) 2) 10] (bd (FX10_lyingInAll (m_rd h (m_rd h t 5) 2) h) (fun x2 h1 =>
     some (x2, h1))))
  else
  (if a1 = 9 then
   gd [GK h t 11, GK h (m_rd h t 5) 2] (
    gd [GK h (m_rd h (m_rd h t 5) 2) 10] (bd (FX10_bagsOfAll (m_rd h (m_rd h t 5) 2) h) (fun x4 h3 =>
     some (x4, h3))))
  else
  (if a1 = 10 then
   gd [GK h t 11, GK h (m_rd h t 5) 2, GK h (m_rd h (m_rd h t 5) 2) 10] (
    some ((m_rd h (m_rd h (m_rd h t 5) 2) 5), h))
  else
  (if a1 = 11 then
   gd [GK h t 11, GK h (m_rd h t 5) 2] (
    some ((m_rd h (m_rd h t 5) 5), h))
  else
  (if a1 = 12 then
   gd [GK h t 11] (
    some ((m_rd h t 10), h))
  else
  (if a1 = 13 then
   gd [GK h t 11, GK h (m_rd h t 5) 2] (
    some ((m_rd h (m_rd h t 5) 4), h))
  else
  (if a1 = 14 then
   gd [GK h t 11, GK h (m_rd h t 0) 9] (
    some ((m_rd h (m_rd h t 0) 1), h))
  else
   some ((-1), h))))))))))))))))
theorem CX11_count {d : Nat} {t : Int} {a1 : Int} {h : MH} {r : Int × MH} (hF : FX11_count t a1 h = some r) : RN xs L iX11_count (d + 2) 0 (lvE 0 [.inr (.inr t), .inl a1]) [] h (RIo r) := by
  unfold FX11_count at hF
  refine RN.blk (ops := [(0, .iload_n 1)]) (pc' := 1) (lv' := [(0, .inr (.inr t)), (1, .inl a1)]) (st' := [.inl a1]) (h' := h) (cs := []) (by decide +kernel) rfl trivial ?_
  rcases it_of hF with ⟨hb0, hF⟩ | ⟨hb0, hF⟩
  · refine RN.tsw (dflt := 219) (lo := 0) (hi := 14) (offs := #[75, 86, 97, 108, 122, 133, 138, 146, 157, 168, 179, 190, 198, 203, 211]) (by decide +kernel) (RN.sth hb0 (tgt := 76) rfl ?_)
    obtain ⟨hc, hF⟩ := gd_of hF
    refine RN.blk (ops := [(76, .aload_n 0), (77, .getfield 41), (80, .getfield 130), (83, .getfield 165)]) (pc' := 86) (lv' := [(0, .inr (.inr t)), (1, .inl a1)]) (st' := [.inl (m_rd h (m_rd h (m_rd h t 5) 0) 0)]) (h' := h) (cs := [GK h t 11, GK h (m_rd h t 5) 2, GK h (m_rd h (m_rd h t 5) 0) 8]) (by decide +kernel) rfl hc ?_
    exact RN.iR (by decide +kernel) rfl hF
  rcases it_of hF with ⟨hb1, hF⟩ | ⟨hb1, hF⟩
  · refine RN.tsw (dflt := 219) (lo := 0) (hi := 14) (offs := #[75, 86, 97, 108, 122, 133, 138, 146, 157, 168, 179, 190, 198, 203, 211]) (by decide +kernel) (RN.stm hb0 (RN.sth hb1 (tgt := 87) rfl ?_))
    obtain ⟨hc, hF⟩ := gd_of hF
    refine RN.blk (ops := [(87, .aload_n 0), (88, .getfield 41), (91, .getfield 130), (94, .getfield 168)]) (pc' := 97) (lv' := [(0, .inr (.inr t)), (1, .inl a1)]) (st' := [.inl (m_rd h (m_rd h (m_rd h t 5) 0) 1)]) (h' := h) (cs := [GK h t 11, GK h (m_rd h t 5) 2, GK h (m_rd h (m_rd h t 5) 0) 8]) (by decide +kernel) rfl hc ?_
    exact RN.iR (by decide +kernel) rfl hF
  rcases it_of hF with ⟨hb2, hF⟩ | ⟨hb2, hF⟩
  · refine RN.tsw (dflt := 219) (lo := 0) (hi := 14) (offs := #[75, 86, 97, 108, 122, 133, 138, 146, 157, 168, 179, 190, 198, 203, 211]) (by decide +kernel) (RN.stm hb0 (RN.stm hb1 (RN.sth hb2 (tgt := 98) rfl ?_)))
    obtain ⟨hc, hF⟩ := gd_of hF
    refine RN.blk (ops := [(98, .aload_n 0), (99, .getfield 41), (102, .getfield 130), (105, .getfield 170)]) (pc' := 108) (lv' := [(0, .inr (.inr t)), (1, .inl a1)]) (st' := [.inl (m_rd h (m_rd h (m_rd h t 5) 0) 2)]) (h' := h) (cs := [GK h t 11, GK h (m_rd h t 5) 2, GK h (m_rd h (m_rd h t 5) 0) 8]) (by decide +kernel) rfl hc ?_
    exact RN.iR (by decide +kernel) rfl hF
  rcases it_of hF with ⟨hb3, hF⟩ | ⟨hb3, hF⟩
  · refine RN.tsw (dflt := 219) (lo := 0) (hi := 14) (offs := #[75, 86, 97, 108, 122, 133, 138, 146, 157, 168, 179, 190, 198, 203, 211]) (by decide +kernel) (RN.stm hb0 (RN.stm hb1 (RN.stm hb2 (RN.sth hb3 (tgt := 109) rfl ?_))))
    obtain ⟨hc, hF⟩ := gd_of hF
    refine RN.blk (ops := [(109, .aload_n 0), (110, .getfield 41), (113, .getfield 110), (116, .getfield 113), (119, .getfield 117)]) (pc' := 122) (lv' := [(0, .inr (.inr t)), (1, .inl a1)]) (st' := [.inl (m_rd h (m_rd h (m_rd h (m_rd h t 5) 2) 0) 0)]) (h' := h) (cs := [GK h t 11, GK h (m_rd h t 5) 2, GK h (m_rd h (m_rd h t 5) 2) 10, GK h (m_rd h (m_rd h (m_rd h t 5) 2) 0) 4]) (by decide +kernel) rfl hc ?_
    exact RN.iR (by decide +kernel) rfl hF
  rcases it_of hF with ⟨hb4, hF⟩ | ⟨hb4, hF⟩
  · refine RN.tsw (dflt := 219) (lo := 0) (hi := 14) (offs := #[75, 86, 97, 108, 122, 133, 138, 146, 157, 168, 179, 190, 198, 203, 211]) (by decide +kernel) (RN.stm hb0 (RN.stm hb1 (RN.stm hb2 (RN.stm hb3 (RN.sth hb4 (tgt := 123) rfl ?_)))))
    obtain ⟨hc, hF⟩ := gd_of hF
    refine RN.blk (ops := [(123, .aload_n 0), (124, .getfield 41), (127, .getfield 110), (130, .getfield 159)]) (pc' := 133) (lv' := [(0, .inr (.inr t)), (1, .inl a1)]) (st' := [.inl (m_rd h (m_rd h (m_rd h t 5) 2) 1)]) (h' := h) (cs := [GK h t 11, GK h (m_rd h t 5) 2, GK h (m_rd h (m_rd h t 5) 2) 10]) (by decide +kernel) rfl hc ?_
    exact RN.iR (by decide +kernel) rfl hF
  rcases it_of hF with ⟨hb5, hF⟩ | ⟨hb5, hF⟩
  · refine RN.tsw (dflt := 219) (lo := 0) (hi := 14) (offs := #[75, 86, 97, 108, 122, 133, 138, 146, 157, 168, 179, 190, 198, 203, 211]) (by decide +kernel) (RN.stm hb0 (RN.stm hb1 (RN.stm hb2 (RN.stm hb3 (RN.stm hb4 (RN.sth hb5 (tgt := 134) rfl ?_))))))
    obtain ⟨hc, hF⟩ := gd_of hF
    refine RN.blk (ops := [(134, .aload_n 0), (135, .getfield 120)]) (pc' := 138) (lv' := [(0, .inr (.inr t)), (1, .inl a1)]) (st' := [.inl (m_rd h t 4)]) (h' := h) (cs := [GK h t 11]) (by decide +kernel) rfl hc ?_
    exact RN.iR (by decide +kernel) rfl hF
  rcases it_of hF with ⟨hb6, hF⟩ | ⟨hb6, hF⟩
  · refine RN.tsw (dflt := 219) (lo := 0) (hi := 14) (offs := #[75, 86, 97, 108, 122, 133, 138, 146, 157, 168, 179, 190, 198, 203, 211]) (by decide +kernel) (RN.stm hb0 (RN.stm hb1 (RN.stm hb2 (RN.stm hb3 (RN.stm hb4 (RN.stm hb5 (RN.sth hb6 (tgt := 139) rfl ?_)))))))
    obtain ⟨hc, hF⟩ := gd_of hF
    refine RN.blk (ops := [(139, .aload_n 0), (140, .getfield 41), (143, .getfield 127)]) (pc' := 146) (lv' := [(0, .inr (.inr t)), (1, .inl a1)]) (st' := [.inl (m_rd h (m_rd h t 5) 3)]) (h' := h) (cs := [GK h t 11, GK h (m_rd h t 5) 2]) (by decide +kernel) rfl hc ?_
    exact RN.iR (by decide +kernel) rfl hF
  rcases it_of hF with ⟨hb7, hF⟩ | ⟨hb7, hF⟩
  · refine RN.tsw (dflt := 219) (lo := 0) (hi := 14) (offs := #[75, 86, 97, 108, 122, 133, 138, 146, 157, 168, 179, 190, 198, 203, 211]) (by decide +kernel) (RN.stm hb0 (RN.stm hb1 (RN.stm hb2 (RN.stm hb3 (RN.stm hb4 (RN.stm hb5 (RN.stm hb6 (RN.sth hb7 (tgt := 147) rfl ?_))))))))
    obtain ⟨hc, hF⟩ := gd_of hF
    refine RN.blk (ops := [(147, .aload_n 0), (148, .getfield 41), (151, .getfield 110), (154, .getfield 173)]) (pc' := 157) (lv' := [(0, .inr (.inr t)), (1, .inl a1)]) (st' := [.inl (m_rd h (m_rd h (m_rd h t 5) 2) 6)]) (h' := h) (cs := [GK h t 11, GK h (m_rd h t 5) 2, GK h (m_rd h (m_rd h t 5) 2) 10]) (by decide +kernel) rfl hc ?_
    exact RN.iR (by decide +kernel) rfl hF
  rcases it_of hF with ⟨hb8, hF⟩ | ⟨hb8, hF⟩
  · refine RN.tsw (dflt := 219) (lo := 0) (hi := 14) (offs := #[75, 86, 97, 108, 122, 133, 138, 146, 157, 168, 179, 190, 198, 203, 211]) (by decide +kernel) (RN.stm hb0 (RN.stm hb1 (RN.stm hb2 (RN.stm hb3 (RN.stm hb4 (RN.stm hb5 (RN.stm hb6 (RN.stm hb7 (RN.sth hb8 (tgt := 158) rfl ?_)))))))))
    obtain ⟨hc, hF⟩ := gd_of hF
    refine RN.blk (ops := [(158, .aload_n 0), (159, .getfield 41), (162, .getfield 110)]) (pc' := 165) (lv' := [(0, .inr (.inr t)), (1, .inl a1)]) (st' := [.inr (.inr (m_rd h (m_rd h t 5) 2))]) (h' := h) (cs := [GK h t 11, GK h (m_rd h t 5) 2]) (by decide +kernel) rfl hc ?_
    obtain ⟨hc, hF⟩ := gd_of hF
    obtain ⟨x2, h1, hG, hF⟩ := bd_of hF
    refine RN.cv (i := 176) (k := 105) (q2 := iX10_lyingInAll) (as := [.inr (.inr (m_rd h (m_rd h t 5) 2))]) (r := []) (v := some (.inl x2)) (h1 := h1) (by decide +kernel) rfl rfl rfl rfl rfl (rcv_ok hc.1) (CX10_lyingInAll (d := d) hG) ?_
    exact RN.iR (by decide +kernel) rfl hF
  rcases it_of hF with ⟨hb9, hF⟩ | ⟨hb9, hF⟩
  · refine RN.tsw (dflt := 219) (lo := 0) (hi := 14) (offs := #[75, 86, 97, 108, 122, 133, 138, 146, 157, 168, 179, 190, 198, 203, 211]) (by decide +kernel) (RN.stm hb0 (RN.stm hb1 (RN.stm hb2 (RN.stm hb3 (RN.stm hb4 (RN.stm hb5 (RN.stm hb6 (RN.stm hb7 (RN.stm hb8 (RN.sth hb9 (tgt := 169) rfl ?_))))))))))
    obtain ⟨hc, hF⟩ := gd_of hF
    refine RN.blk (ops := [(169, .aload_n 0), (170, .getfield 41), (173, .getfield 110)]) (pc' := 176) (lv' := [(0, .inr (.inr t)), (1, .inl a1)]) (st' := [.inr (.inr (m_rd h (m_rd h t 5) 2))]) (h' := h) (cs := [GK h t 11, GK h (m_rd h t 5) 2]) (by decide +kernel) rfl hc ?_
    obtain ⟨hc, hF⟩ := gd_of hF
    obtain ⟨x4, h3, hG, hF⟩ := bd_of hF
    refine RN.cv (i := 179) (k := 106) (q2 := iX10_bagsOfAll) (as := [.inr (.inr (m_rd h (m_rd h t 5) 2))]) (r := []) (v := some (.inl x4)) (h1 := h3) (by decide +kernel) rfl rfl rfl rfl rfl (rcv_ok hc.1) (CX10_bagsOfAll (d := d) hG) ?_
    exact RN.iR (by decide +kernel) rfl hF
  rcases it_of hF with ⟨hb10, hF⟩ | ⟨hb10, hF⟩
  · refine RN.tsw (dflt := 219) (lo := 0) (hi := 14) (offs := #[75, 86, 97, 108, 122, 133, 138, 146, 157, 168, 179, 190, 198, 203, 211]) (by decide +kernel) (RN.stm hb0 (RN.stm hb1 (RN.stm hb2 (RN.stm hb3 (RN.stm hb4 (RN.stm hb5 (RN.stm hb6 (RN.stm hb7 (RN.stm hb8 (RN.stm hb9 (RN.sth hb10 (tgt := 180) rfl ?_)))))))))))
    obtain ⟨hc, hF⟩ := gd_of hF
    refine RN.blk (ops := [(180, .aload_n 0), (181, .getfield 41), (184, .getfield 110), (187, .getfield 182)]) (pc' := 190) (lv' := [(0, .inr (.inr t)), (1, .inl a1)]) (st' := [.inl (m_rd h (m_rd h (m_rd h t 5) 2) 5)]) (h' := h) (cs := [GK h t 11, GK h (m_rd h t 5) 2, GK h (m_rd h (m_rd h t 5) 2) 10]) (by decide +kernel) rfl hc ?_
    exact RN.iR (by decide +kernel) rfl hF
  rcases it_of hF with ⟨hb11, hF⟩ | ⟨hb11, hF⟩
  · refine RN.tsw (dflt := 219) (lo := 0) (hi := 14) (offs := #[75, 86, 97, 108, 122, 133, 138, 146, 157, 168, 179, 190, 198, 203, 211]) (by decide +kernel) (RN.stm hb0 (RN.stm hb1 (RN.stm hb2 (RN.stm hb3 (RN.stm hb4 (RN.stm hb5 (RN.stm hb6 (RN.stm hb7 (RN.stm hb8 (RN.stm hb9 (RN.stm hb10 (RN.sth hb11 (tgt := 191) rfl ?_))))))))))))
    obtain ⟨hc, hF⟩ := gd_of hF
    refine RN.blk (ops := [(191, .aload_n 0), (192, .getfield 41), (195, .getfield 185)]) (pc' := 198) (lv' := [(0, .inr (.inr t)), (1, .inl a1)]) (st' := [.inl (m_rd h (m_rd h t 5) 5)]) (h' := h) (cs := [GK h t 11, GK h (m_rd h t 5) 2]) (by decide +kernel) rfl hc ?_
    exact RN.iR (by decide +kernel) rfl hF
  rcases it_of hF with ⟨hb12, hF⟩ | ⟨hb12, hF⟩
  · refine RN.tsw (dflt := 219) (lo := 0) (hi := 14) (offs := #[75, 86, 97, 108, 122, 133, 138, 146, 157, 168, 179, 190, 198, 203, 211]) (by decide +kernel) (RN.stm hb0 (RN.stm hb1 (RN.stm hb2 (RN.stm hb3 (RN.stm hb4 (RN.stm hb5 (RN.stm hb6 (RN.stm hb7 (RN.stm hb8 (RN.stm hb9 (RN.stm hb10 (RN.stm hb11 (RN.sth hb12 (tgt := 199) rfl ?_)))))))))))))
    obtain ⟨hc, hF⟩ := gd_of hF
    refine RN.blk (ops := [(199, .aload_n 0), (200, .getfield 107)]) (pc' := 203) (lv' := [(0, .inr (.inr t)), (1, .inl a1)]) (st' := [.inl (m_rd h t 10)]) (h' := h) (cs := [GK h t 11]) (by decide +kernel) rfl hc ?_
    exact RN.iR (by decide +kernel) rfl hF
  rcases it_of hF with ⟨hb13, hF⟩ | ⟨hb13, hF⟩
  · refine RN.tsw (dflt := 219) (lo := 0) (hi := 14) (offs := #[75, 86, 97, 108, 122, 133, 138, 146, 157, 168, 179, 190, 198, 203, 211]) (by decide +kernel) (RN.stm hb0 (RN.stm hb1 (RN.stm hb2 (RN.stm hb3 (RN.stm hb4 (RN.stm hb5 (RN.stm hb6 (RN.stm hb7 (RN.stm hb8 (RN.stm hb9 (RN.stm hb10 (RN.stm hb11 (RN.stm hb12 (RN.sth hb13 (tgt := 204) rfl ?_))))))))))))))
    obtain ⟨hc, hF⟩ := gd_of hF
    refine RN.blk (ops := [(204, .aload_n 0), (205, .getfield 41), (208, .getfield 188)]) (pc' := 211) (lv' := [(0, .inr (.inr t)), (1, .inl a1)]) (st' := [.inl (m_rd h (m_rd h t 5) 4)]) (h' := h) (cs := [GK h t 11, GK h (m_rd h t 5) 2]) (by decide +kernel) rfl hc ?_
    exact RN.iR (by decide +kernel) rfl hF
  rcases it_of hF with ⟨hb14, hF⟩ | ⟨hb14, hF⟩
  · refine RN.tsw (dflt := 219) (lo := 0) (hi := 14) (offs := #[75, 86, 97, 108, 122, 133, 138, 146, 157, 168, 179, 190, 198, 203, 211]) (by decide +kernel) (RN.stm hb0 (RN.stm hb1 (RN.stm hb2 (RN.stm hb3 (RN.stm hb4 (RN.stm hb5 (RN.stm hb6 (RN.stm hb7 (RN.stm hb8 (RN.stm hb9 (RN.stm hb10 (RN.stm hb11 (RN.stm hb12 (RN.stm hb13 (RN.sth hb14 (tgt := 212) rfl ?_)))))))))))))))
    obtain ⟨hc, hF⟩ := gd_of hF
    refine RN.blk (ops := [(212, .aload_n 0), (213, .getfield 10), (216, .getfield 83)]) (pc' := 219) (lv' := [(0, .inr (.inr t)), (1, .inl a1)]) (st' := [.inl (m_rd h (m_rd h t 0) 1)]) (h' := h) (cs := [GK h t 11, GK h (m_rd h t 0) 9]) (by decide +kernel) rfl hc ?_
    exact RN.iR (by decide +kernel) rfl hF
  refine RN.tsw (dflt := 219) (lo := 0) (hi := 14) (offs := #[75, 86, 97, 108, 122, 133, 138, 146, 157, 168, 179, 190, 198, 203, 211]) (by decide +kernel) (RN.stm hb0 (RN.stm hb1 (RN.stm hb2 (RN.stm hb3 (RN.stm hb4 (RN.stm hb5 (RN.stm hb6 (RN.stm hb7 (RN.stm hb8 (RN.stm hb9 (RN.stm hb10 (RN.stm hb11 (RN.stm hb12 (RN.stm hb13 (RN.stm hb14 (RN.std (tgt := 220) rfl ?_))))))))))))))))
  refine RN.blk (ops := [(220, .iconst (-1))]) (pc' := 221) (lv' := [(0, .inr (.inr t)), (1, .inl a1)]) (st' := [.inl (-1)]) (h' := h) (cs := []) (by decide +kernel) rfl trivial ?_
  exact RN.iR (by decide +kernel) rfl hF
noncomputable def FX11_hasFrame (t : Int) (h : MH) : Option (Int × MH) :=
  gd [GK h t 11, GK h (m_rd h t 5) 2, GK h (m_rd h (m_rd h t 5) 0) 8] (
   (if 0 < (m_rd h (m_rd h (m_rd h t 5) 0) 3) then
    some (1, h)
   else
    some (0, h)))
theorem CX11_hasFrame {d : Nat} {t : Int} {h : MH} {r : Int × MH} (hF : FX11_hasFrame t h = some r) : RN xs L iX11_hasFrame (d) 0 (lvE 0 [.inr (.inr t)]) [] h (RIo r) := by
  unfold FX11_hasFrame at hF
  obtain ⟨hc, hF⟩ := gd_of hF
  refine RN.blk (ops := [(0, .aload_n 0), (1, .getfield 41), (4, .getfield 130), (7, .getfield 320)]) (pc' := 10) (lv' := [(0, .inr (.inr t))]) (st' := [.inl (m_rd h (m_rd h (m_rd h t 5) 0) 3)]) (h' := h) (cs := [GK h t 11, GK h (m_rd h t 5) 2, GK h (m_rd h (m_rd h t 5) 0) 8]) (by decide +kernel) rfl hc ?_
  rcases it_of hF with ⟨hb, hF⟩ | ⟨hb, hF⟩
  · refine RN.iff (cd := .le) (off := 7) (tgt := 17) (by decide +kernel) (mif_len hb) ?_
    refine RN.blk (ops := [(13, .iconst 1)]) (pc' := 14) (lv' := [(0, .inr (.inr t))]) (st' := [.inl 1]) (h' := h) (cs := []) (by decide +kernel) rfl trivial ?_
    refine RN.goto (off := 4) (tgt := 18) (by decide +kernel) ?_
    exact RN.zR (by decide +kernel) rfl (Or.inr rfl) hF
  · refine RN.ift (cd := .le) (off := 7) (tgt := 17) (by decide +kernel) (mif_le hb) ?_
    refine RN.blk (ops := [(17, .iconst 0)]) (pc' := 18) (lv' := [(0, .inr (.inr t))]) (st' := [.inl 0]) (h' := h) (cs := []) (by decide +kernel) rfl trivial ?_
    exact RN.zR (by decide +kernel) rfl (Or.inl rfl) hF
noncomputable def FX11_remember (t : Int) (h : MH) : Option (MH) :=
  gd [GK h t 11, GK h t 11, GA h (m_rd h t 8) (m_rd h t 9), GK h t 11, GK h (m_rd h t 5) 2] (
   gd [GK h (m_rd h (m_rd h t 8) (m_rd h t 9)) 10] (bv (FX10_copyFrom (m_rd h (m_rd h t 8) (m_rd h t 9)) (m_rd h (m_rd h t 5) 2) h) (fun h1 =>
    gd [GK h1 t 11, (20 : Int) ≠ 0, GK h1 t 11, GK h1 t 11] (
     gd [GK h1 t 11] (
      some (m_wr (m_wr h1 t 9 (Int.tmod (m_w32 ((m_rd h1 t 9) + 1)) 20)) t 10 (m_mn (m_w32 ((m_rd (m_wr h1 t 9 (Int.tmod (m_w32 ((m_rd h1 t 9) + 1)) 20)) t 10) + 1)) 20)))))))
theorem CX11_remember {d : Nat} {t : Int} {h : MH} {r : MH} (hF : FX11_remember t h = some r) : RN xs L iX11_remember (d + 3) 0 (lvE 0 [.inr (.inr t)]) [] h (RVo r) := by
  unfold FX11_remember at hF
  obtain ⟨hc, hF⟩ := gd_of hF
  refine RN.blk (ops := [(0, .aload_n 0), (1, .getfield 55), (4, .aload_n 0), (5, .getfield 239), (8, .aaload), (9, .aload_n 0), (10, .getfield 41), (13, .getfield 110)]) (pc' := 16) (lv' := [(0, .inr (.inr t))]) (st' := [.inr (.inr (m_rd h (m_rd h t 5) 2)), .inr (.inr (m_rd h (m_rd h t 8) (m_rd h t 9)))]) (h' := h) (cs := [GK h t 11, GK h t 11, GA h (m_rd h t 8) (m_rd h t 9), GK h t 11, GK h (m_rd h t 5) 2]) (by decide +kernel) rfl hc ?_
  obtain ⟨hc, hF⟩ := gd_of hF
  obtain ⟨h1, hG, hF⟩ := bv_of hF
  refine RN.cv (i := 212) (k := 101) (q2 := iX10_copyFrom) (as := [.inr (.inr (m_rd h (m_rd h t 8) (m_rd h t 9))), .inr (.inr (m_rd h (m_rd h t 5) 2))]) (r := []) (v := none) (h1 := h1) (by decide +kernel) rfl rfl rfl rfl rfl (rcv_ok hc.1) (CX10_copyFrom (d := d) hG) ?_
  obtain ⟨hc, hF⟩ := gd_of hF
  refine RN.blk (ops := [(19, .aload_n 0), (20, .aload_n 0), (21, .getfield 239), (24, .iconst 1), (25, .iadd), (26, .bipush 20), (28, .irem), (29, .putfield 239), (32, .aload_n 0), (33, .aload_n 0), (34, .getfield 107), (37, .iconst 1), (38, .iadd), (39, .bipush 20)]) (pc' := 41) (lv' := [(0, .inr (.inr t))]) (st' := [.inl 20, .inl (m_w32 ((m_rd (m_wr h1 t 9 (Int.tmod (m_w32 ((m_rd h1 t 9) + 1)) 20)) t 10) + 1)), .inr (.inr t)]) (h' := (m_wr h1 t 9 (Int.tmod (m_w32 ((m_rd h1 t 9) + 1)) 20))) (cs := [GK h1 t 11, (20 : Int) ≠ 0, GK h1 t 11, GK h1 t 11]) (by decide +kernel) rfl hc ?_
  refine RN.mn (i := 360) (by decide +kernel) rfl rfl ?_
  obtain ⟨hc, hF⟩ := gd_of hF
  refine RN.blk (ops := [(44, .putfield 107)]) (pc' := 47) (lv' := [(0, .inr (.inr t))]) (st' := []) (h' := (m_wr (m_wr h1 t 9 (Int.tmod (m_w32 ((m_rd h1 t 9) + 1)) 20)) t 10 (m_mn (m_w32 ((m_rd (m_wr h1 t 9 (Int.tmod (m_w32 ((m_rd h1 t 9) + 1)) 20)) t 10) + 1)) 20))) (cs := [GK h1 t 11]) (by decide +kernel) rfl hc ?_
  exact RN.vR (by decide +kernel) rfl hF
noncomputable def FX11_ruleAt (t : Int) (a1 : Int) (h : MH) : Option (Int × MH) :=
  (if a1 < 0 then
   some ((-1), h)
  else
   gd [GK h t 11] (
    (if a1 < (m_rd h t 4) then
     gd [GK h t 11, GA h (m_rd h t 3) a1] (
      some ((m_rd h (m_rd h t 3) a1), h))
    else
     some ((-1), h))))
theorem CX11_ruleAt {d : Nat} {t : Int} {a1 : Int} {h : MH} {r : Int × MH} (hF : FX11_ruleAt t a1 h = some r) : RN xs L iX11_ruleAt (d) 0 (lvE 0 [.inr (.inr t), .inl a1]) [] h (RAo r) := by
  unfold FX11_ruleAt at hF
  refine RN.blk (ops := [(0, .iload_n 1)]) (pc' := 1) (lv' := [(0, .inr (.inr t)), (1, .inl a1)]) (st' := [.inl a1]) (h' := h) (cs := []) (by decide +kernel) rfl trivial ?_
  rcases it_of hF with ⟨hb, hF⟩ | ⟨hb, hF⟩
  · refine RN.ift (cd := .lt) (off := 11) (tgt := 12) (by decide +kernel) (mif_lt hb) ?_
    refine RN.blk (ops := [(12, .aconst_null)]) (pc' := 13) (lv' := [(0, .inr (.inr t)), (1, .inl a1)]) (st' := [.inr (.inr (-1))]) (h' := h) (cs := []) (by decide +kernel) rfl trivial ?_
    refine RN.goto (off := 9) (tgt := 22) (by decide +kernel) ?_
    exact RN.aR (by decide +kernel) rfl hF
  · refine RN.iff (cd := .lt) (off := 11) (tgt := 12) (by decide +kernel) (mif_ltn hb) ?_
    obtain ⟨hc, hF⟩ := gd_of hF
    refine RN.blk (ops := [(4, .iload_n 1), (5, .aload_n 0), (6, .getfield 120)]) (pc' := 9) (lv' := [(0, .inr (.inr t)), (1, .inl a1)]) (st' := [.inl (m_rd h t 4), .inl a1]) (h' := h) (cs := [GK h t 11]) (by decide +kernel) rfl hc ?_
    rcases it_of hF with ⟨hb, hF⟩ | ⟨hb, hF⟩
    · refine RN.ict (cd := .lt) (off := 7) (tgt := 16) (by decide +kernel) (mif_lt hb) ?_
      obtain ⟨hc, hF⟩ := gd_of hF
      refine RN.blk (ops := [(16, .aload_n 0), (17, .getfield 34), (20, .iload_n 1), (21, .aaload)]) (pc' := 22) (lv' := [(0, .inr (.inr t)), (1, .inl a1)]) (st' := [.inr (.inr (m_rd h (m_rd h t 3) a1))]) (h' := h) (cs := [GK h t 11, GA h (m_rd h t 3) a1]) (by decide +kernel) rfl hc ?_
      exact RN.aR (by decide +kernel) rfl hF
    · refine RN.icf (cd := .lt) (off := 7) (tgt := 16) (by decide +kernel) (mif_ltn hb) ?_
      refine RN.blk (ops := [(12, .aconst_null)]) (pc' := 13) (lv' := [(0, .inr (.inr t)), (1, .inl a1)]) (st' := [.inr (.inr (-1))]) (h' := h) (cs := []) (by decide +kernel) rfl trivial ?_
      refine RN.goto (off := 9) (tgt := 22) (by decide +kernel) ?_
      exact RN.aR (by decide +kernel) rfl hF
noncomputable def FX11_ruleInForce (t : Int) (h : MH) : Option (Int × MH) :=
  gd [GK h t 11, GK h (m_rd h t 5) 2] (
   gd [GK h t 11] (bd (FX11_ruleAt t (m_rd h (m_rd h t 5) 3) h) (fun x2 h1 =>
    some (x2, h1))))
theorem CX11_ruleInForce {d : Nat} {t : Int} {h : MH} {r : Int × MH} (hF : FX11_ruleInForce t h = some r) : RN xs L iX11_ruleInForce (d + 1) 0 (lvE 0 [.inr (.inr t)]) [] h (RAo r) := by
  unfold FX11_ruleInForce at hF
  obtain ⟨hc, hF⟩ := gd_of hF
  refine RN.blk (ops := [(0, .aload_n 0), (1, .aload_n 0), (2, .getfield 41), (5, .getfield 127)]) (pc' := 8) (lv' := [(0, .inr (.inr t))]) (st' := [.inl (m_rd h (m_rd h t 5) 3), .inr (.inr t)]) (h' := h) (cs := [GK h t 11, GK h (m_rd h t 5) 2]) (by decide +kernel) rfl hc ?_
  obtain ⟨hc, hF⟩ := gd_of hF
  obtain ⟨x2, h1, hG, hF⟩ := bd_of hF
  refine RN.cv (i := 335) (k := 150) (q2 := iX11_ruleAt) (as := [.inr (.inr t), .inl (m_rd h (m_rd h t 5) 3)]) (r := []) (v := some (.inr (.inr x2))) (h1 := h1) (by decide +kernel) rfl rfl rfl rfl rfl (rcv_ok hc.1) (CX11_ruleAt (d := d) hG) ?_
  exact RN.aR (by decide +kernel) rfl hF
noncomputable def FX11_startFromNow (t : Int) (h : MH) : Option (MH) :=
  gd [GK h t 11, GK h t 11, GK h (m_rd h t 5) 2, GK h t 11, GK h (m_rd h t 5) 2] (
   gd [GK h (m_rd h t 12) 7] (bv (FX7_start (m_rd h t 12) (m_rd h (m_rd h t 5) 0) (m_rd h (m_rd h t 5) 2) h) (fun h1 =>
    some h1)))
theorem CX11_startFromNow {d : Nat} {t : Int} {h : MH} {r : MH} (hF : FX11_startFromNow t h = some r) : RN xs L iX11_startFromNow (d + 4) 0 (lvE 0 [.inr (.inr t)]) [] h (RVo r) := by
  unfold FX11_startFromNow at hF
  obtain ⟨hc, hF⟩ := gd_of hF
  refine RN.blk (ops := [(0, .aload_n 0), (1, .getfield 72), (4, .aload_n 0), (5, .getfield 41), (8, .getfield 130), (11, .aload_n 0), (12, .getfield 41), (15, .getfield 110)]) (pc' := 18) (lv' := [(0, .inr (.inr t))]) (st' := [.inr (.inr (m_rd h (m_rd h t 5) 2)), .inr (.inr (m_rd h (m_rd h t 5) 0)), .inr (.inr (m_rd h t 12))]) (h' := h) (cs := [GK h t 11, GK h t 11, GK h (m_rd h t 5) 2, GK h t 11, GK h (m_rd h t 5) 2]) (by decide +kernel) rfl hc ?_
  obtain ⟨hc, hF⟩ := gd_of hF
  obtain ⟨h1, hG, hF⟩ := bv_of hF
  refine RN.cv (i := 317) (k := 67) (q2 := iX7_start) (as := [.inr (.inr (m_rd h t 12)), .inr (.inr (m_rd h (m_rd h t 5) 0)), .inr (.inr (m_rd h (m_rd h t 5) 2))]) (r := []) (v := none) (h1 := h1) (by decide +kernel) rfl rfl rfl rfl rfl (rcv_ok hc.1) (CX7_start (d := d) hG) ?_
  exact RN.vR (by decide +kernel) rfl hF
noncomputable def FX11_turn (t : Int) (h : MH) : Option (Int × MH) :=
  gd [GK h t 11] (bd (FX11_hasFrame t h) (fun x2 h1 =>
   (if x2 = 0 then
    some ((-1), h1)
   else
    gd [GK h1 t 11, GK h1 (m_rd h1 t 5) 2, GK h1 (m_rd h1 (m_rd h1 t 5) 2) 10] (
     (if (m_rd h1 (m_rd h1 (m_rd h1 t 5) 2) 6) < 999 then
      gd [GK h1 t 11] (bv (FX11_startFromNow t h1) (fun h3 =>
       gd [GK h3 t 11] (
        gd [GK h3 t 11] (bd (FX11_ruleInForce t h3) (fun x5 h4 =>
         gd [GK h4 (m_rd h3 t 12) 7] (bd (FX7_step (m_rd h3 t 12) x5 h4) (fun x7 h6 =>
          gd [GK h6 t 11] (bv (FX11_remember t h6) (fun h8 =>
           gd [GK h8 t 11, GK h8 (m_rd h8 t 5) 2, GK h8 t 11, GK h8 (m_rd h8 t 12) 7] (
            gd [GK h8 (m_rd h8 (m_rd h8 t 5) 2) 10] (bv (FX10_copyFrom (m_rd h8 (m_rd h8 t 5) 2) (m_rd h8 (m_rd h8 t 12) 1) h8) (fun h9 =>
             (if x7 = (-1) then
              some ((-2), h9)
             else
              some (x7, h9))))))))))))))
     else
      some ((-1), h1))))))
theorem CX11_turn {d : Nat} {t : Int} {h : MH} {r : Int × MH} (hF : FX11_turn t h = some r) : RN xs L iX11_turn (d + 5) 0 (lvE 0 [.inr (.inr t)]) [] h (RIo r) := by
  unfold FX11_turn at hF
  refine RN.blk (ops := [(0, .aload_n 0)]) (pc' := 1) (lv' := [(0, .inr (.inr t))]) (st' := [.inr (.inr t)]) (h' := h) (cs := []) (by decide +kernel) rfl trivial ?_
  obtain ⟨hc, hF⟩ := gd_of hF
  obtain ⟨x2, h1, hG, hF⟩ := bd_of hF
  refine RN.cv (i := 191) (k := 149) (q2 := iX11_hasFrame) (as := [.inr (.inr t)]) (r := []) (v := some (.inl x2)) (h1 := h1) (by decide +kernel) rfl rfl rfl rfl rfl (rcv_ok hc.1) (CX11_hasFrame (d := d + 4) hG) ?_
  rcases it_of hF with ⟨hb, hF⟩ | ⟨hb, hF⟩
  · refine RN.ift (cd := .eq) (off := 19) (tgt := 23) (by decide +kernel) (mif_eq hb) ?_
    refine RN.blk (ops := [(23, .iconst (-1))]) (pc' := 24) (lv' := [(0, .inr (.inr t))]) (st' := [.inl (-1)]) (h' := h1) (cs := []) (by decide +kernel) rfl trivial ?_
    exact RN.iR (by decide +kernel) rfl hF
  · refine RN.iff (cd := .eq) (off := 19) (tgt := 23) (by decide +kernel) (mif_eqn hb) ?_
    obtain ⟨hc, hF⟩ := gd_of hF
    refine RN.blk (ops := [(7, .aload_n 0), (8, .getfield 41), (11, .getfield 110), (14, .getfield 173), (17, .sipush 999)]) (pc' := 20) (lv' := [(0, .inr (.inr t))]) (st' := [.inl 999, .inl (m_rd h1 (m_rd h1 (m_rd h1 t 5) 2) 6)]) (h' := h1) (cs := [GK h1 t 11, GK h1 (m_rd h1 t 5) 2, GK h1 (m_rd h1 (m_rd h1 t 5) 2) 10]) (by decide +kernel) rfl hc ?_
    rcases it_of hF with ⟨hb, hF⟩ | ⟨hb, hF⟩
    · refine RN.ict (cd := .lt) (off := 5) (tgt := 25) (by decide +kernel) (mif_lt hb) ?_
      refine RN.blk (ops := [(25, .aload_n 0)]) (pc' := 26) (lv' := [(0, .inr (.inr t))]) (st' := [.inr (.inr t)]) (h' := h1) (cs := []) (by decide +kernel) rfl trivial ?_
      obtain ⟨hc, hF⟩ := gd_of hF
      obtain ⟨h3, hG, hF⟩ := bv_of hF
      refine RN.cv (i := 195) (k := 154) (q2 := iX11_startFromNow) (as := [.inr (.inr t)]) (r := []) (v := none) (h1 := h3) (by decide +kernel) rfl rfl rfl rfl rfl (rcv_ok hc.1) (CX11_startFromNow (d := d) hG) ?_
      obtain ⟨hc, hF⟩ := gd_of hF
      refine RN.blk (ops := [(29, .aload_n 0), (30, .getfield 72), (33, .aload_n 0)]) (pc' := 34) (lv' := [(0, .inr (.inr t))]) (st' := [.inr (.inr t), .inr (.inr (m_rd h3 t 12))]) (h' := h3) (cs := [GK h3 t 11]) (by decide +kernel) rfl hc ?_
      obtain ⟨hc, hF⟩ := gd_of hF
      obtain ⟨x5, h4, hG, hF⟩ := bd_of hF
      refine RN.cv (i := 198) (k := 151) (q2 := iX11_ruleInForce) (as := [.inr (.inr t)]) (r := [.inr (.inr (m_rd h3 t 12))]) (v := some (.inr (.inr x5))) (h1 := h4) (by decide +kernel) rfl rfl rfl rfl rfl (rcv_ok hc.1) (CX11_ruleInForce (d := d + 3) hG) ?_
      obtain ⟨hc, hF⟩ := gd_of hF
      obtain ⟨x7, h6, hG, hF⟩ := bd_of hF
      refine RN.cv (i := 202) (k := 68) (q2 := iX7_step) (as := [.inr (.inr (m_rd h3 t 12)), .inr (.inr x5)]) (r := []) (v := some (.inl x7)) (h1 := h6) (by decide +kernel) rfl rfl rfl rfl rfl (rcv_ok hc.1) (CX7_step (d := d) hG) ?_
      refine RN.blk (ops := [(40, .istore_n 1), (41, .aload_n 0)]) (pc' := 42) (lv' := [(1, .inl x7), (0, .inr (.inr t))]) (st' := [.inr (.inr t)]) (h' := h6) (cs := []) (by decide +kernel) rfl trivial ?_
      obtain ⟨hc, hF⟩ := gd_of hF
      obtain ⟨h8, hG, hF⟩ := bv_of hF
      refine RN.cv (i := 206) (k := 152) (q2 := iX11_remember) (as := [.inr (.inr t)]) (r := []) (v := none) (h1 := h8) (by decide +kernel) rfl rfl rfl rfl rfl (rcv_ok hc.1) (CX11_remember (d := d + 1) hG) ?_
      obtain ⟨hc, hF⟩ := gd_of hF
      refine RN.blk (ops := [(45, .aload_n 0), (46, .getfield 41), (49, .getfield 110), (52, .aload_n 0), (53, .getfield 72), (56, .getfield 209)]) (pc' := 59) (lv' := [(1, .inl x7), (0, .inr (.inr t))]) (st' := [.inr (.inr (m_rd h8 (m_rd h8 t 12) 1)), .inr (.inr (m_rd h8 (m_rd h8 t 5) 2))]) (h' := h8) (cs := [GK h8 t 11, GK h8 (m_rd h8 t 5) 2, GK h8 t 11, GK h8 (m_rd h8 t 12) 7]) (by decide +kernel) rfl hc ?_
      obtain ⟨hc, hF⟩ := gd_of hF
      obtain ⟨h9, hG, hF⟩ := bv_of hF
      refine RN.cv (i := 212) (k := 101) (q2 := iX10_copyFrom) (as := [.inr (.inr (m_rd h8 (m_rd h8 t 5) 2)), .inr (.inr (m_rd h8 (m_rd h8 t 12) 1))]) (r := []) (v := none) (h1 := h9) (by decide +kernel) rfl rfl rfl rfl rfl (rcv_ok hc.1) (CX10_copyFrom (d := d + 2) hG) ?_
      refine RN.blk (ops := [(62, .iload_n 1), (63, .iconst (-1))]) (pc' := 64) (lv' := [(1, .inl x7), (0, .inr (.inr t))]) (st' := [.inl (-1), .inl x7]) (h' := h9) (cs := []) (by decide +kernel) rfl trivial ?_
      rcases it_of hF with ⟨hb, hF⟩ | ⟨hb, hF⟩
      · refine RN.icf (cd := .ne) (off := 8) (tgt := 72) (by decide +kernel) (mif_nen hb) ?_
        refine RN.blk (ops := [(67, .bipush (-2))]) (pc' := 69) (lv' := [(1, .inl x7), (0, .inr (.inr t))]) (st' := [.inl (-2)]) (h' := h9) (cs := []) (by decide +kernel) rfl trivial ?_
        refine RN.goto (off := 4) (tgt := 73) (by decide +kernel) ?_
        exact RN.iR (by decide +kernel) rfl hF
      · refine RN.ict (cd := .ne) (off := 8) (tgt := 72) (by decide +kernel) (mif_ne hb) ?_
        refine RN.blk (ops := [(72, .iload_n 1)]) (pc' := 73) (lv' := [(1, .inl x7), (0, .inr (.inr t))]) (st' := [.inl x7]) (h' := h9) (cs := []) (by decide +kernel) rfl trivial ?_
        exact RN.iR (by decide +kernel) rfl hF
    · refine RN.icf (cd := .lt) (off := 5) (tgt := 25) (by decide +kernel) (mif_ltn hb) ?_
      refine RN.blk (ops := [(23, .iconst (-1))]) (pc' := 24) (lv' := [(0, .inr (.inr t))]) (st' := [.inl (-1)]) (h' := h1) (cs := []) (by decide +kernel) rfl trivial ?_
      exact RN.iR (by decide +kernel) rfl hF
noncomputable def FX11_post (t : Int) (a1 : Int) (h : MH) : Option (Int × MH) :=
  gd [GK h t 11, GK h (m_rd h t 5) 2] (
   gd [GK h (m_rd h (m_rd h t 5) 0) 8] (bd (FX8_hasCode (m_rd h (m_rd h t 5) 0) a1 h) (fun x2 h1 =>
    (if x2 = 0 then
     some ((-1), h1)
    else
     gd [GK h1 t 11, GK h1 (m_rd h1 t 5) 2, GK h1 (m_rd h1 (m_rd h1 t 5) 2) 10] (
      (if (m_rd h1 (m_rd h1 (m_rd h1 t 5) 2) 1) < 20 then
       gd [GK h1 t 11] (bv (FX11_remember t h1) (fun h3 =>
        gd [GK h3 t 11, GK h3 (m_rd h3 t 5) 2] (
         gd [GK h3 (m_rd h3 (m_rd h3 t 5) 2) 10] (bv (FX10_queue (m_rd h3 (m_rd h3 t 5) 2) a1 h3) (fun h4 =>
          gd [GK h4 t 11, GK h4 (m_rd h4 t 5) 2, GK h4 (m_rd h4 (m_rd h4 t 5) 2) 10] (
           some ((m_rd h4 (m_rd h4 (m_rd h4 t 5) 2) 1), h4)))))))
      else
       some ((-1), h1)))))))
theorem CX11_post {d : Nat} {t : Int} {a1 : Int} {h : MH} {r : Int × MH} (hF : FX11_post t a1 h = some r) : RN xs L iX11_post (d + 4) 0 (lvE 0 [.inr (.inr t), .inl a1]) [] h (RIo r) := by
  unfold FX11_post at hF
  obtain ⟨hc, hF⟩ := gd_of hF
  refine RN.blk (ops := [(0, .aload_n 0), (1, .getfield 41), (4, .getfield 130), (7, .iload_n 1)]) (pc' := 8) (lv' := [(0, .inr (.inr t)), (1, .inl a1)]) (st' := [.inl a1, .inr (.inr (m_rd h (m_rd h t 5) 0))]) (h' := h) (cs := [GK h t 11, GK h (m_rd h t 5) 2]) (by decide +kernel) rfl hc ?_
  obtain ⟨hc, hF⟩ := gd_of hF
  obtain ⟨x2, h1, hG, hF⟩ := bd_of hF
  refine RN.cv (i := 216) (k := 82) (q2 := iX8_hasCode) (as := [.inr (.inr (m_rd h (m_rd h t 5) 0)), .inl a1]) (r := []) (v := some (.inl x2)) (h1 := h1) (by decide +kernel) rfl rfl rfl rfl rfl (rcv_ok hc.1) (CX8_hasCode (d := d + 3) hG) ?_
  rcases it_of hF with ⟨hb, hF⟩ | ⟨hb, hF⟩
  · refine RN.ift (cd := .eq) (off := 18) (tgt := 29) (by decide +kernel) (mif_eq hb) ?_
    refine RN.blk (ops := [(29, .iconst (-1))]) (pc' := 30) (lv' := [(0, .inr (.inr t)), (1, .inl a1)]) (st' := [.inl (-1)]) (h' := h1) (cs := []) (by decide +kernel) rfl trivial ?_
    exact RN.iR (by decide +kernel) rfl hF
  · refine RN.iff (cd := .eq) (off := 18) (tgt := 29) (by decide +kernel) (mif_eqn hb) ?_
    obtain ⟨hc, hF⟩ := gd_of hF
    refine RN.blk (ops := [(14, .aload_n 0), (15, .getfield 41), (18, .getfield 110), (21, .getfield 159), (24, .bipush 20)]) (pc' := 26) (lv' := [(0, .inr (.inr t)), (1, .inl a1)]) (st' := [.inl 20, .inl (m_rd h1 (m_rd h1 (m_rd h1 t 5) 2) 1)]) (h' := h1) (cs := [GK h1 t 11, GK h1 (m_rd h1 t 5) 2, GK h1 (m_rd h1 (m_rd h1 t 5) 2) 10]) (by decide +kernel) rfl hc ?_
    rcases it_of hF with ⟨hb, hF⟩ | ⟨hb, hF⟩
    · refine RN.ict (cd := .lt) (off := 5) (tgt := 31) (by decide +kernel) (mif_lt hb) ?_
      refine RN.blk (ops := [(31, .aload_n 0)]) (pc' := 32) (lv' := [(0, .inr (.inr t)), (1, .inl a1)]) (st' := [.inr (.inr t)]) (h' := h1) (cs := []) (by decide +kernel) rfl trivial ?_
      obtain ⟨hc, hF⟩ := gd_of hF
      obtain ⟨h3, hG, hF⟩ := bv_of hF
      refine RN.cv (i := 206) (k := 152) (q2 := iX11_remember) (as := [.inr (.inr t)]) (r := []) (v := none) (h1 := h3) (by decide +kernel) rfl rfl rfl rfl rfl (rcv_ok hc.1) (CX11_remember (d := d) hG) ?_
      obtain ⟨hc, hF⟩ := gd_of hF
      refine RN.blk (ops := [(35, .aload_n 0), (36, .getfield 41), (39, .getfield 110), (42, .iload_n 1)]) (pc' := 43) (lv' := [(0, .inr (.inr t)), (1, .inl a1)]) (st' := [.inl a1, .inr (.inr (m_rd h3 (m_rd h3 t 5) 2))]) (h' := h3) (cs := [GK h3 t 11, GK h3 (m_rd h3 t 5) 2]) (by decide +kernel) rfl hc ?_
      obtain ⟨hc, hF⟩ := gd_of hF
      obtain ⟨h4, hG, hF⟩ := bv_of hF
      refine RN.cv (i := 219) (k := 102) (q2 := iX10_queue) (as := [.inr (.inr (m_rd h3 (m_rd h3 t 5) 2)), .inl a1]) (r := []) (v := none) (h1 := h4) (by decide +kernel) rfl rfl rfl rfl rfl (rcv_ok hc.1) (CX10_queue (d := d + 3) hG) ?_
      obtain ⟨hc, hF⟩ := gd_of hF
      refine RN.blk (ops := [(46, .aload_n 0), (47, .getfield 41), (50, .getfield 110), (53, .getfield 159)]) (pc' := 56) (lv' := [(0, .inr (.inr t)), (1, .inl a1)]) (st' := [.inl (m_rd h4 (m_rd h4 (m_rd h4 t 5) 2) 1)]) (h' := h4) (cs := [GK h4 t 11, GK h4 (m_rd h4 t 5) 2, GK h4 (m_rd h4 (m_rd h4 t 5) 2) 10]) (by decide +kernel) rfl hc ?_
      exact RN.iR (by decide +kernel) rfl hF
    · refine RN.icf (cd := .lt) (off := 5) (tgt := 31) (by decide +kernel) (mif_ltn hb) ?_
      refine RN.blk (ops := [(29, .iconst (-1))]) (pc' := 30) (lv' := [(0, .inr (.inr t)), (1, .inl a1)]) (st' := [.inl (-1)]) (h' := h1) (cs := []) (by decide +kernel) rfl trivial ?_
      exact RN.iR (by decide +kernel) rfl hF
noncomputable def FX11_tie (t : Int) (a1 : Int) (h : MH) : Option (Int × MH) :=
  gd [GK h t 11, GK h (m_rd h t 5) 2] (
   gd [GK h (m_rd h (m_rd h t 5) 0) 8] (bd (FX8_hasHole (m_rd h (m_rd h t 5) 0) a1 h) (fun x2 h1 =>
    (if x2 = 0 then
     some ((-1), h1)
    else
     gd [GK h1 t 11, GK h1 (m_rd h1 t 5) 2, GK h1 (m_rd h1 (m_rd h1 t 5) 2) 10, GI h1 (m_rd h1 (m_rd h1 (m_rd h1 t 5) 2) 3) 1 a1] (
      (if (m_rd h1 (m_rd h1 (m_rd h1 (m_rd h1 t 5) 2) 3) a1) = 0 then
       some ((-1), h1)
      else
       gd [GK h1 t 11] (bv (FX11_remember t h1) (fun h3 =>
        gd [GK h3 t 11, GK h3 (m_rd h3 t 5) 2, GK h3 (m_rd h3 (m_rd h3 t 5) 2) 10, GI h3 (m_rd h3 (m_rd h3 (m_rd h3 t 5) 2) 3) 1 a1, GK h3 t 11, GK h3 (m_rd h3 t 5) 2] (
         gd [GK h3 (m_rd h3 (m_rd h3 t 5) 2) 10] (bv (FX10_bagUp (m_rd h3 (m_rd h3 t 5) 2) a1 h3) (fun h4 =>
          some ((m_rd h3 (m_rd h3 (m_rd h3 (m_rd h3 t 5) 2) 3) a1), h4))))))))))))
theorem CX11_tie {d : Nat} {t : Int} {a1 : Int} {h : MH} {r : Int × MH} (hF : FX11_tie t a1 h = some r) : RN xs L iX11_tie (d + 4) 0 (lvE 0 [.inr (.inr t), .inl a1]) [] h (RIo r) := by
  unfold FX11_tie at hF
  obtain ⟨hc, hF⟩ := gd_of hF
  refine RN.blk (ops := [(0, .aload_n 0), (1, .getfield 41), (4, .getfield 130), (7, .iload_n 1)]) (pc' := 8) (lv' := [(0, .inr (.inr t)), (1, .inl a1)]) (st' := [.inl a1, .inr (.inr (m_rd h (m_rd h t 5) 0))]) (h' := h) (cs := [GK h t 11, GK h (m_rd h t 5) 2]) (by decide +kernel) rfl hc ?_
  obtain ⟨hc, hF⟩ := gd_of hF
  obtain ⟨x2, h1, hG, hF⟩ := bd_of hF
  refine RN.cv (i := 131) (k := 81) (q2 := iX8_hasHole) (as := [.inr (.inr (m_rd h (m_rd h t 5) 0)), .inl a1]) (r := []) (v := some (.inl x2)) (h1 := h1) (by decide +kernel) rfl rfl rfl rfl rfl (rcv_ok hc.1) (CX8_hasHole (d := d + 3) hG) ?_
  rcases it_of hF with ⟨hb, hF⟩ | ⟨hb, hF⟩
  · refine RN.ift (cd := .eq) (off := 18) (tgt := 29) (by decide +kernel) (mif_eq hb) ?_
    refine RN.blk (ops := [(29, .iconst (-1))]) (pc' := 30) (lv' := [(0, .inr (.inr t)), (1, .inl a1)]) (st' := [.inl (-1)]) (h' := h1) (cs := []) (by decide +kernel) rfl trivial ?_
    exact RN.iR (by decide +kernel) rfl hF
  · refine RN.iff (cd := .eq) (off := 18) (tgt := 29) (by decide +kernel) (mif_eqn hb) ?_
    obtain ⟨hc, hF⟩ := gd_of hF
    refine RN.blk (ops := [(14, .aload_n 0), (15, .getfield 41), (18, .getfield 110), (21, .getfield 141), (24, .iload_n 1), (25, .iaload)]) (pc' := 26) (lv' := [(0, .inr (.inr t)), (1, .inl a1)]) (st' := [.inl (m_rd h1 (m_rd h1 (m_rd h1 (m_rd h1 t 5) 2) 3) a1)]) (h' := h1) (cs := [GK h1 t 11, GK h1 (m_rd h1 t 5) 2, GK h1 (m_rd h1 (m_rd h1 t 5) 2) 10, GI h1 (m_rd h1 (m_rd h1 (m_rd h1 t 5) 2) 3) 1 a1]) (by decide +kernel) rfl hc ?_
    rcases it_of hF with ⟨hb, hF⟩ | ⟨hb, hF⟩
    · refine RN.iff (cd := .ne) (off := 5) (tgt := 31) (by decide +kernel) (mif_nen hb) ?_
      refine RN.blk (ops := [(29, .iconst (-1))]) (pc' := 30) (lv' := [(0, .inr (.inr t)), (1, .inl a1)]) (st' := [.inl (-1)]) (h' := h1) (cs := []) (by decide +kernel) rfl trivial ?_
      exact RN.iR (by decide +kernel) rfl hF
    · refine RN.ift (cd := .ne) (off := 5) (tgt := 31) (by decide +kernel) (mif_ne hb) ?_
      refine RN.blk (ops := [(31, .aload_n 0)]) (pc' := 32) (lv' := [(0, .inr (.inr t)), (1, .inl a1)]) (st' := [.inr (.inr t)]) (h' := h1) (cs := []) (by decide +kernel) rfl trivial ?_
      obtain ⟨hc, hF⟩ := gd_of hF
      obtain ⟨h3, hG, hF⟩ := bv_of hF
      refine RN.cv (i := 206) (k := 152) (q2 := iX11_remember) (as := [.inr (.inr t)]) (r := []) (v := none) (h1 := h3) (by decide +kernel) rfl rfl rfl rfl rfl (rcv_ok hc.1) (CX11_remember (d := d) hG) ?_
      obtain ⟨hc, hF⟩ := gd_of hF
      refine RN.blk (ops := [(35, .aload_n 0), (36, .getfield 41), (39, .getfield 110), (42, .getfield 141), (45, .iload_n 1), (46, .iaload), (47, .istore_n 2), (48, .aload_n 0), (49, .getfield 41), (52, .getfield 110), (55, .iload_n 1)]) (pc' := 56) (lv' := [(2, .inl (m_rd h3 (m_rd h3 (m_rd h3 (m_rd h3 t 5) 2) 3) a1)), (0, .inr (.inr t)), (1, .inl a1)]) (st' := [.inl a1, .inr (.inr (m_rd h3 (m_rd h3 t 5) 2))]) (h' := h3) (cs := [GK h3 t 11, GK h3 (m_rd h3 t 5) 2, GK h3 (m_rd h3 (m_rd h3 t 5) 2) 10, GI h3 (m_rd h3 (m_rd h3 (m_rd h3 t 5) 2) 3) 1 a1, GK h3 t 11, GK h3 (m_rd h3 t 5) 2]) (by decide +kernel) rfl hc ?_
      obtain ⟨hc, hF⟩ := gd_of hF
      obtain ⟨h4, hG, hF⟩ := bv_of hF
      refine RN.cv (i := 222) (k := 104) (q2 := iX10_bagUp) (as := [.inr (.inr (m_rd h3 (m_rd h3 t 5) 2)), .inl a1]) (r := []) (v := none) (h1 := h4) (by decide +kernel) rfl rfl rfl rfl rfl (rcv_ok hc.1) (CX10_bagUp (d := d + 2) hG) ?_
      refine RN.blk (ops := [(59, .iload_n 2)]) (pc' := 60) (lv' := [(2, .inl (m_rd h3 (m_rd h3 (m_rd h3 (m_rd h3 t 5) 2) 3) a1)), (0, .inr (.inr t)), (1, .inl a1)]) (st' := [.inl (m_rd h3 (m_rd h3 (m_rd h3 (m_rd h3 t 5) 2) 3) a1)]) (h' := h4) (cs := []) (by decide +kernel) rfl trivial ?_
      exact RN.iR (by decide +kernel) rfl hF
noncomputable def FX11_enter (t : Int) (a1 : Int) (a2 : Int) (a3 : Int) (h : MH) : Option (Int × MH) :=
  gd [GK h t 11, GK h (m_rd h t 5) 2] (
   gd [GK h (m_rd h (m_rd h t 5) 0) 8] (bd (FX8_hasPrefix (m_rd h (m_rd h t 5) 0) a1 a2 h) (fun x2 h1 =>
    (if x2 = 0 then
     some ((-1), h1)
    else
     gd [GK h1 t 11, GK h1 (m_rd h1 t 5) 2] (
      gd [GK h1 (m_rd h1 (m_rd h1 t 5) 0) 8] (bd (FX8_hasHole (m_rd h1 (m_rd h1 t 5) 0) a3 h1) (fun x4 h3 =>
       (if x4 = 0 then
        some ((-1), h3)
       else
        gd [GK h3 t 11, GK h3 (m_rd h3 t 5) 2, GK h3 (m_rd h3 (m_rd h3 t 5) 2) 10] (
         gd [GK h3 (m_rd h3 (m_rd h3 (m_rd h3 t 5) 2) 0) 4] (bd (FX4_canTake (m_rd h3 (m_rd h3 (m_rd h3 t 5) 2) 0) a1 a2 h3) (fun x6 h5 =>
          (if x6 = 0 then
           some ((-1), h5)
          else
           gd [GK h5 t 11] (bv (FX11_remember t h5) (fun h7 =>
            gd [GK h7 t 11, GK h7 (m_rd h7 t 5) 2, GK h7 (m_rd h7 (m_rd h7 t 5) 2) 10] (
             gd [GK h7 (m_rd h7 (m_rd h7 (m_rd h7 t 5) 2) 0) 4] (bd (FX4_put (m_rd h7 (m_rd h7 (m_rd h7 t 5) 2) 0) a1 a2 a3 h7) (fun x9 h8 =>
              some (x9, h8))))))))))))))))))
theorem CX11_enter {d : Nat} {t : Int} {a1 : Int} {a2 : Int} {a3 : Int} {h : MH} {r : Int × MH} (hF : FX11_enter t a1 a2 a3 h = some r) : RN xs L iX11_enter (d + 4) 0 (lvE 0 [.inr (.inr t), .inl a1, .inl a2, .inl a3]) [] h (RIo r) := by
  unfold FX11_enter at hF
  obtain ⟨hc, hF⟩ := gd_of hF
  refine RN.blk (ops := [(0, .aload_n 0), (1, .getfield 41), (4, .getfield 130), (7, .iload_n 1), (8, .iload_n 2)]) (pc' := 9) (lv' := [(0, .inr (.inr t)), (1, .inl a1), (2, .inl a2), (3, .inl a3)]) (st' := [.inl a2, .inl a1, .inr (.inr (m_rd h (m_rd h t 5) 0))]) (h' := h) (cs := [GK h t 11, GK h (m_rd h t 5) 2]) (by decide +kernel) rfl hc ?_
  obtain ⟨hc, hF⟩ := gd_of hF
  obtain ⟨x2, h1, hG, hF⟩ := bd_of hF
  refine RN.cv (i := 225) (k := 83) (q2 := iX8_hasPrefix) (as := [.inr (.inr (m_rd h (m_rd h t 5) 0)), .inl a1, .inl a2]) (r := []) (v := some (.inl x2)) (h1 := h1) (by decide +kernel) rfl rfl rfl rfl rfl (rcv_ok hc.1) (CX8_hasPrefix (d := d + 2) hG) ?_
  rcases it_of hF with ⟨hb, hF⟩ | ⟨hb, hF⟩
  · refine RN.ift (cd := .eq) (off := 35) (tgt := 47) (by decide +kernel) (mif_eq hb) ?_
    refine RN.blk (ops := [(47, .iconst (-1))]) (pc' := 48) (lv' := [(0, .inr (.inr t)), (1, .inl a1), (2, .inl a2), (3, .inl a3)]) (st' := [.inl (-1)]) (h' := h1) (cs := []) (by decide +kernel) rfl trivial ?_
    exact RN.iR (by decide +kernel) rfl hF
  · refine RN.iff (cd := .eq) (off := 35) (tgt := 47) (by decide +kernel) (mif_eqn hb) ?_
    obtain ⟨hc, hF⟩ := gd_of hF
    refine RN.blk (ops := [(15, .aload_n 0), (16, .getfield 41), (19, .getfield 130), (22, .iload_n 3)]) (pc' := 23) (lv' := [(0, .inr (.inr t)), (1, .inl a1), (2, .inl a2), (3, .inl a3)]) (st' := [.inl a3, .inr (.inr (m_rd h1 (m_rd h1 t 5) 0))]) (h' := h1) (cs := [GK h1 t 11, GK h1 (m_rd h1 t 5) 2]) (by decide +kernel) rfl hc ?_
    obtain ⟨hc, hF⟩ := gd_of hF
    obtain ⟨x4, h3, hG, hF⟩ := bd_of hF
    refine RN.cv (i := 131) (k := 81) (q2 := iX8_hasHole) (as := [.inr (.inr (m_rd h1 (m_rd h1 t 5) 0)), .inl a3]) (r := []) (v := some (.inl x4)) (h1 := h3) (by decide +kernel) rfl rfl rfl rfl rfl (rcv_ok hc.1) (CX8_hasHole (d := d + 3) hG) ?_
    rcases it_of hF with ⟨hb, hF⟩ | ⟨hb, hF⟩
    · refine RN.ift (cd := .eq) (off := 21) (tgt := 47) (by decide +kernel) (mif_eq hb) ?_
      refine RN.blk (ops := [(47, .iconst (-1))]) (pc' := 48) (lv' := [(0, .inr (.inr t)), (1, .inl a1), (2, .inl a2), (3, .inl a3)]) (st' := [.inl (-1)]) (h' := h3) (cs := []) (by decide +kernel) rfl trivial ?_
      exact RN.iR (by decide +kernel) rfl hF
    · refine RN.iff (cd := .eq) (off := 21) (tgt := 47) (by decide +kernel) (mif_eqn hb) ?_
      obtain ⟨hc, hF⟩ := gd_of hF
      refine RN.blk (ops := [(29, .aload_n 0), (30, .getfield 41), (33, .getfield 110), (36, .getfield 113), (39, .iload_n 1), (40, .iload_n 2)]) (pc' := 41) (lv' := [(0, .inr (.inr t)), (1, .inl a1), (2, .inl a2), (3, .inl a3)]) (st' := [.inl a2, .inl a1, .inr (.inr (m_rd h3 (m_rd h3 (m_rd h3 t 5) 2) 0))]) (h' := h3) (cs := [GK h3 t 11, GK h3 (m_rd h3 t 5) 2, GK h3 (m_rd h3 (m_rd h3 t 5) 2) 10]) (by decide +kernel) rfl hc ?_
      obtain ⟨hc, hF⟩ := gd_of hF
      obtain ⟨x6, h5, hG, hF⟩ := bd_of hF
      refine RN.cv (i := 229) (k := 48) (q2 := iX4_canTake) (as := [.inr (.inr (m_rd h3 (m_rd h3 (m_rd h3 t 5) 2) 0)), .inl a1, .inl a2]) (r := []) (v := some (.inl x6)) (h1 := h5) (by decide +kernel) rfl rfl rfl rfl rfl (rcv_ok hc.1) (CX4_canTake (d := d + 2) hG) ?_
      rcases it_of hF with ⟨hb, hF⟩ | ⟨hb, hF⟩
      · refine RN.iff (cd := .ne) (off := 5) (tgt := 49) (by decide +kernel) (mif_nen hb) ?_
        refine RN.blk (ops := [(47, .iconst (-1))]) (pc' := 48) (lv' := [(0, .inr (.inr t)), (1, .inl a1), (2, .inl a2), (3, .inl a3)]) (st' := [.inl (-1)]) (h' := h5) (cs := []) (by decide +kernel) rfl trivial ?_
        exact RN.iR (by decide +kernel) rfl hF
      · refine RN.ift (cd := .ne) (off := 5) (tgt := 49) (by decide +kernel) (mif_ne hb) ?_
        refine RN.blk (ops := [(49, .aload_n 0)]) (pc' := 50) (lv' := [(0, .inr (.inr t)), (1, .inl a1), (2, .inl a2), (3, .inl a3)]) (st' := [.inr (.inr t)]) (h' := h5) (cs := []) (by decide +kernel) rfl trivial ?_
        obtain ⟨hc, hF⟩ := gd_of hF
        obtain ⟨h7, hG, hF⟩ := bv_of hF
        refine RN.cv (i := 206) (k := 152) (q2 := iX11_remember) (as := [.inr (.inr t)]) (r := []) (v := none) (h1 := h7) (by decide +kernel) rfl rfl rfl rfl rfl (rcv_ok hc.1) (CX11_remember (d := d) hG) ?_
        obtain ⟨hc, hF⟩ := gd_of hF
        refine RN.blk (ops := [(53, .aload_n 0), (54, .getfield 41), (57, .getfield 110), (60, .getfield 113), (63, .iload_n 1), (64, .iload_n 2), (65, .iload_n 3)]) (pc' := 66) (lv' := [(0, .inr (.inr t)), (1, .inl a1), (2, .inl a2), (3, .inl a3)]) (st' := [.inl a3, .inl a2, .inl a1, .inr (.inr (m_rd h7 (m_rd h7 (m_rd h7 t 5) 2) 0))]) (h' := h7) (cs := [GK h7 t 11, GK h7 (m_rd h7 t 5) 2, GK h7 (m_rd h7 (m_rd h7 t 5) 2) 10]) (by decide +kernel) rfl hc ?_
        obtain ⟨hc, hF⟩ := gd_of hF
        obtain ⟨x9, h8, hG, hF⟩ := bd_of hF
        refine RN.cv (i := 232) (k := 49) (q2 := iX4_put) (as := [.inr (.inr (m_rd h7 (m_rd h7 (m_rd h7 t 5) 2) 0)), .inl a1, .inl a2, .inl a3]) (r := []) (v := some (.inl x9)) (h1 := h8) (by decide +kernel) rfl rfl rfl rfl rfl (rcv_ok hc.1) (CX4_put (d := d + 2) hG) ?_
        exact RN.iR (by decide +kernel) rfl hF
noncomputable def FX11_strike (t : Int) (a1 : Int) (h : MH) : Option (Int × MH) :=
  gd [GK h t 11, GK h (m_rd h t 5) 2, GK h (m_rd h (m_rd h t 5) 2) 10] (
   gd [GK h (m_rd h (m_rd h (m_rd h t 5) 2) 0) 4] (bd (FX4_has (m_rd h (m_rd h (m_rd h t 5) 2) 0) a1 h) (fun x2 h1 =>
    (if x2 = 0 then
     some ((-1), h1)
    else
     gd [GK h1 t 11] (bv (FX11_remember t h1) (fun h3 =>
      gd [GK h3 t 11, GK h3 (m_rd h3 t 5) 2, GK h3 (m_rd h3 (m_rd h3 t 5) 2) 10] (
       gd [GK h3 (m_rd h3 (m_rd h3 (m_rd h3 t 5) 2) 0) 4] (bv (FX4_drop (m_rd h3 (m_rd h3 (m_rd h3 t 5) 2) 0) a1 h3) (fun h4 =>
        gd [GK h4 t 11, GK h4 (m_rd h4 t 5) 2, GK h4 (m_rd h4 (m_rd h4 t 5) 2) 10, GK h4 (m_rd h4 (m_rd h4 (m_rd h4 t 5) 2) 0) 4] (
         some ((m_rd h4 (m_rd h4 (m_rd h4 (m_rd h4 t 5) 2) 0) 0), h4)))))))))))
theorem CX11_strike {d : Nat} {t : Int} {a1 : Int} {h : MH} {r : Int × MH} (hF : FX11_strike t a1 h = some r) : RN xs L iX11_strike (d + 4) 0 (lvE 0 [.inr (.inr t), .inl a1]) [] h (RIo r) := by
  unfold FX11_strike at hF
  obtain ⟨hc, hF⟩ := gd_of hF
  refine RN.blk (ops := [(0, .aload_n 0), (1, .getfield 41), (4, .getfield 110), (7, .getfield 113), (10, .iload_n 1)]) (pc' := 11) (lv' := [(0, .inr (.inr t)), (1, .inl a1)]) (st' := [.inl a1, .inr (.inr (m_rd h (m_rd h (m_rd h t 5) 2) 0))]) (h' := h) (cs := [GK h t 11, GK h (m_rd h t 5) 2, GK h (m_rd h (m_rd h t 5) 2) 10]) (by decide +kernel) rfl hc ?_
  obtain ⟨hc, hF⟩ := gd_of hF
  obtain ⟨x2, h1, hG, hF⟩ := bd_of hF
  refine RN.cv (i := 147) (k := 46) (q2 := iX4_has) (as := [.inr (.inr (m_rd h (m_rd h (m_rd h t 5) 2) 0)), .inl a1]) (r := []) (v := some (.inl x2)) (h1 := h1) (by decide +kernel) rfl rfl rfl rfl rfl (rcv_ok hc.1) (CX4_has (d := d + 3) hG) ?_
  rcases it_of hF with ⟨hb, hF⟩ | ⟨hb, hF⟩
  · refine RN.iff (cd := .ne) (off := 5) (tgt := 19) (by decide +kernel) (mif_nen hb) ?_
    refine RN.blk (ops := [(17, .iconst (-1))]) (pc' := 18) (lv' := [(0, .inr (.inr t)), (1, .inl a1)]) (st' := [.inl (-1)]) (h' := h1) (cs := []) (by decide +kernel) rfl trivial ?_
    exact RN.iR (by decide +kernel) rfl hF
  · refine RN.ift (cd := .ne) (off := 5) (tgt := 19) (by decide +kernel) (mif_ne hb) ?_
    refine RN.blk (ops := [(19, .aload_n 0)]) (pc' := 20) (lv' := [(0, .inr (.inr t)), (1, .inl a1)]) (st' := [.inr (.inr t)]) (h' := h1) (cs := []) (by decide +kernel) rfl trivial ?_
    obtain ⟨hc, hF⟩ := gd_of hF
    obtain ⟨h3, hG, hF⟩ := bv_of hF
    refine RN.cv (i := 206) (k := 152) (q2 := iX11_remember) (as := [.inr (.inr t)]) (r := []) (v := none) (h1 := h3) (by decide +kernel) rfl rfl rfl rfl rfl (rcv_ok hc.1) (CX11_remember (d := d) hG) ?_
    obtain ⟨hc, hF⟩ := gd_of hF
    refine RN.blk (ops := [(23, .aload_n 0), (24, .getfield 41), (27, .getfield 110), (30, .getfield 113), (33, .iload_n 1)]) (pc' := 34) (lv' := [(0, .inr (.inr t)), (1, .inl a1)]) (st' := [.inl a1, .inr (.inr (m_rd h3 (m_rd h3 (m_rd h3 t 5) 2) 0))]) (h' := h3) (cs := [GK h3 t 11, GK h3 (m_rd h3 t 5) 2, GK h3 (m_rd h3 (m_rd h3 t 5) 2) 10]) (by decide +kernel) rfl hc ?_
    obtain ⟨hc, hF⟩ := gd_of hF
    obtain ⟨h4, hG, hF⟩ := bv_of hF
    refine RN.cv (i := 236) (k := 50) (q2 := iX4_drop) (as := [.inr (.inr (m_rd h3 (m_rd h3 (m_rd h3 t 5) 2) 0)), .inl a1]) (r := []) (v := none) (h1 := h4) (by decide +kernel) rfl rfl rfl rfl rfl (rcv_ok hc.1) (CX4_drop (d := d + 2) hG) ?_
    obtain ⟨hc, hF⟩ := gd_of hF
    refine RN.blk (ops := [(37, .aload_n 0), (38, .getfield 41), (41, .getfield 110), (44, .getfield 113), (47, .getfield 117)]) (pc' := 50) (lv' := [(0, .inr (.inr t)), (1, .inl a1)]) (st' := [.inl (m_rd h4 (m_rd h4 (m_rd h4 (m_rd h4 t 5) 2) 0) 0)]) (h' := h4) (cs := [GK h4 t 11, GK h4 (m_rd h4 t 5) 2, GK h4 (m_rd h4 (m_rd h4 t 5) 2) 10, GK h4 (m_rd h4 (m_rd h4 (m_rd h4 t 5) 2) 0) 4]) (by decide +kernel) rfl hc ?_
    exact RN.iR (by decide +kernel) rfl hF
noncomputable def FX11_undo (t : Int) (h : MH) : Option (Int × MH) :=
  gd [GK h t 11] (
   (if (m_rd h t 10) = 0 then
    some ((-1), h)
   else
    gd [GK h t 11, (20 : Int) ≠ 0, GK h t 11, GK h t 11, GK h t 11] (
     hl (m_wr (m_wr h t 9 (Int.tmod (m_w32 ((m_w32 ((m_rd h t 9) + 20)) - 1)) 20)) t 10 (m_w32 ((m_rd (m_wr h t 9 (Int.tmod (m_w32 ((m_w32 ((m_rd h t 9) + 20)) - 1)) 20)) t 10) - 1))) (fun h1 =>
      gd [GK h1 t 11, GK h1 (m_rd h1 t 5) 2, GK h1 t 11, GK h1 t 11, GA h1 (m_rd h1 t 8) (m_rd h1 t 9)] (
       gd [GK h1 (m_rd h1 (m_rd h1 t 5) 2) 10] (bv (FX10_copyFrom (m_rd h1 (m_rd h1 t 5) 2) (m_rd h1 (m_rd h1 t 8) (m_rd h1 t 9)) h1) (fun h2 =>
        gd [GK h2 t 11] (
         some ((m_rd h2 t 10), h2)))))))))
theorem CX11_undo {d : Nat} {t : Int} {h : MH} {r : Int × MH} (hF : FX11_undo t h = some r) : RN xs L iX11_undo (d + 3) 0 (lvE 0 [.inr (.inr t)]) [] h (RIo r) := by
  unfold FX11_undo at hF
  obtain ⟨hc, hF⟩ := gd_of hF
  refine RN.blk (ops := [(0, .aload_n 0), (1, .getfield 107)]) (pc' := 4) (lv' := [(0, .inr (.inr t))]) (st' := [.inl (m_rd h t 10)]) (h' := h) (cs := [GK h t 11]) (by decide +kernel) rfl hc ?_
  rcases it_of hF with ⟨hb, hF⟩ | ⟨hb, hF⟩
  · refine RN.iff (cd := .ne) (off := 5) (tgt := 9) (by decide +kernel) (mif_nen hb) ?_
    refine RN.blk (ops := [(7, .iconst (-1))]) (pc' := 8) (lv' := [(0, .inr (.inr t))]) (st' := [.inl (-1)]) (h' := h) (cs := []) (by decide +kernel) rfl trivial ?_
    exact RN.iR (by decide +kernel) rfl hF
  · refine RN.ift (cd := .ne) (off := 5) (tgt := 9) (by decide +kernel) (mif_ne hb) ?_
    obtain ⟨hc, hF⟩ := gd_of hF
    refine RN.blk (ops := [(9, .aload_n 0), (10, .aload_n 0), (11, .getfield 239), (14, .bipush 20), (16, .iadd), (17, .iconst 1), (18, .isub), (19, .bipush 20), (21, .irem), (22, .putfield 239), (25, .aload_n 0), (26, .dup), (27, .getfield 107), (30, .iconst 1), (31, .isub), (32, .putfield 107)]) (pc' := 35) (lv' := [(0, .inr (.inr t))]) (st' := []) (h' := (m_wr (m_wr h t 9 (Int.tmod (m_w32 ((m_w32 ((m_rd h t 9) + 20)) - 1)) 20)) t 10 (m_w32 ((m_rd (m_wr h t 9 (Int.tmod (m_w32 ((m_w32 ((m_rd h t 9) + 20)) - 1)) 20)) t 10) - 1)))) (cs := [GK h t 11, (20 : Int) ≠ 0, GK h t 11, GK h t 11, GK h t 11]) (by decide +kernel) rfl hc ?_
    obtain ⟨h1, he, hF⟩ := hl_of hF
    refine RN.hl he ?_
    obtain ⟨hc, hF⟩ := gd_of hF
    refine RN.blk (ops := [(35, .aload_n 0), (36, .getfield 41), (39, .getfield 110), (42, .aload_n 0), (43, .getfield 55), (46, .aload_n 0), (47, .getfield 239), (50, .aaload)]) (pc' := 51) (lv' := [(0, .inr (.inr t))]) (st' := [.inr (.inr (m_rd h1 (m_rd h1 t 8) (m_rd h1 t 9))), .inr (.inr (m_rd h1 (m_rd h1 t 5) 2))]) (h' := h1) (cs := [GK h1 t 11, GK h1 (m_rd h1 t 5) 2, GK h1 t 11, GK h1 t 11, GA h1 (m_rd h1 t 8) (m_rd h1 t 9)]) (by decide +kernel) rfl hc ?_
    obtain ⟨hc, hF⟩ := gd_of hF
    obtain ⟨h2, hG, hF⟩ := bv_of hF
    refine RN.cv (i := 212) (k := 101) (q2 := iX10_copyFrom) (as := [.inr (.inr (m_rd h1 (m_rd h1 t 5) 2)), .inr (.inr (m_rd h1 (m_rd h1 t 8) (m_rd h1 t 9)))]) (r := []) (v := none) (h1 := h2) (by decide +kernel) rfl rfl rfl rfl rfl (rcv_ok hc.1) (CX10_copyFrom (d := d) hG) ?_
    obtain ⟨hc, hF⟩ := gd_of hF
    refine RN.blk (ops := [(54, .aload_n 0), (55, .getfield 107)]) (pc' := 58) (lv' := [(0, .inr (.inr t))]) (st' := [.inl (m_rd h2 t 10)]) (h' := h2) (cs := [GK h2 t 11]) (by decide +kernel) rfl hc ?_
    exact RN.iR (by decide +kernel) rfl hF
noncomputable def FX11_drawNow (t : Int) (h : MH) : Option (MH) :=
  gd [GK h t 11, GK h t 11, GK h (m_rd h t 5) 2, GK h t 11, GK h (m_rd h t 5) 2, GK h (m_rd h (m_rd h t 5) 2) 10] (
   gd [GK h (m_rd h t 11) 1] (bv (FX1_draw (m_rd h t 11) (m_rd h (m_rd h t 5) 0) (m_rd h (m_rd h (m_rd h t 5) 2) 0) h) (fun h1 =>
    some h1)))
theorem CX11_drawNow {d : Nat} {t : Int} {h : MH} {r : MH} (hF : FX11_drawNow t h = some r) : RN xs L iX11_drawNow (d + 3) 0 (lvE 0 [.inr (.inr t)]) [] h (RVo r) := by
  unfold FX11_drawNow at hF
  obtain ⟨hc, hF⟩ := gd_of hF
  refine RN.blk (ops := [(0, .aload_n 0), (1, .getfield 63), (4, .aload_n 0), (5, .getfield 41), (8, .getfield 130), (11, .aload_n 0), (12, .getfield 41), (15, .getfield 110), (18, .getfield 113)]) (pc' := 21) (lv' := [(0, .inr (.inr t))]) (st' := [.inr (.inr (m_rd h (m_rd h (m_rd h t 5) 2) 0)), .inr (.inr (m_rd h (m_rd h t 5) 0)), .inr (.inr (m_rd h t 11))]) (h' := h) (cs := [GK h t 11, GK h t 11, GK h (m_rd h t 5) 2, GK h t 11, GK h (m_rd h t 5) 2, GK h (m_rd h (m_rd h t 5) 2) 10]) (by decide +kernel) rfl hc ?_
  obtain ⟨hc, hF⟩ := gd_of hF
  obtain ⟨h1, hG, hF⟩ := bv_of hF
  refine RN.cv (i := 365) (k := 12) (q2 := iX1_draw) (as := [.inr (.inr (m_rd h t 11)), .inr (.inr (m_rd h (m_rd h t 5) 0)), .inr (.inr (m_rd h (m_rd h (m_rd h t 5) 2) 0))]) (r := []) (v := none) (h1 := h1) (by decide +kernel) rfl rfl rfl rfl rfl (rcv_ok hc.1) (CX1_draw (d := d) hG) ?_
  exact RN.vR (by decide +kernel) rfl hF
noncomputable def FX11_where (t : Int) (a1 : Int) (a2 : Int) (h : MH) : Option (Int × MH) :=
  gd [GK h t 11, GK h (m_rd h t 5) 2] (
   gd [GK h (m_rd h (m_rd h t 5) 0) 8] (bd (FX8_hasCode (m_rd h (m_rd h t 5) 0) a1 h) (fun x2 h1 =>
    (if x2 = 0 then
     some ((-1), h1)
    else
     (if a2 < 0 then
      some ((-1), h1)
     else
      (if 1 < a2 then
       some ((-1), h1)
      else
       gd [GK h1 t 11] (bv (FX11_drawNow t h1) (fun h3 =>
        gd [GK h3 t 11] (
         gd [GK h3 (m_rd h3 t 11) 1] (bd (FX1_entryFor (m_rd h3 t 11) a1 h3) (fun x5 h4 =>
          (if x5 = (-1) then
           some ((-2), h4)
          else
           (if a2 = 0 then
            gd [GK h4 t 11] (
             gd [GK h4 (m_rd h4 t 11) 1] (bd (FX1_holeFor (m_rd h4 t 11) a1 h4) (fun x9 h8 =>
              some (x9, h8))))
           else
            gd [GK h4 t 11] (
             gd [GK h4 (m_rd h4 t 11) 1] (bd (FX1_digitsFor (m_rd h4 t 11) a1 h4) (fun x7 h6 =>
              some (x7, h6)))))))))))))))))
theorem CX11_where {d : Nat} {t : Int} {a1 : Int} {a2 : Int} {h : MH} {r : Int × MH} (hF : FX11_where t a1 a2 h = some r) : RN xs L iX11_where (d + 4) 0 (lvE 0 [.inr (.inr t), .inl a1, .inl a2]) [] h (RIo r) := by
  unfold FX11_where at hF
  obtain ⟨hc, hF⟩ := gd_of hF
  refine RN.blk (ops := [(0, .aload_n 0), (1, .getfield 41), (4, .getfield 130), (7, .iload_n 1)]) (pc' := 8) (lv' := [(0, .inr (.inr t)), (1, .inl a1), (2, .inl a2)]) (st' := [.inl a1, .inr (.inr (m_rd h (m_rd h t 5) 0))]) (h' := h) (cs := [GK h t 11, GK h (m_rd h t 5) 2]) (by decide +kernel) rfl hc ?_
  obtain ⟨hc, hF⟩ := gd_of hF
  obtain ⟨x2, h1, hG, hF⟩ := bd_of hF
  refine RN.cv (i := 216) (k := 82) (q2 := iX8_hasCode) (as := [.inr (.inr (m_rd h (m_rd h t 5) 0)), .inl a1]) (r := []) (v := some (.inl x2)) (h1 := h1) (by decide +kernel) rfl rfl rfl rfl rfl (rcv_ok hc.1) (CX8_hasCode (d := d + 3) hG) ?_
  rcases it_of hF with ⟨hb, hF⟩ | ⟨hb, hF⟩
  · refine RN.ift (cd := .eq) (off := 12) (tgt := 23) (by decide +kernel) (mif_eq hb) ?_
    refine RN.blk (ops := [(23, .iconst (-1))]) (pc' := 24) (lv' := [(0, .inr (.inr t)), (1, .inl a1), (2, .inl a2)]) (st' := [.inl (-1)]) (h' := h1) (cs := []) (by decide +kernel) rfl trivial ?_
    exact RN.iR (by decide +kernel) rfl hF
  · refine RN.iff (cd := .eq) (off := 12) (tgt := 23) (by decide +kernel) (mif_eqn hb) ?_
    refine RN.blk (ops := [(14, .iload_n 2)]) (pc' := 15) (lv' := [(0, .inr (.inr t)), (1, .inl a1), (2, .inl a2)]) (st' := [.inl a2]) (h' := h1) (cs := []) (by decide +kernel) rfl trivial ?_
    rcases it_of hF with ⟨hb, hF⟩ | ⟨hb, hF⟩
    · refine RN.ift (cd := .lt) (off := 8) (tgt := 23) (by decide +kernel) (mif_lt hb) ?_
      refine RN.blk (ops := [(23, .iconst (-1))]) (pc' := 24) (lv' := [(0, .inr (.inr t)), (1, .inl a1), (2, .inl a2)]) (st' := [.inl (-1)]) (h' := h1) (cs := []) (by decide +kernel) rfl trivial ?_
      exact RN.iR (by decide +kernel) rfl hF
    · refine RN.iff (cd := .lt) (off := 8) (tgt := 23) (by decide +kernel) (mif_ltn hb) ?_
      refine RN.blk (ops := [(18, .iload_n 2), (19, .iconst 1)]) (pc' := 20) (lv' := [(0, .inr (.inr t)), (1, .inl a1), (2, .inl a2)]) (st' := [.inl 1, .inl a2]) (h' := h1) (cs := []) (by decide +kernel) rfl trivial ?_
      rcases it_of hF with ⟨hb, hF⟩ | ⟨hb, hF⟩
      · refine RN.icf (cd := .le) (off := 5) (tgt := 25) (by decide +kernel) (mif_len hb) ?_
        refine RN.blk (ops := [(23, .iconst (-1))]) (pc' := 24) (lv' := [(0, .inr (.inr t)), (1, .inl a1), (2, .inl a2)]) (st' := [.inl (-1)]) (h' := h1) (cs := []) (by decide +kernel) rfl trivial ?_
        exact RN.iR (by decide +kernel) rfl hF
      · refine RN.ict (cd := .le) (off := 5) (tgt := 25) (by decide +kernel) (mif_le hb) ?_
        refine RN.blk (ops := [(25, .aload_n 0)]) (pc' := 26) (lv' := [(0, .inr (.inr t)), (1, .inl a1), (2, .inl a2)]) (st' := [.inr (.inr t)]) (h' := h1) (cs := []) (by decide +kernel) rfl trivial ?_
        obtain ⟨hc, hF⟩ := gd_of hF
        obtain ⟨h3, hG, hF⟩ := bv_of hF
        refine RN.cv (i := 242) (k := 153) (q2 := iX11_drawNow) (as := [.inr (.inr t)]) (r := []) (v := none) (h1 := h3) (by decide +kernel) rfl rfl rfl rfl rfl (rcv_ok hc.1) (CX11_drawNow (d := d) hG) ?_
        obtain ⟨hc, hF⟩ := gd_of hF
        refine RN.blk (ops := [(29, .aload_n 0), (30, .getfield 63), (33, .iload_n 1)]) (pc' := 34) (lv' := [(0, .inr (.inr t)), (1, .inl a1), (2, .inl a2)]) (st' := [.inl a1, .inr (.inr (m_rd h3 t 11))]) (h' := h3) (cs := [GK h3 t 11]) (by decide +kernel) rfl hc ?_
        obtain ⟨hc, hF⟩ := gd_of hF
        obtain ⟨x5, h4, hG, hF⟩ := bd_of hF
        refine RN.cv (i := 245) (k := 14) (q2 := iX1_entryFor) (as := [.inr (.inr (m_rd h3 t 11)), .inl a1]) (r := []) (v := some (.inl x5)) (h1 := h4) (by decide +kernel) rfl rfl rfl rfl rfl (rcv_ok hc.1) (CX1_entryFor (d := d + 2) hG) ?_
        refine RN.blk (ops := [(37, .iconst (-1))]) (pc' := 38) (lv' := [(0, .inr (.inr t)), (1, .inl a1), (2, .inl a2)]) (st' := [.inl (-1), .inl x5]) (h' := h4) (cs := []) (by decide +kernel) rfl trivial ?_
        rcases it_of hF with ⟨hb, hF⟩ | ⟨hb, hF⟩
        · refine RN.icf (cd := .ne) (off := 6) (tgt := 44) (by decide +kernel) (mif_nen hb) ?_
          refine RN.blk (ops := [(41, .bipush (-2))]) (pc' := 43) (lv' := [(0, .inr (.inr t)), (1, .inl a1), (2, .inl a2)]) (st' := [.inl (-2)]) (h' := h4) (cs := []) (by decide +kernel) rfl trivial ?_
          exact RN.iR (by decide +kernel) rfl hF
        · refine RN.ict (cd := .ne) (off := 6) (tgt := 44) (by decide +kernel) (mif_ne hb) ?_
          refine RN.blk (ops := [(44, .iload_n 2)]) (pc' := 45) (lv' := [(0, .inr (.inr t)), (1, .inl a1), (2, .inl a2)]) (st' := [.inl a2]) (h' := h4) (cs := []) (by decide +kernel) rfl trivial ?_
          rcases it_of hF with ⟨hb, hF⟩ | ⟨hb, hF⟩
          · refine RN.iff (cd := .ne) (off := 14) (tgt := 59) (by decide +kernel) (mif_nen hb) ?_
            obtain ⟨hc, hF⟩ := gd_of hF
            refine RN.blk (ops := [(48, .aload_n 0), (49, .getfield 63), (52, .iload_n 1)]) (pc' := 53) (lv' := [(0, .inr (.inr t)), (1, .inl a1), (2, .inl a2)]) (st' := [.inl a1, .inr (.inr (m_rd h4 t 11))]) (h' := h4) (cs := [GK h4 t 11]) (by decide +kernel) rfl hc ?_
            obtain ⟨hc, hF⟩ := gd_of hF
            obtain ⟨x9, h8, hG, hF⟩ := bd_of hF
            refine RN.cv (i := 249) (k := 15) (q2 := iX1_holeFor) (as := [.inr (.inr (m_rd h4 t 11)), .inl a1]) (r := []) (v := some (.inl x9)) (h1 := h8) (by decide +kernel) rfl rfl rfl rfl rfl (rcv_ok hc.1) (CX1_holeFor (d := d + 1) hG) ?_
            refine RN.goto (off := 11) (tgt := 67) (by decide +kernel) ?_
            exact RN.iR (by decide +kernel) rfl hF
          · refine RN.ift (cd := .ne) (off := 14) (tgt := 59) (by decide +kernel) (mif_ne hb) ?_
            obtain ⟨hc, hF⟩ := gd_of hF
            refine RN.blk (ops := [(59, .aload_n 0), (60, .getfield 63), (63, .iload_n 1)]) (pc' := 64) (lv' := [(0, .inr (.inr t)), (1, .inl a1), (2, .inl a2)]) (st' := [.inl a1, .inr (.inr (m_rd h4 t 11))]) (h' := h4) (cs := [GK h4 t 11]) (by decide +kernel) rfl hc ?_
            obtain ⟨hc, hF⟩ := gd_of hF
            obtain ⟨x7, h6, hG, hF⟩ := bd_of hF
            refine RN.cv (i := 252) (k := 16) (q2 := iX1_digitsFor) (as := [.inr (.inr (m_rd h4 t 11)), .inl a1]) (r := []) (v := some (.inl x7)) (h1 := h6) (by decide +kernel) rfl rfl rfl rfl rfl (rcv_ok hc.1) (CX1_digitsFor (d := d + 1) hG) ?_
            exact RN.iR (by decide +kernel) rfl hF
end Dc
