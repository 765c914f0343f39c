/-! METHODS AS FUNCTIONS, and their certificates (by program): X11_sent, X11_pence, X11_note, X11_ruled, X11_look, X11_seed, X11_posts, X11_image, X11_back, X12_in, X12_isOf, X12_bits, X12_power -/
section Dc
variable {xs : Int → Int} {L : Int}
noncomputable def FX11_sent_L44 (u0 : Int) (u1 : Int) (K0 : Int → MH → Option (Int × MH)) : Nat → Int → Int → MH → Option (Int × MH)
  | 0, _, _, _ => none
  | f + 1, v2, v3, h =>
    gd [GK h u0 11, GK h (m_rd h u0 5) 2, GK h (m_rd h (m_rd h u0 5) 0) 8] (
     (if v3 < (m_rd h (m_rd h (m_rd h u0 5) 0) 2) then
      gd [GK h u0 11, GK h (m_rd h u0 12) 7, GK h u0 11, GK h (m_rd h u0 5) 2] (
       gd [GK h (m_rd h (m_rd h u0 12) 1) 10] (bv (FX10_copyFrom (m_rd h (m_rd h u0 12) 1) (m_rd h (m_rd h u0 5) 1) h) (fun h1 =>
        gd [GK h1 u0 11, GK h1 (m_rd h1 u0 12) 7, GK h1 (m_rd h1 (m_rd h1 u0 12) 1) 10, GK h1 (m_rd h1 (m_rd h1 (m_rd h1 u0 12) 1) 0) 4, GI h1 (m_rd h1 (m_rd h1 (m_rd h1 (m_rd h1 u0 12) 1) 0) 3) 1 u1, GK h1 u0 11, GK h1 u0 11] (
         gd [GK h1 u0 11] (bd (FX11_ruleInForce u0 (m_wr h1 (m_rd h1 (m_rd h1 (m_rd h1 (m_rd h1 u0 12) 1) 0) 3) u1 v3)) (fun x3 h2 =>
          gd [GK h2 (m_rd (m_wr h1 (m_rd h1 (m_rd h1 (m_rd h1 (m_rd h1 u0 12) 1) 0) 3) u1 v3) u0 12) 7] (bd (FX7_agrees (m_rd (m_wr h1 (m_rd h1 (m_rd h1 (m_rd h1 (m_rd h1 u0 12) 1) 0) 3) u1 v3) u0 12) (m_rd (m_wr h1 (m_rd h1 (m_rd h1 (m_rd h1 (m_rd h1 u0 12) 1) 0) 3) u1 v3) u0 5) x3 h2) (fun x5 h4 =>
           (if x5 = 0 then
            FX11_sent_L44 u0 u1 K0 f v2 (m_w32 (v3 + 1)) h4
           else
            FX11_sent_L44 u0 u1 K0 f (m_bor v2 (m_shl 1 v3)) (m_w32 (v3 + 1)) h4)))))))))
     else
      K0 v2 h))
theorem CX11_sent_L44 {d : Nat} {u0 : Int} {u1 : Int} {K0 : Int → MH → Option (Int × MH)} {r : Int × MH} (hK0 : ∀ (w2 : Int) (h : MH), K0 w2 h = some r → RN xs L iX11_sent (d + 6) 121 [(2, .inl w2)] [] h (RIo r)) : ∀ (f : Nat) (v2 : Int) (v3 : Int) (h : MH), FX11_sent_L44 u0 u1 K0 f v2 v3 h = some r → RN xs L iX11_sent (d + 6) 44 [(0, .inr (.inr u0)), (1, .inl u1), (2, .inl v2), (3, .inl v3)] [] h (RIo r) := by
  intro f
  induction f with
  | zero =>
    intro v2 v3 h hF
    cases hF
  | succ f ih =>
    intro v2 v3 h hF
    unfold FX11_sent_L44 at hF
    obtain ⟨hc, hF⟩ := gd_of hF
    refine RN.blk (ops := [(44, .iload_n 3), (45, .aload_n 0), (46, .getfield 41), (49, .getfield 130), (52, .getfield 170)]) (pc' := 55) (lv' := [(0, .inr (.inr u0)), (1, .inl u1), (2, .inl v2), (3, .inl v3)]) (st' := [.inl (m_rd h (m_rd h (m_rd h u0 5) 0) 2), .inl v3]) (h' := h) (cs := [GK h u0 11, GK h (m_rd h u0 5) 2, GK h (m_rd h (m_rd h u0 5) 0) 8]) (by decide +kernel) rfl hc ?_
    rcases it_of hF with ⟨hb, hF⟩ | ⟨hb, hF⟩
    · refine RN.icf (cd := .ge) (off := 66) (tgt := 121) (by decide +kernel) (mif_gen hb) ?_
      obtain ⟨hc, hF⟩ := gd_of hF
      refine RN.blk (ops := [(58, .aload_n 0), (59, .getfield 72), (62, .getfield 209), (65, .aload_n 0), (66, .getfield 41), (69, .getfield 316)]) (pc' := 72) (lv' := [(0, .inr (.inr u0)), (1, .inl u1), (2, .inl v2), (3, .inl v3)]) (st' := [.inr (.inr (m_rd h (m_rd h u0 5) 1)), .inr (.inr (m_rd h (m_rd h u0 12) 1))]) (h' := h) (cs := [GK h u0 11, GK h (m_rd h u0 12) 7, GK h u0 11, GK h (m_rd h u0 5) 2]) (by decide +kernel) rfl hc ?_
      obtain ⟨hc, hF⟩ := gd_of hF
      obtain ⟨h1, hG, hF⟩ := bv_of hF
      refine RN.cv (i := 212) (k := 101) (q2 := iX10_copyFrom) (as := [.inr (.inr (m_rd h (m_rd h u0 12) 1)), .inr (.inr (m_rd h (m_rd h u0 5) 1))]) (r := []) (v := none) (h1 := h1) (by decide +kernel) rfl rfl rfl rfl rfl (rcv_ok hc.1) (CX10_copyFrom (d := d + 3) hG) ?_
      obtain ⟨hc, hF⟩ := gd_of hF
      refine RN.blk (ops := [(75, .aload_n 0), (76, .getfield 72), (79, .getfield 209), (82, .getfield 113), (85, .getfield 156), (88, .iload_n 1), (89, .iload_n 3), (90, .iastore), (91, .aload_n 0), (92, .getfield 72), (95, .aload_n 0), (96, .getfield 41), (99, .aload_n 0)]) (pc' := 100) (lv' := [(0, .inr (.inr u0)), (1, .inl u1), (2, .inl v2), (3, .inl v3)]) (st' := [.inr (.inr u0), .inr (.inr (m_rd (m_wr h1 (m_rd h1 (m_rd h1 (m_rd h1 (m_rd h1 u0 12) 1) 0) 3) u1 v3) u0 5)), .inr (.inr (m_rd (m_wr h1 (m_rd h1 (m_rd h1 (m_rd h1 (m_rd h1 u0 12) 1) 0) 3) u1 v3) u0 12))]) (h' := (m_wr h1 (m_rd h1 (m_rd h1 (m_rd h1 (m_rd h1 u0 12) 1) 0) 3) u1 v3)) (cs := [GK h1 u0 11, GK h1 (m_rd h1 u0 12) 7, GK h1 (m_rd h1 (m_rd h1 u0 12) 1) 10, GK h1 (m_rd h1 (m_rd h1 (m_rd h1 u0 12) 1) 0) 4, GI h1 (m_rd h1 (m_rd h1 (m_rd h1 (m_rd h1 u0 12) 1) 0) 3) 1 u1, GK h1 u0 11, GK h1 u0 11]) (by decide +kernel) rfl hc ?_
      obtain ⟨hc, hF⟩ := gd_of hF
      obtain ⟨x3, h2, hG, hF⟩ := bd_of hF
      refine RN.cv (i := 198) (k := 151) (q2 := iX11_ruleInForce) (as := [.inr (.inr u0)]) (r := [.inr (.inr (m_rd (m_wr h1 (m_rd h1 (m_rd h1 (m_rd h1 (m_rd h1 u0 12) 1) 0) 3) u1 v3) u0 5)), .inr (.inr (m_rd (m_wr h1 (m_rd h1 (m_rd h1 (m_rd h1 (m_rd h1 u0 12) 1) 0) 3) u1 v3) u0 12))]) (v := some (.inr (.inr x3))) (h1 := h2) (by decide +kernel) rfl rfl rfl rfl rfl (rcv_ok hc.1) (CX11_ruleInForce (d := d + 4) hG) ?_
      obtain ⟨hc, hF⟩ := gd_of hF
      obtain ⟨x5, h4, hG, hF⟩ := bd_of hF
      refine RN.cv (i := 323) (k := 75) (q2 := iX7_agrees) (as := [.inr (.inr (m_rd (m_wr h1 (m_rd h1 (m_rd h1 (m_rd h1 (m_rd h1 u0 12) 1) 0) 3) u1 v3) u0 12)), .inr (.inr (m_rd (m_wr h1 (m_rd h1 (m_rd h1 (m_rd h1 (m_rd h1 u0 12) 1) 0) 3) u1 v3) u0 5)), .inr (.inr x3)]) (r := []) (v := some (.inl x5)) (h1 := h4) (by decide +kernel) rfl rfl rfl rfl rfl (rcv_ok hc.1) (CX7_agrees (d := d) hG) ?_
      rcases it_of hF with ⟨hb, hF⟩ | ⟨hb, hF⟩
      · refine RN.ift (cd := .eq) (off := 9) (tgt := 115) (by decide +kernel) (mif_eq hb) ?_
        refine RN.blk (ops := [(115, .iinc 3 1)]) (pc' := 118) (lv' := [(3, .inl (m_w32 (v3 + 1))), (0, .inr (.inr u0)), (1, .inl u1), (2, .inl v2)]) (st' := []) (h' := h4) (cs := []) (by decide +kernel) rfl trivial ?_
        refine RN.goto (off := -74) (tgt := 44) (by decide +kernel) ?_
        exact RN.sub (ih _ _ _ hF) (sub_cons rfl (sub_cons rfl (sub_cons rfl (sub_cons rfl sub_nil))))
      · refine RN.iff (cd := .eq) (off := 9) (tgt := 115) (by decide +kernel) (mif_eqn hb) ?_
        refine RN.blk (ops := [(109, .iload_n 2), (110, .iconst 1), (111, .iload_n 3), (112, .ishl), (113, .ior), (114, .istore_n 2)]) (pc' := 115) (lv' := [(2, .inl (m_bor v2 (m_shl 1 v3))), (0, .inr (.inr u0)), (1, .inl u1), (3, .inl v3)]) (st' := []) (h' := h4) (cs := []) (by decide +kernel) rfl trivial ?_
        refine RN.blk (ops := [(115, .iinc 3 1)]) (pc' := 118) (lv' := [(3, .inl (m_w32 (v3 + 1))), (2, .inl (m_bor v2 (m_shl 1 v3))), (0, .inr (.inr u0)), (1, .inl u1)]) (st' := []) (h' := h4) (cs := []) (by decide +kernel) rfl trivial ?_
        refine RN.goto (off := -74) (tgt := 44) (by decide +kernel) ?_
        exact RN.sub (ih _ _ _ hF) (sub_cons rfl (sub_cons rfl (sub_cons rfl (sub_cons rfl sub_nil))))
    · refine RN.ict (cd := .ge) (off := 66) (tgt := 121) (by decide +kernel) (mif_ge hb) ?_
      exact RN.sub (hK0 _ _ hF) (sub_cons rfl sub_nil)
noncomputable def FX11_sent (t : Int) (a1 : Int) (h : MH) : Option (Int × MH) :=
  gd [GK h t 11, GK h (m_rd h t 5) 2, GK h (m_rd h (m_rd h t 5) 1) 10] (
   gd [GK h (m_rd h (m_rd h (m_rd h t 5) 1) 0) 4] (bd (FX4_has (m_rd h (m_rd h (m_rd h t 5) 1) 0) a1 h) (fun x2 h1 =>
    (if x2 = 0 then
     some ((-1), h1)
    else
     gd [GK h1 t 11, GK h1 t 11, GK h1 (m_rd h1 t 5) 2, GK h1 t 11, GK h1 (m_rd h1 t 5) 2] (
      gd [GK h1 (m_rd h1 t 12) 7] (bv (FX7_start (m_rd h1 t 12) (m_rd h1 (m_rd h1 t 5) 0) (m_rd h1 (m_rd h1 t 5) 1) h1) (fun h3 =>
       FX11_sent_L44 t a1 (fun w4 h5 =>
        some (w4, h5)) FU 0 0 h3)))))))
theorem CX11_sent {d : Nat} {t : Int} {a1 : Int} {h : MH} {r : Int × MH} (hF : FX11_sent t a1 h = some r) : RN xs L iX11_sent (d + 6) 0 (lvE 0 [.inr (.inr t), .inl a1]) [] h (RIo r) := by
  unfold FX11_sent at hF
  obtain ⟨hc, hF⟩ := gd_of hF
  refine RN.blk (ops := [(0, .aload_n 0), (1, .getfield 41), (4, .getfield 316), (7, .getfield 113), (10, .iload_n 1)]) (pc' := 11) (lv' := [(0, .inr (.inr t)), (1, .inl a1)]) (st' := [.inl a1, .inr (.inr (m_rd h (m_rd h (m_rd h t 5) 1) 0))]) (h' := h) (cs := [GK h t 11, GK h (m_rd h t 5) 2, GK h (m_rd h (m_rd h t 5) 1) 10]) (by decide +kernel) rfl hc ?_
  obtain ⟨hc, hF⟩ := gd_of hF
  obtain ⟨x2, h1, hG, hF⟩ := bd_of hF
  refine RN.cv (i := 147) (k := 46) (q2 := iX4_has) (as := [.inr (.inr (m_rd h (m_rd h (m_rd h t 5) 1) 0)), .inl a1]) (r := []) (v := some (.inl x2)) (h1 := h1) (by decide +kernel) rfl rfl rfl rfl rfl (rcv_ok hc.1) (CX4_has (d := d + 5) hG) ?_
  rcases it_of hF with ⟨hb, hF⟩ | ⟨hb, hF⟩
  · refine RN.iff (cd := .ne) (off := 5) (tgt := 19) (by decide +kernel) (mif_nen hb) ?_
    refine RN.blk (ops := [(17, .iconst (-1))]) (pc' := 18) (lv' := [(0, .inr (.inr t)), (1, .inl a1)]) (st' := [.inl (-1)]) (h' := h1) (cs := []) (by decide +kernel) rfl trivial ?_
    exact RN.iR (by decide +kernel) rfl hF
  · refine RN.ift (cd := .ne) (off := 5) (tgt := 19) (by decide +kernel) (mif_ne hb) ?_
    obtain ⟨hc, hF⟩ := gd_of hF
    refine RN.blk (ops := [(19, .aload_n 0), (20, .getfield 72), (23, .aload_n 0), (24, .getfield 41), (27, .getfield 130), (30, .aload_n 0), (31, .getfield 41), (34, .getfield 316)]) (pc' := 37) (lv' := [(0, .inr (.inr t)), (1, .inl a1)]) (st' := [.inr (.inr (m_rd h1 (m_rd h1 t 5) 1)), .inr (.inr (m_rd h1 (m_rd h1 t 5) 0)), .inr (.inr (m_rd h1 t 12))]) (h' := h1) (cs := [GK h1 t 11, GK h1 t 11, GK h1 (m_rd h1 t 5) 2, GK h1 t 11, GK h1 (m_rd h1 t 5) 2]) (by decide +kernel) rfl hc ?_
    obtain ⟨hc, hF⟩ := gd_of hF
    obtain ⟨h3, hG, hF⟩ := bv_of hF
    refine RN.cv (i := 317) (k := 67) (q2 := iX7_start) (as := [.inr (.inr (m_rd h1 t 12)), .inr (.inr (m_rd h1 (m_rd h1 t 5) 0)), .inr (.inr (m_rd h1 (m_rd h1 t 5) 1))]) (r := []) (v := none) (h1 := h3) (by decide +kernel) rfl rfl rfl rfl rfl (rcv_ok hc.1) (CX7_start (d := d + 2) hG) ?_
    refine RN.blk (ops := [(40, .iconst 0), (41, .istore_n 2), (42, .iconst 0), (43, .istore_n 3)]) (pc' := 44) (lv' := [(3, .inl 0), (2, .inl 0), (0, .inr (.inr t)), (1, .inl a1)]) (st' := []) (h' := h3) (cs := []) (by decide +kernel) rfl trivial ?_
    refine RN.sub (CX11_sent_L44 ?_ _ _ _ _ hF) (sub_cons rfl (sub_cons rfl (sub_cons rfl (sub_cons rfl sub_nil))))
    · intro w4 h5 hF
      refine RN.blk (ops := [(121, .iload_n 2)]) (pc' := 122) (lv' := [(2, .inl w4)]) (st' := [.inl w4]) (h' := h5) (cs := []) (by decide +kernel) rfl trivial ?_
      exact RN.iR (by decide +kernel) rfl hF
noncomputable def FX11_pence (t : Int) (a1 : Int) (a2 : Int) (h : MH) : Option (Int × MH) :=
  gd [GK h t 11, GK h (m_rd h t 5) 2] (
   gd [GK h (m_rd h (m_rd h t 5) 0) 8] (bd (FX8_hasHole (m_rd h (m_rd h t 5) 0) a2 h) (fun x2 h1 =>
    (if x2 = 0 then
     some ((-1), h1)
    else
     (if a1 < 0 then
      some ((-1), h1)
     else
      (if 9999 < a1 then
       some ((-1), h1)
      else
       gd [GK h1 t 11, GK h1 (m_rd h1 t 5) 2] (
        gd [GK h1 (m_rd h1 (m_rd h1 t 5) 2) 10] (bd (FX10_shareOf (m_rd h1 (m_rd h1 t 5) 2) a1 a2 h1) (fun x4 h3 =>
         some (x4, h3))))))))))
theorem CX11_pence {d : Nat} {t : Int} {a1 : Int} {a2 : Int} {h : MH} {r : Int × MH} (hF : FX11_pence t a1 a2 h = some r) : RN xs L iX11_pence (d + 3) 0 (lvE 0 [.inr (.inr t), .inl a1, .inl a2]) [] h (RIo r) := by
  unfold FX11_pence at hF
  obtain ⟨hc, hF⟩ := gd_of hF
  refine RN.blk (ops := [(0, .aload_n 0), (1, .getfield 41), (4, .getfield 130), (7, .iload_n 2)]) (pc' := 8) (lv' := [(0, .inr (.inr t)), (1, .inl a1), (2, .inl a2)]) (st' := [.inl a2, .inr (.inr (m_rd h (m_rd h t 5) 0))]) (h' := h) (cs := [GK h t 11, GK h (m_rd h t 5) 2]) (by decide +kernel) rfl hc ?_
  obtain ⟨hc, hF⟩ := gd_of hF
  obtain ⟨x2, h1, hG, hF⟩ := bd_of hF
  refine RN.cv (i := 131) (k := 81) (q2 := iX8_hasHole) (as := [.inr (.inr (m_rd h (m_rd h t 5) 0)), .inl a2]) (r := []) (v := some (.inl x2)) (h1 := h1) (by decide +kernel) rfl rfl rfl rfl rfl (rcv_ok hc.1) (CX8_hasHole (d := d + 2) hG) ?_
  rcases it_of hF with ⟨hb, hF⟩ | ⟨hb, hF⟩
  · refine RN.ift (cd := .eq) (off := 14) (tgt := 25) (by decide +kernel) (mif_eq hb) ?_
    refine RN.blk (ops := [(25, .iconst (-1))]) (pc' := 26) (lv' := [(0, .inr (.inr t)), (1, .inl a1), (2, .inl a2)]) (st' := [.inl (-1)]) (h' := h1) (cs := []) (by decide +kernel) rfl trivial ?_
    exact RN.iR (by decide +kernel) rfl hF
  · refine RN.iff (cd := .eq) (off := 14) (tgt := 25) (by decide +kernel) (mif_eqn hb) ?_
    refine RN.blk (ops := [(14, .iload_n 1)]) (pc' := 15) (lv' := [(0, .inr (.inr t)), (1, .inl a1), (2, .inl a2)]) (st' := [.inl a1]) (h' := h1) (cs := []) (by decide +kernel) rfl trivial ?_
    rcases it_of hF with ⟨hb, hF⟩ | ⟨hb, hF⟩
    · refine RN.ift (cd := .lt) (off := 10) (tgt := 25) (by decide +kernel) (mif_lt hb) ?_
      refine RN.blk (ops := [(25, .iconst (-1))]) (pc' := 26) (lv' := [(0, .inr (.inr t)), (1, .inl a1), (2, .inl a2)]) (st' := [.inl (-1)]) (h' := h1) (cs := []) (by decide +kernel) rfl trivial ?_
      exact RN.iR (by decide +kernel) rfl hF
    · refine RN.iff (cd := .lt) (off := 10) (tgt := 25) (by decide +kernel) (mif_ltn hb) ?_
      refine RN.blk (ops := [(18, .iload_n 1), (19, .sipush 9999)]) (pc' := 22) (lv' := [(0, .inr (.inr t)), (1, .inl a1), (2, .inl a2)]) (st' := [.inl 9999, .inl a1]) (h' := h1) (cs := []) (by decide +kernel) rfl trivial ?_
      rcases it_of hF with ⟨hb, hF⟩ | ⟨hb, hF⟩
      · refine RN.icf (cd := .le) (off := 5) (tgt := 27) (by decide +kernel) (mif_len hb) ?_
        refine RN.blk (ops := [(25, .iconst (-1))]) (pc' := 26) (lv' := [(0, .inr (.inr t)), (1, .inl a1), (2, .inl a2)]) (st' := [.inl (-1)]) (h' := h1) (cs := []) (by decide +kernel) rfl trivial ?_
        exact RN.iR (by decide +kernel) rfl hF
      · refine RN.ict (cd := .le) (off := 5) (tgt := 27) (by decide +kernel) (mif_le hb) ?_
        obtain ⟨hc, hF⟩ := gd_of hF
        refine RN.blk (ops := [(27, .aload_n 0), (28, .getfield 41), (31, .getfield 110), (34, .iload_n 1), (35, .iload_n 2)]) (pc' := 36) (lv' := [(0, .inr (.inr t)), (1, .inl a1), (2, .inl a2)]) (st' := [.inl a2, .inl a1, .inr (.inr (m_rd h1 (m_rd h1 t 5) 2))]) (h' := h1) (cs := [GK h1 t 11, GK h1 (m_rd h1 t 5) 2]) (by decide +kernel) rfl hc ?_
        obtain ⟨hc, hF⟩ := gd_of hF
        obtain ⟨x4, h3, hG, hF⟩ := bd_of hF
        refine RN.cv (i := 327) (k := 107) (q2 := iX10_shareOf) (as := [.inr (.inr (m_rd h1 (m_rd h1 t 5) 2)), .inl a1, .inl a2]) (r := []) (v := some (.inl x4)) (h1 := h3) (by decide +kernel) rfl rfl rfl rfl rfl (rcv_ok hc.1) (CX10_shareOf (d := d) hG) ?_
        exact RN.iR (by decide +kernel) rfl hF
noncomputable def FX11_note (t : Int) (a1 : Int) (a2 : Int) (a3 : Int) (h : MH) : Option (Int × MH) :=
  (if a1 = (-1) then
   gd [GK h t 11, GK h (m_rd h t 5) 2] (
    some (0, (m_wr h (m_rd h t 5) 5 0)))
  else
   jn (fun (s2 : Int) (h3 : MH) =>
    (if s2 = 0 then
     some ((-2), h3)
    else
     gd [GK h3 t 11, GK h3 (m_rd h3 t 5) 2] (
      (if (m_rd h3 (m_rd h3 t 5) 5) < 10 then
       gd [GK h3 t 11] (
        gd [GK h3 (m_rd h3 t 5) 2] (bv (FX2_addNote (m_rd h3 t 5) a1 a2 a3 h3) (fun h4 =>
         gd [GK h4 t 11, GK h4 (m_rd h4 t 5) 2] (
          some ((m_rd h4 (m_rd h4 t 5) 5), h4)))))
      else
       some ((-2), h3))))) (fun j1 =>
    jn (fun (h6 : MH) =>
     j1 0 h6) (fun j5 =>
     (if a1 < 0 then
      j5 h
     else
      (if 60 < a1 then
       j5 h
      else
       gd [GK h t 11, GK h (m_rd h t 5) 2] (
        gd [GK h (m_rd h (m_rd h t 5) 0) 8] (bd (FX8_hasHole (m_rd h (m_rd h t 5) 0) a2 h) (fun x8 h7 =>
         (if x8 = 0 then
          j5 h7
         else
          (if a3 < 0 then
           j5 h7
          else
           (if 20 < a3 then
            j5 h7
           else
            j1 1 h7)))))))))))
theorem CX11_note {d : Nat} {t : Int} {a1 : Int} {a2 : Int} {a3 : Int} {h : MH} {r : Int × MH} (hF : FX11_note t a1 a2 a3 h = some r) : RN xs L iX11_note (d + 1) 0 (lvE 0 [.inr (.inr t), .inl a1, .inl a2, .inl a3]) [] h (RIo r) := by
  unfold FX11_note at hF
  refine RN.blk (ops := [(0, .iload_n 1), (1, .iconst (-1))]) (pc' := 2) (lv' := [(0, .inr (.inr t)), (1, .inl a1), (2, .inl a2), (3, .inl a3)]) (st' := [.inl (-1), .inl a1]) (h' := h) (cs := []) (by decide +kernel) rfl trivial ?_
  rcases it_of hF with ⟨hb, hF⟩ | ⟨hb, hF⟩
  · refine RN.icf (cd := .ne) (off := 13) (tgt := 15) (by decide +kernel) (mif_nen hb) ?_
    obtain ⟨hc, hF⟩ := gd_of hF
    refine RN.blk (ops := [(5, .aload_n 0), (6, .getfield 41), (9, .iconst 0), (10, .putfield 185), (13, .iconst 0)]) (pc' := 14) (lv' := [(0, .inr (.inr t)), (1, .inl a1), (2, .inl a2), (3, .inl a3)]) (st' := [.inl 0]) (h' := (m_wr h (m_rd h t 5) 5 0)) (cs := [GK h t 11, GK h (m_rd h t 5) 2]) (by decide +kernel) rfl hc ?_
    exact RN.iR (by decide +kernel) rfl hF
  · refine RN.ict (cd := .ne) (off := 13) (tgt := 15) (by decide +kernel) (mif_ne hb) ?_
    refine RN.blk (ops := [(15, .iload_n 1)]) (pc' := 16) (lv' := [(0, .inr (.inr t)), (1, .inl a1), (2, .inl a2), (3, .inl a3)]) (st' := [.inl a1]) (h' := h) (cs := []) (by decide +kernel) rfl trivial ?_
    refine jn_use (fun j1 => ∀ (s2 : Int) (h3 : MH), j1 s2 h3 = some r → RN xs L iX11_note (d + 1) 54 [(0, .inr (.inr t)), (1, .inl a1), (2, .inl a2), (3, .inl a3)] [.inl s2] h3 (RIo r)) ?_ ?_ hF
    · intro s2 h3 hF
      refine RN.blk (ops := [(54, .istore 4), (56, .iload 4)]) (pc' := 58) (lv' := [(4, .inl s2), (0, .inr (.inr t)), (1, .inl a1), (2, .inl a2), (3, .inl a3)]) (st' := [.inl s2]) (h' := h3) (cs := []) (by decide +kernel) rfl trivial ?_
      rcases it_of hF with ⟨hb, hF⟩ | ⟨hb, hF⟩
      · refine RN.ift (cd := .eq) (off := 15) (tgt := 73) (by decide +kernel) (mif_eq hb) ?_
        refine RN.blk (ops := [(73, .bipush (-2))]) (pc' := 75) (lv' := [(4, .inl s2), (0, .inr (.inr t)), (1, .inl a1), (2, .inl a2), (3, .inl a3)]) (st' := [.inl (-2)]) (h' := h3) (cs := []) (by decide +kernel) rfl trivial ?_
        exact RN.iR (by decide +kernel) rfl hF
      · refine RN.iff (cd := .eq) (off := 15) (tgt := 73) (by decide +kernel) (mif_eqn hb) ?_
        obtain ⟨hc, hF⟩ := gd_of hF
        refine RN.blk (ops := [(61, .aload_n 0), (62, .getfield 41), (65, .getfield 185), (68, .bipush 10)]) (pc' := 70) (lv' := [(4, .inl s2), (0, .inr (.inr t)), (1, .inl a1), (2, .inl a2), (3, .inl a3)]) (st' := [.inl 10, .inl (m_rd h3 (m_rd h3 t 5) 5)]) (h' := h3) (cs := [GK h3 t 11, GK h3 (m_rd h3 t 5) 2]) (by decide +kernel) rfl hc ?_
        rcases it_of hF with ⟨hb, hF⟩ | ⟨hb, hF⟩
        · refine RN.ict (cd := .lt) (off := 6) (tgt := 76) (by decide +kernel) (mif_lt hb) ?_
          obtain ⟨hc, hF⟩ := gd_of hF
          refine RN.blk (ops := [(76, .aload_n 0), (77, .getfield 41), (80, .iload_n 1), (81, .iload_n 2), (82, .iload_n 3)]) (pc' := 83) (lv' := [(4, .inl s2), (0, .inr (.inr t)), (1, .inl a1), (2, .inl a2), (3, .inl a3)]) (st' := [.inl a3, .inl a2, .inl a1, .inr (.inr (m_rd h3 t 5))]) (h' := h3) (cs := [GK h3 t 11]) (by decide +kernel) rfl hc ?_
          obtain ⟨hc, hF⟩ := gd_of hF
          obtain ⟨h4, hG, hF⟩ := bv_of hF
          refine RN.cv (i := 331) (k := 32) (q2 := iX2_addNote) (as := [.inr (.inr (m_rd h3 t 5)), .inl a1, .inl a2, .inl a3]) (r := []) (v := none) (h1 := h4) (by decide +kernel) rfl rfl rfl rfl rfl (rcv_ok hc.1) (CX2_addNote (d := d) hG) ?_
          obtain ⟨hc, hF⟩ := gd_of hF
          refine RN.blk (ops := [(86, .aload_n 0), (87, .getfield 41), (90, .getfield 185)]) (pc' := 93) (lv' := [(4, .inl s2), (0, .inr (.inr t)), (1, .inl a1), (2, .inl a2), (3, .inl a3)]) (st' := [.inl (m_rd h4 (m_rd h4 t 5) 5)]) (h' := h4) (cs := [GK h4 t 11, GK h4 (m_rd h4 t 5) 2]) (by decide +kernel) rfl hc ?_
          exact RN.iR (by decide +kernel) rfl hF
        · refine RN.icf (cd := .lt) (off := 6) (tgt := 76) (by decide +kernel) (mif_ltn hb) ?_
          refine RN.blk (ops := [(73, .bipush (-2))]) (pc' := 75) (lv' := [(4, .inl s2), (0, .inr (.inr t)), (1, .inl a1), (2, .inl a2), (3, .inl a3)]) (st' := [.inl (-2)]) (h' := h3) (cs := []) (by decide +kernel) rfl trivial ?_
          exact RN.iR (by decide +kernel) rfl hF
    · intro j1 Jj1 hF
      refine jn_use (fun j5 => ∀ (h6 : MH), j5 h6 = some r → RN xs L iX11_note (d + 1) 53 [(0, .inr (.inr t)), (1, .inl a1), (2, .inl a2), (3, .inl a3)] [] h6 (RIo r)) ?_ ?_ hF
      · intro h6 hF
        refine RN.blk (ops := [(53, .iconst 0)]) (pc' := 54) (lv' := [(0, .inr (.inr t)), (1, .inl a1), (2, .inl a2), (3, .inl a3)]) (st' := [.inl 0]) (h' := h6) (cs := []) (by decide +kernel) rfl trivial ?_
        exact RN.sub (Jj1 _ _ hF) (sub_cons rfl (sub_cons rfl (sub_cons rfl (sub_cons rfl sub_nil))))
      · intro j5 Jj5 hF
        rcases it_of hF with ⟨hb, hF⟩ | ⟨hb, hF⟩
        · refine RN.ift (cd := .lt) (off := 37) (tgt := 53) (by decide +kernel) (mif_lt hb) ?_
          exact RN.sub (Jj5 _ hF) (sub_cons rfl (sub_cons rfl (sub_cons rfl (sub_cons rfl sub_nil))))
        · refine RN.iff (cd := .lt) (off := 37) (tgt := 53) (by decide +kernel) (mif_ltn hb) ?_
          refine RN.blk (ops := [(19, .iload_n 1), (20, .bipush 60)]) (pc' := 22) (lv' := [(0, .inr (.inr t)), (1, .inl a1), (2, .inl a2), (3, .inl a3)]) (st' := [.inl 60, .inl a1]) (h' := h) (cs := []) (by decide +kernel) rfl trivial ?_
          rcases it_of hF with ⟨hb, hF⟩ | ⟨hb, hF⟩
          · refine RN.ict (cd := .gt) (off := 31) (tgt := 53) (by decide +kernel) (mif_gt hb) ?_
            exact RN.sub (Jj5 _ hF) (sub_cons rfl (sub_cons rfl (sub_cons rfl (sub_cons rfl sub_nil))))
          · refine RN.icf (cd := .gt) (off := 31) (tgt := 53) (by decide +kernel) (mif_gtn hb) ?_
            obtain ⟨hc, hF⟩ := gd_of hF
            refine RN.blk (ops := [(25, .aload_n 0), (26, .getfield 41), (29, .getfield 130), (32, .iload_n 2)]) (pc' := 33) (lv' := [(0, .inr (.inr t)), (1, .inl a1), (2, .inl a2), (3, .inl a3)]) (st' := [.inl a2, .inr (.inr (m_rd h (m_rd h t 5) 0))]) (h' := h) (cs := [GK h t 11, GK h (m_rd h t 5) 2]) (by decide +kernel) rfl hc ?_
            obtain ⟨hc, hF⟩ := gd_of hF
            obtain ⟨x8, h7, hG, hF⟩ := bd_of hF
            refine RN.cv (i := 131) (k := 81) (q2 := iX8_hasHole) (as := [.inr (.inr (m_rd h (m_rd h t 5) 0)), .inl a2]) (r := []) (v := some (.inl x8)) (h1 := h7) (by decide +kernel) rfl rfl rfl rfl rfl (rcv_ok hc.1) (CX8_hasHole (d := d) hG) ?_
            rcases it_of hF with ⟨hb, hF⟩ | ⟨hb, hF⟩
            · refine RN.ift (cd := .eq) (off := 17) (tgt := 53) (by decide +kernel) (mif_eq hb) ?_
              exact RN.sub (Jj5 _ hF) (sub_cons rfl (sub_cons rfl (sub_cons rfl (sub_cons rfl sub_nil))))
            · refine RN.iff (cd := .eq) (off := 17) (tgt := 53) (by decide +kernel) (mif_eqn hb) ?_
              refine RN.blk (ops := [(39, .iload_n 3)]) (pc' := 40) (lv' := [(0, .inr (.inr t)), (1, .inl a1), (2, .inl a2), (3, .inl a3)]) (st' := [.inl a3]) (h' := h7) (cs := []) (by decide +kernel) rfl trivial ?_
              rcases it_of hF with ⟨hb, hF⟩ | ⟨hb, hF⟩
              · refine RN.ift (cd := .lt) (off := 13) (tgt := 53) (by decide +kernel) (mif_lt hb) ?_
                exact RN.sub (Jj5 _ hF) (sub_cons rfl (sub_cons rfl (sub_cons rfl (sub_cons rfl sub_nil))))
              · refine RN.iff (cd := .lt) (off := 13) (tgt := 53) (by decide +kernel) (mif_ltn hb) ?_
                refine RN.blk (ops := [(43, .iload_n 3), (44, .bipush 20)]) (pc' := 46) (lv' := [(0, .inr (.inr t)), (1, .inl a1), (2, .inl a2), (3, .inl a3)]) (st' := [.inl 20, .inl a3]) (h' := h7) (cs := []) (by decide +kernel) rfl trivial ?_
                rcases it_of hF with ⟨hb, hF⟩ | ⟨hb, hF⟩
                · refine RN.ict (cd := .gt) (off := 7) (tgt := 53) (by decide +kernel) (mif_gt hb) ?_
                  exact RN.sub (Jj5 _ hF) (sub_cons rfl (sub_cons rfl (sub_cons rfl (sub_cons rfl sub_nil))))
                · refine RN.icf (cd := .gt) (off := 7) (tgt := 53) (by decide +kernel) (mif_gtn hb) ?_
                  refine RN.blk (ops := [(49, .iconst 1)]) (pc' := 50) (lv' := [(0, .inr (.inr t)), (1, .inl a1), (2, .inl a2), (3, .inl a3)]) (st' := [.inl 1]) (h' := h7) (cs := []) (by decide +kernel) rfl trivial ?_
                  refine RN.goto (off := 4) (tgt := 54) (by decide +kernel) ?_
                  exact RN.sub (Jj1 _ _ hF) (sub_cons rfl (sub_cons rfl (sub_cons rfl (sub_cons rfl sub_nil))))
noncomputable def FX11_ruled_L48 (u0 : Int) (u1 : Int) (K0 : Int → Int → MH → Option (Int × MH)) : Nat → Int → Int → Int → MH → Option (Int × MH)
  | 0, _, _, _, _ => none
  | f + 1, v2, v3, v4, h =>
    gd [GK h u0 11] (
     (if v4 < (m_rd h u0 4) then
      gd [GK h u0 11, GK h (m_rd h u0 12) 7, GK h u0 11, GK h (m_rd h u0 5) 2] (
       gd [GK h (m_rd h (m_rd h u0 12) 1) 10] (bv (FX10_copyFrom (m_rd h (m_rd h u0 12) 1) (m_rd h (m_rd h u0 5) 1) h) (fun h1 =>
        gd [GK h1 u0 11, GK h1 u0 11] (
         gd [GK h1 u0 11] (bd (FX11_ruleAt u0 v4 h1) (fun x3 h2 =>
          gd [GK h2 (m_rd h1 u0 12) 7] (bd (FX7_agrees (m_rd h1 u0 12) (m_rd h1 u0 5) x3 h2) (fun x5 h4 =>
           (if x5 = 0 then
            FX11_ruled_L48 u0 u1 K0 f v2 v3 (m_w32 (v4 + 1)) h4
           else
            (if v3 = (-2) then
             FX11_ruled_L48 u0 u1 K0 f (m_w32 (v2 + 1)) v4 (m_w32 (v4 + 1)) h4
            else
             FX11_ruled_L48 u0 u1 K0 f (m_w32 (v2 + 1)) v3 (m_w32 (v4 + 1)) h4))))))))))
     else
      K0 v2 v3 h))
theorem CX11_ruled_L48 {d : Nat} {u0 : Int} {u1 : Int} {K0 : Int → Int → MH → Option (Int × MH)} {r : Int × MH} (hK0 : ∀ (w2 : Int) (w3 : Int) (h : MH), K0 w2 w3 h = some r → RN xs L iX11_ruled (d + 6) 112 [(1, .inl u1), (2, .inl w2), (3, .inl w3)] [] h (RIo r)) : ∀ (f : Nat) (v2 : Int) (v3 : Int) (v4 : Int) (h : MH), FX11_ruled_L48 u0 u1 K0 f v2 v3 v4 h = some r → RN xs L iX11_ruled (d + 6) 48 [(0, .inr (.inr u0)), (1, .inl u1), (2, .inl v2), (3, .inl v3), (4, .inl v4)] [] h (RIo r) := by
  intro f
  induction f with
  | zero =>
    intro v2 v3 v4 h hF
    cases hF
  | succ f ih =>
    intro v2 v3 v4 h hF
    unfold FX11_ruled_L48 at hF
    obtain ⟨hc, hF⟩ := gd_of hF
    refine RN.blk (ops := [(48, .iload 4), (50, .aload_n 0), (51, .getfield 120)]) (pc' := 54) (lv' := [(0, .inr (.inr u0)), (1, .inl u1), (2, .inl v2), (3, .inl v3), (4, .inl v4)]) (st' := [.inl (m_rd h u0 4), .inl v4]) (h' := h) (cs := [GK h u0 11]) (by decide +kernel) rfl hc ?_
    rcases it_of hF with ⟨hb, hF⟩ | ⟨hb, hF⟩
    · refine RN.icf (cd := .ge) (off := 58) (tgt := 112) (by decide +kernel) (mif_gen hb) ?_
      obtain ⟨hc, hF⟩ := gd_of hF
      refine RN.blk (ops := [(57, .aload_n 0), (58, .getfield 72), (61, .getfield 209), (64, .aload_n 0), (65, .getfield 41), (68, .getfield 316)]) (pc' := 71) (lv' := [(0, .inr (.inr u0)), (1, .inl u1), (2, .inl v2), (3, .inl v3), (4, .inl v4)]) (st' := [.inr (.inr (m_rd h (m_rd h u0 5) 1)), .inr (.inr (m_rd h (m_rd h u0 12) 1))]) (h' := h) (cs := [GK h u0 11, GK h (m_rd h u0 12) 7, GK h u0 11, GK h (m_rd h u0 5) 2]) (by decide +kernel) rfl hc ?_
      obtain ⟨hc, hF⟩ := gd_of hF
      obtain ⟨h1, hG, hF⟩ := bv_of hF
      refine RN.cv (i := 212) (k := 101) (q2 := iX10_copyFrom) (as := [.inr (.inr (m_rd h (m_rd h u0 12) 1)), .inr (.inr (m_rd h (m_rd h u0 5) 1))]) (r := []) (v := none) (h1 := h1) (by decide +kernel) rfl rfl rfl rfl rfl (rcv_ok hc.1) (CX10_copyFrom (d := d + 3) hG) ?_
      obtain ⟨hc, hF⟩ := gd_of hF
      refine RN.blk (ops := [(74, .aload_n 0), (75, .getfield 72), (78, .aload_n 0), (79, .getfield 41), (82, .aload_n 0), (83, .iload 4)]) (pc' := 85) (lv' := [(0, .inr (.inr u0)), (1, .inl u1), (2, .inl v2), (3, .inl v3), (4, .inl v4)]) (st' := [.inl v4, .inr (.inr u0), .inr (.inr (m_rd h1 u0 5)), .inr (.inr (m_rd h1 u0 12))]) (h' := h1) (cs := [GK h1 u0 11, GK h1 u0 11]) (by decide +kernel) rfl hc ?_
      obtain ⟨hc, hF⟩ := gd_of hF
      obtain ⟨x3, h2, hG, hF⟩ := bd_of hF
      refine RN.cv (i := 335) (k := 150) (q2 := iX11_ruleAt) (as := [.inr (.inr u0), .inl v4]) (r := [.inr (.inr (m_rd h1 u0 5)), .inr (.inr (m_rd h1 u0 12))]) (v := some (.inr (.inr x3))) (h1 := h2) (by decide +kernel) rfl rfl rfl rfl rfl (rcv_ok hc.1) (CX11_ruleAt (d := d + 5) hG) ?_
      obtain ⟨hc, hF⟩ := gd_of hF
      obtain ⟨x5, h4, hG, hF⟩ := bd_of hF
      refine RN.cv (i := 323) (k := 75) (q2 := iX7_agrees) (as := [.inr (.inr (m_rd h1 u0 12)), .inr (.inr (m_rd h1 u0 5)), .inr (.inr x3)]) (r := []) (v := some (.inl x5)) (h1 := h4) (by decide +kernel) rfl rfl rfl rfl rfl (rcv_ok hc.1) (CX7_agrees (d := d) hG) ?_
      rcases it_of hF with ⟨hb, hF⟩ | ⟨hb, hF⟩
      · refine RN.ift (cd := .eq) (off := 15) (tgt := 106) (by decide +kernel) (mif_eq hb) ?_
        refine RN.blk (ops := [(106, .iinc 4 1)]) (pc' := 109) (lv' := [(4, .inl (m_w32 (v4 + 1))), (0, .inr (.inr u0)), (1, .inl u1), (2, .inl v2), (3, .inl v3)]) (st' := []) (h' := h4) (cs := []) (by decide +kernel) rfl trivial ?_
        refine RN.goto (off := -61) (tgt := 48) (by decide +kernel) ?_
        exact RN.sub (ih _ _ _ _ hF) (sub_cons rfl (sub_cons rfl (sub_cons rfl (sub_cons rfl (sub_cons rfl sub_nil)))))
      · refine RN.iff (cd := .eq) (off := 15) (tgt := 106) (by decide +kernel) (mif_eqn hb) ?_
        refine RN.blk (ops := [(94, .iinc 2 1), (97, .iload_n 3), (98, .bipush (-2))]) (pc' := 100) (lv' := [(2, .inl (m_w32 (v2 + 1))), (0, .inr (.inr u0)), (1, .inl u1), (3, .inl v3), (4, .inl v4)]) (st' := [.inl (-2), .inl v3]) (h' := h4) (cs := []) (by decide +kernel) rfl trivial ?_
        rcases it_of hF with ⟨hb, hF⟩ | ⟨hb, hF⟩
        · refine RN.icf (cd := .ne) (off := 6) (tgt := 106) (by decide +kernel) (mif_nen hb) ?_
          refine RN.blk (ops := [(103, .iload 4), (105, .istore_n 3)]) (pc' := 106) (lv' := [(3, .inl v4), (2, .inl (m_w32 (v2 + 1))), (0, .inr (.inr u0)), (1, .inl u1), (4, .inl v4)]) (st' := []) (h' := h4) (cs := []) (by decide +kernel) rfl trivial ?_
          refine RN.blk (ops := [(106, .iinc 4 1)]) (pc' := 109) (lv' := [(4, .inl (m_w32 (v4 + 1))), (3, .inl v4), (2, .inl (m_w32 (v2 + 1))), (0, .inr (.inr u0)), (1, .inl u1)]) (st' := []) (h' := h4) (cs := []) (by decide +kernel) rfl trivial ?_
          refine RN.goto (off := -61) (tgt := 48) (by decide +kernel) ?_
          exact RN.sub (ih _ _ _ _ hF) (sub_cons rfl (sub_cons rfl (sub_cons rfl (sub_cons rfl (sub_cons rfl sub_nil)))))
        · refine RN.ict (cd := .ne) (off := 6) (tgt := 106) (by decide +kernel) (mif_ne hb) ?_
          refine RN.blk (ops := [(106, .iinc 4 1)]) (pc' := 109) (lv' := [(4, .inl (m_w32 (v4 + 1))), (2, .inl (m_w32 (v2 + 1))), (0, .inr (.inr u0)), (1, .inl u1), (3, .inl v3)]) (st' := []) (h' := h4) (cs := []) (by decide +kernel) rfl trivial ?_
          refine RN.goto (off := -61) (tgt := 48) (by decide +kernel) ?_
          exact RN.sub (ih _ _ _ _ hF) (sub_cons rfl (sub_cons rfl (sub_cons rfl (sub_cons rfl (sub_cons rfl sub_nil)))))
    · refine RN.ict (cd := .ge) (off := 58) (tgt := 112) (by decide +kernel) (mif_ge hb) ?_
      exact RN.sub (hK0 _ _ _ hF) (sub_cons rfl (sub_cons rfl (sub_cons rfl sub_nil)))
noncomputable def FX11_ruled (t : Int) (a1 : Int) (h : MH) : Option (Int × MH) :=
  gd [GK h t 11] (bd (FX11_hasFrame t h) (fun x2 h1 =>
   (if x2 = 0 then
    some ((-3), h1)
   else
    (if a1 < 0 then
     some ((-3), h1)
    else
     (if 1 < a1 then
      some ((-3), h1)
     else
      gd [GK h1 t 11, GK h1 t 11, GK h1 (m_rd h1 t 5) 2, GK h1 t 11, GK h1 (m_rd h1 t 5) 2] (
       gd [GK h1 (m_rd h1 t 12) 7] (bv (FX7_start (m_rd h1 t 12) (m_rd h1 (m_rd h1 t 5) 0) (m_rd h1 (m_rd h1 t 5) 1) h1) (fun h3 =>
        FX11_ruled_L48 t a1 (fun w4 w5 h6 =>
         (if a1 = 0 then
          some (w4, h6)
         else
          some (w5, h6))) FU 0 (-2) (-1) h3))))))))
theorem CX11_ruled {d : Nat} {t : Int} {a1 : Int} {h : MH} {r : Int × MH} (hF : FX11_ruled t a1 h = some r) : RN xs L iX11_ruled (d + 6) 0 (lvE 0 [.inr (.inr t), .inl a1]) [] h (RIo r) := by
  unfold FX11_ruled at hF
  refine RN.blk (ops := [(0, .aload_n 0)]) (pc' := 1) (lv' := [(0, .inr (.inr t)), (1, .inl a1)]) (st' := [.inr (.inr t)]) (h' := h) (cs := []) (by decide +kernel) rfl trivial ?_
  obtain ⟨hc, hF⟩ := gd_of hF
  obtain ⟨x2, h1, hG, hF⟩ := bd_of hF
  refine RN.cv (i := 191) (k := 149) (q2 := iX11_hasFrame) (as := [.inr (.inr t)]) (r := []) (v := some (.inl x2)) (h1 := h1) (by decide +kernel) rfl rfl rfl rfl rfl (rcv_ok hc.1) (CX11_hasFrame (d := d + 5) hG) ?_
  rcases it_of hF with ⟨hb, hF⟩ | ⟨hb, hF⟩
  · refine RN.ift (cd := .eq) (off := 12) (tgt := 16) (by decide +kernel) (mif_eq hb) ?_
    refine RN.blk (ops := [(16, .bipush (-3))]) (pc' := 18) (lv' := [(0, .inr (.inr t)), (1, .inl a1)]) (st' := [.inl (-3)]) (h' := h1) (cs := []) (by decide +kernel) rfl trivial ?_
    exact RN.iR (by decide +kernel) rfl hF
  · refine RN.iff (cd := .eq) (off := 12) (tgt := 16) (by decide +kernel) (mif_eqn hb) ?_
    refine RN.blk (ops := [(7, .iload_n 1)]) (pc' := 8) (lv' := [(0, .inr (.inr t)), (1, .inl a1)]) (st' := [.inl a1]) (h' := h1) (cs := []) (by decide +kernel) rfl trivial ?_
    rcases it_of hF with ⟨hb, hF⟩ | ⟨hb, hF⟩
    · refine RN.ift (cd := .lt) (off := 8) (tgt := 16) (by decide +kernel) (mif_lt hb) ?_
      refine RN.blk (ops := [(16, .bipush (-3))]) (pc' := 18) (lv' := [(0, .inr (.inr t)), (1, .inl a1)]) (st' := [.inl (-3)]) (h' := h1) (cs := []) (by decide +kernel) rfl trivial ?_
      exact RN.iR (by decide +kernel) rfl hF
    · refine RN.iff (cd := .lt) (off := 8) (tgt := 16) (by decide +kernel) (mif_ltn hb) ?_
      refine RN.blk (ops := [(11, .iload_n 1), (12, .iconst 1)]) (pc' := 13) (lv' := [(0, .inr (.inr t)), (1, .inl a1)]) (st' := [.inl 1, .inl a1]) (h' := h1) (cs := []) (by decide +kernel) rfl trivial ?_
      rcases it_of hF with ⟨hb, hF⟩ | ⟨hb, hF⟩
      · refine RN.icf (cd := .le) (off := 6) (tgt := 19) (by decide +kernel) (mif_len hb) ?_
        refine RN.blk (ops := [(16, .bipush (-3))]) (pc' := 18) (lv' := [(0, .inr (.inr t)), (1, .inl a1)]) (st' := [.inl (-3)]) (h' := h1) (cs := []) (by decide +kernel) rfl trivial ?_
        exact RN.iR (by decide +kernel) rfl hF
      · refine RN.ict (cd := .le) (off := 6) (tgt := 19) (by decide +kernel) (mif_le hb) ?_
        obtain ⟨hc, hF⟩ := gd_of hF
        refine RN.blk (ops := [(19, .aload_n 0), (20, .getfield 72), (23, .aload_n 0), (24, .getfield 41), (27, .getfield 130), (30, .aload_n 0), (31, .getfield 41), (34, .getfield 316)]) (pc' := 37) (lv' := [(0, .inr (.inr t)), (1, .inl a1)]) (st' := [.inr (.inr (m_rd h1 (m_rd h1 t 5) 1)), .inr (.inr (m_rd h1 (m_rd h1 t 5) 0)), .inr (.inr (m_rd h1 t 12))]) (h' := h1) (cs := [GK h1 t 11, GK h1 t 11, GK h1 (m_rd h1 t 5) 2, GK h1 t 11, GK h1 (m_rd h1 t 5) 2]) (by decide +kernel) rfl hc ?_
        obtain ⟨hc, hF⟩ := gd_of hF
        obtain ⟨h3, hG, hF⟩ := bv_of hF
        refine RN.cv (i := 317) (k := 67) (q2 := iX7_start) (as := [.inr (.inr (m_rd h1 t 12)), .inr (.inr (m_rd h1 (m_rd h1 t 5) 0)), .inr (.inr (m_rd h1 (m_rd h1 t 5) 1))]) (r := []) (v := none) (h1 := h3) (by decide +kernel) rfl rfl rfl rfl rfl (rcv_ok hc.1) (CX7_start (d := d + 2) hG) ?_
        refine RN.blk (ops := [(40, .iconst 0), (41, .istore_n 2), (42, .bipush (-2)), (44, .istore_n 3), (45, .iconst (-1)), (46, .istore 4)]) (pc' := 48) (lv' := [(4, .inl (-1)), (3, .inl (-2)), (2, .inl 0), (0, .inr (.inr t)), (1, .inl a1)]) (st' := []) (h' := h3) (cs := []) (by decide +kernel) rfl trivial ?_
        refine RN.sub (CX11_ruled_L48 ?_ _ _ _ _ _ hF) (sub_cons rfl (sub_cons rfl (sub_cons rfl (sub_cons rfl (sub_cons rfl sub_nil)))))
        · intro w4 w5 h6 hF
          refine RN.blk (ops := [(112, .iload_n 1)]) (pc' := 113) (lv' := [(1, .inl a1), (2, .inl w4), (3, .inl w5)]) (st' := [.inl a1]) (h' := h6) (cs := []) (by decide +kernel) rfl trivial ?_
          rcases it_of hF with ⟨hb, hF⟩ | ⟨hb, hF⟩
          · refine RN.iff (cd := .ne) (off := 7) (tgt := 120) (by decide +kernel) (mif_nen hb) ?_
            refine RN.blk (ops := [(116, .iload_n 2)]) (pc' := 117) (lv' := [(1, .inl a1), (2, .inl w4), (3, .inl w5)]) (st' := [.inl w4]) (h' := h6) (cs := []) (by decide +kernel) rfl trivial ?_
            refine RN.goto (off := 4) (tgt := 121) (by decide +kernel) ?_
            exact RN.iR (by decide +kernel) rfl hF
          · refine RN.ift (cd := .ne) (off := 7) (tgt := 120) (by decide +kernel) (mif_ne hb) ?_
            refine RN.blk (ops := [(120, .iload_n 3)]) (pc' := 121) (lv' := [(1, .inl a1), (2, .inl w4), (3, .inl w5)]) (st' := [.inl w5]) (h' := h6) (cs := []) (by decide +kernel) rfl trivial ?_
            exact RN.iR (by decide +kernel) rfl hF
noncomputable def FX11_look_L59 (u0 : Int) (u1 : Int) (u2 : Int) (K0 : MH → Option (Int × MH)) : Nat → Int → MH → Option (Int × MH)
  | 0, _, _ => none
  | f + 1, v3, h =>
    gd [GK h u0 11] (
     (if v3 < (m_rd h u0 4) then
      gd [GK h u0 11, GK h (m_rd h u0 12) 7, GK h u0 11, GK h (m_rd h u0 5) 2] (
       gd [GK h (m_rd h (m_rd h u0 12) 1) 10] (bv (FX10_copyFrom (m_rd h (m_rd h u0 12) 1) (m_rd h (m_rd h u0 5) 1) h) (fun h1 =>
        gd [GK h1 u0 11, GK h1 u0 11] (
         gd [GK h1 u0 11] (bd (FX11_ruleAt u0 v3 h1) (fun x3 h2 =>
          gd [GK h2 (m_rd h1 u0 12) 7] (bd (FX7_agrees (m_rd h1 u0 12) (m_rd h1 u0 5) x3 h2) (fun x5 h4 =>
           (if x5 = 0 then
            FX11_look_L59 u0 u1 u2 K0 f (m_w32 (v3 + 1)) h4
           else
            gd [GK h4 u0 11, GK h4 (m_rd h4 u0 12) 7, GK h4 u0 11, GK h4 (m_rd h4 u0 5) 2] (
             gd [GK h4 (m_rd h4 (m_rd h4 u0 12) 1) 10] (bv (FX10_copyFrom (m_rd h4 (m_rd h4 u0 12) 1) (m_rd h4 (m_rd h4 u0 5) 1) h4) (fun h6 =>
              gd [GK h6 u0 11] (
               gd [GK h6 u0 11] (bd (FX11_ruleAt u0 v3 h6) (fun x8 h7 =>
                gd [GK h7 (m_rd h6 u0 12) 7] (bv (FX7_steps (m_rd h6 u0 12) x8 (m_w32 (u1 + 1)) h7) (fun h9 =>
                 gd [GK h9 u0 11, GK h9 u0 11, GK h9 (m_rd h9 u0 12) 7, GK h9 (m_rd h9 (m_rd h9 u0 12) 1) 10] (
                  gd [GK h9 (m_rd h9 u0 13) 0] (bv (FX0_addSight (m_rd h9 u0 13) (m_rd h9 (m_rd h9 (m_rd h9 u0 12) 1) 3) h9) (fun h10 =>
                   FX11_look_L59 u0 u1 u2 K0 f (m_w32 (v3 + 1)) h10))))))))))))))))))))
     else
      K0 h))
theorem CX11_look_L59 {d : Nat} {u0 : Int} {u1 : Int} {u2 : Int} {K0 : MH → Option (Int × MH)} {r : Int × MH} (hK0 : ∀ (h : MH), K0 h = some r → RN xs L iX11_look (d + 6) 158 [(0, .inr (.inr u0)), (2, .inl u2)] [] h (RIo r)) : ∀ (f : Nat) (v3 : Int) (h : MH), FX11_look_L59 u0 u1 u2 K0 f v3 h = some r → RN xs L iX11_look (d + 6) 59 [(0, .inr (.inr u0)), (1, .inl u1), (2, .inl u2), (3, .inl v3)] [] h (RIo r) := by
  intro f
  induction f with
  | zero =>
    intro v3 h hF
    cases hF
  | succ f ih =>
    intro v3 h hF
    unfold FX11_look_L59 at hF
    obtain ⟨hc, hF⟩ := gd_of hF
    refine RN.blk (ops := [(59, .iload_n 3), (60, .aload_n 0), (61, .getfield 120)]) (pc' := 64) (lv' := [(0, .inr (.inr u0)), (1, .inl u1), (2, .inl u2), (3, .inl v3)]) (st' := [.inl (m_rd h u0 4), .inl v3]) (h' := h) (cs := [GK h u0 11]) (by decide +kernel) rfl hc ?_
    rcases it_of hF with ⟨hb, hF⟩ | ⟨hb, hF⟩
    · refine RN.icf (cd := .ge) (off := 94) (tgt := 158) (by decide +kernel) (mif_gen hb) ?_
      obtain ⟨hc, hF⟩ := gd_of hF
      refine RN.blk (ops := [(67, .aload_n 0), (68, .getfield 72), (71, .getfield 209), (74, .aload_n 0), (75, .getfield 41), (78, .getfield 316)]) (pc' := 81) (lv' := [(0, .inr (.inr u0)), (1, .inl u1), (2, .inl u2), (3, .inl v3)]) (st' := [.inr (.inr (m_rd h (m_rd h u0 5) 1)), .inr (.inr (m_rd h (m_rd h u0 12) 1))]) (h' := h) (cs := [GK h u0 11, GK h (m_rd h u0 12) 7, GK h u0 11, GK h (m_rd h u0 5) 2]) (by decide +kernel) rfl hc ?_
      obtain ⟨hc, hF⟩ := gd_of hF
      obtain ⟨h1, hG, hF⟩ := bv_of hF
      refine RN.cv (i := 212) (k := 101) (q2 := iX10_copyFrom) (as := [.inr (.inr (m_rd h (m_rd h u0 12) 1)), .inr (.inr (m_rd h (m_rd h u0 5) 1))]) (r := []) (v := none) (h1 := h1) (by decide +kernel) rfl rfl rfl rfl rfl (rcv_ok hc.1) (CX10_copyFrom (d := d + 3) hG) ?_
      obtain ⟨hc, hF⟩ := gd_of hF
      refine RN.blk (ops := [(84, .aload_n 0), (85, .getfield 72), (88, .aload_n 0), (89, .getfield 41), (92, .aload_n 0), (93, .iload_n 3)]) (pc' := 94) (lv' := [(0, .inr (.inr u0)), (1, .inl u1), (2, .inl u2), (3, .inl v3)]) (st' := [.inl v3, .inr (.inr u0), .inr (.inr (m_rd h1 u0 5)), .inr (.inr (m_rd h1 u0 12))]) (h' := h1) (cs := [GK h1 u0 11, GK h1 u0 11]) (by decide +kernel) rfl hc ?_
      obtain ⟨hc, hF⟩ := gd_of hF
      obtain ⟨x3, h2, hG, hF⟩ := bd_of hF
      refine RN.cv (i := 335) (k := 150) (q2 := iX11_ruleAt) (as := [.inr (.inr u0), .inl v3]) (r := [.inr (.inr (m_rd h1 u0 5)), .inr (.inr (m_rd h1 u0 12))]) (v := some (.inr (.inr x3))) (h1 := h2) (by decide +kernel) rfl rfl rfl rfl rfl (rcv_ok hc.1) (CX11_ruleAt (d := d + 5) hG) ?_
      obtain ⟨hc, hF⟩ := gd_of hF
      obtain ⟨x5, h4, hG, hF⟩ := bd_of hF
      refine RN.cv (i := 323) (k := 75) (q2 := iX7_agrees) (as := [.inr (.inr (m_rd h1 u0 12)), .inr (.inr (m_rd h1 u0 5)), .inr (.inr x3)]) (r := []) (v := some (.inl x5)) (h1 := h4) (by decide +kernel) rfl rfl rfl rfl rfl (rcv_ok hc.1) (CX7_agrees (d := d) hG) ?_
      rcases it_of hF with ⟨hb, hF⟩ | ⟨hb, hF⟩
      · refine RN.ift (cd := .eq) (off := 52) (tgt := 152) (by decide +kernel) (mif_eq hb) ?_
        refine RN.blk (ops := [(152, .iinc 3 1)]) (pc' := 155) (lv' := [(3, .inl (m_w32 (v3 + 1))), (0, .inr (.inr u0)), (1, .inl u1), (2, .inl u2)]) (st' := []) (h' := h4) (cs := []) (by decide +kernel) rfl trivial ?_
        refine RN.goto (off := -96) (tgt := 59) (by decide +kernel) ?_
        exact RN.sub (ih _ _ hF) (sub_cons rfl (sub_cons rfl (sub_cons rfl (sub_cons rfl sub_nil))))
      · refine RN.iff (cd := .eq) (off := 52) (tgt := 152) (by decide +kernel) (mif_eqn hb) ?_
        obtain ⟨hc, hF⟩ := gd_of hF
        refine RN.blk (ops := [(103, .aload_n 0), (104, .getfield 72), (107, .getfield 209), (110, .aload_n 0), (111, .getfield 41), (114, .getfield 316)]) (pc' := 117) (lv' := [(0, .inr (.inr u0)), (1, .inl u1), (2, .inl u2), (3, .inl v3)]) (st' := [.inr (.inr (m_rd h4 (m_rd h4 u0 5) 1)), .inr (.inr (m_rd h4 (m_rd h4 u0 12) 1))]) (h' := h4) (cs := [GK h4 u0 11, GK h4 (m_rd h4 u0 12) 7, GK h4 u0 11, GK h4 (m_rd h4 u0 5) 2]) (by decide +kernel) rfl hc ?_
        obtain ⟨hc, hF⟩ := gd_of hF
        obtain ⟨h6, hG, hF⟩ := bv_of hF
        refine RN.cv (i := 212) (k := 101) (q2 := iX10_copyFrom) (as := [.inr (.inr (m_rd h4 (m_rd h4 u0 12) 1)), .inr (.inr (m_rd h4 (m_rd h4 u0 5) 1))]) (r := []) (v := none) (h1 := h6) (by decide +kernel) rfl rfl rfl rfl rfl (rcv_ok hc.1) (CX10_copyFrom (d := d + 3) hG) ?_
        obtain ⟨hc, hF⟩ := gd_of hF
        refine RN.blk (ops := [(120, .aload_n 0), (121, .getfield 72), (124, .aload_n 0), (125, .iload_n 3)]) (pc' := 126) (lv' := [(0, .inr (.inr u0)), (1, .inl u1), (2, .inl u2), (3, .inl v3)]) (st' := [.inl v3, .inr (.inr u0), .inr (.inr (m_rd h6 u0 12))]) (h' := h6) (cs := [GK h6 u0 11]) (by decide +kernel) rfl hc ?_
        obtain ⟨hc, hF⟩ := gd_of hF
        obtain ⟨x8, h7, hG, hF⟩ := bd_of hF
        refine RN.cv (i := 335) (k := 150) (q2 := iX11_ruleAt) (as := [.inr (.inr u0), .inl v3]) (r := [.inr (.inr (m_rd h6 u0 12))]) (v := some (.inr (.inr x8))) (h1 := h7) (by decide +kernel) rfl rfl rfl rfl rfl (rcv_ok hc.1) (CX11_ruleAt (d := d + 5) hG) ?_
        refine RN.blk (ops := [(129, .iload_n 1), (130, .iconst 1), (131, .iadd)]) (pc' := 132) (lv' := [(0, .inr (.inr u0)), (1, .inl u1), (2, .inl u2), (3, .inl v3)]) (st' := [.inl (m_w32 (u1 + 1)), .inr (.inr x8), .inr (.inr (m_rd h6 u0 12))]) (h' := h7) (cs := []) (by decide +kernel) rfl trivial ?_
        obtain ⟨hc, hF⟩ := gd_of hF
        obtain ⟨h9, hG, hF⟩ := bv_of hF
        refine RN.cv (i := 304) (k := 72) (q2 := iX7_steps) (as := [.inr (.inr (m_rd h6 u0 12)), .inr (.inr x8), .inl (m_w32 (u1 + 1))]) (r := []) (v := none) (h1 := h9) (by decide +kernel) rfl rfl rfl rfl rfl (rcv_ok hc.1) (CX7_steps (d := d) hG) ?_
        obtain ⟨hc, hF⟩ := gd_of hF
        refine RN.blk (ops := [(135, .aload_n 0), (136, .getfield 79), (139, .aload_n 0), (140, .getfield 72), (143, .getfield 209), (146, .getfield 141)]) (pc' := 149) (lv' := [(0, .inr (.inr u0)), (1, .inl u1), (2, .inl u2), (3, .inl v3)]) (st' := [.inr (.inr (m_rd h9 (m_rd h9 (m_rd h9 u0 12) 1) 3)), .inr (.inr (m_rd h9 u0 13))]) (h' := h9) (cs := [GK h9 u0 11, GK h9 u0 11, GK h9 (m_rd h9 u0 12) 7, GK h9 (m_rd h9 (m_rd h9 u0 12) 1) 10]) (by decide +kernel) rfl hc ?_
        obtain ⟨hc, hF⟩ := gd_of hF
        obtain ⟨h10, hG, hF⟩ := bv_of hF
        refine RN.cv (i := 342) (k := 8) (q2 := iX0_addSight) (as := [.inr (.inr (m_rd h9 u0 13)), .inr (.inr (m_rd h9 (m_rd h9 (m_rd h9 u0 12) 1) 3))]) (r := []) (v := none) (h1 := h10) (by decide +kernel) rfl rfl rfl rfl rfl (rcv_ok hc.1) (CX0_addSight (d := d + 4) hG) ?_
        refine RN.blk (ops := [(152, .iinc 3 1)]) (pc' := 155) (lv' := [(3, .inl (m_w32 (v3 + 1))), (0, .inr (.inr u0)), (1, .inl u1), (2, .inl u2)]) (st' := []) (h' := h10) (cs := []) (by decide +kernel) rfl trivial ?_
        refine RN.goto (off := -96) (tgt := 59) (by decide +kernel) ?_
        exact RN.sub (ih _ _ hF) (sub_cons rfl (sub_cons rfl (sub_cons rfl (sub_cons rfl sub_nil))))
    · refine RN.ict (cd := .ge) (off := 94) (tgt := 158) (by decide +kernel) (mif_ge hb) ?_
      exact RN.sub (hK0 _ hF) (sub_cons rfl (sub_cons rfl sub_nil))
noncomputable def FX11_look (t : Int) (a1 : Int) (a2 : Int) (h : MH) : Option (Int × MH) :=
  gd [GK h t 11] (bd (FX11_hasFrame t h) (fun x2 h1 =>
   (if x2 = 0 then
    some ((-1), h1)
   else
    (if a1 < 0 then
     some ((-1), h1)
    else
     (if 60 < a1 then
      some ((-1), h1)
     else
      (if a2 < 0 then
       some ((-1), h1)
      else
       (if 1 < a2 then
        some ((-1), h1)
       else
        gd [GK h1 t 11, GK h1 t 11, GK h1 (m_rd h1 t 5) 2, GK h1 t 11, GK h1 (m_rd h1 t 5) 2] (
         gd [GK h1 (m_rd h1 t 12) 7] (bv (FX7_start (m_rd h1 t 12) (m_rd h1 (m_rd h1 t 5) 0) (m_rd h1 (m_rd h1 t 5) 1) h1) (fun h3 =>
          gd [GK h3 t 11, GK h3 (m_rd h3 t 13) 0] (
           FX11_look_L59 t a1 a2 (fun h4 =>
            gd [GK h4 t 11, GK h4 (m_rd h4 t 13) 0] (
             (if (m_rd h4 (m_rd h4 t 13) 6) = 0 then
              some ((-2), h4)
             else
              gd [GK h4 t 11, GK h4 t 11, GK h4 (m_rd h4 t 5) 2, GK h4 (m_rd h4 (m_rd h4 t 5) 0) 8] (
               gd [GK h4 (m_rd h4 t 13) 0] (bv (FX0_seekSight (m_rd h4 t 13) (m_rd h4 (m_rd h4 (m_rd h4 t 5) 0) 2) h4) (fun h5 =>
                (if a2 = 0 then
                 gd [GK h5 t 11, GK h5 (m_rd h5 t 13) 0] (
                  some ((m_rd h5 (m_rd h5 t 13) 4), h5))
                else
                 gd [GK h5 t 11, GK h5 (m_rd h5 t 13) 0] (
                  some ((m_rd h5 (m_rd h5 t 13) 7), h5))))))))) FU (-1) (m_wr h3 (m_rd h3 t 13) 6 0))))))))))))
theorem CX11_look {d : Nat} {t : Int} {a1 : Int} {a2 : Int} {h : MH} {r : Int × MH} (hF : FX11_look t a1 a2 h = some r) : RN xs L iX11_look (d + 6) 0 (lvE 0 [.inr (.inr t), .inl a1, .inl a2]) [] h (RIo r) := by
  unfold FX11_look at hF
  refine RN.blk (ops := [(0, .aload_n 0)]) (pc' := 1) (lv' := [(0, .inr (.inr t)), (1, .inl a1), (2, .inl a2)]) (st' := [.inr (.inr t)]) (h' := h) (cs := []) (by decide +kernel) rfl trivial ?_
  obtain ⟨hc, hF⟩ := gd_of hF
  obtain ⟨x2, h1, hG, hF⟩ := bd_of hF
  refine RN.cv (i := 191) (k := 149) (q2 := iX11_hasFrame) (as := [.inr (.inr t)]) (r := []) (v := some (.inl x2)) (h1 := h1) (by decide +kernel) rfl rfl rfl rfl rfl (rcv_ok hc.1) (CX11_hasFrame (d := d + 5) hG) ?_
  rcases it_of hF with ⟨hb, hF⟩ | ⟨hb, hF⟩
  · refine RN.ift (cd := .eq) (off := 22) (tgt := 26) (by decide +kernel) (mif_eq hb) ?_
    refine RN.blk (ops := [(26, .iconst (-1))]) (pc' := 27) (lv' := [(0, .inr (.inr t)), (1, .inl a1), (2, .inl a2)]) (st' := [.inl (-1)]) (h' := h1) (cs := []) (by decide +kernel) rfl trivial ?_
    exact RN.iR (by decide +kernel) rfl hF
  · refine RN.iff (cd := .eq) (off := 22) (tgt := 26) (by decide +kernel) (mif_eqn hb) ?_
    refine RN.blk (ops := [(7, .iload_n 1)]) (pc' := 8) (lv' := [(0, .inr (.inr t)), (1, .inl a1), (2, .inl a2)]) (st' := [.inl a1]) (h' := h1) (cs := []) (by decide +kernel) rfl trivial ?_
    rcases it_of hF with ⟨hb, hF⟩ | ⟨hb, hF⟩
    · refine RN.ift (cd := .lt) (off := 18) (tgt := 26) (by decide +kernel) (mif_lt hb) ?_
      refine RN.blk (ops := [(26, .iconst (-1))]) (pc' := 27) (lv' := [(0, .inr (.inr t)), (1, .inl a1), (2, .inl a2)]) (st' := [.inl (-1)]) (h' := h1) (cs := []) (by decide +kernel) rfl trivial ?_
      exact RN.iR (by decide +kernel) rfl hF
    · refine RN.iff (cd := .lt) (off := 18) (tgt := 26) (by decide +kernel) (mif_ltn hb) ?_
      refine RN.blk (ops := [(11, .iload_n 1), (12, .bipush 60)]) (pc' := 14) (lv' := [(0, .inr (.inr t)), (1, .inl a1), (2, .inl a2)]) (st' := [.inl 60, .inl a1]) (h' := h1) (cs := []) (by decide +kernel) rfl trivial ?_
      rcases it_of hF with ⟨hb, hF⟩ | ⟨hb, hF⟩
      · refine RN.ict (cd := .gt) (off := 12) (tgt := 26) (by decide +kernel) (mif_gt hb) ?_
        refine RN.blk (ops := [(26, .iconst (-1))]) (pc' := 27) (lv' := [(0, .inr (.inr t)), (1, .inl a1), (2, .inl a2)]) (st' := [.inl (-1)]) (h' := h1) (cs := []) (by decide +kernel) rfl trivial ?_
        exact RN.iR (by decide +kernel) rfl hF
      · refine RN.icf (cd := .gt) (off := 12) (tgt := 26) (by decide +kernel) (mif_gtn hb) ?_
        refine RN.blk (ops := [(17, .iload_n 2)]) (pc' := 18) (lv' := [(0, .inr (.inr t)), (1, .inl a1), (2, .inl a2)]) (st' := [.inl a2]) (h' := h1) (cs := []) (by decide +kernel) rfl trivial ?_
        rcases it_of hF with ⟨hb, hF⟩ | ⟨hb, hF⟩
        · refine RN.ift (cd := .lt) (off := 8) (tgt := 26) (by decide +kernel) (mif_lt hb) ?_
          refine RN.blk (ops := [(26, .iconst (-1))]) (pc' := 27) (lv' := [(0, .inr (.inr t)), (1, .inl a1), (2, .inl a2)]) (st' := [.inl (-1)]) (h' := h1) (cs := []) (by decide +kernel) rfl trivial ?_
          exact RN.iR (by decide +kernel) rfl hF
        · refine RN.iff (cd := .lt) (off := 8) (tgt := 26) (by decide +kernel) (mif_ltn hb) ?_
          refine RN.blk (ops := [(21, .iload_n 2), (22, .iconst 1)]) (pc' := 23) (lv' := [(0, .inr (.inr t)), (1, .inl a1), (2, .inl a2)]) (st' := [.inl 1, .inl a2]) (h' := h1) (cs := []) (by decide +kernel) rfl trivial ?_
          rcases it_of hF with ⟨hb, hF⟩ | ⟨hb, hF⟩
          · refine RN.icf (cd := .le) (off := 5) (tgt := 28) (by decide +kernel) (mif_len hb) ?_
            refine RN.blk (ops := [(26, .iconst (-1))]) (pc' := 27) (lv' := [(0, .inr (.inr t)), (1, .inl a1), (2, .inl a2)]) (st' := [.inl (-1)]) (h' := h1) (cs := []) (by decide +kernel) rfl trivial ?_
            exact RN.iR (by decide +kernel) rfl hF
          · refine RN.ict (cd := .le) (off := 5) (tgt := 28) (by decide +kernel) (mif_le hb) ?_
            obtain ⟨hc, hF⟩ := gd_of hF
            refine RN.blk (ops := [(28, .aload_n 0), (29, .getfield 72), (32, .aload_n 0), (33, .getfield 41), (36, .getfield 130), (39, .aload_n 0), (40, .getfield 41), (43, .getfield 316)]) (pc' := 46) (lv' := [(0, .inr (.inr t)), (1, .inl a1), (2, .inl a2)]) (st' := [.inr (.inr (m_rd h1 (m_rd h1 t 5) 1)), .inr (.inr (m_rd h1 (m_rd h1 t 5) 0)), .inr (.inr (m_rd h1 t 12))]) (h' := h1) (cs := [GK h1 t 11, GK h1 t 11, GK h1 (m_rd h1 t 5) 2, GK h1 t 11, GK h1 (m_rd h1 t 5) 2]) (by decide +kernel) rfl hc ?_
            obtain ⟨hc, hF⟩ := gd_of hF
            obtain ⟨h3, hG, hF⟩ := bv_of hF
            refine RN.cv (i := 317) (k := 67) (q2 := iX7_start) (as := [.inr (.inr (m_rd h1 t 12)), .inr (.inr (m_rd h1 (m_rd h1 t 5) 0)), .inr (.inr (m_rd h1 (m_rd h1 t 5) 1))]) (r := []) (v := none) (h1 := h3) (by decide +kernel) rfl rfl rfl rfl rfl (rcv_ok hc.1) (CX7_start (d := d + 2) hG) ?_
            obtain ⟨hc, hF⟩ := gd_of hF
            refine RN.blk (ops := [(49, .aload_n 0), (50, .getfield 79), (53, .iconst 0), (54, .putfield 339), (57, .iconst (-1)), (58, .istore_n 3)]) (pc' := 59) (lv' := [(3, .inl (-1)), (0, .inr (.inr t)), (1, .inl a1), (2, .inl a2)]) (st' := []) (h' := (m_wr h3 (m_rd h3 t 13) 6 0)) (cs := [GK h3 t 11, GK h3 (m_rd h3 t 13) 0]) (by decide +kernel) rfl hc ?_
            refine RN.sub (CX11_look_L59 ?_ _ _ _ hF) (sub_cons rfl (sub_cons rfl (sub_cons rfl (sub_cons rfl sub_nil))))
            · intro h4 hF
              obtain ⟨hc, hF⟩ := gd_of hF
              refine RN.blk (ops := [(158, .aload_n 0), (159, .getfield 79), (162, .getfield 339)]) (pc' := 165) (lv' := [(0, .inr (.inr t)), (2, .inl a2)]) (st' := [.inl (m_rd h4 (m_rd h4 t 13) 6)]) (h' := h4) (cs := [GK h4 t 11, GK h4 (m_rd h4 t 13) 0]) (by decide +kernel) rfl hc ?_
              rcases it_of hF with ⟨hb, hF⟩ | ⟨hb, hF⟩
              · refine RN.iff (cd := .ne) (off := 6) (tgt := 171) (by decide +kernel) (mif_nen hb) ?_
                refine RN.blk (ops := [(168, .bipush (-2))]) (pc' := 170) (lv' := [(0, .inr (.inr t)), (2, .inl a2)]) (st' := [.inl (-2)]) (h' := h4) (cs := []) (by decide +kernel) rfl trivial ?_
                exact RN.iR (by decide +kernel) rfl hF
              · refine RN.ift (cd := .ne) (off := 6) (tgt := 171) (by decide +kernel) (mif_ne hb) ?_
                obtain ⟨hc, hF⟩ := gd_of hF
                refine RN.blk (ops := [(171, .aload_n 0), (172, .getfield 79), (175, .aload_n 0), (176, .getfield 41), (179, .getfield 130), (182, .getfield 170)]) (pc' := 185) (lv' := [(0, .inr (.inr t)), (2, .inl a2)]) (st' := [.inl (m_rd h4 (m_rd h4 (m_rd h4 t 5) 0) 2), .inr (.inr (m_rd h4 t 13))]) (h' := h4) (cs := [GK h4 t 11, GK h4 t 11, GK h4 (m_rd h4 t 5) 2, GK h4 (m_rd h4 (m_rd h4 t 5) 0) 8]) (by decide +kernel) rfl hc ?_
                obtain ⟨hc, hF⟩ := gd_of hF
                obtain ⟨h5, hG, hF⟩ := bv_of hF
                refine RN.cv (i := 346) (k := 9) (q2 := iX0_seekSight) (as := [.inr (.inr (m_rd h4 t 13)), .inl (m_rd h4 (m_rd h4 (m_rd h4 t 5) 0) 2)]) (r := []) (v := none) (h1 := h5) (by decide +kernel) rfl rfl rfl rfl rfl (rcv_ok hc.1) (CX0_seekSight (d := d + 3) hG) ?_
                refine RN.blk (ops := [(188, .iload_n 2)]) (pc' := 189) (lv' := [(0, .inr (.inr t)), (2, .inl a2)]) (st' := [.inl a2]) (h' := h5) (cs := []) (by decide +kernel) rfl trivial ?_
                rcases it_of hF with ⟨hb, hF⟩ | ⟨hb, hF⟩
                · refine RN.iff (cd := .ne) (off := 13) (tgt := 202) (by decide +kernel) (mif_nen hb) ?_
                  obtain ⟨hc, hF⟩ := gd_of hF
                  refine RN.blk (ops := [(192, .aload_n 0), (193, .getfield 79), (196, .getfield 296)]) (pc' := 199) (lv' := [(0, .inr (.inr t)), (2, .inl a2)]) (st' := [.inl (m_rd h5 (m_rd h5 t 13) 4)]) (h' := h5) (cs := [GK h5 t 11, GK h5 (m_rd h5 t 13) 0]) (by decide +kernel) rfl hc ?_
                  refine RN.goto (off := 10) (tgt := 209) (by decide +kernel) ?_
                  exact RN.iR (by decide +kernel) rfl hF
                · refine RN.ift (cd := .ne) (off := 13) (tgt := 202) (by decide +kernel) (mif_ne hb) ?_
                  obtain ⟨hc, hF⟩ := gd_of hF
                  refine RN.blk (ops := [(202, .aload_n 0), (203, .getfield 79), (206, .getfield 349)]) (pc' := 209) (lv' := [(0, .inr (.inr t)), (2, .inl a2)]) (st' := [.inl (m_rd h5 (m_rd h5 t 13) 7)]) (h' := h5) (cs := [GK h5 t 11, GK h5 (m_rd h5 t 13) 0]) (by decide +kernel) rfl hc ?_
                  exact RN.iR (by decide +kernel) rfl hF
noncomputable def FX11_seed (t : Int) (a1 : Int) (h : MH) : Option (Int × MH) :=
  (if a1 < 0 then
   some ((-1), h)
  else
   gd [GK h t 11, GK h (m_rd h t 5) 2, GK h t 11, GK h (m_rd h t 5) 2] (
    some ((m_rd h (m_rd h t 5) 4), (m_wr h (m_rd h t 5) 4 a1))))
theorem CX11_seed {d : Nat} {t : Int} {a1 : Int} {h : MH} {r : Int × MH} (hF : FX11_seed t a1 h = some r) : RN xs L iX11_seed (d) 0 (lvE 0 [.inr (.inr t), .inl a1]) [] h (RIo r) := by
  unfold FX11_seed at hF
  refine RN.blk (ops := [(0, .iload_n 1)]) (pc' := 1) (lv' := [(0, .inr (.inr t)), (1, .inl a1)]) (st' := [.inl a1]) (h' := h) (cs := []) (by decide +kernel) rfl trivial ?_
  rcases it_of hF with ⟨hb, hF⟩ | ⟨hb, hF⟩
  · refine RN.iff (cd := .ge) (off := 5) (tgt := 6) (by decide +kernel) (mif_gen hb) ?_
    refine RN.blk (ops := [(4, .iconst (-1))]) (pc' := 5) (lv' := [(0, .inr (.inr t)), (1, .inl a1)]) (st' := [.inl (-1)]) (h' := h) (cs := []) (by decide +kernel) rfl trivial ?_
    exact RN.iR (by decide +kernel) rfl hF
  · refine RN.ift (cd := .ge) (off := 5) (tgt := 6) (by decide +kernel) (mif_ge hb) ?_
    obtain ⟨hc, hF⟩ := gd_of hF
    refine RN.blk (ops := [(6, .aload_n 0), (7, .getfield 41), (10, .getfield 188), (13, .istore_n 2), (14, .aload_n 0), (15, .getfield 41), (18, .iload_n 1), (19, .putfield 188), (22, .iload_n 2)]) (pc' := 23) (lv' := [(2, .inl (m_rd h (m_rd h t 5) 4)), (0, .inr (.inr t)), (1, .inl a1)]) (st' := [.inl (m_rd h (m_rd h t 5) 4)]) (h' := (m_wr h (m_rd h t 5) 4 a1)) (cs := [GK h t 11, GK h (m_rd h t 5) 2, GK h t 11, GK h (m_rd h t 5) 2]) (by decide +kernel) rfl hc ?_
    exact RN.iR (by decide +kernel) rfl hF
noncomputable def FX11_posts_L91 (u0 : Int) (u1 : Int) (u2 : Int) (u3 : Int) (u4 : Int) (K0 : Int → Int → MH → Option (Int × MH)) : Nat → Int → Int → Int → MH → Option (Int × MH)
  | 0, _, _, _, _ => none
  | f + 1, v6, v7, v8, h =>
    (if v8 < u1 then
     gd [GK h u0 11, GK h (m_rd h u0 12) 7, GK h u0 11, GK h (m_rd h u0 5) 2] (
      gd [GK h (m_rd h (m_rd h u0 12) 1) 10] (bv (FX10_copyFrom (m_rd h (m_rd h u0 12) 1) (m_rd h (m_rd h u0 5) 2) h) (fun h1 =>
       gd [GK h1 u0 11] (
        gd [GK h1 u0 11] (bd (FX11_ruleInForce u0 h1) (fun x3 h2 =>
         gd [GK h2 (m_rd h1 u0 12) 7] (bv (FX7_stepsWithPosts (m_rd h1 u0 12) x3 u2 u3 h2) (fun h4 =>
          gd [GK h4 u0 11, GK h4 (m_rd h4 u0 12) 7] (
           gd [GK h4 (m_rd h4 (m_rd h4 u0 12) 1) 10] (bd (FX10_bagsOfAll (m_rd h4 (m_rd h4 u0 12) 1) h4) (fun x6 h5 =>
            gd [GK h5 u0 11, GK h5 (m_rd h5 u0 12) 7, GK h5 (m_rd h5 (m_rd h5 u0 12) 1) 10] (
             FX11_posts_L91 u0 u1 u2 u3 u4 K0 f (m_w32 (v6 + x6)) (m_w32 (v7 + (m_rd h5 (m_rd h5 (m_rd h5 u0 12) 1) 5))) (m_w32 (v8 + 1)) h5))))))))))))
    else
     K0 v6 v7 h)
theorem CX11_posts_L91 {d : Nat} {u0 : Int} {u1 : Int} {u2 : Int} {u3 : Int} {u4 : Int} {K0 : Int → Int → MH → Option (Int × MH)} {r : Int × MH} (hK0 : ∀ (w6 : Int) (w7 : Int) (h : MH), K0 w6 w7 h = some r → RN xs L iX11_posts (d + 6) 163 [(4, .inl u4), (6, .inl w6), (7, .inl w7)] [] h (RIo r)) : ∀ (f : Nat) (v6 : Int) (v7 : Int) (v8 : Int) (h : MH), FX11_posts_L91 u0 u1 u2 u3 u4 K0 f v6 v7 v8 h = some r → RN xs L iX11_posts (d + 6) 91 [(0, .inr (.inr u0)), (1, .inl u1), (2, .inl u2), (3, .inl u3), (4, .inl u4), (6, .inl v6), (7, .inl v7), (8, .inl v8)] [] h (RIo r) := by
  intro f
  induction f with
  | zero =>
    intro v6 v7 v8 h hF
    cases hF
  | succ f ih =>
    intro v6 v7 v8 h hF
    unfold FX11_posts_L91 at hF
    refine RN.blk (ops := [(91, .iload 8), (93, .iload_n 1)]) (pc' := 94) (lv' := [(0, .inr (.inr u0)), (1, .inl u1), (2, .inl u2), (3, .inl u3), (4, .inl u4), (6, .inl v6), (7, .inl v7), (8, .inl v8)]) (st' := [.inl u1, .inl v8]) (h' := h) (cs := []) (by decide +kernel) rfl trivial ?_
    rcases it_of hF with ⟨hb, hF⟩ | ⟨hb, hF⟩
    · refine RN.icf (cd := .ge) (off := 69) (tgt := 163) (by decide +kernel) (mif_gen hb) ?_
      obtain ⟨hc, hF⟩ := gd_of hF
      refine RN.blk (ops := [(97, .aload_n 0), (98, .getfield 72), (101, .getfield 209), (104, .aload_n 0), (105, .getfield 41), (108, .getfield 110)]) (pc' := 111) (lv' := [(0, .inr (.inr u0)), (1, .inl u1), (2, .inl u2), (3, .inl u3), (4, .inl u4), (6, .inl v6), (7, .inl v7), (8, .inl v8)]) (st' := [.inr (.inr (m_rd h (m_rd h u0 5) 2)), .inr (.inr (m_rd h (m_rd h u0 12) 1))]) (h' := h) (cs := [GK h u0 11, GK h (m_rd h u0 12) 7, GK h u0 11, GK h (m_rd h u0 5) 2]) (by decide +kernel) rfl hc ?_
      obtain ⟨hc, hF⟩ := gd_of hF
      obtain ⟨h1, hG, hF⟩ := bv_of hF
      refine RN.cv (i := 212) (k := 101) (q2 := iX10_copyFrom) (as := [.inr (.inr (m_rd h (m_rd h u0 12) 1)), .inr (.inr (m_rd h (m_rd h u0 5) 2))]) (r := []) (v := none) (h1 := h1) (by decide +kernel) rfl rfl rfl rfl rfl (rcv_ok hc.1) (CX10_copyFrom (d := d + 3) hG) ?_
      obtain ⟨hc, hF⟩ := gd_of hF
      refine RN.blk (ops := [(114, .aload_n 0), (115, .getfield 72), (118, .aload_n 0)]) (pc' := 119) (lv' := [(0, .inr (.inr u0)), (1, .inl u1), (2, .inl u2), (3, .inl u3), (4, .inl u4), (6, .inl v6), (7, .inl v7), (8, .inl v8)]) (st' := [.inr (.inr u0), .inr (.inr (m_rd h1 u0 12))]) (h' := h1) (cs := [GK h1 u0 11]) (by decide +kernel) rfl hc ?_
      obtain ⟨hc, hF⟩ := gd_of hF
      obtain ⟨x3, h2, hG, hF⟩ := bd_of hF
      refine RN.cv (i := 198) (k := 151) (q2 := iX11_ruleInForce) (as := [.inr (.inr u0)]) (r := [.inr (.inr (m_rd h1 u0 12))]) (v := some (.inr (.inr x3))) (h1 := h2) (by decide +kernel) rfl rfl rfl rfl rfl (rcv_ok hc.1) (CX11_ruleInForce (d := d + 4) hG) ?_
      refine RN.blk (ops := [(122, .iload_n 2), (123, .iload_n 3)]) (pc' := 124) (lv' := [(0, .inr (.inr u0)), (1, .inl u1), (2, .inl u2), (3, .inl u3), (4, .inl u4), (6, .inl v6), (7, .inl v7), (8, .inl v8)]) (st' := [.inl u3, .inl u2, .inr (.inr x3), .inr (.inr (m_rd h1 u0 12))]) (h' := h2) (cs := []) (by decide +kernel) rfl trivial ?_
      obtain ⟨hc, hF⟩ := gd_of hF
      obtain ⟨h4, hG, hF⟩ := bv_of hF
      refine RN.cv (i := 353) (k := 76) (q2 := iX7_stepsWithPosts) (as := [.inr (.inr (m_rd h1 u0 12)), .inr (.inr x3), .inl u2, .inl u3]) (r := []) (v := none) (h1 := h4) (by decide +kernel) rfl rfl rfl rfl rfl (rcv_ok hc.1) (CX7_stepsWithPosts (d := d) hG) ?_
      obtain ⟨hc, hF⟩ := gd_of hF
      refine RN.blk (ops := [(127, .iload 6), (129, .aload_n 0), (130, .getfield 72), (133, .getfield 209)]) (pc' := 136) (lv' := [(0, .inr (.inr u0)), (1, .inl u1), (2, .inl u2), (3, .inl u3), (4, .inl u4), (6, .inl v6), (7, .inl v7), (8, .inl v8)]) (st' := [.inr (.inr (m_rd h4 (m_rd h4 u0 12) 1)), .inl v6]) (h' := h4) (cs := [GK h4 u0 11, GK h4 (m_rd h4 u0 12) 7]) (by decide +kernel) rfl hc ?_
      obtain ⟨hc, hF⟩ := gd_of hF
      obtain ⟨x6, h5, hG, hF⟩ := bd_of hF
      refine RN.cv (i := 179) (k := 106) (q2 := iX10_bagsOfAll) (as := [.inr (.inr (m_rd h4 (m_rd h4 u0 12) 1))]) (r := [.inl v6]) (v := some (.inl x6)) (h1 := h5) (by decide +kernel) rfl rfl rfl rfl rfl (rcv_ok hc.1) (CX10_bagsOfAll (d := d + 4) hG) ?_
      obtain ⟨hc, hF⟩ := gd_of hF
      refine RN.blk (ops := [(139, .iadd), (140, .istore 6), (142, .iload 7), (144, .aload_n 0), (145, .getfield 72), (148, .getfield 209), (151, .getfield 182), (154, .iadd), (155, .istore 7), (157, .iinc 8 1)]) (pc' := 160) (lv' := [(8, .inl (m_w32 (v8 + 1))), (7, .inl (m_w32 (v7 + (m_rd h5 (m_rd h5 (m_rd h5 u0 12) 1) 5)))), (6, .inl (m_w32 (v6 + x6))), (0, .inr (.inr u0)), (1, .inl u1), (2, .inl u2), (3, .inl u3), (4, .inl u4)]) (st' := []) (h' := h5) (cs := [GK h5 u0 11, GK h5 (m_rd h5 u0 12) 7, GK h5 (m_rd h5 (m_rd h5 u0 12) 1) 10]) (by decide +kernel) rfl hc ?_
      refine RN.goto (off := -69) (tgt := 91) (by decide +kernel) ?_
      exact RN.sub (ih _ _ _ _ hF) (sub_cons rfl (sub_cons rfl (sub_cons rfl (sub_cons rfl (sub_cons rfl (sub_cons rfl (sub_cons rfl (sub_cons rfl sub_nil))))))))
    · refine RN.ict (cd := .ge) (off := 69) (tgt := 163) (by decide +kernel) (mif_ge hb) ?_
      exact RN.sub (hK0 _ _ _ hF) (sub_cons rfl (sub_cons rfl (sub_cons rfl sub_nil)))
noncomputable def FX11_posts (t : Int) (a1 : Int) (a2 : Int) (a3 : Int) (a4 : Int) (h : MH) : Option (Int × MH) :=
  jn (fun (s2 : Int) =>
   gd [GK h t 11] (bd (FX11_hasFrame t h) (fun x4 h3 =>
    (if x4 = 0 then
     some ((-1), h3)
    else
     (if s2 = 0 then
      some ((-1), h3)
     else
      gd [GK h3 t 11] (bv (FX11_startFromNow t h3) (fun h5 =>
       gd [GK h5 t 11, GK h5 t 11, GK h5 (m_rd h5 t 5) 2, GK h5 (m_rd h5 t 12) 7] (
        FX11_posts_L91 t a1 a2 a3 a4 (fun w6 w7 h8 =>
         (if a4 = 0 then
          some (w6, h8)
         else
          some (w7, h8))) FU 0 0 0 (m_wr h5 (m_rd h5 t 12) 2 (m_rd h5 (m_rd h5 t 5) 4)))))))))) (fun j1 =>
   jn (
    j1 0) (fun j9 =>
    (if a1 < 1 then
     j9
    else
     (if 10 < a1 then
      j9
     else
      (if a2 < 1 then
       j9
      else
       (if 60 < a2 then
        j9
       else
        (if a3 < 0 then
         j9
        else
         (if 100 < a3 then
          j9
         else
          (if a4 < 0 then
           j9
          else
           (if 1 < a4 then
            j9
           else
            j1 1))))))))))
theorem CX11_posts {d : Nat} {t : Int} {a1 : Int} {a2 : Int} {a3 : Int} {a4 : Int} {h : MH} {r : Int × MH} (hF : FX11_posts t a1 a2 a3 a4 h = some r) : RN xs L iX11_posts (d + 6) 0 (lvE 0 [.inr (.inr t), .inl a1, .inl a2, .inl a3, .inl a4]) [] h (RIo r) := by
  unfold FX11_posts at hF
  refine RN.blk (ops := [(0, .iload_n 1), (1, .iconst 1)]) (pc' := 2) (lv' := [(0, .inr (.inr t)), (1, .inl a1), (2, .inl a2), (3, .inl a3), (4, .inl a4)]) (st' := [.inl 1, .inl a1]) (h' := h) (cs := []) (by decide +kernel) rfl trivial ?_
  refine jn_use (fun j1 => ∀ (s2 : Int), j1 s2 = some r → RN xs L iX11_posts (d + 6) 48 [(0, .inr (.inr t)), (1, .inl a1), (2, .inl a2), (3, .inl a3), (4, .inl a4)] [.inl s2] h (RIo r)) ?_ ?_ hF
  · intro s2 hF
    refine RN.blk (ops := [(48, .istore 5), (50, .aload_n 0)]) (pc' := 51) (lv' := [(5, .inl s2), (0, .inr (.inr t)), (1, .inl a1), (2, .inl a2), (3, .inl a3), (4, .inl a4)]) (st' := [.inr (.inr t)]) (h' := h) (cs := []) (by decide +kernel) rfl trivial ?_
    obtain ⟨hc, hF⟩ := gd_of hF
    obtain ⟨x4, h3, hG, hF⟩ := bd_of hF
    refine RN.cv (i := 191) (k := 149) (q2 := iX11_hasFrame) (as := [.inr (.inr t)]) (r := []) (v := some (.inl x4)) (h1 := h3) (by decide +kernel) rfl rfl rfl rfl rfl (rcv_ok hc.1) (CX11_hasFrame (d := d + 5) hG) ?_
    rcases it_of hF with ⟨hb, hF⟩ | ⟨hb, hF⟩
    · refine RN.ift (cd := .eq) (off := 8) (tgt := 62) (by decide +kernel) (mif_eq hb) ?_
      refine RN.blk (ops := [(62, .iconst (-1))]) (pc' := 63) (lv' := [(5, .inl s2), (0, .inr (.inr t)), (1, .inl a1), (2, .inl a2), (3, .inl a3), (4, .inl a4)]) (st' := [.inl (-1)]) (h' := h3) (cs := []) (by decide +kernel) rfl trivial ?_
      exact RN.iR (by decide +kernel) rfl hF
    · refine RN.iff (cd := .eq) (off := 8) (tgt := 62) (by decide +kernel) (mif_eqn hb) ?_
      refine RN.blk (ops := [(57, .iload 5)]) (pc' := 59) (lv' := [(5, .inl s2), (0, .inr (.inr t)), (1, .inl a1), (2, .inl a2), (3, .inl a3), (4, .inl a4)]) (st' := [.inl s2]) (h' := h3) (cs := []) (by decide +kernel) rfl trivial ?_
      rcases it_of hF with ⟨hb, hF⟩ | ⟨hb, hF⟩
      · refine RN.iff (cd := .ne) (off := 5) (tgt := 64) (by decide +kernel) (mif_nen hb) ?_
        refine RN.blk (ops := [(62, .iconst (-1))]) (pc' := 63) (lv' := [(5, .inl s2), (0, .inr (.inr t)), (1, .inl a1), (2, .inl a2), (3, .inl a3), (4, .inl a4)]) (st' := [.inl (-1)]) (h' := h3) (cs := []) (by decide +kernel) rfl trivial ?_
        exact RN.iR (by decide +kernel) rfl hF
      · refine RN.ift (cd := .ne) (off := 5) (tgt := 64) (by decide +kernel) (mif_ne hb) ?_
        refine RN.blk (ops := [(64, .aload_n 0)]) (pc' := 65) (lv' := [(5, .inl s2), (0, .inr (.inr t)), (1, .inl a1), (2, .inl a2), (3, .inl a3), (4, .inl a4)]) (st' := [.inr (.inr t)]) (h' := h3) (cs := []) (by decide +kernel) rfl trivial ?_
        obtain ⟨hc, hF⟩ := gd_of hF
        obtain ⟨h5, hG, hF⟩ := bv_of hF
        refine RN.cv (i := 195) (k := 154) (q2 := iX11_startFromNow) (as := [.inr (.inr t)]) (r := []) (v := none) (h1 := h5) (by decide +kernel) rfl rfl rfl rfl rfl (rcv_ok hc.1) (CX11_startFromNow (d := d + 1) hG) ?_
        obtain ⟨hc, hF⟩ := gd_of hF
        refine RN.blk (ops := [(68, .aload_n 0), (69, .getfield 72), (72, .aload_n 0), (73, .getfield 41), (76, .getfield 188), (79, .putfield 352), (82, .iconst 0), (83, .istore 6), (85, .iconst 0), (86, .istore 7), (88, .iconst 0), (89, .istore 8)]) (pc' := 91) (lv' := [(8, .inl 0), (7, .inl 0), (6, .inl 0), (5, .inl s2), (0, .inr (.inr t)), (1, .inl a1), (2, .inl a2), (3, .inl a3), (4, .inl a4)]) (st' := []) (h' := (m_wr h5 (m_rd h5 t 12) 2 (m_rd h5 (m_rd h5 t 5) 4))) (cs := [GK h5 t 11, GK h5 t 11, GK h5 (m_rd h5 t 5) 2, GK h5 (m_rd h5 t 12) 7]) (by decide +kernel) rfl hc ?_
        refine RN.sub (CX11_posts_L91 ?_ _ _ _ _ _ hF) (sub_cons rfl (sub_cons rfl (sub_cons rfl (sub_cons rfl (sub_cons rfl (sub_cons rfl (sub_cons rfl (sub_cons rfl sub_nil))))))))
        · intro w6 w7 h8 hF
          refine RN.blk (ops := [(163, .iload 4)]) (pc' := 165) (lv' := [(4, .inl a4), (6, .inl w6), (7, .inl w7)]) (st' := [.inl a4]) (h' := h8) (cs := []) (by decide +kernel) rfl trivial ?_
          rcases it_of hF with ⟨hb, hF⟩ | ⟨hb, hF⟩
          · refine RN.iff (cd := .ne) (off := 8) (tgt := 173) (by decide +kernel) (mif_nen hb) ?_
            refine RN.blk (ops := [(168, .iload 6)]) (pc' := 170) (lv' := [(4, .inl a4), (6, .inl w6), (7, .inl w7)]) (st' := [.inl w6]) (h' := h8) (cs := []) (by decide +kernel) rfl trivial ?_
            refine RN.goto (off := 5) (tgt := 175) (by decide +kernel) ?_
            exact RN.iR (by decide +kernel) rfl hF
          · refine RN.ift (cd := .ne) (off := 8) (tgt := 173) (by decide +kernel) (mif_ne hb) ?_
            refine RN.blk (ops := [(173, .iload 7)]) (pc' := 175) (lv' := [(4, .inl a4), (6, .inl w6), (7, .inl w7)]) (st' := [.inl w7]) (h' := h8) (cs := []) (by decide +kernel) rfl trivial ?_
            exact RN.iR (by decide +kernel) rfl hF
  · intro j1 Jj1 hF
    refine jn_use (fun j9 => j9 = some r → RN xs L iX11_posts (d + 6) 47 [(0, .inr (.inr t)), (1, .inl a1), (2, .inl a2), (3, .inl a3), (4, .inl a4)] [] h (RIo r)) ?_ ?_ hF
    · intro  hF
      refine RN.blk (ops := [(47, .iconst 0)]) (pc' := 48) (lv' := [(0, .inr (.inr t)), (1, .inl a1), (2, .inl a2), (3, .inl a3), (4, .inl a4)]) (st' := [.inl 0]) (h' := h) (cs := []) (by decide +kernel) rfl trivial ?_
      exact RN.sub (Jj1 _ hF) (sub_cons rfl (sub_cons rfl (sub_cons rfl (sub_cons rfl (sub_cons rfl sub_nil)))))
    · intro j9 Jj9 hF
      rcases it_of hF with ⟨hb, hF⟩ | ⟨hb, hF⟩
      · refine RN.ict (cd := .lt) (off := 45) (tgt := 47) (by decide +kernel) (mif_lt hb) ?_
        exact RN.sub (Jj9 hF) (sub_cons rfl (sub_cons rfl (sub_cons rfl (sub_cons rfl (sub_cons rfl sub_nil)))))
      · refine RN.icf (cd := .lt) (off := 45) (tgt := 47) (by decide +kernel) (mif_ltn hb) ?_
        refine RN.blk (ops := [(5, .iload_n 1), (6, .bipush 10)]) (pc' := 8) (lv' := [(0, .inr (.inr t)), (1, .inl a1), (2, .inl a2), (3, .inl a3), (4, .inl a4)]) (st' := [.inl 10, .inl a1]) (h' := h) (cs := []) (by decide +kernel) rfl trivial ?_
        rcases it_of hF with ⟨hb, hF⟩ | ⟨hb, hF⟩
        · refine RN.ict (cd := .gt) (off := 39) (tgt := 47) (by decide +kernel) (mif_gt hb) ?_
          exact RN.sub (Jj9 hF) (sub_cons rfl (sub_cons rfl (sub_cons rfl (sub_cons rfl (sub_cons rfl sub_nil)))))
        · refine RN.icf (cd := .gt) (off := 39) (tgt := 47) (by decide +kernel) (mif_gtn hb) ?_
          refine RN.blk (ops := [(11, .iload_n 2), (12, .iconst 1)]) (pc' := 13) (lv' := [(0, .inr (.inr t)), (1, .inl a1), (2, .inl a2), (3, .inl a3), (4, .inl a4)]) (st' := [.inl 1, .inl a2]) (h' := h) (cs := []) (by decide +kernel) rfl trivial ?_
          rcases it_of hF with ⟨hb, hF⟩ | ⟨hb, hF⟩
          · refine RN.ict (cd := .lt) (off := 34) (tgt := 47) (by decide +kernel) (mif_lt hb) ?_
            exact RN.sub (Jj9 hF) (sub_cons rfl (sub_cons rfl (sub_cons rfl (sub_cons rfl (sub_cons rfl sub_nil)))))
          · refine RN.icf (cd := .lt) (off := 34) (tgt := 47) (by decide +kernel) (mif_ltn hb) ?_
            refine RN.blk (ops := [(16, .iload_n 2), (17, .bipush 60)]) (pc' := 19) (lv' := [(0, .inr (.inr t)), (1, .inl a1), (2, .inl a2), (3, .inl a3), (4, .inl a4)]) (st' := [.inl 60, .inl a2]) (h' := h) (cs := []) (by decide +kernel) rfl trivial ?_
            rcases it_of hF with ⟨hb, hF⟩ | ⟨hb, hF⟩
            · refine RN.ict (cd := .gt) (off := 28) (tgt := 47) (by decide +kernel) (mif_gt hb) ?_
              exact RN.sub (Jj9 hF) (sub_cons rfl (sub_cons rfl (sub_cons rfl (sub_cons rfl (sub_cons rfl sub_nil)))))
            · refine RN.icf (cd := .gt) (off := 28) (tgt := 47) (by decide +kernel) (mif_gtn hb) ?_
              refine RN.blk (ops := [(22, .iload_n 3)]) (pc' := 23) (lv' := [(0, .inr (.inr t)), (1, .inl a1), (2, .inl a2), (3, .inl a3), (4, .inl a4)]) (st' := [.inl a3]) (h' := h) (cs := []) (by decide +kernel) rfl trivial ?_
              rcases it_of hF with ⟨hb, hF⟩ | ⟨hb, hF⟩
              · refine RN.ift (cd := .lt) (off := 24) (tgt := 47) (by decide +kernel) (mif_lt hb) ?_
                exact RN.sub (Jj9 hF) (sub_cons rfl (sub_cons rfl (sub_cons rfl (sub_cons rfl (sub_cons rfl sub_nil)))))
              · refine RN.iff (cd := .lt) (off := 24) (tgt := 47) (by decide +kernel) (mif_ltn hb) ?_
                refine RN.blk (ops := [(26, .iload_n 3), (27, .bipush 100)]) (pc' := 29) (lv' := [(0, .inr (.inr t)), (1, .inl a1), (2, .inl a2), (3, .inl a3), (4, .inl a4)]) (st' := [.inl 100, .inl a3]) (h' := h) (cs := []) (by decide +kernel) rfl trivial ?_
                rcases it_of hF with ⟨hb, hF⟩ | ⟨hb, hF⟩
                · refine RN.ict (cd := .gt) (off := 18) (tgt := 47) (by decide +kernel) (mif_gt hb) ?_
                  exact RN.sub (Jj9 hF) (sub_cons rfl (sub_cons rfl (sub_cons rfl (sub_cons rfl (sub_cons rfl sub_nil)))))
                · refine RN.icf (cd := .gt) (off := 18) (tgt := 47) (by decide +kernel) (mif_gtn hb) ?_
                  refine RN.blk (ops := [(32, .iload 4)]) (pc' := 34) (lv' := [(0, .inr (.inr t)), (1, .inl a1), (2, .inl a2), (3, .inl a3), (4, .inl a4)]) (st' := [.inl a4]) (h' := h) (cs := []) (by decide +kernel) rfl trivial ?_
                  rcases it_of hF with ⟨hb, hF⟩ | ⟨hb, hF⟩
                  · refine RN.ift (cd := .lt) (off := 13) (tgt := 47) (by decide +kernel) (mif_lt hb) ?_
                    exact RN.sub (Jj9 hF) (sub_cons rfl (sub_cons rfl (sub_cons rfl (sub_cons rfl (sub_cons rfl sub_nil)))))
                  · refine RN.iff (cd := .lt) (off := 13) (tgt := 47) (by decide +kernel) (mif_ltn hb) ?_
                    refine RN.blk (ops := [(37, .iload 4), (39, .iconst 1)]) (pc' := 40) (lv' := [(0, .inr (.inr t)), (1, .inl a1), (2, .inl a2), (3, .inl a3), (4, .inl a4)]) (st' := [.inl 1, .inl a4]) (h' := h) (cs := []) (by decide +kernel) rfl trivial ?_
                    rcases it_of hF with ⟨hb, hF⟩ | ⟨hb, hF⟩
                    · refine RN.ict (cd := .gt) (off := 7) (tgt := 47) (by decide +kernel) (mif_gt hb) ?_
                      exact RN.sub (Jj9 hF) (sub_cons rfl (sub_cons rfl (sub_cons rfl (sub_cons rfl (sub_cons rfl sub_nil)))))
                    · refine RN.icf (cd := .gt) (off := 7) (tgt := 47) (by decide +kernel) (mif_gtn hb) ?_
                      refine RN.blk (ops := [(43, .iconst 1)]) (pc' := 44) (lv' := [(0, .inr (.inr t)), (1, .inl a1), (2, .inl a2), (3, .inl a3), (4, .inl a4)]) (st' := [.inl 1]) (h' := h) (cs := []) (by decide +kernel) rfl trivial ?_
                      refine RN.goto (off := 4) (tgt := 48) (by decide +kernel) ?_
                      exact RN.sub (Jj1 _ hF) (sub_cons rfl (sub_cons rfl (sub_cons rfl (sub_cons rfl (sub_cons rfl sub_nil)))))
noncomputable def FX11_image (t : Int) (a1 : Int) (h : MH) : Option (Int × MH) :=
  (if a1 < 0 then
   some ((-1), h)
  else
   (if a1 < 4 then
    gd [GK h t 11, GA h (m_rd h t 6) a1, GK h t 11] (
     gd [GK h (m_rd h (m_rd h t 6) a1) 2] (bv (FX2_copyFrom (m_rd h (m_rd h t 6) a1) (m_rd h t 5) h) (fun h1 =>
      gd [GK h1 t 11, GB h1 (m_rd h1 t 7) a1, GK h1 t 11, GK h1 (m_rd (m_wr h1 (m_rd h1 t 7) a1 (m_bst h1 (m_rd h1 t 7) 1)) t 5) 2, GK h1 (m_rd (m_wr h1 (m_rd h1 t 7) a1 (m_bst h1 (m_rd h1 t 7) 1)) (m_rd (m_wr h1 (m_rd h1 t 7) a1 (m_bst h1 (m_rd h1 t 7) 1)) t 5) 2) 10] (
       some ((m_rd (m_wr h1 (m_rd h1 t 7) a1 (m_bst h1 (m_rd h1 t 7) 1)) (m_rd (m_wr h1 (m_rd h1 t 7) a1 (m_bst h1 (m_rd h1 t 7) 1)) (m_rd (m_wr h1 (m_rd h1 t 7) a1 (m_bst h1 (m_rd h1 t 7) 1)) t 5) 2) 6), (m_wr h1 (m_rd h1 t 7) a1 (m_bst h1 (m_rd h1 t 7) 1)))))))
   else
    some ((-1), h)))
theorem CX11_image {d : Nat} {t : Int} {a1 : Int} {h : MH} {r : Int × MH} (hF : FX11_image t a1 h = some r) : RN xs L iX11_image (d + 4) 0 (lvE 0 [.inr (.inr t), .inl a1]) [] h (RIo r) := by
  unfold FX11_image at hF
  refine RN.blk (ops := [(0, .iload_n 1)]) (pc' := 1) (lv' := [(0, .inr (.inr t)), (1, .inl a1)]) (st' := [.inl a1]) (h' := h) (cs := []) (by decide +kernel) rfl trivial ?_
  rcases it_of hF with ⟨hb, hF⟩ | ⟨hb, hF⟩
  · refine RN.ift (cd := .lt) (off := 8) (tgt := 9) (by decide +kernel) (mif_lt hb) ?_
    refine RN.blk (ops := [(9, .iconst (-1))]) (pc' := 10) (lv' := [(0, .inr (.inr t)), (1, .inl a1)]) (st' := [.inl (-1)]) (h' := h) (cs := []) (by decide +kernel) rfl trivial ?_
    exact RN.iR (by decide +kernel) rfl hF
  · refine RN.iff (cd := .lt) (off := 8) (tgt := 9) (by decide +kernel) (mif_ltn hb) ?_
    refine RN.blk (ops := [(4, .iload_n 1), (5, .iconst 4)]) (pc' := 6) (lv' := [(0, .inr (.inr t)), (1, .inl a1)]) (st' := [.inl 4, .inl a1]) (h' := h) (cs := []) (by decide +kernel) rfl trivial ?_
    rcases it_of hF with ⟨hb, hF⟩ | ⟨hb, hF⟩
    · refine RN.ict (cd := .lt) (off := 5) (tgt := 11) (by decide +kernel) (mif_lt hb) ?_
      obtain ⟨hc, hF⟩ := gd_of hF
      refine RN.blk (ops := [(11, .aload_n 0), (12, .getfield 45), (15, .iload_n 1), (16, .aaload), (17, .aload_n 0), (18, .getfield 41)]) (pc' := 21) (lv' := [(0, .inr (.inr t)), (1, .inl a1)]) (st' := [.inr (.inr (m_rd h t 5)), .inr (.inr (m_rd h (m_rd h t 6) a1))]) (h' := h) (cs := [GK h t 11, GA h (m_rd h t 6) a1, GK h t 11]) (by decide +kernel) rfl hc ?_
      obtain ⟨hc, hF⟩ := gd_of hF
      obtain ⟨h1, hG, hF⟩ := bv_of hF
      refine RN.cv (i := 357) (k := 31) (q2 := iX2_copyFrom) (as := [.inr (.inr (m_rd h (m_rd h t 6) a1)), .inr (.inr (m_rd h t 5))]) (r := []) (v := none) (h1 := h1) (by decide +kernel) rfl rfl rfl rfl rfl (rcv_ok hc.1) (CX2_copyFrom (d := d) hG) ?_
      obtain ⟨hc, hF⟩ := gd_of hF
      refine RN.blk (ops := [(24, .aload_n 0), (25, .getfield 49), (28, .iload_n 1), (29, .iconst 1), (30, .bastore), (31, .aload_n 0), (32, .getfield 41), (35, .getfield 110), (38, .getfield 173)]) (pc' := 41) (lv' := [(0, .inr (.inr t)), (1, .inl a1)]) (st' := [.inl (m_rd (m_wr h1 (m_rd h1 t 7) a1 (m_bst h1 (m_rd h1 t 7) 1)) (m_rd (m_wr h1 (m_rd h1 t 7) a1 (m_bst h1 (m_rd h1 t 7) 1)) (m_rd (m_wr h1 (m_rd h1 t 7) a1 (m_bst h1 (m_rd h1 t 7) 1)) t 5) 2) 6)]) (h' := (m_wr h1 (m_rd h1 t 7) a1 (m_bst h1 (m_rd h1 t 7) 1))) (cs := [GK h1 t 11, GB h1 (m_rd h1 t 7) a1, GK h1 t 11, GK h1 (m_rd (m_wr h1 (m_rd h1 t 7) a1 (m_bst h1 (m_rd h1 t 7) 1)) t 5) 2, GK h1 (m_rd (m_wr h1 (m_rd h1 t 7) a1 (m_bst h1 (m_rd h1 t 7) 1)) (m_rd (m_wr h1 (m_rd h1 t 7) a1 (m_bst h1 (m_rd h1 t 7) 1)) t 5) 2) 10]) (by decide +kernel) rfl hc ?_
      exact RN.iR (by decide +kernel) rfl hF
    · refine RN.icf (cd := .lt) (off := 5) (tgt := 11) (by decide +kernel) (mif_ltn hb) ?_
      refine RN.blk (ops := [(9, .iconst (-1))]) (pc' := 10) (lv' := [(0, .inr (.inr t)), (1, .inl a1)]) (st' := [.inl (-1)]) (h' := h) (cs := []) (by decide +kernel) rfl trivial ?_
      exact RN.iR (by decide +kernel) rfl hF
noncomputable def FX11_back (t : Int) (a1 : Int) (h : MH) : Option (Int × MH) :=
  (if a1 < 0 then
   some ((-1), h)
  else
   (if a1 < 4 then
    gd [GK h t 11, GB h (m_rd h t 7) a1] (
     (if (m_rd h (m_rd h t 7) a1) = 0 then
      some ((-1), h)
     else
      gd [GK h t 11, GK h t 11, GA h (m_rd h t 6) a1] (
       gd [GK h (m_rd h t 5) 2] (bv (FX2_copyFrom (m_rd h t 5) (m_rd h (m_rd h t 6) a1) h) (fun h1 =>
        gd [GK h1 t 11, GK h1 t 11, GK h1 (m_rd (m_wr h1 t 10 0) t 5) 2, GK h1 (m_rd (m_wr h1 t 10 0) (m_rd (m_wr h1 t 10 0) t 5) 2) 10] (
         some ((m_rd (m_wr h1 t 10 0) (m_rd (m_wr h1 t 10 0) (m_rd (m_wr h1 t 10 0) t 5) 2) 6), (m_wr h1 t 10 0))))))))
   else
    some ((-1), h)))
theorem CX11_back {d : Nat} {t : Int} {a1 : Int} {h : MH} {r : Int × MH} (hF : FX11_back t a1 h = some r) : RN xs L iX11_back (d + 4) 0 (lvE 0 [.inr (.inr t), .inl a1]) [] h (RIo r) := by
  unfold FX11_back at hF
  refine RN.blk (ops := [(0, .iload_n 1)]) (pc' := 1) (lv' := [(0, .inr (.inr t)), (1, .inl a1)]) (st' := [.inl a1]) (h' := h) (cs := []) (by decide +kernel) rfl trivial ?_
  rcases it_of hF with ⟨hb, hF⟩ | ⟨hb, hF⟩
  · refine RN.ift (cd := .lt) (off := 17) (tgt := 18) (by decide +kernel) (mif_lt hb) ?_
    refine RN.blk (ops := [(18, .iconst (-1))]) (pc' := 19) (lv' := [(0, .inr (.inr t)), (1, .inl a1)]) (st' := [.inl (-1)]) (h' := h) (cs := []) (by decide +kernel) rfl trivial ?_
    exact RN.iR (by decide +kernel) rfl hF
  · refine RN.iff (cd := .lt) (off := 17) (tgt := 18) (by decide +kernel) (mif_ltn hb) ?_
    refine RN.blk (ops := [(4, .iload_n 1), (5, .iconst 4)]) (pc' := 6) (lv' := [(0, .inr (.inr t)), (1, .inl a1)]) (st' := [.inl 4, .inl a1]) (h' := h) (cs := []) (by decide +kernel) rfl trivial ?_
    rcases it_of hF with ⟨hb, hF⟩ | ⟨hb, hF⟩
    · refine RN.icf (cd := .ge) (off := 12) (tgt := 18) (by decide +kernel) (mif_gen hb) ?_
      obtain ⟨hc, hF⟩ := gd_of hF
      refine RN.blk (ops := [(9, .aload_n 0), (10, .getfield 49), (13, .iload_n 1), (14, .baload)]) (pc' := 15) (lv' := [(0, .inr (.inr t)), (1, .inl a1)]) (st' := [.inl (m_rd h (m_rd h t 7) a1)]) (h' := h) (cs := [GK h t 11, GB h (m_rd h t 7) a1]) (by decide +kernel) rfl hc ?_
      rcases it_of hF with ⟨hb, hF⟩ | ⟨hb, hF⟩
      · refine RN.iff (cd := .ne) (off := 5) (tgt := 20) (by decide +kernel) (mif_nen hb) ?_
        refine RN.blk (ops := [(18, .iconst (-1))]) (pc' := 19) (lv' := [(0, .inr (.inr t)), (1, .inl a1)]) (st' := [.inl (-1)]) (h' := h) (cs := []) (by decide +kernel) rfl trivial ?_
        exact RN.iR (by decide +kernel) rfl hF
      · refine RN.ift (cd := .ne) (off := 5) (tgt := 20) (by decide +kernel) (mif_ne hb) ?_
        obtain ⟨hc, hF⟩ := gd_of hF
        refine RN.blk (ops := [(20, .aload_n 0), (21, .getfield 41), (24, .aload_n 0), (25, .getfield 45), (28, .iload_n 1), (29, .aaload)]) (pc' := 30) (lv' := [(0, .inr (.inr t)), (1, .inl a1)]) (st' := [.inr (.inr (m_rd h (m_rd h t 6) a1)), .inr (.inr (m_rd h t 5))]) (h' := h) (cs := [GK h t 11, GK h t 11, GA h (m_rd h t 6) a1]) (by decide +kernel) rfl hc ?_
        obtain ⟨hc, hF⟩ := gd_of hF
        obtain ⟨h1, hG, hF⟩ := bv_of hF
        refine RN.cv (i := 357) (k := 31) (q2 := iX2_copyFrom) (as := [.inr (.inr (m_rd h t 5)), .inr (.inr (m_rd h (m_rd h t 6) a1))]) (r := []) (v := none) (h1 := h1) (by decide +kernel) rfl rfl rfl rfl rfl (rcv_ok hc.1) (CX2_copyFrom (d := d) hG) ?_
        obtain ⟨hc, hF⟩ := gd_of hF
        refine RN.blk (ops := [(33, .aload_n 0), (34, .iconst 0), (35, .putfield 107), (38, .aload_n 0), (39, .getfield 41), (42, .getfield 110), (45, .getfield 173)]) (pc' := 48) (lv' := [(0, .inr (.inr t)), (1, .inl a1)]) (st' := [.inl (m_rd (m_wr h1 t 10 0) (m_rd (m_wr h1 t 10 0) (m_rd (m_wr h1 t 10 0) t 5) 2) 6)]) (h' := (m_wr h1 t 10 0)) (cs := [GK h1 t 11, GK h1 t 11, GK h1 (m_rd (m_wr h1 t 10 0) t 5) 2, GK h1 (m_rd (m_wr h1 t 10 0) (m_rd (m_wr h1 t 10 0) t 5) 2) 10]) (by decide +kernel) rfl hc ?_
        exact RN.iR (by decide +kernel) rfl hF
    · refine RN.ict (cd := .ge) (off := 12) (tgt := 18) (by decide +kernel) (mif_ge hb) ?_
      refine RN.blk (ops := [(18, .iconst (-1))]) (pc' := 19) (lv' := [(0, .inr (.inr t)), (1, .inl a1)]) (st' := [.inl (-1)]) (h' := h) (cs := []) (by decide +kernel) rfl trivial ?_
      exact RN.iR (by decide +kernel) rfl hF
noncomputable def FX12_in (a1 : Int) (a2 : Int) (a3 : Int) (h : MH) : Option (Int × MH) :=
  (if (m_lcmp a1 a2) < 0 then
   some (0, h)
  else
   (if 0 < (m_lcmp a1 a3) then
    some (0, h)
   else
    some (1, h)))
theorem CX12_in {d : Nat} {a1 : Int} {a2 : Int} {a3 : Int} {h : MH} {r : Int × MH} (hF : FX12_in a1 a2 a3 h = some r) : RN xs L iX12_in (d) 0 (lvE 0 [.inr (.inl a1), .inr (.inl a2), .inr (.inl a3)]) [] h (RIo r) := by
  unfold FX12_in at hF
  refine RN.blk (ops := [(0, .lload_n 0), (1, .lload_n 2), (2, .lcmp)]) (pc' := 3) (lv' := [(0, .inr (.inl a1)), (2, .inr (.inl a2)), (4, .inr (.inl a3))]) (st' := [.inl (m_lcmp a1 a2)]) (h' := h) (cs := []) (by decide +kernel) rfl trivial ?_
  rcases it_of hF with ⟨hb, hF⟩ | ⟨hb, hF⟩
  · refine RN.ift (cd := .lt) (off := 14) (tgt := 17) (by decide +kernel) (mif_lt hb) ?_
    refine RN.blk (ops := [(17, .iconst 0)]) (pc' := 18) (lv' := [(0, .inr (.inl a1)), (2, .inr (.inl a2)), (4, .inr (.inl a3))]) (st' := [.inl 0]) (h' := h) (cs := []) (by decide +kernel) rfl trivial ?_
    exact RN.zR (by decide +kernel) rfl (Or.inl rfl) hF
  · refine RN.iff (cd := .lt) (off := 14) (tgt := 17) (by decide +kernel) (mif_ltn hb) ?_
    refine RN.blk (ops := [(6, .lload_n 0), (7, .lload 4), (9, .lcmp)]) (pc' := 10) (lv' := [(0, .inr (.inl a1)), (2, .inr (.inl a2)), (4, .inr (.inl a3))]) (st' := [.inl (m_lcmp a1 a3)]) (h' := h) (cs := []) (by decide +kernel) rfl trivial ?_
    rcases it_of hF with ⟨hb, hF⟩ | ⟨hb, hF⟩
    · refine RN.ift (cd := .gt) (off := 7) (tgt := 17) (by decide +kernel) (mif_gt hb) ?_
      refine RN.blk (ops := [(17, .iconst 0)]) (pc' := 18) (lv' := [(0, .inr (.inl a1)), (2, .inr (.inl a2)), (4, .inr (.inl a3))]) (st' := [.inl 0]) (h' := h) (cs := []) (by decide +kernel) rfl trivial ?_
      exact RN.zR (by decide +kernel) rfl (Or.inl rfl) hF
    · refine RN.iff (cd := .gt) (off := 7) (tgt := 17) (by decide +kernel) (mif_gtn hb) ?_
      refine RN.blk (ops := [(13, .iconst 1)]) (pc' := 14) (lv' := [(0, .inr (.inl a1)), (2, .inr (.inl a2)), (4, .inr (.inl a3))]) (st' := [.inl 1]) (h' := h) (cs := []) (by decide +kernel) rfl trivial ?_
      refine RN.goto (off := 4) (tgt := 18) (by decide +kernel) ?_
      exact RN.zR (by decide +kernel) rfl (Or.inr rfl) hF
noncomputable def FX12_isOf (a1 : Int) (a2 : Int) (h : MH) : Option (Int × MH) :=
  (if (m_band (m_shr a1 a2) 1) = 1 then
   some (1, h)
  else
   some (0, h))
theorem CX12_isOf {d : Nat} {a1 : Int} {a2 : Int} {h : MH} {r : Int × MH} (hF : FX12_isOf a1 a2 h = some r) : RN xs L iX12_isOf (d) 0 (lvE 0 [.inl a1, .inl a2]) [] h (RIo r) := by
  unfold FX12_isOf at hF
  refine RN.blk (ops := [(0, .iload_n 0), (1, .iload_n 1), (2, .ishr), (3, .iconst 1), (4, .iand), (5, .iconst 1)]) (pc' := 6) (lv' := [(0, .inl a1), (1, .inl a2)]) (st' := [.inl 1, .inl (m_band (m_shr a1 a2) 1)]) (h' := h) (cs := []) (by decide +kernel) rfl trivial ?_
  rcases it_of hF with ⟨hb, hF⟩ | ⟨hb, hF⟩
  · refine RN.icf (cd := .ne) (off := 7) (tgt := 13) (by decide +kernel) (mif_nen hb) ?_
    refine RN.blk (ops := [(9, .iconst 1)]) (pc' := 10) (lv' := [(0, .inl a1), (1, .inl a2)]) (st' := [.inl 1]) (h' := h) (cs := []) (by decide +kernel) rfl trivial ?_
    refine RN.goto (off := 4) (tgt := 14) (by decide +kernel) ?_
    exact RN.zR (by decide +kernel) rfl (Or.inr rfl) hF
  · refine RN.ict (cd := .ne) (off := 7) (tgt := 13) (by decide +kernel) (mif_ne hb) ?_
    refine RN.blk (ops := [(13, .iconst 0)]) (pc' := 14) (lv' := [(0, .inl a1), (1, .inl a2)]) (st' := [.inl 0]) (h' := h) (cs := []) (by decide +kernel) rfl trivial ?_
    exact RN.zR (by decide +kernel) rfl (Or.inl rfl) hF
noncomputable def FX12_bits_L4 (K0 : Int → MH → Option (Int × MH)) : Nat → Int → Int → MH → Option (Int × MH)
  | 0, _, _, _ => none
  | f + 1, v1, v2, h =>
    (if v2 = 0 then
     K0 v1 h
    else
     FX12_bits_L4 K0 f (m_w32 (v1 + 1)) (m_band v2 (m_w32 (v2 - 1))) h)
theorem CX12_bits_L4 {d : Nat} {K0 : Int → MH → Option (Int × MH)} {r : Int × MH} (hK0 : ∀ (w1 : Int) (h : MH), K0 w1 h = some r → RN xs L iX12_bits (d) 20 [(1, .inl w1)] [] h (RIo r)) : ∀ (f : Nat) (v1 : Int) (v2 : Int) (h : MH), FX12_bits_L4 K0 f v1 v2 h = some r → RN xs L iX12_bits (d) 4 [(1, .inl v1), (2, .inl v2)] [] h (RIo r) := by
  intro f
  induction f with
  | zero =>
    intro v1 v2 h hF
    cases hF
  | succ f ih =>
    intro v1 v2 h hF
    unfold FX12_bits_L4 at hF
    refine RN.blk (ops := [(4, .iload_n 2)]) (pc' := 5) (lv' := [(1, .inl v1), (2, .inl v2)]) (st' := [.inl v2]) (h' := h) (cs := []) (by decide +kernel) rfl trivial ?_
    rcases it_of hF with ⟨hb, hF⟩ | ⟨hb, hF⟩
    · refine RN.ift (cd := .eq) (off := 15) (tgt := 20) (by decide +kernel) (mif_eq hb) ?_
      exact RN.sub (hK0 _ _ hF) (sub_cons rfl sub_nil)
    · refine RN.iff (cd := .eq) (off := 15) (tgt := 20) (by decide +kernel) (mif_eqn hb) ?_
      refine RN.blk (ops := [(8, .iinc 1 1), (11, .iload_n 2), (12, .iload_n 2), (13, .iconst 1), (14, .isub), (15, .iand), (16, .istore_n 2)]) (pc' := 17) (lv' := [(2, .inl (m_band v2 (m_w32 (v2 - 1)))), (1, .inl (m_w32 (v1 + 1)))]) (st' := []) (h' := h) (cs := []) (by decide +kernel) rfl trivial ?_
      refine RN.goto (off := -13) (tgt := 4) (by decide +kernel) ?_
      exact RN.sub (ih _ _ _ hF) (sub_cons rfl (sub_cons rfl sub_nil))
noncomputable def FX12_bits (a1 : Int) (h : MH) : Option (Int × MH) :=
  FX12_bits_L4 (fun w1 h2 =>
   some (w1, h2)) FU 0 a1 h
theorem CX12_bits {d : Nat} {a1 : Int} {h : MH} {r : Int × MH} (hF : FX12_bits a1 h = some r) : RN xs L iX12_bits (d) 0 (lvE 0 [.inl a1]) [] h (RIo r) := by
  unfold FX12_bits at hF
  refine RN.blk (ops := [(0, .iconst 0), (1, .istore_n 1), (2, .iload_n 0), (3, .istore_n 2)]) (pc' := 4) (lv' := [(2, .inl a1), (1, .inl 0), (0, .inl a1)]) (st' := []) (h' := h) (cs := []) (by decide +kernel) rfl trivial ?_
  refine RN.sub (CX12_bits_L4 ?_ _ _ _ _ hF) (sub_cons rfl (sub_cons rfl sub_nil))
  · intro w1 h2 hF
    refine RN.blk (ops := [(20, .iload_n 1)]) (pc' := 21) (lv' := [(1, .inl w1)]) (st' := [.inl w1]) (h' := h2) (cs := []) (by decide +kernel) rfl trivial ?_
    exact RN.iR (by decide +kernel) rfl hF
noncomputable def FX12_power_L4 (u0 : Int) (u1 : Int) (K0 : Int → MH → Option (Int × MH)) : Nat → Int → Int → MH → Option (Int × MH)
  | 0, _, _, _ => none
  | f + 1, v2, v3, h =>
    (if v3 < u1 then
     FX12_power_L4 u0 u1 K0 f (m_w32 (v2 * u0)) (m_w32 (v3 + 1)) h
    else
     K0 v2 h)
theorem CX12_power_L4 {d : Nat} {u0 : Int} {u1 : Int} {K0 : Int → MH → Option (Int × MH)} {r : Int × MH} (hK0 : ∀ (w2 : Int) (h : MH), K0 w2 h = some r → RN xs L iX12_power (d) 19 [(2, .inl w2)] [] h (RIo r)) : ∀ (f : Nat) (v2 : Int) (v3 : Int) (h : MH), FX12_power_L4 u0 u1 K0 f v2 v3 h = some r → RN xs L iX12_power (d) 4 [(0, .inl u0), (1, .inl u1), (2, .inl v2), (3, .inl v3)] [] h (RIo r) := by
  intro f
  induction f with
  | zero =>
    intro v2 v3 h hF
    cases hF
  | succ f ih =>
    intro v2 v3 h hF
    unfold FX12_power_L4 at hF
    refine RN.blk (ops := [(4, .iload_n 3), (5, .iload_n 1)]) (pc' := 6) (lv' := [(0, .inl u0), (1, .inl u1), (2, .inl v2), (3, .inl v3)]) (st' := [.inl u1, .inl v3]) (h' := h) (cs := []) (by decide +kernel) rfl trivial ?_
    rcases it_of hF with ⟨hb, hF⟩ | ⟨hb, hF⟩
    · refine RN.icf (cd := .ge) (off := 13) (tgt := 19) (by decide +kernel) (mif_gen hb) ?_
      refine RN.blk (ops := [(9, .iload_n 2), (10, .iload_n 0), (11, .imul), (12, .istore_n 2), (13, .iinc 3 1)]) (pc' := 16) (lv' := [(3, .inl (m_w32 (v3 + 1))), (2, .inl (m_w32 (v2 * u0))), (0, .inl u0), (1, .inl u1)]) (st' := []) (h' := h) (cs := []) (by decide +kernel) rfl trivial ?_
      refine RN.goto (off := -12) (tgt := 4) (by decide +kernel) ?_
      exact RN.sub (ih _ _ _ hF) (sub_cons rfl (sub_cons rfl (sub_cons rfl (sub_cons rfl sub_nil))))
    · refine RN.ict (cd := .ge) (off := 13) (tgt := 19) (by decide +kernel) (mif_ge hb) ?_
      exact RN.sub (hK0 _ _ hF) (sub_cons rfl sub_nil)
noncomputable def FX12_power (a1 : Int) (a2 : Int) (h : MH) : Option (Int × MH) :=
  FX12_power_L4 a1 a2 (fun w1 h2 =>
   some (w1, h2)) FU 1 0 h
theorem CX12_power {d : Nat} {a1 : Int} {a2 : Int} {h : MH} {r : Int × MH} (hF : FX12_power a1 a2 h = some r) : RN xs L iX12_power (d) 0 (lvE 0 [.inl a1, .inl a2]) [] h (RIo r) := by
  unfold FX12_power at hF
  refine RN.blk (ops := [(0, .iconst 1), (1, .istore_n 2), (2, .iconst 0), (3, .istore_n 3)]) (pc' := 4) (lv' := [(3, .inl 0), (2, .inl 1), (0, .inl a1), (1, .inl a2)]) (st' := []) (h' := h) (cs := []) (by decide +kernel) rfl trivial ?_
  refine RN.sub (CX12_power_L4 ?_ _ _ _ _ hF) (sub_cons rfl (sub_cons rfl (sub_cons rfl (sub_cons rfl sub_nil))))
  · intro w1 h2 hF
    refine RN.blk (ops := [(19, .iload_n 2)]) (pc' := 20) (lv' := [(2, .inl w1)]) (st' := [.inl w1]) (h' := h2) (cs := []) (by decide +kernel) rfl trivial ?_
    exact RN.iR (by decide +kernel) rfl hF
end Dc
