/-! METHODS AS FUNCTIONS, references resolved (by program): X5_run, X5_worth, X6_joinOf, X6_put, X6_countPart, X6_textOf, X6_takeValue, X6_takeSum, X6_takeComparison, X6_takeTest -/
section Gc
variable {xs : Int → Int} {L : Int}
noncomputable def GX5_run_L6 (u0 : Int) (u2 : Int) (u3 : Int) (K0 : Int → MH → Option (Int × MH)) : Nat → Int → Int → MH → Option (Int × MH)
  | 0, _, _, _ => none
  | f + 1, v4, v5, h =>
    (if v5 < u2 then
     (if v5 < (m_ln h (u0 + 2)) then
      gd [IB v5 (m_ln h (u0 + 2))] (
       (if (m_rd h (u0 + 2) v5) < (-11) then
        (if (m_rd h (u0 + 2) v5) = (-32) then
         (if v4 < 1 then
          GX5_run_L6 u0 u2 u3 K0 f v4 (m_w32 (v5 + 1)) h
         else
          gd [IB (m_w32 (v4 - 1)) 60] (
           (if (m_lcmp (m_rd h (u0 + 1) (m_w32 (v4 - 1))) 0) = 0 then
            gd [IB (m_w32 (v4 - 1)) 60] (
             GX5_run_L6 u0 u2 u3 K0 f v4 (m_w32 (v5 + 1)) (m_wr h (u0 + 1) (m_w32 (v4 - 1)) 1))
           else
            gd [IB (m_w32 (v4 - 1)) 60] (
             GX5_run_L6 u0 u2 u3 K0 f v4 (m_w32 (v5 + 1)) (m_wr h (u0 + 1) (m_w32 (v4 - 1)) 0)))))
        else
         (if v4 < 2 then
          GX5_run_L6 u0 u2 u3 K0 f v4 (m_w32 (v5 + 1)) h
         else
          gd [IB (m_w32 ((m_w32 (v4 + (-1))) - 1)) 60] (
           gd [IB (m_w32 (v4 + (-1))) 60] (
            (bd (GX5_join (m_rd h (u0 + 2) v5) (m_rd h (u0 + 1) (m_w32 ((m_w32 (v4 + (-1))) - 1))) (m_rd h (u0 + 1) (m_w32 (v4 + (-1)))) h) (fun x2 h1 =>
             gd [IB (m_w32 ((m_w32 (v4 + (-1))) - 1)) 60] (
              GX5_run_L6 u0 u2 u3 K0 f (m_w32 (v4 + (-1))) (m_w32 (v5 + 1)) (m_wr h1 (u0 + 1) (m_w32 ((m_w32 (v4 + (-1))) - 1)) x2))))))))
       else
        (if v4 < 60 then
         (if (m_rd h (u0 + 2) v5) < 0 then
          gd [GI h u3 2 (m_w32 ((-1) - (m_rd h (u0 + 2) v5)))] (
           gd [IB v4 60] (
            GX5_run_L6 u0 u2 u3 K0 f (m_w32 (v4 + 1)) (m_w32 (v5 + 1)) (m_wr h (u0 + 1) v4 (m_rd h u3 (m_w32 ((-1) - (m_rd h (u0 + 2) v5)))))))
         else
          gd [IB v4 60] (
           GX5_run_L6 u0 u2 u3 K0 f (m_w32 (v4 + 1)) (m_w32 (v5 + 1)) (m_wr h (u0 + 1) v4 (m_rd h (u0 + 2) v5))))
        else
         GX5_run_L6 u0 u2 u3 K0 f v4 (m_w32 (v5 + 1)) h)))
     else
      K0 v4 h)
    else
     K0 v4 h)
theorem DX5_run_L6 {d : Nat} {u0 : Int} {u2 : Int} {u3 : Int} {K0 : Int → MH → Option (Int × MH)} {r : Int × MH} {h0 hB : MH} (hB0 : KD h0 hB) (k0_u0 : TO hB u0 5) (hK0 : ∀ (w4 : Int) (h : MH), LR h → KD hB h → K0 w4 h = some r → RK xs L iX5_run (d + 1) 167 [(0, .inr (.inr u0)), (4, .inl w4)] [] h (RJo r) h0 r.2) : ∀ (f : Nat) (v4 : Int) (v5 : Int) (h : MH), LR h → KD hB h → GX5_run_L6 u0 u2 u3 K0 f v4 v5 h = some r → RK xs L iX5_run (d + 1) 6 [(0, .inr (.inr u0)), (2, .inl u2), (3, .inr (.inr u3)), (4, .inl v4), (5, .inl v5)] [] h (RJo r) h0 r.2 := by
  intro f
  induction f with
  | zero =>
    intro v4 v5 h hL hJ hF
    cases hF
  | succ f ih =>
    intro v4 v5 h hL hJ hF
    unfold GX5_run_L6 at hF
    have hK := hB0.tr hJ
    have k_u0 := hJ.to k0_u0
    refine RK.of (RN.blk (ops := [(6, .iload 5), (8, .iload_n 2)]) (pc' := 9) (lv' := [(0, .inr (.inr u0)), (2, .inl u2), (3, .inr (.inr u3)), (4, .inl v4), (5, .inl v5)]) (st' := [.inl u2, .inl v5]) (h' := h) (cs := []) (by decide +kernel) rfl trivial) ?_
    rcases it_of hF with ⟨hb, hF⟩ | ⟨hb, hF⟩
    · refine RK.of (RN.icf (cd := .ge) (off := 158) (tgt := 167) (by decide +kernel) (mif_gen hb)) ?_
      refine RK.of (RN.blk (ops := [(12, .iload 5), (14, .aload_n 0)]) (pc' := 15) (lv' := [(0, .inr (.inr u0)), (2, .inl u2), (3, .inr (.inr u3)), (4, .inl v4), (5, .inl v5)]) (st' := [.inr (.inr u0), .inl v5]) (h' := h) (cs := []) (by decide +kernel) rfl trivial) ?_
      refine RK.of (RN.gr (i := 21) (ci := 5) (k := 0) (fn := true) (v := (u0 + 2)) (by decide +kernel) rfl (TO.gk k_u0) (hL.fd (v := (u0 + 2)) 0 1 (-1) k_u0 rfl rfl rfl).1) ?_
      refine RK.of (RN.blk (ops := [(18, .arraylength)]) (pc' := 19) (lv' := [(0, .inr (.inr u0)), (2, .inl u2), (3, .inr (.inr u3)), (4, .inl v4), (5, .inl v5)]) (st' := [.inl (m_ln h (u0 + 2)), .inl v5]) (h' := h) (cs := [GL h (u0 + 2)]) (by decide +kernel) rfl ⟨((hL.fd 0 1 (-1) k_u0 rfl rfl rfl).2.gl (by decide) (by decide)), trivial⟩) ?_
      rcases it_of hF with ⟨hb, hF⟩ | ⟨hb, hF⟩
      · refine RK.of (RN.icf (cd := .ge) (off := 148) (tgt := 167) (by decide +kernel) (mif_gen hb)) ?_
        refine RK.of (RN.blk (ops := [(22, .aload_n 0)]) (pc' := 23) (lv' := [(0, .inr (.inr u0)), (2, .inl u2), (3, .inr (.inr u3)), (4, .inl v4), (5, .inl v5)]) (st' := [.inr (.inr u0)]) (h' := h) (cs := []) (by decide +kernel) rfl trivial) ?_
        refine RK.of (RN.gr (i := 21) (ci := 5) (k := 0) (fn := true) (v := (u0 + 2)) (by decide +kernel) rfl (TO.gk k_u0) (hL.fd (v := (u0 + 2)) 0 1 (-1) k_u0 rfl rfl rfl).1) ?_
        obtain ⟨hc, hF⟩ := gd_of hF
        refine RK.of (RN.blk (ops := [(26, .iload 5), (28, .iaload), (29, .istore 6), (31, .iload 6), (33, .bipush (-11))]) (pc' := 35) (lv' := [(6, .inl (m_rd h (u0 + 2) v5)), (0, .inr (.inr u0)), (2, .inl u2), (3, .inr (.inr u3)), (4, .inl v4), (5, .inl v5)]) (st' := [.inl (-11), .inl (m_rd h (u0 + 2) v5)]) (h' := h) (cs := [GI h (u0 + 2) 1 v5]) (by decide +kernel) rfl ⟨(hL.fd 0 1 (-1) k_u0 rfl rfl rfl).2.gi hc.1.1 hc.1.2, trivial⟩) ?_
        rcases it_of hF with ⟨hb, hF⟩ | ⟨hb, hF⟩
        · refine RK.of (RN.ict (cd := .lt) (off := 43) (tgt := 78) (by decide +kernel) (mif_lt hb)) ?_
          refine RK.of (RN.blk (ops := [(78, .iload 6), (80, .bipush (-32))]) (pc' := 82) (lv' := [(6, .inl (m_rd h (u0 + 2) v5)), (0, .inr (.inr u0)), (2, .inl u2), (3, .inr (.inr u3)), (4, .inl v4), (5, .inl v5)]) (st' := [.inl (-32), .inl (m_rd h (u0 + 2) v5)]) (h' := h) (cs := []) (by decide +kernel) rfl trivial) ?_
          rcases it_of hF with ⟨hb, hF⟩ | ⟨hb, hF⟩
          · refine RK.of (RN.icf (cd := .ne) (off := 40) (tgt := 122) (by decide +kernel) (mif_nen hb)) ?_
            refine RK.of (RN.blk (ops := [(85, .iload 4), (87, .iconst 1)]) (pc' := 88) (lv' := [(6, .inl (m_rd h (u0 + 2) v5)), (0, .inr (.inr u0)), (2, .inl u2), (3, .inr (.inr u3)), (4, .inl v4), (5, .inl v5)]) (st' := [.inl 1, .inl v4]) (h' := h) (cs := []) (by decide +kernel) rfl trivial) ?_
            rcases it_of hF with ⟨hb, hF⟩ | ⟨hb, hF⟩
            · refine RK.of (RN.ict (cd := .lt) (off := 73) (tgt := 161) (by decide +kernel) (mif_lt hb)) ?_
              refine RK.of (RN.blk (ops := [(161, .iinc 5 1)]) (pc' := 164) (lv' := [(5, .inl (m_w32 (v5 + 1))), (6, .inl (m_rd h (u0 + 2) v5)), (0, .inr (.inr u0)), (2, .inl u2), (3, .inr (.inr u3)), (4, .inl v4)]) (st' := []) (h' := h) (cs := []) (by decide +kernel) rfl trivial) ?_
              refine RK.of (RN.goto (off := -158) (tgt := 6) (by decide +kernel)) ?_
              exact RK.sub (ih _ _ _ hL hJ hF) (sub_cons rfl (sub_cons rfl (sub_cons rfl (sub_cons rfl (sub_cons rfl sub_nil)))))
            · refine RK.of (RN.icf (cd := .lt) (off := 73) (tgt := 161) (by decide +kernel) (mif_ltn hb)) ?_
              refine RK.of (RN.blk (ops := [(91, .aload_n 0)]) (pc' := 92) (lv' := [(6, .inl (m_rd h (u0 + 2) v5)), (0, .inr (.inr u0)), (2, .inl u2), (3, .inr (.inr u3)), (4, .inl v4), (5, .inl v5)]) (st' := [.inr (.inr u0)]) (h' := h) (cs := []) (by decide +kernel) rfl trivial) ?_
              refine RK.of (RN.gr (i := 9) (ci := 5) (k := 3) (fn := true) (v := (u0 + 1)) (by decide +kernel) rfl (TO.gk k_u0) (hL.fa (v := (u0 + 1)) 3 2 60 k_u0 rfl rfl rfl (by decide)).1) ?_
              refine RK.of (RN.blk (ops := [(95, .iload 4), (97, .iconst 1), (98, .isub), (99, .aload_n 0)]) (pc' := 100) (lv' := [(6, .inl (m_rd h (u0 + 2) v5)), (0, .inr (.inr u0)), (2, .inl u2), (3, .inr (.inr u3)), (4, .inl v4), (5, .inl v5)]) (st' := [.inr (.inr u0), .inl (m_w32 (v4 - 1)), .inr (.inr (u0 + 1))]) (h' := h) (cs := []) (by decide +kernel) rfl trivial) ?_
              refine RK.of (RN.gr (i := 9) (ci := 5) (k := 3) (fn := true) (v := (u0 + 1)) (by decide +kernel) rfl (TO.gk k_u0) (hL.fa (v := (u0 + 1)) 3 2 60 k_u0 rfl rfl rfl (by decide)).1) ?_
              obtain ⟨hc, hF⟩ := gd_of hF
              refine RK.of (RN.blk (ops := [(103, .iload 4), (105, .iconst 1), (106, .isub), (107, .laload), (108, .lconst 0), (109, .lcmp)]) (pc' := 110) (lv' := [(6, .inl (m_rd h (u0 + 2) v5)), (0, .inr (.inr u0)), (2, .inl u2), (3, .inr (.inr u3)), (4, .inl v4), (5, .inl v5)]) (st' := [.inl (m_lcmp (m_rd h (u0 + 1) (m_w32 (v4 - 1))) 0), .inl (m_w32 (v4 - 1)), .inr (.inr (u0 + 1))]) (h' := h) (cs := [GI h (u0 + 1) 2 (m_w32 (v4 - 1))]) (by decide +kernel) rfl ⟨(hL.fa 3 2 60 k_u0 rfl rfl rfl (by decide)).2.gi hc.1.1 hc.1.2, trivial⟩) ?_
              rcases it_of hF with ⟨hb, hF⟩ | ⟨hb, hF⟩
              · refine RK.of (RN.iff (cd := .ne) (off := 7) (tgt := 117) (by decide +kernel) (mif_nen hb)) ?_
                refine RK.of (RN.blk (ops := [(113, .lconst 1)]) (pc' := 114) (lv' := [(6, .inl (m_rd h (u0 + 2) v5)), (0, .inr (.inr u0)), (2, .inl u2), (3, .inr (.inr u3)), (4, .inl v4), (5, .inl v5)]) (st' := [.inr (.inl 1), .inl (m_w32 (v4 - 1)), .inr (.inr (u0 + 1))]) (h' := h) (cs := []) (by decide +kernel) rfl trivial) ?_
                refine RK.of (RN.goto (off := 4) (tgt := 118) (by decide +kernel)) ?_
                obtain ⟨hc, hF⟩ := gd_of hF
                refine RK.of (RN.blk (ops := [(118, .lastore)]) (pc' := 119) (lv' := [(6, .inl (m_rd h (u0 + 2) v5)), (0, .inr (.inr u0)), (2, .inl u2), (3, .inr (.inr u3)), (4, .inl v4), (5, .inl v5)]) (st' := []) (h' := (m_wr h (u0 + 1) (m_w32 (v4 - 1)) 1)) (cs := [GI h (u0 + 1) 2 (m_w32 (v4 - 1))]) (by decide +kernel) rfl ⟨(hL.fa 3 2 60 k_u0 rfl rfl rfl (by decide)).2.gi hc.1.1 hc.1.2, trivial⟩) ?_
                have hL : LR (m_wr h (u0 + 1) (m_w32 (v4 - 1)) 1) := hL.wa (TA.le5 (hL.fa 3 2 60 k_u0 rfl rfl rfl (by decide)).2 (by decide))
                have k_u0 := (KD.wr : KD h (m_wr h (u0 + 1) (m_w32 (v4 - 1)) 1)).to k_u0
                have hK := hK.tr (KD.wr : KD h (m_wr h (u0 + 1) (m_w32 (v4 - 1)) 1))
                have hJ := hJ.tr (KD.wr : KD h (m_wr h (u0 + 1) (m_w32 (v4 - 1)) 1))
                refine RK.of (RN.goto (off := 42) (tgt := 161) (by decide +kernel)) ?_
                refine RK.of (RN.blk (ops := [(161, .iinc 5 1)]) (pc' := 164) (lv' := [(5, .inl (m_w32 (v5 + 1))), (6, .inl (m_rd h (u0 + 2) v5)), (0, .inr (.inr u0)), (2, .inl u2), (3, .inr (.inr u3)), (4, .inl v4)]) (st' := []) (h' := (m_wr h (u0 + 1) (m_w32 (v4 - 1)) 1)) (cs := []) (by decide +kernel) rfl trivial) ?_
                refine RK.of (RN.goto (off := -158) (tgt := 6) (by decide +kernel)) ?_
                exact RK.sub (ih _ _ _ hL hJ hF) (sub_cons rfl (sub_cons rfl (sub_cons rfl (sub_cons rfl (sub_cons rfl sub_nil)))))
              · refine RK.of (RN.ift (cd := .ne) (off := 7) (tgt := 117) (by decide +kernel) (mif_ne hb)) ?_
                refine RK.of (RN.blk (ops := [(117, .lconst 0)]) (pc' := 118) (lv' := [(6, .inl (m_rd h (u0 + 2) v5)), (0, .inr (.inr u0)), (2, .inl u2), (3, .inr (.inr u3)), (4, .inl v4), (5, .inl v5)]) (st' := [.inr (.inl 0), .inl (m_w32 (v4 - 1)), .inr (.inr (u0 + 1))]) (h' := h) (cs := []) (by decide +kernel) rfl trivial) ?_
                obtain ⟨hc, hF⟩ := gd_of hF
                refine RK.of (RN.blk (ops := [(118, .lastore)]) (pc' := 119) (lv' := [(6, .inl (m_rd h (u0 + 2) v5)), (0, .inr (.inr u0)), (2, .inl u2), (3, .inr (.inr u3)), (4, .inl v4), (5, .inl v5)]) (st' := []) (h' := (m_wr h (u0 + 1) (m_w32 (v4 - 1)) 0)) (cs := [GI h (u0 + 1) 2 (m_w32 (v4 - 1))]) (by decide +kernel) rfl ⟨(hL.fa 3 2 60 k_u0 rfl rfl rfl (by decide)).2.gi hc.1.1 hc.1.2, trivial⟩) ?_
                have hL : LR (m_wr h (u0 + 1) (m_w32 (v4 - 1)) 0) := hL.wa (TA.le5 (hL.fa 3 2 60 k_u0 rfl rfl rfl (by decide)).2 (by decide))
                have k_u0 := (KD.wr : KD h (m_wr h (u0 + 1) (m_w32 (v4 - 1)) 0)).to k_u0
                have hK := hK.tr (KD.wr : KD h (m_wr h (u0 + 1) (m_w32 (v4 - 1)) 0))
                have hJ := hJ.tr (KD.wr : KD h (m_wr h (u0 + 1) (m_w32 (v4 - 1)) 0))
                refine RK.of (RN.goto (off := 42) (tgt := 161) (by decide +kernel)) ?_
                refine RK.of (RN.blk (ops := [(161, .iinc 5 1)]) (pc' := 164) (lv' := [(5, .inl (m_w32 (v5 + 1))), (6, .inl (m_rd h (u0 + 2) v5)), (0, .inr (.inr u0)), (2, .inl u2), (3, .inr (.inr u3)), (4, .inl v4)]) (st' := []) (h' := (m_wr h (u0 + 1) (m_w32 (v4 - 1)) 0)) (cs := []) (by decide +kernel) rfl trivial) ?_
                refine RK.of (RN.goto (off := -158) (tgt := 6) (by decide +kernel)) ?_
                exact RK.sub (ih _ _ _ hL hJ hF) (sub_cons rfl (sub_cons rfl (sub_cons rfl (sub_cons rfl (sub_cons rfl sub_nil)))))
          · refine RK.of (RN.ict (cd := .ne) (off := 40) (tgt := 122) (by decide +kernel) (mif_ne hb)) ?_
            refine RK.of (RN.blk (ops := [(122, .iload 4), (124, .iconst 2)]) (pc' := 125) (lv' := [(6, .inl (m_rd h (u0 + 2) v5)), (0, .inr (.inr u0)), (2, .inl u2), (3, .inr (.inr u3)), (4, .inl v4), (5, .inl v5)]) (st' := [.inl 2, .inl v4]) (h' := h) (cs := []) (by decide +kernel) rfl trivial) ?_
            rcases it_of hF with ⟨hb, hF⟩ | ⟨hb, hF⟩
            · refine RK.of (RN.ict (cd := .lt) (off := 36) (tgt := 161) (by decide +kernel) (mif_lt hb)) ?_
              refine RK.of (RN.blk (ops := [(161, .iinc 5 1)]) (pc' := 164) (lv' := [(5, .inl (m_w32 (v5 + 1))), (6, .inl (m_rd h (u0 + 2) v5)), (0, .inr (.inr u0)), (2, .inl u2), (3, .inr (.inr u3)), (4, .inl v4)]) (st' := []) (h' := h) (cs := []) (by decide +kernel) rfl trivial) ?_
              refine RK.of (RN.goto (off := -158) (tgt := 6) (by decide +kernel)) ?_
              exact RK.sub (ih _ _ _ hL hJ hF) (sub_cons rfl (sub_cons rfl (sub_cons rfl (sub_cons rfl (sub_cons rfl sub_nil)))))
            · refine RK.of (RN.icf (cd := .lt) (off := 36) (tgt := 161) (by decide +kernel) (mif_ltn hb)) ?_
              refine RK.of (RN.blk (ops := [(128, .iinc 4 (-1)), (131, .aload_n 0)]) (pc' := 132) (lv' := [(4, .inl (m_w32 (v4 + (-1)))), (6, .inl (m_rd h (u0 + 2) v5)), (0, .inr (.inr u0)), (2, .inl u2), (3, .inr (.inr u3)), (5, .inl v5)]) (st' := [.inr (.inr u0)]) (h' := h) (cs := []) (by decide +kernel) rfl trivial) ?_
              refine RK.of (RN.gr (i := 9) (ci := 5) (k := 3) (fn := true) (v := (u0 + 1)) (by decide +kernel) rfl (TO.gk k_u0) (hL.fa (v := (u0 + 1)) 3 2 60 k_u0 rfl rfl rfl (by decide)).1) ?_
              refine RK.of (RN.blk (ops := [(135, .iload 4), (137, .iconst 1), (138, .isub), (139, .iload 6), (141, .aload_n 0)]) (pc' := 142) (lv' := [(4, .inl (m_w32 (v4 + (-1)))), (6, .inl (m_rd h (u0 + 2) v5)), (0, .inr (.inr u0)), (2, .inl u2), (3, .inr (.inr u3)), (5, .inl v5)]) (st' := [.inr (.inr u0), .inl (m_rd h (u0 + 2) v5), .inl (m_w32 ((m_w32 (v4 + (-1))) - 1)), .inr (.inr (u0 + 1))]) (h' := h) (cs := []) (by decide +kernel) rfl trivial) ?_
              refine RK.of (RN.gr (i := 9) (ci := 5) (k := 3) (fn := true) (v := (u0 + 1)) (by decide +kernel) rfl (TO.gk k_u0) (hL.fa (v := (u0 + 1)) 3 2 60 k_u0 rfl rfl rfl (by decide)).1) ?_
              obtain ⟨hc, hF⟩ := gd_of hF
              refine RK.of (RN.blk (ops := [(145, .iload 4), (147, .iconst 1), (148, .isub), (149, .laload), (150, .aload_n 0)]) (pc' := 151) (lv' := [(4, .inl (m_w32 (v4 + (-1)))), (6, .inl (m_rd h (u0 + 2) v5)), (0, .inr (.inr u0)), (2, .inl u2), (3, .inr (.inr u3)), (5, .inl v5)]) (st' := [.inr (.inr u0), .inr (.inl (m_rd h (u0 + 1) (m_w32 ((m_w32 (v4 + (-1))) - 1)))), .inl (m_rd h (u0 + 2) v5), .inl (m_w32 ((m_w32 (v4 + (-1))) - 1)), .inr (.inr (u0 + 1))]) (h' := h) (cs := [GI h (u0 + 1) 2 (m_w32 ((m_w32 (v4 + (-1))) - 1))]) (by decide +kernel) rfl ⟨(hL.fa 3 2 60 k_u0 rfl rfl rfl (by decide)).2.gi hc.1.1 hc.1.2, trivial⟩) ?_
              refine RK.of (RN.gr (i := 9) (ci := 5) (k := 3) (fn := true) (v := (u0 + 1)) (by decide +kernel) rfl (TO.gk k_u0) (hL.fa (v := (u0 + 1)) 3 2 60 k_u0 rfl rfl rfl (by decide)).1) ?_
              obtain ⟨hc, hF⟩ := gd_of hF
              refine RK.of (RN.blk (ops := [(154, .iload 4), (156, .laload)]) (pc' := 157) (lv' := [(4, .inl (m_w32 (v4 + (-1)))), (6, .inl (m_rd h (u0 + 2) v5)), (0, .inr (.inr u0)), (2, .inl u2), (3, .inr (.inr u3)), (5, .inl v5)]) (st' := [.inr (.inl (m_rd h (u0 + 1) (m_w32 (v4 + (-1))))), .inr (.inl (m_rd h (u0 + 1) (m_w32 ((m_w32 (v4 + (-1))) - 1)))), .inl (m_rd h (u0 + 2) v5), .inl (m_w32 ((m_w32 (v4 + (-1))) - 1)), .inr (.inr (u0 + 1))]) (h' := h) (cs := [GI h (u0 + 1) 2 (m_w32 (v4 + (-1)))]) (by decide +kernel) rfl ⟨(hL.fa 3 2 60 k_u0 rfl rfl rfl (by decide)).2.gi hc.1.1 hc.1.2, trivial⟩) ?_
              obtain ⟨x2, h1, hG, hF⟩ := bd_of hF
              obtain ⟨hN, hL, hQ⟩ := DX5_join (d := d) hL  hG
              refine RK.of (RN.cst (i := 47) (k := 54) (q2 := iX5_join) (as := [.inl (m_rd h (u0 + 2) v5), .inr (.inl (m_rd h (u0 + 1) (m_w32 ((m_w32 (v4 + (-1))) - 1)))), .inr (.inl (m_rd h (u0 + 1) (m_w32 (v4 + (-1)))))]) (r := [.inl (m_w32 ((m_w32 (v4 + (-1))) - 1)), .inr (.inr (u0 + 1))]) (v := some (.inr (.inl x2))) (h1 := h1) (by decide +kernel) rfl rfl rfl rfl rfl hN) ?_
              have k_u0 := hQ.to k_u0
              have hK := hK.tr hQ
              have hJ := hJ.tr hQ
              obtain ⟨hc, hF⟩ := gd_of hF
              refine RK.of (RN.blk (ops := [(160, .lastore)]) (pc' := 161) (lv' := [(4, .inl (m_w32 (v4 + (-1)))), (6, .inl (m_rd h (u0 + 2) v5)), (0, .inr (.inr u0)), (2, .inl u2), (3, .inr (.inr u3)), (5, .inl v5)]) (st' := []) (h' := (m_wr h1 (u0 + 1) (m_w32 ((m_w32 (v4 + (-1))) - 1)) x2)) (cs := [GI h1 (u0 + 1) 2 (m_w32 ((m_w32 (v4 + (-1))) - 1))]) (by decide +kernel) rfl ⟨(hL.fa 3 2 60 k_u0 rfl rfl rfl (by decide)).2.gi hc.1.1 hc.1.2, trivial⟩) ?_
              have hL : LR (m_wr h1 (u0 + 1) (m_w32 ((m_w32 (v4 + (-1))) - 1)) x2) := hL.wa (TA.le5 (hL.fa 3 2 60 k_u0 rfl rfl rfl (by decide)).2 (by decide))
              have k_u0 := (KD.wr : KD h1 (m_wr h1 (u0 + 1) (m_w32 ((m_w32 (v4 + (-1))) - 1)) x2)).to k_u0
              have hK := hK.tr (KD.wr : KD h1 (m_wr h1 (u0 + 1) (m_w32 ((m_w32 (v4 + (-1))) - 1)) x2))
              have hJ := hJ.tr (KD.wr : KD h1 (m_wr h1 (u0 + 1) (m_w32 ((m_w32 (v4 + (-1))) - 1)) x2))
              refine RK.of (RN.blk (ops := [(161, .iinc 5 1)]) (pc' := 164) (lv' := [(5, .inl (m_w32 (v5 + 1))), (4, .inl (m_w32 (v4 + (-1)))), (6, .inl (m_rd h (u0 + 2) v5)), (0, .inr (.inr u0)), (2, .inl u2), (3, .inr (.inr u3))]) (st' := []) (h' := (m_wr h1 (u0 + 1) (m_w32 ((m_w32 (v4 + (-1))) - 1)) x2)) (cs := []) (by decide +kernel) rfl trivial) ?_
              refine RK.of (RN.goto (off := -158) (tgt := 6) (by decide +kernel)) ?_
              exact RK.sub (ih _ _ _ hL hJ hF) (sub_cons rfl (sub_cons rfl (sub_cons rfl (sub_cons rfl (sub_cons rfl sub_nil)))))
        · refine RK.of (RN.icf (cd := .lt) (off := 43) (tgt := 78) (by decide +kernel) (mif_ltn hb)) ?_
          refine RK.of (RN.blk (ops := [(38, .iload 4), (40, .aload_n 0)]) (pc' := 41) (lv' := [(6, .inl (m_rd h (u0 + 2) v5)), (0, .inr (.inr u0)), (2, .inl u2), (3, .inr (.inr u3)), (4, .inl v4), (5, .inl v5)]) (st' := [.inr (.inr u0), .inl v4]) (h' := h) (cs := []) (by decide +kernel) rfl trivial) ?_
          refine RK.of (RN.gr (i := 9) (ci := 5) (k := 3) (fn := true) (v := (u0 + 1)) (by decide +kernel) rfl (TO.gk k_u0) (hL.fa (v := (u0 + 1)) 3 2 60 k_u0 rfl rfl rfl (by decide)).1) ?_
          refine RK.of (RN.al (by decide +kernel) (hL.fa 3 2 60 k_u0 rfl rfl rfl (by decide)).2 (by decide) (by decide)) ?_
          rcases it_of hF with ⟨hb, hF⟩ | ⟨hb, hF⟩
          · refine RK.of (RN.icf (cd := .ge) (off := 116) (tgt := 161) (by decide +kernel) (mif_gen hb)) ?_
            refine RK.of (RN.blk (ops := [(48, .aload_n 0)]) (pc' := 49) (lv' := [(6, .inl (m_rd h (u0 + 2) v5)), (0, .inr (.inr u0)), (2, .inl u2), (3, .inr (.inr u3)), (4, .inl v4), (5, .inl v5)]) (st' := [.inr (.inr u0)]) (h' := h) (cs := []) (by decide +kernel) rfl trivial) ?_
            refine RK.of (RN.gr (i := 9) (ci := 5) (k := 3) (fn := true) (v := (u0 + 1)) (by decide +kernel) rfl (TO.gk k_u0) (hL.fa (v := (u0 + 1)) 3 2 60 k_u0 rfl rfl rfl (by decide)).1) ?_
            refine RK.of (RN.blk (ops := [(52, .iload 4), (54, .iload 6)]) (pc' := 56) (lv' := [(6, .inl (m_rd h (u0 + 2) v5)), (0, .inr (.inr u0)), (2, .inl u2), (3, .inr (.inr u3)), (4, .inl v4), (5, .inl v5)]) (st' := [.inl (m_rd h (u0 + 2) v5), .inl v4, .inr (.inr (u0 + 1))]) (h' := h) (cs := []) (by decide +kernel) rfl trivial) ?_
            rcases it_of hF with ⟨hb, hF⟩ | ⟨hb, hF⟩
            · refine RK.of (RN.ift (cd := .lt) (off := 9) (tgt := 65) (by decide +kernel) (mif_lt hb)) ?_
              obtain ⟨hc, hF⟩ := gd_of hF
              refine RK.of (RN.blk (ops := [(65, .aload_n 3), (66, .iconst (-1)), (67, .iload 6), (69, .isub), (70, .laload)]) (pc' := 71) (lv' := [(6, .inl (m_rd h (u0 + 2) v5)), (0, .inr (.inr u0)), (2, .inl u2), (3, .inr (.inr u3)), (4, .inl v4), (5, .inl v5)]) (st' := [.inr (.inl (m_rd h u3 (m_w32 ((-1) - (m_rd h (u0 + 2) v5))))), .inl v4, .inr (.inr (u0 + 1))]) (h' := h) (cs := [GI h u3 2 (m_w32 ((-1) - (m_rd h (u0 + 2) v5)))]) (by decide +kernel) rfl ⟨hc.1, trivial⟩) ?_
              obtain ⟨hc, hF⟩ := gd_of hF
              refine RK.of (RN.blk (ops := [(71, .lastore)]) (pc' := 72) (lv' := [(6, .inl (m_rd h (u0 + 2) v5)), (0, .inr (.inr u0)), (2, .inl u2), (3, .inr (.inr u3)), (4, .inl v4), (5, .inl v5)]) (st' := []) (h' := (m_wr h (u0 + 1) v4 (m_rd h u3 (m_w32 ((-1) - (m_rd h (u0 + 2) v5)))))) (cs := [GI h (u0 + 1) 2 v4]) (by decide +kernel) rfl ⟨(hL.fa 3 2 60 k_u0 rfl rfl rfl (by decide)).2.gi hc.1.1 hc.1.2, trivial⟩) ?_
              have hL : LR (m_wr h (u0 + 1) v4 (m_rd h u3 (m_w32 ((-1) - (m_rd h (u0 + 2) v5))))) := hL.wa (TA.le5 (hL.fa 3 2 60 k_u0 rfl rfl rfl (by decide)).2 (by decide))
              have k_u0 := (KD.wr : KD h (m_wr h (u0 + 1) v4 (m_rd h u3 (m_w32 ((-1) - (m_rd h (u0 + 2) v5)))))).to k_u0
              have hK := hK.tr (KD.wr : KD h (m_wr h (u0 + 1) v4 (m_rd h u3 (m_w32 ((-1) - (m_rd h (u0 + 2) v5))))))
              have hJ := hJ.tr (KD.wr : KD h (m_wr h (u0 + 1) v4 (m_rd h u3 (m_w32 ((-1) - (m_rd h (u0 + 2) v5))))))
              refine RK.of (RN.blk (ops := [(72, .iinc 4 1)]) (pc' := 75) (lv' := [(4, .inl (m_w32 (v4 + 1))), (6, .inl (m_rd h (u0 + 2) v5)), (0, .inr (.inr u0)), (2, .inl u2), (3, .inr (.inr u3)), (5, .inl v5)]) (st' := []) (h' := (m_wr h (u0 + 1) v4 (m_rd h u3 (m_w32 ((-1) - (m_rd h (u0 + 2) v5)))))) (cs := []) (by decide +kernel) rfl trivial) ?_
              refine RK.of (RN.goto (off := 86) (tgt := 161) (by decide +kernel)) ?_
              refine RK.of (RN.blk (ops := [(161, .iinc 5 1)]) (pc' := 164) (lv' := [(5, .inl (m_w32 (v5 + 1))), (4, .inl (m_w32 (v4 + 1))), (6, .inl (m_rd h (u0 + 2) v5)), (0, .inr (.inr u0)), (2, .inl u2), (3, .inr (.inr u3))]) (st' := []) (h' := (m_wr h (u0 + 1) v4 (m_rd h u3 (m_w32 ((-1) - (m_rd h (u0 + 2) v5)))))) (cs := []) (by decide +kernel) rfl trivial) ?_
              refine RK.of (RN.goto (off := -158) (tgt := 6) (by decide +kernel)) ?_
              exact RK.sub (ih _ _ _ hL hJ hF) (sub_cons rfl (sub_cons rfl (sub_cons rfl (sub_cons rfl (sub_cons rfl sub_nil)))))
            · refine RK.of (RN.iff (cd := .lt) (off := 9) (tgt := 65) (by decide +kernel) (mif_ltn hb)) ?_
              refine RK.of (RN.blk (ops := [(59, .iload 6), (61, .i2l)]) (pc' := 62) (lv' := [(6, .inl (m_rd h (u0 + 2) v5)), (0, .inr (.inr u0)), (2, .inl u2), (3, .inr (.inr u3)), (4, .inl v4), (5, .inl v5)]) (st' := [.inr (.inl (m_rd h (u0 + 2) v5)), .inl v4, .inr (.inr (u0 + 1))]) (h' := h) (cs := []) (by decide +kernel) rfl trivial) ?_
              refine RK.of (RN.goto (off := 9) (tgt := 71) (by decide +kernel)) ?_
              obtain ⟨hc, hF⟩ := gd_of hF
              refine RK.of (RN.blk (ops := [(71, .lastore)]) (pc' := 72) (lv' := [(6, .inl (m_rd h (u0 + 2) v5)), (0, .inr (.inr u0)), (2, .inl u2), (3, .inr (.inr u3)), (4, .inl v4), (5, .inl v5)]) (st' := []) (h' := (m_wr h (u0 + 1) v4 (m_rd h (u0 + 2) v5))) (cs := [GI h (u0 + 1) 2 v4]) (by decide +kernel) rfl ⟨(hL.fa 3 2 60 k_u0 rfl rfl rfl (by decide)).2.gi hc.1.1 hc.1.2, trivial⟩) ?_
              have hL : LR (m_wr h (u0 + 1) v4 (m_rd h (u0 + 2) v5)) := hL.wa (TA.le5 (hL.fa 3 2 60 k_u0 rfl rfl rfl (by decide)).2 (by decide))
              have k_u0 := (KD.wr : KD h (m_wr h (u0 + 1) v4 (m_rd h (u0 + 2) v5))).to k_u0
              have hK := hK.tr (KD.wr : KD h (m_wr h (u0 + 1) v4 (m_rd h (u0 + 2) v5)))
              have hJ := hJ.tr (KD.wr : KD h (m_wr h (u0 + 1) v4 (m_rd h (u0 + 2) v5)))
              refine RK.of (RN.blk (ops := [(72, .iinc 4 1)]) (pc' := 75) (lv' := [(4, .inl (m_w32 (v4 + 1))), (6, .inl (m_rd h (u0 + 2) v5)), (0, .inr (.inr u0)), (2, .inl u2), (3, .inr (.inr u3)), (5, .inl v5)]) (st' := []) (h' := (m_wr h (u0 + 1) v4 (m_rd h (u0 + 2) v5))) (cs := []) (by decide +kernel) rfl trivial) ?_
              refine RK.of (RN.goto (off := 86) (tgt := 161) (by decide +kernel)) ?_
              refine RK.of (RN.blk (ops := [(161, .iinc 5 1)]) (pc' := 164) (lv' := [(5, .inl (m_w32 (v5 + 1))), (4, .inl (m_w32 (v4 + 1))), (6, .inl (m_rd h (u0 + 2) v5)), (0, .inr (.inr u0)), (2, .inl u2), (3, .inr (.inr u3))]) (st' := []) (h' := (m_wr h (u0 + 1) v4 (m_rd h (u0 + 2) v5))) (cs := []) (by decide +kernel) rfl trivial) ?_
              refine RK.of (RN.goto (off := -158) (tgt := 6) (by decide +kernel)) ?_
              exact RK.sub (ih _ _ _ hL hJ hF) (sub_cons rfl (sub_cons rfl (sub_cons rfl (sub_cons rfl (sub_cons rfl sub_nil)))))
          · refine RK.of (RN.ict (cd := .ge) (off := 116) (tgt := 161) (by decide +kernel) (mif_ge hb)) ?_
            refine RK.of (RN.blk (ops := [(161, .iinc 5 1)]) (pc' := 164) (lv' := [(5, .inl (m_w32 (v5 + 1))), (6, .inl (m_rd h (u0 + 2) v5)), (0, .inr (.inr u0)), (2, .inl u2), (3, .inr (.inr u3)), (4, .inl v4)]) (st' := []) (h' := h) (cs := []) (by decide +kernel) rfl trivial) ?_
            refine RK.of (RN.goto (off := -158) (tgt := 6) (by decide +kernel)) ?_
            exact RK.sub (ih _ _ _ hL hJ hF) (sub_cons rfl (sub_cons rfl (sub_cons rfl (sub_cons rfl (sub_cons rfl sub_nil)))))
      · refine RK.of (RN.ict (cd := .ge) (off := 148) (tgt := 167) (by decide +kernel) (mif_ge hb)) ?_
        exact RK.sub (hK0 _ _ hL hJ hF) (sub_cons rfl (sub_cons rfl sub_nil))
    · refine RK.of (RN.ict (cd := .ge) (off := 158) (tgt := 167) (by decide +kernel) (mif_ge hb)) ?_
      exact RK.sub (hK0 _ _ hL hJ hF) (sub_cons rfl (sub_cons rfl sub_nil))
noncomputable def GX5_run (t : Int) (a1 : Int) (a2 : Int) (a3 : Int) (h : MH) : Option (Int × MH) :=
  GX5_run_L6 t a2 a3 (fun w1 h2 =>
   (if 0 < w1 then
    some ((m_rd h2 (t + 1) 0), h2)
   else
    some (0, h2))) FU 0 a1 h
theorem DX5_run {d : Nat} {t : Int} {a1 : Int} {a2 : Int} {a3 : Int} {h : MH} {r : Int × MH} (hL : LR h) (k0_t : TO h t 5) (hF : GX5_run t a1 a2 a3 h = some r) : RN xs L iX5_run (d + 1) 0 (lvE 0 [.inr (.inr t), .inl a1, .inl a2, .inr (.inr a3)]) [] h (RJo r) ∧ LR r.2 ∧ KD h r.2 := by
  unfold GX5_run at hF
  have hK : KD h h := KD.rf
  have k_t := k0_t
  show RK xs L iX5_run (d + 1) 0 (lvE 0 [.inr (.inr t), .inl a1, .inl a2, .inr (.inr a3)]) [] h (RJo r) h r.2
  refine RK.of (RN.blk (ops := [(0, .iconst 0), (1, .istore 4), (3, .iload_n 1), (4, .istore 5)]) (pc' := 6) (lv' := [(5, .inl a1), (4, .inl 0), (0, .inr (.inr t)), (1, .inl a1), (2, .inl a2), (3, .inr (.inr a3))]) (st' := []) (h' := h) (cs := []) (by decide +kernel) rfl trivial) ?_
  refine RK.sub (DX5_run_L6 hK k_t ?_ _ _ _ _ hL KD.rf hF) (sub_cons rfl (sub_cons rfl (sub_cons rfl (sub_cons rfl (sub_cons rfl sub_nil)))))
  · intro w1 h2 hL hq hF
    have k_t := hq.to k_t
    have hK := hK.tr hq
    refine RK.of (RN.blk (ops := [(167, .iload 4)]) (pc' := 169) (lv' := [(0, .inr (.inr t)), (4, .inl w1)]) (st' := [.inl w1]) (h' := h2) (cs := []) (by decide +kernel) rfl trivial) ?_
    rcases it_of hF with ⟨hb, hF⟩ | ⟨hb, hF⟩
    · refine RK.of (RN.iff (cd := .le) (off := 12) (tgt := 181) (by decide +kernel) (mif_len hb)) ?_
      refine RK.of (RN.blk (ops := [(172, .aload_n 0)]) (pc' := 173) (lv' := [(0, .inr (.inr t)), (4, .inl w1)]) (st' := [.inr (.inr t)]) (h' := h2) (cs := []) (by decide +kernel) rfl trivial) ?_
      refine RK.of (RN.gr (i := 9) (ci := 5) (k := 3) (fn := true) (v := (t + 1)) (by decide +kernel) rfl (TO.gk k_t) (hL.fa (v := (t + 1)) 3 2 60 k_t rfl rfl rfl (by decide)).1) ?_
      refine RK.of (RN.blk (ops := [(176, .iconst 0), (177, .laload)]) (pc' := 178) (lv' := [(0, .inr (.inr t)), (4, .inl w1)]) (st' := [.inr (.inl (m_rd h2 (t + 1) 0))]) (h' := h2) (cs := [GI h2 (t + 1) 2 0]) (by decide +kernel) rfl ⟨(hL.fa 3 2 60 k_t rfl rfl rfl (by decide)).2.gi (by decide) (by decide), trivial⟩) ?_
      refine RK.of (RN.goto (off := 4) (tgt := 182) (by decide +kernel)) ?_
      exact RK.lR (by decide +kernel) rfl hL hK hF
    · refine RK.of (RN.ift (cd := .le) (off := 12) (tgt := 181) (by decide +kernel) (mif_le hb)) ?_
      refine RK.of (RN.blk (ops := [(181, .lconst 0)]) (pc' := 182) (lv' := [(0, .inr (.inr t)), (4, .inl w1)]) (st' := [.inr (.inl 0)]) (h' := h2) (cs := []) (by decide +kernel) rfl trivial) ?_
      exact RK.lR (by decide +kernel) rfl hL hK hF
noncomputable def GX5_worth_L4 (u0 : Int) (u1 : Int) (K0 : Int → Int → MH → Option (Int × MH)) (K1 : MH → Option (Int × MH)) : Nat → Int → Int → MH → Option (Int × MH)
  | 0, _, _, _ => none
  | f + 1, v2, v3, h =>
    (if v3 < (m_ln h (u0 + 3)) then
     gd [IB v3 (m_ln h (u0 + 4))] (
      gd [IB v3 (m_ln h (u0 + 3))] (
       jn (fun (s2 : Int) =>
        (if s2 = 0 then
         gd [IB v3 (m_ln h (u0 + 3))] (
          gd [IB v3 (m_ln h (u0 + 4))] (
           (bd (GX5_run u0 (m_rd h (u0 + 3) v3) (m_rd h (u0 + 4) v3) u1 h) (fun x4 h3 =>
            (if (m_lcmp x4 0) = 0 then
             gd [IB v3 (m_ln h3 (u0 + 4))] (
              GX5_worth_L4 u0 u1 K0 K1 f (m_rd h3 (u0 + 4) v3) (m_w32 (v3 + 1)) h3)
            else
             K0 v2 v3 h3)))))
        else
         K0 v2 v3 h)) (fun j1 =>
        (if (m_rd h (u0 + 4) v3) = (m_rd h (u0 + 3) v3) then
         j1 1
        else
         j1 0))))
    else
     K1 h)
theorem DX5_worth_L4 {d : Nat} {u0 : Int} {u1 : Int} {K0 : Int → Int → MH → Option (Int × MH)} {K1 : MH → Option (Int × MH)} {r : Int × MH} {h0 hB : MH} (hB0 : KD h0 hB) (k0_u0 : TO hB u0 5) (hK0 : ∀ (w2 : Int) (w3 : Int) (h : MH), LR h → KD hB h → K0 w2 w3 h = some r → RK xs L iX5_worth (d + 2) 62 [(0, .inr (.inr u0)), (1, .inr (.inr u1)), (2, .inl w2), (3, .inl w3)] [] h (RJo r) h0 r.2) (hK1 : ∀ (h : MH), LR h → KD hB h → K1 h = some r → RK xs L iX5_worth (d + 2) 88 [] [] h (RJo r) h0 r.2) : ∀ (f : Nat) (v2 : Int) (v3 : Int) (h : MH), LR h → KD hB h → GX5_worth_L4 u0 u1 K0 K1 f v2 v3 h = some r → RK xs L iX5_worth (d + 2) 4 [(0, .inr (.inr u0)), (1, .inr (.inr u1)), (2, .inl v2), (3, .inl v3)] [] h (RJo r) h0 r.2 := by
  intro f
  induction f with
  | zero =>
    intro v2 v3 h hL hJ hF
    cases hF
  | succ f ih =>
    intro v2 v3 h hL hJ hF
    unfold GX5_worth_L4 at hF
    have hK := hB0.tr hJ
    have k_u0 := hJ.to k0_u0
    refine RK.of (RN.blk (ops := [(4, .iload_n 3), (5, .aload_n 0)]) (pc' := 6) (lv' := [(0, .inr (.inr u0)), (1, .inr (.inr u1)), (2, .inl v2), (3, .inl v3)]) (st' := [.inr (.inr u0), .inl v3]) (h' := h) (cs := []) (by decide +kernel) rfl trivial) ?_
    refine RK.of (RN.gr (i := 28) (ci := 5) (k := 1) (fn := true) (v := (u0 + 3)) (by decide +kernel) rfl (TO.gk k_u0) (hL.fd (v := (u0 + 3)) 1 1 (-1) k_u0 rfl rfl rfl).1) ?_
    refine RK.of (RN.blk (ops := [(9, .arraylength)]) (pc' := 10) (lv' := [(0, .inr (.inr u0)), (1, .inr (.inr u1)), (2, .inl v2), (3, .inl v3)]) (st' := [.inl (m_ln h (u0 + 3)), .inl v3]) (h' := h) (cs := [GL h (u0 + 3)]) (by decide +kernel) rfl ⟨((hL.fd 1 1 (-1) k_u0 rfl rfl rfl).2.gl (by decide) (by decide)), trivial⟩) ?_
    rcases it_of hF with ⟨hb, hF⟩ | ⟨hb, hF⟩
    · refine RK.of (RN.icf (cd := .ge) (off := 78) (tgt := 88) (by decide +kernel) (mif_gen hb)) ?_
      refine RK.of (RN.blk (ops := [(13, .aload_n 0)]) (pc' := 14) (lv' := [(0, .inr (.inr u0)), (1, .inr (.inr u1)), (2, .inl v2), (3, .inl v3)]) (st' := [.inr (.inr u0)]) (h' := h) (cs := []) (by decide +kernel) rfl trivial) ?_
      refine RK.of (RN.gr (i := 31) (ci := 5) (k := 2) (fn := true) (v := (u0 + 4)) (by decide +kernel) rfl (TO.gk k_u0) (hL.fd (v := (u0 + 4)) 2 1 (-1) k_u0 rfl rfl rfl).1) ?_
      obtain ⟨hc, hF⟩ := gd_of hF
      refine RK.of (RN.blk (ops := [(17, .iload_n 3), (18, .iaload), (19, .aload_n 0)]) (pc' := 20) (lv' := [(0, .inr (.inr u0)), (1, .inr (.inr u1)), (2, .inl v2), (3, .inl v3)]) (st' := [.inr (.inr u0), .inl (m_rd h (u0 + 4) v3)]) (h' := h) (cs := [GI h (u0 + 4) 1 v3]) (by decide +kernel) rfl ⟨(hL.fd 2 1 (-1) k_u0 rfl rfl rfl).2.gi hc.1.1 hc.1.2, trivial⟩) ?_
      refine RK.of (RN.gr (i := 28) (ci := 5) (k := 1) (fn := true) (v := (u0 + 3)) (by decide +kernel) rfl (TO.gk k_u0) (hL.fd (v := (u0 + 3)) 1 1 (-1) k_u0 rfl rfl rfl).1) ?_
      obtain ⟨hc, hF⟩ := gd_of hF
      refine RK.of (RN.blk (ops := [(23, .iload_n 3), (24, .iaload)]) (pc' := 25) (lv' := [(0, .inr (.inr u0)), (1, .inr (.inr u1)), (2, .inl v2), (3, .inl v3)]) (st' := [.inl (m_rd h (u0 + 3) v3), .inl (m_rd h (u0 + 4) v3)]) (h' := h) (cs := [GI h (u0 + 3) 1 v3]) (by decide +kernel) rfl ⟨(hL.fd 1 1 (-1) k_u0 rfl rfl rfl).2.gi hc.1.1 hc.1.2, trivial⟩) ?_
      refine jn_use (fun j1 => ∀ (s2 : Int), j1 s2 = some r → RK xs L iX5_worth (d + 2) 33 [(0, .inr (.inr u0)), (1, .inr (.inr u1)), (2, .inl v2), (3, .inl v3)] [.inl s2] h (RJo r) h0 r.2) ?_ ?_ hF
      · intro s2 hF
        refine RK.of (RN.blk (ops := [(33, .istore 4), (35, .iload 4)]) (pc' := 37) (lv' := [(4, .inl s2), (0, .inr (.inr u0)), (1, .inr (.inr u1)), (2, .inl v2), (3, .inl v3)]) (st' := [.inl s2]) (h' := h) (cs := []) (by decide +kernel) rfl trivial) ?_
        rcases it_of hF with ⟨hb, hF⟩ | ⟨hb, hF⟩
        · refine RK.of (RN.iff (cd := .ne) (off := 25) (tgt := 62) (by decide +kernel) (mif_nen hb)) ?_
          refine RK.of (RN.blk (ops := [(40, .aload_n 0), (41, .aload_n 0)]) (pc' := 42) (lv' := [(4, .inl s2), (0, .inr (.inr u0)), (1, .inr (.inr u1)), (2, .inl v2), (3, .inl v3)]) (st' := [.inr (.inr u0), .inr (.inr u0)]) (h' := h) (cs := []) (by decide +kernel) rfl trivial) ?_
          refine RK.of (RN.gr (i := 28) (ci := 5) (k := 1) (fn := true) (v := (u0 + 3)) (by decide +kernel) rfl (TO.gk k_u0) (hL.fd (v := (u0 + 3)) 1 1 (-1) k_u0 rfl rfl rfl).1) ?_
          obtain ⟨hc, hF⟩ := gd_of hF
          refine RK.of (RN.blk (ops := [(45, .iload_n 3), (46, .iaload), (47, .aload_n 0)]) (pc' := 48) (lv' := [(4, .inl s2), (0, .inr (.inr u0)), (1, .inr (.inr u1)), (2, .inl v2), (3, .inl v3)]) (st' := [.inr (.inr u0), .inl (m_rd h (u0 + 3) v3), .inr (.inr u0)]) (h' := h) (cs := [GI h (u0 + 3) 1 v3]) (by decide +kernel) rfl ⟨(hL.fd 1 1 (-1) k_u0 rfl rfl rfl).2.gi hc.1.1 hc.1.2, trivial⟩) ?_
          refine RK.of (RN.gr (i := 31) (ci := 5) (k := 2) (fn := true) (v := (u0 + 4)) (by decide +kernel) rfl (TO.gk k_u0) (hL.fd (v := (u0 + 4)) 2 1 (-1) k_u0 rfl rfl rfl).1) ?_
          obtain ⟨hc, hF⟩ := gd_of hF
          refine RK.of (RN.blk (ops := [(51, .iload_n 3), (52, .iaload), (53, .aload_n 1)]) (pc' := 54) (lv' := [(4, .inl s2), (0, .inr (.inr u0)), (1, .inr (.inr u1)), (2, .inl v2), (3, .inl v3)]) (st' := [.inr (.inr u1), .inl (m_rd h (u0 + 4) v3), .inl (m_rd h (u0 + 3) v3), .inr (.inr u0)]) (h' := h) (cs := [GI h (u0 + 4) 1 v3]) (by decide +kernel) rfl ⟨(hL.fd 2 1 (-1) k_u0 rfl rfl rfl).2.gi hc.1.1 hc.1.2, trivial⟩) ?_
          obtain ⟨x4, h3, hG, hF⟩ := bd_of hF
          have hq := rcv_ok (as := [.inl (m_rd h (u0 + 3) v3), .inl (m_rd h (u0 + 4) v3), .inr (.inr u1)]) (TO.gk k_u0)
          obtain ⟨hN, hL, hQ⟩ := DX5_run (d := d) hL k_u0 hG
          refine RK.of (RN.cv (i := 43) (k := 53) (q2 := iX5_run) (as := [.inr (.inr u0), .inl (m_rd h (u0 + 3) v3), .inl (m_rd h (u0 + 4) v3), .inr (.inr u1)]) (r := []) (v := some (.inr (.inl x4))) (h1 := h3) (by decide +kernel) rfl rfl rfl rfl rfl hq hN) ?_
          have k_u0 := hQ.to k_u0
          have hK := hK.tr hQ
          have hJ := hJ.tr hQ
          refine RK.of (RN.blk (ops := [(57, .lconst 0), (58, .lcmp)]) (pc' := 59) (lv' := [(4, .inl s2), (0, .inr (.inr u0)), (1, .inr (.inr u1)), (2, .inl v2), (3, .inl v3)]) (st' := [.inl (m_lcmp x4 0)]) (h' := h3) (cs := []) (by decide +kernel) rfl trivial) ?_
          rcases it_of hF with ⟨hb, hF⟩ | ⟨hb, hF⟩
          · refine RK.of (RN.ift (cd := .eq) (off := 16) (tgt := 75) (by decide +kernel) (mif_eq hb)) ?_
            refine RK.of (RN.blk (ops := [(75, .aload_n 0)]) (pc' := 76) (lv' := [(4, .inl s2), (0, .inr (.inr u0)), (1, .inr (.inr u1)), (2, .inl v2), (3, .inl v3)]) (st' := [.inr (.inr u0)]) (h' := h3) (cs := []) (by decide +kernel) rfl trivial) ?_
            refine RK.of (RN.gr (i := 31) (ci := 5) (k := 2) (fn := true) (v := (u0 + 4)) (by decide +kernel) rfl (TO.gk k_u0) (hL.fd (v := (u0 + 4)) 2 1 (-1) k_u0 rfl rfl rfl).1) ?_
            obtain ⟨hc, hF⟩ := gd_of hF
            refine RK.of (RN.blk (ops := [(79, .iload_n 3), (80, .iaload), (81, .istore_n 2), (82, .iinc 3 1)]) (pc' := 85) (lv' := [(3, .inl (m_w32 (v3 + 1))), (2, .inl (m_rd h3 (u0 + 4) v3)), (4, .inl s2), (0, .inr (.inr u0)), (1, .inr (.inr u1))]) (st' := []) (h' := h3) (cs := [GI h3 (u0 + 4) 1 v3]) (by decide +kernel) rfl ⟨(hL.fd 2 1 (-1) k_u0 rfl rfl rfl).2.gi hc.1.1 hc.1.2, trivial⟩) ?_
            refine RK.of (RN.goto (off := -81) (tgt := 4) (by decide +kernel)) ?_
            exact RK.sub (ih _ _ _ hL hJ hF) (sub_cons rfl (sub_cons rfl (sub_cons rfl (sub_cons rfl sub_nil))))
          · refine RK.of (RN.iff (cd := .eq) (off := 16) (tgt := 75) (by decide +kernel) (mif_eqn hb)) ?_
            exact RK.sub (hK0 _ _ _ hL hJ hF) (sub_cons rfl (sub_cons rfl (sub_cons rfl (sub_cons rfl sub_nil))))
        · refine RK.of (RN.ift (cd := .ne) (off := 25) (tgt := 62) (by decide +kernel) (mif_ne hb)) ?_
          exact RK.sub (hK0 _ _ _ hL hJ hF) (sub_cons rfl (sub_cons rfl (sub_cons rfl (sub_cons rfl sub_nil))))
      · intro j1 Jj1 hF
        rcases it_of hF with ⟨hb, hF⟩ | ⟨hb, hF⟩
        · refine RK.of (RN.icf (cd := .ne) (off := 7) (tgt := 32) (by decide +kernel) (mif_nen hb)) ?_
          refine RK.of (RN.blk (ops := [(28, .iconst 1)]) (pc' := 29) (lv' := [(0, .inr (.inr u0)), (1, .inr (.inr u1)), (2, .inl v2), (3, .inl v3)]) (st' := [.inl 1]) (h' := h) (cs := []) (by decide +kernel) rfl trivial) ?_
          refine RK.of (RN.goto (off := 4) (tgt := 33) (by decide +kernel)) ?_
          exact RK.sub (Jj1 _ hF) (sub_cons rfl (sub_cons rfl (sub_cons rfl (sub_cons rfl sub_nil))))
        · refine RK.of (RN.ict (cd := .ne) (off := 7) (tgt := 32) (by decide +kernel) (mif_ne hb)) ?_
          refine RK.of (RN.blk (ops := [(32, .iconst 0)]) (pc' := 33) (lv' := [(0, .inr (.inr u0)), (1, .inr (.inr u1)), (2, .inl v2), (3, .inl v3)]) (st' := [.inl 0]) (h' := h) (cs := []) (by decide +kernel) rfl trivial) ?_
          exact RK.sub (Jj1 _ hF) (sub_cons rfl (sub_cons rfl (sub_cons rfl (sub_cons rfl sub_nil))))
    · refine RK.of (RN.ict (cd := .ge) (off := 78) (tgt := 88) (by decide +kernel) (mif_ge hb)) ?_
      exact RK.sub (hK1 _ hL hJ hF) sub_nil
noncomputable def GX5_worth (t : Int) (a1 : Int) (h : MH) : Option (Int × MH) :=
  GX5_worth_L4 t a1 (fun w1 w2 h3 =>
   gd [IB w2 (m_ln h3 (t + 3))] (
    (bd (GX5_run t w1 (m_rd h3 (t + 3) w2) a1 h3) (fun x6 h5 =>
     some (x6, h5))))) (fun h4 =>
   some (0, h4)) FU 0 0 h
theorem DX5_worth {d : Nat} {t : Int} {a1 : Int} {h : MH} {r : Int × MH} (hL : LR h) (k0_t : TO h t 5) (hF : GX5_worth t a1 h = some r) : RN xs L iX5_worth (d + 2) 0 (lvE 0 [.inr (.inr t), .inr (.inr a1)]) [] h (RJo r) ∧ LR r.2 ∧ KD h r.2 := by
  unfold GX5_worth at hF
  have hK : KD h h := KD.rf
  have k_t := k0_t
  show RK xs L iX5_worth (d + 2) 0 (lvE 0 [.inr (.inr t), .inr (.inr a1)]) [] h (RJo r) h r.2
  refine RK.of (RN.blk (ops := [(0, .iconst 0), (1, .istore_n 2), (2, .iconst 0), (3, .istore_n 3)]) (pc' := 4) (lv' := [(3, .inl 0), (2, .inl 0), (0, .inr (.inr t)), (1, .inr (.inr a1))]) (st' := []) (h' := h) (cs := []) (by decide +kernel) rfl trivial) ?_
  refine RK.sub (DX5_worth_L4 hK k_t ?_ ?_ _ _ _ _ hL KD.rf hF) (sub_cons rfl (sub_cons rfl (sub_cons rfl (sub_cons rfl sub_nil))))
  · intro w1 w2 h3 hL hq hF
    have k_t := hq.to k_t
    have hK := hK.tr hq
    refine RK.of (RN.blk (ops := [(62, .aload_n 0), (63, .iload_n 2), (64, .aload_n 0)]) (pc' := 65) (lv' := [(0, .inr (.inr t)), (1, .inr (.inr a1)), (2, .inl w1), (3, .inl w2)]) (st' := [.inr (.inr t), .inl w1, .inr (.inr t)]) (h' := h3) (cs := []) (by decide +kernel) rfl trivial) ?_
    refine RK.of (RN.gr (i := 28) (ci := 5) (k := 1) (fn := true) (v := (t + 3)) (by decide +kernel) rfl (TO.gk k_t) (hL.fd (v := (t + 3)) 1 1 (-1) k_t rfl rfl rfl).1) ?_
    obtain ⟨hc, hF⟩ := gd_of hF
    refine RK.of (RN.blk (ops := [(68, .iload_n 3), (69, .iaload), (70, .aload_n 1)]) (pc' := 71) (lv' := [(0, .inr (.inr t)), (1, .inr (.inr a1)), (2, .inl w1), (3, .inl w2)]) (st' := [.inr (.inr a1), .inl (m_rd h3 (t + 3) w2), .inl w1, .inr (.inr t)]) (h' := h3) (cs := [GI h3 (t + 3) 1 w2]) (by decide +kernel) rfl ⟨(hL.fd 1 1 (-1) k_t rfl rfl rfl).2.gi hc.1.1 hc.1.2, trivial⟩) ?_
    obtain ⟨x6, h5, hG, hF⟩ := bd_of hF
    have hq := rcv_ok (as := [.inl w1, .inl (m_rd h3 (t + 3) w2), .inr (.inr a1)]) (TO.gk k_t)
    obtain ⟨hN, hL, hQ⟩ := DX5_run (d := d) hL k_t hG
    refine RK.of (RN.cv (i := 43) (k := 53) (q2 := iX5_run) (as := [.inr (.inr t), .inl w1, .inl (m_rd h3 (t + 3) w2), .inr (.inr a1)]) (r := []) (v := some (.inr (.inl x6))) (h1 := h5) (by decide +kernel) rfl rfl rfl rfl rfl hq hN) ?_
    have k_t := hQ.to k_t
    have hK := hK.tr hQ
    exact RK.lR (by decide +kernel) rfl hL hK hF
  · intro h4 hL hq hF
    have k_t := hq.to k_t
    have hK := hK.tr hq
    refine RK.of (RN.blk (ops := [(88, .lconst 0)]) (pc' := 89) (lv' := []) (st' := [.inr (.inl 0)]) (h' := h4) (cs := []) (by decide +kernel) rfl trivial) ?_
    exact RK.lR (by decide +kernel) rfl hL hK hF
noncomputable def GX6_joinOf (a1 : Int) (h : MH) : Option (Int × MH) :=
  (if a1 = 37 then
   some ((-24), h)
  else
  (if a1 = 38 then
   some ((-99), h)
  else
  (if a1 = 39 then
   some ((-99), h)
  else
  (if a1 = 40 then
   some ((-99), h)
  else
  (if a1 = 41 then
   some ((-99), h)
  else
  (if a1 = 42 then
   some ((-22), h)
  else
  (if a1 = 43 then
   some ((-20), h)
  else
  (if a1 = 44 then
   some ((-99), h)
  else
  (if a1 = 45 then
   some ((-21), h)
  else
  (if a1 = 46 then
   some ((-99), h)
  else
  (if a1 = 47 then
   some ((-23), h)
  else
   some ((-99), h))))))))))))
theorem DX6_joinOf {d : Nat} {a1 : Int} {h : MH} {r : Int × MH} (hL : LR h) (hF : GX6_joinOf a1 h = some r) : RN xs L iX6_joinOf (d) 0 (lvE 0 [.inl a1]) [] h (RIo r) ∧ LR r.2 ∧ KD h r.2 := by
  unfold GX6_joinOf at hF
  have hK : KD h h := KD.rf
  show RK xs L iX6_joinOf (d) 0 (lvE 0 [.inl a1]) [] h (RIo r) h r.2
  refine RK.of (RN.blk (ops := [(0, .iload_n 0)]) (pc' := 1) (lv' := [(0, .inl a1)]) (st' := [.inl a1]) (h' := h) (cs := []) (by decide +kernel) rfl trivial) ?_
  rcases it_of hF with ⟨hb0, hF⟩ | ⟨hb0, hF⟩
  · refine RK.of (fun k9 => RN.tsw (dflt := 74) (lo := 37) (hi := 47) (offs := #[71, 74, 74, 74, 74, 65, 59, 74, 62, 74, 68]) (by decide +kernel) (RN.sth hb0 (tgt := 72) rfl k9)) ?_
    refine RK.of (RN.blk (ops := [(72, .bipush (-24))]) (pc' := 74) (lv' := [(0, .inl a1)]) (st' := [.inl (-24)]) (h' := h) (cs := []) (by decide +kernel) rfl trivial) ?_
    exact RK.iR (by decide +kernel) rfl hL hK hF
  rcases it_of hF with ⟨hb1, hF⟩ | ⟨hb1, hF⟩
  · refine RK.of (fun k9 => RN.tsw (dflt := 74) (lo := 37) (hi := 47) (offs := #[71, 74, 74, 74, 74, 65, 59, 74, 62, 74, 68]) (by decide +kernel) (RN.stm hb0 (RN.sth hb1 (tgt := 75) rfl k9))) ?_
    refine RK.of (RN.blk (ops := [(75, .bipush (-99))]) (pc' := 77) (lv' := [(0, .inl a1)]) (st' := [.inl (-99)]) (h' := h) (cs := []) (by decide +kernel) rfl trivial) ?_
    exact RK.iR (by decide +kernel) rfl hL hK hF
  rcases it_of hF with ⟨hb2, hF⟩ | ⟨hb2, hF⟩
  · refine RK.of (fun k9 => RN.tsw (dflt := 74) (lo := 37) (hi := 47) (offs := #[71, 74, 74, 74, 74, 65, 59, 74, 62, 74, 68]) (by decide +kernel) (RN.stm hb0 (RN.stm hb1 (RN.sth hb2 (tgt := 75) rfl k9)))) ?_
    refine RK.of (RN.blk (ops := [(75, .bipush (-99))]) (pc' := 77) (lv' := [(0, .inl a1)]) (st' := [.inl (-99)]) (h' := h) (cs := []) (by decide +kernel) rfl trivial) ?_
    exact RK.iR (by decide +kernel) rfl hL hK hF
  rcases it_of hF with ⟨hb3, hF⟩ | ⟨hb3, hF⟩
  · refine RK.of (fun k9 => RN.tsw (dflt := 74) (lo := 37) (hi := 47) (offs := #[71, 74, 74, 74, 74, 65, 59, 74, 62, 74, 68]) (by decide +kernel) (RN.stm hb0 (RN.stm hb1 (RN.stm hb2 (RN.sth hb3 (tgt := 75) rfl k9))))) ?_
    refine RK.of (RN.blk (ops := [(75, .bipush (-99))]) (pc' := 77) (lv' := [(0, .inl a1)]) (st' := [.inl (-99)]) (h' := h) (cs := []) (by decide +kernel) rfl trivial) ?_
    exact RK.iR (by decide +kernel) rfl hL hK hF
  rcases it_of hF with ⟨hb4, hF⟩ | ⟨hb4, hF⟩
  · refine RK.of (fun k9 => RN.tsw (dflt := 74) (lo := 37) (hi := 47) (offs := #[71, 74, 74, 74, 74, 65, 59, 74, 62, 74, 68]) (by decide +kernel) (RN.stm hb0 (RN.stm hb1 (RN.stm hb2 (RN.stm hb3 (RN.sth hb4 (tgt := 75) rfl k9)))))) ?_
    refine RK.of (RN.blk (ops := [(75, .bipush (-99))]) (pc' := 77) (lv' := [(0, .inl a1)]) (st' := [.inl (-99)]) (h' := h) (cs := []) (by decide +kernel) rfl trivial) ?_
    exact RK.iR (by decide +kernel) rfl hL hK hF
  rcases it_of hF with ⟨hb5, hF⟩ | ⟨hb5, hF⟩
  · refine RK.of (fun k9 => RN.tsw (dflt := 74) (lo := 37) (hi := 47) (offs := #[71, 74, 74, 74, 74, 65, 59, 74, 62, 74, 68]) (by decide +kernel) (RN.stm hb0 (RN.stm hb1 (RN.stm hb2 (RN.stm hb3 (RN.stm hb4 (RN.sth hb5 (tgt := 66) rfl k9))))))) ?_
    refine RK.of (RN.blk (ops := [(66, .bipush (-22))]) (pc' := 68) (lv' := [(0, .inl a1)]) (st' := [.inl (-22)]) (h' := h) (cs := []) (by decide +kernel) rfl trivial) ?_
    exact RK.iR (by decide +kernel) rfl hL hK hF
  rcases it_of hF with ⟨hb6, hF⟩ | ⟨hb6, hF⟩
  · refine RK.of (fun k9 => RN.tsw (dflt := 74) (lo := 37) (hi := 47) (offs := #[71, 74, 74, 74, 74, 65, 59, 74, 62, 74, 68]) (by decide +kernel) (RN.stm hb0 (RN.stm hb1 (RN.stm hb2 (RN.stm hb3 (RN.stm hb4 (RN.stm hb5 (RN.sth hb6 (tgt := 60) rfl k9)))))))) ?_
    refine RK.of (RN.blk (ops := [(60, .bipush (-20))]) (pc' := 62) (lv' := [(0, .inl a1)]) (st' := [.inl (-20)]) (h' := h) (cs := []) (by decide +kernel) rfl trivial) ?_
    exact RK.iR (by decide +kernel) rfl hL hK hF
  rcases it_of hF with ⟨hb7, hF⟩ | ⟨hb7, hF⟩
  · refine RK.of (fun k9 => RN.tsw (dflt := 74) (lo := 37) (hi := 47) (offs := #[71, 74, 74, 74, 74, 65, 59, 74, 62, 74, 68]) (by decide +kernel) (RN.stm hb0 (RN.stm hb1 (RN.stm hb2 (RN.stm hb3 (RN.stm hb4 (RN.stm hb5 (RN.stm hb6 (RN.sth hb7 (tgt := 75) rfl k9))))))))) ?_
    refine RK.of (RN.blk (ops := [(75, .bipush (-99))]) (pc' := 77) (lv' := [(0, .inl a1)]) (st' := [.inl (-99)]) (h' := h) (cs := []) (by decide +kernel) rfl trivial) ?_
    exact RK.iR (by decide +kernel) rfl hL hK hF
  rcases it_of hF with ⟨hb8, hF⟩ | ⟨hb8, hF⟩
  · refine RK.of (fun k9 => RN.tsw (dflt := 74) (lo := 37) (hi := 47) (offs := #[71, 74, 74, 74, 74, 65, 59, 74, 62, 74, 68]) (by decide +kernel) (RN.stm hb0 (RN.stm hb1 (RN.stm hb2 (RN.stm hb3 (RN.stm hb4 (RN.stm hb5 (RN.stm hb6 (RN.stm hb7 (RN.sth hb8 (tgt := 63) rfl k9)))))))))) ?_
    refine RK.of (RN.blk (ops := [(63, .bipush (-21))]) (pc' := 65) (lv' := [(0, .inl a1)]) (st' := [.inl (-21)]) (h' := h) (cs := []) (by decide +kernel) rfl trivial) ?_
    exact RK.iR (by decide +kernel) rfl hL hK hF
  rcases it_of hF with ⟨hb9, hF⟩ | ⟨hb9, hF⟩
  · refine RK.of (fun k9 => RN.tsw (dflt := 74) (lo := 37) (hi := 47) (offs := #[71, 74, 74, 74, 74, 65, 59, 74, 62, 74, 68]) (by decide +kernel) (RN.stm hb0 (RN.stm hb1 (RN.stm hb2 (RN.stm hb3 (RN.stm hb4 (RN.stm hb5 (RN.stm hb6 (RN.stm hb7 (RN.stm hb8 (RN.sth hb9 (tgt := 75) rfl k9))))))))))) ?_
    refine RK.of (RN.blk (ops := [(75, .bipush (-99))]) (pc' := 77) (lv' := [(0, .inl a1)]) (st' := [.inl (-99)]) (h' := h) (cs := []) (by decide +kernel) rfl trivial) ?_
    exact RK.iR (by decide +kernel) rfl hL hK hF
  rcases it_of hF with ⟨hb10, hF⟩ | ⟨hb10, hF⟩
  · refine RK.of (fun k9 => RN.tsw (dflt := 74) (lo := 37) (hi := 47) (offs := #[71, 74, 74, 74, 74, 65, 59, 74, 62, 74, 68]) (by decide +kernel) (RN.stm hb0 (RN.stm hb1 (RN.stm hb2 (RN.stm hb3 (RN.stm hb4 (RN.stm hb5 (RN.stm hb6 (RN.stm hb7 (RN.stm hb8 (RN.stm hb9 (RN.sth hb10 (tgt := 69) rfl k9)))))))))))) ?_
    refine RK.of (RN.blk (ops := [(69, .bipush (-23))]) (pc' := 71) (lv' := [(0, .inl a1)]) (st' := [.inl (-23)]) (h' := h) (cs := []) (by decide +kernel) rfl trivial) ?_
    exact RK.iR (by decide +kernel) rfl hL hK hF
  refine RK.of (fun k9 => RN.tsw (dflt := 74) (lo := 37) (hi := 47) (offs := #[71, 74, 74, 74, 74, 65, 59, 74, 62, 74, 68]) (by decide +kernel) (RN.stm hb0 (RN.stm hb1 (RN.stm hb2 (RN.stm hb3 (RN.stm hb4 (RN.stm hb5 (RN.stm hb6 (RN.stm hb7 (RN.stm hb8 (RN.stm hb9 (RN.stm hb10 (RN.std (tgt := 75) rfl k9))))))))))))) ?_
  refine RK.of (RN.blk (ops := [(75, .bipush (-99))]) (pc' := 77) (lv' := [(0, .inl a1)]) (st' := [.inl (-99)]) (h' := h) (cs := []) (by decide +kernel) rfl trivial) ?_
  exact RK.iR (by decide +kernel) rfl hL hK hF
noncomputable def GX6_put (a1 : Int) (h : MH) : Option (Int × MH) :=
  (if (m_rd h 15 2) < 400 then
   gd [IB (m_rd h 15 2) 400] (
    some (1, (m_wr (m_wr h 16 (m_rd h 15 2) a1) 15 2 (m_w32 ((m_rd (m_wr h 16 (m_rd h 15 2) a1) 15 2) + 1)))))
  else
   some (1, h))
theorem DX6_put {d : Nat} {a1 : Int} {h : MH} {r : Int × MH} (hL : LR h) (hF : GX6_put a1 h = some r) : RN xs L iX6_put (d) 0 (lvE 0 [.inr (.inr 15), .inl a1]) [] h (RIo r) ∧ LR r.2 ∧ KD h r.2 := by
  unfold GX6_put at hF
  have hK : KD h h := KD.rf
  show RK xs L iX6_put (d) 0 (lvE 0 [.inr (.inr 15), .inl a1]) [] h (RIo r) h r.2
  refine RK.of (RN.blk (ops := [(0, .aload_n 0), (1, .getfield 30), (4, .sipush 400)]) (pc' := 7) (lv' := [(0, .inr (.inr 15)), (1, .inl a1)]) (st' := [.inl 400, .inl (m_rd h 15 2)]) (h' := h) (cs := [GK h 15 6]) (by decide +kernel) rfl ⟨(o_15 hL).gk, trivial⟩) ?_
  rcases it_of hF with ⟨hb, hF⟩ | ⟨hb, hF⟩
  · refine RK.of (RN.icf (cd := .ge) (off := 23) (tgt := 30) (by decide +kernel) (mif_gen hb)) ?_
    refine RK.of (RN.blk (ops := [(10, .aload_n 0)]) (pc' := 11) (lv' := [(0, .inr (.inr 15)), (1, .inl a1)]) (st' := [.inr (.inr 15)]) (h' := h) (cs := []) (by decide +kernel) rfl trivial) ?_
    refine RK.of (RN.gr (i := 9) (ci := 6) (k := 1) (fn := true) (v := 16) (by decide +kernel) rfl (TO.gk (o_15 hL)) (hL.fa (v := 16) 1 1 400 (o_15 hL) rfl (by decide) rfl (by decide)).1) ?_
    obtain ⟨hc, hF⟩ := gd_of hF
    refine RK.of (RN.blk (ops := [(14, .aload_n 0), (15, .getfield 30), (18, .iload_n 1), (19, .iastore)]) (pc' := 20) (lv' := [(0, .inr (.inr 15)), (1, .inl a1)]) (st' := []) (h' := (m_wr h 16 (m_rd h 15 2) a1)) (cs := [GK h 15 6, GI h 16 1 (m_rd h 15 2)]) (by decide +kernel) rfl ⟨(o_15 hL).gk, (a_16 hL).gi hc.1.1 hc.1.2, trivial⟩) ?_
    have hL : LR (m_wr h 16 (m_rd h 15 2) a1) := hL.wa (TA.le5 (a_16 hL) (by decide))
    have hK := hK.tr (KD.wr : KD h (m_wr h 16 (m_rd h 15 2) a1))
    refine RK.of (RN.blk (ops := [(20, .aload_n 0), (21, .dup), (22, .getfield 30), (25, .iconst 1), (26, .iadd), (27, .putfield 30)]) (pc' := 30) (lv' := [(0, .inr (.inr 15)), (1, .inl a1)]) (st' := []) (h' := (m_wr (m_wr h 16 (m_rd h 15 2) a1) 15 2 (m_w32 ((m_rd (m_wr h 16 (m_rd h 15 2) a1) 15 2) + 1)))) (cs := [GK (m_wr h 16 (m_rd h 15 2) a1) 15 6, GK (m_wr h 16 (m_rd h 15 2) a1) 15 6]) (by decide +kernel) rfl ⟨(o_15 hL).gk, (o_15 hL).gk, trivial⟩) ?_
    have hL : LR (m_wr (m_wr h 16 (m_rd h 15 2) a1) 15 2 (m_w32 ((m_rd (m_wr h 16 (m_rd h 15 2) a1) 15 2) + 1))) := LR.wf (k := 2) hL (o_15 hL) rfl
    have hK := hK.tr (KD.wr : KD (m_wr h 16 (m_rd h 15 2) a1) (m_wr (m_wr h 16 (m_rd h 15 2) a1) 15 2 (m_w32 ((m_rd (m_wr h 16 (m_rd h 15 2) a1) 15 2) + 1))))
    refine RK.of (RN.blk (ops := [(30, .iconst 1)]) (pc' := 31) (lv' := [(0, .inr (.inr 15)), (1, .inl a1)]) (st' := [.inl 1]) (h' := (m_wr (m_wr h 16 (m_rd h 15 2) a1) 15 2 (m_w32 ((m_rd (m_wr h 16 (m_rd h 15 2) a1) 15 2) + 1)))) (cs := []) (by decide +kernel) rfl trivial) ?_
    exact RK.zR (by decide +kernel) rfl (Or.inr rfl) hL hK hF
  · refine RK.of (RN.ict (cd := .ge) (off := 23) (tgt := 30) (by decide +kernel) (mif_ge hb)) ?_
    refine RK.of (RN.blk (ops := [(30, .iconst 1)]) (pc' := 31) (lv' := [(0, .inr (.inr 15)), (1, .inl a1)]) (st' := [.inl 1]) (h' := h) (cs := []) (by decide +kernel) rfl trivial) ?_
    exact RK.zR (by decide +kernel) rfl (Or.inr rfl) hL hK hF
noncomputable def GX6_countPart (a1 : Int) (h : MH) : Option (Int × MH) :=
  (if 60 < (m_rd (m_wr h 15 6 (m_w32 ((m_rd h 15 6) + 1))) 15 6) then
   (bd (GX9_fail a1 3 (m_wr h 15 6 (m_w32 ((m_rd h 15 6) + 1)))) (fun x2 h1 =>
    (if x2 = 0 then
     some (0, h1)
    else
     some (1, h1))))
  else
   some (1, (m_wr h 15 6 (m_w32 ((m_rd h 15 6) + 1)))))
theorem DX6_countPart {d : Nat} {a1 : Int} {h : MH} {r : Int × MH} (hL : LR h) (hF : GX6_countPart a1 h = some r) : RN xs L iX6_countPart (d + 1) 0 (lvE 0 [.inr (.inr 15), .inl a1]) [] h (RIo r) ∧ LR r.2 ∧ KD h r.2 := by
  unfold GX6_countPart at hF
  have hK : KD h h := KD.rf
  show RK xs L iX6_countPart (d + 1) 0 (lvE 0 [.inr (.inr 15), .inl a1]) [] h (RIo r) h r.2
  refine RK.of (RN.blk (ops := [(0, .aload_n 0), (1, .dup), (2, .getfield 37), (5, .iconst 1), (6, .iadd), (7, .putfield 37)]) (pc' := 10) (lv' := [(0, .inr (.inr 15)), (1, .inl a1)]) (st' := []) (h' := (m_wr h 15 6 (m_w32 ((m_rd h 15 6) + 1)))) (cs := [GK h 15 6, GK h 15 6]) (by decide +kernel) rfl ⟨(o_15 hL).gk, (o_15 hL).gk, trivial⟩) ?_
  have hL : LR (m_wr h 15 6 (m_w32 ((m_rd h 15 6) + 1))) := LR.wf (k := 6) hL (o_15 hL) rfl
  have hK := hK.tr (KD.wr : KD h (m_wr h 15 6 (m_w32 ((m_rd h 15 6) + 1))))
  refine RK.of (RN.blk (ops := [(10, .aload_n 0), (11, .getfield 37), (14, .bipush 60)]) (pc' := 16) (lv' := [(0, .inr (.inr 15)), (1, .inl a1)]) (st' := [.inl 60, .inl (m_rd (m_wr h 15 6 (m_w32 ((m_rd h 15 6) + 1))) 15 6)]) (h' := (m_wr h 15 6 (m_w32 ((m_rd h 15 6) + 1)))) (cs := [GK (m_wr h 15 6 (m_w32 ((m_rd h 15 6) + 1))) 15 6]) (by decide +kernel) rfl ⟨(o_15 hL).gk, trivial⟩) ?_
  rcases it_of hF with ⟨hb, hF⟩ | ⟨hb, hF⟩
  · refine RK.of (RN.icf (cd := .le) (off := 15) (tgt := 31) (by decide +kernel) (mif_len hb)) ?_
    refine RK.of (RN.blk (ops := [(19, .aload_n 0)]) (pc' := 20) (lv' := [(0, .inr (.inr 15)), (1, .inl a1)]) (st' := [.inr (.inr 15)]) (h' := (m_wr h 15 6 (m_w32 ((m_rd h 15 6) + 1)))) (cs := []) (by decide +kernel) rfl trivial) ?_
    refine RK.of (RN.gr (i := 21) (ci := 6) (k := 0) (fn := true) (v := 1) (by decide +kernel) rfl (TO.gk (o_15 hL)) (hL.fo (v := 1) 0 9 (o_15 hL) rfl (by decide) rfl).1) ?_
    refine RK.of (RN.blk (ops := [(23, .iload_n 1), (24, .iconst 3)]) (pc' := 25) (lv' := [(0, .inr (.inr 15)), (1, .inl a1)]) (st' := [.inl 3, .inl a1, .inr (.inr 1)]) (h' := (m_wr h 15 6 (m_w32 ((m_rd h 15 6) + 1)))) (cs := []) (by decide +kernel) rfl trivial) ?_
    obtain ⟨x2, h1, hG, hF⟩ := bd_of hF
    have hq := rcv_ok (as := [.inl a1, .inl 3]) (TO.gk (o_1 hL))
    obtain ⟨hN, hL, hQ⟩ := DX9_fail (d := d) hL  hG
    refine RK.of (RN.cv (i := 53) (k := 91) (q2 := iX9_fail) (as := [.inr (.inr 1), .inl a1, .inl 3]) (r := []) (v := some (.inl x2)) (h1 := h1) (by decide +kernel) rfl rfl rfl rfl rfl hq hN) ?_
    have hK := hK.tr hQ
    rcases it_of hF with ⟨hb, hF⟩ | ⟨hb, hF⟩
    · refine RK.of (RN.ift (cd := .eq) (off := 7) (tgt := 35) (by decide +kernel) (mif_eq hb)) ?_
      refine RK.of (RN.blk (ops := [(35, .iconst 0)]) (pc' := 36) (lv' := [(0, .inr (.inr 15)), (1, .inl a1)]) (st' := [.inl 0]) (h' := h1) (cs := []) (by decide +kernel) rfl trivial) ?_
      exact RK.zR (by decide +kernel) rfl (Or.inl rfl) hL hK hF
    · refine RK.of (RN.iff (cd := .eq) (off := 7) (tgt := 35) (by decide +kernel) (mif_eqn hb)) ?_
      refine RK.of (RN.blk (ops := [(31, .iconst 1)]) (pc' := 32) (lv' := [(0, .inr (.inr 15)), (1, .inl a1)]) (st' := [.inl 1]) (h' := h1) (cs := []) (by decide +kernel) rfl trivial) ?_
      refine RK.of (RN.goto (off := 4) (tgt := 36) (by decide +kernel)) ?_
      exact RK.zR (by decide +kernel) rfl (Or.inr rfl) hL hK hF
  · refine RK.of (RN.ict (cd := .le) (off := 15) (tgt := 31) (by decide +kernel) (mif_le hb)) ?_
    refine RK.of (RN.blk (ops := [(31, .iconst 1)]) (pc' := 32) (lv' := [(0, .inr (.inr 15)), (1, .inl a1)]) (st' := [.inl 1]) (h' := (m_wr h 15 6 (m_w32 ((m_rd h 15 6) + 1)))) (cs := []) (by decide +kernel) rfl trivial) ?_
    refine RK.of (RN.goto (off := 4) (tgt := 36) (by decide +kernel)) ?_
    exact RK.zR (by decide +kernel) rfl (Or.inr rfl) hL hK hF
noncomputable def GX6_textOf (a1 : Int) (h : MH) : Option (Int × MH) :=
  (if a1 = 0 then
   some ((-15), h)
  else
  (if a1 = 1 then
   some ((-16), h)
  else
  (if a1 = 2 then
   some ((-17), h)
  else
  (if a1 = 3 then
   some ((-18), h)
  else
  (if a1 = 4 then
   some ((-19), h)
  else
  (if a1 = 5 then
   some ((-20), h)
  else
  (if a1 = 6 then
   some ((-11), h)
  else
  (if a1 = 7 then
   some ((-21), h)
  else
  (if a1 = 8 then
   some ((-22), h)
  else
  (if a1 = 9 then
   some ((-23), h)
  else
   some ((-24), h)))))))))))
theorem DX6_textOf {d : Nat} {a1 : Int} {h : MH} {r : Int × MH} (hL : LR h) (hF : GX6_textOf a1 h = some r) : RN xs L iX6_textOf (d) 0 (lvE 0 [.inl a1]) [] h (RAo r) ∧ LR r.2 ∧ KD h r.2 := by
  unfold GX6_textOf at hF
  have hK : KD h h := KD.rf
  show RK xs L iX6_textOf (d) 0 (lvE 0 [.inl a1]) [] h (RAo r) h r.2
  refine RK.of (RN.blk (ops := [(0, .iload_n 0)]) (pc' := 1) (lv' := [(0, .inl a1)]) (st' := [.inl a1]) (h' := h) (cs := []) (by decide +kernel) rfl trivial) ?_
  rcases it_of hF with ⟨hb0, hF⟩ | ⟨hb0, hF⟩
  · refine RK.of (fun k9 => RN.tsw (dflt := 85) (lo := 0) (hi := 9) (offs := #[55, 58, 61, 64, 67, 70, 73, 76, 79, 82]) (by decide +kernel) (RN.sth hb0 (tgt := 56) rfl k9)) ?_
    refine RK.of (RN.blk (ops := [(56, .ldc 116)]) (pc' := 58) (lv' := [(0, .inl a1)]) (st' := [.inr (.inr (-15))]) (h' := h) (cs := []) (by decide +kernel) rfl trivial) ?_
    exact RK.aR (by decide +kernel) rfl hL hK hF
  rcases it_of hF with ⟨hb1, hF⟩ | ⟨hb1, hF⟩
  · refine RK.of (fun k9 => RN.tsw (dflt := 85) (lo := 0) (hi := 9) (offs := #[55, 58, 61, 64, 67, 70, 73, 76, 79, 82]) (by decide +kernel) (RN.stm hb0 (RN.sth hb1 (tgt := 59) rfl k9))) ?_
    refine RK.of (RN.blk (ops := [(59, .ldc 118)]) (pc' := 61) (lv' := [(0, .inl a1)]) (st' := [.inr (.inr (-16))]) (h' := h) (cs := []) (by decide +kernel) rfl trivial) ?_
    exact RK.aR (by decide +kernel) rfl hL hK hF
  rcases it_of hF with ⟨hb2, hF⟩ | ⟨hb2, hF⟩
  · refine RK.of (fun k9 => RN.tsw (dflt := 85) (lo := 0) (hi := 9) (offs := #[55, 58, 61, 64, 67, 70, 73, 76, 79, 82]) (by decide +kernel) (RN.stm hb0 (RN.stm hb1 (RN.sth hb2 (tgt := 62) rfl k9)))) ?_
    refine RK.of (RN.blk (ops := [(62, .ldc 120)]) (pc' := 64) (lv' := [(0, .inl a1)]) (st' := [.inr (.inr (-17))]) (h' := h) (cs := []) (by decide +kernel) rfl trivial) ?_
    exact RK.aR (by decide +kernel) rfl hL hK hF
  rcases it_of hF with ⟨hb3, hF⟩ | ⟨hb3, hF⟩
  · refine RK.of (fun k9 => RN.tsw (dflt := 85) (lo := 0) (hi := 9) (offs := #[55, 58, 61, 64, 67, 70, 73, 76, 79, 82]) (by decide +kernel) (RN.stm hb0 (RN.stm hb1 (RN.stm hb2 (RN.sth hb3 (tgt := 65) rfl k9))))) ?_
    refine RK.of (RN.blk (ops := [(65, .ldc 122)]) (pc' := 67) (lv' := [(0, .inl a1)]) (st' := [.inr (.inr (-18))]) (h' := h) (cs := []) (by decide +kernel) rfl trivial) ?_
    exact RK.aR (by decide +kernel) rfl hL hK hF
  rcases it_of hF with ⟨hb4, hF⟩ | ⟨hb4, hF⟩
  · refine RK.of (fun k9 => RN.tsw (dflt := 85) (lo := 0) (hi := 9) (offs := #[55, 58, 61, 64, 67, 70, 73, 76, 79, 82]) (by decide +kernel) (RN.stm hb0 (RN.stm hb1 (RN.stm hb2 (RN.stm hb3 (RN.sth hb4 (tgt := 68) rfl k9)))))) ?_
    refine RK.of (RN.blk (ops := [(68, .ldc 124)]) (pc' := 70) (lv' := [(0, .inl a1)]) (st' := [.inr (.inr (-19))]) (h' := h) (cs := []) (by decide +kernel) rfl trivial) ?_
    exact RK.aR (by decide +kernel) rfl hL hK hF
  rcases it_of hF with ⟨hb5, hF⟩ | ⟨hb5, hF⟩
  · refine RK.of (fun k9 => RN.tsw (dflt := 85) (lo := 0) (hi := 9) (offs := #[55, 58, 61, 64, 67, 70, 73, 76, 79, 82]) (by decide +kernel) (RN.stm hb0 (RN.stm hb1 (RN.stm hb2 (RN.stm hb3 (RN.stm hb4 (RN.sth hb5 (tgt := 71) rfl k9))))))) ?_
    refine RK.of (RN.blk (ops := [(71, .ldc 126)]) (pc' := 73) (lv' := [(0, .inl a1)]) (st' := [.inr (.inr (-20))]) (h' := h) (cs := []) (by decide +kernel) rfl trivial) ?_
    exact RK.aR (by decide +kernel) rfl hL hK hF
  rcases it_of hF with ⟨hb6, hF⟩ | ⟨hb6, hF⟩
  · refine RK.of (fun k9 => RN.tsw (dflt := 85) (lo := 0) (hi := 9) (offs := #[55, 58, 61, 64, 67, 70, 73, 76, 79, 82]) (by decide +kernel) (RN.stm hb0 (RN.stm hb1 (RN.stm hb2 (RN.stm hb3 (RN.stm hb4 (RN.stm hb5 (RN.sth hb6 (tgt := 74) rfl k9)))))))) ?_
    refine RK.of (RN.blk (ops := [(74, .ldc 128)]) (pc' := 76) (lv' := [(0, .inl a1)]) (st' := [.inr (.inr (-11))]) (h' := h) (cs := []) (by decide +kernel) rfl trivial) ?_
    exact RK.aR (by decide +kernel) rfl hL hK hF
  rcases it_of hF with ⟨hb7, hF⟩ | ⟨hb7, hF⟩
  · refine RK.of (fun k9 => RN.tsw (dflt := 85) (lo := 0) (hi := 9) (offs := #[55, 58, 61, 64, 67, 70, 73, 76, 79, 82]) (by decide +kernel) (RN.stm hb0 (RN.stm hb1 (RN.stm hb2 (RN.stm hb3 (RN.stm hb4 (RN.stm hb5 (RN.stm hb6 (RN.sth hb7 (tgt := 77) rfl k9))))))))) ?_
    refine RK.of (RN.blk (ops := [(77, .ldc 130)]) (pc' := 79) (lv' := [(0, .inl a1)]) (st' := [.inr (.inr (-21))]) (h' := h) (cs := []) (by decide +kernel) rfl trivial) ?_
    exact RK.aR (by decide +kernel) rfl hL hK hF
  rcases it_of hF with ⟨hb8, hF⟩ | ⟨hb8, hF⟩
  · refine RK.of (fun k9 => RN.tsw (dflt := 85) (lo := 0) (hi := 9) (offs := #[55, 58, 61, 64, 67, 70, 73, 76, 79, 82]) (by decide +kernel) (RN.stm hb0 (RN.stm hb1 (RN.stm hb2 (RN.stm hb3 (RN.stm hb4 (RN.stm hb5 (RN.stm hb6 (RN.stm hb7 (RN.sth hb8 (tgt := 80) rfl k9)))))))))) ?_
    refine RK.of (RN.blk (ops := [(80, .ldc 132)]) (pc' := 82) (lv' := [(0, .inl a1)]) (st' := [.inr (.inr (-22))]) (h' := h) (cs := []) (by decide +kernel) rfl trivial) ?_
    exact RK.aR (by decide +kernel) rfl hL hK hF
  rcases it_of hF with ⟨hb9, hF⟩ | ⟨hb9, hF⟩
  · refine RK.of (fun k9 => RN.tsw (dflt := 85) (lo := 0) (hi := 9) (offs := #[55, 58, 61, 64, 67, 70, 73, 76, 79, 82]) (by decide +kernel) (RN.stm hb0 (RN.stm hb1 (RN.stm hb2 (RN.stm hb3 (RN.stm hb4 (RN.stm hb5 (RN.stm hb6 (RN.stm hb7 (RN.stm hb8 (RN.sth hb9 (tgt := 83) rfl k9))))))))))) ?_
    refine RK.of (RN.blk (ops := [(83, .ldc 134)]) (pc' := 85) (lv' := [(0, .inl a1)]) (st' := [.inr (.inr (-23))]) (h' := h) (cs := []) (by decide +kernel) rfl trivial) ?_
    exact RK.aR (by decide +kernel) rfl hL hK hF
  refine RK.of (fun k9 => RN.tsw (dflt := 85) (lo := 0) (hi := 9) (offs := #[55, 58, 61, 64, 67, 70, 73, 76, 79, 82]) (by decide +kernel) (RN.stm hb0 (RN.stm hb1 (RN.stm hb2 (RN.stm hb3 (RN.stm hb4 (RN.stm hb5 (RN.stm hb6 (RN.stm hb7 (RN.stm hb8 (RN.stm hb9 (RN.std (tgt := 86) rfl k9)))))))))))) ?_
  refine RK.of (RN.blk (ops := [(86, .ldc 136)]) (pc' := 88) (lv' := [(0, .inl a1)]) (st' := [.inr (.inr (-24))]) (h' := h) (cs := []) (by decide +kernel) rfl trivial) ?_
  exact RK.aR (by decide +kernel) rfl hL hK hF
noncomputable def GX6_takeValue_L63 (u2 : Int) (K0 : Int → MH → Option (Int × MH)) (K1 : MH → Option (Int × MH)) : Nat → Int → MH → Option (Int × MH)
  | 0, _, _ => none
  | f + 1, v3, h =>
    (if v3 < 11 then
     (bd (GX6_textOf v3 h) (fun x2 h1 =>
      (bd (GX9_takeWord x2 h1) (fun x4 h3 =>
       (if x4 = 0 then
        GX6_takeValue_L63 u2 K0 K1 f (m_w32 (v3 + 1)) h3
       else
        K0 v3 h3)))))
    else
     K1 h)
theorem DX6_takeValue_L63 {d : Nat} {u2 : Int} {K0 : Int → MH → Option (Int × MH)} {K1 : MH → Option (Int × MH)} {r : Int × MH} {h0 hB : MH} (hB0 : KD h0 hB) (hK0 : ∀ (w3 : Int) (h : MH), LR h → KD hB h → K0 w3 h = some r → RK xs L iX6_takeValue (d + 7) 83 [(0, .inr (.inr 15)), (2, .inl u2), (3, .inl w3)] [] h (RIo r) h0 r.2) (hK1 : ∀ (h : MH), LR h → KD hB h → K1 h = some r → RK xs L iX6_takeValue (d + 7) 113 [(0, .inr (.inr 15)), (2, .inl u2)] [] h (RIo r) h0 r.2) : ∀ (f : Nat) (v3 : Int) (h : MH), LR h → KD hB h → GX6_takeValue_L63 u2 K0 K1 f v3 h = some r → RK xs L iX6_takeValue (d + 7) 63 [(0, .inr (.inr 15)), (2, .inl u2), (3, .inl v3)] [] h (RIo r) h0 r.2 := by
  intro f
  induction f with
  | zero =>
    intro v3 h hL hJ hF
    cases hF
  | succ f ih =>
    intro v3 h hL hJ hF
    unfold GX6_takeValue_L63 at hF
    have hK := hB0.tr hJ
    refine RK.of (RN.blk (ops := [(63, .iload_n 3), (64, .bipush 11)]) (pc' := 66) (lv' := [(0, .inr (.inr 15)), (2, .inl u2), (3, .inl v3)]) (st' := [.inl 11, .inl v3]) (h' := h) (cs := []) (by decide +kernel) rfl trivial) ?_
    rcases it_of hF with ⟨hb, hF⟩ | ⟨hb, hF⟩
    · refine RK.of (RN.icf (cd := .ge) (off := 47) (tgt := 113) (by decide +kernel) (mif_gen hb)) ?_
      refine RK.of (RN.blk (ops := [(69, .aload_n 0)]) (pc' := 70) (lv' := [(0, .inr (.inr 15)), (2, .inl u2), (3, .inl v3)]) (st' := [.inr (.inr 15)]) (h' := h) (cs := []) (by decide +kernel) rfl trivial) ?_
      refine RK.of (RN.gr (i := 21) (ci := 6) (k := 0) (fn := true) (v := 1) (by decide +kernel) rfl (TO.gk (o_15 hL)) (hL.fo (v := 1) 0 9 (o_15 hL) rfl (by decide) rfl).1) ?_
      refine RK.of (RN.blk (ops := [(73, .iload_n 3)]) (pc' := 74) (lv' := [(0, .inr (.inr 15)), (2, .inl u2), (3, .inl v3)]) (st' := [.inl v3, .inr (.inr 1)]) (h' := h) (cs := []) (by decide +kernel) rfl trivial) ?_
      obtain ⟨x2, h1, hG, hF⟩ := bd_of hF
      obtain ⟨hN, hL, hQ⟩ := DX6_textOf (d := d + 6) hL  hG
      refine RK.of (RN.cst (i := 112) (k := 65) (q2 := iX6_textOf) (as := [.inl v3]) (r := [.inr (.inr 1)]) (v := some (.inr (.inr x2))) (h1 := h1) (by decide +kernel) rfl rfl rfl rfl rfl hN) ?_
      have hK := hK.tr hQ
      have hJ := hJ.tr hQ
      obtain ⟨x4, h3, hG, hF⟩ := bd_of hF
      have hq := rcv_ok (as := [.inr (.inr x2)]) (TO.gk (o_1 hL))
      obtain ⟨hN, hL, hQ⟩ := DX9_takeWord (d := d) hL  hG
      refine RK.of (RN.cv (i := 49) (k := 95) (q2 := iX9_takeWord) (as := [.inr (.inr 1), .inr (.inr x2)]) (r := []) (v := some (.inl x4)) (h1 := h3) (by decide +kernel) rfl rfl rfl rfl rfl hq hN) ?_
      have hK := hK.tr hQ
      have hJ := hJ.tr hQ
      rcases it_of hF with ⟨hb, hF⟩ | ⟨hb, hF⟩
      · refine RK.of (RN.ift (cd := .eq) (off := 27) (tgt := 107) (by decide +kernel) (mif_eq hb)) ?_
        refine RK.of (RN.blk (ops := [(107, .iinc 3 1)]) (pc' := 110) (lv' := [(3, .inl (m_w32 (v3 + 1))), (0, .inr (.inr 15)), (2, .inl u2)]) (st' := []) (h' := h3) (cs := []) (by decide +kernel) rfl trivial) ?_
        refine RK.of (RN.goto (off := -47) (tgt := 63) (by decide +kernel)) ?_
        exact RK.sub (ih _ _ hL hJ hF) (sub_cons rfl (sub_cons rfl (sub_cons rfl sub_nil)))
      · refine RK.of (RN.iff (cd := .eq) (off := 27) (tgt := 107) (by decide +kernel) (mif_eqn hb)) ?_
        exact RK.sub (hK0 _ _ hL hJ hF) (sub_cons rfl (sub_cons rfl (sub_cons rfl sub_nil)))
    · refine RK.of (RN.ict (cd := .ge) (off := 47) (tgt := 113) (by decide +kernel) (mif_ge hb)) ?_
      exact RK.sub (hK1 _ hL hJ hF) (sub_cons rfl (sub_cons rfl sub_nil))
noncomputable def GX6_takeValue (h : MH) : Option (Int × MH) :=
  (bd (GX9_next h) (fun x2 h1 =>
   (bd (GX9_isDigit x2 h1) (fun x4 h3 =>
    (if x4 = 0 then
     GX6_takeValue_L63 (m_rd h3 1 2) (fun w5 h6 =>
      (bd (GX6_countPart (m_rd h3 1 2) h6) (fun x9 h8 =>
       (if x9 = 0 then
        some (0, h8)
       else
        (bd (GX6_put (m_w32 ((-1) - w5)) h8) (fun x11 h10 =>
         (if x11 = 0 then
          some (0, h10)
         else
          some (1, h10)))))))) (fun h7 =>
      (bd (GX9_fail (m_rd h3 1 2) 0 h7) (fun x13 h12 =>
       gd [GT x13] (some (x13, h12))))) FU 0 h3
    else
     (bd (GX9_takeNumber 0 99999 h3) (fun x15 h14 =>
      (if x15 = (-1) then
       some (0, h14)
      else
       (bd (GX6_countPart (m_rd h3 1 2) h14) (fun x17 h16 =>
        (if x17 = 0 then
         some (0, h16)
        else
         (bd (GX6_put x15 h16) (fun x19 h18 =>
          (if x19 = 0 then
           some (0, h18)
          else
           some (1, h18)))))))))))))))
theorem DX6_takeValue {d : Nat} {h : MH} {r : Int × MH} (hL : LR h) (hF : GX6_takeValue h = some r) : RN xs L iX6_takeValue (d + 7) 0 (lvE 0 [.inr (.inr 15)]) [] h (RIo r) ∧ LR r.2 ∧ KD h r.2 := by
  unfold GX6_takeValue at hF
  have hK : KD h h := KD.rf
  show RK xs L iX6_takeValue (d + 7) 0 (lvE 0 [.inr (.inr 15)]) [] h (RIo r) h r.2
  refine RK.of (RN.blk (ops := [(0, .aload_n 0)]) (pc' := 1) (lv' := [(0, .inr (.inr 15))]) (st' := [.inr (.inr 15)]) (h' := h) (cs := []) (by decide +kernel) rfl trivial) ?_
  refine RK.of (RN.gr (i := 21) (ci := 6) (k := 0) (fn := true) (v := 1) (by decide +kernel) rfl (TO.gk (o_15 hL)) (hL.fo (v := 1) 0 9 (o_15 hL) rfl (by decide) rfl).1) ?_
  obtain ⟨x2, h1, hG, hF⟩ := bd_of hF
  have hq := rcv_ok (as := []) (TO.gk (o_1 hL))
  obtain ⟨hN, hL, hQ⟩ := DX9_next (d := d + 6) hL  hG
  refine RK.of (RN.cv (i := 40) (k := 93) (q2 := iX9_next) (as := [.inr (.inr 1)]) (r := []) (v := some (.inl x2)) (h1 := h1) (by decide +kernel) rfl rfl rfl rfl rfl hq hN) ?_
  have hK := hK.tr hQ
  obtain ⟨x4, h3, hG, hF⟩ := bd_of hF
  obtain ⟨hN, hL, hQ⟩ := DX9_isDigit (d := d + 6) hL  hG
  refine RK.of (RN.cst (i := 104) (k := 98) (q2 := iX9_isDigit) (as := [.inl x2]) (r := []) (v := some (.inl x4)) (h1 := h3) (by decide +kernel) rfl rfl rfl rfl rfl hN) ?_
  have hK := hK.tr hQ
  refine RK.of (RN.blk (ops := [(10, .istore_n 1), (11, .aload_n 0)]) (pc' := 12) (lv' := [(1, .inl x4), (0, .inr (.inr 15))]) (st' := [.inr (.inr 15)]) (h' := h3) (cs := []) (by decide +kernel) rfl trivial) ?_
  refine RK.of (RN.gr (i := 21) (ci := 6) (k := 0) (fn := true) (v := 1) (by decide +kernel) rfl (TO.gk (o_15 hL)) (hL.fo (v := 1) 0 9 (o_15 hL) rfl (by decide) rfl).1) ?_
  refine RK.of (RN.blk (ops := [(15, .getfield 44), (18, .istore_n 2), (19, .iload_n 1)]) (pc' := 20) (lv' := [(2, .inl (m_rd h3 1 2)), (1, .inl x4), (0, .inr (.inr 15))]) (st' := [.inl x4]) (h' := h3) (cs := [GK h3 1 9]) (by decide +kernel) rfl ⟨(o_1 hL).gk, trivial⟩) ?_
  rcases it_of hF with ⟨hb, hF⟩ | ⟨hb, hF⟩
  · refine RK.of (RN.ift (cd := .eq) (off := 41) (tgt := 61) (by decide +kernel) (mif_eq hb)) ?_
    refine RK.of (RN.blk (ops := [(61, .iconst 0), (62, .istore_n 3)]) (pc' := 63) (lv' := [(3, .inl 0), (2, .inl (m_rd h3 1 2)), (1, .inl x4), (0, .inr (.inr 15))]) (st' := []) (h' := h3) (cs := []) (by decide +kernel) rfl trivial) ?_
    refine RK.sub (DX6_takeValue_L63 hK ?_ ?_ _ _ _ hL KD.rf hF) (sub_cons rfl (sub_cons rfl (sub_cons rfl sub_nil)))
    · intro w5 h6 hL hq hF
      have hK := hK.tr hq
      refine RK.of (RN.blk (ops := [(83, .aload_n 0), (84, .iload_n 2)]) (pc' := 85) (lv' := [(0, .inr (.inr 15)), (2, .inl (m_rd h3 1 2)), (3, .inl w5)]) (st' := [.inl (m_rd h3 1 2), .inr (.inr 15)]) (h' := h6) (cs := []) (by decide +kernel) rfl trivial) ?_
      obtain ⟨x9, h8, hG, hF⟩ := bd_of hF
      have hq := rcv_ok (as := [.inl (m_rd h3 1 2)]) (TO.gk (o_15 hL))
      obtain ⟨hN, hL, hQ⟩ := DX6_countPart (d := d + 5) hL  hG
      refine RK.of (RN.cv (i := 91) (k := 62) (q2 := iX6_countPart) (as := [.inr (.inr 15), .inl (m_rd h3 1 2)]) (r := []) (v := some (.inl x9)) (h1 := h8) (by decide +kernel) rfl rfl rfl rfl rfl hq hN) ?_
      have hK := hK.tr hQ
      rcases it_of hF with ⟨hb, hF⟩ | ⟨hb, hF⟩
      · refine RK.of (RN.ift (cd := .eq) (off := 17) (tgt := 105) (by decide +kernel) (mif_eq hb)) ?_
        refine RK.of (RN.blk (ops := [(105, .iconst 0)]) (pc' := 106) (lv' := [(0, .inr (.inr 15)), (2, .inl (m_rd h3 1 2)), (3, .inl w5)]) (st' := [.inl 0]) (h' := h8) (cs := []) (by decide +kernel) rfl trivial) ?_
        exact RK.zR (by decide +kernel) rfl (Or.inl rfl) hL hK hF
      · refine RK.of (RN.iff (cd := .eq) (off := 17) (tgt := 105) (by decide +kernel) (mif_eqn hb)) ?_
        refine RK.of (RN.blk (ops := [(91, .aload_n 0), (92, .iconst (-1)), (93, .iload_n 3), (94, .isub)]) (pc' := 95) (lv' := [(0, .inr (.inr 15)), (2, .inl (m_rd h3 1 2)), (3, .inl w5)]) (st' := [.inl (m_w32 ((-1) - w5)), .inr (.inr 15)]) (h' := h8) (cs := []) (by decide +kernel) rfl trivial) ?_
        obtain ⟨x11, h10, hG, hF⟩ := bd_of hF
        have hq := rcv_ok (as := [.inl (m_w32 ((-1) - w5))]) (TO.gk (o_15 hL))
        obtain ⟨hN, hL, hQ⟩ := DX6_put (d := d + 6) hL  hG
        refine RK.of (RN.cv (i := 78) (k := 63) (q2 := iX6_put) (as := [.inr (.inr 15), .inl (m_w32 ((-1) - w5))]) (r := []) (v := some (.inl x11)) (h1 := h10) (by decide +kernel) rfl rfl rfl rfl rfl hq hN) ?_
        have hK := hK.tr hQ
        rcases it_of hF with ⟨hb, hF⟩ | ⟨hb, hF⟩
        · refine RK.of (RN.ift (cd := .eq) (off := 7) (tgt := 105) (by decide +kernel) (mif_eq hb)) ?_
          refine RK.of (RN.blk (ops := [(105, .iconst 0)]) (pc' := 106) (lv' := [(0, .inr (.inr 15)), (2, .inl (m_rd h3 1 2)), (3, .inl w5)]) (st' := [.inl 0]) (h' := h10) (cs := []) (by decide +kernel) rfl trivial) ?_
          exact RK.zR (by decide +kernel) rfl (Or.inl rfl) hL hK hF
        · refine RK.of (RN.iff (cd := .eq) (off := 7) (tgt := 105) (by decide +kernel) (mif_eqn hb)) ?_
          refine RK.of (RN.blk (ops := [(101, .iconst 1)]) (pc' := 102) (lv' := [(0, .inr (.inr 15)), (2, .inl (m_rd h3 1 2)), (3, .inl w5)]) (st' := [.inl 1]) (h' := h10) (cs := []) (by decide +kernel) rfl trivial) ?_
          refine RK.of (RN.goto (off := 4) (tgt := 106) (by decide +kernel)) ?_
          exact RK.zR (by decide +kernel) rfl (Or.inr rfl) hL hK hF
    · intro h7 hL hq hF
      have hK := hK.tr hq
      refine RK.of (RN.blk (ops := [(113, .aload_n 0)]) (pc' := 114) (lv' := [(0, .inr (.inr 15)), (2, .inl (m_rd h3 1 2))]) (st' := [.inr (.inr 15)]) (h' := h7) (cs := []) (by decide +kernel) rfl trivial) ?_
      refine RK.of (RN.gr (i := 21) (ci := 6) (k := 0) (fn := true) (v := 1) (by decide +kernel) rfl (TO.gk (o_15 hL)) (hL.fo (v := 1) 0 9 (o_15 hL) rfl (by decide) rfl).1) ?_
      refine RK.of (RN.blk (ops := [(117, .iload_n 2), (118, .iconst 0)]) (pc' := 119) (lv' := [(0, .inr (.inr 15)), (2, .inl (m_rd h3 1 2))]) (st' := [.inl 0, .inl (m_rd h3 1 2), .inr (.inr 1)]) (h' := h7) (cs := []) (by decide +kernel) rfl trivial) ?_
      obtain ⟨x13, h12, hG, hF⟩ := bd_of hF
      have hq := rcv_ok (as := [.inl (m_rd h3 1 2), .inl 0]) (TO.gk (o_1 hL))
      obtain ⟨hN, hL, hQ⟩ := DX9_fail (d := d + 6) hL  hG
      refine RK.of (RN.cv (i := 53) (k := 91) (q2 := iX9_fail) (as := [.inr (.inr 1), .inl (m_rd h3 1 2), .inl 0]) (r := []) (v := some (.inl x13)) (h1 := h12) (by decide +kernel) rfl rfl rfl rfl rfl hq hN) ?_
      have hK := hK.tr hQ
      obtain ⟨hc, hF⟩ := gd_of hF
      exact RK.zR (by decide +kernel) rfl hc.1 hL hK hF
  · refine RK.of (RN.iff (cd := .eq) (off := 41) (tgt := 61) (by decide +kernel) (mif_eqn hb)) ?_
    refine RK.of (RN.blk (ops := [(23, .aload_n 0)]) (pc' := 24) (lv' := [(2, .inl (m_rd h3 1 2)), (1, .inl x4), (0, .inr (.inr 15))]) (st' := [.inr (.inr 15)]) (h' := h3) (cs := []) (by decide +kernel) rfl trivial) ?_
    refine RK.of (RN.gr (i := 21) (ci := 6) (k := 0) (fn := true) (v := 1) (by decide +kernel) rfl (TO.gk (o_15 hL)) (hL.fo (v := 1) 0 9 (o_15 hL) rfl (by decide) rfl).1) ?_
    refine RK.of (RN.blk (ops := [(27, .iconst 0), (28, .ldc 107)]) (pc' := 30) (lv' := [(2, .inl (m_rd h3 1 2)), (1, .inl x4), (0, .inr (.inr 15))]) (st' := [.inl 99999, .inl 0, .inr (.inr 1)]) (h' := h3) (cs := []) (by decide +kernel) rfl trivial) ?_
    obtain ⟨x15, h14, hG, hF⟩ := bd_of hF
    have hq := rcv_ok (as := [.inl 0, .inl 99999]) (TO.gk (o_1 hL))
    obtain ⟨hN, hL, hQ⟩ := DX9_takeNumber (d := d + 5) hL  hG
    refine RK.of (RN.cv (i := 108) (k := 96) (q2 := iX9_takeNumber) (as := [.inr (.inr 1), .inl 0, .inl 99999]) (r := []) (v := some (.inl x15)) (h1 := h14) (by decide +kernel) rfl rfl rfl rfl rfl hq hN) ?_
    have hK := hK.tr hQ
    refine RK.of (RN.blk (ops := [(33, .istore_n 3), (34, .iload_n 3), (35, .iconst (-1))]) (pc' := 36) (lv' := [(3, .inl x15), (2, .inl (m_rd h3 1 2)), (1, .inl x4), (0, .inr (.inr 15))]) (st' := [.inl (-1), .inl x15]) (h' := h14) (cs := []) (by decide +kernel) rfl trivial) ?_
    rcases it_of hF with ⟨hb, hF⟩ | ⟨hb, hF⟩
    · refine RK.of (RN.ict (cd := .eq) (off := 23) (tgt := 59) (by decide +kernel) (mif_eq hb)) ?_
      refine RK.of (RN.blk (ops := [(59, .iconst 0)]) (pc' := 60) (lv' := [(3, .inl x15), (2, .inl (m_rd h3 1 2)), (1, .inl x4), (0, .inr (.inr 15))]) (st' := [.inl 0]) (h' := h14) (cs := []) (by decide +kernel) rfl trivial) ?_
      exact RK.zR (by decide +kernel) rfl (Or.inl rfl) hL hK hF
    · refine RK.of (RN.icf (cd := .eq) (off := 23) (tgt := 59) (by decide +kernel) (mif_eqn hb)) ?_
      refine RK.of (RN.blk (ops := [(39, .aload_n 0), (40, .iload_n 2)]) (pc' := 41) (lv' := [(3, .inl x15), (2, .inl (m_rd h3 1 2)), (1, .inl x4), (0, .inr (.inr 15))]) (st' := [.inl (m_rd h3 1 2), .inr (.inr 15)]) (h' := h14) (cs := []) (by decide +kernel) rfl trivial) ?_
      obtain ⟨x17, h16, hG, hF⟩ := bd_of hF
      have hq := rcv_ok (as := [.inl (m_rd h3 1 2)]) (TO.gk (o_15 hL))
      obtain ⟨hN, hL, hQ⟩ := DX6_countPart (d := d + 5) hL  hG
      refine RK.of (RN.cv (i := 91) (k := 62) (q2 := iX6_countPart) (as := [.inr (.inr 15), .inl (m_rd h3 1 2)]) (r := []) (v := some (.inl x17)) (h1 := h16) (by decide +kernel) rfl rfl rfl rfl rfl hq hN) ?_
      have hK := hK.tr hQ
      rcases it_of hF with ⟨hb, hF⟩ | ⟨hb, hF⟩
      · refine RK.of (RN.ift (cd := .eq) (off := 15) (tgt := 59) (by decide +kernel) (mif_eq hb)) ?_
        refine RK.of (RN.blk (ops := [(59, .iconst 0)]) (pc' := 60) (lv' := [(3, .inl x15), (2, .inl (m_rd h3 1 2)), (1, .inl x4), (0, .inr (.inr 15))]) (st' := [.inl 0]) (h' := h16) (cs := []) (by decide +kernel) rfl trivial) ?_
        exact RK.zR (by decide +kernel) rfl (Or.inl rfl) hL hK hF
      · refine RK.of (RN.iff (cd := .eq) (off := 15) (tgt := 59) (by decide +kernel) (mif_eqn hb)) ?_
        refine RK.of (RN.blk (ops := [(47, .aload_n 0), (48, .iload_n 3)]) (pc' := 49) (lv' := [(3, .inl x15), (2, .inl (m_rd h3 1 2)), (1, .inl x4), (0, .inr (.inr 15))]) (st' := [.inl x15, .inr (.inr 15)]) (h' := h16) (cs := []) (by decide +kernel) rfl trivial) ?_
        obtain ⟨x19, h18, hG, hF⟩ := bd_of hF
        have hq := rcv_ok (as := [.inl x15]) (TO.gk (o_15 hL))
        obtain ⟨hN, hL, hQ⟩ := DX6_put (d := d + 6) hL  hG
        refine RK.of (RN.cv (i := 78) (k := 63) (q2 := iX6_put) (as := [.inr (.inr 15), .inl x15]) (r := []) (v := some (.inl x19)) (h1 := h18) (by decide +kernel) rfl rfl rfl rfl rfl hq hN) ?_
        have hK := hK.tr hQ
        rcases it_of hF with ⟨hb, hF⟩ | ⟨hb, hF⟩
        · refine RK.of (RN.ift (cd := .eq) (off := 7) (tgt := 59) (by decide +kernel) (mif_eq hb)) ?_
          refine RK.of (RN.blk (ops := [(59, .iconst 0)]) (pc' := 60) (lv' := [(3, .inl x15), (2, .inl (m_rd h3 1 2)), (1, .inl x4), (0, .inr (.inr 15))]) (st' := [.inl 0]) (h' := h18) (cs := []) (by decide +kernel) rfl trivial) ?_
          exact RK.zR (by decide +kernel) rfl (Or.inl rfl) hL hK hF
        · refine RK.of (RN.iff (cd := .eq) (off := 7) (tgt := 59) (by decide +kernel) (mif_eqn hb)) ?_
          refine RK.of (RN.blk (ops := [(55, .iconst 1)]) (pc' := 56) (lv' := [(3, .inl x15), (2, .inl (m_rd h3 1 2)), (1, .inl x4), (0, .inr (.inr 15))]) (st' := [.inl 1]) (h' := h18) (cs := []) (by decide +kernel) rfl trivial) ?_
          refine RK.of (RN.goto (off := 4) (tgt := 60) (by decide +kernel)) ?_
          exact RK.zR (by decide +kernel) rfl (Or.inr rfl) hL hK hF
noncomputable def GX6_takeSum_L25 (K0 : MH → Option (Int × MH)) (K1 : Int → MH → Option (Int × MH)) : Nat → Int → Int → Int → MH → Option (Int × MH)
  | 0, _, _, _, _ => none
  | f + 1, v1, v2, v3, h =>
    (if v3 < 400 then
     (if v2 = (-99) then
      K1 v1 h
     else
      jn (fun (s2 : Int) =>
       jn (fun (h4 : MH) =>
        (bd (GX6_takeValue h4) (fun x6 h5 =>
         (if x6 = 0 then
          K0 h5
         else
          jn (fun (p8 : Int) (h9 : MH) =>
           (bd (GX9_next h9) (fun x11 h10 =>
            (bd (GX6_joinOf x11 h10) (fun x13 h12 =>
             GX6_takeSum_L25 K0 K1 f p8 x13 (m_w32 (v3 + 1)) h12))))) (fun j7 =>
           (if s2 = 0 then
            (bd (GX6_put v2 h5) (fun x15 h14 =>
             j7 v1 h14))
           else
            j7 v2 h5)))))) (fun j3 =>
        (if s2 = 0 then
         j3 (m_wr h 1 2 (m_w32 ((m_rd h 1 2) + 1)))
        else
         (if v1 = (-99) then
          j3 (m_wr h 1 2 (m_w32 ((m_rd h 1 2) + 1)))
         else
          (bd (GX6_put v1 (m_wr h 1 2 (m_w32 ((m_rd h 1 2) + 1)))) (fun x17 h16 =>
           j3 h16)))))) (fun j1 =>
       jn (
        j1 1) (fun j18 =>
        (if v2 = (-20) then
         j18
        else
         (if v2 = (-21) then
          j18
         else
          j1 0)))))
    else
     K1 v1 h)
theorem DX6_takeSum_L25 {d : Nat} {K0 : MH → Option (Int × MH)} {K1 : Int → MH → Option (Int × MH)} {r : Int × MH} {h0 hB : MH} (hB0 : KD h0 hB) (hK0 : ∀ (h : MH), LR h → KD hB h → K0 h = some r → RK xs L iX6_takeSum (d + 8) 94 [] [] h (RIo r) h0 r.2) (hK1 : ∀ (w1 : Int) (h : MH), LR h → KD hB h → K1 w1 h = some r → RK xs L iX6_takeSum (d + 8) 129 [(0, .inr (.inr 15)), (1, .inl w1)] [] h (RIo r) h0 r.2) : ∀ (f : Nat) (v1 : Int) (v2 : Int) (v3 : Int) (h : MH), LR h → KD hB h → GX6_takeSum_L25 K0 K1 f v1 v2 v3 h = some r → RK xs L iX6_takeSum (d + 8) 25 [(0, .inr (.inr 15)), (1, .inl v1), (2, .inl v2), (3, .inl v3)] [] h (RIo r) h0 r.2 := by
  intro f
  induction f with
  | zero =>
    intro v1 v2 v3 h hL hJ hF
    cases hF
  | succ f ih =>
    intro v1 v2 v3 h hL hJ hF
    unfold GX6_takeSum_L25 at hF
    have hK := hB0.tr hJ
    refine RK.of (RN.blk (ops := [(25, .iload_n 3), (26, .sipush 400)]) (pc' := 29) (lv' := [(0, .inr (.inr 15)), (1, .inl v1), (2, .inl v2), (3, .inl v3)]) (st' := [.inl 400, .inl v3]) (h' := h) (cs := []) (by decide +kernel) rfl trivial) ?_
    rcases it_of hF with ⟨hb, hF⟩ | ⟨hb, hF⟩
    · refine RK.of (RN.icf (cd := .ge) (off := 100) (tgt := 129) (by decide +kernel) (mif_gen hb)) ?_
      refine RK.of (RN.blk (ops := [(32, .iload_n 2), (33, .bipush (-99))]) (pc' := 35) (lv' := [(0, .inr (.inr 15)), (1, .inl v1), (2, .inl v2), (3, .inl v3)]) (st' := [.inl (-99), .inl v2]) (h' := h) (cs := []) (by decide +kernel) rfl trivial) ?_
      rcases it_of hF with ⟨hb, hF⟩ | ⟨hb, hF⟩
      · refine RK.of (RN.ict (cd := .eq) (off := 94) (tgt := 129) (by decide +kernel) (mif_eq hb)) ?_
        exact RK.sub (hK1 _ _ hL hJ hF) (sub_cons rfl (sub_cons rfl sub_nil))
      · refine RK.of (RN.icf (cd := .eq) (off := 94) (tgt := 129) (by decide +kernel) (mif_eqn hb)) ?_
        refine RK.of (RN.blk (ops := [(38, .aload_n 0)]) (pc' := 39) (lv' := [(0, .inr (.inr 15)), (1, .inl v1), (2, .inl v2), (3, .inl v3)]) (st' := [.inr (.inr 15)]) (h' := h) (cs := []) (by decide +kernel) rfl trivial) ?_
        refine RK.of (RN.gr (i := 21) (ci := 6) (k := 0) (fn := true) (v := 1) (by decide +kernel) rfl (TO.gk (o_15 hL)) (hL.fo (v := 1) 0 9 (o_15 hL) rfl (by decide) rfl).1) ?_
        refine RK.of (RN.blk (ops := [(42, .dup), (43, .getfield 44), (46, .iconst 1), (47, .iadd), (48, .putfield 44)]) (pc' := 51) (lv' := [(0, .inr (.inr 15)), (1, .inl v1), (2, .inl v2), (3, .inl v3)]) (st' := []) (h' := (m_wr h 1 2 (m_w32 ((m_rd h 1 2) + 1)))) (cs := [GK h 1 9, GK h 1 9]) (by decide +kernel) rfl ⟨(o_1 hL).gk, (o_1 hL).gk, trivial⟩) ?_
        have hL : LR (m_wr h 1 2 (m_w32 ((m_rd h 1 2) + 1))) := LR.wf (k := 2) hL (o_1 hL) rfl
        have hK := hK.tr (KD.wr : KD h (m_wr h 1 2 (m_w32 ((m_rd h 1 2) + 1))))
        have hJ := hJ.tr (KD.wr : KD h (m_wr h 1 2 (m_w32 ((m_rd h 1 2) + 1))))
        refine RK.of (RN.blk (ops := [(51, .iload_n 2), (52, .bipush (-20))]) (pc' := 54) (lv' := [(0, .inr (.inr 15)), (1, .inl v1), (2, .inl v2), (3, .inl v3)]) (st' := [.inl (-20), .inl v2]) (h' := (m_wr h 1 2 (m_w32 ((m_rd h 1 2) + 1)))) (cs := []) (by decide +kernel) rfl trivial) ?_
        refine jn_use (fun j1 => ∀ (s2 : Int), j1 s2 = some r → RK xs L iX6_takeSum (d + 8) 68 [(0, .inr (.inr 15)), (1, .inl v1), (2, .inl v2), (3, .inl v3)] [.inl s2] (m_wr h 1 2 (m_w32 ((m_rd h 1 2) + 1))) (RIo r) h0 r.2) ?_ ?_ hF
        · intro s2 hF
          refine RK.of (RN.blk (ops := [(68, .istore 4), (70, .iload 4)]) (pc' := 72) (lv' := [(4, .inl s2), (0, .inr (.inr 15)), (1, .inl v1), (2, .inl v2), (3, .inl v3)]) (st' := [.inl s2]) (h' := (m_wr h 1 2 (m_w32 ((m_rd h 1 2) + 1)))) (cs := []) (by decide +kernel) rfl trivial) ?_
          refine jn_use (fun j3 => ∀ (h4 : MH), LR h4 → KD hB h4 → j3 h4 = some r → RK xs L iX6_takeSum (d + 8) 87 [(0, .inr (.inr 15)), (1, .inl v1), (2, .inl v2), (3, .inl v3), (4, .inl s2)] [] h4 (RIo r) h0 r.2) ?_ ?_ hF
          · intro h4 hL hJ hF
            have hK := hB0.tr hJ
            refine RK.of (RN.blk (ops := [(87, .aload_n 0)]) (pc' := 88) (lv' := [(0, .inr (.inr 15)), (1, .inl v1), (2, .inl v2), (3, .inl v3), (4, .inl s2)]) (st' := [.inr (.inr 15)]) (h' := h4) (cs := []) (by decide +kernel) rfl trivial) ?_
            obtain ⟨x6, h5, hG, hF⟩ := bd_of hF
            have hq := rcv_ok (as := []) (TO.gk (o_15 hL))
            obtain ⟨hN, hL, hQ⟩ := DX6_takeValue (d := d) hL  hG
            refine RK.of (RN.cv (i := 98) (k := 61) (q2 := iX6_takeValue) (as := [.inr (.inr 15)]) (r := []) (v := some (.inl x6)) (h1 := h5) (by decide +kernel) rfl rfl rfl rfl rfl hq hN) ?_
            have hK := hK.tr hQ
            have hJ := hJ.tr hQ
            rcases it_of hF with ⟨hb, hF⟩ | ⟨hb, hF⟩
            · refine RK.of (RN.iff (cd := .ne) (off := 5) (tgt := 96) (by decide +kernel) (mif_nen hb)) ?_
              exact RK.sub (hK0 _ hL hJ hF) sub_nil
            · refine RK.of (RN.ift (cd := .ne) (off := 5) (tgt := 96) (by decide +kernel) (mif_ne hb)) ?_
              refine RK.of (RN.blk (ops := [(96, .iload 4)]) (pc' := 98) (lv' := [(0, .inr (.inr 15)), (1, .inl v1), (2, .inl v2), (3, .inl v3), (4, .inl s2)]) (st' := [.inl s2]) (h' := h5) (cs := []) (by decide +kernel) rfl trivial) ?_
              refine jn_use (fun j7 => ∀ (p8 : Int) (h9 : MH), LR h9 → KD hB h9 → j7 p8 h9 = some r → RK xs L iX6_takeSum (d + 8) 112 [(0, .inr (.inr 15)), (1, .inl p8), (3, .inl v3)] [] h9 (RIo r) h0 r.2) ?_ ?_ hF
              · intro p8 h9 hL hJ hF
                have hK := hB0.tr hJ
                refine RK.of (RN.blk (ops := [(112, .aload_n 0)]) (pc' := 113) (lv' := [(0, .inr (.inr 15)), (1, .inl p8), (3, .inl v3)]) (st' := [.inr (.inr 15)]) (h' := h9) (cs := []) (by decide +kernel) rfl trivial) ?_
                refine RK.of (RN.gr (i := 21) (ci := 6) (k := 0) (fn := true) (v := 1) (by decide +kernel) rfl (TO.gk (o_15 hL)) (hL.fo (v := 1) 0 9 (o_15 hL) rfl (by decide) rfl).1) ?_
                obtain ⟨x11, h10, hG, hF⟩ := bd_of hF
                have hq := rcv_ok (as := []) (TO.gk (o_1 hL))
                obtain ⟨hN, hL, hQ⟩ := DX9_next (d := d + 7) hL  hG
                refine RK.of (RN.cv (i := 40) (k := 93) (q2 := iX9_next) (as := [.inr (.inr 1)]) (r := []) (v := some (.inl x11)) (h1 := h10) (by decide +kernel) rfl rfl rfl rfl rfl hq hN) ?_
                have hK := hK.tr hQ
                have hJ := hJ.tr hQ
                obtain ⟨x13, h12, hG, hF⟩ := bd_of hF
                obtain ⟨hN, hL, hQ⟩ := DX6_joinOf (d := d + 7) hL  hG
                refine RK.of (RN.cst (i := 101) (k := 64) (q2 := iX6_joinOf) (as := [.inl x11]) (r := []) (v := some (.inl x13)) (h1 := h12) (by decide +kernel) rfl rfl rfl rfl rfl hN) ?_
                have hK := hK.tr hQ
                have hJ := hJ.tr hQ
                refine RK.of (RN.blk (ops := [(122, .istore_n 2), (123, .iinc 3 1)]) (pc' := 126) (lv' := [(3, .inl (m_w32 (v3 + 1))), (2, .inl x13), (0, .inr (.inr 15)), (1, .inl p8)]) (st' := []) (h' := h12) (cs := []) (by decide +kernel) rfl trivial) ?_
                refine RK.of (RN.goto (off := -101) (tgt := 25) (by decide +kernel)) ?_
                exact RK.sub (ih _ _ _ _ hL hJ hF) (sub_cons rfl (sub_cons rfl (sub_cons rfl (sub_cons rfl sub_nil))))
              · intro j7 Jj7 hF
                rcases it_of hF with ⟨hb, hF⟩ | ⟨hb, hF⟩
                · refine RK.of (RN.ift (cd := .eq) (off := 8) (tgt := 106) (by decide +kernel) (mif_eq hb)) ?_
                  refine RK.of (RN.blk (ops := [(106, .aload_n 0), (107, .iload_n 2)]) (pc' := 108) (lv' := [(0, .inr (.inr 15)), (1, .inl v1), (2, .inl v2), (3, .inl v3), (4, .inl s2)]) (st' := [.inl v2, .inr (.inr 15)]) (h' := h5) (cs := []) (by decide +kernel) rfl trivial) ?_
                  obtain ⟨x15, h14, hG, hF⟩ := bd_of hF
                  have hq := rcv_ok (as := [.inl v2]) (TO.gk (o_15 hL))
                  obtain ⟨hN, hL, hQ⟩ := DX6_put (d := d + 7) hL  hG
                  refine RK.of (RN.cv (i := 78) (k := 63) (q2 := iX6_put) (as := [.inr (.inr 15), .inl v2]) (r := []) (v := some (.inl x15)) (h1 := h14) (by decide +kernel) rfl rfl rfl rfl rfl hq hN) ?_
                  have hK := hK.tr hQ
                  have hJ := hJ.tr hQ
                  refine RK.of (RN.blk (ops := [(111, .pop)]) (pc' := 112) (lv' := [(0, .inr (.inr 15)), (1, .inl v1), (2, .inl v2), (3, .inl v3), (4, .inl s2)]) (st' := []) (h' := h14) (cs := []) (by decide +kernel) rfl trivial) ?_
                  exact RK.sub (Jj7 _ _ hL hJ hF) (sub_cons rfl (sub_cons rfl (sub_cons rfl sub_nil)))
                · refine RK.of (RN.iff (cd := .eq) (off := 8) (tgt := 106) (by decide +kernel) (mif_eqn hb)) ?_
                  refine RK.of (RN.blk (ops := [(101, .iload_n 2), (102, .istore_n 1)]) (pc' := 103) (lv' := [(1, .inl v2), (0, .inr (.inr 15)), (2, .inl v2), (3, .inl v3), (4, .inl s2)]) (st' := []) (h' := h5) (cs := []) (by decide +kernel) rfl trivial) ?_
                  refine RK.of (RN.goto (off := 9) (tgt := 112) (by decide +kernel)) ?_
                  exact RK.sub (Jj7 _ _ hL hJ hF) (sub_cons rfl (sub_cons rfl (sub_cons rfl sub_nil)))
          · intro j3 Jj3 hF
            rcases it_of hF with ⟨hb, hF⟩ | ⟨hb, hF⟩
            · refine RK.of (RN.ift (cd := .eq) (off := 15) (tgt := 87) (by decide +kernel) (mif_eq hb)) ?_
              exact RK.sub (Jj3 _ hL hJ hF) (sub_cons rfl (sub_cons rfl (sub_cons rfl (sub_cons rfl (sub_cons rfl sub_nil)))))
            · refine RK.of (RN.iff (cd := .eq) (off := 15) (tgt := 87) (by decide +kernel) (mif_eqn hb)) ?_
              refine RK.of (RN.blk (ops := [(75, .iload_n 1), (76, .bipush (-99))]) (pc' := 78) (lv' := [(4, .inl s2), (0, .inr (.inr 15)), (1, .inl v1), (2, .inl v2), (3, .inl v3)]) (st' := [.inl (-99), .inl v1]) (h' := (m_wr h 1 2 (m_w32 ((m_rd h 1 2) + 1)))) (cs := []) (by decide +kernel) rfl trivial) ?_
              rcases it_of hF with ⟨hb, hF⟩ | ⟨hb, hF⟩
              · refine RK.of (RN.ict (cd := .eq) (off := 9) (tgt := 87) (by decide +kernel) (mif_eq hb)) ?_
                exact RK.sub (Jj3 _ hL hJ hF) (sub_cons rfl (sub_cons rfl (sub_cons rfl (sub_cons rfl (sub_cons rfl sub_nil)))))
              · refine RK.of (RN.icf (cd := .eq) (off := 9) (tgt := 87) (by decide +kernel) (mif_eqn hb)) ?_
                refine RK.of (RN.blk (ops := [(81, .aload_n 0), (82, .iload_n 1)]) (pc' := 83) (lv' := [(4, .inl s2), (0, .inr (.inr 15)), (1, .inl v1), (2, .inl v2), (3, .inl v3)]) (st' := [.inl v1, .inr (.inr 15)]) (h' := (m_wr h 1 2 (m_w32 ((m_rd h 1 2) + 1)))) (cs := []) (by decide +kernel) rfl trivial) ?_
                obtain ⟨x17, h16, hG, hF⟩ := bd_of hF
                have hq := rcv_ok (as := [.inl v1]) (TO.gk (o_15 hL))
                obtain ⟨hN, hL, hQ⟩ := DX6_put (d := d + 7) hL  hG
                refine RK.of (RN.cv (i := 78) (k := 63) (q2 := iX6_put) (as := [.inr (.inr 15), .inl v1]) (r := []) (v := some (.inl x17)) (h1 := h16) (by decide +kernel) rfl rfl rfl rfl rfl hq hN) ?_
                have hK := hK.tr hQ
                have hJ := hJ.tr hQ
                refine RK.of (RN.blk (ops := [(86, .pop)]) (pc' := 87) (lv' := [(4, .inl s2), (0, .inr (.inr 15)), (1, .inl v1), (2, .inl v2), (3, .inl v3)]) (st' := []) (h' := h16) (cs := []) (by decide +kernel) rfl trivial) ?_
                exact RK.sub (Jj3 _ hL hJ hF) (sub_cons rfl (sub_cons rfl (sub_cons rfl (sub_cons rfl (sub_cons rfl sub_nil)))))
        · intro j1 Jj1 hF
          refine jn_use (fun j18 => j18 = some r → RK xs L iX6_takeSum (d + 8) 63 [(0, .inr (.inr 15)), (1, .inl v1), (2, .inl v2), (3, .inl v3)] [] (m_wr h 1 2 (m_w32 ((m_rd h 1 2) + 1))) (RIo r) h0 r.2) ?_ ?_ hF
          · intro  hF
            refine RK.of (RN.blk (ops := [(63, .iconst 1)]) (pc' := 64) (lv' := [(0, .inr (.inr 15)), (1, .inl v1), (2, .inl v2), (3, .inl v3)]) (st' := [.inl 1]) (h' := (m_wr h 1 2 (m_w32 ((m_rd h 1 2) + 1)))) (cs := []) (by decide +kernel) rfl trivial) ?_
            refine RK.of (RN.goto (off := 4) (tgt := 68) (by decide +kernel)) ?_
            exact RK.sub (Jj1 _ hF) (sub_cons rfl (sub_cons rfl (sub_cons rfl (sub_cons rfl sub_nil))))
          · intro j18 Jj18 hF
            rcases it_of hF with ⟨hb, hF⟩ | ⟨hb, hF⟩
            · refine RK.of (RN.ict (cd := .eq) (off := 9) (tgt := 63) (by decide +kernel) (mif_eq hb)) ?_
              exact RK.sub (Jj18 hF) (sub_cons rfl (sub_cons rfl (sub_cons rfl (sub_cons rfl sub_nil))))
            · refine RK.of (RN.icf (cd := .eq) (off := 9) (tgt := 63) (by decide +kernel) (mif_eqn hb)) ?_
              refine RK.of (RN.blk (ops := [(57, .iload_n 2), (58, .bipush (-21))]) (pc' := 60) (lv' := [(0, .inr (.inr 15)), (1, .inl v1), (2, .inl v2), (3, .inl v3)]) (st' := [.inl (-21), .inl v2]) (h' := (m_wr h 1 2 (m_w32 ((m_rd h 1 2) + 1)))) (cs := []) (by decide +kernel) rfl trivial) ?_
              rcases it_of hF with ⟨hb, hF⟩ | ⟨hb, hF⟩
              · refine RK.of (RN.icf (cd := .ne) (off := 7) (tgt := 67) (by decide +kernel) (mif_nen hb)) ?_
                exact RK.sub (Jj18 hF) (sub_cons rfl (sub_cons rfl (sub_cons rfl (sub_cons rfl sub_nil))))
              · refine RK.of (RN.ict (cd := .ne) (off := 7) (tgt := 67) (by decide +kernel) (mif_ne hb)) ?_
                refine RK.of (RN.blk (ops := [(67, .iconst 0)]) (pc' := 68) (lv' := [(0, .inr (.inr 15)), (1, .inl v1), (2, .inl v2), (3, .inl v3)]) (st' := [.inl 0]) (h' := (m_wr h 1 2 (m_w32 ((m_rd h 1 2) + 1)))) (cs := []) (by decide +kernel) rfl trivial) ?_
                exact RK.sub (Jj1 _ hF) (sub_cons rfl (sub_cons rfl (sub_cons rfl (sub_cons rfl sub_nil))))
    · refine RK.of (RN.ict (cd := .ge) (off := 100) (tgt := 129) (by decide +kernel) (mif_ge hb)) ?_
      exact RK.sub (hK1 _ _ hL hJ hF) (sub_cons rfl (sub_cons rfl sub_nil))
noncomputable def GX6_takeSum (h : MH) : Option (Int × MH) :=
  (bd (GX6_takeValue h) (fun x2 h1 =>
   (if x2 = 0 then
    some (0, h1)
   else
    (bd (GX9_next h1) (fun x4 h3 =>
     (bd (GX6_joinOf x4 h3) (fun x6 h5 =>
      GX6_takeSum_L25 (fun h7 =>
       some (0, h7)) (fun w8 h9 =>
       (if w8 = (-99) then
        some (1, h9)
       else
        (bd (GX6_put w8 h9) (fun x11 h10 =>
         (if x11 = 0 then
          some (0, h10)
         else
          some (1, h10)))))) FU (-99) x6 0 h5)))))))
theorem DX6_takeSum {d : Nat} {h : MH} {r : Int × MH} (hL : LR h) (hF : GX6_takeSum h = some r) : RN xs L iX6_takeSum (d + 8) 0 (lvE 0 [.inr (.inr 15)]) [] h (RIo r) ∧ LR r.2 ∧ KD h r.2 := by
  unfold GX6_takeSum at hF
  have hK : KD h h := KD.rf
  show RK xs L iX6_takeSum (d + 8) 0 (lvE 0 [.inr (.inr 15)]) [] h (RIo r) h r.2
  refine RK.of (RN.blk (ops := [(0, .aload_n 0)]) (pc' := 1) (lv' := [(0, .inr (.inr 15))]) (st' := [.inr (.inr 15)]) (h' := h) (cs := []) (by decide +kernel) rfl trivial) ?_
  obtain ⟨x2, h1, hG, hF⟩ := bd_of hF
  have hq := rcv_ok (as := []) (TO.gk (o_15 hL))
  obtain ⟨hN, hL, hQ⟩ := DX6_takeValue (d := d) hL  hG
  refine RK.of (RN.cv (i := 98) (k := 61) (q2 := iX6_takeValue) (as := [.inr (.inr 15)]) (r := []) (v := some (.inl x2)) (h1 := h1) (by decide +kernel) rfl rfl rfl rfl rfl hq hN) ?_
  have hK := hK.tr hQ
  rcases it_of hF with ⟨hb, hF⟩ | ⟨hb, hF⟩
  · refine RK.of (RN.iff (cd := .ne) (off := 5) (tgt := 9) (by decide +kernel) (mif_nen hb)) ?_
    refine RK.of (RN.blk (ops := [(7, .iconst 0)]) (pc' := 8) (lv' := [(0, .inr (.inr 15))]) (st' := [.inl 0]) (h' := h1) (cs := []) (by decide +kernel) rfl trivial) ?_
    exact RK.zR (by decide +kernel) rfl (Or.inl rfl) hL hK hF
  · refine RK.of (RN.ift (cd := .ne) (off := 5) (tgt := 9) (by decide +kernel) (mif_ne hb)) ?_
    refine RK.of (RN.blk (ops := [(9, .bipush (-99)), (11, .istore_n 1), (12, .aload_n 0)]) (pc' := 13) (lv' := [(1, .inl (-99)), (0, .inr (.inr 15))]) (st' := [.inr (.inr 15)]) (h' := h1) (cs := []) (by decide +kernel) rfl trivial) ?_
    refine RK.of (RN.gr (i := 21) (ci := 6) (k := 0) (fn := true) (v := 1) (by decide +kernel) rfl (TO.gk (o_15 hL)) (hL.fo (v := 1) 0 9 (o_15 hL) rfl (by decide) rfl).1) ?_
    obtain ⟨x4, h3, hG, hF⟩ := bd_of hF
    have hq := rcv_ok (as := []) (TO.gk (o_1 hL))
    obtain ⟨hN, hL, hQ⟩ := DX9_next (d := d + 7) hL  hG
    refine RK.of (RN.cv (i := 40) (k := 93) (q2 := iX9_next) (as := [.inr (.inr 1)]) (r := []) (v := some (.inl x4)) (h1 := h3) (by decide +kernel) rfl rfl rfl rfl rfl hq hN) ?_
    have hK := hK.tr hQ
    obtain ⟨x6, h5, hG, hF⟩ := bd_of hF
    obtain ⟨hN, hL, hQ⟩ := DX6_joinOf (d := d + 7) hL  hG
    refine RK.of (RN.cst (i := 101) (k := 64) (q2 := iX6_joinOf) (as := [.inl x4]) (r := []) (v := some (.inl x6)) (h1 := h5) (by decide +kernel) rfl rfl rfl rfl rfl hN) ?_
    have hK := hK.tr hQ
    refine RK.of (RN.blk (ops := [(22, .istore_n 2), (23, .iconst 0), (24, .istore_n 3)]) (pc' := 25) (lv' := [(3, .inl 0), (2, .inl x6), (1, .inl (-99)), (0, .inr (.inr 15))]) (st' := []) (h' := h5) (cs := []) (by decide +kernel) rfl trivial) ?_
    refine RK.sub (DX6_takeSum_L25 hK ?_ ?_ _ _ _ _ _ hL KD.rf hF) (sub_cons rfl (sub_cons rfl (sub_cons rfl (sub_cons rfl sub_nil))))
    · intro h7 hL hq hF
      have hK := hK.tr hq
      refine RK.of (RN.blk (ops := [(94, .iconst 0)]) (pc' := 95) (lv' := []) (st' := [.inl 0]) (h' := h7) (cs := []) (by decide +kernel) rfl trivial) ?_
      exact RK.zR (by decide +kernel) rfl (Or.inl rfl) hL hK hF
    · intro w8 h9 hL hq hF
      have hK := hK.tr hq
      refine RK.of (RN.blk (ops := [(129, .iload_n 1), (130, .bipush (-99))]) (pc' := 132) (lv' := [(0, .inr (.inr 15)), (1, .inl w8)]) (st' := [.inl (-99), .inl w8]) (h' := h9) (cs := []) (by decide +kernel) rfl trivial) ?_
      rcases it_of hF with ⟨hb, hF⟩ | ⟨hb, hF⟩
      · refine RK.of (RN.ict (cd := .eq) (off := 11) (tgt := 143) (by decide +kernel) (mif_eq hb)) ?_
        refine RK.of (RN.blk (ops := [(143, .iconst 1)]) (pc' := 144) (lv' := [(0, .inr (.inr 15)), (1, .inl w8)]) (st' := [.inl 1]) (h' := h9) (cs := []) (by decide +kernel) rfl trivial) ?_
        refine RK.of (RN.goto (off := 4) (tgt := 148) (by decide +kernel)) ?_
        exact RK.zR (by decide +kernel) rfl (Or.inr rfl) hL hK hF
      · refine RK.of (RN.icf (cd := .eq) (off := 11) (tgt := 143) (by decide +kernel) (mif_eqn hb)) ?_
        refine RK.of (RN.blk (ops := [(135, .aload_n 0), (136, .iload_n 1)]) (pc' := 137) (lv' := [(0, .inr (.inr 15)), (1, .inl w8)]) (st' := [.inl w8, .inr (.inr 15)]) (h' := h9) (cs := []) (by decide +kernel) rfl trivial) ?_
        obtain ⟨x11, h10, hG, hF⟩ := bd_of hF
        have hq := rcv_ok (as := [.inl w8]) (TO.gk (o_15 hL))
        obtain ⟨hN, hL, hQ⟩ := DX6_put (d := d + 7) hL  hG
        refine RK.of (RN.cv (i := 78) (k := 63) (q2 := iX6_put) (as := [.inr (.inr 15), .inl w8]) (r := []) (v := some (.inl x11)) (h1 := h10) (by decide +kernel) rfl rfl rfl rfl rfl hq hN) ?_
        have hK := hK.tr hQ
        rcases it_of hF with ⟨hb, hF⟩ | ⟨hb, hF⟩
        · refine RK.of (RN.ift (cd := .eq) (off := 7) (tgt := 147) (by decide +kernel) (mif_eq hb)) ?_
          refine RK.of (RN.blk (ops := [(147, .iconst 0)]) (pc' := 148) (lv' := [(0, .inr (.inr 15)), (1, .inl w8)]) (st' := [.inl 0]) (h' := h10) (cs := []) (by decide +kernel) rfl trivial) ?_
          exact RK.zR (by decide +kernel) rfl (Or.inl rfl) hL hK hF
        · refine RK.of (RN.iff (cd := .eq) (off := 7) (tgt := 147) (by decide +kernel) (mif_eqn hb)) ?_
          refine RK.of (RN.blk (ops := [(143, .iconst 1)]) (pc' := 144) (lv' := [(0, .inr (.inr 15)), (1, .inl w8)]) (st' := [.inl 1]) (h' := h10) (cs := []) (by decide +kernel) rfl trivial) ?_
          refine RK.of (RN.goto (off := 4) (tgt := 148) (by decide +kernel)) ?_
          exact RK.zR (by decide +kernel) rfl (Or.inr rfl) hL hK hF
noncomputable def GX6_takeComparison (h : MH) : Option (Int × MH) :=
  (bd (GX9_next h) (fun x2 h1 =>
   jn (
    (bd (GX6_countPart (m_rd h1 1 2) h1) (fun x5 h4 =>
     (if x5 = 0 then
      some ((-99), h4)
     else
      (if x2 = 61 then
       some ((-27), (m_wr h4 1 2 (m_w32 ((m_rd h4 1 2) + 1))))
      else
       (bd (GX9_byteAt (m_rd (m_wr h4 1 2 (m_w32 ((m_rd h4 1 2) + 1))) 1 2) (m_wr h4 1 2 (m_w32 ((m_rd h4 1 2) + 1)))) (fun x7 h6 =>
        (if x7 = 61 then
         (if x2 = 60 then
          some ((-26), (m_wr h6 1 2 (m_w32 ((m_rd h6 1 2) + 1))))
         else
          some ((-28), (m_wr h6 1 2 (m_w32 ((m_rd h6 1 2) + 1)))))
        else
         (if x2 = 60 then
          some ((-25), h6)
         else
          some ((-29), h6)))))))))) (fun j3 =>
    (if x2 = 60 then
     j3
    else
     (if x2 = 61 then
      j3
     else
      (if x2 = 62 then
       j3
      else
       (bd (GX9_fail (m_rd h1 1 2) 0 h1) (fun x9 h8 =>
        some ((-99), h8)))))))))
theorem DX6_takeComparison {d : Nat} {h : MH} {r : Int × MH} (hL : LR h) (hF : GX6_takeComparison h = some r) : RN xs L iX6_takeComparison (d + 2) 0 (lvE 0 [.inr (.inr 15)]) [] h (RIo r) ∧ LR r.2 ∧ KD h r.2 := by
  unfold GX6_takeComparison at hF
  have hK : KD h h := KD.rf
  show RK xs L iX6_takeComparison (d + 2) 0 (lvE 0 [.inr (.inr 15)]) [] h (RIo r) h r.2
  refine RK.of (RN.blk (ops := [(0, .aload_n 0)]) (pc' := 1) (lv' := [(0, .inr (.inr 15))]) (st' := [.inr (.inr 15)]) (h' := h) (cs := []) (by decide +kernel) rfl trivial) ?_
  refine RK.of (RN.gr (i := 21) (ci := 6) (k := 0) (fn := true) (v := 1) (by decide +kernel) rfl (TO.gk (o_15 hL)) (hL.fo (v := 1) 0 9 (o_15 hL) rfl (by decide) rfl).1) ?_
  obtain ⟨x2, h1, hG, hF⟩ := bd_of hF
  have hq := rcv_ok (as := []) (TO.gk (o_1 hL))
  obtain ⟨hN, hL, hQ⟩ := DX9_next (d := d + 1) hL  hG
  refine RK.of (RN.cv (i := 40) (k := 93) (q2 := iX9_next) (as := [.inr (.inr 1)]) (r := []) (v := some (.inl x2)) (h1 := h1) (by decide +kernel) rfl rfl rfl rfl rfl hq hN) ?_
  have hK := hK.tr hQ
  refine RK.of (RN.blk (ops := [(7, .istore_n 1), (8, .aload_n 0)]) (pc' := 9) (lv' := [(1, .inl x2), (0, .inr (.inr 15))]) (st' := [.inr (.inr 15)]) (h' := h1) (cs := []) (by decide +kernel) rfl trivial) ?_
  refine RK.of (RN.gr (i := 21) (ci := 6) (k := 0) (fn := true) (v := 1) (by decide +kernel) rfl (TO.gk (o_15 hL)) (hL.fo (v := 1) 0 9 (o_15 hL) rfl (by decide) rfl).1) ?_
  refine RK.of (RN.blk (ops := [(12, .getfield 44), (15, .istore_n 2), (16, .iload_n 1), (17, .bipush 60)]) (pc' := 19) (lv' := [(2, .inl (m_rd h1 1 2)), (1, .inl x2), (0, .inr (.inr 15))]) (st' := [.inl 60, .inl x2]) (h' := h1) (cs := [GK h1 1 9]) (by decide +kernel) rfl ⟨(o_1 hL).gk, trivial⟩) ?_
  refine jn_use (fun j3 => j3 = some r → RK xs L iX6_takeComparison (d + 2) 47 [(0, .inr (.inr 15)), (1, .inl x2), (2, .inl (m_rd h1 1 2))] [] h1 (RIo r) h r.2) ?_ ?_ hF
  · intro  hF
    refine RK.of (RN.blk (ops := [(47, .aload_n 0), (48, .iload_n 2)]) (pc' := 49) (lv' := [(0, .inr (.inr 15)), (1, .inl x2), (2, .inl (m_rd h1 1 2))]) (st' := [.inl (m_rd h1 1 2), .inr (.inr 15)]) (h' := h1) (cs := []) (by decide +kernel) rfl trivial) ?_
    obtain ⟨x5, h4, hG, hF⟩ := bd_of hF
    have hq := rcv_ok (as := [.inl (m_rd h1 1 2)]) (TO.gk (o_15 hL))
    obtain ⟨hN, hL, hQ⟩ := DX6_countPart (d := d) hL  hG
    refine RK.of (RN.cv (i := 91) (k := 62) (q2 := iX6_countPart) (as := [.inr (.inr 15), .inl (m_rd h1 1 2)]) (r := []) (v := some (.inl x5)) (h1 := h4) (by decide +kernel) rfl rfl rfl rfl rfl hq hN) ?_
    have hK := hK.tr hQ
    rcases it_of hF with ⟨hb, hF⟩ | ⟨hb, hF⟩
    · refine RK.of (RN.iff (cd := .ne) (off := 6) (tgt := 58) (by decide +kernel) (mif_nen hb)) ?_
      refine RK.of (RN.blk (ops := [(55, .bipush (-99))]) (pc' := 57) (lv' := [(0, .inr (.inr 15)), (1, .inl x2), (2, .inl (m_rd h1 1 2))]) (st' := [.inl (-99)]) (h' := h4) (cs := []) (by decide +kernel) rfl trivial) ?_
      exact RK.iR (by decide +kernel) rfl hL hK hF
    · refine RK.of (RN.ift (cd := .ne) (off := 6) (tgt := 58) (by decide +kernel) (mif_ne hb)) ?_
      refine RK.of (RN.blk (ops := [(58, .aload_n 0)]) (pc' := 59) (lv' := [(0, .inr (.inr 15)), (1, .inl x2), (2, .inl (m_rd h1 1 2))]) (st' := [.inr (.inr 15)]) (h' := h4) (cs := []) (by decide +kernel) rfl trivial) ?_
      refine RK.of (RN.gr (i := 21) (ci := 6) (k := 0) (fn := true) (v := 1) (by decide +kernel) rfl (TO.gk (o_15 hL)) (hL.fo (v := 1) 0 9 (o_15 hL) rfl (by decide) rfl).1) ?_
      refine RK.of (RN.blk (ops := [(62, .dup), (63, .getfield 44), (66, .iconst 1), (67, .iadd), (68, .putfield 44)]) (pc' := 71) (lv' := [(0, .inr (.inr 15)), (1, .inl x2), (2, .inl (m_rd h1 1 2))]) (st' := []) (h' := (m_wr h4 1 2 (m_w32 ((m_rd h4 1 2) + 1)))) (cs := [GK h4 1 9, GK h4 1 9]) (by decide +kernel) rfl ⟨(o_1 hL).gk, (o_1 hL).gk, trivial⟩) ?_
      have hL : LR (m_wr h4 1 2 (m_w32 ((m_rd h4 1 2) + 1))) := LR.wf (k := 2) hL (o_1 hL) rfl
      have hK := hK.tr (KD.wr : KD h4 (m_wr h4 1 2 (m_w32 ((m_rd h4 1 2) + 1))))
      refine RK.of (RN.blk (ops := [(71, .iload_n 1), (72, .bipush 61)]) (pc' := 74) (lv' := [(0, .inr (.inr 15)), (1, .inl x2), (2, .inl (m_rd h1 1 2))]) (st' := [.inl 61, .inl x2]) (h' := (m_wr h4 1 2 (m_w32 ((m_rd h4 1 2) + 1)))) (cs := []) (by decide +kernel) rfl trivial) ?_
      rcases it_of hF with ⟨hb, hF⟩ | ⟨hb, hF⟩
      · refine RK.of (RN.icf (cd := .ne) (off := 6) (tgt := 80) (by decide +kernel) (mif_nen hb)) ?_
        refine RK.of (RN.blk (ops := [(77, .bipush (-27))]) (pc' := 79) (lv' := [(0, .inr (.inr 15)), (1, .inl x2), (2, .inl (m_rd h1 1 2))]) (st' := [.inl (-27)]) (h' := (m_wr h4 1 2 (m_w32 ((m_rd h4 1 2) + 1)))) (cs := []) (by decide +kernel) rfl trivial) ?_
        exact RK.iR (by decide +kernel) rfl hL hK hF
      · refine RK.of (RN.ict (cd := .ne) (off := 6) (tgt := 80) (by decide +kernel) (mif_ne hb)) ?_
        refine RK.of (RN.blk (ops := [(80, .aload_n 0)]) (pc' := 81) (lv' := [(0, .inr (.inr 15)), (1, .inl x2), (2, .inl (m_rd h1 1 2))]) (st' := [.inr (.inr 15)]) (h' := (m_wr h4 1 2 (m_w32 ((m_rd h4 1 2) + 1)))) (cs := []) (by decide +kernel) rfl trivial) ?_
        refine RK.of (RN.gr (i := 21) (ci := 6) (k := 0) (fn := true) (v := 1) (by decide +kernel) rfl (TO.gk (o_15 hL)) (hL.fo (v := 1) 0 9 (o_15 hL) rfl (by decide) rfl).1) ?_
        refine RK.of (RN.blk (ops := [(84, .aload_n 0)]) (pc' := 85) (lv' := [(0, .inr (.inr 15)), (1, .inl x2), (2, .inl (m_rd h1 1 2))]) (st' := [.inr (.inr 15), .inr (.inr 1)]) (h' := (m_wr h4 1 2 (m_w32 ((m_rd h4 1 2) + 1)))) (cs := []) (by decide +kernel) rfl trivial) ?_
        refine RK.of (RN.gr (i := 21) (ci := 6) (k := 0) (fn := true) (v := 1) (by decide +kernel) rfl (TO.gk (o_15 hL)) (hL.fo (v := 1) 0 9 (o_15 hL) rfl (by decide) rfl).1) ?_
        refine RK.of (RN.blk (ops := [(88, .getfield 44)]) (pc' := 91) (lv' := [(0, .inr (.inr 15)), (1, .inl x2), (2, .inl (m_rd h1 1 2))]) (st' := [.inl (m_rd (m_wr h4 1 2 (m_w32 ((m_rd h4 1 2) + 1))) 1 2), .inr (.inr 1)]) (h' := (m_wr h4 1 2 (m_w32 ((m_rd h4 1 2) + 1)))) (cs := [GK (m_wr h4 1 2 (m_w32 ((m_rd h4 1 2) + 1))) 1 9]) (by decide +kernel) rfl ⟨(o_1 hL).gk, trivial⟩) ?_
        obtain ⟨x7, h6, hG, hF⟩ := bd_of hF
        have hq := rcv_ok (as := [.inl (m_rd (m_wr h4 1 2 (m_w32 ((m_rd h4 1 2) + 1))) 1 2)]) (TO.gk (o_1 hL))
        obtain ⟨hN, hL, hQ⟩ := DX9_byteAt (d := d + 1) hL  hG
        refine RK.of (RN.cv (i := 94) (k := 92) (q2 := iX9_byteAt) (as := [.inr (.inr 1), .inl (m_rd (m_wr h4 1 2 (m_w32 ((m_rd h4 1 2) + 1))) 1 2)]) (r := []) (v := some (.inl x7)) (h1 := h6) (by decide +kernel) rfl rfl rfl rfl rfl hq hN) ?_
        have hK := hK.tr hQ
        refine RK.of (RN.blk (ops := [(94, .bipush 61)]) (pc' := 96) (lv' := [(0, .inr (.inr 15)), (1, .inl x2), (2, .inl (m_rd h1 1 2))]) (st' := [.inl 61, .inl x7]) (h' := h6) (cs := []) (by decide +kernel) rfl trivial) ?_
        rcases it_of hF with ⟨hb, hF⟩ | ⟨hb, hF⟩
        · refine RK.of (RN.icf (cd := .ne) (off := 30) (tgt := 126) (by decide +kernel) (mif_nen hb)) ?_
          refine RK.of (RN.blk (ops := [(99, .aload_n 0)]) (pc' := 100) (lv' := [(0, .inr (.inr 15)), (1, .inl x2), (2, .inl (m_rd h1 1 2))]) (st' := [.inr (.inr 15)]) (h' := h6) (cs := []) (by decide +kernel) rfl trivial) ?_
          refine RK.of (RN.gr (i := 21) (ci := 6) (k := 0) (fn := true) (v := 1) (by decide +kernel) rfl (TO.gk (o_15 hL)) (hL.fo (v := 1) 0 9 (o_15 hL) rfl (by decide) rfl).1) ?_
          refine RK.of (RN.blk (ops := [(103, .dup), (104, .getfield 44), (107, .iconst 1), (108, .iadd), (109, .putfield 44)]) (pc' := 112) (lv' := [(0, .inr (.inr 15)), (1, .inl x2), (2, .inl (m_rd h1 1 2))]) (st' := []) (h' := (m_wr h6 1 2 (m_w32 ((m_rd h6 1 2) + 1)))) (cs := [GK h6 1 9, GK h6 1 9]) (by decide +kernel) rfl ⟨(o_1 hL).gk, (o_1 hL).gk, trivial⟩) ?_
          have hL : LR (m_wr h6 1 2 (m_w32 ((m_rd h6 1 2) + 1))) := LR.wf (k := 2) hL (o_1 hL) rfl
          have hK := hK.tr (KD.wr : KD h6 (m_wr h6 1 2 (m_w32 ((m_rd h6 1 2) + 1))))
          refine RK.of (RN.blk (ops := [(112, .iload_n 1), (113, .bipush 60)]) (pc' := 115) (lv' := [(0, .inr (.inr 15)), (1, .inl x2), (2, .inl (m_rd h1 1 2))]) (st' := [.inl 60, .inl x2]) (h' := (m_wr h6 1 2 (m_w32 ((m_rd h6 1 2) + 1)))) (cs := []) (by decide +kernel) rfl trivial) ?_
          rcases it_of hF with ⟨hb, hF⟩ | ⟨hb, hF⟩
          · refine RK.of (RN.icf (cd := .ne) (off := 8) (tgt := 123) (by decide +kernel) (mif_nen hb)) ?_
            refine RK.of (RN.blk (ops := [(118, .bipush (-26))]) (pc' := 120) (lv' := [(0, .inr (.inr 15)), (1, .inl x2), (2, .inl (m_rd h1 1 2))]) (st' := [.inl (-26)]) (h' := (m_wr h6 1 2 (m_w32 ((m_rd h6 1 2) + 1)))) (cs := []) (by decide +kernel) rfl trivial) ?_
            refine RK.of (RN.goto (off := 5) (tgt := 125) (by decide +kernel)) ?_
            exact RK.iR (by decide +kernel) rfl hL hK hF
          · refine RK.of (RN.ict (cd := .ne) (off := 8) (tgt := 123) (by decide +kernel) (mif_ne hb)) ?_
            refine RK.of (RN.blk (ops := [(123, .bipush (-28))]) (pc' := 125) (lv' := [(0, .inr (.inr 15)), (1, .inl x2), (2, .inl (m_rd h1 1 2))]) (st' := [.inl (-28)]) (h' := (m_wr h6 1 2 (m_w32 ((m_rd h6 1 2) + 1)))) (cs := []) (by decide +kernel) rfl trivial) ?_
            exact RK.iR (by decide +kernel) rfl hL hK hF
        · refine RK.of (RN.ict (cd := .ne) (off := 30) (tgt := 126) (by decide +kernel) (mif_ne hb)) ?_
          refine RK.of (RN.blk (ops := [(126, .iload_n 1), (127, .bipush 60)]) (pc' := 129) (lv' := [(0, .inr (.inr 15)), (1, .inl x2), (2, .inl (m_rd h1 1 2))]) (st' := [.inl 60, .inl x2]) (h' := h6) (cs := []) (by decide +kernel) rfl trivial) ?_
          rcases it_of hF with ⟨hb, hF⟩ | ⟨hb, hF⟩
          · refine RK.of (RN.icf (cd := .ne) (off := 8) (tgt := 137) (by decide +kernel) (mif_nen hb)) ?_
            refine RK.of (RN.blk (ops := [(132, .bipush (-25))]) (pc' := 134) (lv' := [(0, .inr (.inr 15)), (1, .inl x2), (2, .inl (m_rd h1 1 2))]) (st' := [.inl (-25)]) (h' := h6) (cs := []) (by decide +kernel) rfl trivial) ?_
            refine RK.of (RN.goto (off := 5) (tgt := 139) (by decide +kernel)) ?_
            exact RK.iR (by decide +kernel) rfl hL hK hF
          · refine RK.of (RN.ict (cd := .ne) (off := 8) (tgt := 137) (by decide +kernel) (mif_ne hb)) ?_
            refine RK.of (RN.blk (ops := [(137, .bipush (-29))]) (pc' := 139) (lv' := [(0, .inr (.inr 15)), (1, .inl x2), (2, .inl (m_rd h1 1 2))]) (st' := [.inl (-29)]) (h' := h6) (cs := []) (by decide +kernel) rfl trivial) ?_
            exact RK.iR (by decide +kernel) rfl hL hK hF
  · intro j3 Jj3 hF
    rcases it_of hF with ⟨hb, hF⟩ | ⟨hb, hF⟩
    · refine RK.of (RN.ict (cd := .eq) (off := 28) (tgt := 47) (by decide +kernel) (mif_eq hb)) ?_
      exact RK.sub (Jj3 hF) (sub_cons rfl (sub_cons rfl (sub_cons rfl sub_nil)))
    · refine RK.of (RN.icf (cd := .eq) (off := 28) (tgt := 47) (by decide +kernel) (mif_eqn hb)) ?_
      refine RK.of (RN.blk (ops := [(22, .iload_n 1), (23, .bipush 61)]) (pc' := 25) (lv' := [(2, .inl (m_rd h1 1 2)), (1, .inl x2), (0, .inr (.inr 15))]) (st' := [.inl 61, .inl x2]) (h' := h1) (cs := []) (by decide +kernel) rfl trivial) ?_
      rcases it_of hF with ⟨hb, hF⟩ | ⟨hb, hF⟩
      · refine RK.of (RN.ict (cd := .eq) (off := 22) (tgt := 47) (by decide +kernel) (mif_eq hb)) ?_
        exact RK.sub (Jj3 hF) (sub_cons rfl (sub_cons rfl (sub_cons rfl sub_nil)))
      · refine RK.of (RN.icf (cd := .eq) (off := 22) (tgt := 47) (by decide +kernel) (mif_eqn hb)) ?_
        refine RK.of (RN.blk (ops := [(28, .iload_n 1), (29, .bipush 62)]) (pc' := 31) (lv' := [(2, .inl (m_rd h1 1 2)), (1, .inl x2), (0, .inr (.inr 15))]) (st' := [.inl 62, .inl x2]) (h' := h1) (cs := []) (by decide +kernel) rfl trivial) ?_
        rcases it_of hF with ⟨hb, hF⟩ | ⟨hb, hF⟩
        · refine RK.of (RN.ict (cd := .eq) (off := 16) (tgt := 47) (by decide +kernel) (mif_eq hb)) ?_
          exact RK.sub (Jj3 hF) (sub_cons rfl (sub_cons rfl (sub_cons rfl sub_nil)))
        · refine RK.of (RN.icf (cd := .eq) (off := 16) (tgt := 47) (by decide +kernel) (mif_eqn hb)) ?_
          refine RK.of (RN.blk (ops := [(34, .aload_n 0)]) (pc' := 35) (lv' := [(2, .inl (m_rd h1 1 2)), (1, .inl x2), (0, .inr (.inr 15))]) (st' := [.inr (.inr 15)]) (h' := h1) (cs := []) (by decide +kernel) rfl trivial) ?_
          refine RK.of (RN.gr (i := 21) (ci := 6) (k := 0) (fn := true) (v := 1) (by decide +kernel) rfl (TO.gk (o_15 hL)) (hL.fo (v := 1) 0 9 (o_15 hL) rfl (by decide) rfl).1) ?_
          refine RK.of (RN.blk (ops := [(38, .iload_n 2), (39, .iconst 0)]) (pc' := 40) (lv' := [(2, .inl (m_rd h1 1 2)), (1, .inl x2), (0, .inr (.inr 15))]) (st' := [.inl 0, .inl (m_rd h1 1 2), .inr (.inr 1)]) (h' := h1) (cs := []) (by decide +kernel) rfl trivial) ?_
          obtain ⟨x9, h8, hG, hF⟩ := bd_of hF
          have hq := rcv_ok (as := [.inl (m_rd h1 1 2), .inl 0]) (TO.gk (o_1 hL))
          obtain ⟨hN, hL, hQ⟩ := DX9_fail (d := d + 1) hL  hG
          refine RK.of (RN.cv (i := 53) (k := 91) (q2 := iX9_fail) (as := [.inr (.inr 1), .inl (m_rd h1 1 2), .inl 0]) (r := []) (v := some (.inl x9)) (h1 := h8) (by decide +kernel) rfl rfl rfl rfl rfl hq hN) ?_
          have hK := hK.tr hQ
          refine RK.of (RN.blk (ops := [(43, .pop), (44, .bipush (-99))]) (pc' := 46) (lv' := [(2, .inl (m_rd h1 1 2)), (1, .inl x2), (0, .inr (.inr 15))]) (st' := [.inl (-99)]) (h' := h8) (cs := []) (by decide +kernel) rfl trivial) ?_
          exact RK.iR (by decide +kernel) rfl hL hK hF
noncomputable def GX6_takeTest_L17 (RT : Int → MH → Option (Int × MH)) (RF : Int → MH → Option (Int × MH)) (u1 : Int) (K0 : MH → Option (Int × MH)) (K1 : MH → Option (Int × MH)) (K2 : Int → MH → Option (Int × MH)) : Nat → Int → Int → Int → MH → Option (Int × MH)
  | 0, _, _, _, _ => none
  | f + 1, v2, v3, v4, h =>
    (if v4 < 400 then
     (if v3 = 0 then
      K2 v2 h
     else
      (bd (GX9_takeWord (-27) h) (fun x2 h1 =>
       (if x2 = 0 then
        (bd (GX9_takeWord (-28) h1) (fun x4 h3 =>
         (if x4 = 0 then
          GX6_takeTest_L17 RT RF u1 K0 K1 K2 f v2 0 (m_w32 (v4 + 1)) h3
         else
          jn (fun (h6 : MH) =>
           (bd (RF u1 h6) (fun x8 h7 =>
            (if x8 = 0 then
             K1 h7
            else
             GX6_takeTest_L17 RT RF u1 K0 K1 K2 f 1 v3 (m_w32 (v4 + 1)) h7)))) (fun j5 =>
           (if v2 = 0 then
            j5 h3
           else
            (bd (GX6_put (-31) h3) (fun x10 h9 =>
             j5 h9)))))))
       else
        (bd (RF u1 h1) (fun x12 h11 =>
         (if x12 = 0 then
          K0 h11
         else
          (bd (GX6_put (-30) h11) (fun x14 h13 =>
           GX6_takeTest_L17 RT RF u1 K0 K1 K2 f v2 v3 (m_w32 (v4 + 1)) h13)))))))))
    else
     K2 v2 h)
theorem DX6_takeTest_L17 {d : Nat} {RT : Int → MH → Option (Int × MH)} {RF : Int → MH → Option (Int × MH)} {u1 : Int} {K0 : MH → Option (Int × MH)} {K1 : MH → Option (Int × MH)} {K2 : Int → MH → Option (Int × MH)} {r : Int × MH} {h0 hB : MH} (hB0 : KD h0 hB) (hR_RT : ∀ (a1 : Int) (h : MH) (r : Int × MH), LR h → RT a1 h = some r → RN xs L iX6_takeTest (d + 8) 0 (lvE 0 [.inr (.inr 15), .inl a1]) [] h (RIo r) ∧ LR r.2 ∧ KD h r.2) (hR_RF : ∀ (a1 : Int) (h : MH) (r : Int × MH), LR h → RF a1 h = some r → RN xs L iX6_takeFact (d + 8) 0 (lvE 0 [.inr (.inr 15), .inl a1]) [] h (RIo r) ∧ LR r.2 ∧ KD h r.2) (hK0 : ∀ (h : MH), LR h → KD hB h → K0 h = some r → RK xs L iX6_takeTest (d + 9) 49 [] [] h (RIo r) h0 r.2) (hK1 : ∀ (h : MH), LR h → KD hB h → K1 h = some r → RK xs L iX6_takeTest (d + 9) 94 [] [] h (RIo r) h0 r.2) (hK2 : ∀ (w2 : Int) (h : MH), LR h → KD hB h → K2 w2 h = some r → RK xs L iX6_takeTest (d + 9) 104 [(0, .inr (.inr 15)), (2, .inl w2)] [] h (RIo r) h0 r.2) : ∀ (f : Nat) (v2 : Int) (v3 : Int) (v4 : Int) (h : MH), LR h → KD hB h → GX6_takeTest_L17 RT RF u1 K0 K1 K2 f v2 v3 v4 h = some r → RK xs L iX6_takeTest (d + 9) 17 [(0, .inr (.inr 15)), (1, .inl u1), (2, .inl v2), (3, .inl v3), (4, .inl v4)] [] h (RIo r) h0 r.2 := by
  intro f
  induction f with
  | zero =>
    intro v2 v3 v4 h hL hJ hF
    cases hF
  | succ f ih =>
    intro v2 v3 v4 h hL hJ hF
    unfold GX6_takeTest_L17 at hF
    have hK := hB0.tr hJ
    refine RK.of (RN.blk (ops := [(17, .iload 4), (19, .sipush 400)]) (pc' := 22) (lv' := [(0, .inr (.inr 15)), (1, .inl u1), (2, .inl v2), (3, .inl v3), (4, .inl v4)]) (st' := [.inl 400, .inl v4]) (h' := h) (cs := []) (by decide +kernel) rfl trivial) ?_
    rcases it_of hF with ⟨hb, hF⟩ | ⟨hb, hF⟩
    · refine RK.of (RN.icf (cd := .ge) (off := 82) (tgt := 104) (by decide +kernel) (mif_gen hb)) ?_
      refine RK.of (RN.blk (ops := [(25, .iload_n 3)]) (pc' := 26) (lv' := [(0, .inr (.inr 15)), (1, .inl u1), (2, .inl v2), (3, .inl v3), (4, .inl v4)]) (st' := [.inl v3]) (h' := h) (cs := []) (by decide +kernel) rfl trivial) ?_
      rcases it_of hF with ⟨hb, hF⟩ | ⟨hb, hF⟩
      · refine RK.of (RN.ift (cd := .eq) (off := 78) (tgt := 104) (by decide +kernel) (mif_eq hb)) ?_
        exact RK.sub (hK2 _ _ hL hJ hF) (sub_cons rfl (sub_cons rfl sub_nil))
      · refine RK.of (RN.iff (cd := .eq) (off := 78) (tgt := 104) (by decide +kernel) (mif_eqn hb)) ?_
        refine RK.of (RN.blk (ops := [(29, .aload_n 0)]) (pc' := 30) (lv' := [(0, .inr (.inr 15)), (1, .inl u1), (2, .inl v2), (3, .inl v3), (4, .inl v4)]) (st' := [.inr (.inr 15)]) (h' := h) (cs := []) (by decide +kernel) rfl trivial) ?_
        refine RK.of (RN.gr (i := 21) (ci := 6) (k := 0) (fn := true) (v := 1) (by decide +kernel) rfl (TO.gk (o_15 hL)) (hL.fo (v := 1) 0 9 (o_15 hL) rfl (by decide) rfl).1) ?_
        refine RK.of (RN.blk (ops := [(33, .ldc 76)]) (pc' := 35) (lv' := [(0, .inr (.inr 15)), (1, .inl u1), (2, .inl v2), (3, .inl v3), (4, .inl v4)]) (st' := [.inr (.inr (-27)), .inr (.inr 1)]) (h' := h) (cs := []) (by decide +kernel) rfl trivial) ?_
        obtain ⟨x2, h1, hG, hF⟩ := bd_of hF
        have hq := rcv_ok (as := [.inr (.inr (-27))]) (TO.gk (o_1 hL))
        obtain ⟨hN, hL, hQ⟩ := DX9_takeWord (d := d + 2) hL  hG
        refine RK.of (RN.cv (i := 49) (k := 95) (q2 := iX9_takeWord) (as := [.inr (.inr 1), .inr (.inr (-27))]) (r := []) (v := some (.inl x2)) (h1 := h1) (by decide +kernel) rfl rfl rfl rfl rfl hq hN) ?_
        have hK := hK.tr hQ
        have hJ := hJ.tr hQ
        rcases it_of hF with ⟨hb, hF⟩ | ⟨hb, hF⟩
        · refine RK.of (RN.ift (cd := .eq) (off := 23) (tgt := 61) (by decide +kernel) (mif_eq hb)) ?_
          refine RK.of (RN.blk (ops := [(61, .aload_n 0)]) (pc' := 62) (lv' := [(0, .inr (.inr 15)), (1, .inl u1), (2, .inl v2), (3, .inl v3), (4, .inl v4)]) (st' := [.inr (.inr 15)]) (h' := h1) (cs := []) (by decide +kernel) rfl trivial) ?_
          refine RK.of (RN.gr (i := 21) (ci := 6) (k := 0) (fn := true) (v := 1) (by decide +kernel) rfl (TO.gk (o_15 hL)) (hL.fo (v := 1) 0 9 (o_15 hL) rfl (by decide) rfl).1) ?_
          refine RK.of (RN.blk (ops := [(65, .ldc 81)]) (pc' := 67) (lv' := [(0, .inr (.inr 15)), (1, .inl u1), (2, .inl v2), (3, .inl v3), (4, .inl v4)]) (st' := [.inr (.inr (-28)), .inr (.inr 1)]) (h' := h1) (cs := []) (by decide +kernel) rfl trivial) ?_
          obtain ⟨x4, h3, hG, hF⟩ := bd_of hF
          have hq := rcv_ok (as := [.inr (.inr (-28))]) (TO.gk (o_1 hL))
          obtain ⟨hN, hL, hQ⟩ := DX9_takeWord (d := d + 2) hL  hG
          refine RK.of (RN.cv (i := 49) (k := 95) (q2 := iX9_takeWord) (as := [.inr (.inr 1), .inr (.inr (-28))]) (r := []) (v := some (.inl x4)) (h1 := h3) (by decide +kernel) rfl rfl rfl rfl rfl hq hN) ?_
          have hK := hK.tr hQ
          have hJ := hJ.tr hQ
          rcases it_of hF with ⟨hb, hF⟩ | ⟨hb, hF⟩
          · refine RK.of (RN.ift (cd := .eq) (off := 26) (tgt := 96) (by decide +kernel) (mif_eq hb)) ?_
            refine RK.of (RN.blk (ops := [(96, .iconst 0), (97, .istore_n 3)]) (pc' := 98) (lv' := [(3, .inl 0), (0, .inr (.inr 15)), (1, .inl u1), (2, .inl v2), (4, .inl v4)]) (st' := []) (h' := h3) (cs := []) (by decide +kernel) rfl trivial) ?_
            refine RK.of (RN.blk (ops := [(98, .iinc 4 1)]) (pc' := 101) (lv' := [(4, .inl (m_w32 (v4 + 1))), (3, .inl 0), (0, .inr (.inr 15)), (1, .inl u1), (2, .inl v2)]) (st' := []) (h' := h3) (cs := []) (by decide +kernel) rfl trivial) ?_
            refine RK.of (RN.goto (off := -84) (tgt := 17) (by decide +kernel)) ?_
            exact RK.sub (ih _ _ _ _ hL hJ hF) (sub_cons rfl (sub_cons rfl (sub_cons rfl (sub_cons rfl (sub_cons rfl sub_nil)))))
          · refine RK.of (RN.iff (cd := .eq) (off := 26) (tgt := 96) (by decide +kernel) (mif_eqn hb)) ?_
            refine RK.of (RN.blk (ops := [(73, .iload_n 2)]) (pc' := 74) (lv' := [(0, .inr (.inr 15)), (1, .inl u1), (2, .inl v2), (3, .inl v3), (4, .inl v4)]) (st' := [.inl v2]) (h' := h3) (cs := []) (by decide +kernel) rfl trivial) ?_
            refine jn_use (fun j5 => ∀ (h6 : MH), LR h6 → KD hB h6 → j5 h6 = some r → RK xs L iX6_takeTest (d + 9) 84 [(0, .inr (.inr 15)), (1, .inl u1), (3, .inl v3), (4, .inl v4)] [] h6 (RIo r) h0 r.2) ?_ ?_ hF
            · intro h6 hL hJ hF
              have hK := hB0.tr hJ
              refine RK.of (RN.blk (ops := [(84, .iconst 1), (85, .istore_n 2), (86, .aload_n 0), (87, .iload_n 1)]) (pc' := 88) (lv' := [(2, .inl 1), (0, .inr (.inr 15)), (1, .inl u1), (3, .inl v3), (4, .inl v4)]) (st' := [.inl u1, .inr (.inr 15)]) (h' := h6) (cs := []) (by decide +kernel) rfl trivial) ?_
              obtain ⟨x8, h7, hG, hF⟩ := bd_of hF
              have hq := rcv_ok (as := [.inl u1]) (TO.gk (o_15 hL))
              obtain ⟨hN, hL, hQ⟩ := hR_RF _ _ _ hL hG
              refine RK.of (RN.cv (i := 73) (k := 58) (q2 := iX6_takeFact) (as := [.inr (.inr 15), .inl u1]) (r := []) (v := some (.inl x8)) (h1 := h7) (by decide +kernel) rfl rfl rfl rfl rfl hq hN) ?_
              have hK := hK.tr hQ
              have hJ := hJ.tr hQ
              rcases it_of hF with ⟨hb, hF⟩ | ⟨hb, hF⟩
              · refine RK.of (RN.iff (cd := .ne) (off := 7) (tgt := 98) (by decide +kernel) (mif_nen hb)) ?_
                exact RK.sub (hK1 _ hL hJ hF) sub_nil
              · refine RK.of (RN.ift (cd := .ne) (off := 7) (tgt := 98) (by decide +kernel) (mif_ne hb)) ?_
                refine RK.of (RN.blk (ops := [(98, .iinc 4 1)]) (pc' := 101) (lv' := [(4, .inl (m_w32 (v4 + 1))), (2, .inl 1), (0, .inr (.inr 15)), (1, .inl u1), (3, .inl v3)]) (st' := []) (h' := h7) (cs := []) (by decide +kernel) rfl trivial) ?_
                refine RK.of (RN.goto (off := -84) (tgt := 17) (by decide +kernel)) ?_
                exact RK.sub (ih _ _ _ _ hL hJ hF) (sub_cons rfl (sub_cons rfl (sub_cons rfl (sub_cons rfl (sub_cons rfl sub_nil)))))
            · intro j5 Jj5 hF
              rcases it_of hF with ⟨hb, hF⟩ | ⟨hb, hF⟩
              · refine RK.of (RN.ift (cd := .eq) (off := 10) (tgt := 84) (by decide +kernel) (mif_eq hb)) ?_
                exact RK.sub (Jj5 _ hL hJ hF) (sub_cons rfl (sub_cons rfl (sub_cons rfl (sub_cons rfl sub_nil))))
              · refine RK.of (RN.iff (cd := .eq) (off := 10) (tgt := 84) (by decide +kernel) (mif_eqn hb)) ?_
                refine RK.of (RN.blk (ops := [(77, .aload_n 0), (78, .bipush (-31))]) (pc' := 80) (lv' := [(0, .inr (.inr 15)), (1, .inl u1), (2, .inl v2), (3, .inl v3), (4, .inl v4)]) (st' := [.inl (-31), .inr (.inr 15)]) (h' := h3) (cs := []) (by decide +kernel) rfl trivial) ?_
                obtain ⟨x10, h9, hG, hF⟩ := bd_of hF
                have hq := rcv_ok (as := [.inl (-31)]) (TO.gk (o_15 hL))
                obtain ⟨hN, hL, hQ⟩ := DX6_put (d := d + 8) hL  hG
                refine RK.of (RN.cv (i := 78) (k := 63) (q2 := iX6_put) (as := [.inr (.inr 15), .inl (-31)]) (r := []) (v := some (.inl x10)) (h1 := h9) (by decide +kernel) rfl rfl rfl rfl rfl hq hN) ?_
                have hK := hK.tr hQ
                have hJ := hJ.tr hQ
                refine RK.of (RN.blk (ops := [(83, .pop)]) (pc' := 84) (lv' := [(0, .inr (.inr 15)), (1, .inl u1), (2, .inl v2), (3, .inl v3), (4, .inl v4)]) (st' := []) (h' := h9) (cs := []) (by decide +kernel) rfl trivial) ?_
                exact RK.sub (Jj5 _ hL hJ hF) (sub_cons rfl (sub_cons rfl (sub_cons rfl (sub_cons rfl sub_nil))))
        · refine RK.of (RN.iff (cd := .eq) (off := 23) (tgt := 61) (by decide +kernel) (mif_eqn hb)) ?_
          refine RK.of (RN.blk (ops := [(41, .aload_n 0), (42, .iload_n 1)]) (pc' := 43) (lv' := [(0, .inr (.inr 15)), (1, .inl u1), (2, .inl v2), (3, .inl v3), (4, .inl v4)]) (st' := [.inl u1, .inr (.inr 15)]) (h' := h1) (cs := []) (by decide +kernel) rfl trivial) ?_
          obtain ⟨x12, h11, hG, hF⟩ := bd_of hF
          have hq := rcv_ok (as := [.inl u1]) (TO.gk (o_15 hL))
          obtain ⟨hN, hL, hQ⟩ := hR_RF _ _ _ hL hG
          refine RK.of (RN.cv (i := 73) (k := 58) (q2 := iX6_takeFact) (as := [.inr (.inr 15), .inl u1]) (r := []) (v := some (.inl x12)) (h1 := h11) (by decide +kernel) rfl rfl rfl rfl rfl hq hN) ?_
          have hK := hK.tr hQ
          have hJ := hJ.tr hQ
          rcases it_of hF with ⟨hb, hF⟩ | ⟨hb, hF⟩
          · refine RK.of (RN.iff (cd := .ne) (off := 5) (tgt := 51) (by decide +kernel) (mif_nen hb)) ?_
            exact RK.sub (hK0 _ hL hJ hF) sub_nil
          · refine RK.of (RN.ift (cd := .ne) (off := 5) (tgt := 51) (by decide +kernel) (mif_ne hb)) ?_
            refine RK.of (RN.blk (ops := [(51, .aload_n 0), (52, .bipush (-30))]) (pc' := 54) (lv' := [(0, .inr (.inr 15)), (1, .inl u1), (2, .inl v2), (3, .inl v3), (4, .inl v4)]) (st' := [.inl (-30), .inr (.inr 15)]) (h' := h11) (cs := []) (by decide +kernel) rfl trivial) ?_
            obtain ⟨x14, h13, hG, hF⟩ := bd_of hF
            have hq := rcv_ok (as := [.inl (-30)]) (TO.gk (o_15 hL))
            obtain ⟨hN, hL, hQ⟩ := DX6_put (d := d + 8) hL  hG
            refine RK.of (RN.cv (i := 78) (k := 63) (q2 := iX6_put) (as := [.inr (.inr 15), .inl (-30)]) (r := []) (v := some (.inl x14)) (h1 := h13) (by decide +kernel) rfl rfl rfl rfl rfl hq hN) ?_
            have hK := hK.tr hQ
            have hJ := hJ.tr hQ
            refine RK.of (RN.blk (ops := [(57, .pop)]) (pc' := 58) (lv' := [(0, .inr (.inr 15)), (1, .inl u1), (2, .inl v2), (3, .inl v3), (4, .inl v4)]) (st' := []) (h' := h13) (cs := []) (by decide +kernel) rfl trivial) ?_
            refine RK.of (RN.goto (off := 40) (tgt := 98) (by decide +kernel)) ?_
            refine RK.of (RN.blk (ops := [(98, .iinc 4 1)]) (pc' := 101) (lv' := [(4, .inl (m_w32 (v4 + 1))), (0, .inr (.inr 15)), (1, .inl u1), (2, .inl v2), (3, .inl v3)]) (st' := []) (h' := h13) (cs := []) (by decide +kernel) rfl trivial) ?_
            refine RK.of (RN.goto (off := -84) (tgt := 17) (by decide +kernel)) ?_
            exact RK.sub (ih _ _ _ _ hL hJ hF) (sub_cons rfl (sub_cons rfl (sub_cons rfl (sub_cons rfl (sub_cons rfl sub_nil)))))
    · refine RK.of (RN.ict (cd := .ge) (off := 82) (tgt := 104) (by decide +kernel) (mif_ge hb)) ?_
      exact RK.sub (hK2 _ _ hL hJ hF) (sub_cons rfl (sub_cons rfl sub_nil))
noncomputable def GX6_takeTest_b (RT : Int → MH → Option (Int × MH)) (RF : Int → MH → Option (Int × MH)) (a1 : Int) (h : MH) : Option (Int × MH) :=
  (bd (RF a1 h) (fun x2 h1 =>
   (if x2 = 0 then
    some (0, h1)
   else
    GX6_takeTest_L17 RT RF a1 (fun h3 =>
     some (0, h3)) (fun h4 =>
     some (0, h4)) (fun w5 h6 =>
     (if w5 = 0 then
      some (1, h6)
     else
      (bd (GX6_put (-31) h6) (fun x8 h7 =>
       some (1, h7))))) FU 0 1 0 h1)))
theorem DX6_takeTest_b {d : Nat} {RT : Int → MH → Option (Int × MH)} {RF : Int → MH → Option (Int × MH)} {a1 : Int} {h : MH} {r : Int × MH} (hR_RT : ∀ (a1 : Int) (h : MH) (r : Int × MH), LR h → RT a1 h = some r → RN xs L iX6_takeTest (d + 8) 0 (lvE 0 [.inr (.inr 15), .inl a1]) [] h (RIo r) ∧ LR r.2 ∧ KD h r.2) (hR_RF : ∀ (a1 : Int) (h : MH) (r : Int × MH), LR h → RF a1 h = some r → RN xs L iX6_takeFact (d + 8) 0 (lvE 0 [.inr (.inr 15), .inl a1]) [] h (RIo r) ∧ LR r.2 ∧ KD h r.2) (hL : LR h) (hF : GX6_takeTest_b RT RF a1 h = some r) : RN xs L iX6_takeTest (d + 9) 0 (lvE 0 [.inr (.inr 15), .inl a1]) [] h (RIo r) ∧ LR r.2 ∧ KD h r.2 := by
  unfold GX6_takeTest_b at hF
  have hK : KD h h := KD.rf
  show RK xs L iX6_takeTest (d + 9) 0 (lvE 0 [.inr (.inr 15), .inl a1]) [] h (RIo r) h r.2
  refine RK.of (RN.blk (ops := [(0, .aload_n 0), (1, .iload_n 1)]) (pc' := 2) (lv' := [(0, .inr (.inr 15)), (1, .inl a1)]) (st' := [.inl a1, .inr (.inr 15)]) (h' := h) (cs := []) (by decide +kernel) rfl trivial) ?_
  obtain ⟨x2, h1, hG, hF⟩ := bd_of hF
  have hq := rcv_ok (as := [.inl a1]) (TO.gk (o_15 hL))
  obtain ⟨hN, hL, hQ⟩ := hR_RF _ _ _ hL hG
  refine RK.of (RN.cv (i := 73) (k := 58) (q2 := iX6_takeFact) (as := [.inr (.inr 15), .inl a1]) (r := []) (v := some (.inl x2)) (h1 := h1) (by decide +kernel) rfl rfl rfl rfl rfl hq hN) ?_
  have hK := hK.tr hQ
  rcases it_of hF with ⟨hb, hF⟩ | ⟨hb, hF⟩
  · refine RK.of (RN.iff (cd := .ne) (off := 5) (tgt := 10) (by decide +kernel) (mif_nen hb)) ?_
    refine RK.of (RN.blk (ops := [(8, .iconst 0)]) (pc' := 9) (lv' := [(0, .inr (.inr 15)), (1, .inl a1)]) (st' := [.inl 0]) (h' := h1) (cs := []) (by decide +kernel) rfl trivial) ?_
    exact RK.zR (by decide +kernel) rfl (Or.inl rfl) hL hK hF
  · refine RK.of (RN.ift (cd := .ne) (off := 5) (tgt := 10) (by decide +kernel) (mif_ne hb)) ?_
    refine RK.of (RN.blk (ops := [(10, .iconst 0), (11, .istore_n 2), (12, .iconst 1), (13, .istore_n 3), (14, .iconst 0), (15, .istore 4)]) (pc' := 17) (lv' := [(4, .inl 0), (3, .inl 1), (2, .inl 0), (0, .inr (.inr 15)), (1, .inl a1)]) (st' := []) (h' := h1) (cs := []) (by decide +kernel) rfl trivial) ?_
    refine RK.sub (DX6_takeTest_L17 hK hR_RT hR_RF ?_ ?_ ?_ _ _ _ _ _ hL KD.rf hF) (sub_cons rfl (sub_cons rfl (sub_cons rfl (sub_cons rfl (sub_cons rfl sub_nil)))))
    · intro h3 hL hq hF
      have hK := hK.tr hq
      refine RK.of (RN.blk (ops := [(49, .iconst 0)]) (pc' := 50) (lv' := []) (st' := [.inl 0]) (h' := h3) (cs := []) (by decide +kernel) rfl trivial) ?_
      exact RK.zR (by decide +kernel) rfl (Or.inl rfl) hL hK hF
    · intro h4 hL hq hF
      have hK := hK.tr hq
      refine RK.of (RN.blk (ops := [(94, .iconst 0)]) (pc' := 95) (lv' := []) (st' := [.inl 0]) (h' := h4) (cs := []) (by decide +kernel) rfl trivial) ?_
      exact RK.zR (by decide +kernel) rfl (Or.inl rfl) hL hK hF
    · intro w5 h6 hL hq hF
      have hK := hK.tr hq
      refine RK.of (RN.blk (ops := [(104, .iload_n 2)]) (pc' := 105) (lv' := [(0, .inr (.inr 15)), (2, .inl w5)]) (st' := [.inl w5]) (h' := h6) (cs := []) (by decide +kernel) rfl trivial) ?_
      rcases it_of hF with ⟨hb, hF⟩ | ⟨hb, hF⟩
      · refine RK.of (RN.ift (cd := .eq) (off := 10) (tgt := 115) (by decide +kernel) (mif_eq hb)) ?_
        refine RK.of (RN.blk (ops := [(115, .iconst 1)]) (pc' := 116) (lv' := [(0, .inr (.inr 15)), (2, .inl w5)]) (st' := [.inl 1]) (h' := h6) (cs := []) (by decide +kernel) rfl trivial) ?_
        exact RK.zR (by decide +kernel) rfl (Or.inr rfl) hL hK hF
      · refine RK.of (RN.iff (cd := .eq) (off := 10) (tgt := 115) (by decide +kernel) (mif_eqn hb)) ?_
        refine RK.of (RN.blk (ops := [(108, .aload_n 0), (109, .bipush (-31))]) (pc' := 111) (lv' := [(0, .inr (.inr 15)), (2, .inl w5)]) (st' := [.inl (-31), .inr (.inr 15)]) (h' := h6) (cs := []) (by decide +kernel) rfl trivial) ?_
        obtain ⟨x8, h7, hG, hF⟩ := bd_of hF
        have hq := rcv_ok (as := [.inl (-31)]) (TO.gk (o_15 hL))
        obtain ⟨hN, hL, hQ⟩ := DX6_put (d := d + 8) hL  hG
        refine RK.of (RN.cv (i := 78) (k := 63) (q2 := iX6_put) (as := [.inr (.inr 15), .inl (-31)]) (r := []) (v := some (.inl x8)) (h1 := h7) (by decide +kernel) rfl rfl rfl rfl rfl hq hN) ?_
        have hK := hK.tr hQ
        refine RK.of (RN.blk (ops := [(114, .pop)]) (pc' := 115) (lv' := [(0, .inr (.inr 15)), (2, .inl w5)]) (st' := []) (h' := h7) (cs := []) (by decide +kernel) rfl trivial) ?_
        refine RK.of (RN.blk (ops := [(115, .iconst 1)]) (pc' := 116) (lv' := [(0, .inr (.inr 15)), (2, .inl w5)]) (st' := [.inl 1]) (h' := h7) (cs := []) (by decide +kernel) rfl trivial) ?_
        exact RK.zR (by decide +kernel) rfl (Or.inr rfl) hL hK hF
noncomputable def GX6_takeFact_b (RT : Int → MH → Option (Int × MH)) (RF : Int → MH → Option (Int × MH)) (a1 : Int) (h : MH) : Option (Int × MH) :=
  (bd (GX9_next h) (fun x2 h1 =>
   (bd (GX9_takeWord (-26) h1) (fun x4 h3 =>
    jn (
     (if a1 < 10 then
      (if x4 = 0 then
       (bd (GX9_takeByte 91 h3) (fun x7 h6 =>
        (if x7 = 0 then
         some (0, h6)
        else
         (bd (RT (m_w32 (a1 + 1)) h6) (fun x9 h8 =>
          (if x9 = 0 then
           some (0, h8)
          else
           (bd (GX9_takeByte 93 h8) (fun x11 h10 =>
            (if x11 = 0 then
             some (0, h10)
            else
             some (1, h10))))))))))
      else
       (bd (RF (m_w32 (a1 + 1)) h3) (fun x13 h12 =>
        (if x13 = 0 then
         some (0, h12)
        else
         (bd (GX6_put (-32) h12) (fun x15 h14 =>
          (if x15 = 0 then
           some (0, h14)
          else
           some (1, h14))))))))
     else
      (bd (GX9_fail (m_rd h1 1 2) 2 h3) (fun x17 h16 =>
       gd [GT x17] (some (x17, h16)))))) (fun j5 =>
     (if x4 = 0 then
      (if x2 = 91 then
       j5
      else
       (bd (GX6_takeSum h3) (fun x19 h18 =>
        (if x19 = 0 then
         some (0, h18)
        else
         (bd (GX6_takeComparison h18) (fun x21 h20 =>
          (if x21 = (-99) then
           some (0, h20)
          else
           (bd (GX6_takeSum h20) (fun x23 h22 =>
            (if x23 = 0 then
             some (0, h22)
            else
             (bd (GX6_put x21 h22) (fun x25 h24 =>
              (if x25 = 0 then
               some (0, h24)
              else
               some (1, h24))))))))))))))
     else
      j5))))))
theorem DX6_takeFact_b {d : Nat} {RT : Int → MH → Option (Int × MH)} {RF : Int → MH → Option (Int × MH)} {a1 : Int} {h : MH} {r : Int × MH} (hR_RT : ∀ (a1 : Int) (h : MH) (r : Int × MH), LR h → RT a1 h = some r → RN xs L iX6_takeTest (d + 8) 0 (lvE 0 [.inr (.inr 15), .inl a1]) [] h (RIo r) ∧ LR r.2 ∧ KD h r.2) (hR_RF : ∀ (a1 : Int) (h : MH) (r : Int × MH), LR h → RF a1 h = some r → RN xs L iX6_takeFact (d + 8) 0 (lvE 0 [.inr (.inr 15), .inl a1]) [] h (RIo r) ∧ LR r.2 ∧ KD h r.2) (hL : LR h) (hF : GX6_takeFact_b RT RF a1 h = some r) : RN xs L iX6_takeFact (d + 9) 0 (lvE 0 [.inr (.inr 15), .inl a1]) [] h (RIo r) ∧ LR r.2 ∧ KD h r.2 := by
  unfold GX6_takeFact_b at hF
  have hK : KD h h := KD.rf
  show RK xs L iX6_takeFact (d + 9) 0 (lvE 0 [.inr (.inr 15), .inl a1]) [] h (RIo r) h r.2
  refine RK.of (RN.blk (ops := [(0, .aload_n 0)]) (pc' := 1) (lv' := [(0, .inr (.inr 15)), (1, .inl a1)]) (st' := [.inr (.inr 15)]) (h' := h) (cs := []) (by decide +kernel) rfl trivial) ?_
  refine RK.of (RN.gr (i := 21) (ci := 6) (k := 0) (fn := true) (v := 1) (by decide +kernel) rfl (TO.gk (o_15 hL)) (hL.fo (v := 1) 0 9 (o_15 hL) rfl (by decide) rfl).1) ?_
  obtain ⟨x2, h1, hG, hF⟩ := bd_of hF
  have hq := rcv_ok (as := []) (TO.gk (o_1 hL))
  obtain ⟨hN, hL, hQ⟩ := DX9_next (d := d + 8) hL  hG
  refine RK.of (RN.cv (i := 40) (k := 93) (q2 := iX9_next) (as := [.inr (.inr 1)]) (r := []) (v := some (.inl x2)) (h1 := h1) (by decide +kernel) rfl rfl rfl rfl rfl hq hN) ?_
  have hK := hK.tr hQ
  refine RK.of (RN.blk (ops := [(7, .istore_n 2), (8, .aload_n 0)]) (pc' := 9) (lv' := [(2, .inl x2), (0, .inr (.inr 15)), (1, .inl a1)]) (st' := [.inr (.inr 15)]) (h' := h1) (cs := []) (by decide +kernel) rfl trivial) ?_
  refine RK.of (RN.gr (i := 21) (ci := 6) (k := 0) (fn := true) (v := 1) (by decide +kernel) rfl (TO.gk (o_15 hL)) (hL.fo (v := 1) 0 9 (o_15 hL) rfl (by decide) rfl).1) ?_
  refine RK.of (RN.blk (ops := [(12, .getfield 44), (15, .istore_n 3), (16, .aload_n 0)]) (pc' := 17) (lv' := [(3, .inl (m_rd h1 1 2)), (2, .inl x2), (0, .inr (.inr 15)), (1, .inl a1)]) (st' := [.inr (.inr 15)]) (h' := h1) (cs := [GK h1 1 9]) (by decide +kernel) rfl ⟨(o_1 hL).gk, trivial⟩) ?_
  refine RK.of (RN.gr (i := 21) (ci := 6) (k := 0) (fn := true) (v := 1) (by decide +kernel) rfl (TO.gk (o_15 hL)) (hL.fo (v := 1) 0 9 (o_15 hL) rfl (by decide) rfl).1) ?_
  refine RK.of (RN.blk (ops := [(20, .ldc 83)]) (pc' := 22) (lv' := [(3, .inl (m_rd h1 1 2)), (2, .inl x2), (0, .inr (.inr 15)), (1, .inl a1)]) (st' := [.inr (.inr (-26)), .inr (.inr 1)]) (h' := h1) (cs := []) (by decide +kernel) rfl trivial) ?_
  obtain ⟨x4, h3, hG, hF⟩ := bd_of hF
  have hq := rcv_ok (as := [.inr (.inr (-26))]) (TO.gk (o_1 hL))
  obtain ⟨hN, hL, hQ⟩ := DX9_takeWord (d := d + 2) hL  hG
  refine RK.of (RN.cv (i := 49) (k := 95) (q2 := iX9_takeWord) (as := [.inr (.inr 1), .inr (.inr (-26))]) (r := []) (v := some (.inl x4)) (h1 := h3) (by decide +kernel) rfl rfl rfl rfl rfl hq hN) ?_
  have hK := hK.tr hQ
  refine RK.of (RN.blk (ops := [(25, .istore 4), (27, .iload 4)]) (pc' := 29) (lv' := [(4, .inl x4), (3, .inl (m_rd h1 1 2)), (2, .inl x2), (0, .inr (.inr 15)), (1, .inl a1)]) (st' := [.inl x4]) (h' := h3) (cs := []) (by decide +kernel) rfl trivial) ?_
  refine jn_use (fun j5 => j5 = some r → RK xs L iX6_takeFact (d + 9) 38 [(0, .inr (.inr 15)), (1, .inl a1), (3, .inl (m_rd h1 1 2)), (4, .inl x4)] [] h3 (RIo r) h r.2) ?_ ?_ hF
  · intro  hF
    refine RK.of (RN.blk (ops := [(38, .iload_n 1), (39, .bipush 10)]) (pc' := 41) (lv' := [(0, .inr (.inr 15)), (1, .inl a1), (3, .inl (m_rd h1 1 2)), (4, .inl x4)]) (st' := [.inl 10, .inl a1]) (h' := h3) (cs := []) (by decide +kernel) rfl trivial) ?_
    rcases it_of hF with ⟨hb, hF⟩ | ⟨hb, hF⟩
    · refine RK.of (RN.ict (cd := .lt) (off := 13) (tgt := 54) (by decide +kernel) (mif_lt hb)) ?_
      refine RK.of (RN.blk (ops := [(54, .iload 4)]) (pc' := 56) (lv' := [(0, .inr (.inr 15)), (1, .inl a1), (3, .inl (m_rd h1 1 2)), (4, .inl x4)]) (st' := [.inl x4]) (h' := h3) (cs := []) (by decide +kernel) rfl trivial) ?_
      rcases it_of hF with ⟨hb, hF⟩ | ⟨hb, hF⟩
      · refine RK.of (RN.ift (cd := .eq) (off := 28) (tgt := 84) (by decide +kernel) (mif_eq hb)) ?_
        refine RK.of (RN.blk (ops := [(84, .aload_n 0)]) (pc' := 85) (lv' := [(0, .inr (.inr 15)), (1, .inl a1), (3, .inl (m_rd h1 1 2)), (4, .inl x4)]) (st' := [.inr (.inr 15)]) (h' := h3) (cs := []) (by decide +kernel) rfl trivial) ?_
        refine RK.of (RN.gr (i := 21) (ci := 6) (k := 0) (fn := true) (v := 1) (by decide +kernel) rfl (TO.gk (o_15 hL)) (hL.fo (v := 1) 0 9 (o_15 hL) rfl (by decide) rfl).1) ?_
        refine RK.of (RN.blk (ops := [(88, .bipush 91)]) (pc' := 90) (lv' := [(0, .inr (.inr 15)), (1, .inl a1), (3, .inl (m_rd h1 1 2)), (4, .inl x4)]) (st' := [.inl 91, .inr (.inr 1)]) (h' := h3) (cs := []) (by decide +kernel) rfl trivial) ?_
        obtain ⟨x7, h6, hG, hF⟩ := bd_of hF
        have hq := rcv_ok (as := [.inl 91]) (TO.gk (o_1 hL))
        obtain ⟨hN, hL, hQ⟩ := DX9_takeByte (d := d + 7) hL  hG
        refine RK.of (RN.cv (i := 85) (k := 94) (q2 := iX9_takeByte) (as := [.inr (.inr 1), .inl 91]) (r := []) (v := some (.inl x7)) (h1 := h6) (by decide +kernel) rfl rfl rfl rfl rfl hq hN) ?_
        have hK := hK.tr hQ
        rcases it_of hF with ⟨hb, hF⟩ | ⟨hb, hF⟩
        · refine RK.of (RN.ift (cd := .eq) (off := 29) (tgt := 122) (by decide +kernel) (mif_eq hb)) ?_
          refine RK.of (RN.blk (ops := [(122, .iconst 0)]) (pc' := 123) (lv' := [(0, .inr (.inr 15)), (1, .inl a1), (3, .inl (m_rd h1 1 2)), (4, .inl x4)]) (st' := [.inl 0]) (h' := h6) (cs := []) (by decide +kernel) rfl trivial) ?_
          exact RK.zR (by decide +kernel) rfl (Or.inl rfl) hL hK hF
        · refine RK.of (RN.iff (cd := .eq) (off := 29) (tgt := 122) (by decide +kernel) (mif_eqn hb)) ?_
          refine RK.of (RN.blk (ops := [(96, .aload_n 0), (97, .iload_n 1), (98, .iconst 1), (99, .iadd)]) (pc' := 100) (lv' := [(0, .inr (.inr 15)), (1, .inl a1), (3, .inl (m_rd h1 1 2)), (4, .inl x4)]) (st' := [.inl (m_w32 (a1 + 1)), .inr (.inr 15)]) (h' := h6) (cs := []) (by decide +kernel) rfl trivial) ?_
          obtain ⟨x9, h8, hG, hF⟩ := bd_of hF
          have hq := rcv_ok (as := [.inl (m_w32 (a1 + 1))]) (TO.gk (o_15 hL))
          obtain ⟨hN, hL, hQ⟩ := hR_RT _ _ _ hL hG
          refine RK.of (RN.cv (i := 63) (k := 57) (q2 := iX6_takeTest) (as := [.inr (.inr 15), .inl (m_w32 (a1 + 1))]) (r := []) (v := some (.inl x9)) (h1 := h8) (by decide +kernel) rfl rfl rfl rfl rfl hq hN) ?_
          have hK := hK.tr hQ
          rcases it_of hF with ⟨hb, hF⟩ | ⟨hb, hF⟩
          · refine RK.of (RN.ift (cd := .eq) (off := 19) (tgt := 122) (by decide +kernel) (mif_eq hb)) ?_
            refine RK.of (RN.blk (ops := [(122, .iconst 0)]) (pc' := 123) (lv' := [(0, .inr (.inr 15)), (1, .inl a1), (3, .inl (m_rd h1 1 2)), (4, .inl x4)]) (st' := [.inl 0]) (h' := h8) (cs := []) (by decide +kernel) rfl trivial) ?_
            exact RK.zR (by decide +kernel) rfl (Or.inl rfl) hL hK hF
          · refine RK.of (RN.iff (cd := .eq) (off := 19) (tgt := 122) (by decide +kernel) (mif_eqn hb)) ?_
            refine RK.of (RN.blk (ops := [(106, .aload_n 0)]) (pc' := 107) (lv' := [(0, .inr (.inr 15)), (1, .inl a1), (3, .inl (m_rd h1 1 2)), (4, .inl x4)]) (st' := [.inr (.inr 15)]) (h' := h8) (cs := []) (by decide +kernel) rfl trivial) ?_
            refine RK.of (RN.gr (i := 21) (ci := 6) (k := 0) (fn := true) (v := 1) (by decide +kernel) rfl (TO.gk (o_15 hL)) (hL.fo (v := 1) 0 9 (o_15 hL) rfl (by decide) rfl).1) ?_
            refine RK.of (RN.blk (ops := [(110, .bipush 93)]) (pc' := 112) (lv' := [(0, .inr (.inr 15)), (1, .inl a1), (3, .inl (m_rd h1 1 2)), (4, .inl x4)]) (st' := [.inl 93, .inr (.inr 1)]) (h' := h8) (cs := []) (by decide +kernel) rfl trivial) ?_
            obtain ⟨x11, h10, hG, hF⟩ := bd_of hF
            have hq := rcv_ok (as := [.inl 93]) (TO.gk (o_1 hL))
            obtain ⟨hN, hL, hQ⟩ := DX9_takeByte (d := d + 7) hL  hG
            refine RK.of (RN.cv (i := 85) (k := 94) (q2 := iX9_takeByte) (as := [.inr (.inr 1), .inl 93]) (r := []) (v := some (.inl x11)) (h1 := h10) (by decide +kernel) rfl rfl rfl rfl rfl hq hN) ?_
            have hK := hK.tr hQ
            rcases it_of hF with ⟨hb, hF⟩ | ⟨hb, hF⟩
            · refine RK.of (RN.ift (cd := .eq) (off := 7) (tgt := 122) (by decide +kernel) (mif_eq hb)) ?_
              refine RK.of (RN.blk (ops := [(122, .iconst 0)]) (pc' := 123) (lv' := [(0, .inr (.inr 15)), (1, .inl a1), (3, .inl (m_rd h1 1 2)), (4, .inl x4)]) (st' := [.inl 0]) (h' := h10) (cs := []) (by decide +kernel) rfl trivial) ?_
              exact RK.zR (by decide +kernel) rfl (Or.inl rfl) hL hK hF
            · refine RK.of (RN.iff (cd := .eq) (off := 7) (tgt := 122) (by decide +kernel) (mif_eqn hb)) ?_
              refine RK.of (RN.blk (ops := [(118, .iconst 1)]) (pc' := 119) (lv' := [(0, .inr (.inr 15)), (1, .inl a1), (3, .inl (m_rd h1 1 2)), (4, .inl x4)]) (st' := [.inl 1]) (h' := h10) (cs := []) (by decide +kernel) rfl trivial) ?_
              refine RK.of (RN.goto (off := 4) (tgt := 123) (by decide +kernel)) ?_
              exact RK.zR (by decide +kernel) rfl (Or.inr rfl) hL hK hF
      · refine RK.of (RN.iff (cd := .eq) (off := 28) (tgt := 84) (by decide +kernel) (mif_eqn hb)) ?_
        refine RK.of (RN.blk (ops := [(59, .aload_n 0), (60, .iload_n 1), (61, .iconst 1), (62, .iadd)]) (pc' := 63) (lv' := [(0, .inr (.inr 15)), (1, .inl a1), (3, .inl (m_rd h1 1 2)), (4, .inl x4)]) (st' := [.inl (m_w32 (a1 + 1)), .inr (.inr 15)]) (h' := h3) (cs := []) (by decide +kernel) rfl trivial) ?_
        obtain ⟨x13, h12, hG, hF⟩ := bd_of hF
        have hq := rcv_ok (as := [.inl (m_w32 (a1 + 1))]) (TO.gk (o_15 hL))
        obtain ⟨hN, hL, hQ⟩ := hR_RF _ _ _ hL hG
        refine RK.of (RN.cv (i := 73) (k := 58) (q2 := iX6_takeFact) (as := [.inr (.inr 15), .inl (m_w32 (a1 + 1))]) (r := []) (v := some (.inl x13)) (h1 := h12) (by decide +kernel) rfl rfl rfl rfl rfl hq hN) ?_
        have hK := hK.tr hQ
        rcases it_of hF with ⟨hb, hF⟩ | ⟨hb, hF⟩
        · refine RK.of (RN.ift (cd := .eq) (off := 16) (tgt := 82) (by decide +kernel) (mif_eq hb)) ?_
          refine RK.of (RN.blk (ops := [(82, .iconst 0)]) (pc' := 83) (lv' := [(0, .inr (.inr 15)), (1, .inl a1), (3, .inl (m_rd h1 1 2)), (4, .inl x4)]) (st' := [.inl 0]) (h' := h12) (cs := []) (by decide +kernel) rfl trivial) ?_
          exact RK.zR (by decide +kernel) rfl (Or.inl rfl) hL hK hF
        · refine RK.of (RN.iff (cd := .eq) (off := 16) (tgt := 82) (by decide +kernel) (mif_eqn hb)) ?_
          refine RK.of (RN.blk (ops := [(69, .aload_n 0), (70, .bipush (-32))]) (pc' := 72) (lv' := [(0, .inr (.inr 15)), (1, .inl a1), (3, .inl (m_rd h1 1 2)), (4, .inl x4)]) (st' := [.inl (-32), .inr (.inr 15)]) (h' := h12) (cs := []) (by decide +kernel) rfl trivial) ?_
          obtain ⟨x15, h14, hG, hF⟩ := bd_of hF
          have hq := rcv_ok (as := [.inl (-32)]) (TO.gk (o_15 hL))
          obtain ⟨hN, hL, hQ⟩ := DX6_put (d := d + 8) hL  hG
          refine RK.of (RN.cv (i := 78) (k := 63) (q2 := iX6_put) (as := [.inr (.inr 15), .inl (-32)]) (r := []) (v := some (.inl x15)) (h1 := h14) (by decide +kernel) rfl rfl rfl rfl rfl hq hN) ?_
          have hK := hK.tr hQ
          rcases it_of hF with ⟨hb, hF⟩ | ⟨hb, hF⟩
          · refine RK.of (RN.ift (cd := .eq) (off := 7) (tgt := 82) (by decide +kernel) (mif_eq hb)) ?_
            refine RK.of (RN.blk (ops := [(82, .iconst 0)]) (pc' := 83) (lv' := [(0, .inr (.inr 15)), (1, .inl a1), (3, .inl (m_rd h1 1 2)), (4, .inl x4)]) (st' := [.inl 0]) (h' := h14) (cs := []) (by decide +kernel) rfl trivial) ?_
            exact RK.zR (by decide +kernel) rfl (Or.inl rfl) hL hK hF
          · refine RK.of (RN.iff (cd := .eq) (off := 7) (tgt := 82) (by decide +kernel) (mif_eqn hb)) ?_
            refine RK.of (RN.blk (ops := [(78, .iconst 1)]) (pc' := 79) (lv' := [(0, .inr (.inr 15)), (1, .inl a1), (3, .inl (m_rd h1 1 2)), (4, .inl x4)]) (st' := [.inl 1]) (h' := h14) (cs := []) (by decide +kernel) rfl trivial) ?_
            refine RK.of (RN.goto (off := 4) (tgt := 83) (by decide +kernel)) ?_
            exact RK.zR (by decide +kernel) rfl (Or.inr rfl) hL hK hF
    · refine RK.of (RN.icf (cd := .lt) (off := 13) (tgt := 54) (by decide +kernel) (mif_ltn hb)) ?_
      refine RK.of (RN.blk (ops := [(44, .aload_n 0)]) (pc' := 45) (lv' := [(0, .inr (.inr 15)), (1, .inl a1), (3, .inl (m_rd h1 1 2)), (4, .inl x4)]) (st' := [.inr (.inr 15)]) (h' := h3) (cs := []) (by decide +kernel) rfl trivial) ?_
      refine RK.of (RN.gr (i := 21) (ci := 6) (k := 0) (fn := true) (v := 1) (by decide +kernel) rfl (TO.gk (o_15 hL)) (hL.fo (v := 1) 0 9 (o_15 hL) rfl (by decide) rfl).1) ?_
      refine RK.of (RN.blk (ops := [(48, .iload_n 3), (49, .iconst 2)]) (pc' := 50) (lv' := [(0, .inr (.inr 15)), (1, .inl a1), (3, .inl (m_rd h1 1 2)), (4, .inl x4)]) (st' := [.inl 2, .inl (m_rd h1 1 2), .inr (.inr 1)]) (h' := h3) (cs := []) (by decide +kernel) rfl trivial) ?_
      obtain ⟨x17, h16, hG, hF⟩ := bd_of hF
      have hq := rcv_ok (as := [.inl (m_rd h1 1 2), .inl 2]) (TO.gk (o_1 hL))
      obtain ⟨hN, hL, hQ⟩ := DX9_fail (d := d + 8) hL  hG
      refine RK.of (RN.cv (i := 53) (k := 91) (q2 := iX9_fail) (as := [.inr (.inr 1), .inl (m_rd h1 1 2), .inl 2]) (r := []) (v := some (.inl x17)) (h1 := h16) (by decide +kernel) rfl rfl rfl rfl rfl hq hN) ?_
      have hK := hK.tr hQ
      obtain ⟨hc, hF⟩ := gd_of hF
      exact RK.zR (by decide +kernel) rfl hc.1 hL hK hF
  · intro j5 Jj5 hF
    rcases it_of hF with ⟨hb, hF⟩ | ⟨hb, hF⟩
    · refine RK.of (RN.iff (cd := .ne) (off := 9) (tgt := 38) (by decide +kernel) (mif_nen hb)) ?_
      refine RK.of (RN.blk (ops := [(32, .iload_n 2), (33, .bipush 91)]) (pc' := 35) (lv' := [(4, .inl x4), (3, .inl (m_rd h1 1 2)), (2, .inl x2), (0, .inr (.inr 15)), (1, .inl a1)]) (st' := [.inl 91, .inl x2]) (h' := h3) (cs := []) (by decide +kernel) rfl trivial) ?_
      rcases it_of hF with ⟨hb, hF⟩ | ⟨hb, hF⟩
      · refine RK.of (RN.icf (cd := .ne) (off := 89) (tgt := 124) (by decide +kernel) (mif_nen hb)) ?_
        exact RK.sub (Jj5 hF) (sub_cons rfl (sub_cons rfl (sub_cons rfl (sub_cons rfl sub_nil))))
      · refine RK.of (RN.ict (cd := .ne) (off := 89) (tgt := 124) (by decide +kernel) (mif_ne hb)) ?_
        refine RK.of (RN.blk (ops := [(124, .aload_n 0)]) (pc' := 125) (lv' := [(4, .inl x4), (3, .inl (m_rd h1 1 2)), (2, .inl x2), (0, .inr (.inr 15)), (1, .inl a1)]) (st' := [.inr (.inr 15)]) (h' := h3) (cs := []) (by decide +kernel) rfl trivial) ?_
        obtain ⟨x19, h18, hG, hF⟩ := bd_of hF
        have hq := rcv_ok (as := []) (TO.gk (o_15 hL))
        obtain ⟨hN, hL, hQ⟩ := DX6_takeSum (d := d) hL  hG
        refine RK.of (RN.cv (i := 57) (k := 60) (q2 := iX6_takeSum) (as := [.inr (.inr 15)]) (r := []) (v := some (.inl x19)) (h1 := h18) (by decide +kernel) rfl rfl rfl rfl rfl hq hN) ?_
        have hK := hK.tr hQ
        rcases it_of hF with ⟨hb, hF⟩ | ⟨hb, hF⟩
        · refine RK.of (RN.iff (cd := .ne) (off := 5) (tgt := 133) (by decide +kernel) (mif_nen hb)) ?_
          refine RK.of (RN.blk (ops := [(131, .iconst 0)]) (pc' := 132) (lv' := [(4, .inl x4), (3, .inl (m_rd h1 1 2)), (2, .inl x2), (0, .inr (.inr 15)), (1, .inl a1)]) (st' := [.inl 0]) (h' := h18) (cs := []) (by decide +kernel) rfl trivial) ?_
          exact RK.zR (by decide +kernel) rfl (Or.inl rfl) hL hK hF
        · refine RK.of (RN.ift (cd := .ne) (off := 5) (tgt := 133) (by decide +kernel) (mif_ne hb)) ?_
          refine RK.of (RN.blk (ops := [(133, .aload_n 0)]) (pc' := 134) (lv' := [(4, .inl x4), (3, .inl (m_rd h1 1 2)), (2, .inl x2), (0, .inr (.inr 15)), (1, .inl a1)]) (st' := [.inr (.inr 15)]) (h' := h18) (cs := []) (by decide +kernel) rfl trivial) ?_
          obtain ⟨x21, h20, hG, hF⟩ := bd_of hF
          have hq := rcv_ok (as := []) (TO.gk (o_15 hL))
          obtain ⟨hN, hL, hQ⟩ := DX6_takeComparison (d := d + 6) hL  hG
          refine RK.of (RN.cv (i := 88) (k := 59) (q2 := iX6_takeComparison) (as := [.inr (.inr 15)]) (r := []) (v := some (.inl x21)) (h1 := h20) (by decide +kernel) rfl rfl rfl rfl rfl hq hN) ?_
          have hK := hK.tr hQ
          refine RK.of (RN.blk (ops := [(137, .istore 5), (139, .iload 5), (141, .bipush (-99))]) (pc' := 143) (lv' := [(5, .inl x21), (4, .inl x4), (3, .inl (m_rd h1 1 2)), (2, .inl x2), (0, .inr (.inr 15)), (1, .inl a1)]) (st' := [.inl (-99), .inl x21]) (h' := h20) (cs := []) (by decide +kernel) rfl trivial) ?_
          rcases it_of hF with ⟨hb, hF⟩ | ⟨hb, hF⟩
          · refine RK.of (RN.ict (cd := .eq) (off := 23) (tgt := 166) (by decide +kernel) (mif_eq hb)) ?_
            refine RK.of (RN.blk (ops := [(166, .iconst 0)]) (pc' := 167) (lv' := [(5, .inl x21), (4, .inl x4), (3, .inl (m_rd h1 1 2)), (2, .inl x2), (0, .inr (.inr 15)), (1, .inl a1)]) (st' := [.inl 0]) (h' := h20) (cs := []) (by decide +kernel) rfl trivial) ?_
            exact RK.zR (by decide +kernel) rfl (Or.inl rfl) hL hK hF
          · refine RK.of (RN.icf (cd := .eq) (off := 23) (tgt := 166) (by decide +kernel) (mif_eqn hb)) ?_
            refine RK.of (RN.blk (ops := [(146, .aload_n 0)]) (pc' := 147) (lv' := [(5, .inl x21), (4, .inl x4), (3, .inl (m_rd h1 1 2)), (2, .inl x2), (0, .inr (.inr 15)), (1, .inl a1)]) (st' := [.inr (.inr 15)]) (h' := h20) (cs := []) (by decide +kernel) rfl trivial) ?_
            obtain ⟨x23, h22, hG, hF⟩ := bd_of hF
            have hq := rcv_ok (as := []) (TO.gk (o_15 hL))
            obtain ⟨hN, hL, hQ⟩ := DX6_takeSum (d := d) hL  hG
            refine RK.of (RN.cv (i := 57) (k := 60) (q2 := iX6_takeSum) (as := [.inr (.inr 15)]) (r := []) (v := some (.inl x23)) (h1 := h22) (by decide +kernel) rfl rfl rfl rfl rfl hq hN) ?_
            have hK := hK.tr hQ
            rcases it_of hF with ⟨hb, hF⟩ | ⟨hb, hF⟩
            · refine RK.of (RN.ift (cd := .eq) (off := 16) (tgt := 166) (by decide +kernel) (mif_eq hb)) ?_
              refine RK.of (RN.blk (ops := [(166, .iconst 0)]) (pc' := 167) (lv' := [(5, .inl x21), (4, .inl x4), (3, .inl (m_rd h1 1 2)), (2, .inl x2), (0, .inr (.inr 15)), (1, .inl a1)]) (st' := [.inl 0]) (h' := h22) (cs := []) (by decide +kernel) rfl trivial) ?_
              exact RK.zR (by decide +kernel) rfl (Or.inl rfl) hL hK hF
            · refine RK.of (RN.iff (cd := .eq) (off := 16) (tgt := 166) (by decide +kernel) (mif_eqn hb)) ?_
              refine RK.of (RN.blk (ops := [(153, .aload_n 0), (154, .iload 5)]) (pc' := 156) (lv' := [(5, .inl x21), (4, .inl x4), (3, .inl (m_rd h1 1 2)), (2, .inl x2), (0, .inr (.inr 15)), (1, .inl a1)]) (st' := [.inl x21, .inr (.inr 15)]) (h' := h22) (cs := []) (by decide +kernel) rfl trivial) ?_
              obtain ⟨x25, h24, hG, hF⟩ := bd_of hF
              have hq := rcv_ok (as := [.inl x21]) (TO.gk (o_15 hL))
              obtain ⟨hN, hL, hQ⟩ := DX6_put (d := d + 8) hL  hG
              refine RK.of (RN.cv (i := 78) (k := 63) (q2 := iX6_put) (as := [.inr (.inr 15), .inl x21]) (r := []) (v := some (.inl x25)) (h1 := h24) (by decide +kernel) rfl rfl rfl rfl rfl hq hN) ?_
              have hK := hK.tr hQ
              rcases it_of hF with ⟨hb, hF⟩ | ⟨hb, hF⟩
              · refine RK.of (RN.ift (cd := .eq) (off := 7) (tgt := 166) (by decide +kernel) (mif_eq hb)) ?_
                refine RK.of (RN.blk (ops := [(166, .iconst 0)]) (pc' := 167) (lv' := [(5, .inl x21), (4, .inl x4), (3, .inl (m_rd h1 1 2)), (2, .inl x2), (0, .inr (.inr 15)), (1, .inl a1)]) (st' := [.inl 0]) (h' := h24) (cs := []) (by decide +kernel) rfl trivial) ?_
                exact RK.zR (by decide +kernel) rfl (Or.inl rfl) hL hK hF
              · refine RK.of (RN.iff (cd := .eq) (off := 7) (tgt := 166) (by decide +kernel) (mif_eqn hb)) ?_
                refine RK.of (RN.blk (ops := [(162, .iconst 1)]) (pc' := 163) (lv' := [(5, .inl x21), (4, .inl x4), (3, .inl (m_rd h1 1 2)), (2, .inl x2), (0, .inr (.inr 15)), (1, .inl a1)]) (st' := [.inl 1]) (h' := h24) (cs := []) (by decide +kernel) rfl trivial) ?_
                refine RK.of (RN.goto (off := 4) (tgt := 167) (by decide +kernel)) ?_
                exact RK.zR (by decide +kernel) rfl (Or.inr rfl) hL hK hF
    · refine RK.of (RN.ift (cd := .ne) (off := 9) (tgt := 38) (by decide +kernel) (mif_ne hb)) ?_
      exact RK.sub (Jj5 hF) (sub_cons rfl (sub_cons rfl (sub_cons rfl (sub_cons rfl sub_nil))))
noncomputable def G_tf : Nat → Bool → Int → MH → Option (Int × MH)
  | 0, _, _, _ => none
  | f + 1, true, a1, h => GX6_takeTest_b (G_tf f true) (G_tf f false) a1 h
  | f + 1, false, a1, h => GX6_takeFact_b (G_tf f true) (G_tf f false) a1 h
theorem D_tf {d : Nat} : ∀ f : Nat, (∀ (a1 : Int) (h : MH) (r : Int × MH), LR h → G_tf f true a1 h = some r → RN xs L iX6_takeTest (d + f + 8) 0 (lvE 0 [.inr (.inr 15), .inl a1]) [] h (RIo r) ∧ LR r.2 ∧ KD h r.2) ∧ (∀ (a1 : Int) (h : MH) (r : Int × MH), LR h → G_tf f false a1 h = some r → RN xs L iX6_takeFact (d + f + 8) 0 (lvE 0 [.inr (.inr 15), .inl a1]) [] h (RIo r) ∧ LR r.2 ∧ KD h r.2) := by
  intro f
  induction f with
  | zero => exact ⟨fun a1 h r hL hF => (by cases hF), fun a1 h r hL hF => (by cases hF)⟩
  | succ f ih =>
    rw [show d + (f + 1) + 8 = d + f + 9 by omega]
    exact ⟨fun a1 h r hL hF => DX6_takeTest_b (d := d + f) ih.1 ih.2 hL hF, fun a1 h r hL hF => DX6_takeFact_b (d := d + f) ih.1 ih.2 hL hF⟩
noncomputable def GX6_takeTest (a1 : Int) (h : MH) : Option (Int × MH) := G_tf FR true a1 h
noncomputable def GX6_takeFact (a1 : Int) (h : MH) : Option (Int × MH) := G_tf FR false a1 h
theorem DX6_takeTest {d : Nat} {a1 : Int} {h : MH} {r : Int × MH} (hL : LR h) (hF : GX6_takeTest a1 h = some r) : RN xs L iX6_takeTest (d + 48) 0 (lvE 0 [.inr (.inr 15), .inl a1]) [] h (RIo r) ∧ LR r.2 ∧ KD h r.2 := (D_tf (d := d) FR).1 a1 h r hL hF
theorem DX6_takeFact {d : Nat} {a1 : Int} {h : MH} {r : Int × MH} (hL : LR h) (hF : GX6_takeFact a1 h = some r) : RN xs L iX6_takeFact (d + 48) 0 (lvE 0 [.inr (.inr 15), .inl a1]) [] h (RIo r) ∧ LR r.2 ∧ KD h r.2 := (D_tf (d := d) FR).2 a1 h r hL hF
end Gc
