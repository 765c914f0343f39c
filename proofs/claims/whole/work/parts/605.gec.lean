/-! METHODS AS FUNCTIONS, references resolved (by program): X6_parse, X7_start, X10_takeOut, X10_sumOf, X10_bagsOfAll, X7_describe, X7_choose, X10_bagUp, X7_lay, X7_step, X7_steps, X7_turnOfSorting, X7_turnOfTying -/
section Gc
variable {xs : Int → Int} {L : Int}
noncomputable def GX6_parse_L26 (K0 : MH → Option (Int × MH)) : Nat → Int → Int → MH → Option (Int × MH)
  | 0, _, _, _ => none
  | f + 1, v1, v2, h =>
    (if 12 < v2 then
     K0 h
    else
     (if v1 = 0 then
      K0 h
     else
      (bd (GX9_next h) (fun x2 h1 =>
       (bd (GX9_takeWord (-14) h1) (fun x4 h3 =>
        jn (fun (p6 : Int) (h7 : MH) =>
         (if p6 = 0 then
          GX6_parse_L26 K0 f 0 (m_w32 (v2 + 1)) h7
         else
          (if (m_rd h7 1 3) = 0 then
           (bd (GX9_takeSemicolon h7) (fun x9 h8 =>
            (if x9 = 0 then
             GX6_parse_L26 K0 f 0 (m_w32 (v2 + 1)) h8
            else
             GX6_parse_L26 K0 f 1 (m_w32 (v2 + 1)) h8)))
          else
           GX6_parse_L26 K0 f 0 (m_w32 (v2 + 1)) h7))) (fun j5 =>
         (if x4 = 0 then
          (bd (GX9_fail (m_rd h1 1 2) 0 h3) (fun x24 h23 =>
           j5 v1 h23))
         else
          (if v2 < 12 then
           (bd (GX6_takeSum h3) (fun x11 h10 =>
            (if x11 = 0 then
             j5 v1 h10
            else
             gd [IB v2 12] (
              (bd (GX9_takeWord (-25) (m_wr h10 17 v2 (m_rd h10 15 2))) (fun x13 h12 =>
               jn (fun (s15 : Int) (h16 : MH) =>
                gd [IB v2 12] (
                 j5 s15 (m_wr (m_wr h16 18 v2 (m_rd h16 15 2)) 15 5 (m_w32 (v2 + 1))))) (fun j14 =>
                jn (fun (h18 : MH) =>
                 j14 1 h18) (fun j17 =>
                 (if x13 = 0 then
                  j17 h12
                 else
                  (bd (GX6_takeTest 0 h12) (fun x20 h19 =>
                   (if x20 = 0 then
                    j14 0 h19
                   else
                    j17 h19))))))))))))
          else
           (bd (GX9_fail (m_rd h1 1 2) 4 h3) (fun x22 h21 =>
            j5 v1 h21)))))))))))
theorem DX6_parse_L26 {d : Nat} {K0 : MH → Option (Int × MH)} {r : Int × MH} {h0 hB : MH} (hB0 : KD h0 hB) (hK0 : ∀ (h : MH), LR h → KD hB h → K0 h = some r → RK xs L iX6_parse (d + 49) 192 [(0, .inr (.inr 15))] [] h (RIo r) h0 r.2) : ∀ (f : Nat) (v1 : Int) (v2 : Int) (h : MH), LR h → KD hB h → GX6_parse_L26 K0 f v1 v2 h = some r → RK xs L iX6_parse (d + 49) 26 [(0, .inr (.inr 15)), (1, .inl v1), (2, .inl v2)] [] h (RIo r) h0 r.2 := by
  intro f
  induction f with
  | zero =>
    intro v1 v2 h hL hJ hF
    cases hF
  | succ f ih =>
    intro v1 v2 h hL hJ hF
    unfold GX6_parse_L26 at hF
    have hK := hB0.tr hJ
    refine RK.of (RN.blk (ops := [(26, .iload_n 2), (27, .bipush 12)]) (pc' := 29) (lv' := [(0, .inr (.inr 15)), (1, .inl v1), (2, .inl v2)]) (st' := [.inl 12, .inl v2]) (h' := h) (cs := []) (by decide +kernel) rfl trivial) ?_
    rcases it_of hF with ⟨hb, hF⟩ | ⟨hb, hF⟩
    · refine RK.of (RN.ict (cd := .gt) (off := 163) (tgt := 192) (by decide +kernel) (mif_gt hb)) ?_
      exact RK.sub (hK0 _ hL hJ hF) (sub_cons rfl sub_nil)
    · refine RK.of (RN.icf (cd := .gt) (off := 163) (tgt := 192) (by decide +kernel) (mif_gtn hb)) ?_
      refine RK.of (RN.blk (ops := [(32, .iload_n 1)]) (pc' := 33) (lv' := [(0, .inr (.inr 15)), (1, .inl v1), (2, .inl v2)]) (st' := [.inl v1]) (h' := h) (cs := []) (by decide +kernel) rfl trivial) ?_
      rcases it_of hF with ⟨hb, hF⟩ | ⟨hb, hF⟩
      · refine RK.of (RN.ift (cd := .eq) (off := 159) (tgt := 192) (by decide +kernel) (mif_eq hb)) ?_
        exact RK.sub (hK0 _ hL hJ hF) (sub_cons rfl sub_nil)
      · refine RK.of (RN.iff (cd := .eq) (off := 159) (tgt := 192) (by decide +kernel) (mif_eqn hb)) ?_
        refine RK.of (RN.blk (ops := [(36, .aload_n 0)]) (pc' := 37) (lv' := [(0, .inr (.inr 15)), (1, .inl v1), (2, .inl v2)]) (st' := [.inr (.inr 15)]) (h' := h) (cs := []) (by decide +kernel) rfl trivial) ?_
        refine RK.of (RN.gr (i := 21) (ci := 6) (k := 0) (fn := true) (v := 1) (by decide +kernel) rfl (TO.gk (o_15 hL)) (hL.fo (v := 1) 0 9 (o_15 hL) rfl (by decide) rfl).1) ?_
        obtain ⟨x2, h1, hG, hF⟩ := bd_of hF
        have hq := rcv_ok (as := []) (TO.gk (o_1 hL))
        obtain ⟨hN, hL, hQ⟩ := DX9_next (d := d + 48) hL  hG
        refine RK.of (RN.cv (i := 40) (k := 93) (q2 := iX9_next) (as := [.inr (.inr 1)]) (r := []) (v := some (.inl x2)) (h1 := h1) (by decide +kernel) rfl rfl rfl rfl rfl hq hN) ?_
        have hK := hK.tr hQ
        have hJ := hJ.tr hQ
        refine RK.of (RN.blk (ops := [(43, .pop), (44, .aload_n 0)]) (pc' := 45) (lv' := [(0, .inr (.inr 15)), (1, .inl v1), (2, .inl v2)]) (st' := [.inr (.inr 15)]) (h' := h1) (cs := []) (by decide +kernel) rfl trivial) ?_
        refine RK.of (RN.gr (i := 21) (ci := 6) (k := 0) (fn := true) (v := 1) (by decide +kernel) rfl (TO.gk (o_15 hL)) (hL.fo (v := 1) 0 9 (o_15 hL) rfl (by decide) rfl).1) ?_
        refine RK.of (RN.blk (ops := [(48, .getfield 44), (51, .istore_n 3), (52, .aload_n 0)]) (pc' := 53) (lv' := [(3, .inl (m_rd h1 1 2)), (0, .inr (.inr 15)), (1, .inl v1), (2, .inl v2)]) (st' := [.inr (.inr 15)]) (h' := h1) (cs := [GK h1 1 9]) (by decide +kernel) rfl ⟨(o_1 hL).gk, trivial⟩) ?_
        refine RK.of (RN.gr (i := 21) (ci := 6) (k := 0) (fn := true) (v := 1) (by decide +kernel) rfl (TO.gk (o_15 hL)) (hL.fo (v := 1) 0 9 (o_15 hL) rfl (by decide) rfl).1) ?_
        refine RK.of (RN.blk (ops := [(56, .ldc 47)]) (pc' := 58) (lv' := [(3, .inl (m_rd h1 1 2)), (0, .inr (.inr 15)), (1, .inl v1), (2, .inl v2)]) (st' := [.inr (.inr (-14)), .inr (.inr 1)]) (h' := h1) (cs := []) (by decide +kernel) rfl trivial) ?_
        obtain ⟨x4, h3, hG, hF⟩ := bd_of hF
        have hq := rcv_ok (as := [.inr (.inr (-14))]) (TO.gk (o_1 hL))
        obtain ⟨hN, hL, hQ⟩ := DX9_takeWord (d := d + 42) hL  hG
        refine RK.of (RN.cv (i := 49) (k := 95) (q2 := iX9_takeWord) (as := [.inr (.inr 1), .inr (.inr (-14))]) (r := []) (v := some (.inl x4)) (h1 := h3) (by decide +kernel) rfl rfl rfl rfl rfl hq hN) ?_
        have hK := hK.tr hQ
        have hJ := hJ.tr hQ
        refine jn_use (fun j5 => ∀ (p6 : Int) (h7 : MH), LR h7 → KD hB h7 → j5 p6 h7 = some r → RK xs L iX6_parse (d + 49) 156 [(0, .inr (.inr 15)), (1, .inl p6), (2, .inl v2)] [] h7 (RIo r) h0 r.2) ?_ ?_ hF
        · intro p6 h7 hL hJ hF
          have hK := hB0.tr hJ
          refine RK.of (RN.blk (ops := [(156, .iload_n 1)]) (pc' := 157) (lv' := [(0, .inr (.inr 15)), (1, .inl p6), (2, .inl v2)]) (st' := [.inl p6]) (h' := h7) (cs := []) (by decide +kernel) rfl trivial) ?_
          rcases it_of hF with ⟨hb, hF⟩ | ⟨hb, hF⟩
          · refine RK.of (RN.ift (cd := .eq) (off := 27) (tgt := 184) (by decide +kernel) (mif_eq hb)) ?_
            refine RK.of (RN.blk (ops := [(184, .iconst 0)]) (pc' := 185) (lv' := [(0, .inr (.inr 15)), (1, .inl p6), (2, .inl v2)]) (st' := [.inl 0]) (h' := h7) (cs := []) (by decide +kernel) rfl trivial) ?_
            refine RK.of (RN.blk (ops := [(185, .istore_n 1), (186, .iinc 2 1)]) (pc' := 189) (lv' := [(2, .inl (m_w32 (v2 + 1))), (1, .inl 0), (0, .inr (.inr 15))]) (st' := []) (h' := h7) (cs := []) (by decide +kernel) rfl trivial) ?_
            refine RK.of (RN.goto (off := -163) (tgt := 26) (by decide +kernel)) ?_
            exact RK.sub (ih _ _ _ hL hJ hF) (sub_cons rfl (sub_cons rfl (sub_cons rfl sub_nil)))
          · refine RK.of (RN.iff (cd := .eq) (off := 27) (tgt := 184) (by decide +kernel) (mif_eqn hb)) ?_
            refine RK.of (RN.blk (ops := [(160, .aload_n 0)]) (pc' := 161) (lv' := [(0, .inr (.inr 15)), (1, .inl p6), (2, .inl v2)]) (st' := [.inr (.inr 15)]) (h' := h7) (cs := []) (by decide +kernel) rfl trivial) ?_
            refine RK.of (RN.gr (i := 21) (ci := 6) (k := 0) (fn := true) (v := 1) (by decide +kernel) rfl (TO.gk (o_15 hL)) (hL.fo (v := 1) 0 9 (o_15 hL) rfl (by decide) rfl).1) ?_
            refine RK.of (RN.blk (ops := [(164, .getfield 67)]) (pc' := 167) (lv' := [(0, .inr (.inr 15)), (1, .inl p6), (2, .inl v2)]) (st' := [.inl (m_rd h7 1 3)]) (h' := h7) (cs := [GK h7 1 9]) (by decide +kernel) rfl ⟨(o_1 hL).gk, trivial⟩) ?_
            rcases it_of hF with ⟨hb, hF⟩ | ⟨hb, hF⟩
            · refine RK.of (RN.iff (cd := .ne) (off := 17) (tgt := 184) (by decide +kernel) (mif_nen hb)) ?_
              refine RK.of (RN.blk (ops := [(170, .aload_n 0)]) (pc' := 171) (lv' := [(0, .inr (.inr 15)), (1, .inl p6), (2, .inl v2)]) (st' := [.inr (.inr 15)]) (h' := h7) (cs := []) (by decide +kernel) rfl trivial) ?_
              refine RK.of (RN.gr (i := 21) (ci := 6) (k := 0) (fn := true) (v := 1) (by decide +kernel) rfl (TO.gk (o_15 hL)) (hL.fo (v := 1) 0 9 (o_15 hL) rfl (by decide) rfl).1) ?_
              obtain ⟨x9, h8, hG, hF⟩ := bd_of hF
              have hq := rcv_ok (as := []) (TO.gk (o_1 hL))
              obtain ⟨hN, hL, hQ⟩ := DX9_takeSemicolon (d := d + 46) hL  hG
              refine RK.of (RN.cv (i := 70) (k := 97) (q2 := iX9_takeSemicolon) (as := [.inr (.inr 1)]) (r := []) (v := some (.inl x9)) (h1 := h8) (by decide +kernel) rfl rfl rfl rfl rfl hq hN) ?_
              have hK := hK.tr hQ
              have hJ := hJ.tr hQ
              rcases it_of hF with ⟨hb, hF⟩ | ⟨hb, hF⟩
              · refine RK.of (RN.ift (cd := .eq) (off := 7) (tgt := 184) (by decide +kernel) (mif_eq hb)) ?_
                refine RK.of (RN.blk (ops := [(184, .iconst 0)]) (pc' := 185) (lv' := [(0, .inr (.inr 15)), (1, .inl p6), (2, .inl v2)]) (st' := [.inl 0]) (h' := h8) (cs := []) (by decide +kernel) rfl trivial) ?_
                refine RK.of (RN.blk (ops := [(185, .istore_n 1), (186, .iinc 2 1)]) (pc' := 189) (lv' := [(2, .inl (m_w32 (v2 + 1))), (1, .inl 0), (0, .inr (.inr 15))]) (st' := []) (h' := h8) (cs := []) (by decide +kernel) rfl trivial) ?_
                refine RK.of (RN.goto (off := -163) (tgt := 26) (by decide +kernel)) ?_
                exact RK.sub (ih _ _ _ hL hJ hF) (sub_cons rfl (sub_cons rfl (sub_cons rfl sub_nil)))
              · refine RK.of (RN.iff (cd := .eq) (off := 7) (tgt := 184) (by decide +kernel) (mif_eqn hb)) ?_
                refine RK.of (RN.blk (ops := [(180, .iconst 1)]) (pc' := 181) (lv' := [(0, .inr (.inr 15)), (1, .inl p6), (2, .inl v2)]) (st' := [.inl 1]) (h' := h8) (cs := []) (by decide +kernel) rfl trivial) ?_
                refine RK.of (RN.goto (off := 4) (tgt := 185) (by decide +kernel)) ?_
                refine RK.of (RN.blk (ops := [(185, .istore_n 1), (186, .iinc 2 1)]) (pc' := 189) (lv' := [(2, .inl (m_w32 (v2 + 1))), (1, .inl 1), (0, .inr (.inr 15))]) (st' := []) (h' := h8) (cs := []) (by decide +kernel) rfl trivial) ?_
                refine RK.of (RN.goto (off := -163) (tgt := 26) (by decide +kernel)) ?_
                exact RK.sub (ih _ _ _ hL hJ hF) (sub_cons rfl (sub_cons rfl (sub_cons rfl sub_nil)))
            · refine RK.of (RN.ift (cd := .ne) (off := 17) (tgt := 184) (by decide +kernel) (mif_ne hb)) ?_
              refine RK.of (RN.blk (ops := [(184, .iconst 0)]) (pc' := 185) (lv' := [(0, .inr (.inr 15)), (1, .inl p6), (2, .inl v2)]) (st' := [.inl 0]) (h' := h7) (cs := []) (by decide +kernel) rfl trivial) ?_
              refine RK.of (RN.blk (ops := [(185, .istore_n 1), (186, .iinc 2 1)]) (pc' := 189) (lv' := [(2, .inl (m_w32 (v2 + 1))), (1, .inl 0), (0, .inr (.inr 15))]) (st' := []) (h' := h7) (cs := []) (by decide +kernel) rfl trivial) ?_
              refine RK.of (RN.goto (off := -163) (tgt := 26) (by decide +kernel)) ?_
              exact RK.sub (ih _ _ _ hL hJ hF) (sub_cons rfl (sub_cons rfl (sub_cons rfl sub_nil)))
        · intro j5 Jj5 hF
          rcases it_of hF with ⟨hb, hF⟩ | ⟨hb, hF⟩
          · refine RK.of (RN.iff (cd := .ne) (off := 16) (tgt := 77) (by decide +kernel) (mif_nen hb)) ?_
            refine RK.of (RN.blk (ops := [(64, .aload_n 0)]) (pc' := 65) (lv' := [(3, .inl (m_rd h1 1 2)), (0, .inr (.inr 15)), (1, .inl v1), (2, .inl v2)]) (st' := [.inr (.inr 15)]) (h' := h3) (cs := []) (by decide +kernel) rfl trivial) ?_
            refine RK.of (RN.gr (i := 21) (ci := 6) (k := 0) (fn := true) (v := 1) (by decide +kernel) rfl (TO.gk (o_15 hL)) (hL.fo (v := 1) 0 9 (o_15 hL) rfl (by decide) rfl).1) ?_
            refine RK.of (RN.blk (ops := [(68, .iload_n 3), (69, .iconst 0)]) (pc' := 70) (lv' := [(3, .inl (m_rd h1 1 2)), (0, .inr (.inr 15)), (1, .inl v1), (2, .inl v2)]) (st' := [.inl 0, .inl (m_rd h1 1 2), .inr (.inr 1)]) (h' := h3) (cs := []) (by decide +kernel) rfl trivial) ?_
            obtain ⟨x24, h23, hG, hF⟩ := bd_of hF
            have hq := rcv_ok (as := [.inl (m_rd h1 1 2), .inl 0]) (TO.gk (o_1 hL))
            obtain ⟨hN, hL, hQ⟩ := DX9_fail (d := d + 48) hL  hG
            refine RK.of (RN.cv (i := 53) (k := 91) (q2 := iX9_fail) (as := [.inr (.inr 1), .inl (m_rd h1 1 2), .inl 0]) (r := []) (v := some (.inl x24)) (h1 := h23) (by decide +kernel) rfl rfl rfl rfl rfl hq hN) ?_
            have hK := hK.tr hQ
            have hJ := hJ.tr hQ
            refine RK.of (RN.blk (ops := [(73, .pop)]) (pc' := 74) (lv' := [(3, .inl (m_rd h1 1 2)), (0, .inr (.inr 15)), (1, .inl v1), (2, .inl v2)]) (st' := []) (h' := h23) (cs := []) (by decide +kernel) rfl trivial) ?_
            refine RK.of (RN.goto (off := 82) (tgt := 156) (by decide +kernel)) ?_
            exact RK.sub (Jj5 _ _ hL hJ hF) (sub_cons rfl (sub_cons rfl (sub_cons rfl sub_nil)))
          · refine RK.of (RN.ift (cd := .ne) (off := 16) (tgt := 77) (by decide +kernel) (mif_ne hb)) ?_
            refine RK.of (RN.blk (ops := [(77, .iload_n 2), (78, .bipush 12)]) (pc' := 80) (lv' := [(3, .inl (m_rd h1 1 2)), (0, .inr (.inr 15)), (1, .inl v1), (2, .inl v2)]) (st' := [.inl 12, .inl v2]) (h' := h3) (cs := []) (by decide +kernel) rfl trivial) ?_
            rcases it_of hF with ⟨hb, hF⟩ | ⟨hb, hF⟩
            · refine RK.of (RN.ict (cd := .lt) (off := 16) (tgt := 96) (by decide +kernel) (mif_lt hb)) ?_
              refine RK.of (RN.blk (ops := [(96, .aload_n 0)]) (pc' := 97) (lv' := [(3, .inl (m_rd h1 1 2)), (0, .inr (.inr 15)), (1, .inl v1), (2, .inl v2)]) (st' := [.inr (.inr 15)]) (h' := h3) (cs := []) (by decide +kernel) rfl trivial) ?_
              obtain ⟨x11, h10, hG, hF⟩ := bd_of hF
              have hq := rcv_ok (as := []) (TO.gk (o_15 hL))
              obtain ⟨hN, hL, hQ⟩ := DX6_takeSum (d := d + 40) hL  hG
              refine RK.of (RN.cv (i := 57) (k := 60) (q2 := iX6_takeSum) (as := [.inr (.inr 15)]) (r := []) (v := some (.inl x11)) (h1 := h10) (by decide +kernel) rfl rfl rfl rfl rfl hq hN) ?_
              have hK := hK.tr hQ
              have hJ := hJ.tr hQ
              rcases it_of hF with ⟨hb, hF⟩ | ⟨hb, hF⟩
              · refine RK.of (RN.ift (cd := .eq) (off := 56) (tgt := 156) (by decide +kernel) (mif_eq hb)) ?_
                exact RK.sub (Jj5 _ _ hL hJ hF) (sub_cons rfl (sub_cons rfl (sub_cons rfl sub_nil)))
              · refine RK.of (RN.iff (cd := .eq) (off := 56) (tgt := 156) (by decide +kernel) (mif_eqn hb)) ?_
                refine RK.of (RN.blk (ops := [(103, .aload_n 0)]) (pc' := 104) (lv' := [(3, .inl (m_rd h1 1 2)), (0, .inr (.inr 15)), (1, .inl v1), (2, .inl v2)]) (st' := [.inr (.inr 15)]) (h' := h10) (cs := []) (by decide +kernel) rfl trivial) ?_
                refine RK.of (RN.gr (i := 15) (ci := 6) (k := 3) (fn := true) (v := 17) (by decide +kernel) rfl (TO.gk (o_15 hL)) (hL.fa (v := 17) 3 1 12 (o_15 hL) rfl (by decide) rfl (by decide)).1) ?_
                obtain ⟨hc, hF⟩ := gd_of hF
                refine RK.of (RN.blk (ops := [(107, .iload_n 2), (108, .aload_n 0), (109, .getfield 30), (112, .iastore)]) (pc' := 113) (lv' := [(3, .inl (m_rd h1 1 2)), (0, .inr (.inr 15)), (1, .inl v1), (2, .inl v2)]) (st' := []) (h' := (m_wr h10 17 v2 (m_rd h10 15 2))) (cs := [GK h10 15 6, GI h10 17 1 v2]) (by decide +kernel) rfl ⟨(o_15 hL).gk, (a_17 hL).gi hc.1.1 hc.1.2, trivial⟩) ?_
                have hL : LR (m_wr h10 17 v2 (m_rd h10 15 2)) := hL.wa (TA.le5 (a_17 hL) (by decide))
                have hK := hK.tr (KD.wr : KD h10 (m_wr h10 17 v2 (m_rd h10 15 2)))
                have hJ := hJ.tr (KD.wr : KD h10 (m_wr h10 17 v2 (m_rd h10 15 2)))
                refine RK.of (RN.blk (ops := [(113, .aload_n 0)]) (pc' := 114) (lv' := [(3, .inl (m_rd h1 1 2)), (0, .inr (.inr 15)), (1, .inl v1), (2, .inl v2)]) (st' := [.inr (.inr 15)]) (h' := (m_wr h10 17 v2 (m_rd h10 15 2))) (cs := []) (by decide +kernel) rfl trivial) ?_
                refine RK.of (RN.gr (i := 21) (ci := 6) (k := 0) (fn := true) (v := 1) (by decide +kernel) rfl (TO.gk (o_15 hL)) (hL.fo (v := 1) 0 9 (o_15 hL) rfl (by decide) rfl).1) ?_
                refine RK.of (RN.blk (ops := [(117, .ldc 61)]) (pc' := 119) (lv' := [(3, .inl (m_rd h1 1 2)), (0, .inr (.inr 15)), (1, .inl v1), (2, .inl v2)]) (st' := [.inr (.inr (-25)), .inr (.inr 1)]) (h' := (m_wr h10 17 v2 (m_rd h10 15 2))) (cs := []) (by decide +kernel) rfl trivial) ?_
                obtain ⟨x13, h12, hG, hF⟩ := bd_of hF
                have hq := rcv_ok (as := [.inr (.inr (-25))]) (TO.gk (o_1 hL))
                obtain ⟨hN, hL, hQ⟩ := DX9_takeWord (d := d + 42) hL  hG
                refine RK.of (RN.cv (i := 49) (k := 95) (q2 := iX9_takeWord) (as := [.inr (.inr 1), .inr (.inr (-25))]) (r := []) (v := some (.inl x13)) (h1 := h12) (by decide +kernel) rfl rfl rfl rfl rfl hq hN) ?_
                have hK := hK.tr hQ
                have hJ := hJ.tr hQ
                refine jn_use (fun j14 => ∀ (s15 : Int) (h16 : MH), LR h16 → KD hB h16 → j14 s15 h16 = some r → RK xs L iX6_parse (d + 49) 138 [(0, .inr (.inr 15)), (2, .inl v2)] [.inl s15] h16 (RIo r) h0 r.2) ?_ ?_ hF
                · intro s15 h16 hL hJ hF
                  have hK := hB0.tr hJ
                  refine RK.of (RN.blk (ops := [(138, .istore_n 1), (139, .aload_n 0)]) (pc' := 140) (lv' := [(1, .inl s15), (0, .inr (.inr 15)), (2, .inl v2)]) (st' := [.inr (.inr 15)]) (h' := h16) (cs := []) (by decide +kernel) rfl trivial) ?_
                  refine RK.of (RN.gr (i := 18) (ci := 6) (k := 4) (fn := true) (v := 18) (by decide +kernel) rfl (TO.gk (o_15 hL)) (hL.fa (v := 18) 4 1 12 (o_15 hL) rfl (by decide) rfl (by decide)).1) ?_
                  obtain ⟨hc, hF⟩ := gd_of hF
                  refine RK.of (RN.blk (ops := [(143, .iload_n 2), (144, .aload_n 0), (145, .getfield 30), (148, .iastore)]) (pc' := 149) (lv' := [(1, .inl s15), (0, .inr (.inr 15)), (2, .inl v2)]) (st' := []) (h' := (m_wr h16 18 v2 (m_rd h16 15 2))) (cs := [GK h16 15 6, GI h16 18 1 v2]) (by decide +kernel) rfl ⟨(o_15 hL).gk, (a_18 hL).gi hc.1.1 hc.1.2, trivial⟩) ?_
                  have hL : LR (m_wr h16 18 v2 (m_rd h16 15 2)) := hL.wa (TA.le5 (a_18 hL) (by decide))
                  have hK := hK.tr (KD.wr : KD h16 (m_wr h16 18 v2 (m_rd h16 15 2)))
                  have hJ := hJ.tr (KD.wr : KD h16 (m_wr h16 18 v2 (m_rd h16 15 2)))
                  refine RK.of (RN.blk (ops := [(149, .aload_n 0), (150, .iload_n 2), (151, .iconst 1), (152, .iadd), (153, .putfield 34)]) (pc' := 156) (lv' := [(1, .inl s15), (0, .inr (.inr 15)), (2, .inl v2)]) (st' := []) (h' := (m_wr (m_wr h16 18 v2 (m_rd h16 15 2)) 15 5 (m_w32 (v2 + 1)))) (cs := [GK (m_wr h16 18 v2 (m_rd h16 15 2)) 15 6]) (by decide +kernel) rfl ⟨(o_15 hL).gk, trivial⟩) ?_
                  have hL : LR (m_wr (m_wr h16 18 v2 (m_rd h16 15 2)) 15 5 (m_w32 (v2 + 1))) := LR.wf (k := 5) hL (o_15 hL) rfl
                  have hK := hK.tr (KD.wr : KD (m_wr h16 18 v2 (m_rd h16 15 2)) (m_wr (m_wr h16 18 v2 (m_rd h16 15 2)) 15 5 (m_w32 (v2 + 1))))
                  have hJ := hJ.tr (KD.wr : KD (m_wr h16 18 v2 (m_rd h16 15 2)) (m_wr (m_wr h16 18 v2 (m_rd h16 15 2)) 15 5 (m_w32 (v2 + 1))))
                  exact RK.sub (Jj5 _ _ hL hJ hF) (sub_cons rfl (sub_cons rfl (sub_cons rfl sub_nil)))
                · intro j14 Jj14 hF
                  refine jn_use (fun j17 => ∀ (h18 : MH), LR h18 → KD hB h18 → j17 h18 = some r → RK xs L iX6_parse (d + 49) 133 [(0, .inr (.inr 15)), (2, .inl v2)] [] h18 (RIo r) h0 r.2) ?_ ?_ hF
                  · intro h18 hL hJ hF
                    have hK := hB0.tr hJ
                    refine RK.of (RN.blk (ops := [(133, .iconst 1)]) (pc' := 134) (lv' := [(0, .inr (.inr 15)), (2, .inl v2)]) (st' := [.inl 1]) (h' := h18) (cs := []) (by decide +kernel) rfl trivial) ?_
                    refine RK.of (RN.goto (off := 4) (tgt := 138) (by decide +kernel)) ?_
                    exact RK.sub (Jj14 _ _ hL hJ hF) (sub_cons rfl (sub_cons rfl sub_nil))
                  · intro j17 Jj17 hF
                    rcases it_of hF with ⟨hb, hF⟩ | ⟨hb, hF⟩
                    · refine RK.of (RN.ift (cd := .eq) (off := 11) (tgt := 133) (by decide +kernel) (mif_eq hb)) ?_
                      exact RK.sub (Jj17 _ hL hJ hF) (sub_cons rfl (sub_cons rfl sub_nil))
                    · refine RK.of (RN.iff (cd := .eq) (off := 11) (tgt := 133) (by decide +kernel) (mif_eqn hb)) ?_
                      refine RK.of (RN.blk (ops := [(125, .aload_n 0), (126, .iconst 0)]) (pc' := 127) (lv' := [(3, .inl (m_rd h1 1 2)), (0, .inr (.inr 15)), (1, .inl v1), (2, .inl v2)]) (st' := [.inl 0, .inr (.inr 15)]) (h' := h12) (cs := []) (by decide +kernel) rfl trivial) ?_
                      obtain ⟨x20, h19, hG, hF⟩ := bd_of hF
                      have hq := rcv_ok (as := [.inl 0]) (TO.gk (o_15 hL))
                      obtain ⟨hN, hL, hQ⟩ := DX6_takeTest (d := d) hL  hG
                      refine RK.of (RN.cv (i := 63) (k := 57) (q2 := iX6_takeTest) (as := [.inr (.inr 15), .inl 0]) (r := []) (v := some (.inl x20)) (h1 := h19) (by decide +kernel) rfl rfl rfl rfl rfl hq hN) ?_
                      have hK := hK.tr hQ
                      have hJ := hJ.tr hQ
                      rcases it_of hF with ⟨hb, hF⟩ | ⟨hb, hF⟩
                      · refine RK.of (RN.ift (cd := .eq) (off := 7) (tgt := 137) (by decide +kernel) (mif_eq hb)) ?_
                        refine RK.of (RN.blk (ops := [(137, .iconst 0)]) (pc' := 138) (lv' := [(3, .inl (m_rd h1 1 2)), (0, .inr (.inr 15)), (1, .inl v1), (2, .inl v2)]) (st' := [.inl 0]) (h' := h19) (cs := []) (by decide +kernel) rfl trivial) ?_
                        exact RK.sub (Jj14 _ _ hL hJ hF) (sub_cons rfl (sub_cons rfl sub_nil))
                      · refine RK.of (RN.iff (cd := .eq) (off := 7) (tgt := 137) (by decide +kernel) (mif_eqn hb)) ?_
                        exact RK.sub (Jj17 _ hL hJ hF) (sub_cons rfl (sub_cons rfl sub_nil))
            · refine RK.of (RN.icf (cd := .lt) (off := 16) (tgt := 96) (by decide +kernel) (mif_ltn hb)) ?_
              refine RK.of (RN.blk (ops := [(83, .aload_n 0)]) (pc' := 84) (lv' := [(3, .inl (m_rd h1 1 2)), (0, .inr (.inr 15)), (1, .inl v1), (2, .inl v2)]) (st' := [.inr (.inr 15)]) (h' := h3) (cs := []) (by decide +kernel) rfl trivial) ?_
              refine RK.of (RN.gr (i := 21) (ci := 6) (k := 0) (fn := true) (v := 1) (by decide +kernel) rfl (TO.gk (o_15 hL)) (hL.fo (v := 1) 0 9 (o_15 hL) rfl (by decide) rfl).1) ?_
              refine RK.of (RN.blk (ops := [(87, .iload_n 3), (88, .iconst 4)]) (pc' := 89) (lv' := [(3, .inl (m_rd h1 1 2)), (0, .inr (.inr 15)), (1, .inl v1), (2, .inl v2)]) (st' := [.inl 4, .inl (m_rd h1 1 2), .inr (.inr 1)]) (h' := h3) (cs := []) (by decide +kernel) rfl trivial) ?_
              obtain ⟨x22, h21, hG, hF⟩ := bd_of hF
              have hq := rcv_ok (as := [.inl (m_rd h1 1 2), .inl 4]) (TO.gk (o_1 hL))
              obtain ⟨hN, hL, hQ⟩ := DX9_fail (d := d + 48) hL  hG
              refine RK.of (RN.cv (i := 53) (k := 91) (q2 := iX9_fail) (as := [.inr (.inr 1), .inl (m_rd h1 1 2), .inl 4]) (r := []) (v := some (.inl x22)) (h1 := h21) (by decide +kernel) rfl rfl rfl rfl rfl hq hN) ?_
              have hK := hK.tr hQ
              have hJ := hJ.tr hQ
              refine RK.of (RN.blk (ops := [(92, .pop)]) (pc' := 93) (lv' := [(3, .inl (m_rd h1 1 2)), (0, .inr (.inr 15)), (1, .inl v1), (2, .inl v2)]) (st' := []) (h' := h21) (cs := []) (by decide +kernel) rfl trivial) ?_
              refine RK.of (RN.goto (off := 63) (tgt := 156) (by decide +kernel)) ?_
              exact RK.sub (Jj5 _ _ hL hJ hF) (sub_cons rfl (sub_cons rfl (sub_cons rfl sub_nil)))
noncomputable def GX6_parse (h : MH) : Option (Int × MH) :=
  (bv (GX9_rewind h) (fun h1 =>
   GX6_parse_L26 (fun h2 =>
    some ((m_rd h2 1 3), h2)) FU 1 0 (m_wr (m_wr (m_wr h1 15 2 0) 15 5 0) 15 6 0)))
theorem DX6_parse {d : Nat} {h : MH} {r : Int × MH} (hL : LR h) (hF : GX6_parse h = some r) : RN xs L iX6_parse (d + 49) 0 (lvE 0 [.inr (.inr 15)]) [] h (RIo r) ∧ LR r.2 ∧ KD h r.2 := by
  unfold GX6_parse at hF
  have hK : KD h h := KD.rf
  show RK xs L iX6_parse (d + 49) 0 (lvE 0 [.inr (.inr 15)]) [] h (RIo r) h r.2
  refine RK.of (RN.blk (ops := [(0, .aload_n 0)]) (pc' := 1) (lv' := [(0, .inr (.inr 15))]) (st' := [.inr (.inr 15)]) (h' := h) (cs := []) (by decide +kernel) rfl trivial) ?_
  refine RK.of (RN.gr (i := 21) (ci := 6) (k := 0) (fn := true) (v := 1) (by decide +kernel) rfl (TO.gk (o_15 hL)) (hL.fo (v := 1) 0 9 (o_15 hL) rfl (by decide) rfl).1) ?_
  obtain ⟨h1, hG, hF⟩ := bv_of hF
  have hq := rcv_ok (as := []) (TO.gk (o_1 hL))
  obtain ⟨hN, hL, hQ⟩ := DX9_rewind (d := d + 48) hL  hG
  refine RK.of (RN.cv (i := 25) (k := 90) (q2 := iX9_rewind) (as := [.inr (.inr 1)]) (r := []) (v := none) (h1 := h1) (by decide +kernel) rfl rfl rfl rfl rfl hq hN) ?_
  have hK := hK.tr hQ
  refine RK.of (RN.blk (ops := [(7, .aload_n 0), (8, .iconst 0), (9, .putfield 30)]) (pc' := 12) (lv' := [(0, .inr (.inr 15))]) (st' := []) (h' := (m_wr h1 15 2 0)) (cs := [GK h1 15 6]) (by decide +kernel) rfl ⟨(o_15 hL).gk, trivial⟩) ?_
  have hL : LR (m_wr h1 15 2 0) := LR.wf (k := 2) hL (o_15 hL) rfl
  have hK := hK.tr (KD.wr : KD h1 (m_wr h1 15 2 0))
  refine RK.of (RN.blk (ops := [(12, .aload_n 0), (13, .iconst 0), (14, .putfield 34)]) (pc' := 17) (lv' := [(0, .inr (.inr 15))]) (st' := []) (h' := (m_wr (m_wr h1 15 2 0) 15 5 0)) (cs := [GK (m_wr h1 15 2 0) 15 6]) (by decide +kernel) rfl ⟨(o_15 hL).gk, trivial⟩) ?_
  have hL : LR (m_wr (m_wr h1 15 2 0) 15 5 0) := LR.wf (k := 5) hL (o_15 hL) rfl
  have hK := hK.tr (KD.wr : KD (m_wr h1 15 2 0) (m_wr (m_wr h1 15 2 0) 15 5 0))
  refine RK.of (RN.blk (ops := [(17, .aload_n 0), (18, .iconst 0), (19, .putfield 37)]) (pc' := 22) (lv' := [(0, .inr (.inr 15))]) (st' := []) (h' := (m_wr (m_wr (m_wr h1 15 2 0) 15 5 0) 15 6 0)) (cs := [GK (m_wr (m_wr h1 15 2 0) 15 5 0) 15 6]) (by decide +kernel) rfl ⟨(o_15 hL).gk, trivial⟩) ?_
  have hL : LR (m_wr (m_wr (m_wr h1 15 2 0) 15 5 0) 15 6 0) := LR.wf (k := 6) hL (o_15 hL) rfl
  have hK := hK.tr (KD.wr : KD (m_wr (m_wr h1 15 2 0) 15 5 0) (m_wr (m_wr (m_wr h1 15 2 0) 15 5 0) 15 6 0))
  refine RK.of (RN.blk (ops := [(22, .iconst 1), (23, .istore_n 1), (24, .iconst 0), (25, .istore_n 2)]) (pc' := 26) (lv' := [(2, .inl 0), (1, .inl 1), (0, .inr (.inr 15))]) (st' := []) (h' := (m_wr (m_wr (m_wr h1 15 2 0) 15 5 0) 15 6 0)) (cs := []) (by decide +kernel) rfl trivial) ?_
  refine RK.sub (DX6_parse_L26 hK ?_ _ _ _ _ hL KD.rf hF) (sub_cons rfl (sub_cons rfl (sub_cons rfl sub_nil)))
  · intro h2 hL hq hF
    have hK := hK.tr hq
    refine RK.of (RN.blk (ops := [(192, .aload_n 0)]) (pc' := 193) (lv' := [(0, .inr (.inr 15))]) (st' := [.inr (.inr 15)]) (h' := h2) (cs := []) (by decide +kernel) rfl trivial) ?_
    refine RK.of (RN.gr (i := 21) (ci := 6) (k := 0) (fn := true) (v := 1) (by decide +kernel) rfl (TO.gk (o_15 hL)) (hL.fo (v := 1) 0 9 (o_15 hL) rfl (by decide) rfl).1) ?_
    refine RK.of (RN.blk (ops := [(196, .getfield 67)]) (pc' := 199) (lv' := [(0, .inr (.inr 15))]) (st' := [.inl (m_rd h2 1 3)]) (h' := h2) (cs := [GK h2 1 9]) (by decide +kernel) rfl ⟨(o_1 hL).gk, trivial⟩) ?_
    exact RK.iR (by decide +kernel) rfl hL hK hF
noncomputable def GX7_start (a1 : Int) (a2 : Int) (h : MH) : Option (MH) :=
  (bv (GX8_copyFrom 311 a1 h) (fun h1 =>
   (bv (GX10_copyFrom 314 a2 h1) (fun h2 =>
    (bv (GX1_draw 311 315 h2) (fun h3 =>
     some h3))))))
theorem DX7_start {d : Nat} {a1 : Int} {a2 : Int} {h : MH} {r : MH} (hL : LR h) (k0_a1 : TO h a1 8) (k0_a2 : TO h a2 10) (hF : GX7_start a1 a2 h = some r) : RN xs L iX7_start (d + 3) 0 (lvE 0 [.inr (.inr 310), .inr (.inr a1), .inr (.inr a2)]) [] h (RVo r) ∧ LR r ∧ KD h r := by
  unfold GX7_start at hF
  have hK : KD h h := KD.rf
  have k_a1 := k0_a1
  have k_a2 := k0_a2
  show RK xs L iX7_start (d + 3) 0 (lvE 0 [.inr (.inr 310), .inr (.inr a1), .inr (.inr a2)]) [] h (RVo r) h r
  refine RK.of (RN.blk (ops := [(0, .aload_n 0)]) (pc' := 1) (lv' := [(0, .inr (.inr 310)), (1, .inr (.inr a1)), (2, .inr (.inr a2))]) (st' := [.inr (.inr 310)]) (h' := h) (cs := []) (by decide +kernel) rfl trivial) ?_
  refine RK.of (RN.gr (i := 12) (ci := 7) (k := 0) (fn := true) (v := 311) (by decide +kernel) rfl (TO.gk (o_310 hL)) (hL.fo (v := 311) 0 8 (o_310 hL) rfl (by decide) rfl).1) ?_
  refine RK.of (RN.blk (ops := [(4, .aload_n 1)]) (pc' := 5) (lv' := [(0, .inr (.inr 310)), (1, .inr (.inr a1)), (2, .inr (.inr a2))]) (st' := [.inr (.inr a1), .inr (.inr 311)]) (h' := h) (cs := []) (by decide +kernel) rfl trivial) ?_
  obtain ⟨h1, hG, hF⟩ := bv_of hF
  have hq := rcv_ok (as := [.inr (.inr a1)]) (TO.gk (o_311 hL))
  obtain ⟨hN, hL, hQ⟩ := DX8_copyFrom (d := d + 1) hL (o_311 hL) k_a1 hG
  refine RK.of (RN.cv (i := 37) (k := 80) (q2 := iX8_copyFrom) (as := [.inr (.inr 311), .inr (.inr a1)]) (r := []) (v := none) (h1 := h1) (by decide +kernel) rfl rfl rfl rfl rfl hq hN) ?_
  have k_a1 := hQ.to k_a1
  have k_a2 := hQ.to k_a2
  have hK := hK.tr hQ
  refine RK.of (RN.blk (ops := [(8, .aload_n 0)]) (pc' := 9) (lv' := [(0, .inr (.inr 310)), (1, .inr (.inr a1)), (2, .inr (.inr a2))]) (st' := [.inr (.inr 310)]) (h' := h1) (cs := []) (by decide +kernel) rfl trivial) ?_
  refine RK.of (RN.gr (i := 21) (ci := 7) (k := 1) (fn := true) (v := 314) (by decide +kernel) rfl (TO.gk (o_310 hL)) (hL.fo (v := 314) 1 10 (o_310 hL) rfl (by decide) rfl).1) ?_
  refine RK.of (RN.blk (ops := [(12, .aload_n 2)]) (pc' := 13) (lv' := [(0, .inr (.inr 310)), (1, .inr (.inr a1)), (2, .inr (.inr a2))]) (st' := [.inr (.inr a2), .inr (.inr 314)]) (h' := h1) (cs := []) (by decide +kernel) rfl trivial) ?_
  obtain ⟨h2, hG, hF⟩ := bv_of hF
  have hq := rcv_ok (as := [.inr (.inr a2)]) (TO.gk (o_314 hL))
  obtain ⟨hN, hL, hQ⟩ := DX10_copyFrom (d := d) hL (o_314 hL) k_a2 hG
  refine RK.of (RN.cv (i := 41) (k := 101) (q2 := iX10_copyFrom) (as := [.inr (.inr 314), .inr (.inr a2)]) (r := []) (v := none) (h1 := h2) (by decide +kernel) rfl rfl rfl rfl rfl hq hN) ?_
  have k_a1 := hQ.to k_a1
  have k_a2 := hQ.to k_a2
  have hK := hK.tr hQ
  refine RK.of (RN.blk (ops := [(16, .aload_n 0)]) (pc' := 17) (lv' := [(0, .inr (.inr 310)), (1, .inr (.inr a1)), (2, .inr (.inr a2))]) (st' := [.inr (.inr 310)]) (h' := h2) (cs := []) (by decide +kernel) rfl trivial) ?_
  refine RK.of (RN.gr (i := 33) (ci := 7) (k := 3) (fn := true) (v := 298) (by decide +kernel) rfl (TO.gk (o_310 hL)) (hL.fo (v := 298) 3 1 (o_310 hL) rfl (by decide) rfl).1) ?_
  refine RK.of (RN.blk (ops := [(20, .aload_n 0)]) (pc' := 21) (lv' := [(0, .inr (.inr 310)), (1, .inr (.inr a1)), (2, .inr (.inr a2))]) (st' := [.inr (.inr 310), .inr (.inr 298)]) (h' := h2) (cs := []) (by decide +kernel) rfl trivial) ?_
  refine RK.of (RN.gr (i := 12) (ci := 7) (k := 0) (fn := true) (v := 311) (by decide +kernel) rfl (TO.gk (o_310 hL)) (hL.fo (v := 311) 0 8 (o_310 hL) rfl (by decide) rfl).1) ?_
  refine RK.of (RN.blk (ops := [(24, .aload_n 0)]) (pc' := 25) (lv' := [(0, .inr (.inr 310)), (1, .inr (.inr a1)), (2, .inr (.inr a2))]) (st' := [.inr (.inr 310), .inr (.inr 311), .inr (.inr 298)]) (h' := h2) (cs := []) (by decide +kernel) rfl trivial) ?_
  refine RK.of (RN.gr (i := 21) (ci := 7) (k := 1) (fn := true) (v := 314) (by decide +kernel) rfl (TO.gk (o_310 hL)) (hL.fo (v := 314) 1 10 (o_310 hL) rfl (by decide) rfl).1) ?_
  refine RK.of (RN.gr (i := 44) (ci := 10) (k := 0) (fn := true) (v := 315) (by decide +kernel) rfl (TO.gk (o_314 hL)) (hL.fo (v := 315) 0 4 (o_314 hL) rfl (by decide) rfl).1) ?_
  obtain ⟨h3, hG, hF⟩ := bv_of hF
  have hq := rcv_ok (as := [.inr (.inr 311), .inr (.inr 315)]) (TO.gk (o_298 hL))
  obtain ⟨hN, hL, hQ⟩ := DX1_draw (d := d) hL (o_311 hL) (o_315 hL) hG
  refine RK.of (RN.cv (i := 48) (k := 12) (q2 := iX1_draw) (as := [.inr (.inr 298), .inr (.inr 311), .inr (.inr 315)]) (r := []) (v := none) (h1 := h3) (by decide +kernel) rfl rfl rfl rfl rfl hq hN) ?_
  have k_a1 := hQ.to k_a1
  have k_a2 := hQ.to k_a2
  have hK := hK.tr hQ
  exact RK.vR (by decide +kernel) rfl hL hK hF
noncomputable def GX10_takeOut_L33 (u0 : Int) (u2 : Int) (K0 : MH → Option (Int × MH)) : Nat → Int → MH → Option (Int × MH)
  | 0, _, _ => none
  | f + 1, v3, h =>
    (if v3 < (m_rd h u0 1) then
     gd [IB (m_w32 (v3 + 1)) 20, IB v3 20] (
      GX10_takeOut_L33 u0 u2 K0 f (m_w32 (v3 + 1)) (m_wr h (u0 + 5) v3 (m_rd h (u0 + 5) (m_w32 (v3 + 1)))))
    else
     K0 h)
theorem DX10_takeOut_L33 {d : Nat} {u0 : Int} {u2 : Int} {K0 : MH → Option (Int × MH)} {r : Int × MH} {h0 hB : MH} (hB0 : KD h0 hB) (k0_u0 : TO hB u0 10) (hK0 : ∀ (h : MH), LR h → KD hB h → K0 h = some r → RK xs L iX10_takeOut (d) 61 [(2, .inl u2)] [] h (RIo r) h0 r.2) : ∀ (f : Nat) (v3 : Int) (h : MH), LR h → KD hB h → GX10_takeOut_L33 u0 u2 K0 f v3 h = some r → RK xs L iX10_takeOut (d) 33 [(0, .inr (.inr u0)), (2, .inl u2), (3, .inl v3)] [] h (RIo r) h0 r.2 := by
  intro f
  induction f with
  | zero =>
    intro v3 h hL hJ hF
    cases hF
  | succ f ih =>
    intro v3 h hL hJ hF
    unfold GX10_takeOut_L33 at hF
    have hK := hB0.tr hJ
    have k_u0 := hJ.to k0_u0
    refine RK.of (RN.blk (ops := [(33, .iload_n 3), (34, .aload_n 0), (35, .getfield 32)]) (pc' := 38) (lv' := [(0, .inr (.inr u0)), (2, .inl u2), (3, .inl v3)]) (st' := [.inl (m_rd h u0 1), .inl v3]) (h' := h) (cs := [GK h u0 10]) (by decide +kernel) rfl ⟨k_u0.gk, trivial⟩) ?_
    rcases it_of hF with ⟨hb, hF⟩ | ⟨hb, hF⟩
    · refine RK.of (RN.icf (cd := .ge) (off := 23) (tgt := 61) (by decide +kernel) (mif_gen hb)) ?_
      refine RK.of (RN.blk (ops := [(41, .aload_n 0)]) (pc' := 42) (lv' := [(0, .inr (.inr u0)), (2, .inl u2), (3, .inl v3)]) (st' := [.inr (.inr u0)]) (h' := h) (cs := []) (by decide +kernel) rfl trivial) ?_
      refine RK.of (RN.gr (i := 18) (ci := 10) (k := 2) (fn := true) (v := (u0 + 5)) (by decide +kernel) rfl (TO.gk k_u0) (hL.fa (v := (u0 + 5)) 2 1 20 k_u0 rfl rfl rfl (by decide)).1) ?_
      refine RK.of (RN.blk (ops := [(45, .iload_n 3), (46, .aload_n 0)]) (pc' := 47) (lv' := [(0, .inr (.inr u0)), (2, .inl u2), (3, .inl v3)]) (st' := [.inr (.inr u0), .inl v3, .inr (.inr (u0 + 5))]) (h' := h) (cs := []) (by decide +kernel) rfl trivial) ?_
      refine RK.of (RN.gr (i := 18) (ci := 10) (k := 2) (fn := true) (v := (u0 + 5)) (by decide +kernel) rfl (TO.gk k_u0) (hL.fa (v := (u0 + 5)) 2 1 20 k_u0 rfl rfl rfl (by decide)).1) ?_
      obtain ⟨hc, hF⟩ := gd_of hF
      refine RK.of (RN.blk (ops := [(50, .iload_n 3), (51, .iconst 1), (52, .iadd), (53, .iaload), (54, .iastore)]) (pc' := 55) (lv' := [(0, .inr (.inr u0)), (2, .inl u2), (3, .inl v3)]) (st' := []) (h' := (m_wr h (u0 + 5) v3 (m_rd h (u0 + 5) (m_w32 (v3 + 1))))) (cs := [GI h (u0 + 5) 1 (m_w32 (v3 + 1)), GI h (u0 + 5) 1 v3]) (by decide +kernel) rfl ⟨(hL.fa 2 1 20 k_u0 rfl rfl rfl (by decide)).2.gi hc.1.1 hc.1.2, (hL.fa 2 1 20 k_u0 rfl rfl rfl (by decide)).2.gi hc.2.1.1 hc.2.1.2, trivial⟩) ?_
      have hL : LR (m_wr h (u0 + 5) v3 (m_rd h (u0 + 5) (m_w32 (v3 + 1)))) := hL.wa (TA.le5 (hL.fa 2 1 20 k_u0 rfl rfl rfl (by decide)).2 (by decide))
      have k_u0 := (KD.wr : KD h (m_wr h (u0 + 5) v3 (m_rd h (u0 + 5) (m_w32 (v3 + 1))))).to k_u0
      have hK := hK.tr (KD.wr : KD h (m_wr h (u0 + 5) v3 (m_rd h (u0 + 5) (m_w32 (v3 + 1)))))
      have hJ := hJ.tr (KD.wr : KD h (m_wr h (u0 + 5) v3 (m_rd h (u0 + 5) (m_w32 (v3 + 1)))))
      refine RK.of (RN.blk (ops := [(55, .iinc 3 1)]) (pc' := 58) (lv' := [(3, .inl (m_w32 (v3 + 1))), (0, .inr (.inr u0)), (2, .inl u2)]) (st' := []) (h' := (m_wr h (u0 + 5) v3 (m_rd h (u0 + 5) (m_w32 (v3 + 1))))) (cs := []) (by decide +kernel) rfl trivial) ?_
      refine RK.of (RN.goto (off := -25) (tgt := 33) (by decide +kernel)) ?_
      exact RK.sub (ih _ _ hL hJ hF) (sub_cons rfl (sub_cons rfl (sub_cons rfl sub_nil)))
    · refine RK.of (RN.ict (cd := .ge) (off := 23) (tgt := 61) (by decide +kernel) (mif_ge hb)) ?_
      exact RK.sub (hK0 _ hL hJ hF) (sub_cons rfl sub_nil)
noncomputable def GX10_takeOut (t : Int) (a1 : Int) (h : MH) : Option (Int × MH) :=
  (if a1 < 0 then
   some ((-1), h)
  else
   (if a1 < (m_rd h t 1) then
    gd [IB a1 20] (
     GX10_takeOut_L33 t (m_rd h (t + 5) a1) (fun h1 =>
      some ((m_rd h (t + 5) a1), h1)) FU a1 (m_wr h t 1 (m_w32 ((m_rd h t 1) - 1))))
   else
    some ((-1), h)))
theorem DX10_takeOut {d : Nat} {t : Int} {a1 : Int} {h : MH} {r : Int × MH} (hL : LR h) (k0_t : TO h t 10) (hF : GX10_takeOut t a1 h = some r) : RN xs L iX10_takeOut (d) 0 (lvE 0 [.inr (.inr t), .inl a1]) [] h (RIo r) ∧ LR r.2 ∧ KD h r.2 := by
  unfold GX10_takeOut at hF
  have hK : KD h h := KD.rf
  have k_t := k0_t
  show RK xs L iX10_takeOut (d) 0 (lvE 0 [.inr (.inr t), .inl a1]) [] h (RIo r) h r.2
  refine RK.of (RN.blk (ops := [(0, .iload_n 1)]) (pc' := 1) (lv' := [(0, .inr (.inr t)), (1, .inl a1)]) (st' := [.inl a1]) (h' := h) (cs := []) (by decide +kernel) rfl trivial) ?_
  rcases it_of hF with ⟨hb, hF⟩ | ⟨hb, hF⟩
  · refine RK.of (RN.ift (cd := .lt) (off := 11) (tgt := 12) (by decide +kernel) (mif_lt hb)) ?_
    refine RK.of (RN.blk (ops := [(12, .iconst (-1))]) (pc' := 13) (lv' := [(0, .inr (.inr t)), (1, .inl a1)]) (st' := [.inl (-1)]) (h' := h) (cs := []) (by decide +kernel) rfl trivial) ?_
    exact RK.iR (by decide +kernel) rfl hL hK hF
  · refine RK.of (RN.iff (cd := .lt) (off := 11) (tgt := 12) (by decide +kernel) (mif_ltn hb)) ?_
    refine RK.of (RN.blk (ops := [(4, .iload_n 1), (5, .aload_n 0), (6, .getfield 32)]) (pc' := 9) (lv' := [(0, .inr (.inr t)), (1, .inl a1)]) (st' := [.inl (m_rd h t 1), .inl a1]) (h' := h) (cs := [GK h t 10]) (by decide +kernel) rfl ⟨k_t.gk, trivial⟩) ?_
    rcases it_of hF with ⟨hb, hF⟩ | ⟨hb, hF⟩
    · refine RK.of (RN.ict (cd := .lt) (off := 5) (tgt := 14) (by decide +kernel) (mif_lt hb)) ?_
      refine RK.of (RN.blk (ops := [(14, .aload_n 0)]) (pc' := 15) (lv' := [(0, .inr (.inr t)), (1, .inl a1)]) (st' := [.inr (.inr t)]) (h' := h) (cs := []) (by decide +kernel) rfl trivial) ?_
      refine RK.of (RN.gr (i := 18) (ci := 10) (k := 2) (fn := true) (v := (t + 5)) (by decide +kernel) rfl (TO.gk k_t) (hL.fa (v := (t + 5)) 2 1 20 k_t rfl rfl rfl (by decide)).1) ?_
      obtain ⟨hc, hF⟩ := gd_of hF
      refine RK.of (RN.blk (ops := [(18, .iload_n 1), (19, .iaload), (20, .istore_n 2), (21, .aload_n 0), (22, .dup), (23, .getfield 32), (26, .iconst 1), (27, .isub), (28, .putfield 32)]) (pc' := 31) (lv' := [(2, .inl (m_rd h (t + 5) a1)), (0, .inr (.inr t)), (1, .inl a1)]) (st' := []) (h' := (m_wr h t 1 (m_w32 ((m_rd h t 1) - 1)))) (cs := [GI h (t + 5) 1 a1, GK h t 10, GK h t 10]) (by decide +kernel) rfl ⟨(hL.fa 2 1 20 k_t rfl rfl rfl (by decide)).2.gi hc.1.1 hc.1.2, k_t.gk, k_t.gk, trivial⟩) ?_
      have hL : LR (m_wr h t 1 (m_w32 ((m_rd h t 1) - 1))) := LR.wf (k := 1) hL k_t rfl
      have k_t := (KD.wr : KD h (m_wr h t 1 (m_w32 ((m_rd h t 1) - 1)))).to k_t
      have hK := hK.tr (KD.wr : KD h (m_wr h t 1 (m_w32 ((m_rd h t 1) - 1))))
      refine RK.of (RN.blk (ops := [(31, .iload_n 1), (32, .istore_n 3)]) (pc' := 33) (lv' := [(3, .inl a1), (2, .inl (m_rd h (t + 5) a1)), (0, .inr (.inr t)), (1, .inl a1)]) (st' := []) (h' := (m_wr h t 1 (m_w32 ((m_rd h t 1) - 1)))) (cs := []) (by decide +kernel) rfl trivial) ?_
      refine RK.sub (DX10_takeOut_L33 hK k_t ?_ _ _ _ hL KD.rf hF) (sub_cons rfl (sub_cons rfl (sub_cons rfl sub_nil)))
      · intro h1 hL hq hF
        have k_t := hq.to k_t
        have hK := hK.tr hq
        refine RK.of (RN.blk (ops := [(61, .iload_n 2)]) (pc' := 62) (lv' := [(2, .inl (m_rd h (t + 5) a1))]) (st' := [.inl (m_rd h (t + 5) a1)]) (h' := h1) (cs := []) (by decide +kernel) rfl trivial) ?_
        exact RK.iR (by decide +kernel) rfl hL hK hF
    · refine RK.of (RN.icf (cd := .lt) (off := 5) (tgt := 14) (by decide +kernel) (mif_ltn hb)) ?_
      refine RK.of (RN.blk (ops := [(12, .iconst (-1))]) (pc' := 13) (lv' := [(0, .inr (.inr t)), (1, .inl a1)]) (st' := [.inl (-1)]) (h' := h) (cs := []) (by decide +kernel) rfl trivial) ?_
      exact RK.iR (by decide +kernel) rfl hL hK hF
noncomputable def GX10_sumOf_L4 (u0 : Int) (K0 : Int → MH → Option (Int × MH)) : Nat → Int → Int → MH → Option (Int × MH)
  | 0, _, _, _ => none
  | f + 1, v1, v2, h =>
    gd [GL h u0] (
     (if v2 < (m_ln h u0) then
      gd [GI h u0 1 v2] (
       GX10_sumOf_L4 u0 K0 f (m_w32 (v1 + (m_rd h u0 v2))) (m_w32 (v2 + 1)) h)
     else
      K0 v1 h))
theorem DX10_sumOf_L4 {d : Nat} {u0 : Int} {K0 : Int → MH → Option (Int × MH)} {r : Int × MH} {h0 hB : MH} (hB0 : KD h0 hB) (hK0 : ∀ (w1 : Int) (h : MH), LR h → KD hB h → K0 w1 h = some r → RK xs L iX10_sumOf (d) 22 [(1, .inl w1)] [] h (RIo r) h0 r.2) : ∀ (f : Nat) (v1 : Int) (v2 : Int) (h : MH), LR h → KD hB h → GX10_sumOf_L4 u0 K0 f v1 v2 h = some r → RK xs L iX10_sumOf (d) 4 [(0, .inr (.inr u0)), (1, .inl v1), (2, .inl v2)] [] h (RIo r) h0 r.2 := by
  intro f
  induction f with
  | zero =>
    intro v1 v2 h hL hJ hF
    cases hF
  | succ f ih =>
    intro v1 v2 h hL hJ hF
    unfold GX10_sumOf_L4 at hF
    have hK := hB0.tr hJ
    obtain ⟨hc, hF⟩ := gd_of hF
    refine RK.of (RN.blk (ops := [(4, .iload_n 2), (5, .aload_n 0), (6, .arraylength)]) (pc' := 7) (lv' := [(0, .inr (.inr u0)), (1, .inl v1), (2, .inl v2)]) (st' := [.inl (m_ln h u0), .inl v2]) (h' := h) (cs := [GL h u0]) (by decide +kernel) rfl ⟨hc.1, trivial⟩) ?_
    rcases it_of hF with ⟨hb, hF⟩ | ⟨hb, hF⟩
    · refine RK.of (RN.icf (cd := .ge) (off := 15) (tgt := 22) (by decide +kernel) (mif_gen hb)) ?_
      obtain ⟨hc, hF⟩ := gd_of hF
      refine RK.of (RN.blk (ops := [(10, .iload_n 1), (11, .aload_n 0), (12, .iload_n 2), (13, .iaload), (14, .iadd), (15, .istore_n 1), (16, .iinc 2 1)]) (pc' := 19) (lv' := [(2, .inl (m_w32 (v2 + 1))), (1, .inl (m_w32 (v1 + (m_rd h u0 v2)))), (0, .inr (.inr u0))]) (st' := []) (h' := h) (cs := [GI h u0 1 v2]) (by decide +kernel) rfl ⟨hc.1, trivial⟩) ?_
      refine RK.of (RN.goto (off := -15) (tgt := 4) (by decide +kernel)) ?_
      exact RK.sub (ih _ _ _ hL hJ hF) (sub_cons rfl (sub_cons rfl (sub_cons rfl sub_nil)))
    · refine RK.of (RN.ict (cd := .ge) (off := 15) (tgt := 22) (by decide +kernel) (mif_ge hb)) ?_
      exact RK.sub (hK0 _ _ hL hJ hF) (sub_cons rfl sub_nil)
noncomputable def GX10_sumOf (a1 : Int) (h : MH) : Option (Int × MH) :=
  GX10_sumOf_L4 a1 (fun w1 h2 =>
   some (w1, h2)) FU 0 0 h
theorem DX10_sumOf {d : Nat} {a1 : Int} {h : MH} {r : Int × MH} (hL : LR h) (hF : GX10_sumOf a1 h = some r) : RN xs L iX10_sumOf (d) 0 (lvE 0 [.inr (.inr a1)]) [] h (RIo r) ∧ LR r.2 ∧ KD h r.2 := by
  unfold GX10_sumOf at hF
  have hK : KD h h := KD.rf
  show RK xs L iX10_sumOf (d) 0 (lvE 0 [.inr (.inr a1)]) [] h (RIo r) h r.2
  refine RK.of (RN.blk (ops := [(0, .iconst 0), (1, .istore_n 1), (2, .iconst 0), (3, .istore_n 2)]) (pc' := 4) (lv' := [(2, .inl 0), (1, .inl 0), (0, .inr (.inr a1))]) (st' := []) (h' := h) (cs := []) (by decide +kernel) rfl trivial) ?_
  refine RK.sub (DX10_sumOf_L4 hK ?_ _ _ _ _ hL KD.rf hF) (sub_cons rfl (sub_cons rfl (sub_cons rfl sub_nil)))
  · intro w1 h2 hL hq hF
    have hK := hK.tr hq
    refine RK.of (RN.blk (ops := [(22, .iload_n 1)]) (pc' := 23) (lv' := [(1, .inl w1)]) (st' := [.inl w1]) (h' := h2) (cs := []) (by decide +kernel) rfl trivial) ?_
    exact RK.iR (by decide +kernel) rfl hL hK hF
noncomputable def GX10_bagsOfAll (t : Int) (h : MH) : Option (Int × MH) :=
  (bd (GX10_sumOf (t + 7) h) (fun x2 h1 =>
   some (x2, h1)))
theorem DX10_bagsOfAll {d : Nat} {t : Int} {h : MH} {r : Int × MH} (hL : LR h) (k0_t : TO h t 10) (hF : GX10_bagsOfAll t h = some r) : RN xs L iX10_bagsOfAll (d + 1) 0 (lvE 0 [.inr (.inr t)]) [] h (RIo r) ∧ LR r.2 ∧ KD h r.2 := by
  unfold GX10_bagsOfAll at hF
  have hK : KD h h := KD.rf
  have k_t := k0_t
  show RK xs L iX10_bagsOfAll (d + 1) 0 (lvE 0 [.inr (.inr t)]) [] h (RIo r) h r.2
  refine RK.of (RN.blk (ops := [(0, .aload_n 0)]) (pc' := 1) (lv' := [(0, .inr (.inr t))]) (st' := [.inr (.inr t)]) (h' := h) (cs := []) (by decide +kernel) rfl trivial) ?_
  refine RK.of (RN.gr (i := 25) (ci := 10) (k := 4) (fn := true) (v := (t + 7)) (by decide +kernel) rfl (TO.gk k_t) (hL.fa (v := (t + 7)) 4 1 6 k_t rfl rfl rfl (by decide)).1) ?_
  obtain ⟨x2, h1, hG, hF⟩ := bd_of hF
  obtain ⟨hN, hL, hQ⟩ := DX10_sumOf (d := d) hL  hG
  refine RK.of (RN.cst (i := 57) (k := 108) (q2 := iX10_sumOf) (as := [.inr (.inr (t + 7))]) (r := []) (v := some (.inl x2)) (h1 := h1) (by decide +kernel) rfl rfl rfl rfl rfl hN) ?_
  have k_t := hQ.to k_t
  have hK := hK.tr hQ
  exact RK.iR (by decide +kernel) rfl hL hK hF
noncomputable def GX7_describe (a1 : Int) (h : MH) : Option (MH) :=
  gd [IB a1 20] (
   (bd (GX1_entryFor (m_rd h 319 a1) h) (fun x2 h1 =>
    jn (fun (s4 : Int) =>
     jn (fun (s6 : Int) =>
      (bd (GX8_digitOf 311 (m_rd h 319 a1) 0 (m_wr (m_wr h1 322 0 a1) 322 1 (m_rd h 319 a1))) (fun x8 h7 =>
       (bd (GX8_digitOf 311 (m_rd h 319 a1) (m_w32 ((m_rd (m_wr h7 322 2 x8) 311 1) - 1)) (m_wr h7 322 2 x8)) (fun x10 h9 =>
        jn (fun (s12 : Int) =>
         jn (fun (s14 : Int) =>
          (if s4 = 0 then
           some (m_wr (m_wr (m_wr (m_wr (m_wr h9 322 3 x10) 322 4 s6) 322 5 s12) 322 6 s14) 322 7 0)
          else
           gd [IB x2 12] (
            some (m_wr (m_wr (m_wr (m_wr (m_wr h9 322 3 x10) 322 4 s6) 322 5 s12) 322 6 s14) 322 7 (m_rd (m_wr (m_wr (m_wr (m_wr h9 322 3 x10) 322 4 s6) 322 5 s12) 322 6 s14) 316 x2))))) (fun j13 =>
          (if s4 = 0 then
           j13 0
          else
           gd [IB s6 6] (
            j13 (m_rd (m_wr (m_wr (m_wr h9 322 3 x10) 322 4 s6) 322 5 s12) 313 s6))))) (fun j11 =>
         (if s4 = 0 then
          j11 0
         else
          gd [IB s6 6] (
           j11 (m_rd (m_wr (m_wr h9 322 3 x10) 322 4 s6) 320 s6))))))))) (fun j5 =>
      (if s4 = 0 then
       j5 (-1)
      else
       gd [IB x2 12] (
        j5 (m_rd h1 318 x2))))) (fun j3 =>
     (if x2 = (-1) then
      j3 0
     else
      j3 1)))))
theorem DX7_describe {d : Nat} {a1 : Int} {h : MH} {r : MH} (hL : LR h) (hF : GX7_describe a1 h = some r) : RN xs L iX7_describe (d + 2) 0 (lvE 0 [.inr (.inr 310), .inl a1]) [] h (RVo r) ∧ LR r ∧ KD h r := by
  unfold GX7_describe at hF
  have hK : KD h h := KD.rf
  show RK xs L iX7_describe (d + 2) 0 (lvE 0 [.inr (.inr 310), .inl a1]) [] h (RVo r) h r
  refine RK.of (RN.blk (ops := [(0, .aload_n 0)]) (pc' := 1) (lv' := [(0, .inr (.inr 310)), (1, .inl a1)]) (st' := [.inr (.inr 310)]) (h' := h) (cs := []) (by decide +kernel) rfl trivial) ?_
  refine RK.of (RN.gr (i := 21) (ci := 7) (k := 1) (fn := true) (v := 314) (by decide +kernel) rfl (TO.gk (o_310 hL)) (hL.fo (v := 314) 1 10 (o_310 hL) rfl (by decide) rfl).1) ?_
  refine RK.of (RN.gr (i := 105) (ci := 10) (k := 2) (fn := true) (v := 319) (by decide +kernel) rfl (TO.gk (o_314 hL)) (hL.fa (v := 319) 2 1 20 (o_314 hL) rfl (by decide) rfl (by decide)).1) ?_
  obtain ⟨hc, hF⟩ := gd_of hF
  refine RK.of (RN.blk (ops := [(7, .iload_n 1), (8, .iaload), (9, .istore_n 2), (10, .aload_n 0)]) (pc' := 11) (lv' := [(2, .inl (m_rd h 319 a1)), (0, .inr (.inr 310)), (1, .inl a1)]) (st' := [.inr (.inr 310)]) (h' := h) (cs := [GI h 319 1 a1]) (by decide +kernel) rfl ⟨(a_319 hL).gi hc.1.1 hc.1.2, trivial⟩) ?_
  refine RK.of (RN.gr (i := 33) (ci := 7) (k := 3) (fn := true) (v := 298) (by decide +kernel) rfl (TO.gk (o_310 hL)) (hL.fo (v := 298) 3 1 (o_310 hL) rfl (by decide) rfl).1) ?_
  refine RK.of (RN.blk (ops := [(14, .iload_n 2)]) (pc' := 15) (lv' := [(2, .inl (m_rd h 319 a1)), (0, .inr (.inr 310)), (1, .inl a1)]) (st' := [.inl (m_rd h 319 a1), .inr (.inr 298)]) (h' := h) (cs := []) (by decide +kernel) rfl trivial) ?_
  obtain ⟨x2, h1, hG, hF⟩ := bd_of hF
  have hq := rcv_ok (as := [.inl (m_rd h 319 a1)]) (TO.gk (o_298 hL))
  obtain ⟨hN, hL, hQ⟩ := DX1_entryFor (d := d) hL  hG
  refine RK.of (RN.cv (i := 108) (k := 14) (q2 := iX1_entryFor) (as := [.inr (.inr 298), .inl (m_rd h 319 a1)]) (r := []) (v := some (.inl x2)) (h1 := h1) (by decide +kernel) rfl rfl rfl rfl rfl hq hN) ?_
  have hK := hK.tr hQ
  refine RK.of (RN.blk (ops := [(18, .istore_n 3), (19, .iload_n 3), (20, .iconst (-1))]) (pc' := 21) (lv' := [(3, .inl x2), (2, .inl (m_rd h 319 a1)), (0, .inr (.inr 310)), (1, .inl a1)]) (st' := [.inl (-1), .inl x2]) (h' := h1) (cs := []) (by decide +kernel) rfl trivial) ?_
  refine jn_use (fun j3 => ∀ (s4 : Int), j3 s4 = some r → RK xs L iX7_describe (d + 2) 29 [(0, .inr (.inr 310)), (1, .inl a1), (2, .inl (m_rd h 319 a1)), (3, .inl x2)] [.inl s4] h1 (RVo r) h r) ?_ ?_ hF
  · intro s4 hF
    refine RK.of (RN.blk (ops := [(29, .istore 4), (31, .iload 4)]) (pc' := 33) (lv' := [(4, .inl s4), (0, .inr (.inr 310)), (1, .inl a1), (2, .inl (m_rd h 319 a1)), (3, .inl x2)]) (st' := [.inl s4]) (h' := h1) (cs := []) (by decide +kernel) rfl trivial) ?_
    refine jn_use (fun j5 => ∀ (s6 : Int), j5 s6 = some r → RK xs L iX7_describe (d + 2) 52 [(0, .inr (.inr 310)), (1, .inl a1), (2, .inl (m_rd h 319 a1)), (3, .inl x2), (4, .inl s4)] [.inl s6] h1 (RVo r) h r) ?_ ?_ hF
    · intro s6 hF
      refine RK.of (RN.blk (ops := [(52, .istore 5), (54, .aload_n 0)]) (pc' := 55) (lv' := [(5, .inl s6), (0, .inr (.inr 310)), (1, .inl a1), (2, .inl (m_rd h 319 a1)), (3, .inl x2), (4, .inl s4)]) (st' := [.inr (.inr 310)]) (h' := h1) (cs := []) (by decide +kernel) rfl trivial) ?_
      refine RK.of (RN.gr (i := 25) (ci := 7) (k := 4) (fn := true) (v := 322) (by decide +kernel) rfl (TO.gk (o_310 hL)) (hL.fa (v := 322) 4 2 11 (o_310 hL) rfl (by decide) rfl (by decide)).1) ?_
      refine RK.of (RN.blk (ops := [(58, .iconst 0), (59, .iload_n 1), (60, .i2l), (61, .lastore)]) (pc' := 62) (lv' := [(5, .inl s6), (0, .inr (.inr 310)), (1, .inl a1), (2, .inl (m_rd h 319 a1)), (3, .inl x2), (4, .inl s4)]) (st' := []) (h' := (m_wr h1 322 0 a1)) (cs := [GI h1 322 2 0]) (by decide +kernel) rfl ⟨(a_322 hL).gi (by decide) (by decide), trivial⟩) ?_
      have hL : LR (m_wr h1 322 0 a1) := hL.wa (TA.le5 (a_322 hL) (by decide))
      have hK := hK.tr (KD.wr : KD h1 (m_wr h1 322 0 a1))
      refine RK.of (RN.blk (ops := [(62, .aload_n 0)]) (pc' := 63) (lv' := [(5, .inl s6), (0, .inr (.inr 310)), (1, .inl a1), (2, .inl (m_rd h 319 a1)), (3, .inl x2), (4, .inl s4)]) (st' := [.inr (.inr 310)]) (h' := (m_wr h1 322 0 a1)) (cs := []) (by decide +kernel) rfl trivial) ?_
      refine RK.of (RN.gr (i := 25) (ci := 7) (k := 4) (fn := true) (v := 322) (by decide +kernel) rfl (TO.gk (o_310 hL)) (hL.fa (v := 322) 4 2 11 (o_310 hL) rfl (by decide) rfl (by decide)).1) ?_
      refine RK.of (RN.blk (ops := [(66, .iconst 1), (67, .iload_n 2), (68, .i2l), (69, .lastore)]) (pc' := 70) (lv' := [(5, .inl s6), (0, .inr (.inr 310)), (1, .inl a1), (2, .inl (m_rd h 319 a1)), (3, .inl x2), (4, .inl s4)]) (st' := []) (h' := (m_wr (m_wr h1 322 0 a1) 322 1 (m_rd h 319 a1))) (cs := [GI (m_wr h1 322 0 a1) 322 2 1]) (by decide +kernel) rfl ⟨(a_322 hL).gi (by decide) (by decide), trivial⟩) ?_
      have hL : LR (m_wr (m_wr h1 322 0 a1) 322 1 (m_rd h 319 a1)) := hL.wa (TA.le5 (a_322 hL) (by decide))
      have hK := hK.tr (KD.wr : KD (m_wr h1 322 0 a1) (m_wr (m_wr h1 322 0 a1) 322 1 (m_rd h 319 a1)))
      refine RK.of (RN.blk (ops := [(70, .aload_n 0)]) (pc' := 71) (lv' := [(5, .inl s6), (0, .inr (.inr 310)), (1, .inl a1), (2, .inl (m_rd h 319 a1)), (3, .inl x2), (4, .inl s4)]) (st' := [.inr (.inr 310)]) (h' := (m_wr (m_wr h1 322 0 a1) 322 1 (m_rd h 319 a1))) (cs := []) (by decide +kernel) rfl trivial) ?_
      refine RK.of (RN.gr (i := 25) (ci := 7) (k := 4) (fn := true) (v := 322) (by decide +kernel) rfl (TO.gk (o_310 hL)) (hL.fa (v := 322) 4 2 11 (o_310 hL) rfl (by decide) rfl (by decide)).1) ?_
      refine RK.of (RN.blk (ops := [(74, .iconst 2), (75, .aload_n 0)]) (pc' := 76) (lv' := [(5, .inl s6), (0, .inr (.inr 310)), (1, .inl a1), (2, .inl (m_rd h 319 a1)), (3, .inl x2), (4, .inl s4)]) (st' := [.inr (.inr 310), .inl 2, .inr (.inr 322)]) (h' := (m_wr (m_wr h1 322 0 a1) 322 1 (m_rd h 319 a1))) (cs := []) (by decide +kernel) rfl trivial) ?_
      refine RK.of (RN.gr (i := 12) (ci := 7) (k := 0) (fn := true) (v := 311) (by decide +kernel) rfl (TO.gk (o_310 hL)) (hL.fo (v := 311) 0 8 (o_310 hL) rfl (by decide) rfl).1) ?_
      refine RK.of (RN.blk (ops := [(79, .iload_n 2), (80, .iconst 0)]) (pc' := 81) (lv' := [(5, .inl s6), (0, .inr (.inr 310)), (1, .inl a1), (2, .inl (m_rd h 319 a1)), (3, .inl x2), (4, .inl s4)]) (st' := [.inl 0, .inl (m_rd h 319 a1), .inr (.inr 311), .inl 2, .inr (.inr 322)]) (h' := (m_wr (m_wr h1 322 0 a1) 322 1 (m_rd h 319 a1))) (cs := []) (by decide +kernel) rfl trivial) ?_
      obtain ⟨x8, h7, hG, hF⟩ := bd_of hF
      have hq := rcv_ok (as := [.inl (m_rd h 319 a1), .inl 0]) (TO.gk (o_311 hL))
      obtain ⟨hN, hL, hQ⟩ := DX8_digitOf (d := d) hL (o_311 hL) hG
      refine RK.of (RN.cv (i := 116) (k := 87) (q2 := iX8_digitOf) (as := [.inr (.inr 311), .inl (m_rd h 319 a1), .inl 0]) (r := [.inl 2, .inr (.inr 322)]) (v := some (.inl x8)) (h1 := h7) (by decide +kernel) rfl rfl rfl rfl rfl hq hN) ?_
      have hK := hK.tr hQ
      refine RK.of (RN.blk (ops := [(84, .i2l), (85, .lastore)]) (pc' := 86) (lv' := [(5, .inl s6), (0, .inr (.inr 310)), (1, .inl a1), (2, .inl (m_rd h 319 a1)), (3, .inl x2), (4, .inl s4)]) (st' := []) (h' := (m_wr h7 322 2 x8)) (cs := [GI h7 322 2 2]) (by decide +kernel) rfl ⟨(a_322 hL).gi (by decide) (by decide), trivial⟩) ?_
      have hL : LR (m_wr h7 322 2 x8) := hL.wa (TA.le5 (a_322 hL) (by decide))
      have hK := hK.tr (KD.wr : KD h7 (m_wr h7 322 2 x8))
      refine RK.of (RN.blk (ops := [(86, .aload_n 0)]) (pc' := 87) (lv' := [(5, .inl s6), (0, .inr (.inr 310)), (1, .inl a1), (2, .inl (m_rd h 319 a1)), (3, .inl x2), (4, .inl s4)]) (st' := [.inr (.inr 310)]) (h' := (m_wr h7 322 2 x8)) (cs := []) (by decide +kernel) rfl trivial) ?_
      refine RK.of (RN.gr (i := 25) (ci := 7) (k := 4) (fn := true) (v := 322) (by decide +kernel) rfl (TO.gk (o_310 hL)) (hL.fa (v := 322) 4 2 11 (o_310 hL) rfl (by decide) rfl (by decide)).1) ?_
      refine RK.of (RN.blk (ops := [(90, .iconst 3), (91, .aload_n 0)]) (pc' := 92) (lv' := [(5, .inl s6), (0, .inr (.inr 310)), (1, .inl a1), (2, .inl (m_rd h 319 a1)), (3, .inl x2), (4, .inl s4)]) (st' := [.inr (.inr 310), .inl 3, .inr (.inr 322)]) (h' := (m_wr h7 322 2 x8)) (cs := []) (by decide +kernel) rfl trivial) ?_
      refine RK.of (RN.gr (i := 12) (ci := 7) (k := 0) (fn := true) (v := 311) (by decide +kernel) rfl (TO.gk (o_310 hL)) (hL.fo (v := 311) 0 8 (o_310 hL) rfl (by decide) rfl).1) ?_
      refine RK.of (RN.blk (ops := [(95, .iload_n 2), (96, .aload_n 0)]) (pc' := 97) (lv' := [(5, .inl s6), (0, .inr (.inr 310)), (1, .inl a1), (2, .inl (m_rd h 319 a1)), (3, .inl x2), (4, .inl s4)]) (st' := [.inr (.inr 310), .inl (m_rd h 319 a1), .inr (.inr 311), .inl 3, .inr (.inr 322)]) (h' := (m_wr h7 322 2 x8)) (cs := []) (by decide +kernel) rfl trivial) ?_
      refine RK.of (RN.gr (i := 12) (ci := 7) (k := 0) (fn := true) (v := 311) (by decide +kernel) rfl (TO.gk (o_310 hL)) (hL.fo (v := 311) 0 8 (o_310 hL) rfl (by decide) rfl).1) ?_
      refine RK.of (RN.blk (ops := [(100, .getfield 120), (103, .iconst 1), (104, .isub)]) (pc' := 105) (lv' := [(5, .inl s6), (0, .inr (.inr 310)), (1, .inl a1), (2, .inl (m_rd h 319 a1)), (3, .inl x2), (4, .inl s4)]) (st' := [.inl (m_w32 ((m_rd (m_wr h7 322 2 x8) 311 1) - 1)), .inl (m_rd h 319 a1), .inr (.inr 311), .inl 3, .inr (.inr 322)]) (h' := (m_wr h7 322 2 x8)) (cs := [GK (m_wr h7 322 2 x8) 311 8]) (by decide +kernel) rfl ⟨(o_311 hL).gk, trivial⟩) ?_
      obtain ⟨x10, h9, hG, hF⟩ := bd_of hF
      have hq := rcv_ok (as := [.inl (m_rd h 319 a1), .inl (m_w32 ((m_rd (m_wr h7 322 2 x8) 311 1) - 1))]) (TO.gk (o_311 hL))
      obtain ⟨hN, hL, hQ⟩ := DX8_digitOf (d := d) hL (o_311 hL) hG
      refine RK.of (RN.cv (i := 116) (k := 87) (q2 := iX8_digitOf) (as := [.inr (.inr 311), .inl (m_rd h 319 a1), .inl (m_w32 ((m_rd (m_wr h7 322 2 x8) 311 1) - 1))]) (r := [.inl 3, .inr (.inr 322)]) (v := some (.inl x10)) (h1 := h9) (by decide +kernel) rfl rfl rfl rfl rfl hq hN) ?_
      have hK := hK.tr hQ
      refine RK.of (RN.blk (ops := [(108, .i2l), (109, .lastore)]) (pc' := 110) (lv' := [(5, .inl s6), (0, .inr (.inr 310)), (1, .inl a1), (2, .inl (m_rd h 319 a1)), (3, .inl x2), (4, .inl s4)]) (st' := []) (h' := (m_wr h9 322 3 x10)) (cs := [GI h9 322 2 3]) (by decide +kernel) rfl ⟨(a_322 hL).gi (by decide) (by decide), trivial⟩) ?_
      have hL : LR (m_wr h9 322 3 x10) := hL.wa (TA.le5 (a_322 hL) (by decide))
      have hK := hK.tr (KD.wr : KD h9 (m_wr h9 322 3 x10))
      refine RK.of (RN.blk (ops := [(110, .aload_n 0)]) (pc' := 111) (lv' := [(5, .inl s6), (0, .inr (.inr 310)), (1, .inl a1), (2, .inl (m_rd h 319 a1)), (3, .inl x2), (4, .inl s4)]) (st' := [.inr (.inr 310)]) (h' := (m_wr h9 322 3 x10)) (cs := []) (by decide +kernel) rfl trivial) ?_
      refine RK.of (RN.gr (i := 25) (ci := 7) (k := 4) (fn := true) (v := 322) (by decide +kernel) rfl (TO.gk (o_310 hL)) (hL.fa (v := 322) 4 2 11 (o_310 hL) rfl (by decide) rfl (by decide)).1) ?_
      refine RK.of (RN.blk (ops := [(114, .iconst 4), (115, .iload 5), (117, .i2l), (118, .lastore)]) (pc' := 119) (lv' := [(5, .inl s6), (0, .inr (.inr 310)), (1, .inl a1), (2, .inl (m_rd h 319 a1)), (3, .inl x2), (4, .inl s4)]) (st' := []) (h' := (m_wr (m_wr h9 322 3 x10) 322 4 s6)) (cs := [GI (m_wr h9 322 3 x10) 322 2 4]) (by decide +kernel) rfl ⟨(a_322 hL).gi (by decide) (by decide), trivial⟩) ?_
      have hL : LR (m_wr (m_wr h9 322 3 x10) 322 4 s6) := hL.wa (TA.le5 (a_322 hL) (by decide))
      have hK := hK.tr (KD.wr : KD (m_wr h9 322 3 x10) (m_wr (m_wr h9 322 3 x10) 322 4 s6))
      refine RK.of (RN.blk (ops := [(119, .aload_n 0)]) (pc' := 120) (lv' := [(5, .inl s6), (0, .inr (.inr 310)), (1, .inl a1), (2, .inl (m_rd h 319 a1)), (3, .inl x2), (4, .inl s4)]) (st' := [.inr (.inr 310)]) (h' := (m_wr (m_wr h9 322 3 x10) 322 4 s6)) (cs := []) (by decide +kernel) rfl trivial) ?_
      refine RK.of (RN.gr (i := 25) (ci := 7) (k := 4) (fn := true) (v := 322) (by decide +kernel) rfl (TO.gk (o_310 hL)) (hL.fa (v := 322) 4 2 11 (o_310 hL) rfl (by decide) rfl (by decide)).1) ?_
      refine RK.of (RN.blk (ops := [(123, .iconst 5), (124, .iload 4)]) (pc' := 126) (lv' := [(5, .inl s6), (0, .inr (.inr 310)), (1, .inl a1), (2, .inl (m_rd h 319 a1)), (3, .inl x2), (4, .inl s4)]) (st' := [.inl s4, .inl 5, .inr (.inr 322)]) (h' := (m_wr (m_wr h9 322 3 x10) 322 4 s6)) (cs := []) (by decide +kernel) rfl trivial) ?_
      refine jn_use (fun j11 => ∀ (s12 : Int), j11 s12 = some r → RK xs L iX7_describe (d + 2) 144 [(0, .inr (.inr 310)), (3, .inl x2), (4, .inl s4), (5, .inl s6)] [.inr (.inl s12), .inl 5, .inr (.inr 322)] (m_wr (m_wr h9 322 3 x10) 322 4 s6) (RVo r) h r) ?_ ?_ hF
      · intro s12 hF
        refine RK.of (RN.blk (ops := [(144, .lastore)]) (pc' := 145) (lv' := [(0, .inr (.inr 310)), (3, .inl x2), (4, .inl s4), (5, .inl s6)]) (st' := []) (h' := (m_wr (m_wr (m_wr h9 322 3 x10) 322 4 s6) 322 5 s12)) (cs := [GI (m_wr (m_wr h9 322 3 x10) 322 4 s6) 322 2 5]) (by decide +kernel) rfl ⟨(a_322 hL).gi (by decide) (by decide), trivial⟩) ?_
        have hL : LR (m_wr (m_wr (m_wr h9 322 3 x10) 322 4 s6) 322 5 s12) := hL.wa (TA.le5 (a_322 hL) (by decide))
        have hK := hK.tr (KD.wr : KD (m_wr (m_wr h9 322 3 x10) 322 4 s6) (m_wr (m_wr (m_wr h9 322 3 x10) 322 4 s6) 322 5 s12))
        refine RK.of (RN.blk (ops := [(145, .aload_n 0)]) (pc' := 146) (lv' := [(0, .inr (.inr 310)), (3, .inl x2), (4, .inl s4), (5, .inl s6)]) (st' := [.inr (.inr 310)]) (h' := (m_wr (m_wr (m_wr h9 322 3 x10) 322 4 s6) 322 5 s12)) (cs := []) (by decide +kernel) rfl trivial) ?_
        refine RK.of (RN.gr (i := 25) (ci := 7) (k := 4) (fn := true) (v := 322) (by decide +kernel) rfl (TO.gk (o_310 hL)) (hL.fa (v := 322) 4 2 11 (o_310 hL) rfl (by decide) rfl (by decide)).1) ?_
        refine RK.of (RN.blk (ops := [(149, .bipush 6), (151, .iload 4)]) (pc' := 153) (lv' := [(0, .inr (.inr 310)), (3, .inl x2), (4, .inl s4), (5, .inl s6)]) (st' := [.inl s4, .inl 6, .inr (.inr 322)]) (h' := (m_wr (m_wr (m_wr h9 322 3 x10) 322 4 s6) 322 5 s12)) (cs := []) (by decide +kernel) rfl trivial) ?_
        refine jn_use (fun j13 => ∀ (s14 : Int), j13 s14 = some r → RK xs L iX7_describe (d + 2) 171 [(0, .inr (.inr 310)), (3, .inl x2), (4, .inl s4)] [.inr (.inl s14), .inl 6, .inr (.inr 322)] (m_wr (m_wr (m_wr h9 322 3 x10) 322 4 s6) 322 5 s12) (RVo r) h r) ?_ ?_ hF
        · intro s14 hF
          refine RK.of (RN.blk (ops := [(171, .lastore)]) (pc' := 172) (lv' := [(0, .inr (.inr 310)), (3, .inl x2), (4, .inl s4)]) (st' := []) (h' := (m_wr (m_wr (m_wr (m_wr h9 322 3 x10) 322 4 s6) 322 5 s12) 322 6 s14)) (cs := [GI (m_wr (m_wr (m_wr h9 322 3 x10) 322 4 s6) 322 5 s12) 322 2 6]) (by decide +kernel) rfl ⟨(a_322 hL).gi (by decide) (by decide), trivial⟩) ?_
          have hL : LR (m_wr (m_wr (m_wr (m_wr h9 322 3 x10) 322 4 s6) 322 5 s12) 322 6 s14) := hL.wa (TA.le5 (a_322 hL) (by decide))
          have hK := hK.tr (KD.wr : KD (m_wr (m_wr (m_wr h9 322 3 x10) 322 4 s6) 322 5 s12) (m_wr (m_wr (m_wr (m_wr h9 322 3 x10) 322 4 s6) 322 5 s12) 322 6 s14))
          refine RK.of (RN.blk (ops := [(172, .aload_n 0)]) (pc' := 173) (lv' := [(0, .inr (.inr 310)), (3, .inl x2), (4, .inl s4)]) (st' := [.inr (.inr 310)]) (h' := (m_wr (m_wr (m_wr (m_wr h9 322 3 x10) 322 4 s6) 322 5 s12) 322 6 s14)) (cs := []) (by decide +kernel) rfl trivial) ?_
          refine RK.of (RN.gr (i := 25) (ci := 7) (k := 4) (fn := true) (v := 322) (by decide +kernel) rfl (TO.gk (o_310 hL)) (hL.fa (v := 322) 4 2 11 (o_310 hL) rfl (by decide) rfl (by decide)).1) ?_
          refine RK.of (RN.blk (ops := [(176, .bipush 7), (178, .iload 4)]) (pc' := 180) (lv' := [(0, .inr (.inr 310)), (3, .inl x2), (4, .inl s4)]) (st' := [.inl s4, .inl 7, .inr (.inr 322)]) (h' := (m_wr (m_wr (m_wr (m_wr h9 322 3 x10) 322 4 s6) 322 5 s12) 322 6 s14)) (cs := []) (by decide +kernel) rfl trivial) ?_
          rcases it_of hF with ⟨hb, hF⟩ | ⟨hb, hF⟩
          · refine RK.of (RN.ift (cd := .eq) (off := 19) (tgt := 199) (by decide +kernel) (mif_eq hb)) ?_
            refine RK.of (RN.blk (ops := [(199, .lconst 0)]) (pc' := 200) (lv' := [(0, .inr (.inr 310)), (3, .inl x2), (4, .inl s4)]) (st' := [.inr (.inl 0), .inl 7, .inr (.inr 322)]) (h' := (m_wr (m_wr (m_wr (m_wr h9 322 3 x10) 322 4 s6) 322 5 s12) 322 6 s14)) (cs := []) (by decide +kernel) rfl trivial) ?_
            refine RK.of (RN.blk (ops := [(200, .lastore)]) (pc' := 201) (lv' := [(0, .inr (.inr 310)), (3, .inl x2), (4, .inl s4)]) (st' := []) (h' := (m_wr (m_wr (m_wr (m_wr (m_wr h9 322 3 x10) 322 4 s6) 322 5 s12) 322 6 s14) 322 7 0)) (cs := [GI (m_wr (m_wr (m_wr (m_wr h9 322 3 x10) 322 4 s6) 322 5 s12) 322 6 s14) 322 2 7]) (by decide +kernel) rfl ⟨(a_322 hL).gi (by decide) (by decide), trivial⟩) ?_
            have hL : LR (m_wr (m_wr (m_wr (m_wr (m_wr h9 322 3 x10) 322 4 s6) 322 5 s12) 322 6 s14) 322 7 0) := hL.wa (TA.le5 (a_322 hL) (by decide))
            have hK := hK.tr (KD.wr : KD (m_wr (m_wr (m_wr (m_wr h9 322 3 x10) 322 4 s6) 322 5 s12) 322 6 s14) (m_wr (m_wr (m_wr (m_wr (m_wr h9 322 3 x10) 322 4 s6) 322 5 s12) 322 6 s14) 322 7 0))
            exact RK.vR (by decide +kernel) rfl hL hK hF
          · refine RK.of (RN.iff (cd := .eq) (off := 19) (tgt := 199) (by decide +kernel) (mif_eqn hb)) ?_
            refine RK.of (RN.blk (ops := [(183, .aload_n 0)]) (pc' := 184) (lv' := [(0, .inr (.inr 310)), (3, .inl x2), (4, .inl s4)]) (st' := [.inr (.inr 310), .inl 7, .inr (.inr 322)]) (h' := (m_wr (m_wr (m_wr (m_wr h9 322 3 x10) 322 4 s6) 322 5 s12) 322 6 s14)) (cs := []) (by decide +kernel) rfl trivial) ?_
            refine RK.of (RN.gr (i := 21) (ci := 7) (k := 1) (fn := true) (v := 314) (by decide +kernel) rfl (TO.gk (o_310 hL)) (hL.fo (v := 314) 1 10 (o_310 hL) rfl (by decide) rfl).1) ?_
            refine RK.of (RN.gr (i := 44) (ci := 10) (k := 0) (fn := true) (v := 315) (by decide +kernel) rfl (TO.gk (o_314 hL)) (hL.fo (v := 315) 0 4 (o_314 hL) rfl (by decide) rfl).1) ?_
            refine RK.of (RN.gr (i := 123) (ci := 4) (k := 1) (fn := true) (v := 316) (by decide +kernel) rfl (TO.gk (o_315 hL)) (hL.fa (v := 316) 1 1 12 (o_315 hL) rfl (by decide) rfl (by decide)).1) ?_
            obtain ⟨hc, hF⟩ := gd_of hF
            refine RK.of (RN.blk (ops := [(193, .iload_n 3), (194, .iaload), (195, .i2l)]) (pc' := 196) (lv' := [(0, .inr (.inr 310)), (3, .inl x2), (4, .inl s4)]) (st' := [.inr (.inl (m_rd (m_wr (m_wr (m_wr (m_wr h9 322 3 x10) 322 4 s6) 322 5 s12) 322 6 s14) 316 x2)), .inl 7, .inr (.inr 322)]) (h' := (m_wr (m_wr (m_wr (m_wr h9 322 3 x10) 322 4 s6) 322 5 s12) 322 6 s14)) (cs := [GI (m_wr (m_wr (m_wr (m_wr h9 322 3 x10) 322 4 s6) 322 5 s12) 322 6 s14) 316 1 x2]) (by decide +kernel) rfl ⟨(a_316 hL).gi hc.1.1 hc.1.2, trivial⟩) ?_
            refine RK.of (RN.goto (off := 4) (tgt := 200) (by decide +kernel)) ?_
            refine RK.of (RN.blk (ops := [(200, .lastore)]) (pc' := 201) (lv' := [(0, .inr (.inr 310)), (3, .inl x2), (4, .inl s4)]) (st' := []) (h' := (m_wr (m_wr (m_wr (m_wr (m_wr h9 322 3 x10) 322 4 s6) 322 5 s12) 322 6 s14) 322 7 (m_rd (m_wr (m_wr (m_wr (m_wr h9 322 3 x10) 322 4 s6) 322 5 s12) 322 6 s14) 316 x2))) (cs := [GI (m_wr (m_wr (m_wr (m_wr h9 322 3 x10) 322 4 s6) 322 5 s12) 322 6 s14) 322 2 7]) (by decide +kernel) rfl ⟨(a_322 hL).gi (by decide) (by decide), trivial⟩) ?_
            have hL : LR (m_wr (m_wr (m_wr (m_wr (m_wr h9 322 3 x10) 322 4 s6) 322 5 s12) 322 6 s14) 322 7 (m_rd (m_wr (m_wr (m_wr (m_wr h9 322 3 x10) 322 4 s6) 322 5 s12) 322 6 s14) 316 x2)) := hL.wa (TA.le5 (a_322 hL) (by decide))
            have hK := hK.tr (KD.wr : KD (m_wr (m_wr (m_wr (m_wr h9 322 3 x10) 322 4 s6) 322 5 s12) 322 6 s14) (m_wr (m_wr (m_wr (m_wr (m_wr h9 322 3 x10) 322 4 s6) 322 5 s12) 322 6 s14) 322 7 (m_rd (m_wr (m_wr (m_wr (m_wr h9 322 3 x10) 322 4 s6) 322 5 s12) 322 6 s14) 316 x2)))
            exact RK.vR (by decide +kernel) rfl hL hK hF
        · intro j13 Jj13 hF
          rcases it_of hF with ⟨hb, hF⟩ | ⟨hb, hF⟩
          · refine RK.of (RN.ift (cd := .eq) (off := 17) (tgt := 170) (by decide +kernel) (mif_eq hb)) ?_
            refine RK.of (RN.blk (ops := [(170, .lconst 0)]) (pc' := 171) (lv' := [(0, .inr (.inr 310)), (3, .inl x2), (4, .inl s4), (5, .inl s6)]) (st' := [.inr (.inl 0), .inl 6, .inr (.inr 322)]) (h' := (m_wr (m_wr (m_wr h9 322 3 x10) 322 4 s6) 322 5 s12)) (cs := []) (by decide +kernel) rfl trivial) ?_
            exact RK.sub (Jj13 _ hF) (sub_cons rfl (sub_cons rfl (sub_cons rfl sub_nil)))
          · refine RK.of (RN.iff (cd := .eq) (off := 17) (tgt := 170) (by decide +kernel) (mif_eqn hb)) ?_
            refine RK.of (RN.blk (ops := [(156, .aload_n 0)]) (pc' := 157) (lv' := [(0, .inr (.inr 310)), (3, .inl x2), (4, .inl s4), (5, .inl s6)]) (st' := [.inr (.inr 310), .inl 6, .inr (.inr 322)]) (h' := (m_wr (m_wr (m_wr h9 322 3 x10) 322 4 s6) 322 5 s12)) (cs := []) (by decide +kernel) rfl trivial) ?_
            refine RK.of (RN.gr (i := 12) (ci := 7) (k := 0) (fn := true) (v := 311) (by decide +kernel) rfl (TO.gk (o_310 hL)) (hL.fo (v := 311) 0 8 (o_310 hL) rfl (by decide) rfl).1) ?_
            refine RK.of (RN.gr (i := 83) (ci := 8) (k := 5) (fn := true) (v := 313) (by decide +kernel) rfl (TO.gk (o_311 hL)) (hL.fa (v := 313) 5 1 6 (o_311 hL) rfl (by decide) rfl (by decide)).1) ?_
            obtain ⟨hc, hF⟩ := gd_of hF
            refine RK.of (RN.blk (ops := [(163, .iload 5), (165, .iaload), (166, .i2l)]) (pc' := 167) (lv' := [(0, .inr (.inr 310)), (3, .inl x2), (4, .inl s4), (5, .inl s6)]) (st' := [.inr (.inl (m_rd (m_wr (m_wr (m_wr h9 322 3 x10) 322 4 s6) 322 5 s12) 313 s6)), .inl 6, .inr (.inr 322)]) (h' := (m_wr (m_wr (m_wr h9 322 3 x10) 322 4 s6) 322 5 s12)) (cs := [GI (m_wr (m_wr (m_wr h9 322 3 x10) 322 4 s6) 322 5 s12) 313 1 s6]) (by decide +kernel) rfl ⟨(a_313 hL).gi hc.1.1 hc.1.2, trivial⟩) ?_
            refine RK.of (RN.goto (off := 4) (tgt := 171) (by decide +kernel)) ?_
            exact RK.sub (Jj13 _ hF) (sub_cons rfl (sub_cons rfl (sub_cons rfl sub_nil)))
      · intro j11 Jj11 hF
        rcases it_of hF with ⟨hb, hF⟩ | ⟨hb, hF⟩
        · refine RK.of (RN.ift (cd := .eq) (off := 17) (tgt := 143) (by decide +kernel) (mif_eq hb)) ?_
          refine RK.of (RN.blk (ops := [(143, .lconst 0)]) (pc' := 144) (lv' := [(5, .inl s6), (0, .inr (.inr 310)), (1, .inl a1), (2, .inl (m_rd h 319 a1)), (3, .inl x2), (4, .inl s4)]) (st' := [.inr (.inl 0), .inl 5, .inr (.inr 322)]) (h' := (m_wr (m_wr h9 322 3 x10) 322 4 s6)) (cs := []) (by decide +kernel) rfl trivial) ?_
          exact RK.sub (Jj11 _ hF) (sub_cons rfl (sub_cons rfl (sub_cons rfl (sub_cons rfl sub_nil))))
        · refine RK.of (RN.iff (cd := .eq) (off := 17) (tgt := 143) (by decide +kernel) (mif_eqn hb)) ?_
          refine RK.of (RN.blk (ops := [(129, .aload_n 0)]) (pc' := 130) (lv' := [(5, .inl s6), (0, .inr (.inr 310)), (1, .inl a1), (2, .inl (m_rd h 319 a1)), (3, .inl x2), (4, .inl s4)]) (st' := [.inr (.inr 310), .inl 5, .inr (.inr 322)]) (h' := (m_wr (m_wr h9 322 3 x10) 322 4 s6)) (cs := []) (by decide +kernel) rfl trivial) ?_
          refine RK.of (RN.gr (i := 21) (ci := 7) (k := 1) (fn := true) (v := 314) (by decide +kernel) rfl (TO.gk (o_310 hL)) (hL.fo (v := 314) 1 10 (o_310 hL) rfl (by decide) rfl).1) ?_
          refine RK.of (RN.gr (i := 79) (ci := 10) (k := 3) (fn := true) (v := 320) (by decide +kernel) rfl (TO.gk (o_314 hL)) (hL.fa (v := 320) 3 1 6 (o_314 hL) rfl (by decide) rfl (by decide)).1) ?_
          obtain ⟨hc, hF⟩ := gd_of hF
          refine RK.of (RN.blk (ops := [(136, .iload 5), (138, .iaload), (139, .i2l)]) (pc' := 140) (lv' := [(5, .inl s6), (0, .inr (.inr 310)), (1, .inl a1), (2, .inl (m_rd h 319 a1)), (3, .inl x2), (4, .inl s4)]) (st' := [.inr (.inl (m_rd (m_wr (m_wr h9 322 3 x10) 322 4 s6) 320 s6)), .inl 5, .inr (.inr 322)]) (h' := (m_wr (m_wr h9 322 3 x10) 322 4 s6)) (cs := [GI (m_wr (m_wr h9 322 3 x10) 322 4 s6) 320 1 s6]) (by decide +kernel) rfl ⟨(a_320 hL).gi hc.1.1 hc.1.2, trivial⟩) ?_
          refine RK.of (RN.goto (off := 4) (tgt := 144) (by decide +kernel)) ?_
          exact RK.sub (Jj11 _ hF) (sub_cons rfl (sub_cons rfl (sub_cons rfl (sub_cons rfl sub_nil))))
    · intro j5 Jj5 hF
      rcases it_of hF with ⟨hb, hF⟩ | ⟨hb, hF⟩
      · refine RK.of (RN.ift (cd := .eq) (off := 18) (tgt := 51) (by decide +kernel) (mif_eq hb)) ?_
        refine RK.of (RN.blk (ops := [(51, .iconst (-1))]) (pc' := 52) (lv' := [(4, .inl s4), (0, .inr (.inr 310)), (1, .inl a1), (2, .inl (m_rd h 319 a1)), (3, .inl x2)]) (st' := [.inl (-1)]) (h' := h1) (cs := []) (by decide +kernel) rfl trivial) ?_
        exact RK.sub (Jj5 _ hF) (sub_cons rfl (sub_cons rfl (sub_cons rfl (sub_cons rfl (sub_cons rfl sub_nil)))))
      · refine RK.of (RN.iff (cd := .eq) (off := 18) (tgt := 51) (by decide +kernel) (mif_eqn hb)) ?_
        refine RK.of (RN.blk (ops := [(36, .aload_n 0)]) (pc' := 37) (lv' := [(4, .inl s4), (0, .inr (.inr 310)), (1, .inl a1), (2, .inl (m_rd h 319 a1)), (3, .inl x2)]) (st' := [.inr (.inr 310)]) (h' := h1) (cs := []) (by decide +kernel) rfl trivial) ?_
        refine RK.of (RN.gr (i := 21) (ci := 7) (k := 1) (fn := true) (v := 314) (by decide +kernel) rfl (TO.gk (o_310 hL)) (hL.fo (v := 314) 1 10 (o_310 hL) rfl (by decide) rfl).1) ?_
        refine RK.of (RN.gr (i := 44) (ci := 10) (k := 0) (fn := true) (v := 315) (by decide +kernel) rfl (TO.gk (o_314 hL)) (hL.fo (v := 315) 0 4 (o_314 hL) rfl (by decide) rfl).1) ?_
        refine RK.of (RN.gr (i := 111) (ci := 4) (k := 3) (fn := true) (v := 318) (by decide +kernel) rfl (TO.gk (o_315 hL)) (hL.fa (v := 318) 3 1 12 (o_315 hL) rfl (by decide) rfl (by decide)).1) ?_
        obtain ⟨hc, hF⟩ := gd_of hF
        refine RK.of (RN.blk (ops := [(46, .iload_n 3), (47, .iaload)]) (pc' := 48) (lv' := [(4, .inl s4), (0, .inr (.inr 310)), (1, .inl a1), (2, .inl (m_rd h 319 a1)), (3, .inl x2)]) (st' := [.inl (m_rd h1 318 x2)]) (h' := h1) (cs := [GI h1 318 1 x2]) (by decide +kernel) rfl ⟨(a_318 hL).gi hc.1.1 hc.1.2, trivial⟩) ?_
        refine RK.of (RN.goto (off := 4) (tgt := 52) (by decide +kernel)) ?_
        exact RK.sub (Jj5 _ hF) (sub_cons rfl (sub_cons rfl (sub_cons rfl (sub_cons rfl (sub_cons rfl sub_nil)))))
  · intro j3 Jj3 hF
    rcases it_of hF with ⟨hb, hF⟩ | ⟨hb, hF⟩
    · refine RK.of (RN.ict (cd := .eq) (off := 7) (tgt := 28) (by decide +kernel) (mif_eq hb)) ?_
      refine RK.of (RN.blk (ops := [(28, .iconst 0)]) (pc' := 29) (lv' := [(3, .inl x2), (2, .inl (m_rd h 319 a1)), (0, .inr (.inr 310)), (1, .inl a1)]) (st' := [.inl 0]) (h' := h1) (cs := []) (by decide +kernel) rfl trivial) ?_
      exact RK.sub (Jj3 _ hF) (sub_cons rfl (sub_cons rfl (sub_cons rfl (sub_cons rfl sub_nil))))
    · refine RK.of (RN.icf (cd := .eq) (off := 7) (tgt := 28) (by decide +kernel) (mif_eqn hb)) ?_
      refine RK.of (RN.blk (ops := [(24, .iconst 1)]) (pc' := 25) (lv' := [(3, .inl x2), (2, .inl (m_rd h 319 a1)), (0, .inr (.inr 310)), (1, .inl a1)]) (st' := [.inl 1]) (h' := h1) (cs := []) (by decide +kernel) rfl trivial) ?_
      refine RK.of (RN.goto (off := 4) (tgt := 29) (by decide +kernel)) ?_
      exact RK.sub (Jj3 _ hF) (sub_cons rfl (sub_cons rfl (sub_cons rfl (sub_cons rfl sub_nil))))
noncomputable def GX7_choose_L72 (u1 : Int) (K0 : Int → MH → Option (Int × MH)) : Nat → Int → Int → Int → MH → Option (Int × MH)
  | 0, _, _, _, _ => none
  | f + 1, v2, v3, v5, h =>
    (if v5 < (m_rd h 314 1) then
     (bv (GX7_describe v5 h) (fun h1 =>
      gd [TO h1 u1 5] (bd (GX5_worth u1 322 h1) (fun x3 h2 =>
       (if 0 < (m_lcmp x3 v3) then
        GX7_choose_L72 u1 K0 f v5 x3 (m_w32 (v5 + 1)) h2
       else
        GX7_choose_L72 u1 K0 f v2 v3 (m_w32 (v5 + 1)) h2)))))
    else
     K0 v2 h)
theorem DX7_choose_L72 {d : Nat} {u1 : Int} {K0 : Int → MH → Option (Int × MH)} {r : Int × MH} {h0 hB : MH} (hB0 : KD h0 hB) (hK0 : ∀ (w2 : Int) (h : MH), LR h → KD hB h → K0 w2 h = some r → RK xs L iX7_choose (d + 3) 119 [(2, .inl w2)] [] h (RIo r) h0 r.2) : ∀ (f : Nat) (v2 : Int) (v3 : Int) (v5 : Int) (h : MH), LR h → KD hB h → GX7_choose_L72 u1 K0 f v2 v3 v5 h = some r → RK xs L iX7_choose (d + 3) 72 [(0, .inr (.inr 310)), (1, .inr (.inr u1)), (2, .inl v2), (3, .inr (.inl v3)), (5, .inl v5)] [] h (RIo r) h0 r.2 := by
  intro f
  induction f with
  | zero =>
    intro v2 v3 v5 h hL hJ hF
    cases hF
  | succ f ih =>
    intro v2 v3 v5 h hL hJ hF
    unfold GX7_choose_L72 at hF
    have hK := hB0.tr hJ
    refine RK.of (RN.blk (ops := [(72, .iload 5), (74, .aload_n 0)]) (pc' := 75) (lv' := [(0, .inr (.inr 310)), (1, .inr (.inr u1)), (2, .inl v2), (3, .inr (.inl v3)), (5, .inl v5)]) (st' := [.inr (.inr 310), .inl v5]) (h' := h) (cs := []) (by decide +kernel) rfl trivial) ?_
    refine RK.of (RN.gr (i := 21) (ci := 7) (k := 1) (fn := true) (v := 314) (by decide +kernel) rfl (TO.gk (o_310 hL)) (hL.fo (v := 314) 1 10 (o_310 hL) rfl (by decide) rfl).1) ?_
    refine RK.of (RN.blk (ops := [(78, .getfield 89)]) (pc' := 81) (lv' := [(0, .inr (.inr 310)), (1, .inr (.inr u1)), (2, .inl v2), (3, .inr (.inl v3)), (5, .inl v5)]) (st' := [.inl (m_rd h 314 1), .inl v5]) (h' := h) (cs := [GK h 314 10]) (by decide +kernel) rfl ⟨(o_314 hL).gk, trivial⟩) ?_
    rcases it_of hF with ⟨hb, hF⟩ | ⟨hb, hF⟩
    · refine RK.of (RN.icf (cd := .ge) (off := 38) (tgt := 119) (by decide +kernel) (mif_gen hb)) ?_
      refine RK.of (RN.blk (ops := [(84, .aload_n 0), (85, .iload 5)]) (pc' := 87) (lv' := [(0, .inr (.inr 310)), (1, .inr (.inr u1)), (2, .inl v2), (3, .inr (.inl v3)), (5, .inl v5)]) (st' := [.inl v5, .inr (.inr 310)]) (h' := h) (cs := []) (by decide +kernel) rfl trivial) ?_
      obtain ⟨h1, hG, hF⟩ := bv_of hF
      have hq := rcv_ok (as := [.inl v5]) (TO.gk (o_310 hL))
      obtain ⟨hN, hL, hQ⟩ := DX7_describe (d := d) hL  hG
      refine RK.of (RN.cv (i := 96) (k := 71) (q2 := iX7_describe) (as := [.inr (.inr 310), .inl v5]) (r := []) (v := none) (h1 := h1) (by decide +kernel) rfl rfl rfl rfl rfl hq hN) ?_
      have hK := hK.tr hQ
      have hJ := hJ.tr hQ
      refine RK.of (RN.blk (ops := [(90, .aload_n 1), (91, .aload_n 0)]) (pc' := 92) (lv' := [(0, .inr (.inr 310)), (1, .inr (.inr u1)), (2, .inl v2), (3, .inr (.inl v3)), (5, .inl v5)]) (st' := [.inr (.inr 310), .inr (.inr u1)]) (h' := h1) (cs := []) (by decide +kernel) rfl trivial) ?_
      refine RK.of (RN.gr (i := 25) (ci := 7) (k := 4) (fn := true) (v := 322) (by decide +kernel) rfl (TO.gk (o_310 hL)) (hL.fa (v := 322) 4 2 11 (o_310 hL) rfl (by decide) rfl (by decide)).1) ?_
      obtain ⟨hc, hF⟩ := gd_of hF
      obtain ⟨x3, h2, hG, hF⟩ := bd_of hF
      have hq := rcv_ok (as := [.inr (.inr 322)]) (TO.gk hc.1)
      obtain ⟨hN, hL, hQ⟩ := DX5_worth (d := d) hL hc.1 hG
      refine RK.of (RN.cv (i := 99) (k := 52) (q2 := iX5_worth) (as := [.inr (.inr u1), .inr (.inr 322)]) (r := []) (v := some (.inr (.inl x3))) (h1 := h2) (by decide +kernel) rfl rfl rfl rfl rfl hq hN) ?_
      have hK := hK.tr hQ
      have hJ := hJ.tr hQ
      refine RK.of (RN.blk (ops := [(98, .lstore 6), (100, .lload 6), (102, .lload_n 3), (103, .lcmp)]) (pc' := 104) (lv' := [(6, .inr (.inl x3)), (0, .inr (.inr 310)), (1, .inr (.inr u1)), (2, .inl v2), (3, .inr (.inl v3)), (5, .inl v5)]) (st' := [.inl (m_lcmp x3 v3)]) (h' := h2) (cs := []) (by decide +kernel) rfl trivial) ?_
      rcases it_of hF with ⟨hb, hF⟩ | ⟨hb, hF⟩
      · refine RK.of (RN.iff (cd := .le) (off := 9) (tgt := 113) (by decide +kernel) (mif_len hb)) ?_
        refine RK.of (RN.blk (ops := [(107, .lload 6), (109, .lstore_n 3), (110, .iload 5), (112, .istore_n 2)]) (pc' := 113) (lv' := [(2, .inl v5), (3, .inr (.inl x3)), (6, .inr (.inl x3)), (0, .inr (.inr 310)), (1, .inr (.inr u1)), (5, .inl v5)]) (st' := []) (h' := h2) (cs := []) (by decide +kernel) rfl trivial) ?_
        refine RK.of (RN.blk (ops := [(113, .iinc 5 1)]) (pc' := 116) (lv' := [(5, .inl (m_w32 (v5 + 1))), (2, .inl v5), (3, .inr (.inl x3)), (6, .inr (.inl x3)), (0, .inr (.inr 310)), (1, .inr (.inr u1))]) (st' := []) (h' := h2) (cs := []) (by decide +kernel) rfl trivial) ?_
        refine RK.of (RN.goto (off := -44) (tgt := 72) (by decide +kernel)) ?_
        exact RK.sub (ih _ _ _ _ hL hJ hF) (sub_cons rfl (sub_cons rfl (sub_cons rfl (sub_cons rfl (sub_cons rfl sub_nil)))))
      · refine RK.of (RN.ift (cd := .le) (off := 9) (tgt := 113) (by decide +kernel) (mif_le hb)) ?_
        refine RK.of (RN.blk (ops := [(113, .iinc 5 1)]) (pc' := 116) (lv' := [(5, .inl (m_w32 (v5 + 1))), (6, .inr (.inl x3)), (0, .inr (.inr 310)), (1, .inr (.inr u1)), (2, .inl v2), (3, .inr (.inl v3))]) (st' := []) (h' := h2) (cs := []) (by decide +kernel) rfl trivial) ?_
        refine RK.of (RN.goto (off := -44) (tgt := 72) (by decide +kernel)) ?_
        exact RK.sub (ih _ _ _ _ hL hJ hF) (sub_cons rfl (sub_cons rfl (sub_cons rfl (sub_cons rfl (sub_cons rfl sub_nil)))))
    · refine RK.of (RN.ict (cd := .ge) (off := 38) (tgt := 119) (by decide +kernel) (mif_ge hb)) ?_
      exact RK.sub (hK0 _ _ hL hJ hF) (sub_cons rfl sub_nil)
noncomputable def GX7_choose (a1 : Int) (h : MH) : Option (Int × MH) :=
  (if a1 = (-1) then
   (if 0 < (m_rd h 314 1) then
    some (0, h)
   else
    some ((-1), h))
  else
   (bd (GX10_bagsOfAll 314 (m_wr h 322 8 (m_rd h 314 1))) (fun x2 h1 =>
    GX7_choose_L72 a1 (fun w3 h4 =>
     some (w3, h4)) FU (-1) 0 0 (m_wr (m_wr h1 322 9 x2) 322 10 (m_rd (m_wr h1 322 9 x2) 314 6)))))
theorem DX7_choose {d : Nat} {a1 : Int} {h : MH} {r : Int × MH} (hL : LR h) (hF : GX7_choose a1 h = some r) : RN xs L iX7_choose (d + 3) 0 (lvE 0 [.inr (.inr 310), .inr (.inr a1)]) [] h (RIo r) ∧ LR r.2 ∧ KD h r.2 := by
  unfold GX7_choose at hF
  have hK : KD h h := KD.rf
  show RK xs L iX7_choose (d + 3) 0 (lvE 0 [.inr (.inr 310), .inr (.inr a1)]) [] h (RIo r) h r.2
  refine RK.of (RN.blk (ops := [(0, .aload_n 1)]) (pc' := 1) (lv' := [(0, .inr (.inr 310)), (1, .inr (.inr a1))]) (st' := [.inr (.inr a1)]) (h' := h) (cs := []) (by decide +kernel) rfl trivial) ?_
  rcases it_of hF with ⟨hb, hF⟩ | ⟨hb, hF⟩
  · refine RK.of (RN.nnf (off := 19) (tgt := 20) (by decide +kernel) hb) ?_
    refine RK.of (RN.blk (ops := [(4, .aload_n 0)]) (pc' := 5) (lv' := [(0, .inr (.inr 310)), (1, .inr (.inr a1))]) (st' := [.inr (.inr 310)]) (h' := h) (cs := []) (by decide +kernel) rfl trivial) ?_
    refine RK.of (RN.gr (i := 21) (ci := 7) (k := 1) (fn := true) (v := 314) (by decide +kernel) rfl (TO.gk (o_310 hL)) (hL.fo (v := 314) 1 10 (o_310 hL) rfl (by decide) rfl).1) ?_
    refine RK.of (RN.blk (ops := [(8, .getfield 89)]) (pc' := 11) (lv' := [(0, .inr (.inr 310)), (1, .inr (.inr a1))]) (st' := [.inl (m_rd h 314 1)]) (h' := h) (cs := [GK h 314 10]) (by decide +kernel) rfl ⟨(o_314 hL).gk, trivial⟩) ?_
    rcases it_of hF with ⟨hb, hF⟩ | ⟨hb, hF⟩
    · refine RK.of (RN.iff (cd := .le) (off := 7) (tgt := 18) (by decide +kernel) (mif_len hb)) ?_
      refine RK.of (RN.blk (ops := [(14, .iconst 0)]) (pc' := 15) (lv' := [(0, .inr (.inr 310)), (1, .inr (.inr a1))]) (st' := [.inl 0]) (h' := h) (cs := []) (by decide +kernel) rfl trivial) ?_
      refine RK.of (RN.goto (off := 4) (tgt := 19) (by decide +kernel)) ?_
      exact RK.iR (by decide +kernel) rfl hL hK hF
    · refine RK.of (RN.ift (cd := .le) (off := 7) (tgt := 18) (by decide +kernel) (mif_le hb)) ?_
      refine RK.of (RN.blk (ops := [(18, .iconst (-1))]) (pc' := 19) (lv' := [(0, .inr (.inr 310)), (1, .inr (.inr a1))]) (st' := [.inl (-1)]) (h' := h) (cs := []) (by decide +kernel) rfl trivial) ?_
      exact RK.iR (by decide +kernel) rfl hL hK hF
  · refine RK.of (RN.nnt (off := 19) (tgt := 20) (by decide +kernel) hb) ?_
    refine RK.of (RN.blk (ops := [(20, .aload_n 0)]) (pc' := 21) (lv' := [(0, .inr (.inr 310)), (1, .inr (.inr a1))]) (st' := [.inr (.inr 310)]) (h' := h) (cs := []) (by decide +kernel) rfl trivial) ?_
    refine RK.of (RN.gr (i := 25) (ci := 7) (k := 4) (fn := true) (v := 322) (by decide +kernel) rfl (TO.gk (o_310 hL)) (hL.fa (v := 322) 4 2 11 (o_310 hL) rfl (by decide) rfl (by decide)).1) ?_
    refine RK.of (RN.blk (ops := [(24, .bipush 8), (26, .aload_n 0)]) (pc' := 27) (lv' := [(0, .inr (.inr 310)), (1, .inr (.inr a1))]) (st' := [.inr (.inr 310), .inl 8, .inr (.inr 322)]) (h' := h) (cs := []) (by decide +kernel) rfl trivial) ?_
    refine RK.of (RN.gr (i := 21) (ci := 7) (k := 1) (fn := true) (v := 314) (by decide +kernel) rfl (TO.gk (o_310 hL)) (hL.fo (v := 314) 1 10 (o_310 hL) rfl (by decide) rfl).1) ?_
    refine RK.of (RN.blk (ops := [(30, .getfield 89), (33, .i2l), (34, .lastore)]) (pc' := 35) (lv' := [(0, .inr (.inr 310)), (1, .inr (.inr a1))]) (st' := []) (h' := (m_wr h 322 8 (m_rd h 314 1))) (cs := [GK h 314 10, GI h 322 2 8]) (by decide +kernel) rfl ⟨(o_314 hL).gk, (a_322 hL).gi (by decide) (by decide), trivial⟩) ?_
    have hL : LR (m_wr h 322 8 (m_rd h 314 1)) := hL.wa (TA.le5 (a_322 hL) (by decide))
    have hK := hK.tr (KD.wr : KD h (m_wr h 322 8 (m_rd h 314 1)))
    refine RK.of (RN.blk (ops := [(35, .aload_n 0)]) (pc' := 36) (lv' := [(0, .inr (.inr 310)), (1, .inr (.inr a1))]) (st' := [.inr (.inr 310)]) (h' := (m_wr h 322 8 (m_rd h 314 1))) (cs := []) (by decide +kernel) rfl trivial) ?_
    refine RK.of (RN.gr (i := 25) (ci := 7) (k := 4) (fn := true) (v := 322) (by decide +kernel) rfl (TO.gk (o_310 hL)) (hL.fa (v := 322) 4 2 11 (o_310 hL) rfl (by decide) rfl (by decide)).1) ?_
    refine RK.of (RN.blk (ops := [(39, .bipush 9), (41, .aload_n 0)]) (pc' := 42) (lv' := [(0, .inr (.inr 310)), (1, .inr (.inr a1))]) (st' := [.inr (.inr 310), .inl 9, .inr (.inr 322)]) (h' := (m_wr h 322 8 (m_rd h 314 1))) (cs := []) (by decide +kernel) rfl trivial) ?_
    refine RK.of (RN.gr (i := 21) (ci := 7) (k := 1) (fn := true) (v := 314) (by decide +kernel) rfl (TO.gk (o_310 hL)) (hL.fo (v := 314) 1 10 (o_310 hL) rfl (by decide) rfl).1) ?_
    obtain ⟨x2, h1, hG, hF⟩ := bd_of hF
    have hq := rcv_ok (as := []) (TO.gk (o_314 hL))
    obtain ⟨hN, hL, hQ⟩ := DX10_bagsOfAll (d := d + 1) hL (o_314 hL) hG
    refine RK.of (RN.cv (i := 92) (k := 106) (q2 := iX10_bagsOfAll) (as := [.inr (.inr 314)]) (r := [.inl 9, .inr (.inr 322)]) (v := some (.inl x2)) (h1 := h1) (by decide +kernel) rfl rfl rfl rfl rfl hq hN) ?_
    have hK := hK.tr hQ
    refine RK.of (RN.blk (ops := [(48, .i2l), (49, .lastore)]) (pc' := 50) (lv' := [(0, .inr (.inr 310)), (1, .inr (.inr a1))]) (st' := []) (h' := (m_wr h1 322 9 x2)) (cs := [GI h1 322 2 9]) (by decide +kernel) rfl ⟨(a_322 hL).gi (by decide) (by decide), trivial⟩) ?_
    have hL : LR (m_wr h1 322 9 x2) := hL.wa (TA.le5 (a_322 hL) (by decide))
    have hK := hK.tr (KD.wr : KD h1 (m_wr h1 322 9 x2))
    refine RK.of (RN.blk (ops := [(50, .aload_n 0)]) (pc' := 51) (lv' := [(0, .inr (.inr 310)), (1, .inr (.inr a1))]) (st' := [.inr (.inr 310)]) (h' := (m_wr h1 322 9 x2)) (cs := []) (by decide +kernel) rfl trivial) ?_
    refine RK.of (RN.gr (i := 25) (ci := 7) (k := 4) (fn := true) (v := 322) (by decide +kernel) rfl (TO.gk (o_310 hL)) (hL.fa (v := 322) 4 2 11 (o_310 hL) rfl (by decide) rfl (by decide)).1) ?_
    refine RK.of (RN.blk (ops := [(54, .bipush 10), (56, .aload_n 0)]) (pc' := 57) (lv' := [(0, .inr (.inr 310)), (1, .inr (.inr a1))]) (st' := [.inr (.inr 310), .inl 10, .inr (.inr 322)]) (h' := (m_wr h1 322 9 x2)) (cs := []) (by decide +kernel) rfl trivial) ?_
    refine RK.of (RN.gr (i := 21) (ci := 7) (k := 1) (fn := true) (v := 314) (by decide +kernel) rfl (TO.gk (o_310 hL)) (hL.fo (v := 314) 1 10 (o_310 hL) rfl (by decide) rfl).1) ?_
    refine RK.of (RN.blk (ops := [(60, .getfield 62), (63, .i2l), (64, .lastore)]) (pc' := 65) (lv' := [(0, .inr (.inr 310)), (1, .inr (.inr a1))]) (st' := []) (h' := (m_wr (m_wr h1 322 9 x2) 322 10 (m_rd (m_wr h1 322 9 x2) 314 6))) (cs := [GK (m_wr h1 322 9 x2) 314 10, GI (m_wr h1 322 9 x2) 322 2 10]) (by decide +kernel) rfl ⟨(o_314 hL).gk, (a_322 hL).gi (by decide) (by decide), trivial⟩) ?_
    have hL : LR (m_wr (m_wr h1 322 9 x2) 322 10 (m_rd (m_wr h1 322 9 x2) 314 6)) := hL.wa (TA.le5 (a_322 hL) (by decide))
    have hK := hK.tr (KD.wr : KD (m_wr h1 322 9 x2) (m_wr (m_wr h1 322 9 x2) 322 10 (m_rd (m_wr h1 322 9 x2) 314 6)))
    refine RK.of (RN.blk (ops := [(65, .iconst (-1)), (66, .istore_n 2), (67, .lconst 0), (68, .lstore_n 3), (69, .iconst 0), (70, .istore 5)]) (pc' := 72) (lv' := [(5, .inl 0), (3, .inr (.inl 0)), (2, .inl (-1)), (0, .inr (.inr 310)), (1, .inr (.inr a1))]) (st' := []) (h' := (m_wr (m_wr h1 322 9 x2) 322 10 (m_rd (m_wr h1 322 9 x2) 314 6))) (cs := []) (by decide +kernel) rfl trivial) ?_
    refine RK.sub (DX7_choose_L72 hK ?_ _ _ _ _ _ hL KD.rf hF) (sub_cons rfl (sub_cons rfl (sub_cons rfl (sub_cons rfl (sub_cons rfl sub_nil)))))
    · intro w3 h4 hL hq hF
      have hK := hK.tr hq
      refine RK.of (RN.blk (ops := [(119, .iload_n 2)]) (pc' := 120) (lv' := [(2, .inl w3)]) (st' := [.inl w3]) (h' := h4) (cs := []) (by decide +kernel) rfl trivial) ?_
      exact RK.iR (by decide +kernel) rfl hL hK hF
noncomputable def GX10_bagUp (t : Int) (a1 : Int) (h : MH) : Option (MH) :=
  gd [IB a1 6] (
   gd [IB a1 6] (
    gd [IB a1 6] (
     some (m_wr (m_wr h (t + 7) a1 (m_mn (m_w32 ((m_rd h (t + 7) a1) + 1)) 999)) (t + 6) a1 0))))
theorem DX10_bagUp {d : Nat} {t : Int} {a1 : Int} {h : MH} {r : MH} (hL : LR h) (k0_t : TO h t 10) (hF : GX10_bagUp t a1 h = some r) : RN xs L iX10_bagUp (d + 1) 0 (lvE 0 [.inr (.inr t), .inl a1]) [] h (RVo r) ∧ LR r ∧ KD h r := by
  unfold GX10_bagUp at hF
  have hK : KD h h := KD.rf
  have k_t := k0_t
  show RK xs L iX10_bagUp (d + 1) 0 (lvE 0 [.inr (.inr t), .inl a1]) [] h (RVo r) h r
  refine RK.of (RN.blk (ops := [(0, .aload_n 0)]) (pc' := 1) (lv' := [(0, .inr (.inr t)), (1, .inl a1)]) (st' := [.inr (.inr t)]) (h' := h) (cs := []) (by decide +kernel) rfl trivial) ?_
  refine RK.of (RN.gr (i := 25) (ci := 10) (k := 4) (fn := true) (v := (t + 7)) (by decide +kernel) rfl (TO.gk k_t) (hL.fa (v := (t + 7)) 4 1 6 k_t rfl rfl rfl (by decide)).1) ?_
  refine RK.of (RN.blk (ops := [(4, .iload_n 1), (5, .aload_n 0)]) (pc' := 6) (lv' := [(0, .inr (.inr t)), (1, .inl a1)]) (st' := [.inr (.inr t), .inl a1, .inr (.inr (t + 7))]) (h' := h) (cs := []) (by decide +kernel) rfl trivial) ?_
  refine RK.of (RN.gr (i := 25) (ci := 10) (k := 4) (fn := true) (v := (t + 7)) (by decide +kernel) rfl (TO.gk k_t) (hL.fa (v := (t + 7)) 4 1 6 k_t rfl rfl rfl (by decide)).1) ?_
  obtain ⟨hc, hF⟩ := gd_of hF
  refine RK.of (RN.blk (ops := [(9, .iload_n 1), (10, .iaload), (11, .iconst 1), (12, .iadd), (13, .sipush 999)]) (pc' := 16) (lv' := [(0, .inr (.inr t)), (1, .inl a1)]) (st' := [.inl 999, .inl (m_w32 ((m_rd h (t + 7) a1) + 1)), .inl a1, .inr (.inr (t + 7))]) (h' := h) (cs := [GI h (t + 7) 1 a1]) (by decide +kernel) rfl ⟨(hL.fa 4 1 6 k_t rfl rfl rfl (by decide)).2.gi hc.1.1 hc.1.2, trivial⟩) ?_
  refine RK.of (RN.mn (i := 51) (by decide +kernel) rfl rfl) ?_
  obtain ⟨hc, hF⟩ := gd_of hF
  refine RK.of (RN.blk (ops := [(19, .iastore)]) (pc' := 20) (lv' := [(0, .inr (.inr t)), (1, .inl a1)]) (st' := []) (h' := (m_wr h (t + 7) a1 (m_mn (m_w32 ((m_rd h (t + 7) a1) + 1)) 999))) (cs := [GI h (t + 7) 1 a1]) (by decide +kernel) rfl ⟨(hL.fa 4 1 6 k_t rfl rfl rfl (by decide)).2.gi hc.1.1 hc.1.2, trivial⟩) ?_
  have hL : LR (m_wr h (t + 7) a1 (m_mn (m_w32 ((m_rd h (t + 7) a1) + 1)) 999)) := hL.wa (TA.le5 (hL.fa 4 1 6 k_t rfl rfl rfl (by decide)).2 (by decide))
  have k_t := (KD.wr : KD h (m_wr h (t + 7) a1 (m_mn (m_w32 ((m_rd h (t + 7) a1) + 1)) 999))).to k_t
  have hK := hK.tr (KD.wr : KD h (m_wr h (t + 7) a1 (m_mn (m_w32 ((m_rd h (t + 7) a1) + 1)) 999)))
  refine RK.of (RN.blk (ops := [(20, .aload_n 0)]) (pc' := 21) (lv' := [(0, .inr (.inr t)), (1, .inl a1)]) (st' := [.inr (.inr t)]) (h' := (m_wr h (t + 7) a1 (m_mn (m_w32 ((m_rd h (t + 7) a1) + 1)) 999))) (cs := []) (by decide +kernel) rfl trivial) ?_
  refine RK.of (RN.gr (i := 22) (ci := 10) (k := 3) (fn := true) (v := (t + 6)) (by decide +kernel) rfl (TO.gk k_t) (hL.fa (v := (t + 6)) 3 1 6 k_t rfl rfl rfl (by decide)).1) ?_
  obtain ⟨hc, hF⟩ := gd_of hF
  refine RK.of (RN.blk (ops := [(24, .iload_n 1), (25, .iconst 0), (26, .iastore)]) (pc' := 27) (lv' := [(0, .inr (.inr t)), (1, .inl a1)]) (st' := []) (h' := (m_wr (m_wr h (t + 7) a1 (m_mn (m_w32 ((m_rd h (t + 7) a1) + 1)) 999)) (t + 6) a1 0)) (cs := [GI (m_wr h (t + 7) a1 (m_mn (m_w32 ((m_rd h (t + 7) a1) + 1)) 999)) (t + 6) 1 a1]) (by decide +kernel) rfl ⟨(hL.fa 3 1 6 k_t rfl rfl rfl (by decide)).2.gi hc.1.1 hc.1.2, trivial⟩) ?_
  have hL : LR (m_wr (m_wr h (t + 7) a1 (m_mn (m_w32 ((m_rd h (t + 7) a1) + 1)) 999)) (t + 6) a1 0) := hL.wa (TA.le5 (hL.fa 3 1 6 k_t rfl rfl rfl (by decide)).2 (by decide))
  have k_t := (KD.wr : KD (m_wr h (t + 7) a1 (m_mn (m_w32 ((m_rd h (t + 7) a1) + 1)) 999)) (m_wr (m_wr h (t + 7) a1 (m_mn (m_w32 ((m_rd h (t + 7) a1) + 1)) 999)) (t + 6) a1 0)).to k_t
  have hK := hK.tr (KD.wr : KD (m_wr h (t + 7) a1 (m_mn (m_w32 ((m_rd h (t + 7) a1) + 1)) 999)) (m_wr (m_wr h (t + 7) a1 (m_mn (m_w32 ((m_rd h (t + 7) a1) + 1)) 999)) (t + 6) a1 0))
  exact RK.vR (by decide +kernel) rfl hL hK hF
noncomputable def GX7_lay (a1 : Int) (h : MH) : Option (MH) :=
  (bd (GX8_hasHole 311 a1 h) (fun x2 h1 =>
   (if x2 = 0 then
    some (m_wr h1 314 5 (m_w32 ((m_rd h1 314 5) + 1)))
   else
    gd [IB a1 6] (
     gd [IB a1 6] (
      jn (fun (h4 : MH) =>
       gd [IB a1 6] (
        some (m_wr h4 320 a1 (m_w32 ((m_rd h4 320 a1) + 1))))) (fun j3 =>
       (if (m_rd h1 320 a1) < (m_rd h1 313 a1) then
        j3 h1
       else
        (bv (GX10_bagUp 314 a1 h1) (fun h5 =>
         j3 (m_wr h5 310 5 a1))))))))))
theorem DX7_lay {d : Nat} {a1 : Int} {h : MH} {r : MH} (hL : LR h) (hF : GX7_lay a1 h = some r) : RN xs L iX7_lay (d + 2) 0 (lvE 0 [.inr (.inr 310), .inl a1]) [] h (RVo r) ∧ LR r ∧ KD h r := by
  unfold GX7_lay at hF
  have hK : KD h h := KD.rf
  show RK xs L iX7_lay (d + 2) 0 (lvE 0 [.inr (.inr 310), .inl a1]) [] h (RVo r) h r
  refine RK.of (RN.blk (ops := [(0, .aload_n 0)]) (pc' := 1) (lv' := [(0, .inr (.inr 310)), (1, .inl a1)]) (st' := [.inr (.inr 310)]) (h' := h) (cs := []) (by decide +kernel) rfl trivial) ?_
  refine RK.of (RN.gr (i := 12) (ci := 7) (k := 0) (fn := true) (v := 311) (by decide +kernel) rfl (TO.gk (o_310 hL)) (hL.fo (v := 311) 0 8 (o_310 hL) rfl (by decide) rfl).1) ?_
  refine RK.of (RN.blk (ops := [(4, .iload_n 1)]) (pc' := 5) (lv' := [(0, .inr (.inr 310)), (1, .inl a1)]) (st' := [.inl a1, .inr (.inr 311)]) (h' := h) (cs := []) (by decide +kernel) rfl trivial) ?_
  obtain ⟨x2, h1, hG, hF⟩ := bd_of hF
  have hq := rcv_ok (as := [.inl a1]) (TO.gk (o_311 hL))
  obtain ⟨hN, hL, hQ⟩ := DX8_hasHole (d := d + 1) hL (o_311 hL) hG
  refine RK.of (RN.cv (i := 72) (k := 81) (q2 := iX8_hasHole) (as := [.inr (.inr 311), .inl a1]) (r := []) (v := some (.inl x2)) (h1 := h1) (by decide +kernel) rfl rfl rfl rfl rfl hq hN) ?_
  have hK := hK.tr hQ
  rcases it_of hF with ⟨hb, hF⟩ | ⟨hb, hF⟩
  · refine RK.of (RN.iff (cd := .ne) (off := 17) (tgt := 25) (by decide +kernel) (mif_nen hb)) ?_
    refine RK.of (RN.blk (ops := [(11, .aload_n 0)]) (pc' := 12) (lv' := [(0, .inr (.inr 310)), (1, .inl a1)]) (st' := [.inr (.inr 310)]) (h' := h1) (cs := []) (by decide +kernel) rfl trivial) ?_
    refine RK.of (RN.gr (i := 21) (ci := 7) (k := 1) (fn := true) (v := 314) (by decide +kernel) rfl (TO.gk (o_310 hL)) (hL.fo (v := 314) 1 10 (o_310 hL) rfl (by decide) rfl).1) ?_
    refine RK.of (RN.blk (ops := [(15, .dup), (16, .getfield 76), (19, .iconst 1), (20, .iadd), (21, .putfield 76)]) (pc' := 24) (lv' := [(0, .inr (.inr 310)), (1, .inl a1)]) (st' := []) (h' := (m_wr h1 314 5 (m_w32 ((m_rd h1 314 5) + 1)))) (cs := [GK h1 314 10, GK h1 314 10]) (by decide +kernel) rfl ⟨(o_314 hL).gk, (o_314 hL).gk, trivial⟩) ?_
    have hL : LR (m_wr h1 314 5 (m_w32 ((m_rd h1 314 5) + 1))) := LR.wf (k := 5) hL (o_314 hL) rfl
    have hK := hK.tr (KD.wr : KD h1 (m_wr h1 314 5 (m_w32 ((m_rd h1 314 5) + 1))))
    exact RK.vR (by decide +kernel) rfl hL hK hF
  · refine RK.of (RN.ift (cd := .ne) (off := 17) (tgt := 25) (by decide +kernel) (mif_ne hb)) ?_
    refine RK.of (RN.blk (ops := [(25, .aload_n 0)]) (pc' := 26) (lv' := [(0, .inr (.inr 310)), (1, .inl a1)]) (st' := [.inr (.inr 310)]) (h' := h1) (cs := []) (by decide +kernel) rfl trivial) ?_
    refine RK.of (RN.gr (i := 21) (ci := 7) (k := 1) (fn := true) (v := 314) (by decide +kernel) rfl (TO.gk (o_310 hL)) (hL.fo (v := 314) 1 10 (o_310 hL) rfl (by decide) rfl).1) ?_
    refine RK.of (RN.gr (i := 79) (ci := 10) (k := 3) (fn := true) (v := 320) (by decide +kernel) rfl (TO.gk (o_314 hL)) (hL.fa (v := 320) 3 1 6 (o_314 hL) rfl (by decide) rfl (by decide)).1) ?_
    obtain ⟨hc, hF⟩ := gd_of hF
    refine RK.of (RN.blk (ops := [(32, .iload_n 1), (33, .iaload), (34, .aload_n 0)]) (pc' := 35) (lv' := [(0, .inr (.inr 310)), (1, .inl a1)]) (st' := [.inr (.inr 310), .inl (m_rd h1 320 a1)]) (h' := h1) (cs := [GI h1 320 1 a1]) (by decide +kernel) rfl ⟨(a_320 hL).gi hc.1.1 hc.1.2, trivial⟩) ?_
    refine RK.of (RN.gr (i := 12) (ci := 7) (k := 0) (fn := true) (v := 311) (by decide +kernel) rfl (TO.gk (o_310 hL)) (hL.fo (v := 311) 0 8 (o_310 hL) rfl (by decide) rfl).1) ?_
    refine RK.of (RN.gr (i := 83) (ci := 8) (k := 5) (fn := true) (v := 313) (by decide +kernel) rfl (TO.gk (o_311 hL)) (hL.fa (v := 313) 5 1 6 (o_311 hL) rfl (by decide) rfl (by decide)).1) ?_
    obtain ⟨hc, hF⟩ := gd_of hF
    refine RK.of (RN.blk (ops := [(41, .iload_n 1), (42, .iaload)]) (pc' := 43) (lv' := [(0, .inr (.inr 310)), (1, .inl a1)]) (st' := [.inl (m_rd h1 313 a1), .inl (m_rd h1 320 a1)]) (h' := h1) (cs := [GI h1 313 1 a1]) (by decide +kernel) rfl ⟨(a_313 hL).gi hc.1.1 hc.1.2, trivial⟩) ?_
    refine jn_use (fun j3 => ∀ (h4 : MH), LR h4 → KD h h4 → j3 h4 = some r → RK xs L iX7_lay (d + 2) 59 [(0, .inr (.inr 310)), (1, .inl a1)] [] h4 (RVo r) h r) ?_ ?_ hF
    · intro h4 hL hK hF
      refine RK.of (RN.blk (ops := [(59, .aload_n 0)]) (pc' := 60) (lv' := [(0, .inr (.inr 310)), (1, .inl a1)]) (st' := [.inr (.inr 310)]) (h' := h4) (cs := []) (by decide +kernel) rfl trivial) ?_
      refine RK.of (RN.gr (i := 21) (ci := 7) (k := 1) (fn := true) (v := 314) (by decide +kernel) rfl (TO.gk (o_310 hL)) (hL.fo (v := 314) 1 10 (o_310 hL) rfl (by decide) rfl).1) ?_
      refine RK.of (RN.gr (i := 79) (ci := 10) (k := 3) (fn := true) (v := 320) (by decide +kernel) rfl (TO.gk (o_314 hL)) (hL.fa (v := 320) 3 1 6 (o_314 hL) rfl (by decide) rfl (by decide)).1) ?_
      obtain ⟨hc, hF⟩ := gd_of hF
      refine RK.of (RN.blk (ops := [(66, .iload_n 1), (67, .dup2), (68, .iaload), (69, .iconst 1), (70, .iadd), (71, .iastore)]) (pc' := 72) (lv' := [(0, .inr (.inr 310)), (1, .inl a1)]) (st' := []) (h' := (m_wr h4 320 a1 (m_w32 ((m_rd h4 320 a1) + 1)))) (cs := [GI h4 320 1 a1, GI h4 320 1 a1]) (by decide +kernel) rfl ⟨(a_320 hL).gi hc.1.1 hc.1.2, (a_320 hL).gi hc.1.1 hc.1.2, trivial⟩) ?_
      have hL : LR (m_wr h4 320 a1 (m_w32 ((m_rd h4 320 a1) + 1))) := hL.wa (TA.le5 (a_320 hL) (by decide))
      have hK := hK.tr (KD.wr : KD h4 (m_wr h4 320 a1 (m_w32 ((m_rd h4 320 a1) + 1))))
      exact RK.vR (by decide +kernel) rfl hL hK hF
    · intro j3 Jj3 hF
      rcases it_of hF with ⟨hb, hF⟩ | ⟨hb, hF⟩
      · refine RK.of (RN.ict (cd := .lt) (off := 16) (tgt := 59) (by decide +kernel) (mif_lt hb)) ?_
        exact RK.sub (Jj3 _ hL hK hF) (sub_cons rfl (sub_cons rfl sub_nil))
      · refine RK.of (RN.icf (cd := .lt) (off := 16) (tgt := 59) (by decide +kernel) (mif_ltn hb)) ?_
        refine RK.of (RN.blk (ops := [(46, .aload_n 0)]) (pc' := 47) (lv' := [(0, .inr (.inr 310)), (1, .inl a1)]) (st' := [.inr (.inr 310)]) (h' := h1) (cs := []) (by decide +kernel) rfl trivial) ?_
        refine RK.of (RN.gr (i := 21) (ci := 7) (k := 1) (fn := true) (v := 314) (by decide +kernel) rfl (TO.gk (o_310 hL)) (hL.fo (v := 314) 1 10 (o_310 hL) rfl (by decide) rfl).1) ?_
        refine RK.of (RN.blk (ops := [(50, .iload_n 1)]) (pc' := 51) (lv' := [(0, .inr (.inr 310)), (1, .inl a1)]) (st' := [.inl a1, .inr (.inr 314)]) (h' := h1) (cs := []) (by decide +kernel) rfl trivial) ?_
        obtain ⟨h5, hG, hF⟩ := bv_of hF
        have hq := rcv_ok (as := [.inl a1]) (TO.gk (o_314 hL))
        obtain ⟨hN, hL, hQ⟩ := DX10_bagUp (d := d) hL (o_314 hL) hG
        refine RK.of (RN.cv (i := 86) (k := 104) (q2 := iX10_bagUp) (as := [.inr (.inr 314), .inl a1]) (r := []) (v := none) (h1 := h5) (by decide +kernel) rfl rfl rfl rfl rfl hq hN) ?_
        have hK := hK.tr hQ
        refine RK.of (RN.blk (ops := [(54, .aload_n 0), (55, .iload_n 1), (56, .putfield 29)]) (pc' := 59) (lv' := [(0, .inr (.inr 310)), (1, .inl a1)]) (st' := []) (h' := (m_wr h5 310 5 a1)) (cs := [GK h5 310 7]) (by decide +kernel) rfl ⟨(o_310 hL).gk, trivial⟩) ?_
        have hL : LR (m_wr h5 310 5 a1) := LR.wf (k := 5) hL (o_310 hL) rfl
        have hK := hK.tr (KD.wr : KD h5 (m_wr h5 310 5 a1))
        exact RK.sub (Jj3 _ hL hK hF) (sub_cons rfl (sub_cons rfl sub_nil))
noncomputable def GX7_step (a1 : Int) (h : MH) : Option (Int × MH) :=
  (bd (GX7_choose a1 h) (fun x2 h1 =>
   (bd (GX10_takeOut 314 x2 h1) (fun x4 h3 =>
    hl (m_wr (m_wr h3 310 5 (-1)) 314 6 (m_w32 ((m_rd (m_wr h3 310 5 (-1)) 314 6) + 1))) (fun h5 =>
     (if x4 = (-1) then
      some (x4, h5)
     else
      (bd (GX1_holeFor x4 h5) (fun x7 h6 =>
       (bv (GX7_lay x7 h6) (fun h8 =>
        some (x4, h8)))))))))))
theorem DX7_step {d : Nat} {a1 : Int} {h : MH} {r : Int × MH} (hL : LR h) (hF : GX7_step a1 h = some r) : RN xs L iX7_step (d + 4) 0 (lvE 0 [.inr (.inr 310), .inr (.inr a1)]) [] h (RIo r) ∧ LR r.2 ∧ KD h r.2 := by
  unfold GX7_step at hF
  have hK : KD h h := KD.rf
  show RK xs L iX7_step (d + 4) 0 (lvE 0 [.inr (.inr 310), .inr (.inr a1)]) [] h (RIo r) h r.2
  refine RK.of (RN.blk (ops := [(0, .aload_n 0)]) (pc' := 1) (lv' := [(0, .inr (.inr 310)), (1, .inr (.inr a1))]) (st' := [.inr (.inr 310)]) (h' := h) (cs := []) (by decide +kernel) rfl trivial) ?_
  refine RK.of (RN.gr (i := 21) (ci := 7) (k := 1) (fn := true) (v := 314) (by decide +kernel) rfl (TO.gk (o_310 hL)) (hL.fo (v := 314) 1 10 (o_310 hL) rfl (by decide) rfl).1) ?_
  refine RK.of (RN.blk (ops := [(4, .aload_n 0), (5, .aload_n 1)]) (pc' := 6) (lv' := [(0, .inr (.inr 310)), (1, .inr (.inr a1))]) (st' := [.inr (.inr a1), .inr (.inr 310), .inr (.inr 314)]) (h' := h) (cs := []) (by decide +kernel) rfl trivial) ?_
  obtain ⟨x2, h1, hG, hF⟩ := bd_of hF
  have hq := rcv_ok (as := [.inr (.inr a1)]) (TO.gk (o_310 hL))
  obtain ⟨hN, hL, hQ⟩ := DX7_choose (d := d) hL  hG
  refine RK.of (RN.cv (i := 54) (k := 70) (q2 := iX7_choose) (as := [.inr (.inr 310), .inr (.inr a1)]) (r := [.inr (.inr 314)]) (v := some (.inl x2)) (h1 := h1) (by decide +kernel) rfl rfl rfl rfl rfl hq hN) ?_
  have hK := hK.tr hQ
  obtain ⟨x4, h3, hG, hF⟩ := bd_of hF
  have hq := rcv_ok (as := [.inl x2]) (TO.gk (o_314 hL))
  obtain ⟨hN, hL, hQ⟩ := DX10_takeOut (d := d + 3) hL (o_314 hL) hG
  refine RK.of (RN.cv (i := 58) (k := 103) (q2 := iX10_takeOut) (as := [.inr (.inr 314), .inl x2]) (r := []) (v := some (.inl x4)) (h1 := h3) (by decide +kernel) rfl rfl rfl rfl rfl hq hN) ?_
  have hK := hK.tr hQ
  refine RK.of (RN.blk (ops := [(12, .istore_n 2), (13, .aload_n 0), (14, .iconst (-1)), (15, .putfield 29)]) (pc' := 18) (lv' := [(2, .inl x4), (0, .inr (.inr 310)), (1, .inr (.inr a1))]) (st' := []) (h' := (m_wr h3 310 5 (-1))) (cs := [GK h3 310 7]) (by decide +kernel) rfl ⟨(o_310 hL).gk, trivial⟩) ?_
  have hL : LR (m_wr h3 310 5 (-1)) := LR.wf (k := 5) hL (o_310 hL) rfl
  have hK := hK.tr (KD.wr : KD h3 (m_wr h3 310 5 (-1)))
  refine RK.of (RN.blk (ops := [(18, .aload_n 0)]) (pc' := 19) (lv' := [(2, .inl x4), (0, .inr (.inr 310)), (1, .inr (.inr a1))]) (st' := [.inr (.inr 310)]) (h' := (m_wr h3 310 5 (-1))) (cs := []) (by decide +kernel) rfl trivial) ?_
  refine RK.of (RN.gr (i := 21) (ci := 7) (k := 1) (fn := true) (v := 314) (by decide +kernel) rfl (TO.gk (o_310 hL)) (hL.fo (v := 314) 1 10 (o_310 hL) rfl (by decide) rfl).1) ?_
  refine RK.of (RN.blk (ops := [(22, .dup), (23, .getfield 62), (26, .iconst 1), (27, .iadd), (28, .putfield 62)]) (pc' := 31) (lv' := [(2, .inl x4), (0, .inr (.inr 310)), (1, .inr (.inr a1))]) (st' := []) (h' := (m_wr (m_wr h3 310 5 (-1)) 314 6 (m_w32 ((m_rd (m_wr h3 310 5 (-1)) 314 6) + 1)))) (cs := [GK (m_wr h3 310 5 (-1)) 314 10, GK (m_wr h3 310 5 (-1)) 314 10]) (by decide +kernel) rfl ⟨(o_314 hL).gk, (o_314 hL).gk, trivial⟩) ?_
  have hL : LR (m_wr (m_wr h3 310 5 (-1)) 314 6 (m_w32 ((m_rd (m_wr h3 310 5 (-1)) 314 6) + 1))) := LR.wf (k := 6) hL (o_314 hL) rfl
  have hK := hK.tr (KD.wr : KD (m_wr h3 310 5 (-1)) (m_wr (m_wr h3 310 5 (-1)) 314 6 (m_w32 ((m_rd (m_wr h3 310 5 (-1)) 314 6) + 1))))
  obtain ⟨h5, he, hF⟩ := hl_of hF
  refine RK.of (RN.hl he) ?_
  rw [← he] at hL hK
  refine RK.of (RN.blk (ops := [(31, .iload_n 2), (32, .iconst (-1))]) (pc' := 33) (lv' := [(2, .inl x4), (0, .inr (.inr 310)), (1, .inr (.inr a1))]) (st' := [.inl (-1), .inl x4]) (h' := h5) (cs := []) (by decide +kernel) rfl trivial) ?_
  rcases it_of hF with ⟨hb, hF⟩ | ⟨hb, hF⟩
  · refine RK.of (RN.ict (cd := .eq) (off := 15) (tgt := 48) (by decide +kernel) (mif_eq hb)) ?_
    refine RK.of (RN.blk (ops := [(48, .iload_n 2)]) (pc' := 49) (lv' := [(2, .inl x4), (0, .inr (.inr 310)), (1, .inr (.inr a1))]) (st' := [.inl x4]) (h' := h5) (cs := []) (by decide +kernel) rfl trivial) ?_
    exact RK.iR (by decide +kernel) rfl hL hK hF
  · refine RK.of (RN.icf (cd := .eq) (off := 15) (tgt := 48) (by decide +kernel) (mif_eqn hb)) ?_
    refine RK.of (RN.blk (ops := [(36, .aload_n 0), (37, .aload_n 0)]) (pc' := 38) (lv' := [(2, .inl x4), (0, .inr (.inr 310)), (1, .inr (.inr a1))]) (st' := [.inr (.inr 310), .inr (.inr 310)]) (h' := h5) (cs := []) (by decide +kernel) rfl trivial) ?_
    refine RK.of (RN.gr (i := 33) (ci := 7) (k := 3) (fn := true) (v := 298) (by decide +kernel) rfl (TO.gk (o_310 hL)) (hL.fo (v := 298) 3 1 (o_310 hL) rfl (by decide) rfl).1) ?_
    refine RK.of (RN.blk (ops := [(41, .iload_n 2)]) (pc' := 42) (lv' := [(2, .inl x4), (0, .inr (.inr 310)), (1, .inr (.inr a1))]) (st' := [.inl x4, .inr (.inr 298), .inr (.inr 310)]) (h' := h5) (cs := []) (by decide +kernel) rfl trivial) ?_
    obtain ⟨x7, h6, hG, hF⟩ := bd_of hF
    have hq := rcv_ok (as := [.inl x4]) (TO.gk (o_298 hL))
    obtain ⟨hN, hL, hQ⟩ := DX1_holeFor (d := d + 1) hL  hG
    refine RK.of (RN.cv (i := 65) (k := 15) (q2 := iX1_holeFor) (as := [.inr (.inr 298), .inl x4]) (r := [.inr (.inr 310)]) (v := some (.inl x7)) (h1 := h6) (by decide +kernel) rfl rfl rfl rfl rfl hq hN) ?_
    have hK := hK.tr hQ
    obtain ⟨h8, hG, hF⟩ := bv_of hF
    have hq := rcv_ok (as := [.inl x7]) (TO.gk (o_310 hL))
    obtain ⟨hN, hL, hQ⟩ := DX7_lay (d := d + 1) hL  hG
    refine RK.of (RN.cv (i := 68) (k := 69) (q2 := iX7_lay) (as := [.inr (.inr 310), .inl x7]) (r := []) (v := none) (h1 := h8) (by decide +kernel) rfl rfl rfl rfl rfl hq hN) ?_
    have hK := hK.tr hQ
    refine RK.of (RN.blk (ops := [(48, .iload_n 2)]) (pc' := 49) (lv' := [(2, .inl x4), (0, .inr (.inr 310)), (1, .inr (.inr a1))]) (st' := [.inl x4]) (h' := h8) (cs := []) (by decide +kernel) rfl trivial) ?_
    exact RK.iR (by decide +kernel) rfl hL hK hF
noncomputable def GX7_steps_L2 (u1 : Int) (u2 : Int) (K0 : MH → Option (MH)) : Nat → Int → MH → Option (MH)
  | 0, _, _ => none
  | f + 1, v3, h =>
    (if v3 < u2 then
     (if 0 < (m_rd h 314 1) then
      (bd (GX7_step u1 h) (fun x2 h1 =>
       GX7_steps_L2 u1 u2 K0 f (m_w32 (v3 + 1)) h1))
     else
      K0 h)
    else
     K0 h)
theorem DX7_steps_L2 {d : Nat} {u1 : Int} {u2 : Int} {K0 : MH → Option (MH)} {r : MH} {h0 hB : MH} (hB0 : KD h0 hB) (hK0 : ∀ (h : MH), LR h → KD hB h → K0 h = some r → RK xs L iX7_steps (d + 5) 29 [] [] h (RVo r) h0 r) : ∀ (f : Nat) (v3 : Int) (h : MH), LR h → KD hB h → GX7_steps_L2 u1 u2 K0 f v3 h = some r → RK xs L iX7_steps (d + 5) 2 [(0, .inr (.inr 310)), (1, .inr (.inr u1)), (2, .inl u2), (3, .inl v3)] [] h (RVo r) h0 r := by
  intro f
  induction f with
  | zero =>
    intro v3 h hL hJ hF
    cases hF
  | succ f ih =>
    intro v3 h hL hJ hF
    unfold GX7_steps_L2 at hF
    have hK := hB0.tr hJ
    refine RK.of (RN.blk (ops := [(2, .iload_n 3), (3, .iload_n 2)]) (pc' := 4) (lv' := [(0, .inr (.inr 310)), (1, .inr (.inr u1)), (2, .inl u2), (3, .inl v3)]) (st' := [.inl u2, .inl v3]) (h' := h) (cs := []) (by decide +kernel) rfl trivial) ?_
    rcases it_of hF with ⟨hb, hF⟩ | ⟨hb, hF⟩
    · refine RK.of (RN.icf (cd := .ge) (off := 25) (tgt := 29) (by decide +kernel) (mif_gen hb)) ?_
      refine RK.of (RN.blk (ops := [(7, .aload_n 0)]) (pc' := 8) (lv' := [(0, .inr (.inr 310)), (1, .inr (.inr u1)), (2, .inl u2), (3, .inl v3)]) (st' := [.inr (.inr 310)]) (h' := h) (cs := []) (by decide +kernel) rfl trivial) ?_
      refine RK.of (RN.gr (i := 21) (ci := 7) (k := 1) (fn := true) (v := 314) (by decide +kernel) rfl (TO.gk (o_310 hL)) (hL.fo (v := 314) 1 10 (o_310 hL) rfl (by decide) rfl).1) ?_
      refine RK.of (RN.blk (ops := [(11, .getfield 89)]) (pc' := 14) (lv' := [(0, .inr (.inr 310)), (1, .inr (.inr u1)), (2, .inl u2), (3, .inl v3)]) (st' := [.inl (m_rd h 314 1)]) (h' := h) (cs := [GK h 314 10]) (by decide +kernel) rfl ⟨(o_314 hL).gk, trivial⟩) ?_
      rcases it_of hF with ⟨hb, hF⟩ | ⟨hb, hF⟩
      · refine RK.of (RN.iff (cd := .le) (off := 15) (tgt := 29) (by decide +kernel) (mif_len hb)) ?_
        refine RK.of (RN.blk (ops := [(17, .aload_n 0), (18, .aload_n 1)]) (pc' := 19) (lv' := [(0, .inr (.inr 310)), (1, .inr (.inr u1)), (2, .inl u2), (3, .inl v3)]) (st' := [.inr (.inr u1), .inr (.inr 310)]) (h' := h) (cs := []) (by decide +kernel) rfl trivial) ?_
        obtain ⟨x2, h1, hG, hF⟩ := bd_of hF
        have hq := rcv_ok (as := [.inr (.inr u1)]) (TO.gk (o_310 hL))
        obtain ⟨hN, hL, hQ⟩ := DX7_step (d := d) hL  hG
        refine RK.of (RN.cv (i := 125) (k := 68) (q2 := iX7_step) (as := [.inr (.inr 310), .inr (.inr u1)]) (r := []) (v := some (.inl x2)) (h1 := h1) (by decide +kernel) rfl rfl rfl rfl rfl hq hN) ?_
        have hK := hK.tr hQ
        have hJ := hJ.tr hQ
        refine RK.of (RN.blk (ops := [(22, .pop), (23, .iinc 3 1)]) (pc' := 26) (lv' := [(3, .inl (m_w32 (v3 + 1))), (0, .inr (.inr 310)), (1, .inr (.inr u1)), (2, .inl u2)]) (st' := []) (h' := h1) (cs := []) (by decide +kernel) rfl trivial) ?_
        refine RK.of (RN.goto (off := -24) (tgt := 2) (by decide +kernel)) ?_
        exact RK.sub (ih _ _ hL hJ hF) (sub_cons rfl (sub_cons rfl (sub_cons rfl (sub_cons rfl sub_nil))))
      · refine RK.of (RN.ift (cd := .le) (off := 15) (tgt := 29) (by decide +kernel) (mif_le hb)) ?_
        exact RK.sub (hK0 _ hL hJ hF) sub_nil
    · refine RK.of (RN.ict (cd := .ge) (off := 25) (tgt := 29) (by decide +kernel) (mif_ge hb)) ?_
      exact RK.sub (hK0 _ hL hJ hF) sub_nil
noncomputable def GX7_steps (a1 : Int) (a2 : Int) (h : MH) : Option (MH) :=
  GX7_steps_L2 a1 a2 (fun h1 =>
   some h1) FU 0 h
theorem DX7_steps {d : Nat} {a1 : Int} {a2 : Int} {h : MH} {r : MH} (hL : LR h) (hF : GX7_steps a1 a2 h = some r) : RN xs L iX7_steps (d + 5) 0 (lvE 0 [.inr (.inr 310), .inr (.inr a1), .inl a2]) [] h (RVo r) ∧ LR r ∧ KD h r := by
  unfold GX7_steps at hF
  have hK : KD h h := KD.rf
  show RK xs L iX7_steps (d + 5) 0 (lvE 0 [.inr (.inr 310), .inr (.inr a1), .inl a2]) [] h (RVo r) h r
  refine RK.of (RN.blk (ops := [(0, .iconst 0), (1, .istore_n 3)]) (pc' := 2) (lv' := [(3, .inl 0), (0, .inr (.inr 310)), (1, .inr (.inr a1)), (2, .inl a2)]) (st' := []) (h' := h) (cs := []) (by decide +kernel) rfl trivial) ?_
  refine RK.sub (DX7_steps_L2 hK ?_ _ _ _ hL KD.rf hF) (sub_cons rfl (sub_cons rfl (sub_cons rfl (sub_cons rfl sub_nil))))
  · intro h1 hL hq hF
    have hK := hK.tr hq
    exact RK.vR (by decide +kernel) rfl hL hK hF
noncomputable def GX7_turnOfSorting_L2 (u1 : Int) (K0 : Int → MH → Option (Int × MH)) (K1 : MH → Option (Int × MH)) : Nat → Int → MH → Option (Int × MH)
  | 0, _, _ => none
  | f + 1, v2, h =>
    (if v2 < 200 then
     (bd (GX7_step u1 h) (fun x2 h1 =>
      (if (m_rd h1 314 1) = 0 then
       K0 (m_rd h 314 6) h1
      else
       GX7_turnOfSorting_L2 u1 K0 K1 f (m_w32 (v2 + 1)) h1)))
    else
     K1 h)
theorem DX7_turnOfSorting_L2 {d : Nat} {u1 : Int} {K0 : Int → MH → Option (Int × MH)} {K1 : MH → Option (Int × MH)} {r : Int × MH} {h0 hB : MH} (hB0 : KD h0 hB) (hK0 : ∀ (w3 : Int) (h : MH), LR h → KD hB h → K0 w3 h = some r → RK xs L iX7_turnOfSorting (d + 5) 33 [(3, .inl w3)] [] h (RIo r) h0 r.2) (hK1 : ∀ (h : MH), LR h → KD hB h → K1 h = some r → RK xs L iX7_turnOfSorting (d + 5) 41 [] [] h (RIo r) h0 r.2) : ∀ (f : Nat) (v2 : Int) (h : MH), LR h → KD hB h → GX7_turnOfSorting_L2 u1 K0 K1 f v2 h = some r → RK xs L iX7_turnOfSorting (d + 5) 2 [(0, .inr (.inr 310)), (1, .inr (.inr u1)), (2, .inl v2)] [] h (RIo r) h0 r.2 := by
  intro f
  induction f with
  | zero =>
    intro v2 h hL hJ hF
    cases hF
  | succ f ih =>
    intro v2 h hL hJ hF
    unfold GX7_turnOfSorting_L2 at hF
    have hK := hB0.tr hJ
    refine RK.of (RN.blk (ops := [(2, .iload_n 2), (3, .sipush 200)]) (pc' := 6) (lv' := [(0, .inr (.inr 310)), (1, .inr (.inr u1)), (2, .inl v2)]) (st' := [.inl 200, .inl v2]) (h' := h) (cs := []) (by decide +kernel) rfl trivial) ?_
    rcases it_of hF with ⟨hb, hF⟩ | ⟨hb, hF⟩
    · refine RK.of (RN.icf (cd := .ge) (off := 35) (tgt := 41) (by decide +kernel) (mif_gen hb)) ?_
      refine RK.of (RN.blk (ops := [(9, .aload_n 0)]) (pc' := 10) (lv' := [(0, .inr (.inr 310)), (1, .inr (.inr u1)), (2, .inl v2)]) (st' := [.inr (.inr 310)]) (h' := h) (cs := []) (by decide +kernel) rfl trivial) ?_
      refine RK.of (RN.gr (i := 21) (ci := 7) (k := 1) (fn := true) (v := 314) (by decide +kernel) rfl (TO.gk (o_310 hL)) (hL.fo (v := 314) 1 10 (o_310 hL) rfl (by decide) rfl).1) ?_
      refine RK.of (RN.blk (ops := [(13, .getfield 62), (16, .istore_n 3), (17, .aload_n 0), (18, .aload_n 1)]) (pc' := 19) (lv' := [(3, .inl (m_rd h 314 6)), (0, .inr (.inr 310)), (1, .inr (.inr u1)), (2, .inl v2)]) (st' := [.inr (.inr u1), .inr (.inr 310)]) (h' := h) (cs := [GK h 314 10]) (by decide +kernel) rfl ⟨(o_314 hL).gk, trivial⟩) ?_
      obtain ⟨x2, h1, hG, hF⟩ := bd_of hF
      have hq := rcv_ok (as := [.inr (.inr u1)]) (TO.gk (o_310 hL))
      obtain ⟨hN, hL, hQ⟩ := DX7_step (d := d) hL  hG
      refine RK.of (RN.cv (i := 125) (k := 68) (q2 := iX7_step) (as := [.inr (.inr 310), .inr (.inr u1)]) (r := []) (v := some (.inl x2)) (h1 := h1) (by decide +kernel) rfl rfl rfl rfl rfl hq hN) ?_
      have hK := hK.tr hQ
      have hJ := hJ.tr hQ
      refine RK.of (RN.blk (ops := [(22, .pop), (23, .aload_n 0)]) (pc' := 24) (lv' := [(3, .inl (m_rd h 314 6)), (0, .inr (.inr 310)), (1, .inr (.inr u1)), (2, .inl v2)]) (st' := [.inr (.inr 310)]) (h' := h1) (cs := []) (by decide +kernel) rfl trivial) ?_
      refine RK.of (RN.gr (i := 21) (ci := 7) (k := 1) (fn := true) (v := 314) (by decide +kernel) rfl (TO.gk (o_310 hL)) (hL.fo (v := 314) 1 10 (o_310 hL) rfl (by decide) rfl).1) ?_
      refine RK.of (RN.blk (ops := [(27, .getfield 89)]) (pc' := 30) (lv' := [(3, .inl (m_rd h 314 6)), (0, .inr (.inr 310)), (1, .inr (.inr u1)), (2, .inl v2)]) (st' := [.inl (m_rd h1 314 1)]) (h' := h1) (cs := [GK h1 314 10]) (by decide +kernel) rfl ⟨(o_314 hL).gk, trivial⟩) ?_
      rcases it_of hF with ⟨hb, hF⟩ | ⟨hb, hF⟩
      · refine RK.of (RN.iff (cd := .ne) (off := 5) (tgt := 35) (by decide +kernel) (mif_nen hb)) ?_
        exact RK.sub (hK0 _ _ hL hJ hF) (sub_cons rfl sub_nil)
      · refine RK.of (RN.ift (cd := .ne) (off := 5) (tgt := 35) (by decide +kernel) (mif_ne hb)) ?_
        refine RK.of (RN.blk (ops := [(35, .iinc 2 1)]) (pc' := 38) (lv' := [(2, .inl (m_w32 (v2 + 1))), (3, .inl (m_rd h 314 6)), (0, .inr (.inr 310)), (1, .inr (.inr u1))]) (st' := []) (h' := h1) (cs := []) (by decide +kernel) rfl trivial) ?_
        refine RK.of (RN.goto (off := -36) (tgt := 2) (by decide +kernel)) ?_
        exact RK.sub (ih _ _ hL hJ hF) (sub_cons rfl (sub_cons rfl (sub_cons rfl sub_nil)))
    · refine RK.of (RN.ict (cd := .ge) (off := 35) (tgt := 41) (by decide +kernel) (mif_ge hb)) ?_
      exact RK.sub (hK1 _ hL hJ hF) sub_nil
noncomputable def GX7_turnOfSorting (a1 : Int) (h : MH) : Option (Int × MH) :=
  GX7_turnOfSorting_L2 a1 (fun w1 h2 =>
   some (w1, h2)) (fun h3 =>
   some ((-2), h3)) FU 0 h
theorem DX7_turnOfSorting {d : Nat} {a1 : Int} {h : MH} {r : Int × MH} (hL : LR h) (hF : GX7_turnOfSorting a1 h = some r) : RN xs L iX7_turnOfSorting (d + 5) 0 (lvE 0 [.inr (.inr 310), .inr (.inr a1)]) [] h (RIo r) ∧ LR r.2 ∧ KD h r.2 := by
  unfold GX7_turnOfSorting at hF
  have hK : KD h h := KD.rf
  show RK xs L iX7_turnOfSorting (d + 5) 0 (lvE 0 [.inr (.inr 310), .inr (.inr a1)]) [] h (RIo r) h r.2
  refine RK.of (RN.blk (ops := [(0, .iconst 0), (1, .istore_n 2)]) (pc' := 2) (lv' := [(2, .inl 0), (0, .inr (.inr 310)), (1, .inr (.inr a1))]) (st' := []) (h' := h) (cs := []) (by decide +kernel) rfl trivial) ?_
  refine RK.sub (DX7_turnOfSorting_L2 hK ?_ ?_ _ _ _ hL KD.rf hF) (sub_cons rfl (sub_cons rfl (sub_cons rfl sub_nil)))
  · intro w1 h2 hL hq hF
    have hK := hK.tr hq
    refine RK.of (RN.blk (ops := [(33, .iload_n 3)]) (pc' := 34) (lv' := [(3, .inl w1)]) (st' := [.inl w1]) (h' := h2) (cs := []) (by decide +kernel) rfl trivial) ?_
    exact RK.iR (by decide +kernel) rfl hL hK hF
  · intro h3 hL hq hF
    have hK := hK.tr hq
    refine RK.of (RN.blk (ops := [(41, .bipush (-2))]) (pc' := 43) (lv' := []) (st' := [.inl (-2)]) (h' := h3) (cs := []) (by decide +kernel) rfl trivial) ?_
    exact RK.iR (by decide +kernel) rfl hL hK hF
noncomputable def GX7_turnOfTying_L3 (u1 : Int) (u2 : Int) (u3 : Int) (K0 : Int → MH → Option (Int × MH)) (K1 : MH → Option (Int × MH)) : Nat → Int → MH → Option (Int × MH)
  | 0, _, _ => none
  | f + 1, v4, h =>
    (if v4 < u3 then
     (if 0 < (m_rd h 314 1) then
      (bd (GX7_step u1 h) (fun x2 h1 =>
       (if (m_rd h1 310 5) = u2 then
        K0 (m_rd h 314 6) h1
       else
        GX7_turnOfTying_L3 u1 u2 u3 K0 K1 f (m_w32 (v4 + 1)) h1)))
     else
      K1 h)
    else
     K1 h)
theorem DX7_turnOfTying_L3 {d : Nat} {u1 : Int} {u2 : Int} {u3 : Int} {K0 : Int → MH → Option (Int × MH)} {K1 : MH → Option (Int × MH)} {r : Int × MH} {h0 hB : MH} (hB0 : KD h0 hB) (hK0 : ∀ (w5 : Int) (h : MH), LR h → KD hB h → K0 w5 h = some r → RK xs L iX7_turnOfTying (d + 5) 42 [(5, .inl w5)] [] h (RIo r) h0 r.2) (hK1 : ∀ (h : MH), LR h → KD hB h → K1 h = some r → RK xs L iX7_turnOfTying (d + 5) 51 [] [] h (RIo r) h0 r.2) : ∀ (f : Nat) (v4 : Int) (h : MH), LR h → KD hB h → GX7_turnOfTying_L3 u1 u2 u3 K0 K1 f v4 h = some r → RK xs L iX7_turnOfTying (d + 5) 3 [(0, .inr (.inr 310)), (1, .inr (.inr u1)), (2, .inl u2), (3, .inl u3), (4, .inl v4)] [] h (RIo r) h0 r.2 := by
  intro f
  induction f with
  | zero =>
    intro v4 h hL hJ hF
    cases hF
  | succ f ih =>
    intro v4 h hL hJ hF
    unfold GX7_turnOfTying_L3 at hF
    have hK := hB0.tr hJ
    refine RK.of (RN.blk (ops := [(3, .iload 4), (5, .iload_n 3)]) (pc' := 6) (lv' := [(0, .inr (.inr 310)), (1, .inr (.inr u1)), (2, .inl u2), (3, .inl u3), (4, .inl v4)]) (st' := [.inl u3, .inl v4]) (h' := h) (cs := []) (by decide +kernel) rfl trivial) ?_
    rcases it_of hF with ⟨hb, hF⟩ | ⟨hb, hF⟩
    · refine RK.of (RN.icf (cd := .ge) (off := 45) (tgt := 51) (by decide +kernel) (mif_gen hb)) ?_
      refine RK.of (RN.blk (ops := [(9, .aload_n 0)]) (pc' := 10) (lv' := [(0, .inr (.inr 310)), (1, .inr (.inr u1)), (2, .inl u2), (3, .inl u3), (4, .inl v4)]) (st' := [.inr (.inr 310)]) (h' := h) (cs := []) (by decide +kernel) rfl trivial) ?_
      refine RK.of (RN.gr (i := 21) (ci := 7) (k := 1) (fn := true) (v := 314) (by decide +kernel) rfl (TO.gk (o_310 hL)) (hL.fo (v := 314) 1 10 (o_310 hL) rfl (by decide) rfl).1) ?_
      refine RK.of (RN.blk (ops := [(13, .getfield 89)]) (pc' := 16) (lv' := [(0, .inr (.inr 310)), (1, .inr (.inr u1)), (2, .inl u2), (3, .inl u3), (4, .inl v4)]) (st' := [.inl (m_rd h 314 1)]) (h' := h) (cs := [GK h 314 10]) (by decide +kernel) rfl ⟨(o_314 hL).gk, trivial⟩) ?_
      rcases it_of hF with ⟨hb, hF⟩ | ⟨hb, hF⟩
      · refine RK.of (RN.iff (cd := .le) (off := 35) (tgt := 51) (by decide +kernel) (mif_len hb)) ?_
        refine RK.of (RN.blk (ops := [(19, .aload_n 0)]) (pc' := 20) (lv' := [(0, .inr (.inr 310)), (1, .inr (.inr u1)), (2, .inl u2), (3, .inl u3), (4, .inl v4)]) (st' := [.inr (.inr 310)]) (h' := h) (cs := []) (by decide +kernel) rfl trivial) ?_
        refine RK.of (RN.gr (i := 21) (ci := 7) (k := 1) (fn := true) (v := 314) (by decide +kernel) rfl (TO.gk (o_310 hL)) (hL.fo (v := 314) 1 10 (o_310 hL) rfl (by decide) rfl).1) ?_
        refine RK.of (RN.blk (ops := [(23, .getfield 62), (26, .istore 5), (28, .aload_n 0), (29, .aload_n 1)]) (pc' := 30) (lv' := [(5, .inl (m_rd h 314 6)), (0, .inr (.inr 310)), (1, .inr (.inr u1)), (2, .inl u2), (3, .inl u3), (4, .inl v4)]) (st' := [.inr (.inr u1), .inr (.inr 310)]) (h' := h) (cs := [GK h 314 10]) (by decide +kernel) rfl ⟨(o_314 hL).gk, trivial⟩) ?_
        obtain ⟨x2, h1, hG, hF⟩ := bd_of hF
        have hq := rcv_ok (as := [.inr (.inr u1)]) (TO.gk (o_310 hL))
        obtain ⟨hN, hL, hQ⟩ := DX7_step (d := d) hL  hG
        refine RK.of (RN.cv (i := 125) (k := 68) (q2 := iX7_step) (as := [.inr (.inr 310), .inr (.inr u1)]) (r := []) (v := some (.inl x2)) (h1 := h1) (by decide +kernel) rfl rfl rfl rfl rfl hq hN) ?_
        have hK := hK.tr hQ
        have hJ := hJ.tr hQ
        refine RK.of (RN.blk (ops := [(33, .pop), (34, .aload_n 0), (35, .getfield 29), (38, .iload_n 2)]) (pc' := 39) (lv' := [(5, .inl (m_rd h 314 6)), (0, .inr (.inr 310)), (1, .inr (.inr u1)), (2, .inl u2), (3, .inl u3), (4, .inl v4)]) (st' := [.inl u2, .inl (m_rd h1 310 5)]) (h' := h1) (cs := [GK h1 310 7]) (by decide +kernel) rfl ⟨(o_310 hL).gk, trivial⟩) ?_
        rcases it_of hF with ⟨hb, hF⟩ | ⟨hb, hF⟩
        · refine RK.of (RN.icf (cd := .ne) (off := 6) (tgt := 45) (by decide +kernel) (mif_nen hb)) ?_
          exact RK.sub (hK0 _ _ hL hJ hF) (sub_cons rfl sub_nil)
        · refine RK.of (RN.ict (cd := .ne) (off := 6) (tgt := 45) (by decide +kernel) (mif_ne hb)) ?_
          refine RK.of (RN.blk (ops := [(45, .iinc 4 1)]) (pc' := 48) (lv' := [(4, .inl (m_w32 (v4 + 1))), (5, .inl (m_rd h 314 6)), (0, .inr (.inr 310)), (1, .inr (.inr u1)), (2, .inl u2), (3, .inl u3)]) (st' := []) (h' := h1) (cs := []) (by decide +kernel) rfl trivial) ?_
          refine RK.of (RN.goto (off := -45) (tgt := 3) (by decide +kernel)) ?_
          exact RK.sub (ih _ _ hL hJ hF) (sub_cons rfl (sub_cons rfl (sub_cons rfl (sub_cons rfl (sub_cons rfl sub_nil)))))
      · refine RK.of (RN.ift (cd := .le) (off := 35) (tgt := 51) (by decide +kernel) (mif_le hb)) ?_
        exact RK.sub (hK1 _ hL hJ hF) sub_nil
    · refine RK.of (RN.ict (cd := .ge) (off := 45) (tgt := 51) (by decide +kernel) (mif_ge hb)) ?_
      exact RK.sub (hK1 _ hL hJ hF) sub_nil
noncomputable def GX7_turnOfTying (a1 : Int) (a2 : Int) (a3 : Int) (h : MH) : Option (Int × MH) :=
  GX7_turnOfTying_L3 a1 a2 a3 (fun w1 h2 =>
   some (w1, h2)) (fun h3 =>
   some ((-2), h3)) FU 0 h
theorem DX7_turnOfTying {d : Nat} {a1 : Int} {a2 : Int} {a3 : Int} {h : MH} {r : Int × MH} (hL : LR h) (hF : GX7_turnOfTying a1 a2 a3 h = some r) : RN xs L iX7_turnOfTying (d + 5) 0 (lvE 0 [.inr (.inr 310), .inr (.inr a1), .inl a2, .inl a3]) [] h (RIo r) ∧ LR r.2 ∧ KD h r.2 := by
  unfold GX7_turnOfTying at hF
  have hK : KD h h := KD.rf
  show RK xs L iX7_turnOfTying (d + 5) 0 (lvE 0 [.inr (.inr 310), .inr (.inr a1), .inl a2, .inl a3]) [] h (RIo r) h r.2
  refine RK.of (RN.blk (ops := [(0, .iconst 0), (1, .istore 4)]) (pc' := 3) (lv' := [(4, .inl 0), (0, .inr (.inr 310)), (1, .inr (.inr a1)), (2, .inl a2), (3, .inl a3)]) (st' := []) (h' := h) (cs := []) (by decide +kernel) rfl trivial) ?_
  refine RK.sub (DX7_turnOfTying_L3 hK ?_ ?_ _ _ _ hL KD.rf hF) (sub_cons rfl (sub_cons rfl (sub_cons rfl (sub_cons rfl (sub_cons rfl sub_nil)))))
  · intro w1 h2 hL hq hF
    have hK := hK.tr hq
    refine RK.of (RN.blk (ops := [(42, .iload 5)]) (pc' := 44) (lv' := [(5, .inl w1)]) (st' := [.inl w1]) (h' := h2) (cs := []) (by decide +kernel) rfl trivial) ?_
    exact RK.iR (by decide +kernel) rfl hL hK hF
  · intro h3 hL hq hF
    have hK := hK.tr hq
    refine RK.of (RN.blk (ops := [(51, .bipush (-2))]) (pc' := 53) (lv' := []) (st' := [.inl (-2)]) (h' := h3) (cs := []) (by decide +kernel) rfl trivial) ?_
    exact RK.iR (by decide +kernel) rfl hL hK hF
end Gc
