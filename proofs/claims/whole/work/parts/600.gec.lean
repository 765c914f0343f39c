/-! METHODS AS FUNCTIONS, references resolved (by program): X8_hasHole, X0_tryGoals, X4_has, X8_hasCode, X1_entryFor, X1_holeFor, X0_tryAsIs, X1_digitsFor, X8_spanOf, X8_prefixOf, X0_sendByEntry, X0_tryPrefix, X4_find, X4_canTake, X8_prefixesOf, X0_seekEntry, X0_sendChanged, X0_seekChange -/
section Gc
variable {xs : Int → Int} {L : Int}
noncomputable def GX8_hasHole (t : Int) (a1 : Int) (h : MH) : Option (Int × MH) :=
  (if a1 < 0 then
   some (0, h)
  else
   (if a1 < (m_rd h t 2) then
    some (1, h)
   else
    some (0, h)))
theorem DX8_hasHole {d : Nat} {t : Int} {a1 : Int} {h : MH} {r : Int × MH} (hL : LR h) (k0_t : TO h t 8) (hF : GX8_hasHole t a1 h = some r) : RN xs L iX8_hasHole (d) 0 (lvE 0 [.inr (.inr t), .inl a1]) [] h (RIo r) ∧ LR r.2 ∧ KD h r.2 := by
  unfold GX8_hasHole at hF
  have hK : KD h h := KD.rf
  have k_t := k0_t
  show RK xs L iX8_hasHole (d) 0 (lvE 0 [.inr (.inr t), .inl a1]) [] h (RIo r) h r.2
  refine RK.of (RN.blk (ops := [(0, .iload_n 1)]) (pc' := 1) (lv' := [(0, .inr (.inr t)), (1, .inl a1)]) (st' := [.inl a1]) (h' := h) (cs := []) (by decide +kernel) rfl trivial) ?_
  rcases it_of hF with ⟨hb, hF⟩ | ⟨hb, hF⟩
  · refine RK.of (RN.ift (cd := .lt) (off := 15) (tgt := 16) (by decide +kernel) (mif_lt hb)) ?_
    refine RK.of (RN.blk (ops := [(16, .iconst 0)]) (pc' := 17) (lv' := [(0, .inr (.inr t)), (1, .inl a1)]) (st' := [.inl 0]) (h' := h) (cs := []) (by decide +kernel) rfl trivial) ?_
    exact RK.zR (by decide +kernel) rfl (Or.inl rfl) hL hK hF
  · refine RK.of (RN.iff (cd := .lt) (off := 15) (tgt := 16) (by decide +kernel) (mif_ltn hb)) ?_
    refine RK.of (RN.blk (ops := [(4, .iload_n 1), (5, .aload_n 0), (6, .getfield 25)]) (pc' := 9) (lv' := [(0, .inr (.inr t)), (1, .inl a1)]) (st' := [.inl (m_rd h t 2), .inl a1]) (h' := h) (cs := [GK h t 8]) (by decide +kernel) rfl ⟨k_t.gk, trivial⟩) ?_
    rcases it_of hF with ⟨hb, hF⟩ | ⟨hb, hF⟩
    · refine RK.of (RN.icf (cd := .ge) (off := 7) (tgt := 16) (by decide +kernel) (mif_gen hb)) ?_
      refine RK.of (RN.blk (ops := [(12, .iconst 1)]) (pc' := 13) (lv' := [(0, .inr (.inr t)), (1, .inl a1)]) (st' := [.inl 1]) (h' := h) (cs := []) (by decide +kernel) rfl trivial) ?_
      refine RK.of (RN.goto (off := 4) (tgt := 17) (by decide +kernel)) ?_
      exact RK.zR (by decide +kernel) rfl (Or.inr rfl) hL hK hF
    · refine RK.of (RN.ict (cd := .ge) (off := 7) (tgt := 16) (by decide +kernel) (mif_ge hb)) ?_
      refine RK.of (RN.blk (ops := [(16, .iconst 0)]) (pc' := 17) (lv' := [(0, .inr (.inr t)), (1, .inl a1)]) (st' := [.inl 0]) (h' := h) (cs := []) (by decide +kernel) rfl trivial) ?_
      exact RK.zR (by decide +kernel) rfl (Or.inl rfl) hL hK hF
noncomputable def GX0_tryGoals_L27 (u1 : Int) (u2 : Int) (K0 : MH → Option (MH)) : Nat → Int → MH → Option (MH)
  | 0, _, _ => none
  | f + 1, v3, h =>
    (if v3 < (m_rd h u2 1) then
     gd [IB v3 20] (
      (bd (GX8_hasHole u1 (m_rd h 324 v3) h) (fun x2 h1 =>
       (if x2 = 0 then
        GX0_tryGoals_L27 u1 u2 K0 f (m_w32 (v3 + 1)) (m_wr h1 323 12 (m_w32 ((m_rd h1 323 12) + 1)))
       else
        gd [IB (m_rd h 324 v3) 6] (
         gd [IB (m_rd h 324 v3) 6] (
          jn (fun (h4 : MH) =>
           gd [IB (m_rd h 324 v3) 6] (
            GX0_tryGoals_L27 u1 u2 K0 f (m_w32 (v3 + 1)) (m_wr h4 325 (m_rd h 324 v3) (m_w32 ((m_rd h4 325 (m_rd h 324 v3)) + 1))))) (fun j3 =>
           (if (m_rd h1 325 (m_rd h 324 v3)) < (m_rd h1 (u1 + 2) (m_rd h 324 v3)) then
            j3 h1
           else
            gd [IB (m_rd h 324 v3) 6] (
             j3 (m_wr (m_wr h1 323 13 (m_w32 ((m_rd h1 323 13) + 1))) 325 (m_rd h 324 v3) 0))))))))))
    else
     K0 h)
theorem DX0_tryGoals_L27 {d : Nat} {u1 : Int} {u2 : Int} {K0 : MH → Option (MH)} {r : MH} {h0 hB : MH} (hB0 : KD h0 hB) (k0_u1 : TO hB u1 8) (k0_u2 : TO hB u2 10) (hK0 : ∀ (h : MH), LR h → KD hB h → K0 h = some r → RK xs L iX0_tryGoals (d + 1) 117 [] [] h (RVo r) h0 r) : ∀ (f : Nat) (v3 : Int) (h : MH), LR h → KD hB h → GX0_tryGoals_L27 u1 u2 K0 f v3 h = some r → RK xs L iX0_tryGoals (d + 1) 27 [(0, .inr (.inr 323)), (1, .inr (.inr u1)), (2, .inr (.inr u2)), (3, .inl v3)] [] h (RVo r) h0 r := by
  intro f
  induction f with
  | zero =>
    intro v3 h hL hJ hF
    cases hF
  | succ f ih =>
    intro v3 h hL hJ hF
    unfold GX0_tryGoals_L27 at hF
    have hK := hB0.tr hJ
    have k_u1 := hJ.to k0_u1
    have k_u2 := hJ.to k0_u2
    refine RK.of (RN.blk (ops := [(27, .iload_n 3), (28, .aload_n 2), (29, .getfield 43)]) (pc' := 32) (lv' := [(0, .inr (.inr 323)), (1, .inr (.inr u1)), (2, .inr (.inr u2)), (3, .inl v3)]) (st' := [.inl (m_rd h u2 1), .inl v3]) (h' := h) (cs := [GK h u2 10]) (by decide +kernel) rfl ⟨k_u2.gk, trivial⟩) ?_
    rcases it_of hF with ⟨hb, hF⟩ | ⟨hb, hF⟩
    · refine RK.of (RN.icf (cd := .ge) (off := 85) (tgt := 117) (by decide +kernel) (mif_gen hb)) ?_
      refine RK.of (RN.blk (ops := [(35, .aload_n 0)]) (pc' := 36) (lv' := [(0, .inr (.inr 323)), (1, .inr (.inr u1)), (2, .inr (.inr u2)), (3, .inl v3)]) (st' := [.inr (.inr 323)]) (h' := h) (cs := []) (by decide +kernel) rfl trivial) ?_
      refine RK.of (RN.gr (i := 9) (ci := 0) (k := 9) (fn := true) (v := 324) (by decide +kernel) rfl (TO.gk (o_323 hL)) (hL.fa (v := 324) 9 1 20 (o_323 hL) rfl (by decide) rfl (by decide)).1) ?_
      obtain ⟨hc, hF⟩ := gd_of hF
      refine RK.of (RN.blk (ops := [(39, .iload_n 3), (40, .iaload), (41, .istore 4), (43, .aload_n 1), (44, .iload 4)]) (pc' := 46) (lv' := [(4, .inl (m_rd h 324 v3)), (0, .inr (.inr 323)), (1, .inr (.inr u1)), (2, .inr (.inr u2)), (3, .inl v3)]) (st' := [.inl (m_rd h 324 v3), .inr (.inr u1)]) (h' := h) (cs := [GI h 324 1 v3]) (by decide +kernel) rfl ⟨(a_324 hL).gi hc.1.1 hc.1.2, trivial⟩) ?_
      obtain ⟨x2, h1, hG, hF⟩ := bd_of hF
      have hq := rcv_ok (as := [.inl (m_rd h 324 v3)]) (TO.gk k_u1)
      obtain ⟨hN, hL, hQ⟩ := DX8_hasHole (d := d) hL k_u1 hG
      refine RK.of (RN.cv (i := 46) (k := 81) (q2 := iX8_hasHole) (as := [.inr (.inr u1), .inl (m_rd h 324 v3)]) (r := []) (v := some (.inl x2)) (h1 := h1) (by decide +kernel) rfl rfl rfl rfl rfl hq hN) ?_
      have k_u1 := hQ.to k_u1
      have k_u2 := hQ.to k_u2
      have hK := hK.tr hQ
      have hJ := hJ.tr hQ
      rcases it_of hF with ⟨hb, hF⟩ | ⟨hb, hF⟩
      · refine RK.of (RN.iff (cd := .ne) (off := 16) (tgt := 65) (by decide +kernel) (mif_nen hb)) ?_
        refine RK.of (RN.blk (ops := [(52, .aload_n 0), (53, .dup), (54, .getfield 27), (57, .iconst 1), (58, .iadd), (59, .putfield 27)]) (pc' := 62) (lv' := [(4, .inl (m_rd h 324 v3)), (0, .inr (.inr 323)), (1, .inr (.inr u1)), (2, .inr (.inr u2)), (3, .inl v3)]) (st' := []) (h' := (m_wr h1 323 12 (m_w32 ((m_rd h1 323 12) + 1)))) (cs := [GK h1 323 0, GK h1 323 0]) (by decide +kernel) rfl ⟨(o_323 hL).gk, (o_323 hL).gk, trivial⟩) ?_
        have hL : LR (m_wr h1 323 12 (m_w32 ((m_rd h1 323 12) + 1))) := LR.wf (k := 12) hL (o_323 hL) rfl
        have k_u1 := (KD.wr : KD h1 (m_wr h1 323 12 (m_w32 ((m_rd h1 323 12) + 1)))).to k_u1
        have k_u2 := (KD.wr : KD h1 (m_wr h1 323 12 (m_w32 ((m_rd h1 323 12) + 1)))).to k_u2
        have hK := hK.tr (KD.wr : KD h1 (m_wr h1 323 12 (m_w32 ((m_rd h1 323 12) + 1))))
        have hJ := hJ.tr (KD.wr : KD h1 (m_wr h1 323 12 (m_w32 ((m_rd h1 323 12) + 1))))
        refine RK.of (RN.goto (off := 49) (tgt := 111) (by decide +kernel)) ?_
        refine RK.of (RN.blk (ops := [(111, .iinc 3 1)]) (pc' := 114) (lv' := [(3, .inl (m_w32 (v3 + 1))), (4, .inl (m_rd h 324 v3)), (0, .inr (.inr 323)), (1, .inr (.inr u1)), (2, .inr (.inr u2))]) (st' := []) (h' := (m_wr h1 323 12 (m_w32 ((m_rd h1 323 12) + 1)))) (cs := []) (by decide +kernel) rfl trivial) ?_
        refine RK.of (RN.goto (off := -87) (tgt := 27) (by decide +kernel)) ?_
        exact RK.sub (ih _ _ hL hJ hF) (sub_cons rfl (sub_cons rfl (sub_cons rfl (sub_cons rfl sub_nil))))
      · refine RK.of (RN.ift (cd := .ne) (off := 16) (tgt := 65) (by decide +kernel) (mif_ne hb)) ?_
        refine RK.of (RN.blk (ops := [(65, .aload_n 0)]) (pc' := 66) (lv' := [(4, .inl (m_rd h 324 v3)), (0, .inr (.inr 323)), (1, .inr (.inr u1)), (2, .inr (.inr u2)), (3, .inl v3)]) (st' := [.inr (.inr 323)]) (h' := h1) (cs := []) (by decide +kernel) rfl trivial) ?_
        refine RK.of (RN.gr (i := 15) (ci := 0) (k := 10) (fn := true) (v := 325) (by decide +kernel) rfl (TO.gk (o_323 hL)) (hL.fa (v := 325) 10 1 6 (o_323 hL) rfl (by decide) rfl (by decide)).1) ?_
        obtain ⟨hc, hF⟩ := gd_of hF
        refine RK.of (RN.blk (ops := [(69, .iload 4), (71, .iaload), (72, .aload_n 1)]) (pc' := 73) (lv' := [(4, .inl (m_rd h 324 v3)), (0, .inr (.inr 323)), (1, .inr (.inr u1)), (2, .inr (.inr u2)), (3, .inl v3)]) (st' := [.inr (.inr u1), .inl (m_rd h1 325 (m_rd h 324 v3))]) (h' := h1) (cs := [GI h1 325 1 (m_rd h 324 v3)]) (by decide +kernel) rfl ⟨(a_325 hL).gi hc.1.1 hc.1.2, trivial⟩) ?_
        refine RK.of (RN.gr (i := 52) (ci := 8) (k := 5) (fn := true) (v := (u1 + 2)) (by decide +kernel) rfl (TO.gk k_u1) (hL.fa (v := (u1 + 2)) 5 1 6 k_u1 rfl rfl rfl (by decide)).1) ?_
        obtain ⟨hc, hF⟩ := gd_of hF
        refine RK.of (RN.blk (ops := [(76, .iload 4), (78, .iaload)]) (pc' := 79) (lv' := [(4, .inl (m_rd h 324 v3)), (0, .inr (.inr 323)), (1, .inr (.inr u1)), (2, .inr (.inr u2)), (3, .inl v3)]) (st' := [.inl (m_rd h1 (u1 + 2) (m_rd h 324 v3)), .inl (m_rd h1 325 (m_rd h 324 v3))]) (h' := h1) (cs := [GI h1 (u1 + 2) 1 (m_rd h 324 v3)]) (by decide +kernel) rfl ⟨(hL.fa 5 1 6 k_u1 rfl rfl rfl (by decide)).2.gi hc.1.1 hc.1.2, trivial⟩) ?_
        refine jn_use (fun j3 => ∀ (h4 : MH), LR h4 → KD hB h4 → j3 h4 = some r → RK xs L iX0_tryGoals (d + 1) 100 [(0, .inr (.inr 323)), (1, .inr (.inr u1)), (2, .inr (.inr u2)), (3, .inl v3), (4, .inl (m_rd h 324 v3))] [] h4 (RVo r) h0 r) ?_ ?_ hF
        · intro h4 hL hJ hF
          have hK := hB0.tr hJ
          have k_u1 := hJ.to k0_u1
          have k_u2 := hJ.to k0_u2
          refine RK.of (RN.blk (ops := [(100, .aload_n 0)]) (pc' := 101) (lv' := [(0, .inr (.inr 323)), (1, .inr (.inr u1)), (2, .inr (.inr u2)), (3, .inl v3), (4, .inl (m_rd h 324 v3))]) (st' := [.inr (.inr 323)]) (h' := h4) (cs := []) (by decide +kernel) rfl trivial) ?_
          refine RK.of (RN.gr (i := 15) (ci := 0) (k := 10) (fn := true) (v := 325) (by decide +kernel) rfl (TO.gk (o_323 hL)) (hL.fa (v := 325) 10 1 6 (o_323 hL) rfl (by decide) rfl (by decide)).1) ?_
          obtain ⟨hc, hF⟩ := gd_of hF
          refine RK.of (RN.blk (ops := [(104, .iload 4), (106, .dup2), (107, .iaload), (108, .iconst 1), (109, .iadd), (110, .iastore)]) (pc' := 111) (lv' := [(0, .inr (.inr 323)), (1, .inr (.inr u1)), (2, .inr (.inr u2)), (3, .inl v3), (4, .inl (m_rd h 324 v3))]) (st' := []) (h' := (m_wr h4 325 (m_rd h 324 v3) (m_w32 ((m_rd h4 325 (m_rd h 324 v3)) + 1)))) (cs := [GI h4 325 1 (m_rd h 324 v3), GI h4 325 1 (m_rd h 324 v3)]) (by decide +kernel) rfl ⟨(a_325 hL).gi hc.1.1 hc.1.2, (a_325 hL).gi hc.1.1 hc.1.2, trivial⟩) ?_
          have hL : LR (m_wr h4 325 (m_rd h 324 v3) (m_w32 ((m_rd h4 325 (m_rd h 324 v3)) + 1))) := hL.wa (TA.le5 (a_325 hL) (by decide))
          have k_u1 := (KD.wr : KD h4 (m_wr h4 325 (m_rd h 324 v3) (m_w32 ((m_rd h4 325 (m_rd h 324 v3)) + 1)))).to k_u1
          have k_u2 := (KD.wr : KD h4 (m_wr h4 325 (m_rd h 324 v3) (m_w32 ((m_rd h4 325 (m_rd h 324 v3)) + 1)))).to k_u2
          have hK := hK.tr (KD.wr : KD h4 (m_wr h4 325 (m_rd h 324 v3) (m_w32 ((m_rd h4 325 (m_rd h 324 v3)) + 1))))
          have hJ := hJ.tr (KD.wr : KD h4 (m_wr h4 325 (m_rd h 324 v3) (m_w32 ((m_rd h4 325 (m_rd h 324 v3)) + 1))))
          refine RK.of (RN.blk (ops := [(111, .iinc 3 1)]) (pc' := 114) (lv' := [(3, .inl (m_w32 (v3 + 1))), (0, .inr (.inr 323)), (1, .inr (.inr u1)), (2, .inr (.inr u2)), (4, .inl (m_rd h 324 v3))]) (st' := []) (h' := (m_wr h4 325 (m_rd h 324 v3) (m_w32 ((m_rd h4 325 (m_rd h 324 v3)) + 1)))) (cs := []) (by decide +kernel) rfl trivial) ?_
          refine RK.of (RN.goto (off := -87) (tgt := 27) (by decide +kernel)) ?_
          exact RK.sub (ih _ _ hL hJ hF) (sub_cons rfl (sub_cons rfl (sub_cons rfl (sub_cons rfl sub_nil))))
        · intro j3 Jj3 hF
          rcases it_of hF with ⟨hb, hF⟩ | ⟨hb, hF⟩
          · refine RK.of (RN.ict (cd := .lt) (off := 21) (tgt := 100) (by decide +kernel) (mif_lt hb)) ?_
            exact RK.sub (Jj3 _ hL hJ hF) (sub_cons rfl (sub_cons rfl (sub_cons rfl (sub_cons rfl (sub_cons rfl sub_nil)))))
          · refine RK.of (RN.icf (cd := .lt) (off := 21) (tgt := 100) (by decide +kernel) (mif_ltn hb)) ?_
            refine RK.of (RN.blk (ops := [(82, .aload_n 0), (83, .dup), (84, .getfield 31), (87, .iconst 1), (88, .iadd), (89, .putfield 31)]) (pc' := 92) (lv' := [(4, .inl (m_rd h 324 v3)), (0, .inr (.inr 323)), (1, .inr (.inr u1)), (2, .inr (.inr u2)), (3, .inl v3)]) (st' := []) (h' := (m_wr h1 323 13 (m_w32 ((m_rd h1 323 13) + 1)))) (cs := [GK h1 323 0, GK h1 323 0]) (by decide +kernel) rfl ⟨(o_323 hL).gk, (o_323 hL).gk, trivial⟩) ?_
            have hL : LR (m_wr h1 323 13 (m_w32 ((m_rd h1 323 13) + 1))) := LR.wf (k := 13) hL (o_323 hL) rfl
            have k_u1 := (KD.wr : KD h1 (m_wr h1 323 13 (m_w32 ((m_rd h1 323 13) + 1)))).to k_u1
            have k_u2 := (KD.wr : KD h1 (m_wr h1 323 13 (m_w32 ((m_rd h1 323 13) + 1)))).to k_u2
            have hK := hK.tr (KD.wr : KD h1 (m_wr h1 323 13 (m_w32 ((m_rd h1 323 13) + 1))))
            have hJ := hJ.tr (KD.wr : KD h1 (m_wr h1 323 13 (m_w32 ((m_rd h1 323 13) + 1))))
            refine RK.of (RN.blk (ops := [(92, .aload_n 0)]) (pc' := 93) (lv' := [(4, .inl (m_rd h 324 v3)), (0, .inr (.inr 323)), (1, .inr (.inr u1)), (2, .inr (.inr u2)), (3, .inl v3)]) (st' := [.inr (.inr 323)]) (h' := (m_wr h1 323 13 (m_w32 ((m_rd h1 323 13) + 1)))) (cs := []) (by decide +kernel) rfl trivial) ?_
            refine RK.of (RN.gr (i := 15) (ci := 0) (k := 10) (fn := true) (v := 325) (by decide +kernel) rfl (TO.gk (o_323 hL)) (hL.fa (v := 325) 10 1 6 (o_323 hL) rfl (by decide) rfl (by decide)).1) ?_
            obtain ⟨hc, hF⟩ := gd_of hF
            refine RK.of (RN.blk (ops := [(96, .iload 4), (98, .iconst 0), (99, .iastore)]) (pc' := 100) (lv' := [(4, .inl (m_rd h 324 v3)), (0, .inr (.inr 323)), (1, .inr (.inr u1)), (2, .inr (.inr u2)), (3, .inl v3)]) (st' := []) (h' := (m_wr (m_wr h1 323 13 (m_w32 ((m_rd h1 323 13) + 1))) 325 (m_rd h 324 v3) 0)) (cs := [GI (m_wr h1 323 13 (m_w32 ((m_rd h1 323 13) + 1))) 325 1 (m_rd h 324 v3)]) (by decide +kernel) rfl ⟨(a_325 hL).gi hc.1.1 hc.1.2, trivial⟩) ?_
            have hL : LR (m_wr (m_wr h1 323 13 (m_w32 ((m_rd h1 323 13) + 1))) 325 (m_rd h 324 v3) 0) := hL.wa (TA.le5 (a_325 hL) (by decide))
            have k_u1 := (KD.wr : KD (m_wr h1 323 13 (m_w32 ((m_rd h1 323 13) + 1))) (m_wr (m_wr h1 323 13 (m_w32 ((m_rd h1 323 13) + 1))) 325 (m_rd h 324 v3) 0)).to k_u1
            have k_u2 := (KD.wr : KD (m_wr h1 323 13 (m_w32 ((m_rd h1 323 13) + 1))) (m_wr (m_wr h1 323 13 (m_w32 ((m_rd h1 323 13) + 1))) 325 (m_rd h 324 v3) 0)).to k_u2
            have hK := hK.tr (KD.wr : KD (m_wr h1 323 13 (m_w32 ((m_rd h1 323 13) + 1))) (m_wr (m_wr h1 323 13 (m_w32 ((m_rd h1 323 13) + 1))) 325 (m_rd h 324 v3) 0))
            have hJ := hJ.tr (KD.wr : KD (m_wr h1 323 13 (m_w32 ((m_rd h1 323 13) + 1))) (m_wr (m_wr h1 323 13 (m_w32 ((m_rd h1 323 13) + 1))) 325 (m_rd h 324 v3) 0))
            exact RK.sub (Jj3 _ hL hJ hF) (sub_cons rfl (sub_cons rfl (sub_cons rfl (sub_cons rfl (sub_cons rfl sub_nil)))))
    · refine RK.of (RN.ict (cd := .ge) (off := 85) (tgt := 117) (by decide +kernel) (mif_ge hb)) ?_
      exact RK.sub (hK0 _ hL hJ hF) sub_nil
noncomputable def GX0_tryGoals (a1 : Int) (a2 : Int) (h : MH) : Option (MH) :=
  GX0_tryGoals_L27 a1 a2 (fun h1 =>
   some h1) FU 0 (m_cpy (m_wr (m_wr h 323 12 0) 323 13 0) (a2 + 6) 0 325 0 6)
theorem DX0_tryGoals {d : Nat} {a1 : Int} {a2 : Int} {h : MH} {r : MH} (hL : LR h) (k0_a1 : TO h a1 8) (k0_a2 : TO h a2 10) (hF : GX0_tryGoals a1 a2 h = some r) : RN xs L iX0_tryGoals (d + 1) 0 (lvE 0 [.inr (.inr 323), .inr (.inr a1), .inr (.inr a2)]) [] h (RVo r) ∧ LR r ∧ KD h r := by
  unfold GX0_tryGoals at hF
  have hK : KD h h := KD.rf
  have k_a1 := k0_a1
  have k_a2 := k0_a2
  show RK xs L iX0_tryGoals (d + 1) 0 (lvE 0 [.inr (.inr 323), .inr (.inr a1), .inr (.inr a2)]) [] h (RVo r) h r
  refine RK.of (RN.blk (ops := [(0, .aload_n 0), (1, .iconst 0), (2, .putfield 27)]) (pc' := 5) (lv' := [(0, .inr (.inr 323)), (1, .inr (.inr a1)), (2, .inr (.inr a2))]) (st' := []) (h' := (m_wr h 323 12 0)) (cs := [GK h 323 0]) (by decide +kernel) rfl ⟨(o_323 hL).gk, trivial⟩) ?_
  have hL : LR (m_wr h 323 12 0) := LR.wf (k := 12) hL (o_323 hL) rfl
  have k_a1 := (KD.wr : KD h (m_wr h 323 12 0)).to k_a1
  have k_a2 := (KD.wr : KD h (m_wr h 323 12 0)).to k_a2
  have hK := hK.tr (KD.wr : KD h (m_wr h 323 12 0))
  refine RK.of (RN.blk (ops := [(5, .aload_n 0), (6, .iconst 0), (7, .putfield 31)]) (pc' := 10) (lv' := [(0, .inr (.inr 323)), (1, .inr (.inr a1)), (2, .inr (.inr a2))]) (st' := []) (h' := (m_wr (m_wr h 323 12 0) 323 13 0)) (cs := [GK (m_wr h 323 12 0) 323 0]) (by decide +kernel) rfl ⟨(o_323 hL).gk, trivial⟩) ?_
  have hL : LR (m_wr (m_wr h 323 12 0) 323 13 0) := LR.wf (k := 13) hL (o_323 hL) rfl
  have k_a1 := (KD.wr : KD (m_wr h 323 12 0) (m_wr (m_wr h 323 12 0) 323 13 0)).to k_a1
  have k_a2 := (KD.wr : KD (m_wr h 323 12 0) (m_wr (m_wr h 323 12 0) 323 13 0)).to k_a2
  have hK := hK.tr (KD.wr : KD (m_wr h 323 12 0) (m_wr (m_wr h 323 12 0) 323 13 0))
  refine RK.of (RN.blk (ops := [(10, .aload_n 2)]) (pc' := 11) (lv' := [(0, .inr (.inr 323)), (1, .inr (.inr a1)), (2, .inr (.inr a2))]) (st' := [.inr (.inr a2)]) (h' := (m_wr (m_wr h 323 12 0) 323 13 0)) (cs := []) (by decide +kernel) rfl trivial) ?_
  refine RK.of (RN.gr (i := 34) (ci := 10) (k := 3) (fn := true) (v := (a2 + 6)) (by decide +kernel) rfl (TO.gk k_a2) (hL.fa (v := (a2 + 6)) 3 1 6 k_a2 rfl rfl rfl (by decide)).1) ?_
  refine RK.of (RN.blk (ops := [(14, .iconst 0), (15, .aload_n 0)]) (pc' := 16) (lv' := [(0, .inr (.inr 323)), (1, .inr (.inr a1)), (2, .inr (.inr a2))]) (st' := [.inr (.inr 323), .inl 0, .inr (.inr (a2 + 6))]) (h' := (m_wr (m_wr h 323 12 0) 323 13 0)) (cs := []) (by decide +kernel) rfl trivial) ?_
  refine RK.of (RN.gr (i := 15) (ci := 0) (k := 10) (fn := true) (v := 325) (by decide +kernel) rfl (TO.gk (o_323 hL)) (hL.fa (v := 325) 10 1 6 (o_323 hL) rfl (by decide) rfl (by decide)).1) ?_
  refine RK.of (RN.blk (ops := [(19, .iconst 0), (20, .bipush 6)]) (pc' := 22) (lv' := [(0, .inr (.inr 323)), (1, .inr (.inr a1)), (2, .inr (.inr a2))]) (st' := [.inl 6, .inl 0, .inr (.inr 325), .inl 0, .inr (.inr (a2 + 6))]) (h' := (m_wr (m_wr h 323 12 0) 323 13 0)) (cs := []) (by decide +kernel) rfl trivial) ?_
  have hG : GC (m_wr (m_wr h 323 12 0) 323 13 0) (a2 + 6) 0 325 0 6 := ((hL.fa 3 1 6 k_a2 rfl rfl rfl (by decide)).2.gc (a_325 hL) (by decide) (by decide) (by decide) (by decide) (by decide))
  refine RK.of (RN.cp (i := 37) (by decide +kernel) rfl rfl hG) ?_
  have hL : LR (m_cpy (m_wr (m_wr h 323 12 0) 323 13 0) (a2 + 6) 0 325 0 6) := hL.wc (by rw [hG.2.1]; decide)
  have k_a1 := (KD.cpy : KD (m_wr (m_wr h 323 12 0) 323 13 0) (m_cpy (m_wr (m_wr h 323 12 0) 323 13 0) (a2 + 6) 0 325 0 6)).to k_a1
  have k_a2 := (KD.cpy : KD (m_wr (m_wr h 323 12 0) 323 13 0) (m_cpy (m_wr (m_wr h 323 12 0) 323 13 0) (a2 + 6) 0 325 0 6)).to k_a2
  have hK := hK.tr (KD.cpy : KD (m_wr (m_wr h 323 12 0) 323 13 0) (m_cpy (m_wr (m_wr h 323 12 0) 323 13 0) (a2 + 6) 0 325 0 6))
  refine RK.of (RN.blk (ops := [(25, .iconst 0), (26, .istore_n 3)]) (pc' := 27) (lv' := [(3, .inl 0), (0, .inr (.inr 323)), (1, .inr (.inr a1)), (2, .inr (.inr a2))]) (st' := []) (h' := (m_cpy (m_wr (m_wr h 323 12 0) 323 13 0) (a2 + 6) 0 325 0 6)) (cs := []) (by decide +kernel) rfl trivial) ?_
  refine RK.sub (DX0_tryGoals_L27 hK k_a1 k_a2 ?_ _ _ _ hL KD.rf hF) (sub_cons rfl (sub_cons rfl (sub_cons rfl (sub_cons rfl sub_nil))))
  · intro h1 hL hq hF
    have k_a1 := hq.to k_a1
    have k_a2 := hq.to k_a2
    have hK := hK.tr hq
    exact RK.vR (by decide +kernel) rfl hL hK hF
noncomputable def GX4_has (t : Int) (a1 : Int) (h : MH) : Option (Int × MH) :=
  (if a1 < 0 then
   some (0, h)
  else
   (if a1 < (m_rd h t 0) then
    some (1, h)
   else
    some (0, h)))
theorem DX4_has {d : Nat} {t : Int} {a1 : Int} {h : MH} {r : Int × MH} (hL : LR h) (k0_t : TO h t 4) (hF : GX4_has t a1 h = some r) : RN xs L iX4_has (d) 0 (lvE 0 [.inr (.inr t), .inl a1]) [] h (RIo r) ∧ LR r.2 ∧ KD h r.2 := by
  unfold GX4_has at hF
  have hK : KD h h := KD.rf
  have k_t := k0_t
  show RK xs L iX4_has (d) 0 (lvE 0 [.inr (.inr t), .inl a1]) [] h (RIo r) h r.2
  refine RK.of (RN.blk (ops := [(0, .iload_n 1)]) (pc' := 1) (lv' := [(0, .inr (.inr t)), (1, .inl a1)]) (st' := [.inl a1]) (h' := h) (cs := []) (by decide +kernel) rfl trivial) ?_
  rcases it_of hF with ⟨hb, hF⟩ | ⟨hb, hF⟩
  · refine RK.of (RN.ift (cd := .lt) (off := 15) (tgt := 16) (by decide +kernel) (mif_lt hb)) ?_
    refine RK.of (RN.blk (ops := [(16, .iconst 0)]) (pc' := 17) (lv' := [(0, .inr (.inr t)), (1, .inl a1)]) (st' := [.inl 0]) (h' := h) (cs := []) (by decide +kernel) rfl trivial) ?_
    exact RK.zR (by decide +kernel) rfl (Or.inl rfl) hL hK hF
  · refine RK.of (RN.iff (cd := .lt) (off := 15) (tgt := 16) (by decide +kernel) (mif_ltn hb)) ?_
    refine RK.of (RN.blk (ops := [(4, .iload_n 1), (5, .aload_n 0), (6, .getfield 21)]) (pc' := 9) (lv' := [(0, .inr (.inr t)), (1, .inl a1)]) (st' := [.inl (m_rd h t 0), .inl a1]) (h' := h) (cs := [GK h t 4]) (by decide +kernel) rfl ⟨k_t.gk, trivial⟩) ?_
    rcases it_of hF with ⟨hb, hF⟩ | ⟨hb, hF⟩
    · refine RK.of (RN.icf (cd := .ge) (off := 7) (tgt := 16) (by decide +kernel) (mif_gen hb)) ?_
      refine RK.of (RN.blk (ops := [(12, .iconst 1)]) (pc' := 13) (lv' := [(0, .inr (.inr t)), (1, .inl a1)]) (st' := [.inl 1]) (h' := h) (cs := []) (by decide +kernel) rfl trivial) ?_
      refine RK.of (RN.goto (off := 4) (tgt := 17) (by decide +kernel)) ?_
      exact RK.zR (by decide +kernel) rfl (Or.inr rfl) hL hK hF
    · refine RK.of (RN.ict (cd := .ge) (off := 7) (tgt := 16) (by decide +kernel) (mif_ge hb)) ?_
      refine RK.of (RN.blk (ops := [(16, .iconst 0)]) (pc' := 17) (lv' := [(0, .inr (.inr t)), (1, .inl a1)]) (st' := [.inl 0]) (h' := h) (cs := []) (by decide +kernel) rfl trivial) ?_
      exact RK.zR (by decide +kernel) rfl (Or.inl rfl) hL hK hF
noncomputable def GX8_hasCode (t : Int) (a1 : Int) (h : MH) : Option (Int × MH) :=
  (if a1 < 0 then
   some (0, h)
  else
   (if a1 < (m_rd h t 3) then
    some (1, h)
   else
    some (0, h)))
theorem DX8_hasCode {d : Nat} {t : Int} {a1 : Int} {h : MH} {r : Int × MH} (hL : LR h) (k0_t : TO h t 8) (hF : GX8_hasCode t a1 h = some r) : RN xs L iX8_hasCode (d) 0 (lvE 0 [.inr (.inr t), .inl a1]) [] h (RIo r) ∧ LR r.2 ∧ KD h r.2 := by
  unfold GX8_hasCode at hF
  have hK : KD h h := KD.rf
  have k_t := k0_t
  show RK xs L iX8_hasCode (d) 0 (lvE 0 [.inr (.inr t), .inl a1]) [] h (RIo r) h r.2
  refine RK.of (RN.blk (ops := [(0, .iload_n 1)]) (pc' := 1) (lv' := [(0, .inr (.inr t)), (1, .inl a1)]) (st' := [.inl a1]) (h' := h) (cs := []) (by decide +kernel) rfl trivial) ?_
  rcases it_of hF with ⟨hb, hF⟩ | ⟨hb, hF⟩
  · refine RK.of (RN.ift (cd := .lt) (off := 15) (tgt := 16) (by decide +kernel) (mif_lt hb)) ?_
    refine RK.of (RN.blk (ops := [(16, .iconst 0)]) (pc' := 17) (lv' := [(0, .inr (.inr t)), (1, .inl a1)]) (st' := [.inl 0]) (h' := h) (cs := []) (by decide +kernel) rfl trivial) ?_
    exact RK.zR (by decide +kernel) rfl (Or.inl rfl) hL hK hF
  · refine RK.of (RN.iff (cd := .lt) (off := 15) (tgt := 16) (by decide +kernel) (mif_ltn hb)) ?_
    refine RK.of (RN.blk (ops := [(4, .iload_n 1), (5, .aload_n 0), (6, .getfield 32)]) (pc' := 9) (lv' := [(0, .inr (.inr t)), (1, .inl a1)]) (st' := [.inl (m_rd h t 3), .inl a1]) (h' := h) (cs := [GK h t 8]) (by decide +kernel) rfl ⟨k_t.gk, trivial⟩) ?_
    rcases it_of hF with ⟨hb, hF⟩ | ⟨hb, hF⟩
    · refine RK.of (RN.icf (cd := .ge) (off := 7) (tgt := 16) (by decide +kernel) (mif_gen hb)) ?_
      refine RK.of (RN.blk (ops := [(12, .iconst 1)]) (pc' := 13) (lv' := [(0, .inr (.inr t)), (1, .inl a1)]) (st' := [.inl 1]) (h' := h) (cs := []) (by decide +kernel) rfl trivial) ?_
      refine RK.of (RN.goto (off := 4) (tgt := 17) (by decide +kernel)) ?_
      exact RK.zR (by decide +kernel) rfl (Or.inr rfl) hL hK hF
    · refine RK.of (RN.ict (cd := .ge) (off := 7) (tgt := 16) (by decide +kernel) (mif_ge hb)) ?_
      refine RK.of (RN.blk (ops := [(16, .iconst 0)]) (pc' := 17) (lv' := [(0, .inr (.inr t)), (1, .inl a1)]) (st' := [.inl 0]) (h' := h) (cs := []) (by decide +kernel) rfl trivial) ?_
      exact RK.zR (by decide +kernel) rfl (Or.inl rfl) hL hK hF
noncomputable def GX1_entryFor (a1 : Int) (h : MH) : Option (Int × MH) :=
  gd [TO h (m_rd h 298 0) 8] (bd (GX8_hasCode (m_rd h 298 0) a1 h) (fun x2 h1 =>
   jn (fun (s4 : Int) =>
    gd [TO h1 (m_rd h1 298 1) 4] (bd (GX4_has (m_rd h1 298 1) s4 h1) (fun x6 h5 =>
     (if x6 = 0 then
      some ((-1), h5)
     else
      some (s4, h5))))) (fun j3 =>
    jn (
     j3 (-1)) (fun j7 =>
     (if x2 = 0 then
      j7
     else
      (if a1 < 256 then
       gd [IB a1 256] (
        j3 (m_rd h1 306 a1))
      else
       j7))))))
theorem DX1_entryFor {d : Nat} {a1 : Int} {h : MH} {r : Int × MH} (hL : LR h) (hF : GX1_entryFor a1 h = some r) : RN xs L iX1_entryFor (d + 1) 0 (lvE 0 [.inr (.inr 298), .inl a1]) [] h (RIo r) ∧ LR r.2 ∧ KD h r.2 := by
  unfold GX1_entryFor at hF
  have hK : KD h h := KD.rf
  show RK xs L iX1_entryFor (d + 1) 0 (lvE 0 [.inr (.inr 298), .inl a1]) [] h (RIo r) h r.2
  refine RK.of (RN.blk (ops := [(0, .aload_n 0), (1, .getfield 12), (4, .iload_n 1)]) (pc' := 5) (lv' := [(0, .inr (.inr 298)), (1, .inl a1)]) (st' := [.inl a1, .inr (.inr (m_rd h 298 0))]) (h' := h) (cs := [GK h 298 1]) (by decide +kernel) rfl ⟨(o_298 hL).gk, trivial⟩) ?_
  obtain ⟨hc, hF⟩ := gd_of hF
  obtain ⟨x2, h1, hG, hF⟩ := bd_of hF
  have hq := rcv_ok (as := [.inl a1]) (TO.gk hc.1)
  obtain ⟨hN, hL, hQ⟩ := DX8_hasCode (d := d) hL hc.1 hG
  refine RK.of (RN.cv (i := 61) (k := 82) (q2 := iX8_hasCode) (as := [.inr (.inr (m_rd h 298 0)), .inl a1]) (r := []) (v := some (.inl x2)) (h1 := h1) (by decide +kernel) rfl rfl rfl rfl rfl hq hN) ?_
  have hK := hK.tr hQ
  refine jn_use (fun j3 => ∀ (s4 : Int), j3 s4 = some r → RK xs L iX1_entryFor (d + 1) 28 [(0, .inr (.inr 298))] [.inl s4] h1 (RIo r) h r.2) ?_ ?_ hF
  · intro s4 hF
    refine RK.of (RN.blk (ops := [(28, .istore_n 2), (29, .aload_n 0), (30, .getfield 21), (33, .iload_n 2)]) (pc' := 34) (lv' := [(2, .inl s4), (0, .inr (.inr 298))]) (st' := [.inl s4, .inr (.inr (m_rd h1 298 1))]) (h' := h1) (cs := [GK h1 298 1]) (by decide +kernel) rfl ⟨(o_298 hL).gk, trivial⟩) ?_
    obtain ⟨hc, hF⟩ := gd_of hF
    obtain ⟨x6, h5, hG, hF⟩ := bd_of hF
    have hq := rcv_ok (as := [.inl s4]) (TO.gk hc.1)
    obtain ⟨hN, hL, hQ⟩ := DX4_has (d := d) hL hc.1 hG
    refine RK.of (RN.cv (i := 65) (k := 46) (q2 := iX4_has) (as := [.inr (.inr (m_rd h1 298 1)), .inl s4]) (r := []) (v := some (.inl x6)) (h1 := h5) (by decide +kernel) rfl rfl rfl rfl rfl hq hN) ?_
    have hK := hK.tr hQ
    rcases it_of hF with ⟨hb, hF⟩ | ⟨hb, hF⟩
    · refine RK.of (RN.ift (cd := .eq) (off := 7) (tgt := 44) (by decide +kernel) (mif_eq hb)) ?_
      refine RK.of (RN.blk (ops := [(44, .iconst (-1))]) (pc' := 45) (lv' := [(2, .inl s4), (0, .inr (.inr 298))]) (st' := [.inl (-1)]) (h' := h5) (cs := []) (by decide +kernel) rfl trivial) ?_
      exact RK.iR (by decide +kernel) rfl hL hK hF
    · refine RK.of (RN.iff (cd := .eq) (off := 7) (tgt := 44) (by decide +kernel) (mif_eqn hb)) ?_
      refine RK.of (RN.blk (ops := [(40, .iload_n 2)]) (pc' := 41) (lv' := [(2, .inl s4), (0, .inr (.inr 298))]) (st' := [.inl s4]) (h' := h5) (cs := []) (by decide +kernel) rfl trivial) ?_
      refine RK.of (RN.goto (off := 4) (tgt := 45) (by decide +kernel)) ?_
      exact RK.iR (by decide +kernel) rfl hL hK hF
  · intro j3 Jj3 hF
    refine jn_use (fun j7 => j7 = some r → RK xs L iX1_entryFor (d + 1) 27 [(0, .inr (.inr 298))] [] h1 (RIo r) h r.2) ?_ ?_ hF
    · intro  hF
      refine RK.of (RN.blk (ops := [(27, .iconst (-1))]) (pc' := 28) (lv' := [(0, .inr (.inr 298))]) (st' := [.inl (-1)]) (h' := h1) (cs := []) (by decide +kernel) rfl trivial) ?_
      exact RK.sub (Jj3 _ hF) (sub_cons rfl sub_nil)
    · intro j7 Jj7 hF
      rcases it_of hF with ⟨hb, hF⟩ | ⟨hb, hF⟩
      · refine RK.of (RN.ift (cd := .eq) (off := 19) (tgt := 27) (by decide +kernel) (mif_eq hb)) ?_
        exact RK.sub (Jj7 hF) (sub_cons rfl sub_nil)
      · refine RK.of (RN.iff (cd := .eq) (off := 19) (tgt := 27) (by decide +kernel) (mif_eqn hb)) ?_
        refine RK.of (RN.blk (ops := [(11, .iload_n 1), (12, .sipush 256)]) (pc' := 15) (lv' := [(0, .inr (.inr 298)), (1, .inl a1)]) (st' := [.inl 256, .inl a1]) (h' := h1) (cs := []) (by decide +kernel) rfl trivial) ?_
        rcases it_of hF with ⟨hb, hF⟩ | ⟨hb, hF⟩
        · refine RK.of (RN.icf (cd := .ge) (off := 12) (tgt := 27) (by decide +kernel) (mif_gen hb)) ?_
          refine RK.of (RN.blk (ops := [(18, .aload_n 0)]) (pc' := 19) (lv' := [(0, .inr (.inr 298)), (1, .inl a1)]) (st' := [.inr (.inr 298)]) (h' := h1) (cs := []) (by decide +kernel) rfl trivial) ?_
          refine RK.of (RN.gr (i := 25) (ci := 1) (k := 2) (fn := true) (v := 306) (by decide +kernel) rfl (TO.gk (o_298 hL)) (hL.fa (v := 306) 2 1 256 (o_298 hL) rfl (by decide) rfl (by decide)).1) ?_
          obtain ⟨hc, hF⟩ := gd_of hF
          refine RK.of (RN.blk (ops := [(22, .iload_n 1), (23, .iaload)]) (pc' := 24) (lv' := [(0, .inr (.inr 298)), (1, .inl a1)]) (st' := [.inl (m_rd h1 306 a1)]) (h' := h1) (cs := [GI h1 306 1 a1]) (by decide +kernel) rfl ⟨(a_306 hL).gi hc.1.1 hc.1.2, trivial⟩) ?_
          refine RK.of (RN.goto (off := 4) (tgt := 28) (by decide +kernel)) ?_
          exact RK.sub (Jj3 _ hF) (sub_cons rfl sub_nil)
        · refine RK.of (RN.ict (cd := .ge) (off := 12) (tgt := 27) (by decide +kernel) (mif_ge hb)) ?_
          exact RK.sub (Jj7 hF) (sub_cons rfl sub_nil)
noncomputable def GX1_holeFor (a1 : Int) (h : MH) : Option (Int × MH) :=
  (bd (GX1_entryFor a1 h) (fun x2 h1 =>
   (if x2 = (-1) then
    some ((-1), h1)
   else
    gd [TO h1 (m_rd h1 298 1) 4] (
     gd [IB x2 12] (
      some ((m_rd h1 ((m_rd h1 298 1) + 3) x2), h1))))))
theorem DX1_holeFor {d : Nat} {a1 : Int} {h : MH} {r : Int × MH} (hL : LR h) (hF : GX1_holeFor a1 h = some r) : RN xs L iX1_holeFor (d + 2) 0 (lvE 0 [.inr (.inr 298), .inl a1]) [] h (RIo r) ∧ LR r.2 ∧ KD h r.2 := by
  unfold GX1_holeFor at hF
  have hK : KD h h := KD.rf
  show RK xs L iX1_holeFor (d + 2) 0 (lvE 0 [.inr (.inr 298), .inl a1]) [] h (RIo r) h r.2
  refine RK.of (RN.blk (ops := [(0, .aload_n 0), (1, .iload_n 1)]) (pc' := 2) (lv' := [(0, .inr (.inr 298)), (1, .inl a1)]) (st' := [.inl a1, .inr (.inr 298)]) (h' := h) (cs := []) (by decide +kernel) rfl trivial) ?_
  obtain ⟨x2, h1, hG, hF⟩ := bd_of hF
  have hq := rcv_ok (as := [.inl a1]) (TO.gk (o_298 hL))
  obtain ⟨hN, hL, hQ⟩ := DX1_entryFor (d := d) hL  hG
  refine RK.of (RN.cv (i := 68) (k := 14) (q2 := iX1_entryFor) (as := [.inr (.inr 298), .inl a1]) (r := []) (v := some (.inl x2)) (h1 := h1) (by decide +kernel) rfl rfl rfl rfl rfl hq hN) ?_
  have hK := hK.tr hQ
  refine RK.of (RN.blk (ops := [(5, .istore_n 2), (6, .iload_n 2), (7, .iconst (-1))]) (pc' := 8) (lv' := [(2, .inl x2), (0, .inr (.inr 298)), (1, .inl a1)]) (st' := [.inl (-1), .inl x2]) (h' := h1) (cs := []) (by decide +kernel) rfl trivial) ?_
  rcases it_of hF with ⟨hb, hF⟩ | ⟨hb, hF⟩
  · refine RK.of (RN.icf (cd := .ne) (off := 7) (tgt := 15) (by decide +kernel) (mif_nen hb)) ?_
    refine RK.of (RN.blk (ops := [(11, .iconst (-1))]) (pc' := 12) (lv' := [(2, .inl x2), (0, .inr (.inr 298)), (1, .inl a1)]) (st' := [.inl (-1)]) (h' := h1) (cs := []) (by decide +kernel) rfl trivial) ?_
    refine RK.of (RN.goto (off := 12) (tgt := 24) (by decide +kernel)) ?_
    exact RK.iR (by decide +kernel) rfl hL hK hF
  · refine RK.of (RN.ict (cd := .ne) (off := 7) (tgt := 15) (by decide +kernel) (mif_ne hb)) ?_
    refine RK.of (RN.blk (ops := [(15, .aload_n 0), (16, .getfield 21)]) (pc' := 19) (lv' := [(2, .inl x2), (0, .inr (.inr 298)), (1, .inl a1)]) (st' := [.inr (.inr (m_rd h1 298 1))]) (h' := h1) (cs := [GK h1 298 1]) (by decide +kernel) rfl ⟨(o_298 hL).gk, trivial⟩) ?_
    obtain ⟨hc, hF⟩ := gd_of hF
    have k_d3 := hc.1
    refine RK.of (RN.gr (i := 71) (ci := 4) (k := 3) (fn := true) (v := ((m_rd h1 298 1) + 3)) (by decide +kernel) rfl (TO.gk k_d3) (hL.fa (v := ((m_rd h1 298 1) + 3)) 3 1 12 k_d3 rfl rfl rfl (by decide)).1) ?_
    obtain ⟨hc, hF⟩ := gd_of hF
    refine RK.of (RN.blk (ops := [(22, .iload_n 2), (23, .iaload)]) (pc' := 24) (lv' := [(2, .inl x2), (0, .inr (.inr 298)), (1, .inl a1)]) (st' := [.inl (m_rd h1 ((m_rd h1 298 1) + 3) x2)]) (h' := h1) (cs := [GI h1 ((m_rd h1 298 1) + 3) 1 x2]) (by decide +kernel) rfl ⟨(hL.fa 3 1 12 k_d3 rfl rfl rfl (by decide)).2.gi hc.1.1 hc.1.2, trivial⟩) ?_
    exact RK.iR (by decide +kernel) rfl hL hK hF
noncomputable def GX0_tryAsIs_L2 (u1 : Int) (u2 : Int) (K0 : MH → Option (MH)) : Nat → Int → MH → Option (MH)
  | 0, _, _ => none
  | f + 1, v3, h =>
    (if v3 < (m_rd h u2 1) then
     gd [IB v3 20] (
      (bd (GX1_holeFor (m_rd h (u2 + 5) v3) h) (fun x2 h1 =>
       gd [IB v3 20] (
        GX0_tryAsIs_L2 u1 u2 K0 f (m_w32 (v3 + 1)) (m_wr h1 324 v3 x2)))))
    else
     K0 h)
theorem DX0_tryAsIs_L2 {d : Nat} {u1 : Int} {u2 : Int} {K0 : MH → Option (MH)} {r : MH} {h0 hB : MH} (hB0 : KD h0 hB) (k0_u1 : TO hB u1 8) (k0_u2 : TO hB u2 10) (hK0 : ∀ (h : MH), LR h → KD hB h → K0 h = some r → RK xs L iX0_tryAsIs (d + 3) 35 [(0, .inr (.inr 323)), (1, .inr (.inr u1)), (2, .inr (.inr u2))] [] h (RVo r) h0 r) : ∀ (f : Nat) (v3 : Int) (h : MH), LR h → KD hB h → GX0_tryAsIs_L2 u1 u2 K0 f v3 h = some r → RK xs L iX0_tryAsIs (d + 3) 2 [(0, .inr (.inr 323)), (1, .inr (.inr u1)), (2, .inr (.inr u2)), (3, .inl v3)] [] h (RVo r) h0 r := by
  intro f
  induction f with
  | zero =>
    intro v3 h hL hJ hF
    cases hF
  | succ f ih =>
    intro v3 h hL hJ hF
    unfold GX0_tryAsIs_L2 at hF
    have hK := hB0.tr hJ
    have k_u1 := hJ.to k0_u1
    have k_u2 := hJ.to k0_u2
    refine RK.of (RN.blk (ops := [(2, .iload_n 3), (3, .aload_n 2), (4, .getfield 43)]) (pc' := 7) (lv' := [(0, .inr (.inr 323)), (1, .inr (.inr u1)), (2, .inr (.inr u2)), (3, .inl v3)]) (st' := [.inl (m_rd h u2 1), .inl v3]) (h' := h) (cs := [GK h u2 10]) (by decide +kernel) rfl ⟨k_u2.gk, trivial⟩) ?_
    rcases it_of hF with ⟨hb, hF⟩ | ⟨hb, hF⟩
    · refine RK.of (RN.icf (cd := .ge) (off := 28) (tgt := 35) (by decide +kernel) (mif_gen hb)) ?_
      refine RK.of (RN.blk (ops := [(10, .aload_n 0)]) (pc' := 11) (lv' := [(0, .inr (.inr 323)), (1, .inr (.inr u1)), (2, .inr (.inr u2)), (3, .inl v3)]) (st' := [.inr (.inr 323)]) (h' := h) (cs := []) (by decide +kernel) rfl trivial) ?_
      refine RK.of (RN.gr (i := 9) (ci := 0) (k := 9) (fn := true) (v := 324) (by decide +kernel) rfl (TO.gk (o_323 hL)) (hL.fa (v := 324) 9 1 20 (o_323 hL) rfl (by decide) rfl (by decide)).1) ?_
      refine RK.of (RN.blk (ops := [(14, .iload_n 3), (15, .aload_n 0)]) (pc' := 16) (lv' := [(0, .inr (.inr 323)), (1, .inr (.inr u1)), (2, .inr (.inr u2)), (3, .inl v3)]) (st' := [.inr (.inr 323), .inl v3, .inr (.inr 324)]) (h' := h) (cs := []) (by decide +kernel) rfl trivial) ?_
      refine RK.of (RN.gr (i := 23) (ci := 0) (k := 8) (fn := true) (v := 298) (by decide +kernel) rfl (TO.gk (o_323 hL)) (hL.fo (v := 298) 8 1 (o_323 hL) rfl (by decide) rfl).1) ?_
      refine RK.of (RN.blk (ops := [(19, .aload_n 2)]) (pc' := 20) (lv' := [(0, .inr (.inr 323)), (1, .inr (.inr u1)), (2, .inr (.inr u2)), (3, .inl v3)]) (st' := [.inr (.inr u2), .inr (.inr 298), .inl v3, .inr (.inr 324)]) (h' := h) (cs := []) (by decide +kernel) rfl trivial) ?_
      refine RK.of (RN.gr (i := 55) (ci := 10) (k := 2) (fn := true) (v := (u2 + 5)) (by decide +kernel) rfl (TO.gk k_u2) (hL.fa (v := (u2 + 5)) 2 1 20 k_u2 rfl rfl rfl (by decide)).1) ?_
      obtain ⟨hc, hF⟩ := gd_of hF
      refine RK.of (RN.blk (ops := [(23, .iload_n 3), (24, .iaload)]) (pc' := 25) (lv' := [(0, .inr (.inr 323)), (1, .inr (.inr u1)), (2, .inr (.inr u2)), (3, .inl v3)]) (st' := [.inl (m_rd h (u2 + 5) v3), .inr (.inr 298), .inl v3, .inr (.inr 324)]) (h' := h) (cs := [GI h (u2 + 5) 1 v3]) (by decide +kernel) rfl ⟨(hL.fa 2 1 20 k_u2 rfl rfl rfl (by decide)).2.gi hc.1.1 hc.1.2, trivial⟩) ?_
      obtain ⟨x2, h1, hG, hF⟩ := bd_of hF
      have hq := rcv_ok (as := [.inl (m_rd h (u2 + 5) v3)]) (TO.gk (o_298 hL))
      obtain ⟨hN, hL, hQ⟩ := DX1_holeFor (d := d) hL  hG
      refine RK.of (RN.cv (i := 58) (k := 15) (q2 := iX1_holeFor) (as := [.inr (.inr 298), .inl (m_rd h (u2 + 5) v3)]) (r := [.inl v3, .inr (.inr 324)]) (v := some (.inl x2)) (h1 := h1) (by decide +kernel) rfl rfl rfl rfl rfl hq hN) ?_
      have k_u1 := hQ.to k_u1
      have k_u2 := hQ.to k_u2
      have hK := hK.tr hQ
      have hJ := hJ.tr hQ
      obtain ⟨hc, hF⟩ := gd_of hF
      refine RK.of (RN.blk (ops := [(28, .iastore)]) (pc' := 29) (lv' := [(0, .inr (.inr 323)), (1, .inr (.inr u1)), (2, .inr (.inr u2)), (3, .inl v3)]) (st' := []) (h' := (m_wr h1 324 v3 x2)) (cs := [GI h1 324 1 v3]) (by decide +kernel) rfl ⟨(a_324 hL).gi hc.1.1 hc.1.2, trivial⟩) ?_
      have hL : LR (m_wr h1 324 v3 x2) := hL.wa (TA.le5 (a_324 hL) (by decide))
      have k_u1 := (KD.wr : KD h1 (m_wr h1 324 v3 x2)).to k_u1
      have k_u2 := (KD.wr : KD h1 (m_wr h1 324 v3 x2)).to k_u2
      have hK := hK.tr (KD.wr : KD h1 (m_wr h1 324 v3 x2))
      have hJ := hJ.tr (KD.wr : KD h1 (m_wr h1 324 v3 x2))
      refine RK.of (RN.blk (ops := [(29, .iinc 3 1)]) (pc' := 32) (lv' := [(3, .inl (m_w32 (v3 + 1))), (0, .inr (.inr 323)), (1, .inr (.inr u1)), (2, .inr (.inr u2))]) (st' := []) (h' := (m_wr h1 324 v3 x2)) (cs := []) (by decide +kernel) rfl trivial) ?_
      refine RK.of (RN.goto (off := -30) (tgt := 2) (by decide +kernel)) ?_
      exact RK.sub (ih _ _ hL hJ hF) (sub_cons rfl (sub_cons rfl (sub_cons rfl (sub_cons rfl sub_nil))))
    · refine RK.of (RN.ict (cd := .ge) (off := 28) (tgt := 35) (by decide +kernel) (mif_ge hb)) ?_
      exact RK.sub (hK0 _ hL hJ hF) (sub_cons rfl (sub_cons rfl (sub_cons rfl sub_nil)))
noncomputable def GX0_tryAsIs (a1 : Int) (a2 : Int) (h : MH) : Option (MH) :=
  GX0_tryAsIs_L2 a1 a2 (fun h1 =>
   (bv (GX0_tryGoals a1 a2 h1) (fun h2 =>
    hl (m_wr (m_wr h2 323 0 (m_rd h2 323 12)) 323 1 (m_rd (m_wr h2 323 0 (m_rd h2 323 12)) 323 13)) (fun h3 =>
     some (m_wr (m_wr (m_wr (m_wr h3 323 2 (-1)) 323 3 (-1)) 323 4 (-1)) 323 5 (-1)))))) FU 0 h
theorem DX0_tryAsIs {d : Nat} {a1 : Int} {a2 : Int} {h : MH} {r : MH} (hL : LR h) (k0_a1 : TO h a1 8) (k0_a2 : TO h a2 10) (hF : GX0_tryAsIs a1 a2 h = some r) : RN xs L iX0_tryAsIs (d + 3) 0 (lvE 0 [.inr (.inr 323), .inr (.inr a1), .inr (.inr a2)]) [] h (RVo r) ∧ LR r ∧ KD h r := by
  unfold GX0_tryAsIs at hF
  have hK : KD h h := KD.rf
  have k_a1 := k0_a1
  have k_a2 := k0_a2
  show RK xs L iX0_tryAsIs (d + 3) 0 (lvE 0 [.inr (.inr 323), .inr (.inr a1), .inr (.inr a2)]) [] h (RVo r) h r
  refine RK.of (RN.blk (ops := [(0, .iconst 0), (1, .istore_n 3)]) (pc' := 2) (lv' := [(3, .inl 0), (0, .inr (.inr 323)), (1, .inr (.inr a1)), (2, .inr (.inr a2))]) (st' := []) (h' := h) (cs := []) (by decide +kernel) rfl trivial) ?_
  refine RK.sub (DX0_tryAsIs_L2 hK k_a1 k_a2 ?_ _ _ _ hL KD.rf hF) (sub_cons rfl (sub_cons rfl (sub_cons rfl (sub_cons rfl sub_nil))))
  · intro h1 hL hq hF
    have k_a1 := hq.to k_a1
    have k_a2 := hq.to k_a2
    have hK := hK.tr hq
    refine RK.of (RN.blk (ops := [(35, .aload_n 0), (36, .aload_n 1), (37, .aload_n 2)]) (pc' := 38) (lv' := [(0, .inr (.inr 323)), (1, .inr (.inr a1)), (2, .inr (.inr a2))]) (st' := [.inr (.inr a2), .inr (.inr a1), .inr (.inr 323)]) (h' := h1) (cs := []) (by decide +kernel) rfl trivial) ?_
    obtain ⟨h2, hG, hF⟩ := bv_of hF
    have hq := rcv_ok (as := [.inr (.inr a1), .inr (.inr a2)]) (TO.gk (o_323 hL))
    obtain ⟨hN, hL, hQ⟩ := DX0_tryGoals (d := d + 1) hL k_a1 k_a2 hG
    refine RK.of (RN.cv (i := 64) (k := 1) (q2 := iX0_tryGoals) (as := [.inr (.inr 323), .inr (.inr a1), .inr (.inr a2)]) (r := []) (v := none) (h1 := h2) (by decide +kernel) rfl rfl rfl rfl rfl hq hN) ?_
    have k_a1 := hQ.to k_a1
    have k_a2 := hQ.to k_a2
    have hK := hK.tr hQ
    refine RK.of (RN.blk (ops := [(41, .aload_n 0), (42, .aload_n 0), (43, .getfield 27), (46, .putfield 68)]) (pc' := 49) (lv' := [(0, .inr (.inr 323)), (1, .inr (.inr a1)), (2, .inr (.inr a2))]) (st' := []) (h' := (m_wr h2 323 0 (m_rd h2 323 12))) (cs := [GK h2 323 0, GK h2 323 0]) (by decide +kernel) rfl ⟨(o_323 hL).gk, (o_323 hL).gk, trivial⟩) ?_
    have hL : LR (m_wr h2 323 0 (m_rd h2 323 12)) := LR.wf (k := 0) hL (o_323 hL) rfl
    have k_a1 := (KD.wr : KD h2 (m_wr h2 323 0 (m_rd h2 323 12))).to k_a1
    have k_a2 := (KD.wr : KD h2 (m_wr h2 323 0 (m_rd h2 323 12))).to k_a2
    have hK := hK.tr (KD.wr : KD h2 (m_wr h2 323 0 (m_rd h2 323 12)))
    refine RK.of (RN.blk (ops := [(49, .aload_n 0), (50, .aload_n 0), (51, .getfield 31), (54, .putfield 71)]) (pc' := 57) (lv' := [(0, .inr (.inr 323)), (1, .inr (.inr a1)), (2, .inr (.inr a2))]) (st' := []) (h' := (m_wr (m_wr h2 323 0 (m_rd h2 323 12)) 323 1 (m_rd (m_wr h2 323 0 (m_rd h2 323 12)) 323 13))) (cs := [GK (m_wr h2 323 0 (m_rd h2 323 12)) 323 0, GK (m_wr h2 323 0 (m_rd h2 323 12)) 323 0]) (by decide +kernel) rfl ⟨(o_323 hL).gk, (o_323 hL).gk, trivial⟩) ?_
    have hL : LR (m_wr (m_wr h2 323 0 (m_rd h2 323 12)) 323 1 (m_rd (m_wr h2 323 0 (m_rd h2 323 12)) 323 13)) := LR.wf (k := 1) hL (o_323 hL) rfl
    have k_a1 := (KD.wr : KD (m_wr h2 323 0 (m_rd h2 323 12)) (m_wr (m_wr h2 323 0 (m_rd h2 323 12)) 323 1 (m_rd (m_wr h2 323 0 (m_rd h2 323 12)) 323 13))).to k_a1
    have k_a2 := (KD.wr : KD (m_wr h2 323 0 (m_rd h2 323 12)) (m_wr (m_wr h2 323 0 (m_rd h2 323 12)) 323 1 (m_rd (m_wr h2 323 0 (m_rd h2 323 12)) 323 13))).to k_a2
    have hK := hK.tr (KD.wr : KD (m_wr h2 323 0 (m_rd h2 323 12)) (m_wr (m_wr h2 323 0 (m_rd h2 323 12)) 323 1 (m_rd (m_wr h2 323 0 (m_rd h2 323 12)) 323 13)))
    obtain ⟨h3, he, hF⟩ := hl_of hF
    refine RK.of (RN.hl he) ?_
    rw [← he] at hL hK k_a1 k_a2
    refine RK.of (RN.blk (ops := [(57, .aload_n 0), (58, .iconst (-1)), (59, .putfield 74)]) (pc' := 62) (lv' := [(0, .inr (.inr 323)), (1, .inr (.inr a1)), (2, .inr (.inr a2))]) (st' := []) (h' := (m_wr h3 323 2 (-1))) (cs := [GK h3 323 0]) (by decide +kernel) rfl ⟨(o_323 hL).gk, trivial⟩) ?_
    have hL : LR (m_wr h3 323 2 (-1)) := LR.wf (k := 2) hL (o_323 hL) rfl
    have k_a1 := (KD.wr : KD h3 (m_wr h3 323 2 (-1))).to k_a1
    have k_a2 := (KD.wr : KD h3 (m_wr h3 323 2 (-1))).to k_a2
    have hK := hK.tr (KD.wr : KD h3 (m_wr h3 323 2 (-1)))
    refine RK.of (RN.blk (ops := [(62, .aload_n 0), (63, .iconst (-1)), (64, .putfield 77)]) (pc' := 67) (lv' := [(0, .inr (.inr 323)), (1, .inr (.inr a1)), (2, .inr (.inr a2))]) (st' := []) (h' := (m_wr (m_wr h3 323 2 (-1)) 323 3 (-1))) (cs := [GK (m_wr h3 323 2 (-1)) 323 0]) (by decide +kernel) rfl ⟨(o_323 hL).gk, trivial⟩) ?_
    have hL : LR (m_wr (m_wr h3 323 2 (-1)) 323 3 (-1)) := LR.wf (k := 3) hL (o_323 hL) rfl
    have k_a1 := (KD.wr : KD (m_wr h3 323 2 (-1)) (m_wr (m_wr h3 323 2 (-1)) 323 3 (-1))).to k_a1
    have k_a2 := (KD.wr : KD (m_wr h3 323 2 (-1)) (m_wr (m_wr h3 323 2 (-1)) 323 3 (-1))).to k_a2
    have hK := hK.tr (KD.wr : KD (m_wr h3 323 2 (-1)) (m_wr (m_wr h3 323 2 (-1)) 323 3 (-1)))
    refine RK.of (RN.blk (ops := [(67, .aload_n 0), (68, .iconst (-1)), (69, .putfield 80)]) (pc' := 72) (lv' := [(0, .inr (.inr 323)), (1, .inr (.inr a1)), (2, .inr (.inr a2))]) (st' := []) (h' := (m_wr (m_wr (m_wr h3 323 2 (-1)) 323 3 (-1)) 323 4 (-1))) (cs := [GK (m_wr (m_wr h3 323 2 (-1)) 323 3 (-1)) 323 0]) (by decide +kernel) rfl ⟨(o_323 hL).gk, trivial⟩) ?_
    have hL : LR (m_wr (m_wr (m_wr h3 323 2 (-1)) 323 3 (-1)) 323 4 (-1)) := LR.wf (k := 4) hL (o_323 hL) rfl
    have k_a1 := (KD.wr : KD (m_wr (m_wr h3 323 2 (-1)) 323 3 (-1)) (m_wr (m_wr (m_wr h3 323 2 (-1)) 323 3 (-1)) 323 4 (-1))).to k_a1
    have k_a2 := (KD.wr : KD (m_wr (m_wr h3 323 2 (-1)) 323 3 (-1)) (m_wr (m_wr (m_wr h3 323 2 (-1)) 323 3 (-1)) 323 4 (-1))).to k_a2
    have hK := hK.tr (KD.wr : KD (m_wr (m_wr h3 323 2 (-1)) 323 3 (-1)) (m_wr (m_wr (m_wr h3 323 2 (-1)) 323 3 (-1)) 323 4 (-1)))
    refine RK.of (RN.blk (ops := [(72, .aload_n 0), (73, .iconst (-1)), (74, .putfield 83)]) (pc' := 77) (lv' := [(0, .inr (.inr 323)), (1, .inr (.inr a1)), (2, .inr (.inr a2))]) (st' := []) (h' := (m_wr (m_wr (m_wr (m_wr h3 323 2 (-1)) 323 3 (-1)) 323 4 (-1)) 323 5 (-1))) (cs := [GK (m_wr (m_wr (m_wr h3 323 2 (-1)) 323 3 (-1)) 323 4 (-1)) 323 0]) (by decide +kernel) rfl ⟨(o_323 hL).gk, trivial⟩) ?_
    have hL : LR (m_wr (m_wr (m_wr (m_wr h3 323 2 (-1)) 323 3 (-1)) 323 4 (-1)) 323 5 (-1)) := LR.wf (k := 5) hL (o_323 hL) rfl
    have k_a1 := (KD.wr : KD (m_wr (m_wr (m_wr h3 323 2 (-1)) 323 3 (-1)) 323 4 (-1)) (m_wr (m_wr (m_wr (m_wr h3 323 2 (-1)) 323 3 (-1)) 323 4 (-1)) 323 5 (-1))).to k_a1
    have k_a2 := (KD.wr : KD (m_wr (m_wr (m_wr h3 323 2 (-1)) 323 3 (-1)) 323 4 (-1)) (m_wr (m_wr (m_wr (m_wr h3 323 2 (-1)) 323 3 (-1)) 323 4 (-1)) 323 5 (-1))).to k_a2
    have hK := hK.tr (KD.wr : KD (m_wr (m_wr (m_wr h3 323 2 (-1)) 323 3 (-1)) 323 4 (-1)) (m_wr (m_wr (m_wr (m_wr h3 323 2 (-1)) 323 3 (-1)) 323 4 (-1)) 323 5 (-1)))
    exact RK.vR (by decide +kernel) rfl hL hK hF
noncomputable def GX1_digitsFor (a1 : Int) (h : MH) : Option (Int × MH) :=
  (bd (GX1_entryFor a1 h) (fun x2 h1 =>
   (if x2 = (-1) then
    some ((-1), h1)
   else
    gd [TO h1 (m_rd h1 298 1) 4] (
     gd [IB x2 12] (
      some ((m_rd h1 ((m_rd h1 298 1) + 1) x2), h1))))))
theorem DX1_digitsFor {d : Nat} {a1 : Int} {h : MH} {r : Int × MH} (hL : LR h) (hF : GX1_digitsFor a1 h = some r) : RN xs L iX1_digitsFor (d + 2) 0 (lvE 0 [.inr (.inr 298), .inl a1]) [] h (RIo r) ∧ LR r.2 ∧ KD h r.2 := by
  unfold GX1_digitsFor at hF
  have hK : KD h h := KD.rf
  show RK xs L iX1_digitsFor (d + 2) 0 (lvE 0 [.inr (.inr 298), .inl a1]) [] h (RIo r) h r.2
  refine RK.of (RN.blk (ops := [(0, .aload_n 0), (1, .iload_n 1)]) (pc' := 2) (lv' := [(0, .inr (.inr 298)), (1, .inl a1)]) (st' := [.inl a1, .inr (.inr 298)]) (h' := h) (cs := []) (by decide +kernel) rfl trivial) ?_
  obtain ⟨x2, h1, hG, hF⟩ := bd_of hF
  have hq := rcv_ok (as := [.inl a1]) (TO.gk (o_298 hL))
  obtain ⟨hN, hL, hQ⟩ := DX1_entryFor (d := d) hL  hG
  refine RK.of (RN.cv (i := 68) (k := 14) (q2 := iX1_entryFor) (as := [.inr (.inr 298), .inl a1]) (r := []) (v := some (.inl x2)) (h1 := h1) (by decide +kernel) rfl rfl rfl rfl rfl hq hN) ?_
  have hK := hK.tr hQ
  refine RK.of (RN.blk (ops := [(5, .istore_n 2), (6, .iload_n 2), (7, .iconst (-1))]) (pc' := 8) (lv' := [(2, .inl x2), (0, .inr (.inr 298)), (1, .inl a1)]) (st' := [.inl (-1), .inl x2]) (h' := h1) (cs := []) (by decide +kernel) rfl trivial) ?_
  rcases it_of hF with ⟨hb, hF⟩ | ⟨hb, hF⟩
  · refine RK.of (RN.icf (cd := .ne) (off := 7) (tgt := 15) (by decide +kernel) (mif_nen hb)) ?_
    refine RK.of (RN.blk (ops := [(11, .iconst (-1))]) (pc' := 12) (lv' := [(2, .inl x2), (0, .inr (.inr 298)), (1, .inl a1)]) (st' := [.inl (-1)]) (h' := h1) (cs := []) (by decide +kernel) rfl trivial) ?_
    refine RK.of (RN.goto (off := 12) (tgt := 24) (by decide +kernel)) ?_
    exact RK.iR (by decide +kernel) rfl hL hK hF
  · refine RK.of (RN.ict (cd := .ne) (off := 7) (tgt := 15) (by decide +kernel) (mif_ne hb)) ?_
    refine RK.of (RN.blk (ops := [(15, .aload_n 0), (16, .getfield 21)]) (pc' := 19) (lv' := [(2, .inl x2), (0, .inr (.inr 298)), (1, .inl a1)]) (st' := [.inr (.inr (m_rd h1 298 1))]) (h' := h1) (cs := [GK h1 298 1]) (by decide +kernel) rfl ⟨(o_298 hL).gk, trivial⟩) ?_
    obtain ⟨hc, hF⟩ := gd_of hF
    have k_d3 := hc.1
    refine RK.of (RN.gr (i := 48) (ci := 4) (k := 1) (fn := true) (v := ((m_rd h1 298 1) + 1)) (by decide +kernel) rfl (TO.gk k_d3) (hL.fa (v := ((m_rd h1 298 1) + 1)) 1 1 12 k_d3 rfl rfl rfl (by decide)).1) ?_
    obtain ⟨hc, hF⟩ := gd_of hF
    refine RK.of (RN.blk (ops := [(22, .iload_n 2), (23, .iaload)]) (pc' := 24) (lv' := [(2, .inl x2), (0, .inr (.inr 298)), (1, .inl a1)]) (st' := [.inl (m_rd h1 ((m_rd h1 298 1) + 1) x2)]) (h' := h1) (cs := [GI h1 ((m_rd h1 298 1) + 1) 1 x2]) (by decide +kernel) rfl ⟨(hL.fa 1 1 12 k_d3 rfl rfl rfl (by decide)).2.gi hc.1.1 hc.1.2, trivial⟩) ?_
    exact RK.iR (by decide +kernel) rfl hL hK hF
noncomputable def GX8_spanOf (t : Int) (a1 : Int) (h : MH) : Option (Int × MH) :=
  (if (m_w32 ((m_rd h t 1) - a1)) < 0 then
   some (0, h)
  else
   (if 4 < (m_w32 ((m_rd h t 1) - a1)) then
    some (0, h)
   else
    gd [IB (m_w32 ((m_rd h t 1) - a1)) 5] (
     some ((m_rd h (t + 1) (m_w32 ((m_rd h t 1) - a1))), h))))
theorem DX8_spanOf {d : Nat} {t : Int} {a1 : Int} {h : MH} {r : Int × MH} (hL : LR h) (k0_t : TO h t 8) (hF : GX8_spanOf t a1 h = some r) : RN xs L iX8_spanOf (d) 0 (lvE 0 [.inr (.inr t), .inl a1]) [] h (RIo r) ∧ LR r.2 ∧ KD h r.2 := by
  unfold GX8_spanOf at hF
  have hK : KD h h := KD.rf
  have k_t := k0_t
  show RK xs L iX8_spanOf (d) 0 (lvE 0 [.inr (.inr t), .inl a1]) [] h (RIo r) h r.2
  refine RK.of (RN.blk (ops := [(0, .aload_n 0), (1, .getfield 22), (4, .iload_n 1), (5, .isub), (6, .istore_n 2), (7, .iload_n 2)]) (pc' := 8) (lv' := [(2, .inl (m_w32 ((m_rd h t 1) - a1))), (0, .inr (.inr t)), (1, .inl a1)]) (st' := [.inl (m_w32 ((m_rd h t 1) - a1))]) (h' := h) (cs := [GK h t 8]) (by decide +kernel) rfl ⟨k_t.gk, trivial⟩) ?_
  rcases it_of hF with ⟨hb, hF⟩ | ⟨hb, hF⟩
  · refine RK.of (RN.ift (cd := .lt) (off := 17) (tgt := 25) (by decide +kernel) (mif_lt hb)) ?_
    refine RK.of (RN.blk (ops := [(25, .iconst 0)]) (pc' := 26) (lv' := [(2, .inl (m_w32 ((m_rd h t 1) - a1))), (0, .inr (.inr t)), (1, .inl a1)]) (st' := [.inl 0]) (h' := h) (cs := []) (by decide +kernel) rfl trivial) ?_
    exact RK.iR (by decide +kernel) rfl hL hK hF
  · refine RK.of (RN.iff (cd := .lt) (off := 17) (tgt := 25) (by decide +kernel) (mif_ltn hb)) ?_
    refine RK.of (RN.blk (ops := [(11, .iload_n 2), (12, .iconst 4)]) (pc' := 13) (lv' := [(2, .inl (m_w32 ((m_rd h t 1) - a1))), (0, .inr (.inr t)), (1, .inl a1)]) (st' := [.inl 4, .inl (m_w32 ((m_rd h t 1) - a1))]) (h' := h) (cs := []) (by decide +kernel) rfl trivial) ?_
    rcases it_of hF with ⟨hb, hF⟩ | ⟨hb, hF⟩
    · refine RK.of (RN.ict (cd := .gt) (off := 12) (tgt := 25) (by decide +kernel) (mif_gt hb)) ?_
      refine RK.of (RN.blk (ops := [(25, .iconst 0)]) (pc' := 26) (lv' := [(2, .inl (m_w32 ((m_rd h t 1) - a1))), (0, .inr (.inr t)), (1, .inl a1)]) (st' := [.inl 0]) (h' := h) (cs := []) (by decide +kernel) rfl trivial) ?_
      exact RK.iR (by decide +kernel) rfl hL hK hF
    · refine RK.of (RN.icf (cd := .gt) (off := 12) (tgt := 25) (by decide +kernel) (mif_gtn hb)) ?_
      refine RK.of (RN.blk (ops := [(16, .aload_n 0)]) (pc' := 17) (lv' := [(2, .inl (m_w32 ((m_rd h t 1) - a1))), (0, .inr (.inr t)), (1, .inl a1)]) (st' := [.inr (.inr t)]) (h' := h) (cs := []) (by decide +kernel) rfl trivial) ?_
      refine RK.of (RN.gr (i := 9) (ci := 8) (k := 4) (fn := true) (v := (t + 1)) (by decide +kernel) rfl (TO.gk k_t) (hL.fa (v := (t + 1)) 4 1 5 k_t rfl rfl rfl (by decide)).1) ?_
      obtain ⟨hc, hF⟩ := gd_of hF
      refine RK.of (RN.blk (ops := [(20, .iload_n 2), (21, .iaload)]) (pc' := 22) (lv' := [(2, .inl (m_w32 ((m_rd h t 1) - a1))), (0, .inr (.inr t)), (1, .inl a1)]) (st' := [.inl (m_rd h (t + 1) (m_w32 ((m_rd h t 1) - a1)))]) (h' := h) (cs := [GI h (t + 1) 1 (m_w32 ((m_rd h t 1) - a1))]) (by decide +kernel) rfl ⟨(hL.fa 4 1 5 k_t rfl rfl rfl (by decide)).2.gi hc.1.1 hc.1.2, trivial⟩) ?_
      refine RK.of (RN.goto (off := 4) (tgt := 26) (by decide +kernel)) ?_
      exact RK.iR (by decide +kernel) rfl hL hK hF
noncomputable def GX8_prefixOf (t : Int) (a1 : Int) (a2 : Int) (h : MH) : Option (Int × MH) :=
  (bd (GX8_spanOf t a2 h) (fun x2 h1 =>
   (if x2 = 0 then
    some (0, h1)
   else
    gd [(x2 : Int) ≠ 0] (
     some ((m_w32 (Int.tdiv a1 x2)), h1)))))
theorem DX8_prefixOf {d : Nat} {t : Int} {a1 : Int} {a2 : Int} {h : MH} {r : Int × MH} (hL : LR h) (k0_t : TO h t 8) (hF : GX8_prefixOf t a1 a2 h = some r) : RN xs L iX8_prefixOf (d + 1) 0 (lvE 0 [.inr (.inr t), .inl a1, .inl a2]) [] h (RIo r) ∧ LR r.2 ∧ KD h r.2 := by
  unfold GX8_prefixOf at hF
  have hK : KD h h := KD.rf
  have k_t := k0_t
  show RK xs L iX8_prefixOf (d + 1) 0 (lvE 0 [.inr (.inr t), .inl a1, .inl a2]) [] h (RIo r) h r.2
  refine RK.of (RN.blk (ops := [(0, .aload_n 0), (1, .iload_n 2)]) (pc' := 2) (lv' := [(0, .inr (.inr t)), (1, .inl a1), (2, .inl a2)]) (st' := [.inl a2, .inr (.inr t)]) (h' := h) (cs := []) (by decide +kernel) rfl trivial) ?_
  obtain ⟨x2, h1, hG, hF⟩ := bd_of hF
  have hq := rcv_ok (as := [.inl a2]) (TO.gk k_t)
  obtain ⟨hN, hL, hQ⟩ := DX8_spanOf (d := d) hL k_t hG
  refine RK.of (RN.cv (i := 41) (k := 85) (q2 := iX8_spanOf) (as := [.inr (.inr t), .inl a2]) (r := []) (v := some (.inl x2)) (h1 := h1) (by decide +kernel) rfl rfl rfl rfl rfl hq hN) ?_
  have k_t := hQ.to k_t
  have hK := hK.tr hQ
  refine RK.of (RN.blk (ops := [(5, .istore_n 3), (6, .iload_n 3)]) (pc' := 7) (lv' := [(3, .inl x2), (0, .inr (.inr t)), (1, .inl a1), (2, .inl a2)]) (st' := [.inl x2]) (h' := h1) (cs := []) (by decide +kernel) rfl trivial) ?_
  rcases it_of hF with ⟨hb, hF⟩ | ⟨hb, hF⟩
  · refine RK.of (RN.iff (cd := .ne) (off := 7) (tgt := 14) (by decide +kernel) (mif_nen hb)) ?_
    refine RK.of (RN.blk (ops := [(10, .iconst 0)]) (pc' := 11) (lv' := [(3, .inl x2), (0, .inr (.inr t)), (1, .inl a1), (2, .inl a2)]) (st' := [.inl 0]) (h' := h1) (cs := []) (by decide +kernel) rfl trivial) ?_
    refine RK.of (RN.goto (off := 6) (tgt := 17) (by decide +kernel)) ?_
    exact RK.iR (by decide +kernel) rfl hL hK hF
  · refine RK.of (RN.ift (cd := .ne) (off := 7) (tgt := 14) (by decide +kernel) (mif_ne hb)) ?_
    obtain ⟨hc, hF⟩ := gd_of hF
    refine RK.of (RN.blk (ops := [(14, .iload_n 1), (15, .iload_n 3), (16, .idiv)]) (pc' := 17) (lv' := [(3, .inl x2), (0, .inr (.inr t)), (1, .inl a1), (2, .inl a2)]) (st' := [.inl (m_w32 (Int.tdiv a1 x2))]) (h' := h1) (cs := [(x2 : Int) ≠ 0]) (by decide +kernel) rfl ⟨hc.1, trivial⟩) ?_
    exact RK.iR (by decide +kernel) rfl hL hK hF
noncomputable def GX0_sendByEntry_L6 (u1 : Int) (u2 : Int) (u3 : Int) (u4 : Int) (u5 : Int) (K0 : Int → MH → Option (Int × MH)) : Nat → Int → Int → MH → Option (Int × MH)
  | 0, _, _, _ => none
  | f + 1, v6, v7, h =>
    (if v7 < (m_rd h u2 1) then
     gd [IB v7 20] (
      (bd (GX1_holeFor (m_rd h (u2 + 5) v7) h) (fun x2 h1 =>
       gd [IB v7 20] (
        (bd (GX8_prefixOf u1 (m_rd h (u2 + 5) v7) u3 (m_wr h1 324 v7 x2)) (fun x4 h3 =>
         (if x4 = u4 then
          (bd (GX1_digitsFor (m_rd h (u2 + 5) v7) h3) (fun x6 h5 =>
           (if u3 < x6 then
            GX0_sendByEntry_L6 u1 u2 u3 u4 u5 K0 f v6 (m_w32 (v7 + 1)) h5
           else
            gd [IB v7 20] (
             GX0_sendByEntry_L6 u1 u2 u3 u4 u5 K0 f 1 (m_w32 (v7 + 1)) (m_wr h5 324 v7 u5)))))
         else
          GX0_sendByEntry_L6 u1 u2 u3 u4 u5 K0 f v6 (m_w32 (v7 + 1)) h3)))))))
    else
     K0 v6 h)
theorem DX0_sendByEntry_L6 {d : Nat} {u1 : Int} {u2 : Int} {u3 : Int} {u4 : Int} {u5 : Int} {K0 : Int → MH → Option (Int × MH)} {r : Int × MH} {h0 hB : MH} (hB0 : KD h0 hB) (k0_u1 : TO hB u1 8) (k0_u2 : TO hB u2 10) (hK0 : ∀ (w6 : Int) (h : MH), LR h → KD hB h → K0 w6 h = some r → RK xs L iX0_sendByEntry (d + 3) 83 [(6, .inl w6)] [] h (RIo r) h0 r.2) : ∀ (f : Nat) (v6 : Int) (v7 : Int) (h : MH), LR h → KD hB h → GX0_sendByEntry_L6 u1 u2 u3 u4 u5 K0 f v6 v7 h = some r → RK xs L iX0_sendByEntry (d + 3) 6 [(0, .inr (.inr 323)), (1, .inr (.inr u1)), (2, .inr (.inr u2)), (3, .inl u3), (4, .inl u4), (5, .inl u5), (6, .inl v6), (7, .inl v7)] [] h (RIo r) h0 r.2 := by
  intro f
  induction f with
  | zero =>
    intro v6 v7 h hL hJ hF
    cases hF
  | succ f ih =>
    intro v6 v7 h hL hJ hF
    unfold GX0_sendByEntry_L6 at hF
    have hK := hB0.tr hJ
    have k_u1 := hJ.to k0_u1
    have k_u2 := hJ.to k0_u2
    refine RK.of (RN.blk (ops := [(6, .iload 7), (8, .aload_n 2), (9, .getfield 43)]) (pc' := 12) (lv' := [(0, .inr (.inr 323)), (1, .inr (.inr u1)), (2, .inr (.inr u2)), (3, .inl u3), (4, .inl u4), (5, .inl u5), (6, .inl v6), (7, .inl v7)]) (st' := [.inl (m_rd h u2 1), .inl v7]) (h' := h) (cs := [GK h u2 10]) (by decide +kernel) rfl ⟨k_u2.gk, trivial⟩) ?_
    rcases it_of hF with ⟨hb, hF⟩ | ⟨hb, hF⟩
    · refine RK.of (RN.icf (cd := .ge) (off := 71) (tgt := 83) (by decide +kernel) (mif_gen hb)) ?_
      refine RK.of (RN.blk (ops := [(15, .aload_n 2)]) (pc' := 16) (lv' := [(0, .inr (.inr 323)), (1, .inr (.inr u1)), (2, .inr (.inr u2)), (3, .inl u3), (4, .inl u4), (5, .inl u5), (6, .inl v6), (7, .inl v7)]) (st' := [.inr (.inr u2)]) (h' := h) (cs := []) (by decide +kernel) rfl trivial) ?_
      refine RK.of (RN.gr (i := 55) (ci := 10) (k := 2) (fn := true) (v := (u2 + 5)) (by decide +kernel) rfl (TO.gk k_u2) (hL.fa (v := (u2 + 5)) 2 1 20 k_u2 rfl rfl rfl (by decide)).1) ?_
      obtain ⟨hc, hF⟩ := gd_of hF
      refine RK.of (RN.blk (ops := [(19, .iload 7), (21, .iaload), (22, .istore 8), (24, .aload_n 0)]) (pc' := 25) (lv' := [(8, .inl (m_rd h (u2 + 5) v7)), (0, .inr (.inr 323)), (1, .inr (.inr u1)), (2, .inr (.inr u2)), (3, .inl u3), (4, .inl u4), (5, .inl u5), (6, .inl v6), (7, .inl v7)]) (st' := [.inr (.inr 323)]) (h' := h) (cs := [GI h (u2 + 5) 1 v7]) (by decide +kernel) rfl ⟨(hL.fa 2 1 20 k_u2 rfl rfl rfl (by decide)).2.gi hc.1.1 hc.1.2, trivial⟩) ?_
      refine RK.of (RN.gr (i := 9) (ci := 0) (k := 9) (fn := true) (v := 324) (by decide +kernel) rfl (TO.gk (o_323 hL)) (hL.fa (v := 324) 9 1 20 (o_323 hL) rfl (by decide) rfl (by decide)).1) ?_
      refine RK.of (RN.blk (ops := [(28, .iload 7), (30, .aload_n 0)]) (pc' := 31) (lv' := [(8, .inl (m_rd h (u2 + 5) v7)), (0, .inr (.inr 323)), (1, .inr (.inr u1)), (2, .inr (.inr u2)), (3, .inl u3), (4, .inl u4), (5, .inl u5), (6, .inl v6), (7, .inl v7)]) (st' := [.inr (.inr 323), .inl v7, .inr (.inr 324)]) (h' := h) (cs := []) (by decide +kernel) rfl trivial) ?_
      refine RK.of (RN.gr (i := 23) (ci := 0) (k := 8) (fn := true) (v := 298) (by decide +kernel) rfl (TO.gk (o_323 hL)) (hL.fo (v := 298) 8 1 (o_323 hL) rfl (by decide) rfl).1) ?_
      refine RK.of (RN.blk (ops := [(34, .iload 8)]) (pc' := 36) (lv' := [(8, .inl (m_rd h (u2 + 5) v7)), (0, .inr (.inr 323)), (1, .inr (.inr u1)), (2, .inr (.inr u2)), (3, .inl u3), (4, .inl u4), (5, .inl u5), (6, .inl v6), (7, .inl v7)]) (st' := [.inl (m_rd h (u2 + 5) v7), .inr (.inr 298), .inl v7, .inr (.inr 324)]) (h' := h) (cs := []) (by decide +kernel) rfl trivial) ?_
      obtain ⟨x2, h1, hG, hF⟩ := bd_of hF
      have hq := rcv_ok (as := [.inl (m_rd h (u2 + 5) v7)]) (TO.gk (o_298 hL))
      obtain ⟨hN, hL, hQ⟩ := DX1_holeFor (d := d) hL  hG
      refine RK.of (RN.cv (i := 58) (k := 15) (q2 := iX1_holeFor) (as := [.inr (.inr 298), .inl (m_rd h (u2 + 5) v7)]) (r := [.inl v7, .inr (.inr 324)]) (v := some (.inl x2)) (h1 := h1) (by decide +kernel) rfl rfl rfl rfl rfl hq hN) ?_
      have k_u1 := hQ.to k_u1
      have k_u2 := hQ.to k_u2
      have hK := hK.tr hQ
      have hJ := hJ.tr hQ
      obtain ⟨hc, hF⟩ := gd_of hF
      refine RK.of (RN.blk (ops := [(39, .iastore)]) (pc' := 40) (lv' := [(8, .inl (m_rd h (u2 + 5) v7)), (0, .inr (.inr 323)), (1, .inr (.inr u1)), (2, .inr (.inr u2)), (3, .inl u3), (4, .inl u4), (5, .inl u5), (6, .inl v6), (7, .inl v7)]) (st' := []) (h' := (m_wr h1 324 v7 x2)) (cs := [GI h1 324 1 v7]) (by decide +kernel) rfl ⟨(a_324 hL).gi hc.1.1 hc.1.2, trivial⟩) ?_
      have hL : LR (m_wr h1 324 v7 x2) := hL.wa (TA.le5 (a_324 hL) (by decide))
      have k_u1 := (KD.wr : KD h1 (m_wr h1 324 v7 x2)).to k_u1
      have k_u2 := (KD.wr : KD h1 (m_wr h1 324 v7 x2)).to k_u2
      have hK := hK.tr (KD.wr : KD h1 (m_wr h1 324 v7 x2))
      have hJ := hJ.tr (KD.wr : KD h1 (m_wr h1 324 v7 x2))
      refine RK.of (RN.blk (ops := [(40, .aload_n 1), (41, .iload 8), (43, .iload_n 3)]) (pc' := 44) (lv' := [(8, .inl (m_rd h (u2 + 5) v7)), (0, .inr (.inr 323)), (1, .inr (.inr u1)), (2, .inr (.inr u2)), (3, .inl u3), (4, .inl u4), (5, .inl u5), (6, .inl v6), (7, .inl v7)]) (st' := [.inl u3, .inl (m_rd h (u2 + 5) v7), .inr (.inr u1)]) (h' := (m_wr h1 324 v7 x2)) (cs := []) (by decide +kernel) rfl trivial) ?_
      obtain ⟨x4, h3, hG, hF⟩ := bd_of hF
      have hq := rcv_ok (as := [.inl (m_rd h (u2 + 5) v7), .inl u3]) (TO.gk k_u1)
      obtain ⟨hN, hL, hQ⟩ := DX8_prefixOf (d := d + 1) hL k_u1 hG
      refine RK.of (RN.cv (i := 114) (k := 86) (q2 := iX8_prefixOf) (as := [.inr (.inr u1), .inl (m_rd h (u2 + 5) v7), .inl u3]) (r := []) (v := some (.inl x4)) (h1 := h3) (by decide +kernel) rfl rfl rfl rfl rfl hq hN) ?_
      have k_u1 := hQ.to k_u1
      have k_u2 := hQ.to k_u2
      have hK := hK.tr hQ
      have hJ := hJ.tr hQ
      refine RK.of (RN.blk (ops := [(47, .iload 4)]) (pc' := 49) (lv' := [(8, .inl (m_rd h (u2 + 5) v7)), (0, .inr (.inr 323)), (1, .inr (.inr u1)), (2, .inr (.inr u2)), (3, .inl u3), (4, .inl u4), (5, .inl u5), (6, .inl v6), (7, .inl v7)]) (st' := [.inl u4, .inl x4]) (h' := h3) (cs := []) (by decide +kernel) rfl trivial) ?_
      rcases it_of hF with ⟨hb, hF⟩ | ⟨hb, hF⟩
      · refine RK.of (RN.icf (cd := .ne) (off := 28) (tgt := 77) (by decide +kernel) (mif_nen hb)) ?_
        refine RK.of (RN.blk (ops := [(52, .aload_n 0)]) (pc' := 53) (lv' := [(8, .inl (m_rd h (u2 + 5) v7)), (0, .inr (.inr 323)), (1, .inr (.inr u1)), (2, .inr (.inr u2)), (3, .inl u3), (4, .inl u4), (5, .inl u5), (6, .inl v6), (7, .inl v7)]) (st' := [.inr (.inr 323)]) (h' := h3) (cs := []) (by decide +kernel) rfl trivial) ?_
        refine RK.of (RN.gr (i := 23) (ci := 0) (k := 8) (fn := true) (v := 298) (by decide +kernel) rfl (TO.gk (o_323 hL)) (hL.fo (v := 298) 8 1 (o_323 hL) rfl (by decide) rfl).1) ?_
        refine RK.of (RN.blk (ops := [(56, .iload 8)]) (pc' := 58) (lv' := [(8, .inl (m_rd h (u2 + 5) v7)), (0, .inr (.inr 323)), (1, .inr (.inr u1)), (2, .inr (.inr u2)), (3, .inl u3), (4, .inl u4), (5, .inl u5), (6, .inl v6), (7, .inl v7)]) (st' := [.inl (m_rd h (u2 + 5) v7), .inr (.inr 298)]) (h' := h3) (cs := []) (by decide +kernel) rfl trivial) ?_
        obtain ⟨x6, h5, hG, hF⟩ := bd_of hF
        have hq := rcv_ok (as := [.inl (m_rd h (u2 + 5) v7)]) (TO.gk (o_298 hL))
        obtain ⟨hN, hL, hQ⟩ := DX1_digitsFor (d := d) hL  hG
        refine RK.of (RN.cv (i := 118) (k := 16) (q2 := iX1_digitsFor) (as := [.inr (.inr 298), .inl (m_rd h (u2 + 5) v7)]) (r := []) (v := some (.inl x6)) (h1 := h5) (by decide +kernel) rfl rfl rfl rfl rfl hq hN) ?_
        have k_u1 := hQ.to k_u1
        have k_u2 := hQ.to k_u2
        have hK := hK.tr hQ
        have hJ := hJ.tr hQ
        refine RK.of (RN.blk (ops := [(61, .iload_n 3)]) (pc' := 62) (lv' := [(8, .inl (m_rd h (u2 + 5) v7)), (0, .inr (.inr 323)), (1, .inr (.inr u1)), (2, .inr (.inr u2)), (3, .inl u3), (4, .inl u4), (5, .inl u5), (6, .inl v6), (7, .inl v7)]) (st' := [.inl u3, .inl x6]) (h' := h5) (cs := []) (by decide +kernel) rfl trivial) ?_
        rcases it_of hF with ⟨hb, hF⟩ | ⟨hb, hF⟩
        · refine RK.of (RN.ict (cd := .gt) (off := 15) (tgt := 77) (by decide +kernel) (mif_gt hb)) ?_
          refine RK.of (RN.blk (ops := [(77, .iinc 7 1)]) (pc' := 80) (lv' := [(7, .inl (m_w32 (v7 + 1))), (8, .inl (m_rd h (u2 + 5) v7)), (0, .inr (.inr 323)), (1, .inr (.inr u1)), (2, .inr (.inr u2)), (3, .inl u3), (4, .inl u4), (5, .inl u5), (6, .inl v6)]) (st' := []) (h' := h5) (cs := []) (by decide +kernel) rfl trivial) ?_
          refine RK.of (RN.goto (off := -74) (tgt := 6) (by decide +kernel)) ?_
          exact RK.sub (ih _ _ _ hL hJ hF) (sub_cons rfl (sub_cons rfl (sub_cons rfl (sub_cons rfl (sub_cons rfl (sub_cons rfl (sub_cons rfl (sub_cons rfl sub_nil))))))))
        · refine RK.of (RN.icf (cd := .gt) (off := 15) (tgt := 77) (by decide +kernel) (mif_gtn hb)) ?_
          refine RK.of (RN.blk (ops := [(65, .aload_n 0)]) (pc' := 66) (lv' := [(8, .inl (m_rd h (u2 + 5) v7)), (0, .inr (.inr 323)), (1, .inr (.inr u1)), (2, .inr (.inr u2)), (3, .inl u3), (4, .inl u4), (5, .inl u5), (6, .inl v6), (7, .inl v7)]) (st' := [.inr (.inr 323)]) (h' := h5) (cs := []) (by decide +kernel) rfl trivial) ?_
          refine RK.of (RN.gr (i := 9) (ci := 0) (k := 9) (fn := true) (v := 324) (by decide +kernel) rfl (TO.gk (o_323 hL)) (hL.fa (v := 324) 9 1 20 (o_323 hL) rfl (by decide) rfl (by decide)).1) ?_
          obtain ⟨hc, hF⟩ := gd_of hF
          refine RK.of (RN.blk (ops := [(69, .iload 7), (71, .iload 5), (73, .iastore)]) (pc' := 74) (lv' := [(8, .inl (m_rd h (u2 + 5) v7)), (0, .inr (.inr 323)), (1, .inr (.inr u1)), (2, .inr (.inr u2)), (3, .inl u3), (4, .inl u4), (5, .inl u5), (6, .inl v6), (7, .inl v7)]) (st' := []) (h' := (m_wr h5 324 v7 u5)) (cs := [GI h5 324 1 v7]) (by decide +kernel) rfl ⟨(a_324 hL).gi hc.1.1 hc.1.2, trivial⟩) ?_
          have hL : LR (m_wr h5 324 v7 u5) := hL.wa (TA.le5 (a_324 hL) (by decide))
          have k_u1 := (KD.wr : KD h5 (m_wr h5 324 v7 u5)).to k_u1
          have k_u2 := (KD.wr : KD h5 (m_wr h5 324 v7 u5)).to k_u2
          have hK := hK.tr (KD.wr : KD h5 (m_wr h5 324 v7 u5))
          have hJ := hJ.tr (KD.wr : KD h5 (m_wr h5 324 v7 u5))
          refine RK.of (RN.blk (ops := [(74, .iconst 1), (75, .istore 6)]) (pc' := 77) (lv' := [(6, .inl 1), (8, .inl (m_rd h (u2 + 5) v7)), (0, .inr (.inr 323)), (1, .inr (.inr u1)), (2, .inr (.inr u2)), (3, .inl u3), (4, .inl u4), (5, .inl u5), (7, .inl v7)]) (st' := []) (h' := (m_wr h5 324 v7 u5)) (cs := []) (by decide +kernel) rfl trivial) ?_
          refine RK.of (RN.blk (ops := [(77, .iinc 7 1)]) (pc' := 80) (lv' := [(7, .inl (m_w32 (v7 + 1))), (6, .inl 1), (8, .inl (m_rd h (u2 + 5) v7)), (0, .inr (.inr 323)), (1, .inr (.inr u1)), (2, .inr (.inr u2)), (3, .inl u3), (4, .inl u4), (5, .inl u5)]) (st' := []) (h' := (m_wr h5 324 v7 u5)) (cs := []) (by decide +kernel) rfl trivial) ?_
          refine RK.of (RN.goto (off := -74) (tgt := 6) (by decide +kernel)) ?_
          exact RK.sub (ih _ _ _ hL hJ hF) (sub_cons rfl (sub_cons rfl (sub_cons rfl (sub_cons rfl (sub_cons rfl (sub_cons rfl (sub_cons rfl (sub_cons rfl sub_nil))))))))
      · refine RK.of (RN.ict (cd := .ne) (off := 28) (tgt := 77) (by decide +kernel) (mif_ne hb)) ?_
        refine RK.of (RN.blk (ops := [(77, .iinc 7 1)]) (pc' := 80) (lv' := [(7, .inl (m_w32 (v7 + 1))), (8, .inl (m_rd h (u2 + 5) v7)), (0, .inr (.inr 323)), (1, .inr (.inr u1)), (2, .inr (.inr u2)), (3, .inl u3), (4, .inl u4), (5, .inl u5), (6, .inl v6)]) (st' := []) (h' := h3) (cs := []) (by decide +kernel) rfl trivial) ?_
        refine RK.of (RN.goto (off := -74) (tgt := 6) (by decide +kernel)) ?_
        exact RK.sub (ih _ _ _ hL hJ hF) (sub_cons rfl (sub_cons rfl (sub_cons rfl (sub_cons rfl (sub_cons rfl (sub_cons rfl (sub_cons rfl (sub_cons rfl sub_nil))))))))
    · refine RK.of (RN.ict (cd := .ge) (off := 71) (tgt := 83) (by decide +kernel) (mif_ge hb)) ?_
      exact RK.sub (hK0 _ _ hL hJ hF) (sub_cons rfl sub_nil)
noncomputable def GX0_sendByEntry (a1 : Int) (a2 : Int) (a3 : Int) (a4 : Int) (a5 : Int) (h : MH) : Option (Int × MH) :=
  GX0_sendByEntry_L6 a1 a2 a3 a4 a5 (fun w1 h2 =>
   gd [GT w1] (some (w1, h2))) FU 0 0 h
theorem DX0_sendByEntry {d : Nat} {a1 : Int} {a2 : Int} {a3 : Int} {a4 : Int} {a5 : Int} {h : MH} {r : Int × MH} (hL : LR h) (k0_a1 : TO h a1 8) (k0_a2 : TO h a2 10) (hF : GX0_sendByEntry a1 a2 a3 a4 a5 h = some r) : RN xs L iX0_sendByEntry (d + 3) 0 (lvE 0 [.inr (.inr 323), .inr (.inr a1), .inr (.inr a2), .inl a3, .inl a4, .inl a5]) [] h (RIo r) ∧ LR r.2 ∧ KD h r.2 := by
  unfold GX0_sendByEntry at hF
  have hK : KD h h := KD.rf
  have k_a1 := k0_a1
  have k_a2 := k0_a2
  show RK xs L iX0_sendByEntry (d + 3) 0 (lvE 0 [.inr (.inr 323), .inr (.inr a1), .inr (.inr a2), .inl a3, .inl a4, .inl a5]) [] h (RIo r) h r.2
  refine RK.of (RN.blk (ops := [(0, .iconst 0), (1, .istore 6), (3, .iconst 0), (4, .istore 7)]) (pc' := 6) (lv' := [(7, .inl 0), (6, .inl 0), (0, .inr (.inr 323)), (1, .inr (.inr a1)), (2, .inr (.inr a2)), (3, .inl a3), (4, .inl a4), (5, .inl a5)]) (st' := []) (h' := h) (cs := []) (by decide +kernel) rfl trivial) ?_
  refine RK.sub (DX0_sendByEntry_L6 hK k_a1 k_a2 ?_ _ _ _ _ hL KD.rf hF) (sub_cons rfl (sub_cons rfl (sub_cons rfl (sub_cons rfl (sub_cons rfl (sub_cons rfl (sub_cons rfl (sub_cons rfl sub_nil))))))))
  · intro w1 h2 hL hq hF
    have k_a1 := hq.to k_a1
    have k_a2 := hq.to k_a2
    have hK := hK.tr hq
    refine RK.of (RN.blk (ops := [(83, .iload 6)]) (pc' := 85) (lv' := [(6, .inl w1)]) (st' := [.inl w1]) (h' := h2) (cs := []) (by decide +kernel) rfl trivial) ?_
    obtain ⟨hc, hF⟩ := gd_of hF
    exact RK.zR (by decide +kernel) rfl hc.1 hL hK hF
noncomputable def GX0_tryPrefix_L3 (u1 : Int) (u2 : Int) (u3 : Int) (u4 : Int) (K0 : MH → Option (MH)) (K1 : MH → Option (MH)) : Nat → Int → MH → Option (MH)
  | 0, _, _ => none
  | f + 1, v5, h =>
    (if v5 < (m_rd h u1 2) then
     (bd (GX0_sendByEntry u1 u2 u3 u4 v5 h) (fun x2 h1 =>
      (if x2 = 0 then
       K0 h1
      else
       (bv (GX0_tryGoals u1 u2 h1) (fun h3 =>
        jn (
         hl (m_wr (m_wr h3 323 0 (m_rd h3 323 12)) 323 1 (m_rd (m_wr h3 323 0 (m_rd h3 323 12)) 323 13)) (fun h5 =>
          GX0_tryPrefix_L3 u1 u2 u3 u4 K0 K1 f (m_w32 (v5 + 1)) (m_wr (m_wr (m_wr h5 323 2 u3) 323 3 u4) 323 4 v5))) (fun j4 =>
         (if (m_rd h3 323 12) < (m_rd h3 323 0) then
          j4
         else
          (if (m_rd h3 323 12) = (m_rd h3 323 0) then
           (if (m_rd h3 323 13) < (m_rd h3 323 1) then
            j4
           else
            GX0_tryPrefix_L3 u1 u2 u3 u4 K0 K1 f (m_w32 (v5 + 1)) h3)
          else
           GX0_tryPrefix_L3 u1 u2 u3 u4 K0 K1 f (m_w32 (v5 + 1)) h3))))))))
    else
     K1 h)
theorem DX0_tryPrefix_L3 {d : Nat} {u1 : Int} {u2 : Int} {u3 : Int} {u4 : Int} {K0 : MH → Option (MH)} {K1 : MH → Option (MH)} {r : MH} {h0 hB : MH} (hB0 : KD h0 hB) (k0_u1 : TO hB u1 8) (k0_u2 : TO hB u2 10) (hK0 : ∀ (h : MH), LR h → KD hB h → K0 h = some r → RK xs L iX0_tryPrefix (d + 4) 26 [] [] h (RVo r) h0 r) (hK1 : ∀ (h : MH), LR h → KD hB h → K1 h = some r → RK xs L iX0_tryPrefix (d + 4) 105 [] [] h (RVo r) h0 r) : ∀ (f : Nat) (v5 : Int) (h : MH), LR h → KD hB h → GX0_tryPrefix_L3 u1 u2 u3 u4 K0 K1 f v5 h = some r → RK xs L iX0_tryPrefix (d + 4) 3 [(0, .inr (.inr 323)), (1, .inr (.inr u1)), (2, .inr (.inr u2)), (3, .inl u3), (4, .inl u4), (5, .inl v5)] [] h (RVo r) h0 r := by
  intro f
  induction f with
  | zero =>
    intro v5 h hL hJ hF
    cases hF
  | succ f ih =>
    intro v5 h hL hJ hF
    unfold GX0_tryPrefix_L3 at hF
    have hK := hB0.tr hJ
    have k_u1 := hJ.to k0_u1
    have k_u2 := hJ.to k0_u2
    refine RK.of (RN.blk (ops := [(3, .iload 5), (5, .aload_n 1), (6, .getfield 107)]) (pc' := 9) (lv' := [(0, .inr (.inr 323)), (1, .inr (.inr u1)), (2, .inr (.inr u2)), (3, .inl u3), (4, .inl u4), (5, .inl v5)]) (st' := [.inl (m_rd h u1 2), .inl v5]) (h' := h) (cs := [GK h u1 8]) (by decide +kernel) rfl ⟨k_u1.gk, trivial⟩) ?_
    rcases it_of hF with ⟨hb, hF⟩ | ⟨hb, hF⟩
    · refine RK.of (RN.icf (cd := .ge) (off := 96) (tgt := 105) (by decide +kernel) (mif_gen hb)) ?_
      refine RK.of (RN.blk (ops := [(12, .aload_n 0), (13, .aload_n 1), (14, .aload_n 2), (15, .iload_n 3), (16, .iload 4), (18, .iload 5)]) (pc' := 20) (lv' := [(0, .inr (.inr 323)), (1, .inr (.inr u1)), (2, .inr (.inr u2)), (3, .inl u3), (4, .inl u4), (5, .inl v5)]) (st' := [.inl v5, .inl u4, .inl u3, .inr (.inr u2), .inr (.inr u1), .inr (.inr 323)]) (h' := h) (cs := []) (by decide +kernel) rfl trivial) ?_
      obtain ⟨x2, h1, hG, hF⟩ := bd_of hF
      have hq := rcv_ok (as := [.inr (.inr u1), .inr (.inr u2), .inl u3, .inl u4, .inl v5]) (TO.gk (o_323 hL))
      obtain ⟨hN, hL, hQ⟩ := DX0_sendByEntry (d := d) hL k_u1 k_u2 hG
      refine RK.of (RN.cv (i := 110) (k := 5) (q2 := iX0_sendByEntry) (as := [.inr (.inr 323), .inr (.inr u1), .inr (.inr u2), .inl u3, .inl u4, .inl v5]) (r := []) (v := some (.inl x2)) (h1 := h1) (by decide +kernel) rfl rfl rfl rfl rfl hq hN) ?_
      have k_u1 := hQ.to k_u1
      have k_u2 := hQ.to k_u2
      have hK := hK.tr hQ
      have hJ := hJ.tr hQ
      rcases it_of hF with ⟨hb, hF⟩ | ⟨hb, hF⟩
      · refine RK.of (RN.iff (cd := .ne) (off := 4) (tgt := 27) (by decide +kernel) (mif_nen hb)) ?_
        exact RK.sub (hK0 _ hL hJ hF) sub_nil
      · refine RK.of (RN.ift (cd := .ne) (off := 4) (tgt := 27) (by decide +kernel) (mif_ne hb)) ?_
        refine RK.of (RN.blk (ops := [(27, .aload_n 0), (28, .aload_n 1), (29, .aload_n 2)]) (pc' := 30) (lv' := [(0, .inr (.inr 323)), (1, .inr (.inr u1)), (2, .inr (.inr u2)), (3, .inl u3), (4, .inl u4), (5, .inl v5)]) (st' := [.inr (.inr u2), .inr (.inr u1), .inr (.inr 323)]) (h' := h1) (cs := []) (by decide +kernel) rfl trivial) ?_
        obtain ⟨h3, hG, hF⟩ := bv_of hF
        have hq := rcv_ok (as := [.inr (.inr u1), .inr (.inr u2)]) (TO.gk (o_323 hL))
        obtain ⟨hN, hL, hQ⟩ := DX0_tryGoals (d := d + 2) hL k_u1 k_u2 hG
        refine RK.of (RN.cv (i := 64) (k := 1) (q2 := iX0_tryGoals) (as := [.inr (.inr 323), .inr (.inr u1), .inr (.inr u2)]) (r := []) (v := none) (h1 := h3) (by decide +kernel) rfl rfl rfl rfl rfl hq hN) ?_
        have k_u1 := hQ.to k_u1
        have k_u2 := hQ.to k_u2
        have hK := hK.tr hQ
        have hJ := hJ.tr hQ
        refine RK.of (RN.blk (ops := [(33, .aload_n 0), (34, .getfield 27), (37, .aload_n 0), (38, .getfield 68)]) (pc' := 41) (lv' := [(0, .inr (.inr 323)), (1, .inr (.inr u1)), (2, .inr (.inr u2)), (3, .inl u3), (4, .inl u4), (5, .inl v5)]) (st' := [.inl (m_rd h3 323 0), .inl (m_rd h3 323 12)]) (h' := h3) (cs := [GK h3 323 0, GK h3 323 0]) (by decide +kernel) rfl ⟨(o_323 hL).gk, (o_323 hL).gk, trivial⟩) ?_
        refine jn_use (fun j4 => j4 = some r → RK xs L iX0_tryPrefix (d + 4) 66 [(0, .inr (.inr 323)), (1, .inr (.inr u1)), (2, .inr (.inr u2)), (3, .inl u3), (4, .inl u4), (5, .inl v5)] [] h3 (RVo r) h0 r) ?_ ?_ hF
        · intro  hF
          refine RK.of (RN.blk (ops := [(66, .aload_n 0), (67, .aload_n 0), (68, .getfield 27), (71, .putfield 68)]) (pc' := 74) (lv' := [(0, .inr (.inr 323)), (1, .inr (.inr u1)), (2, .inr (.inr u2)), (3, .inl u3), (4, .inl u4), (5, .inl v5)]) (st' := []) (h' := (m_wr h3 323 0 (m_rd h3 323 12))) (cs := [GK h3 323 0, GK h3 323 0]) (by decide +kernel) rfl ⟨(o_323 hL).gk, (o_323 hL).gk, trivial⟩) ?_
          have hL : LR (m_wr h3 323 0 (m_rd h3 323 12)) := LR.wf (k := 0) hL (o_323 hL) rfl
          have k_u1 := (KD.wr : KD h3 (m_wr h3 323 0 (m_rd h3 323 12))).to k_u1
          have k_u2 := (KD.wr : KD h3 (m_wr h3 323 0 (m_rd h3 323 12))).to k_u2
          have hK := hK.tr (KD.wr : KD h3 (m_wr h3 323 0 (m_rd h3 323 12)))
          have hJ := hJ.tr (KD.wr : KD h3 (m_wr h3 323 0 (m_rd h3 323 12)))
          refine RK.of (RN.blk (ops := [(74, .aload_n 0), (75, .aload_n 0), (76, .getfield 31), (79, .putfield 71)]) (pc' := 82) (lv' := [(0, .inr (.inr 323)), (1, .inr (.inr u1)), (2, .inr (.inr u2)), (3, .inl u3), (4, .inl u4), (5, .inl v5)]) (st' := []) (h' := (m_wr (m_wr h3 323 0 (m_rd h3 323 12)) 323 1 (m_rd (m_wr h3 323 0 (m_rd h3 323 12)) 323 13))) (cs := [GK (m_wr h3 323 0 (m_rd h3 323 12)) 323 0, GK (m_wr h3 323 0 (m_rd h3 323 12)) 323 0]) (by decide +kernel) rfl ⟨(o_323 hL).gk, (o_323 hL).gk, trivial⟩) ?_
          have hL : LR (m_wr (m_wr h3 323 0 (m_rd h3 323 12)) 323 1 (m_rd (m_wr h3 323 0 (m_rd h3 323 12)) 323 13)) := LR.wf (k := 1) hL (o_323 hL) rfl
          have k_u1 := (KD.wr : KD (m_wr h3 323 0 (m_rd h3 323 12)) (m_wr (m_wr h3 323 0 (m_rd h3 323 12)) 323 1 (m_rd (m_wr h3 323 0 (m_rd h3 323 12)) 323 13))).to k_u1
          have k_u2 := (KD.wr : KD (m_wr h3 323 0 (m_rd h3 323 12)) (m_wr (m_wr h3 323 0 (m_rd h3 323 12)) 323 1 (m_rd (m_wr h3 323 0 (m_rd h3 323 12)) 323 13))).to k_u2
          have hK := hK.tr (KD.wr : KD (m_wr h3 323 0 (m_rd h3 323 12)) (m_wr (m_wr h3 323 0 (m_rd h3 323 12)) 323 1 (m_rd (m_wr h3 323 0 (m_rd h3 323 12)) 323 13)))
          have hJ := hJ.tr (KD.wr : KD (m_wr h3 323 0 (m_rd h3 323 12)) (m_wr (m_wr h3 323 0 (m_rd h3 323 12)) 323 1 (m_rd (m_wr h3 323 0 (m_rd h3 323 12)) 323 13)))
          obtain ⟨h5, he, hF⟩ := hl_of hF
          refine RK.of (RN.hl he) ?_
          rw [← he] at hL hK hJ k_u1 k_u2
          refine RK.of (RN.blk (ops := [(82, .aload_n 0), (83, .iload_n 3), (84, .putfield 74)]) (pc' := 87) (lv' := [(0, .inr (.inr 323)), (1, .inr (.inr u1)), (2, .inr (.inr u2)), (3, .inl u3), (4, .inl u4), (5, .inl v5)]) (st' := []) (h' := (m_wr h5 323 2 u3)) (cs := [GK h5 323 0]) (by decide +kernel) rfl ⟨(o_323 hL).gk, trivial⟩) ?_
          have hL : LR (m_wr h5 323 2 u3) := LR.wf (k := 2) hL (o_323 hL) rfl
          have k_u1 := (KD.wr : KD h5 (m_wr h5 323 2 u3)).to k_u1
          have k_u2 := (KD.wr : KD h5 (m_wr h5 323 2 u3)).to k_u2
          have hK := hK.tr (KD.wr : KD h5 (m_wr h5 323 2 u3))
          have hJ := hJ.tr (KD.wr : KD h5 (m_wr h5 323 2 u3))
          refine RK.of (RN.blk (ops := [(87, .aload_n 0), (88, .iload 4), (90, .putfield 77)]) (pc' := 93) (lv' := [(0, .inr (.inr 323)), (1, .inr (.inr u1)), (2, .inr (.inr u2)), (3, .inl u3), (4, .inl u4), (5, .inl v5)]) (st' := []) (h' := (m_wr (m_wr h5 323 2 u3) 323 3 u4)) (cs := [GK (m_wr h5 323 2 u3) 323 0]) (by decide +kernel) rfl ⟨(o_323 hL).gk, trivial⟩) ?_
          have hL : LR (m_wr (m_wr h5 323 2 u3) 323 3 u4) := LR.wf (k := 3) hL (o_323 hL) rfl
          have k_u1 := (KD.wr : KD (m_wr h5 323 2 u3) (m_wr (m_wr h5 323 2 u3) 323 3 u4)).to k_u1
          have k_u2 := (KD.wr : KD (m_wr h5 323 2 u3) (m_wr (m_wr h5 323 2 u3) 323 3 u4)).to k_u2
          have hK := hK.tr (KD.wr : KD (m_wr h5 323 2 u3) (m_wr (m_wr h5 323 2 u3) 323 3 u4))
          have hJ := hJ.tr (KD.wr : KD (m_wr h5 323 2 u3) (m_wr (m_wr h5 323 2 u3) 323 3 u4))
          refine RK.of (RN.blk (ops := [(93, .aload_n 0), (94, .iload 5), (96, .putfield 80)]) (pc' := 99) (lv' := [(0, .inr (.inr 323)), (1, .inr (.inr u1)), (2, .inr (.inr u2)), (3, .inl u3), (4, .inl u4), (5, .inl v5)]) (st' := []) (h' := (m_wr (m_wr (m_wr h5 323 2 u3) 323 3 u4) 323 4 v5)) (cs := [GK (m_wr (m_wr h5 323 2 u3) 323 3 u4) 323 0]) (by decide +kernel) rfl ⟨(o_323 hL).gk, trivial⟩) ?_
          have hL : LR (m_wr (m_wr (m_wr h5 323 2 u3) 323 3 u4) 323 4 v5) := LR.wf (k := 4) hL (o_323 hL) rfl
          have k_u1 := (KD.wr : KD (m_wr (m_wr h5 323 2 u3) 323 3 u4) (m_wr (m_wr (m_wr h5 323 2 u3) 323 3 u4) 323 4 v5)).to k_u1
          have k_u2 := (KD.wr : KD (m_wr (m_wr h5 323 2 u3) 323 3 u4) (m_wr (m_wr (m_wr h5 323 2 u3) 323 3 u4) 323 4 v5)).to k_u2
          have hK := hK.tr (KD.wr : KD (m_wr (m_wr h5 323 2 u3) 323 3 u4) (m_wr (m_wr (m_wr h5 323 2 u3) 323 3 u4) 323 4 v5))
          have hJ := hJ.tr (KD.wr : KD (m_wr (m_wr h5 323 2 u3) 323 3 u4) (m_wr (m_wr (m_wr h5 323 2 u3) 323 3 u4) 323 4 v5))
          refine RK.of (RN.blk (ops := [(99, .iinc 5 1)]) (pc' := 102) (lv' := [(5, .inl (m_w32 (v5 + 1))), (0, .inr (.inr 323)), (1, .inr (.inr u1)), (2, .inr (.inr u2)), (3, .inl u3), (4, .inl u4)]) (st' := []) (h' := (m_wr (m_wr (m_wr h5 323 2 u3) 323 3 u4) 323 4 v5)) (cs := []) (by decide +kernel) rfl trivial) ?_
          refine RK.of (RN.goto (off := -99) (tgt := 3) (by decide +kernel)) ?_
          exact RK.sub (ih _ _ hL hJ hF) (sub_cons rfl (sub_cons rfl (sub_cons rfl (sub_cons rfl (sub_cons rfl (sub_cons rfl sub_nil))))))
        · intro j4 Jj4 hF
          rcases it_of hF with ⟨hb, hF⟩ | ⟨hb, hF⟩
          · refine RK.of (RN.ict (cd := .lt) (off := 25) (tgt := 66) (by decide +kernel) (mif_lt hb)) ?_
            exact RK.sub (Jj4 hF) (sub_cons rfl (sub_cons rfl (sub_cons rfl (sub_cons rfl (sub_cons rfl (sub_cons rfl sub_nil))))))
          · refine RK.of (RN.icf (cd := .lt) (off := 25) (tgt := 66) (by decide +kernel) (mif_ltn hb)) ?_
            refine RK.of (RN.blk (ops := [(44, .aload_n 0), (45, .getfield 27), (48, .aload_n 0), (49, .getfield 68)]) (pc' := 52) (lv' := [(0, .inr (.inr 323)), (1, .inr (.inr u1)), (2, .inr (.inr u2)), (3, .inl u3), (4, .inl u4), (5, .inl v5)]) (st' := [.inl (m_rd h3 323 0), .inl (m_rd h3 323 12)]) (h' := h3) (cs := [GK h3 323 0, GK h3 323 0]) (by decide +kernel) rfl ⟨(o_323 hL).gk, (o_323 hL).gk, trivial⟩) ?_
            rcases it_of hF with ⟨hb, hF⟩ | ⟨hb, hF⟩
            · refine RK.of (RN.icf (cd := .ne) (off := 47) (tgt := 99) (by decide +kernel) (mif_nen hb)) ?_
              refine RK.of (RN.blk (ops := [(55, .aload_n 0), (56, .getfield 31), (59, .aload_n 0), (60, .getfield 71)]) (pc' := 63) (lv' := [(0, .inr (.inr 323)), (1, .inr (.inr u1)), (2, .inr (.inr u2)), (3, .inl u3), (4, .inl u4), (5, .inl v5)]) (st' := [.inl (m_rd h3 323 1), .inl (m_rd h3 323 13)]) (h' := h3) (cs := [GK h3 323 0, GK h3 323 0]) (by decide +kernel) rfl ⟨(o_323 hL).gk, (o_323 hL).gk, trivial⟩) ?_
              rcases it_of hF with ⟨hb, hF⟩ | ⟨hb, hF⟩
              · refine RK.of (RN.icf (cd := .ge) (off := 36) (tgt := 99) (by decide +kernel) (mif_gen hb)) ?_
                exact RK.sub (Jj4 hF) (sub_cons rfl (sub_cons rfl (sub_cons rfl (sub_cons rfl (sub_cons rfl (sub_cons rfl sub_nil))))))
              · refine RK.of (RN.ict (cd := .ge) (off := 36) (tgt := 99) (by decide +kernel) (mif_ge hb)) ?_
                refine RK.of (RN.blk (ops := [(99, .iinc 5 1)]) (pc' := 102) (lv' := [(5, .inl (m_w32 (v5 + 1))), (0, .inr (.inr 323)), (1, .inr (.inr u1)), (2, .inr (.inr u2)), (3, .inl u3), (4, .inl u4)]) (st' := []) (h' := h3) (cs := []) (by decide +kernel) rfl trivial) ?_
                refine RK.of (RN.goto (off := -99) (tgt := 3) (by decide +kernel)) ?_
                exact RK.sub (ih _ _ hL hJ hF) (sub_cons rfl (sub_cons rfl (sub_cons rfl (sub_cons rfl (sub_cons rfl (sub_cons rfl sub_nil))))))
            · refine RK.of (RN.ict (cd := .ne) (off := 47) (tgt := 99) (by decide +kernel) (mif_ne hb)) ?_
              refine RK.of (RN.blk (ops := [(99, .iinc 5 1)]) (pc' := 102) (lv' := [(5, .inl (m_w32 (v5 + 1))), (0, .inr (.inr 323)), (1, .inr (.inr u1)), (2, .inr (.inr u2)), (3, .inl u3), (4, .inl u4)]) (st' := []) (h' := h3) (cs := []) (by decide +kernel) rfl trivial) ?_
              refine RK.of (RN.goto (off := -99) (tgt := 3) (by decide +kernel)) ?_
              exact RK.sub (ih _ _ hL hJ hF) (sub_cons rfl (sub_cons rfl (sub_cons rfl (sub_cons rfl (sub_cons rfl (sub_cons rfl sub_nil))))))
    · refine RK.of (RN.ict (cd := .ge) (off := 96) (tgt := 105) (by decide +kernel) (mif_ge hb)) ?_
      exact RK.sub (hK1 _ hL hJ hF) sub_nil
noncomputable def GX0_tryPrefix (a1 : Int) (a2 : Int) (a3 : Int) (a4 : Int) (h : MH) : Option (MH) :=
  GX0_tryPrefix_L3 a1 a2 a3 a4 (fun h1 =>
   some h1) (fun h2 =>
   some h2) FU 0 h
theorem DX0_tryPrefix {d : Nat} {a1 : Int} {a2 : Int} {a3 : Int} {a4 : Int} {h : MH} {r : MH} (hL : LR h) (k0_a1 : TO h a1 8) (k0_a2 : TO h a2 10) (hF : GX0_tryPrefix a1 a2 a3 a4 h = some r) : RN xs L iX0_tryPrefix (d + 4) 0 (lvE 0 [.inr (.inr 323), .inr (.inr a1), .inr (.inr a2), .inl a3, .inl a4]) [] h (RVo r) ∧ LR r ∧ KD h r := by
  unfold GX0_tryPrefix at hF
  have hK : KD h h := KD.rf
  have k_a1 := k0_a1
  have k_a2 := k0_a2
  show RK xs L iX0_tryPrefix (d + 4) 0 (lvE 0 [.inr (.inr 323), .inr (.inr a1), .inr (.inr a2), .inl a3, .inl a4]) [] h (RVo r) h r
  refine RK.of (RN.blk (ops := [(0, .iconst 0), (1, .istore 5)]) (pc' := 3) (lv' := [(5, .inl 0), (0, .inr (.inr 323)), (1, .inr (.inr a1)), (2, .inr (.inr a2)), (3, .inl a3), (4, .inl a4)]) (st' := []) (h' := h) (cs := []) (by decide +kernel) rfl trivial) ?_
  refine RK.sub (DX0_tryPrefix_L3 hK k_a1 k_a2 ?_ ?_ _ _ _ hL KD.rf hF) (sub_cons rfl (sub_cons rfl (sub_cons rfl (sub_cons rfl (sub_cons rfl (sub_cons rfl sub_nil))))))
  · intro h1 hL hq hF
    have k_a1 := hq.to k_a1
    have k_a2 := hq.to k_a2
    have hK := hK.tr hq
    exact RK.vR (by decide +kernel) rfl hL hK hF
  · intro h2 hL hq hF
    have k_a1 := hq.to k_a1
    have k_a2 := hq.to k_a2
    have hK := hK.tr hq
    exact RK.vR (by decide +kernel) rfl hL hK hF
noncomputable def GX4_find_L2 (u0 : Int) (u1 : Int) (u2 : Int) (K0 : Int → MH → Option (Int × MH)) (K1 : MH → Option (Int × MH)) : Nat → Int → MH → Option (Int × MH)
  | 0, _, _ => none
  | f + 1, v3, h =>
    (if v3 < (m_rd h u0 0) then
     gd [IB v3 12] (
      (if (m_rd h (u0 + 1) v3) = u1 then
       gd [IB v3 12] (
        (if (m_rd h (u0 + 2) v3) = u2 then
         K0 v3 h
        else
         GX4_find_L2 u0 u1 u2 K0 K1 f (m_w32 (v3 + 1)) h))
      else
       GX4_find_L2 u0 u1 u2 K0 K1 f (m_w32 (v3 + 1)) h))
    else
     K1 h)
theorem DX4_find_L2 {d : Nat} {u0 : Int} {u1 : Int} {u2 : Int} {K0 : Int → MH → Option (Int × MH)} {K1 : MH → Option (Int × MH)} {r : Int × MH} {h0 hB : MH} (hB0 : KD h0 hB) (k0_u0 : TO hB u0 4) (hK0 : ∀ (w3 : Int) (h : MH), LR h → KD hB h → K0 w3 h = some r → RK xs L iX4_find (d) 30 [(3, .inl w3)] [] h (RIo r) h0 r.2) (hK1 : ∀ (h : MH), LR h → KD hB h → K1 h = some r → RK xs L iX4_find (d) 38 [] [] h (RIo r) h0 r.2) : ∀ (f : Nat) (v3 : Int) (h : MH), LR h → KD hB h → GX4_find_L2 u0 u1 u2 K0 K1 f v3 h = some r → RK xs L iX4_find (d) 2 [(0, .inr (.inr u0)), (1, .inl u1), (2, .inl u2), (3, .inl v3)] [] h (RIo r) h0 r.2 := by
  intro f
  induction f with
  | zero =>
    intro v3 h hL hJ hF
    cases hF
  | succ f ih =>
    intro v3 h hL hJ hF
    unfold GX4_find_L2 at hF
    have hK := hB0.tr hJ
    have k_u0 := hJ.to k0_u0
    refine RK.of (RN.blk (ops := [(2, .iload_n 3), (3, .aload_n 0), (4, .getfield 21)]) (pc' := 7) (lv' := [(0, .inr (.inr u0)), (1, .inl u1), (2, .inl u2), (3, .inl v3)]) (st' := [.inl (m_rd h u0 0), .inl v3]) (h' := h) (cs := [GK h u0 4]) (by decide +kernel) rfl ⟨k_u0.gk, trivial⟩) ?_
    rcases it_of hF with ⟨hb, hF⟩ | ⟨hb, hF⟩
    · refine RK.of (RN.icf (cd := .ge) (off := 31) (tgt := 38) (by decide +kernel) (mif_gen hb)) ?_
      refine RK.of (RN.blk (ops := [(10, .aload_n 0)]) (pc' := 11) (lv' := [(0, .inr (.inr u0)), (1, .inl u1), (2, .inl u2), (3, .inl v3)]) (st' := [.inr (.inr u0)]) (h' := h) (cs := []) (by decide +kernel) rfl trivial) ?_
      refine RK.of (RN.gr (i := 9) (ci := 4) (k := 1) (fn := true) (v := (u0 + 1)) (by decide +kernel) rfl (TO.gk k_u0) (hL.fa (v := (u0 + 1)) 1 1 12 k_u0 rfl rfl rfl (by decide)).1) ?_
      obtain ⟨hc, hF⟩ := gd_of hF
      refine RK.of (RN.blk (ops := [(14, .iload_n 3), (15, .iaload), (16, .iload_n 1)]) (pc' := 17) (lv' := [(0, .inr (.inr u0)), (1, .inl u1), (2, .inl u2), (3, .inl v3)]) (st' := [.inl u1, .inl (m_rd h (u0 + 1) v3)]) (h' := h) (cs := [GI h (u0 + 1) 1 v3]) (by decide +kernel) rfl ⟨(hL.fa 1 1 12 k_u0 rfl rfl rfl (by decide)).2.gi hc.1.1 hc.1.2, trivial⟩) ?_
      rcases it_of hF with ⟨hb, hF⟩ | ⟨hb, hF⟩
      · refine RK.of (RN.icf (cd := .ne) (off := 15) (tgt := 32) (by decide +kernel) (mif_nen hb)) ?_
        refine RK.of (RN.blk (ops := [(20, .aload_n 0)]) (pc' := 21) (lv' := [(0, .inr (.inr u0)), (1, .inl u1), (2, .inl u2), (3, .inl v3)]) (st' := [.inr (.inr u0)]) (h' := h) (cs := []) (by decide +kernel) rfl trivial) ?_
        refine RK.of (RN.gr (i := 15) (ci := 4) (k := 2) (fn := true) (v := (u0 + 2)) (by decide +kernel) rfl (TO.gk k_u0) (hL.fa (v := (u0 + 2)) 2 1 12 k_u0 rfl rfl rfl (by decide)).1) ?_
        obtain ⟨hc, hF⟩ := gd_of hF
        refine RK.of (RN.blk (ops := [(24, .iload_n 3), (25, .iaload), (26, .iload_n 2)]) (pc' := 27) (lv' := [(0, .inr (.inr u0)), (1, .inl u1), (2, .inl u2), (3, .inl v3)]) (st' := [.inl u2, .inl (m_rd h (u0 + 2) v3)]) (h' := h) (cs := [GI h (u0 + 2) 1 v3]) (by decide +kernel) rfl ⟨(hL.fa 2 1 12 k_u0 rfl rfl rfl (by decide)).2.gi hc.1.1 hc.1.2, trivial⟩) ?_
        rcases it_of hF with ⟨hb, hF⟩ | ⟨hb, hF⟩
        · refine RK.of (RN.icf (cd := .ne) (off := 5) (tgt := 32) (by decide +kernel) (mif_nen hb)) ?_
          exact RK.sub (hK0 _ _ hL hJ hF) (sub_cons rfl sub_nil)
        · refine RK.of (RN.ict (cd := .ne) (off := 5) (tgt := 32) (by decide +kernel) (mif_ne hb)) ?_
          refine RK.of (RN.blk (ops := [(32, .iinc 3 1)]) (pc' := 35) (lv' := [(3, .inl (m_w32 (v3 + 1))), (0, .inr (.inr u0)), (1, .inl u1), (2, .inl u2)]) (st' := []) (h' := h) (cs := []) (by decide +kernel) rfl trivial) ?_
          refine RK.of (RN.goto (off := -33) (tgt := 2) (by decide +kernel)) ?_
          exact RK.sub (ih _ _ hL hJ hF) (sub_cons rfl (sub_cons rfl (sub_cons rfl (sub_cons rfl sub_nil))))
      · refine RK.of (RN.ict (cd := .ne) (off := 15) (tgt := 32) (by decide +kernel) (mif_ne hb)) ?_
        refine RK.of (RN.blk (ops := [(32, .iinc 3 1)]) (pc' := 35) (lv' := [(3, .inl (m_w32 (v3 + 1))), (0, .inr (.inr u0)), (1, .inl u1), (2, .inl u2)]) (st' := []) (h' := h) (cs := []) (by decide +kernel) rfl trivial) ?_
        refine RK.of (RN.goto (off := -33) (tgt := 2) (by decide +kernel)) ?_
        exact RK.sub (ih _ _ hL hJ hF) (sub_cons rfl (sub_cons rfl (sub_cons rfl (sub_cons rfl sub_nil))))
    · refine RK.of (RN.ict (cd := .ge) (off := 31) (tgt := 38) (by decide +kernel) (mif_ge hb)) ?_
      exact RK.sub (hK1 _ hL hJ hF) sub_nil
noncomputable def GX4_find (t : Int) (a1 : Int) (a2 : Int) (h : MH) : Option (Int × MH) :=
  GX4_find_L2 t a1 a2 (fun w1 h2 =>
   some (w1, h2)) (fun h3 =>
   some ((-1), h3)) FU 0 h
theorem DX4_find {d : Nat} {t : Int} {a1 : Int} {a2 : Int} {h : MH} {r : Int × MH} (hL : LR h) (k0_t : TO h t 4) (hF : GX4_find t a1 a2 h = some r) : RN xs L iX4_find (d) 0 (lvE 0 [.inr (.inr t), .inl a1, .inl a2]) [] h (RIo r) ∧ LR r.2 ∧ KD h r.2 := by
  unfold GX4_find at hF
  have hK : KD h h := KD.rf
  have k_t := k0_t
  show RK xs L iX4_find (d) 0 (lvE 0 [.inr (.inr t), .inl a1, .inl a2]) [] h (RIo r) h r.2
  refine RK.of (RN.blk (ops := [(0, .iconst 0), (1, .istore_n 3)]) (pc' := 2) (lv' := [(3, .inl 0), (0, .inr (.inr t)), (1, .inl a1), (2, .inl a2)]) (st' := []) (h' := h) (cs := []) (by decide +kernel) rfl trivial) ?_
  refine RK.sub (DX4_find_L2 hK k_t ?_ ?_ _ _ _ hL KD.rf hF) (sub_cons rfl (sub_cons rfl (sub_cons rfl (sub_cons rfl sub_nil))))
  · intro w1 h2 hL hq hF
    have k_t := hq.to k_t
    have hK := hK.tr hq
    refine RK.of (RN.blk (ops := [(30, .iload_n 3)]) (pc' := 31) (lv' := [(3, .inl w1)]) (st' := [.inl w1]) (h' := h2) (cs := []) (by decide +kernel) rfl trivial) ?_
    exact RK.iR (by decide +kernel) rfl hL hK hF
  · intro h3 hL hq hF
    have k_t := hq.to k_t
    have hK := hK.tr hq
    refine RK.of (RN.blk (ops := [(38, .iconst (-1))]) (pc' := 39) (lv' := []) (st' := [.inl (-1)]) (h' := h3) (cs := []) (by decide +kernel) rfl trivial) ?_
    exact RK.iR (by decide +kernel) rfl hL hK hF
noncomputable def GX4_canTake (t : Int) (a1 : Int) (a2 : Int) (h : MH) : Option (Int × MH) :=
  (if (m_rd h t 0) < 12 then
   some (1, h)
  else
   (bd (GX4_find t a1 a2 h) (fun x2 h1 =>
    (if x2 = (-1) then
     some (0, h1)
    else
     some (1, h1)))))
theorem DX4_canTake {d : Nat} {t : Int} {a1 : Int} {a2 : Int} {h : MH} {r : Int × MH} (hL : LR h) (k0_t : TO h t 4) (hF : GX4_canTake t a1 a2 h = some r) : RN xs L iX4_canTake (d + 1) 0 (lvE 0 [.inr (.inr t), .inl a1, .inl a2]) [] h (RIo r) ∧ LR r.2 ∧ KD h r.2 := by
  unfold GX4_canTake at hF
  have hK : KD h h := KD.rf
  have k_t := k0_t
  show RK xs L iX4_canTake (d + 1) 0 (lvE 0 [.inr (.inr t), .inl a1, .inl a2]) [] h (RIo r) h r.2
  refine RK.of (RN.blk (ops := [(0, .aload_n 0), (1, .getfield 21), (4, .bipush 12)]) (pc' := 6) (lv' := [(0, .inr (.inr t)), (1, .inl a1), (2, .inl a2)]) (st' := [.inl 12, .inl (m_rd h t 0)]) (h' := h) (cs := [GK h t 4]) (by decide +kernel) rfl ⟨k_t.gk, trivial⟩) ?_
  rcases it_of hF with ⟨hb, hF⟩ | ⟨hb, hF⟩
  · refine RK.of (RN.ict (cd := .lt) (off := 13) (tgt := 19) (by decide +kernel) (mif_lt hb)) ?_
    refine RK.of (RN.blk (ops := [(19, .iconst 1)]) (pc' := 20) (lv' := [(0, .inr (.inr t)), (1, .inl a1), (2, .inl a2)]) (st' := [.inl 1]) (h' := h) (cs := []) (by decide +kernel) rfl trivial) ?_
    refine RK.of (RN.goto (off := 4) (tgt := 24) (by decide +kernel)) ?_
    exact RK.zR (by decide +kernel) rfl (Or.inr rfl) hL hK hF
  · refine RK.of (RN.icf (cd := .lt) (off := 13) (tgt := 19) (by decide +kernel) (mif_ltn hb)) ?_
    refine RK.of (RN.blk (ops := [(9, .aload_n 0), (10, .iload_n 1), (11, .iload_n 2)]) (pc' := 12) (lv' := [(0, .inr (.inr t)), (1, .inl a1), (2, .inl a2)]) (st' := [.inl a2, .inl a1, .inr (.inr t)]) (h' := h) (cs := []) (by decide +kernel) rfl trivial) ?_
    obtain ⟨x2, h1, hG, hF⟩ := bd_of hF
    have hq := rcv_ok (as := [.inl a1, .inl a2]) (TO.gk k_t)
    obtain ⟨hN, hL, hQ⟩ := DX4_find (d := d) hL k_t hG
    refine RK.of (RN.cv (i := 31) (k := 47) (q2 := iX4_find) (as := [.inr (.inr t), .inl a1, .inl a2]) (r := []) (v := some (.inl x2)) (h1 := h1) (by decide +kernel) rfl rfl rfl rfl rfl hq hN) ?_
    have k_t := hQ.to k_t
    have hK := hK.tr hQ
    refine RK.of (RN.blk (ops := [(15, .iconst (-1))]) (pc' := 16) (lv' := [(0, .inr (.inr t)), (1, .inl a1), (2, .inl a2)]) (st' := [.inl (-1), .inl x2]) (h' := h1) (cs := []) (by decide +kernel) rfl trivial) ?_
    rcases it_of hF with ⟨hb, hF⟩ | ⟨hb, hF⟩
    · refine RK.of (RN.ict (cd := .eq) (off := 7) (tgt := 23) (by decide +kernel) (mif_eq hb)) ?_
      refine RK.of (RN.blk (ops := [(23, .iconst 0)]) (pc' := 24) (lv' := [(0, .inr (.inr t)), (1, .inl a1), (2, .inl a2)]) (st' := [.inl 0]) (h' := h1) (cs := []) (by decide +kernel) rfl trivial) ?_
      exact RK.zR (by decide +kernel) rfl (Or.inl rfl) hL hK hF
    · refine RK.of (RN.icf (cd := .eq) (off := 7) (tgt := 23) (by decide +kernel) (mif_eqn hb)) ?_
      refine RK.of (RN.blk (ops := [(19, .iconst 1)]) (pc' := 20) (lv' := [(0, .inr (.inr t)), (1, .inl a1), (2, .inl a2)]) (st' := [.inl 1]) (h' := h1) (cs := []) (by decide +kernel) rfl trivial) ?_
      refine RK.of (RN.goto (off := 4) (tgt := 24) (by decide +kernel)) ?_
      exact RK.zR (by decide +kernel) rfl (Or.inr rfl) hL hK hF
noncomputable def GX8_prefixesOf (t : Int) (a1 : Int) (h : MH) : Option (Int × MH) :=
  (if a1 < 0 then
   some (0, h)
  else
   (if 4 < a1 then
    some (0, h)
   else
    gd [IB a1 5] (
     some ((m_rd h (t + 1) a1), h))))
theorem DX8_prefixesOf {d : Nat} {t : Int} {a1 : Int} {h : MH} {r : Int × MH} (hL : LR h) (k0_t : TO h t 8) (hF : GX8_prefixesOf t a1 h = some r) : RN xs L iX8_prefixesOf (d) 0 (lvE 0 [.inr (.inr t), .inl a1]) [] h (RIo r) ∧ LR r.2 ∧ KD h r.2 := by
  unfold GX8_prefixesOf at hF
  have hK : KD h h := KD.rf
  have k_t := k0_t
  show RK xs L iX8_prefixesOf (d) 0 (lvE 0 [.inr (.inr t), .inl a1]) [] h (RIo r) h r.2
  refine RK.of (RN.blk (ops := [(0, .iload_n 1)]) (pc' := 1) (lv' := [(0, .inr (.inr t)), (1, .inl a1)]) (st' := [.inl a1]) (h' := h) (cs := []) (by decide +kernel) rfl trivial) ?_
  rcases it_of hF with ⟨hb, hF⟩ | ⟨hb, hF⟩
  · refine RK.of (RN.ift (cd := .lt) (off := 17) (tgt := 18) (by decide +kernel) (mif_lt hb)) ?_
    refine RK.of (RN.blk (ops := [(18, .iconst 0)]) (pc' := 19) (lv' := [(0, .inr (.inr t)), (1, .inl a1)]) (st' := [.inl 0]) (h' := h) (cs := []) (by decide +kernel) rfl trivial) ?_
    exact RK.iR (by decide +kernel) rfl hL hK hF
  · refine RK.of (RN.iff (cd := .lt) (off := 17) (tgt := 18) (by decide +kernel) (mif_ltn hb)) ?_
    refine RK.of (RN.blk (ops := [(4, .iload_n 1), (5, .iconst 4)]) (pc' := 6) (lv' := [(0, .inr (.inr t)), (1, .inl a1)]) (st' := [.inl 4, .inl a1]) (h' := h) (cs := []) (by decide +kernel) rfl trivial) ?_
    rcases it_of hF with ⟨hb, hF⟩ | ⟨hb, hF⟩
    · refine RK.of (RN.ict (cd := .gt) (off := 12) (tgt := 18) (by decide +kernel) (mif_gt hb)) ?_
      refine RK.of (RN.blk (ops := [(18, .iconst 0)]) (pc' := 19) (lv' := [(0, .inr (.inr t)), (1, .inl a1)]) (st' := [.inl 0]) (h' := h) (cs := []) (by decide +kernel) rfl trivial) ?_
      exact RK.iR (by decide +kernel) rfl hL hK hF
    · refine RK.of (RN.icf (cd := .gt) (off := 12) (tgt := 18) (by decide +kernel) (mif_gtn hb)) ?_
      refine RK.of (RN.blk (ops := [(9, .aload_n 0)]) (pc' := 10) (lv' := [(0, .inr (.inr t)), (1, .inl a1)]) (st' := [.inr (.inr t)]) (h' := h) (cs := []) (by decide +kernel) rfl trivial) ?_
      refine RK.of (RN.gr (i := 9) (ci := 8) (k := 4) (fn := true) (v := (t + 1)) (by decide +kernel) rfl (TO.gk k_t) (hL.fa (v := (t + 1)) 4 1 5 k_t rfl rfl rfl (by decide)).1) ?_
      obtain ⟨hc, hF⟩ := gd_of hF
      refine RK.of (RN.blk (ops := [(13, .iload_n 1), (14, .iaload)]) (pc' := 15) (lv' := [(0, .inr (.inr t)), (1, .inl a1)]) (st' := [.inl (m_rd h (t + 1) a1)]) (h' := h) (cs := [GI h (t + 1) 1 a1]) (by decide +kernel) rfl ⟨(hL.fa 4 1 5 k_t rfl rfl rfl (by decide)).2.gi hc.1.1 hc.1.2, trivial⟩) ?_
      refine RK.of (RN.goto (off := 4) (tgt := 19) (by decide +kernel)) ?_
      exact RK.iR (by decide +kernel) rfl hL hK hF
noncomputable def GX0_seekEntry_L19 (u1 : Int) (u2 : Int) (u3 : Int) (K0 : MH → Option (MH)) : Nat → Int → MH → Option (MH)
  | 0, _, _ => none
  | f + 1, v4, h =>
    (bd (GX8_prefixesOf u1 u3 h) (fun x2 h1 =>
     (if v4 < x2 then
      (bd (GX4_canTake (u2 + 1) u3 v4 h1) (fun x4 h3 =>
       (if x4 = 0 then
        GX0_seekEntry_L19 u1 u2 u3 K0 f (m_w32 (v4 + 1)) h3
       else
        (bv (GX0_tryPrefix u1 u2 u3 v4 h3) (fun h5 =>
         GX0_seekEntry_L19 u1 u2 u3 K0 f (m_w32 (v4 + 1)) h5)))))
     else
      K0 h1)))
theorem DX0_seekEntry_L19 {d : Nat} {u1 : Int} {u2 : Int} {u3 : Int} {K0 : MH → Option (MH)} {r : MH} {h0 hB : MH} (hB0 : KD h0 hB) (k0_u1 : TO hB u1 8) (k0_u2 : TO hB u2 10) (hK0 : ∀ (h : MH), LR h → KD hB h → K0 h = some r → RK xs L iX0_seekEntry (d + 5) 57 [(0, .inr (.inr 323)), (1, .inr (.inr u1)), (2, .inr (.inr u2)), (3, .inl u3)] [] h (RVo r) h0 r) : ∀ (f : Nat) (v4 : Int) (h : MH), LR h → KD hB h → GX0_seekEntry_L19 u1 u2 u3 K0 f v4 h = some r → RK xs L iX0_seekEntry (d + 5) 19 [(0, .inr (.inr 323)), (1, .inr (.inr u1)), (2, .inr (.inr u2)), (3, .inl u3), (4, .inl v4)] [] h (RVo r) h0 r := by
  intro f
  induction f with
  | zero =>
    intro v4 h hL hJ hF
    cases hF
  | succ f ih =>
    intro v4 h hL hJ hF
    unfold GX0_seekEntry_L19 at hF
    have hK := hB0.tr hJ
    have k_u1 := hJ.to k0_u1
    have k_u2 := hJ.to k0_u2
    refine RK.of (RN.blk (ops := [(19, .iload 4), (21, .aload_n 1), (22, .iload_n 3)]) (pc' := 23) (lv' := [(0, .inr (.inr 323)), (1, .inr (.inr u1)), (2, .inr (.inr u2)), (3, .inl u3), (4, .inl v4)]) (st' := [.inl u3, .inr (.inr u1), .inl v4]) (h' := h) (cs := []) (by decide +kernel) rfl trivial) ?_
    obtain ⟨x2, h1, hG, hF⟩ := bd_of hF
    have hq := rcv_ok (as := [.inl u3]) (TO.gk k_u1)
    obtain ⟨hN, hL, hQ⟩ := DX8_prefixesOf (d := d + 4) hL k_u1 hG
    refine RK.of (RN.cv (i := 90) (k := 84) (q2 := iX8_prefixesOf) (as := [.inr (.inr u1), .inl u3]) (r := [.inl v4]) (v := some (.inl x2)) (h1 := h1) (by decide +kernel) rfl rfl rfl rfl rfl hq hN) ?_
    have k_u1 := hQ.to k_u1
    have k_u2 := hQ.to k_u2
    have hK := hK.tr hQ
    have hJ := hJ.tr hQ
    rcases it_of hF with ⟨hb, hF⟩ | ⟨hb, hF⟩
    · refine RK.of (RN.icf (cd := .ge) (off := 31) (tgt := 57) (by decide +kernel) (mif_gen hb)) ?_
      refine RK.of (RN.blk (ops := [(29, .aload_n 2)]) (pc' := 30) (lv' := [(0, .inr (.inr 323)), (1, .inr (.inr u1)), (2, .inr (.inr u2)), (3, .inl u3), (4, .inl v4)]) (st' := [.inr (.inr u2)]) (h' := h1) (cs := []) (by decide +kernel) rfl trivial) ?_
      refine RK.of (RN.gr (i := 93) (ci := 10) (k := 0) (fn := true) (v := (u2 + 1)) (by decide +kernel) rfl (TO.gk k_u2) (hL.fo (v := (u2 + 1)) 0 4 k_u2 rfl rfl rfl).1) ?_
      refine RK.of (RN.blk (ops := [(33, .iload_n 3), (34, .iload 4)]) (pc' := 36) (lv' := [(0, .inr (.inr 323)), (1, .inr (.inr u1)), (2, .inr (.inr u2)), (3, .inl u3), (4, .inl v4)]) (st' := [.inl v4, .inl u3, .inr (.inr (u2 + 1))]) (h' := h1) (cs := []) (by decide +kernel) rfl trivial) ?_
      obtain ⟨x4, h3, hG, hF⟩ := bd_of hF
      have hq := rcv_ok (as := [.inl u3, .inl v4]) (TO.gk (hL.fo 0 4 k_u2 rfl rfl rfl).2)
      obtain ⟨hN, hL, hQ⟩ := DX4_canTake (d := d + 3) hL (hL.fo 0 4 k_u2 rfl rfl rfl).2 hG
      refine RK.of (RN.cv (i := 97) (k := 48) (q2 := iX4_canTake) (as := [.inr (.inr (u2 + 1)), .inl u3, .inl v4]) (r := []) (v := some (.inl x4)) (h1 := h3) (by decide +kernel) rfl rfl rfl rfl rfl hq hN) ?_
      have k_u1 := hQ.to k_u1
      have k_u2 := hQ.to k_u2
      have hK := hK.tr hQ
      have hJ := hJ.tr hQ
      rcases it_of hF with ⟨hb, hF⟩ | ⟨hb, hF⟩
      · refine RK.of (RN.ift (cd := .eq) (off := 12) (tgt := 51) (by decide +kernel) (mif_eq hb)) ?_
        refine RK.of (RN.blk (ops := [(51, .iinc 4 1)]) (pc' := 54) (lv' := [(4, .inl (m_w32 (v4 + 1))), (0, .inr (.inr 323)), (1, .inr (.inr u1)), (2, .inr (.inr u2)), (3, .inl u3)]) (st' := []) (h' := h3) (cs := []) (by decide +kernel) rfl trivial) ?_
        refine RK.of (RN.goto (off := -35) (tgt := 19) (by decide +kernel)) ?_
        exact RK.sub (ih _ _ hL hJ hF) (sub_cons rfl (sub_cons rfl (sub_cons rfl (sub_cons rfl (sub_cons rfl sub_nil)))))
      · refine RK.of (RN.iff (cd := .eq) (off := 12) (tgt := 51) (by decide +kernel) (mif_eqn hb)) ?_
        refine RK.of (RN.blk (ops := [(42, .aload_n 0), (43, .aload_n 1), (44, .aload_n 2), (45, .iload_n 3), (46, .iload 4)]) (pc' := 48) (lv' := [(0, .inr (.inr 323)), (1, .inr (.inr u1)), (2, .inr (.inr u2)), (3, .inl u3), (4, .inl v4)]) (st' := [.inl v4, .inl u3, .inr (.inr u2), .inr (.inr u1), .inr (.inr 323)]) (h' := h3) (cs := []) (by decide +kernel) rfl trivial) ?_
        obtain ⟨h5, hG, hF⟩ := bv_of hF
        have hq := rcv_ok (as := [.inr (.inr u1), .inr (.inr u2), .inl u3, .inl v4]) (TO.gk (o_323 hL))
        obtain ⟨hN, hL, hQ⟩ := DX0_tryPrefix (d := d) hL k_u1 k_u2 hG
        refine RK.of (RN.cv (i := 103) (k := 4) (q2 := iX0_tryPrefix) (as := [.inr (.inr 323), .inr (.inr u1), .inr (.inr u2), .inl u3, .inl v4]) (r := []) (v := none) (h1 := h5) (by decide +kernel) rfl rfl rfl rfl rfl hq hN) ?_
        have k_u1 := hQ.to k_u1
        have k_u2 := hQ.to k_u2
        have hK := hK.tr hQ
        have hJ := hJ.tr hQ
        refine RK.of (RN.blk (ops := [(51, .iinc 4 1)]) (pc' := 54) (lv' := [(4, .inl (m_w32 (v4 + 1))), (0, .inr (.inr 323)), (1, .inr (.inr u1)), (2, .inr (.inr u2)), (3, .inl u3)]) (st' := []) (h' := h5) (cs := []) (by decide +kernel) rfl trivial) ?_
        refine RK.of (RN.goto (off := -35) (tgt := 19) (by decide +kernel)) ?_
        exact RK.sub (ih _ _ hL hJ hF) (sub_cons rfl (sub_cons rfl (sub_cons rfl (sub_cons rfl (sub_cons rfl sub_nil)))))
    · refine RK.of (RN.ict (cd := .ge) (off := 31) (tgt := 57) (by decide +kernel) (mif_ge hb)) ?_
      exact RK.sub (hK0 _ hL hJ hF) (sub_cons rfl (sub_cons rfl (sub_cons rfl (sub_cons rfl sub_nil))))
noncomputable def GX0_seekEntry_L8 (u1 : Int) (u2 : Int) (K0 : MH → Option (MH)) : Nat → Int → MH → Option (MH)
  | 0, _, _ => none
  | f + 1, v3, h =>
    (if (m_rd h u1 1) < v3 then
     K0 h
    else
     GX0_seekEntry_L19 u1 u2 v3 (fun h1 =>
      GX0_seekEntry_L8 u1 u2 K0 f (m_w32 (v3 + 1)) h1) FU 0 h)
theorem DX0_seekEntry_L8 {d : Nat} {u1 : Int} {u2 : Int} {K0 : MH → Option (MH)} {r : MH} {h0 hB : MH} (hB0 : KD h0 hB) (k0_u1 : TO hB u1 8) (k0_u2 : TO hB u2 10) (hK0 : ∀ (h : MH), LR h → KD hB h → K0 h = some r → RK xs L iX0_seekEntry (d + 5) 63 [] [] h (RVo r) h0 r) : ∀ (f : Nat) (v3 : Int) (h : MH), LR h → KD hB h → GX0_seekEntry_L8 u1 u2 K0 f v3 h = some r → RK xs L iX0_seekEntry (d + 5) 8 [(0, .inr (.inr 323)), (1, .inr (.inr u1)), (2, .inr (.inr u2)), (3, .inl v3)] [] h (RVo r) h0 r := by
  intro f
  induction f with
  | zero =>
    intro v3 h hL hJ hF
    cases hF
  | succ f ih =>
    intro v3 h hL hJ hF
    unfold GX0_seekEntry_L8 at hF
    have hK := hB0.tr hJ
    have k_u1 := hJ.to k0_u1
    have k_u2 := hJ.to k0_u2
    refine RK.of (RN.blk (ops := [(8, .iload_n 3), (9, .aload_n 1), (10, .getfield 89)]) (pc' := 13) (lv' := [(0, .inr (.inr 323)), (1, .inr (.inr u1)), (2, .inr (.inr u2)), (3, .inl v3)]) (st' := [.inl (m_rd h u1 1), .inl v3]) (h' := h) (cs := [GK h u1 8]) (by decide +kernel) rfl ⟨k_u1.gk, trivial⟩) ?_
    rcases it_of hF with ⟨hb, hF⟩ | ⟨hb, hF⟩
    · refine RK.of (RN.ict (cd := .gt) (off := 50) (tgt := 63) (by decide +kernel) (mif_gt hb)) ?_
      exact RK.sub (hK0 _ hL hJ hF) sub_nil
    · refine RK.of (RN.icf (cd := .gt) (off := 50) (tgt := 63) (by decide +kernel) (mif_gtn hb)) ?_
      refine RK.of (RN.blk (ops := [(16, .iconst 0), (17, .istore 4)]) (pc' := 19) (lv' := [(4, .inl 0), (0, .inr (.inr 323)), (1, .inr (.inr u1)), (2, .inr (.inr u2)), (3, .inl v3)]) (st' := []) (h' := h) (cs := []) (by decide +kernel) rfl trivial) ?_
      refine RK.sub (DX0_seekEntry_L19 hK k_u1 k_u2 ?_ _ _ _ hL KD.rf hF) (sub_cons rfl (sub_cons rfl (sub_cons rfl (sub_cons rfl (sub_cons rfl sub_nil)))))
      · intro h1 hL hq hF
        have k_u1 := hq.to k_u1
        have k_u2 := hq.to k_u2
        have hK := hK.tr hq
        have hJ := hJ.tr hq
        refine RK.of (RN.blk (ops := [(57, .iinc 3 1)]) (pc' := 60) (lv' := [(3, .inl (m_w32 (v3 + 1))), (0, .inr (.inr 323)), (1, .inr (.inr u1)), (2, .inr (.inr u2))]) (st' := []) (h' := h1) (cs := []) (by decide +kernel) rfl trivial) ?_
        refine RK.of (RN.goto (off := -52) (tgt := 8) (by decide +kernel)) ?_
        exact RK.sub (ih _ _ hL hJ hF) (sub_cons rfl (sub_cons rfl (sub_cons rfl (sub_cons rfl sub_nil))))
noncomputable def GX0_seekEntry (a1 : Int) (a2 : Int) (h : MH) : Option (MH) :=
  (bv (GX0_tryAsIs a1 a2 h) (fun h1 =>
   GX0_seekEntry_L8 a1 a2 (fun h2 =>
    some h2) FU 0 h1))
theorem DX0_seekEntry {d : Nat} {a1 : Int} {a2 : Int} {h : MH} {r : MH} (hL : LR h) (k0_a1 : TO h a1 8) (k0_a2 : TO h a2 10) (hF : GX0_seekEntry a1 a2 h = some r) : RN xs L iX0_seekEntry (d + 5) 0 (lvE 0 [.inr (.inr 323), .inr (.inr a1), .inr (.inr a2)]) [] h (RVo r) ∧ LR r ∧ KD h r := by
  unfold GX0_seekEntry at hF
  have hK : KD h h := KD.rf
  have k_a1 := k0_a1
  have k_a2 := k0_a2
  show RK xs L iX0_seekEntry (d + 5) 0 (lvE 0 [.inr (.inr 323), .inr (.inr a1), .inr (.inr a2)]) [] h (RVo r) h r
  refine RK.of (RN.blk (ops := [(0, .aload_n 0), (1, .aload_n 1), (2, .aload_n 2)]) (pc' := 3) (lv' := [(0, .inr (.inr 323)), (1, .inr (.inr a1)), (2, .inr (.inr a2))]) (st' := [.inr (.inr a2), .inr (.inr a1), .inr (.inr 323)]) (h' := h) (cs := []) (by decide +kernel) rfl trivial) ?_
  obtain ⟨h1, hG, hF⟩ := bv_of hF
  have hq := rcv_ok (as := [.inr (.inr a1), .inr (.inr a2)]) (TO.gk (o_323 hL))
  obtain ⟨hN, hL, hQ⟩ := DX0_tryAsIs (d := d + 1) hL k_a1 k_a2 hG
  refine RK.of (RN.cv (i := 86) (k := 2) (q2 := iX0_tryAsIs) (as := [.inr (.inr 323), .inr (.inr a1), .inr (.inr a2)]) (r := []) (v := none) (h1 := h1) (by decide +kernel) rfl rfl rfl rfl rfl hq hN) ?_
  have k_a1 := hQ.to k_a1
  have k_a2 := hQ.to k_a2
  have hK := hK.tr hQ
  refine RK.of (RN.blk (ops := [(6, .iconst 0), (7, .istore_n 3)]) (pc' := 8) (lv' := [(3, .inl 0), (0, .inr (.inr 323)), (1, .inr (.inr a1)), (2, .inr (.inr a2))]) (st' := []) (h' := h1) (cs := []) (by decide +kernel) rfl trivial) ?_
  refine RK.sub (DX0_seekEntry_L8 hK k_a1 k_a2 ?_ _ _ _ hL KD.rf hF) (sub_cons rfl (sub_cons rfl (sub_cons rfl (sub_cons rfl sub_nil))))
  · intro h2 hL hq hF
    have k_a1 := hq.to k_a1
    have k_a2 := hq.to k_a2
    have hK := hK.tr hq
    exact RK.vR (by decide +kernel) rfl hL hK hF
noncomputable def GX0_sendChanged_L3 (u1 : Int) (u2 : Int) (u3 : Int) (K0 : MH → Option (MH)) : Nat → Int → MH → Option (MH)
  | 0, _, _ => none
  | f + 1, v4, h =>
    (if v4 < (m_rd h u1 1) then
     gd [IB v4 20] (
      (bd (GX1_holeFor (m_rd h (u1 + 5) v4) h) (fun x2 h1 =>
       (if x2 = u2 then
        gd [IB v4 20] (
         GX0_sendChanged_L3 u1 u2 u3 K0 f (m_w32 (v4 + 1)) (m_wr h1 324 v4 u3))
       else
        (if x2 = u3 then
         gd [IB v4 20] (
          GX0_sendChanged_L3 u1 u2 u3 K0 f (m_w32 (v4 + 1)) (m_wr h1 324 v4 u2))
        else
         gd [IB v4 20] (
          GX0_sendChanged_L3 u1 u2 u3 K0 f (m_w32 (v4 + 1)) (m_wr h1 324 v4 x2)))))))
    else
     K0 h)
theorem DX0_sendChanged_L3 {d : Nat} {u1 : Int} {u2 : Int} {u3 : Int} {K0 : MH → Option (MH)} {r : MH} {h0 hB : MH} (hB0 : KD h0 hB) (k0_u1 : TO hB u1 10) (hK0 : ∀ (h : MH), LR h → KD hB h → K0 h = some r → RK xs L iX0_sendChanged (d + 3) 63 [] [] h (RVo r) h0 r) : ∀ (f : Nat) (v4 : Int) (h : MH), LR h → KD hB h → GX0_sendChanged_L3 u1 u2 u3 K0 f v4 h = some r → RK xs L iX0_sendChanged (d + 3) 3 [(0, .inr (.inr 323)), (1, .inr (.inr u1)), (2, .inl u2), (3, .inl u3), (4, .inl v4)] [] h (RVo r) h0 r := by
  intro f
  induction f with
  | zero =>
    intro v4 h hL hJ hF
    cases hF
  | succ f ih =>
    intro v4 h hL hJ hF
    unfold GX0_sendChanged_L3 at hF
    have hK := hB0.tr hJ
    have k_u1 := hJ.to k0_u1
    refine RK.of (RN.blk (ops := [(3, .iload 4), (5, .aload_n 1), (6, .getfield 43)]) (pc' := 9) (lv' := [(0, .inr (.inr 323)), (1, .inr (.inr u1)), (2, .inl u2), (3, .inl u3), (4, .inl v4)]) (st' := [.inl (m_rd h u1 1), .inl v4]) (h' := h) (cs := [GK h u1 10]) (by decide +kernel) rfl ⟨k_u1.gk, trivial⟩) ?_
    rcases it_of hF with ⟨hb, hF⟩ | ⟨hb, hF⟩
    · refine RK.of (RN.icf (cd := .ge) (off := 54) (tgt := 63) (by decide +kernel) (mif_gen hb)) ?_
      refine RK.of (RN.blk (ops := [(12, .aload_n 0)]) (pc' := 13) (lv' := [(0, .inr (.inr 323)), (1, .inr (.inr u1)), (2, .inl u2), (3, .inl u3), (4, .inl v4)]) (st' := [.inr (.inr 323)]) (h' := h) (cs := []) (by decide +kernel) rfl trivial) ?_
      refine RK.of (RN.gr (i := 23) (ci := 0) (k := 8) (fn := true) (v := 298) (by decide +kernel) rfl (TO.gk (o_323 hL)) (hL.fo (v := 298) 8 1 (o_323 hL) rfl (by decide) rfl).1) ?_
      refine RK.of (RN.blk (ops := [(16, .aload_n 1)]) (pc' := 17) (lv' := [(0, .inr (.inr 323)), (1, .inr (.inr u1)), (2, .inl u2), (3, .inl u3), (4, .inl v4)]) (st' := [.inr (.inr u1), .inr (.inr 298)]) (h' := h) (cs := []) (by decide +kernel) rfl trivial) ?_
      refine RK.of (RN.gr (i := 55) (ci := 10) (k := 2) (fn := true) (v := (u1 + 5)) (by decide +kernel) rfl (TO.gk k_u1) (hL.fa (v := (u1 + 5)) 2 1 20 k_u1 rfl rfl rfl (by decide)).1) ?_
      obtain ⟨hc, hF⟩ := gd_of hF
      refine RK.of (RN.blk (ops := [(20, .iload 4), (22, .iaload)]) (pc' := 23) (lv' := [(0, .inr (.inr 323)), (1, .inr (.inr u1)), (2, .inl u2), (3, .inl u3), (4, .inl v4)]) (st' := [.inl (m_rd h (u1 + 5) v4), .inr (.inr 298)]) (h' := h) (cs := [GI h (u1 + 5) 1 v4]) (by decide +kernel) rfl ⟨(hL.fa 2 1 20 k_u1 rfl rfl rfl (by decide)).2.gi hc.1.1 hc.1.2, trivial⟩) ?_
      obtain ⟨x2, h1, hG, hF⟩ := bd_of hF
      have hq := rcv_ok (as := [.inl (m_rd h (u1 + 5) v4)]) (TO.gk (o_298 hL))
      obtain ⟨hN, hL, hQ⟩ := DX1_holeFor (d := d) hL  hG
      refine RK.of (RN.cv (i := 58) (k := 15) (q2 := iX1_holeFor) (as := [.inr (.inr 298), .inl (m_rd h (u1 + 5) v4)]) (r := []) (v := some (.inl x2)) (h1 := h1) (by decide +kernel) rfl rfl rfl rfl rfl hq hN) ?_
      have k_u1 := hQ.to k_u1
      have hK := hK.tr hQ
      have hJ := hJ.tr hQ
      refine RK.of (RN.blk (ops := [(26, .istore 5), (28, .aload_n 0)]) (pc' := 29) (lv' := [(5, .inl x2), (0, .inr (.inr 323)), (1, .inr (.inr u1)), (2, .inl u2), (3, .inl u3), (4, .inl v4)]) (st' := [.inr (.inr 323)]) (h' := h1) (cs := []) (by decide +kernel) rfl trivial) ?_
      refine RK.of (RN.gr (i := 9) (ci := 0) (k := 9) (fn := true) (v := 324) (by decide +kernel) rfl (TO.gk (o_323 hL)) (hL.fa (v := 324) 9 1 20 (o_323 hL) rfl (by decide) rfl (by decide)).1) ?_
      refine RK.of (RN.blk (ops := [(32, .iload 4), (34, .iload 5), (36, .iload_n 2)]) (pc' := 37) (lv' := [(5, .inl x2), (0, .inr (.inr 323)), (1, .inr (.inr u1)), (2, .inl u2), (3, .inl u3), (4, .inl v4)]) (st' := [.inl u2, .inl x2, .inl v4, .inr (.inr 324)]) (h' := h1) (cs := []) (by decide +kernel) rfl trivial) ?_
      rcases it_of hF with ⟨hb, hF⟩ | ⟨hb, hF⟩
      · refine RK.of (RN.icf (cd := .ne) (off := 7) (tgt := 44) (by decide +kernel) (mif_nen hb)) ?_
        refine RK.of (RN.blk (ops := [(40, .iload_n 3)]) (pc' := 41) (lv' := [(5, .inl x2), (0, .inr (.inr 323)), (1, .inr (.inr u1)), (2, .inl u2), (3, .inl u3), (4, .inl v4)]) (st' := [.inl u3, .inl v4, .inr (.inr 324)]) (h' := h1) (cs := []) (by decide +kernel) rfl trivial) ?_
        refine RK.of (RN.goto (off := 15) (tgt := 56) (by decide +kernel)) ?_
        obtain ⟨hc, hF⟩ := gd_of hF
        refine RK.of (RN.blk (ops := [(56, .iastore)]) (pc' := 57) (lv' := [(5, .inl x2), (0, .inr (.inr 323)), (1, .inr (.inr u1)), (2, .inl u2), (3, .inl u3), (4, .inl v4)]) (st' := []) (h' := (m_wr h1 324 v4 u3)) (cs := [GI h1 324 1 v4]) (by decide +kernel) rfl ⟨(a_324 hL).gi hc.1.1 hc.1.2, trivial⟩) ?_
        have hL : LR (m_wr h1 324 v4 u3) := hL.wa (TA.le5 (a_324 hL) (by decide))
        have k_u1 := (KD.wr : KD h1 (m_wr h1 324 v4 u3)).to k_u1
        have hK := hK.tr (KD.wr : KD h1 (m_wr h1 324 v4 u3))
        have hJ := hJ.tr (KD.wr : KD h1 (m_wr h1 324 v4 u3))
        refine RK.of (RN.blk (ops := [(57, .iinc 4 1)]) (pc' := 60) (lv' := [(4, .inl (m_w32 (v4 + 1))), (5, .inl x2), (0, .inr (.inr 323)), (1, .inr (.inr u1)), (2, .inl u2), (3, .inl u3)]) (st' := []) (h' := (m_wr h1 324 v4 u3)) (cs := []) (by decide +kernel) rfl trivial) ?_
        refine RK.of (RN.goto (off := -57) (tgt := 3) (by decide +kernel)) ?_
        exact RK.sub (ih _ _ hL hJ hF) (sub_cons rfl (sub_cons rfl (sub_cons rfl (sub_cons rfl (sub_cons rfl sub_nil)))))
      · refine RK.of (RN.ict (cd := .ne) (off := 7) (tgt := 44) (by decide +kernel) (mif_ne hb)) ?_
        refine RK.of (RN.blk (ops := [(44, .iload 5), (46, .iload_n 3)]) (pc' := 47) (lv' := [(5, .inl x2), (0, .inr (.inr 323)), (1, .inr (.inr u1)), (2, .inl u2), (3, .inl u3), (4, .inl v4)]) (st' := [.inl u3, .inl x2, .inl v4, .inr (.inr 324)]) (h' := h1) (cs := []) (by decide +kernel) rfl trivial) ?_
        rcases it_of hF with ⟨hb, hF⟩ | ⟨hb, hF⟩
        · refine RK.of (RN.icf (cd := .ne) (off := 7) (tgt := 54) (by decide +kernel) (mif_nen hb)) ?_
          refine RK.of (RN.blk (ops := [(50, .iload_n 2)]) (pc' := 51) (lv' := [(5, .inl x2), (0, .inr (.inr 323)), (1, .inr (.inr u1)), (2, .inl u2), (3, .inl u3), (4, .inl v4)]) (st' := [.inl u2, .inl v4, .inr (.inr 324)]) (h' := h1) (cs := []) (by decide +kernel) rfl trivial) ?_
          refine RK.of (RN.goto (off := 5) (tgt := 56) (by decide +kernel)) ?_
          obtain ⟨hc, hF⟩ := gd_of hF
          refine RK.of (RN.blk (ops := [(56, .iastore)]) (pc' := 57) (lv' := [(5, .inl x2), (0, .inr (.inr 323)), (1, .inr (.inr u1)), (2, .inl u2), (3, .inl u3), (4, .inl v4)]) (st' := []) (h' := (m_wr h1 324 v4 u2)) (cs := [GI h1 324 1 v4]) (by decide +kernel) rfl ⟨(a_324 hL).gi hc.1.1 hc.1.2, trivial⟩) ?_
          have hL : LR (m_wr h1 324 v4 u2) := hL.wa (TA.le5 (a_324 hL) (by decide))
          have k_u1 := (KD.wr : KD h1 (m_wr h1 324 v4 u2)).to k_u1
          have hK := hK.tr (KD.wr : KD h1 (m_wr h1 324 v4 u2))
          have hJ := hJ.tr (KD.wr : KD h1 (m_wr h1 324 v4 u2))
          refine RK.of (RN.blk (ops := [(57, .iinc 4 1)]) (pc' := 60) (lv' := [(4, .inl (m_w32 (v4 + 1))), (5, .inl x2), (0, .inr (.inr 323)), (1, .inr (.inr u1)), (2, .inl u2), (3, .inl u3)]) (st' := []) (h' := (m_wr h1 324 v4 u2)) (cs := []) (by decide +kernel) rfl trivial) ?_
          refine RK.of (RN.goto (off := -57) (tgt := 3) (by decide +kernel)) ?_
          exact RK.sub (ih _ _ hL hJ hF) (sub_cons rfl (sub_cons rfl (sub_cons rfl (sub_cons rfl (sub_cons rfl sub_nil)))))
        · refine RK.of (RN.ict (cd := .ne) (off := 7) (tgt := 54) (by decide +kernel) (mif_ne hb)) ?_
          refine RK.of (RN.blk (ops := [(54, .iload 5)]) (pc' := 56) (lv' := [(5, .inl x2), (0, .inr (.inr 323)), (1, .inr (.inr u1)), (2, .inl u2), (3, .inl u3), (4, .inl v4)]) (st' := [.inl x2, .inl v4, .inr (.inr 324)]) (h' := h1) (cs := []) (by decide +kernel) rfl trivial) ?_
          obtain ⟨hc, hF⟩ := gd_of hF
          refine RK.of (RN.blk (ops := [(56, .iastore)]) (pc' := 57) (lv' := [(5, .inl x2), (0, .inr (.inr 323)), (1, .inr (.inr u1)), (2, .inl u2), (3, .inl u3), (4, .inl v4)]) (st' := []) (h' := (m_wr h1 324 v4 x2)) (cs := [GI h1 324 1 v4]) (by decide +kernel) rfl ⟨(a_324 hL).gi hc.1.1 hc.1.2, trivial⟩) ?_
          have hL : LR (m_wr h1 324 v4 x2) := hL.wa (TA.le5 (a_324 hL) (by decide))
          have k_u1 := (KD.wr : KD h1 (m_wr h1 324 v4 x2)).to k_u1
          have hK := hK.tr (KD.wr : KD h1 (m_wr h1 324 v4 x2))
          have hJ := hJ.tr (KD.wr : KD h1 (m_wr h1 324 v4 x2))
          refine RK.of (RN.blk (ops := [(57, .iinc 4 1)]) (pc' := 60) (lv' := [(4, .inl (m_w32 (v4 + 1))), (5, .inl x2), (0, .inr (.inr 323)), (1, .inr (.inr u1)), (2, .inl u2), (3, .inl u3)]) (st' := []) (h' := (m_wr h1 324 v4 x2)) (cs := []) (by decide +kernel) rfl trivial) ?_
          refine RK.of (RN.goto (off := -57) (tgt := 3) (by decide +kernel)) ?_
          exact RK.sub (ih _ _ hL hJ hF) (sub_cons rfl (sub_cons rfl (sub_cons rfl (sub_cons rfl (sub_cons rfl sub_nil)))))
    · refine RK.of (RN.ict (cd := .ge) (off := 54) (tgt := 63) (by decide +kernel) (mif_ge hb)) ?_
      exact RK.sub (hK0 _ hL hJ hF) sub_nil
noncomputable def GX0_sendChanged (a1 : Int) (a2 : Int) (a3 : Int) (h : MH) : Option (MH) :=
  GX0_sendChanged_L3 a1 a2 a3 (fun h1 =>
   some h1) FU 0 h
theorem DX0_sendChanged {d : Nat} {a1 : Int} {a2 : Int} {a3 : Int} {h : MH} {r : MH} (hL : LR h) (k0_a1 : TO h a1 10) (hF : GX0_sendChanged a1 a2 a3 h = some r) : RN xs L iX0_sendChanged (d + 3) 0 (lvE 0 [.inr (.inr 323), .inr (.inr a1), .inl a2, .inl a3]) [] h (RVo r) ∧ LR r ∧ KD h r := by
  unfold GX0_sendChanged at hF
  have hK : KD h h := KD.rf
  have k_a1 := k0_a1
  show RK xs L iX0_sendChanged (d + 3) 0 (lvE 0 [.inr (.inr 323), .inr (.inr a1), .inl a2, .inl a3]) [] h (RVo r) h r
  refine RK.of (RN.blk (ops := [(0, .iconst 0), (1, .istore 4)]) (pc' := 3) (lv' := [(4, .inl 0), (0, .inr (.inr 323)), (1, .inr (.inr a1)), (2, .inl a2), (3, .inl a3)]) (st' := []) (h' := h) (cs := []) (by decide +kernel) rfl trivial) ?_
  refine RK.sub (DX0_sendChanged_L3 hK k_a1 ?_ _ _ _ hL KD.rf hF) (sub_cons rfl (sub_cons rfl (sub_cons rfl (sub_cons rfl (sub_cons rfl sub_nil)))))
  · intro h1 hL hq hF
    have k_a1 := hq.to k_a1
    have hK := hK.tr hq
    exact RK.vR (by decide +kernel) rfl hL hK hF
noncomputable def GX0_seekChange_L21 (u1 : Int) (u2 : Int) (u3 : Int) (K0 : MH → Option (MH)) : Nat → Int → MH → Option (MH)
  | 0, _, _ => none
  | f + 1, v4, h =>
    (if v4 < (m_rd h u1 2) then
     (bv (GX0_sendChanged u2 u3 v4 h) (fun h1 =>
      (bv (GX0_tryGoals u1 u2 h1) (fun h2 =>
       (if (m_rd h2 323 13) < (m_rd h2 323 1) then
        GX0_seekChange_L21 u1 u2 u3 K0 f (m_w32 (v4 + 1)) (m_wr (m_wr (m_wr h2 323 1 (m_rd h2 323 13)) 323 4 u3) 323 5 v4)
       else
        GX0_seekChange_L21 u1 u2 u3 K0 f (m_w32 (v4 + 1)) h2)))))
    else
     K0 h)
theorem DX0_seekChange_L21 {d : Nat} {u1 : Int} {u2 : Int} {u3 : Int} {K0 : MH → Option (MH)} {r : MH} {h0 hB : MH} (hB0 : KD h0 hB) (k0_u1 : TO hB u1 8) (k0_u2 : TO hB u2 10) (hK0 : ∀ (h : MH), LR h → KD hB h → K0 h = some r → RK xs L iX0_seekChange (d + 4) 80 [(0, .inr (.inr 323)), (1, .inr (.inr u1)), (2, .inr (.inr u2)), (3, .inl u3)] [] h (RVo r) h0 r) : ∀ (f : Nat) (v4 : Int) (h : MH), LR h → KD hB h → GX0_seekChange_L21 u1 u2 u3 K0 f v4 h = some r → RK xs L iX0_seekChange (d + 4) 21 [(0, .inr (.inr 323)), (1, .inr (.inr u1)), (2, .inr (.inr u2)), (3, .inl u3), (4, .inl v4)] [] h (RVo r) h0 r := by
  intro f
  induction f with
  | zero =>
    intro v4 h hL hJ hF
    cases hF
  | succ f ih =>
    intro v4 h hL hJ hF
    unfold GX0_seekChange_L21 at hF
    have hK := hB0.tr hJ
    have k_u1 := hJ.to k0_u1
    have k_u2 := hJ.to k0_u2
    refine RK.of (RN.blk (ops := [(21, .iload 4), (23, .aload_n 1), (24, .getfield 107)]) (pc' := 27) (lv' := [(0, .inr (.inr 323)), (1, .inr (.inr u1)), (2, .inr (.inr u2)), (3, .inl u3), (4, .inl v4)]) (st' := [.inl (m_rd h u1 2), .inl v4]) (h' := h) (cs := [GK h u1 8]) (by decide +kernel) rfl ⟨k_u1.gk, trivial⟩) ?_
    rcases it_of hF with ⟨hb, hF⟩ | ⟨hb, hF⟩
    · refine RK.of (RN.icf (cd := .ge) (off := 53) (tgt := 80) (by decide +kernel) (mif_gen hb)) ?_
      refine RK.of (RN.blk (ops := [(30, .aload_n 0), (31, .aload_n 2), (32, .iload_n 3), (33, .iload 4)]) (pc' := 35) (lv' := [(0, .inr (.inr 323)), (1, .inr (.inr u1)), (2, .inr (.inr u2)), (3, .inl u3), (4, .inl v4)]) (st' := [.inl v4, .inl u3, .inr (.inr u2), .inr (.inr 323)]) (h' := h) (cs := []) (by decide +kernel) rfl trivial) ?_
      obtain ⟨h1, hG, hF⟩ := bv_of hF
      have hq := rcv_ok (as := [.inr (.inr u2), .inl u3, .inl v4]) (TO.gk (o_323 hL))
      obtain ⟨hN, hL, hQ⟩ := DX0_sendChanged (d := d) hL k_u2 hG
      refine RK.of (RN.cv (i := 121) (k := 7) (q2 := iX0_sendChanged) (as := [.inr (.inr 323), .inr (.inr u2), .inl u3, .inl v4]) (r := []) (v := none) (h1 := h1) (by decide +kernel) rfl rfl rfl rfl rfl hq hN) ?_
      have k_u1 := hQ.to k_u1
      have k_u2 := hQ.to k_u2
      have hK := hK.tr hQ
      have hJ := hJ.tr hQ
      refine RK.of (RN.blk (ops := [(38, .aload_n 0), (39, .aload_n 1), (40, .aload_n 2)]) (pc' := 41) (lv' := [(0, .inr (.inr 323)), (1, .inr (.inr u1)), (2, .inr (.inr u2)), (3, .inl u3), (4, .inl v4)]) (st' := [.inr (.inr u2), .inr (.inr u1), .inr (.inr 323)]) (h' := h1) (cs := []) (by decide +kernel) rfl trivial) ?_
      obtain ⟨h2, hG, hF⟩ := bv_of hF
      have hq := rcv_ok (as := [.inr (.inr u1), .inr (.inr u2)]) (TO.gk (o_323 hL))
      obtain ⟨hN, hL, hQ⟩ := DX0_tryGoals (d := d + 2) hL k_u1 k_u2 hG
      refine RK.of (RN.cv (i := 64) (k := 1) (q2 := iX0_tryGoals) (as := [.inr (.inr 323), .inr (.inr u1), .inr (.inr u2)]) (r := []) (v := none) (h1 := h2) (by decide +kernel) rfl rfl rfl rfl rfl hq hN) ?_
      have k_u1 := hQ.to k_u1
      have k_u2 := hQ.to k_u2
      have hK := hK.tr hQ
      have hJ := hJ.tr hQ
      refine RK.of (RN.blk (ops := [(44, .aload_n 0), (45, .getfield 31), (48, .aload_n 0), (49, .getfield 71)]) (pc' := 52) (lv' := [(0, .inr (.inr 323)), (1, .inr (.inr u1)), (2, .inr (.inr u2)), (3, .inl u3), (4, .inl v4)]) (st' := [.inl (m_rd h2 323 1), .inl (m_rd h2 323 13)]) (h' := h2) (cs := [GK h2 323 0, GK h2 323 0]) (by decide +kernel) rfl ⟨(o_323 hL).gk, (o_323 hL).gk, trivial⟩) ?_
      rcases it_of hF with ⟨hb, hF⟩ | ⟨hb, hF⟩
      · refine RK.of (RN.icf (cd := .ge) (off := 22) (tgt := 74) (by decide +kernel) (mif_gen hb)) ?_
        refine RK.of (RN.blk (ops := [(55, .aload_n 0), (56, .aload_n 0), (57, .getfield 31), (60, .putfield 71)]) (pc' := 63) (lv' := [(0, .inr (.inr 323)), (1, .inr (.inr u1)), (2, .inr (.inr u2)), (3, .inl u3), (4, .inl v4)]) (st' := []) (h' := (m_wr h2 323 1 (m_rd h2 323 13))) (cs := [GK h2 323 0, GK h2 323 0]) (by decide +kernel) rfl ⟨(o_323 hL).gk, (o_323 hL).gk, trivial⟩) ?_
        have hL : LR (m_wr h2 323 1 (m_rd h2 323 13)) := LR.wf (k := 1) hL (o_323 hL) rfl
        have k_u1 := (KD.wr : KD h2 (m_wr h2 323 1 (m_rd h2 323 13))).to k_u1
        have k_u2 := (KD.wr : KD h2 (m_wr h2 323 1 (m_rd h2 323 13))).to k_u2
        have hK := hK.tr (KD.wr : KD h2 (m_wr h2 323 1 (m_rd h2 323 13)))
        have hJ := hJ.tr (KD.wr : KD h2 (m_wr h2 323 1 (m_rd h2 323 13)))
        refine RK.of (RN.blk (ops := [(63, .aload_n 0), (64, .iload_n 3), (65, .putfield 80)]) (pc' := 68) (lv' := [(0, .inr (.inr 323)), (1, .inr (.inr u1)), (2, .inr (.inr u2)), (3, .inl u3), (4, .inl v4)]) (st' := []) (h' := (m_wr (m_wr h2 323 1 (m_rd h2 323 13)) 323 4 u3)) (cs := [GK (m_wr h2 323 1 (m_rd h2 323 13)) 323 0]) (by decide +kernel) rfl ⟨(o_323 hL).gk, trivial⟩) ?_
        have hL : LR (m_wr (m_wr h2 323 1 (m_rd h2 323 13)) 323 4 u3) := LR.wf (k := 4) hL (o_323 hL) rfl
        have k_u1 := (KD.wr : KD (m_wr h2 323 1 (m_rd h2 323 13)) (m_wr (m_wr h2 323 1 (m_rd h2 323 13)) 323 4 u3)).to k_u1
        have k_u2 := (KD.wr : KD (m_wr h2 323 1 (m_rd h2 323 13)) (m_wr (m_wr h2 323 1 (m_rd h2 323 13)) 323 4 u3)).to k_u2
        have hK := hK.tr (KD.wr : KD (m_wr h2 323 1 (m_rd h2 323 13)) (m_wr (m_wr h2 323 1 (m_rd h2 323 13)) 323 4 u3))
        have hJ := hJ.tr (KD.wr : KD (m_wr h2 323 1 (m_rd h2 323 13)) (m_wr (m_wr h2 323 1 (m_rd h2 323 13)) 323 4 u3))
        refine RK.of (RN.blk (ops := [(68, .aload_n 0), (69, .iload 4), (71, .putfield 83)]) (pc' := 74) (lv' := [(0, .inr (.inr 323)), (1, .inr (.inr u1)), (2, .inr (.inr u2)), (3, .inl u3), (4, .inl v4)]) (st' := []) (h' := (m_wr (m_wr (m_wr h2 323 1 (m_rd h2 323 13)) 323 4 u3) 323 5 v4)) (cs := [GK (m_wr (m_wr h2 323 1 (m_rd h2 323 13)) 323 4 u3) 323 0]) (by decide +kernel) rfl ⟨(o_323 hL).gk, trivial⟩) ?_
        have hL : LR (m_wr (m_wr (m_wr h2 323 1 (m_rd h2 323 13)) 323 4 u3) 323 5 v4) := LR.wf (k := 5) hL (o_323 hL) rfl
        have k_u1 := (KD.wr : KD (m_wr (m_wr h2 323 1 (m_rd h2 323 13)) 323 4 u3) (m_wr (m_wr (m_wr h2 323 1 (m_rd h2 323 13)) 323 4 u3) 323 5 v4)).to k_u1
        have k_u2 := (KD.wr : KD (m_wr (m_wr h2 323 1 (m_rd h2 323 13)) 323 4 u3) (m_wr (m_wr (m_wr h2 323 1 (m_rd h2 323 13)) 323 4 u3) 323 5 v4)).to k_u2
        have hK := hK.tr (KD.wr : KD (m_wr (m_wr h2 323 1 (m_rd h2 323 13)) 323 4 u3) (m_wr (m_wr (m_wr h2 323 1 (m_rd h2 323 13)) 323 4 u3) 323 5 v4))
        have hJ := hJ.tr (KD.wr : KD (m_wr (m_wr h2 323 1 (m_rd h2 323 13)) 323 4 u3) (m_wr (m_wr (m_wr h2 323 1 (m_rd h2 323 13)) 323 4 u3) 323 5 v4))
        refine RK.of (RN.blk (ops := [(74, .iinc 4 1)]) (pc' := 77) (lv' := [(4, .inl (m_w32 (v4 + 1))), (0, .inr (.inr 323)), (1, .inr (.inr u1)), (2, .inr (.inr u2)), (3, .inl u3)]) (st' := []) (h' := (m_wr (m_wr (m_wr h2 323 1 (m_rd h2 323 13)) 323 4 u3) 323 5 v4)) (cs := []) (by decide +kernel) rfl trivial) ?_
        refine RK.of (RN.goto (off := -56) (tgt := 21) (by decide +kernel)) ?_
        exact RK.sub (ih _ _ hL hJ hF) (sub_cons rfl (sub_cons rfl (sub_cons rfl (sub_cons rfl (sub_cons rfl sub_nil)))))
      · refine RK.of (RN.ict (cd := .ge) (off := 22) (tgt := 74) (by decide +kernel) (mif_ge hb)) ?_
        refine RK.of (RN.blk (ops := [(74, .iinc 4 1)]) (pc' := 77) (lv' := [(4, .inl (m_w32 (v4 + 1))), (0, .inr (.inr 323)), (1, .inr (.inr u1)), (2, .inr (.inr u2)), (3, .inl u3)]) (st' := []) (h' := h2) (cs := []) (by decide +kernel) rfl trivial) ?_
        refine RK.of (RN.goto (off := -56) (tgt := 21) (by decide +kernel)) ?_
        exact RK.sub (ih _ _ hL hJ hF) (sub_cons rfl (sub_cons rfl (sub_cons rfl (sub_cons rfl (sub_cons rfl sub_nil)))))
    · refine RK.of (RN.ict (cd := .ge) (off := 53) (tgt := 80) (by decide +kernel) (mif_ge hb)) ?_
      exact RK.sub (hK0 _ hL hJ hF) (sub_cons rfl (sub_cons rfl (sub_cons rfl (sub_cons rfl sub_nil))))
noncomputable def GX0_seekChange_L8 (u1 : Int) (u2 : Int) (K0 : MH → Option (MH)) : Nat → Int → MH → Option (MH)
  | 0, _, _ => none
  | f + 1, v3, h =>
    (if v3 < (m_rd h u1 2) then
     GX0_seekChange_L21 u1 u2 v3 (fun h1 =>
      GX0_seekChange_L8 u1 u2 K0 f (m_w32 (v3 + 1)) h1) FU (m_w32 (v3 + 1)) h
    else
     K0 h)
theorem DX0_seekChange_L8 {d : Nat} {u1 : Int} {u2 : Int} {K0 : MH → Option (MH)} {r : MH} {h0 hB : MH} (hB0 : KD h0 hB) (k0_u1 : TO hB u1 8) (k0_u2 : TO hB u2 10) (hK0 : ∀ (h : MH), LR h → KD hB h → K0 h = some r → RK xs L iX0_seekChange (d + 4) 86 [] [] h (RVo r) h0 r) : ∀ (f : Nat) (v3 : Int) (h : MH), LR h → KD hB h → GX0_seekChange_L8 u1 u2 K0 f v3 h = some r → RK xs L iX0_seekChange (d + 4) 8 [(0, .inr (.inr 323)), (1, .inr (.inr u1)), (2, .inr (.inr u2)), (3, .inl v3)] [] h (RVo r) h0 r := by
  intro f
  induction f with
  | zero =>
    intro v3 h hL hJ hF
    cases hF
  | succ f ih =>
    intro v3 h hL hJ hF
    unfold GX0_seekChange_L8 at hF
    have hK := hB0.tr hJ
    have k_u1 := hJ.to k0_u1
    have k_u2 := hJ.to k0_u2
    refine RK.of (RN.blk (ops := [(8, .iload_n 3), (9, .aload_n 1), (10, .getfield 107)]) (pc' := 13) (lv' := [(0, .inr (.inr 323)), (1, .inr (.inr u1)), (2, .inr (.inr u2)), (3, .inl v3)]) (st' := [.inl (m_rd h u1 2), .inl v3]) (h' := h) (cs := [GK h u1 8]) (by decide +kernel) rfl ⟨k_u1.gk, trivial⟩) ?_
    rcases it_of hF with ⟨hb, hF⟩ | ⟨hb, hF⟩
    · refine RK.of (RN.icf (cd := .ge) (off := 73) (tgt := 86) (by decide +kernel) (mif_gen hb)) ?_
      refine RK.of (RN.blk (ops := [(16, .iload_n 3), (17, .iconst 1), (18, .iadd), (19, .istore 4)]) (pc' := 21) (lv' := [(4, .inl (m_w32 (v3 + 1))), (0, .inr (.inr 323)), (1, .inr (.inr u1)), (2, .inr (.inr u2)), (3, .inl v3)]) (st' := []) (h' := h) (cs := []) (by decide +kernel) rfl trivial) ?_
      refine RK.sub (DX0_seekChange_L21 hK k_u1 k_u2 ?_ _ _ _ hL KD.rf hF) (sub_cons rfl (sub_cons rfl (sub_cons rfl (sub_cons rfl (sub_cons rfl sub_nil)))))
      · intro h1 hL hq hF
        have k_u1 := hq.to k_u1
        have k_u2 := hq.to k_u2
        have hK := hK.tr hq
        have hJ := hJ.tr hq
        refine RK.of (RN.blk (ops := [(80, .iinc 3 1)]) (pc' := 83) (lv' := [(3, .inl (m_w32 (v3 + 1))), (0, .inr (.inr 323)), (1, .inr (.inr u1)), (2, .inr (.inr u2))]) (st' := []) (h' := h1) (cs := []) (by decide +kernel) rfl trivial) ?_
        refine RK.of (RN.goto (off := -75) (tgt := 8) (by decide +kernel)) ?_
        exact RK.sub (ih _ _ hL hJ hF) (sub_cons rfl (sub_cons rfl (sub_cons rfl (sub_cons rfl sub_nil))))
    · refine RK.of (RN.ict (cd := .ge) (off := 73) (tgt := 86) (by decide +kernel) (mif_ge hb)) ?_
      exact RK.sub (hK0 _ hL hJ hF) sub_nil
noncomputable def GX0_seekChange (a1 : Int) (a2 : Int) (h : MH) : Option (MH) :=
  (bv (GX0_tryAsIs a1 a2 h) (fun h1 =>
   GX0_seekChange_L8 a1 a2 (fun h2 =>
    some h2) FU 0 h1))
theorem DX0_seekChange {d : Nat} {a1 : Int} {a2 : Int} {h : MH} {r : MH} (hL : LR h) (k0_a1 : TO h a1 8) (k0_a2 : TO h a2 10) (hF : GX0_seekChange a1 a2 h = some r) : RN xs L iX0_seekChange (d + 4) 0 (lvE 0 [.inr (.inr 323), .inr (.inr a1), .inr (.inr a2)]) [] h (RVo r) ∧ LR r ∧ KD h r := by
  unfold GX0_seekChange at hF
  have hK : KD h h := KD.rf
  have k_a1 := k0_a1
  have k_a2 := k0_a2
  show RK xs L iX0_seekChange (d + 4) 0 (lvE 0 [.inr (.inr 323), .inr (.inr a1), .inr (.inr a2)]) [] h (RVo r) h r
  refine RK.of (RN.blk (ops := [(0, .aload_n 0), (1, .aload_n 1), (2, .aload_n 2)]) (pc' := 3) (lv' := [(0, .inr (.inr 323)), (1, .inr (.inr a1)), (2, .inr (.inr a2))]) (st' := [.inr (.inr a2), .inr (.inr a1), .inr (.inr 323)]) (h' := h) (cs := []) (by decide +kernel) rfl trivial) ?_
  obtain ⟨h1, hG, hF⟩ := bv_of hF
  have hq := rcv_ok (as := [.inr (.inr a1), .inr (.inr a2)]) (TO.gk (o_323 hL))
  obtain ⟨hN, hL, hQ⟩ := DX0_tryAsIs (d := d) hL k_a1 k_a2 hG
  refine RK.of (RN.cv (i := 86) (k := 2) (q2 := iX0_tryAsIs) (as := [.inr (.inr 323), .inr (.inr a1), .inr (.inr a2)]) (r := []) (v := none) (h1 := h1) (by decide +kernel) rfl rfl rfl rfl rfl hq hN) ?_
  have k_a1 := hQ.to k_a1
  have k_a2 := hQ.to k_a2
  have hK := hK.tr hQ
  refine RK.of (RN.blk (ops := [(6, .iconst 0), (7, .istore_n 3)]) (pc' := 8) (lv' := [(3, .inl 0), (0, .inr (.inr 323)), (1, .inr (.inr a1)), (2, .inr (.inr a2))]) (st' := []) (h' := h1) (cs := []) (by decide +kernel) rfl trivial) ?_
  refine RK.sub (DX0_seekChange_L8 hK k_a1 k_a2 ?_ _ _ _ hL KD.rf hF) (sub_cons rfl (sub_cons rfl (sub_cons rfl (sub_cons rfl sub_nil))))
  · intro h2 hL hq hF
    have k_a1 := hq.to k_a1
    have k_a2 := hq.to k_a2
    have hK := hK.tr hq
    exact RK.vR (by decide +kernel) rfl hL hK hF
end Gc
