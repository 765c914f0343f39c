/-! METHODS AS FUNCTIONS, references resolved (by program): X12_isRule, X12_push, X12_pop, X12_sumOfTwo, X12_reckons, X12_isFrame, X12_codesMany, X12_isHole, X12_isEntry, X12_isCode, X12_prefixOf, X12_entryOf, X12_holeOf, X12_sumOver, X12_force, X12_hole, X12_entry, X12_waits, X12_summedBy, X12_sumOf -/
section Gc
variable {xs : Int → Int} {L : Int}
noncomputable def GX12_isRule (a1 : Int) (h : MH) : Option (Int × MH) :=
  (if a1 < 0 then
   some (0, h)
  else
   (if a1 < (m_rd h 334 2) then
    some (1, h)
   else
    some (0, h)))
theorem DX12_isRule {d : Nat} {a1 : Int} {h : MH} {r : Int × MH} (hL : LR h) (hF : GX12_isRule a1 h = some r) : RN xs L iX12_isRule (d) 0 (lvE 0 [.inr (.inr 334), .inl a1]) [] h (RIo r) ∧ LR r.2 ∧ KD h r.2 := by
  unfold GX12_isRule at hF
  have hK : KD h h := KD.rf
  show RK xs L iX12_isRule (d) 0 (lvE 0 [.inr (.inr 334), .inl a1]) [] h (RIo r) h r.2
  refine RK.of (RN.blk (ops := [(0, .iload_n 1)]) (pc' := 1) (lv' := [(0, .inr (.inr 334)), (1, .inl a1)]) (st' := [.inl a1]) (h' := h) (cs := []) (by decide +kernel) rfl trivial) ?_
  rcases it_of hF with ⟨hb, hF⟩ | ⟨hb, hF⟩
  · refine RK.of (RN.ift (cd := .lt) (off := 15) (tgt := 16) (by decide +kernel) (mif_lt hb)) ?_
    refine RK.of (RN.blk (ops := [(16, .iconst 0)]) (pc' := 17) (lv' := [(0, .inr (.inr 334)), (1, .inl a1)]) (st' := [.inl 0]) (h' := h) (cs := []) (by decide +kernel) rfl trivial) ?_
    exact RK.zR (by decide +kernel) rfl (Or.inl rfl) hL hK hF
  · refine RK.of (RN.iff (cd := .lt) (off := 15) (tgt := 16) (by decide +kernel) (mif_ltn hb)) ?_
    refine RK.of (RN.blk (ops := [(4, .iload_n 1), (5, .aload_n 0), (6, .getfield 268)]) (pc' := 9) (lv' := [(0, .inr (.inr 334)), (1, .inl a1)]) (st' := [.inl (m_rd h 334 2), .inl a1]) (h' := h) (cs := [GK h 334 12]) (by decide +kernel) rfl ⟨(o_334 hL).gk, trivial⟩) ?_
    rcases it_of hF with ⟨hb, hF⟩ | ⟨hb, hF⟩
    · refine RK.of (RN.icf (cd := .ge) (off := 7) (tgt := 16) (by decide +kernel) (mif_gen hb)) ?_
      refine RK.of (RN.blk (ops := [(12, .iconst 1)]) (pc' := 13) (lv' := [(0, .inr (.inr 334)), (1, .inl a1)]) (st' := [.inl 1]) (h' := h) (cs := []) (by decide +kernel) rfl trivial) ?_
      refine RK.of (RN.goto (off := 4) (tgt := 17) (by decide +kernel)) ?_
      exact RK.zR (by decide +kernel) rfl (Or.inr rfl) hL hK hF
    · refine RK.of (RN.ict (cd := .ge) (off := 7) (tgt := 16) (by decide +kernel) (mif_ge hb)) ?_
      refine RK.of (RN.blk (ops := [(16, .iconst 0)]) (pc' := 17) (lv' := [(0, .inr (.inr 334)), (1, .inl a1)]) (st' := [.inl 0]) (h' := h) (cs := []) (by decide +kernel) rfl trivial) ?_
      exact RK.zR (by decide +kernel) rfl (Or.inl rfl) hL hK hF
noncomputable def GX12_push (a1 : Int) (h : MH) : Option (MH) :=
  gd [IB (m_rd h 334 18) 64] (
   some (m_wr (m_wr h 342 (m_rd h 334 18) a1) 334 18 (m_w32 ((m_rd (m_wr h 342 (m_rd h 334 18) a1) 334 18) + 1))))
theorem DX12_push {d : Nat} {a1 : Int} {h : MH} {r : MH} (hL : LR h) (hF : GX12_push a1 h = some r) : RN xs L iX12_push (d) 0 (lvE 0 [.inr (.inr 334), .inr (.inl a1)]) [] h (RVo r) ∧ LR r ∧ KD h r := by
  unfold GX12_push at hF
  have hK : KD h h := KD.rf
  show RK xs L iX12_push (d) 0 (lvE 0 [.inr (.inr 334), .inr (.inl a1)]) [] h (RVo r) h r
  refine RK.of (RN.blk (ops := [(0, .aload_n 0)]) (pc' := 1) (lv' := [(0, .inr (.inr 334)), (1, .inr (.inl a1))]) (st' := [.inr (.inr 334)]) (h' := h) (cs := []) (by decide +kernel) rfl trivial) ?_
  refine RK.of (RN.gr (i := 32) (ci := 12) (k := 17) (fn := true) (v := 342) (by decide +kernel) rfl (TO.gk (o_334 hL)) (hL.fa (v := 342) 17 2 64 (o_334 hL) rfl (by decide) rfl (by decide)).1) ?_
  obtain ⟨hc, hF⟩ := gd_of hF
  refine RK.of (RN.blk (ops := [(4, .aload_n 0), (5, .getfield 280), (8, .lload_n 1), (9, .lastore)]) (pc' := 10) (lv' := [(0, .inr (.inr 334)), (1, .inr (.inl a1))]) (st' := []) (h' := (m_wr h 342 (m_rd h 334 18) a1)) (cs := [GK h 334 12, GI h 342 2 (m_rd h 334 18)]) (by decide +kernel) rfl ⟨(o_334 hL).gk, (a_342 hL).gi hc.1.1 hc.1.2, trivial⟩) ?_
  have hL : LR (m_wr h 342 (m_rd h 334 18) a1) := hL.wa (TA.le5 (a_342 hL) (by decide))
  have hK := hK.tr (KD.wr : KD h (m_wr h 342 (m_rd h 334 18) a1))
  refine RK.of (RN.blk (ops := [(10, .aload_n 0), (11, .dup), (12, .getfield 280), (15, .iconst 1), (16, .iadd), (17, .putfield 280)]) (pc' := 20) (lv' := [(0, .inr (.inr 334)), (1, .inr (.inl a1))]) (st' := []) (h' := (m_wr (m_wr h 342 (m_rd h 334 18) a1) 334 18 (m_w32 ((m_rd (m_wr h 342 (m_rd h 334 18) a1) 334 18) + 1)))) (cs := [GK (m_wr h 342 (m_rd h 334 18) a1) 334 12, GK (m_wr h 342 (m_rd h 334 18) a1) 334 12]) (by decide +kernel) rfl ⟨(o_334 hL).gk, (o_334 hL).gk, trivial⟩) ?_
  have hL : LR (m_wr (m_wr h 342 (m_rd h 334 18) a1) 334 18 (m_w32 ((m_rd (m_wr h 342 (m_rd h 334 18) a1) 334 18) + 1))) := LR.wf (k := 18) hL (o_334 hL) rfl
  have hK := hK.tr (KD.wr : KD (m_wr h 342 (m_rd h 334 18) a1) (m_wr (m_wr h 342 (m_rd h 334 18) a1) 334 18 (m_w32 ((m_rd (m_wr h 342 (m_rd h 334 18) a1) 334 18) + 1))))
  exact RK.vR (by decide +kernel) rfl hL hK hF
noncomputable def GX12_pop (h : MH) : Option (Int × MH) :=
  gd [IB (m_rd (m_wr h 334 18 (m_w32 ((m_rd h 334 18) - 1))) 334 18) 64] (
   some ((m_rd (m_wr h 334 18 (m_w32 ((m_rd h 334 18) - 1))) 342 (m_rd (m_wr h 334 18 (m_w32 ((m_rd h 334 18) - 1))) 334 18)), (m_wr h 334 18 (m_w32 ((m_rd h 334 18) - 1)))))
theorem DX12_pop {d : Nat} {h : MH} {r : Int × MH} (hL : LR h) (hF : GX12_pop h = some r) : RN xs L iX12_pop (d) 0 (lvE 0 [.inr (.inr 334)]) [] h (RJo r) ∧ LR r.2 ∧ KD h r.2 := by
  unfold GX12_pop at hF
  have hK : KD h h := KD.rf
  show RK xs L iX12_pop (d) 0 (lvE 0 [.inr (.inr 334)]) [] h (RJo r) h r.2
  refine RK.of (RN.blk (ops := [(0, .aload_n 0), (1, .dup), (2, .getfield 280), (5, .iconst 1), (6, .isub), (7, .putfield 280)]) (pc' := 10) (lv' := [(0, .inr (.inr 334))]) (st' := []) (h' := (m_wr h 334 18 (m_w32 ((m_rd h 334 18) - 1)))) (cs := [GK h 334 12, GK h 334 12]) (by decide +kernel) rfl ⟨(o_334 hL).gk, (o_334 hL).gk, trivial⟩) ?_
  have hL : LR (m_wr h 334 18 (m_w32 ((m_rd h 334 18) - 1))) := LR.wf (k := 18) hL (o_334 hL) rfl
  have hK := hK.tr (KD.wr : KD h (m_wr h 334 18 (m_w32 ((m_rd h 334 18) - 1))))
  refine RK.of (RN.blk (ops := [(10, .aload_n 0)]) (pc' := 11) (lv' := [(0, .inr (.inr 334))]) (st' := [.inr (.inr 334)]) (h' := (m_wr h 334 18 (m_w32 ((m_rd h 334 18) - 1)))) (cs := []) (by decide +kernel) rfl trivial) ?_
  refine RK.of (RN.gr (i := 32) (ci := 12) (k := 17) (fn := true) (v := 342) (by decide +kernel) rfl (TO.gk (o_334 hL)) (hL.fa (v := 342) 17 2 64 (o_334 hL) rfl (by decide) rfl (by decide)).1) ?_
  obtain ⟨hc, hF⟩ := gd_of hF
  refine RK.of (RN.blk (ops := [(14, .aload_n 0), (15, .getfield 280), (18, .laload)]) (pc' := 19) (lv' := [(0, .inr (.inr 334))]) (st' := [.inr (.inl (m_rd (m_wr h 334 18 (m_w32 ((m_rd h 334 18) - 1))) 342 (m_rd (m_wr h 334 18 (m_w32 ((m_rd h 334 18) - 1))) 334 18)))]) (h' := (m_wr h 334 18 (m_w32 ((m_rd h 334 18) - 1)))) (cs := [GK (m_wr h 334 18 (m_w32 ((m_rd h 334 18) - 1))) 334 12, GI (m_wr h 334 18 (m_w32 ((m_rd h 334 18) - 1))) 342 2 (m_rd (m_wr h 334 18 (m_w32 ((m_rd h 334 18) - 1))) 334 18)]) (by decide +kernel) rfl ⟨(o_334 hL).gk, (a_342 hL).gi hc.1.1 hc.1.2, trivial⟩) ?_
  exact RK.lR (by decide +kernel) rfl hL hK hF
noncomputable def GX12_sumOfTwo (a1 : Int) (a2 : Int) (a3 : Int) (h : MH) : Option (Int × MH) :=
  (if a1 = 2 then
   some ((m_w64 (a2 + a3)), h)
  else
  (if a1 = 3 then
   some ((m_w64 (a2 - a3)), h)
  else
  (if a1 = 4 then
   some ((m_w64 (a2 * a3)), h)
  else
  (if a1 = 5 then
   (if (m_lcmp a3 0) = 0 then
    some (0, h)
   else
    gd [(a3 : Int) ≠ 0] (
     some ((m_w64 (Int.tdiv a2 a3)), h)))
  else
  (if a1 = 6 then
   (if (m_lcmp a2 a3) < 0 then
    some (1, h)
   else
    some (0, h))
  else
  (if a1 = 7 then
   (if 0 < (m_lcmp a2 a3) then
    some (0, h)
   else
    some (1, h))
  else
  (if a1 = 8 then
   (if (m_lcmp a2 a3) = 0 then
    some (1, h)
   else
    some (0, h))
  else
  (if a1 = 9 then
   (if (m_lcmp a2 a3) < 0 then
    some (0, h)
   else
    some (1, h))
  else
  (if a1 = 10 then
   (if 0 < (m_lcmp a2 a3) then
    some (1, h)
   else
    some (0, h))
  else
  (if a1 = 11 then
   some ((m_lor a2 a3), h)
  else
  (if a1 = 12 then
   some ((m_land a2 a3), h)
  else
  (if a1 = 13 then
   some ((m_lor a2 a3), h)
  else
  (if a1 = 14 then
   (if (m_lcmp a3 0) = 0 then
    some (0, h)
   else
    gd [(a3 : Int) ≠ 0] (
     some ((Int.tmod a2 a3), h)))
  else
   some ((m_lor a2 a3), h))))))))))))))
theorem DX12_sumOfTwo {d : Nat} {a1 : Int} {a2 : Int} {a3 : Int} {h : MH} {r : Int × MH} (hL : LR h) (hF : GX12_sumOfTwo a1 a2 a3 h = some r) : RN xs L iX12_sumOfTwo (d) 0 (lvE 0 [.inl a1, .inr (.inl a2), .inr (.inl a3)]) [] h (RJo r) ∧ LR r.2 ∧ KD h r.2 := by
  unfold GX12_sumOfTwo at hF
  have hK : KD h h := KD.rf
  show RK xs L iX12_sumOfTwo (d) 0 (lvE 0 [.inl a1, .inr (.inl a2), .inr (.inl a3)]) [] h (RJo r) h r.2
  refine RK.of (RN.blk (ops := [(0, .iload_n 0)]) (pc' := 1) (lv' := [(0, .inl a1), (1, .inr (.inl a2)), (3, .inr (.inl a3))]) (st' := [.inl a1]) (h' := h) (cs := []) (by decide +kernel) rfl trivial) ?_
  rcases it_of hF with ⟨hb0, hF⟩ | ⟨hb0, hF⟩
  · refine RK.of (fun k9 => RN.tsw (dflt := 171) (lo := 2) (hi := 14) (offs := #[67, 71, 75, 79, 107, 119, 131, 143, 155, 171, 167, 171, 93]) (by decide +kernel) (RN.sth hb0 (tgt := 68) rfl k9)) ?_
    refine RK.of (RN.blk (ops := [(68, .lload_n 1), (69, .lload_n 3), (70, .ladd)]) (pc' := 71) (lv' := [(0, .inl a1), (1, .inr (.inl a2)), (3, .inr (.inl a3))]) (st' := [.inr (.inl (m_w64 (a2 + a3)))]) (h' := h) (cs := []) (by decide +kernel) rfl trivial) ?_
    exact RK.lR (by decide +kernel) rfl hL hK hF
  rcases it_of hF with ⟨hb1, hF⟩ | ⟨hb1, hF⟩
  · refine RK.of (fun k9 => RN.tsw (dflt := 171) (lo := 2) (hi := 14) (offs := #[67, 71, 75, 79, 107, 119, 131, 143, 155, 171, 167, 171, 93]) (by decide +kernel) (RN.stm hb0 (RN.sth hb1 (tgt := 72) rfl k9))) ?_
    refine RK.of (RN.blk (ops := [(72, .lload_n 1), (73, .lload_n 3), (74, .lsub)]) (pc' := 75) (lv' := [(0, .inl a1), (1, .inr (.inl a2)), (3, .inr (.inl a3))]) (st' := [.inr (.inl (m_w64 (a2 - a3)))]) (h' := h) (cs := []) (by decide +kernel) rfl trivial) ?_
    exact RK.lR (by decide +kernel) rfl hL hK hF
  rcases it_of hF with ⟨hb2, hF⟩ | ⟨hb2, hF⟩
  · refine RK.of (fun k9 => RN.tsw (dflt := 171) (lo := 2) (hi := 14) (offs := #[67, 71, 75, 79, 107, 119, 131, 143, 155, 171, 167, 171, 93]) (by decide +kernel) (RN.stm hb0 (RN.stm hb1 (RN.sth hb2 (tgt := 76) rfl k9)))) ?_
    refine RK.of (RN.blk (ops := [(76, .lload_n 1), (77, .lload_n 3), (78, .lmul)]) (pc' := 79) (lv' := [(0, .inl a1), (1, .inr (.inl a2)), (3, .inr (.inl a3))]) (st' := [.inr (.inl (m_w64 (a2 * a3)))]) (h' := h) (cs := []) (by decide +kernel) rfl trivial) ?_
    exact RK.lR (by decide +kernel) rfl hL hK hF
  rcases it_of hF with ⟨hb3, hF⟩ | ⟨hb3, hF⟩
  · refine RK.of (fun k9 => RN.tsw (dflt := 171) (lo := 2) (hi := 14) (offs := #[67, 71, 75, 79, 107, 119, 131, 143, 155, 171, 167, 171, 93]) (by decide +kernel) (RN.stm hb0 (RN.stm hb1 (RN.stm hb2 (RN.sth hb3 (tgt := 80) rfl k9))))) ?_
    refine RK.of (RN.blk (ops := [(80, .lload_n 3), (81, .lconst 0), (82, .lcmp)]) (pc' := 83) (lv' := [(0, .inl a1), (1, .inr (.inl a2)), (3, .inr (.inl a3))]) (st' := [.inl (m_lcmp a3 0)]) (h' := h) (cs := []) (by decide +kernel) rfl trivial) ?_
    rcases it_of hF with ⟨hb, hF⟩ | ⟨hb, hF⟩
    · refine RK.of (RN.iff (cd := .ne) (off := 7) (tgt := 90) (by decide +kernel) (mif_nen hb)) ?_
      refine RK.of (RN.blk (ops := [(86, .lconst 0)]) (pc' := 87) (lv' := [(0, .inl a1), (1, .inr (.inl a2)), (3, .inr (.inl a3))]) (st' := [.inr (.inl 0)]) (h' := h) (cs := []) (by decide +kernel) rfl trivial) ?_
      refine RK.of (RN.goto (off := 6) (tgt := 93) (by decide +kernel)) ?_
      exact RK.lR (by decide +kernel) rfl hL hK hF
    · refine RK.of (RN.ift (cd := .ne) (off := 7) (tgt := 90) (by decide +kernel) (mif_ne hb)) ?_
      obtain ⟨hc, hF⟩ := gd_of hF
      refine RK.of (RN.blk (ops := [(90, .lload_n 1), (91, .lload_n 3), (92, .ldiv)]) (pc' := 93) (lv' := [(0, .inl a1), (1, .inr (.inl a2)), (3, .inr (.inl a3))]) (st' := [.inr (.inl (m_w64 (Int.tdiv a2 a3)))]) (h' := h) (cs := [(a3 : Int) ≠ 0]) (by decide +kernel) rfl ⟨hc.1, trivial⟩) ?_
      exact RK.lR (by decide +kernel) rfl hL hK hF
  rcases it_of hF with ⟨hb4, hF⟩ | ⟨hb4, hF⟩
  · refine RK.of (fun k9 => RN.tsw (dflt := 171) (lo := 2) (hi := 14) (offs := #[67, 71, 75, 79, 107, 119, 131, 143, 155, 171, 167, 171, 93]) (by decide +kernel) (RN.stm hb0 (RN.stm hb1 (RN.stm hb2 (RN.stm hb3 (RN.sth hb4 (tgt := 108) rfl k9)))))) ?_
    refine RK.of (RN.blk (ops := [(108, .lload_n 1), (109, .lload_n 3), (110, .lcmp)]) (pc' := 111) (lv' := [(0, .inl a1), (1, .inr (.inl a2)), (3, .inr (.inl a3))]) (st' := [.inl (m_lcmp a2 a3)]) (h' := h) (cs := []) (by decide +kernel) rfl trivial) ?_
    rcases it_of hF with ⟨hb, hF⟩ | ⟨hb, hF⟩
    · refine RK.of (RN.iff (cd := .ge) (off := 7) (tgt := 118) (by decide +kernel) (mif_gen hb)) ?_
      refine RK.of (RN.blk (ops := [(114, .lconst 1)]) (pc' := 115) (lv' := [(0, .inl a1), (1, .inr (.inl a2)), (3, .inr (.inl a3))]) (st' := [.inr (.inl 1)]) (h' := h) (cs := []) (by decide +kernel) rfl trivial) ?_
      refine RK.of (RN.goto (off := 4) (tgt := 119) (by decide +kernel)) ?_
      exact RK.lR (by decide +kernel) rfl hL hK hF
    · refine RK.of (RN.ift (cd := .ge) (off := 7) (tgt := 118) (by decide +kernel) (mif_ge hb)) ?_
      refine RK.of (RN.blk (ops := [(118, .lconst 0)]) (pc' := 119) (lv' := [(0, .inl a1), (1, .inr (.inl a2)), (3, .inr (.inl a3))]) (st' := [.inr (.inl 0)]) (h' := h) (cs := []) (by decide +kernel) rfl trivial) ?_
      exact RK.lR (by decide +kernel) rfl hL hK hF
  rcases it_of hF with ⟨hb5, hF⟩ | ⟨hb5, hF⟩
  · refine RK.of (fun k9 => RN.tsw (dflt := 171) (lo := 2) (hi := 14) (offs := #[67, 71, 75, 79, 107, 119, 131, 143, 155, 171, 167, 171, 93]) (by decide +kernel) (RN.stm hb0 (RN.stm hb1 (RN.stm hb2 (RN.stm hb3 (RN.stm hb4 (RN.sth hb5 (tgt := 120) rfl k9))))))) ?_
    refine RK.of (RN.blk (ops := [(120, .lload_n 1), (121, .lload_n 3), (122, .lcmp)]) (pc' := 123) (lv' := [(0, .inl a1), (1, .inr (.inl a2)), (3, .inr (.inl a3))]) (st' := [.inl (m_lcmp a2 a3)]) (h' := h) (cs := []) (by decide +kernel) rfl trivial) ?_
    rcases it_of hF with ⟨hb, hF⟩ | ⟨hb, hF⟩
    · refine RK.of (RN.ift (cd := .gt) (off := 7) (tgt := 130) (by decide +kernel) (mif_gt hb)) ?_
      refine RK.of (RN.blk (ops := [(130, .lconst 0)]) (pc' := 131) (lv' := [(0, .inl a1), (1, .inr (.inl a2)), (3, .inr (.inl a3))]) (st' := [.inr (.inl 0)]) (h' := h) (cs := []) (by decide +kernel) rfl trivial) ?_
      exact RK.lR (by decide +kernel) rfl hL hK hF
    · refine RK.of (RN.iff (cd := .gt) (off := 7) (tgt := 130) (by decide +kernel) (mif_gtn hb)) ?_
      refine RK.of (RN.blk (ops := [(126, .lconst 1)]) (pc' := 127) (lv' := [(0, .inl a1), (1, .inr (.inl a2)), (3, .inr (.inl a3))]) (st' := [.inr (.inl 1)]) (h' := h) (cs := []) (by decide +kernel) rfl trivial) ?_
      refine RK.of (RN.goto (off := 4) (tgt := 131) (by decide +kernel)) ?_
      exact RK.lR (by decide +kernel) rfl hL hK hF
  rcases it_of hF with ⟨hb6, hF⟩ | ⟨hb6, hF⟩
  · refine RK.of (fun k9 => RN.tsw (dflt := 171) (lo := 2) (hi := 14) (offs := #[67, 71, 75, 79, 107, 119, 131, 143, 155, 171, 167, 171, 93]) (by decide +kernel) (RN.stm hb0 (RN.stm hb1 (RN.stm hb2 (RN.stm hb3 (RN.stm hb4 (RN.stm hb5 (RN.sth hb6 (tgt := 132) rfl k9)))))))) ?_
    refine RK.of (RN.blk (ops := [(132, .lload_n 1), (133, .lload_n 3), (134, .lcmp)]) (pc' := 135) (lv' := [(0, .inl a1), (1, .inr (.inl a2)), (3, .inr (.inl a3))]) (st' := [.inl (m_lcmp a2 a3)]) (h' := h) (cs := []) (by decide +kernel) rfl trivial) ?_
    rcases it_of hF with ⟨hb, hF⟩ | ⟨hb, hF⟩
    · refine RK.of (RN.iff (cd := .ne) (off := 7) (tgt := 142) (by decide +kernel) (mif_nen hb)) ?_
      refine RK.of (RN.blk (ops := [(138, .lconst 1)]) (pc' := 139) (lv' := [(0, .inl a1), (1, .inr (.inl a2)), (3, .inr (.inl a3))]) (st' := [.inr (.inl 1)]) (h' := h) (cs := []) (by decide +kernel) rfl trivial) ?_
      refine RK.of (RN.goto (off := 4) (tgt := 143) (by decide +kernel)) ?_
      exact RK.lR (by decide +kernel) rfl hL hK hF
    · refine RK.of (RN.ift (cd := .ne) (off := 7) (tgt := 142) (by decide +kernel) (mif_ne hb)) ?_
      refine RK.of (RN.blk (ops := [(142, .lconst 0)]) (pc' := 143) (lv' := [(0, .inl a1), (1, .inr (.inl a2)), (3, .inr (.inl a3))]) (st' := [.inr (.inl 0)]) (h' := h) (cs := []) (by decide +kernel) rfl trivial) ?_
      exact RK.lR (by decide +kernel) rfl hL hK hF
  rcases it_of hF with ⟨hb7, hF⟩ | ⟨hb7, hF⟩
  · refine RK.of (fun k9 => RN.tsw (dflt := 171) (lo := 2) (hi := 14) (offs := #[67, 71, 75, 79, 107, 119, 131, 143, 155, 171, 167, 171, 93]) (by decide +kernel) (RN.stm hb0 (RN.stm hb1 (RN.stm hb2 (RN.stm hb3 (RN.stm hb4 (RN.stm hb5 (RN.stm hb6 (RN.sth hb7 (tgt := 144) rfl k9))))))))) ?_
    refine RK.of (RN.blk (ops := [(144, .lload_n 1), (145, .lload_n 3), (146, .lcmp)]) (pc' := 147) (lv' := [(0, .inl a1), (1, .inr (.inl a2)), (3, .inr (.inl a3))]) (st' := [.inl (m_lcmp a2 a3)]) (h' := h) (cs := []) (by decide +kernel) rfl trivial) ?_
    rcases it_of hF with ⟨hb, hF⟩ | ⟨hb, hF⟩
    · refine RK.of (RN.ift (cd := .lt) (off := 7) (tgt := 154) (by decide +kernel) (mif_lt hb)) ?_
      refine RK.of (RN.blk (ops := [(154, .lconst 0)]) (pc' := 155) (lv' := [(0, .inl a1), (1, .inr (.inl a2)), (3, .inr (.inl a3))]) (st' := [.inr (.inl 0)]) (h' := h) (cs := []) (by decide +kernel) rfl trivial) ?_
      exact RK.lR (by decide +kernel) rfl hL hK hF
    · refine RK.of (RN.iff (cd := .lt) (off := 7) (tgt := 154) (by decide +kernel) (mif_ltn hb)) ?_
      refine RK.of (RN.blk (ops := [(150, .lconst 1)]) (pc' := 151) (lv' := [(0, .inl a1), (1, .inr (.inl a2)), (3, .inr (.inl a3))]) (st' := [.inr (.inl 1)]) (h' := h) (cs := []) (by decide +kernel) rfl trivial) ?_
      refine RK.of (RN.goto (off := 4) (tgt := 155) (by decide +kernel)) ?_
      exact RK.lR (by decide +kernel) rfl hL hK hF
  rcases it_of hF with ⟨hb8, hF⟩ | ⟨hb8, hF⟩
  · refine RK.of (fun k9 => RN.tsw (dflt := 171) (lo := 2) (hi := 14) (offs := #[67, 71, 75, 79, 107, 119, 131, 143, 155, 171, 167, 171, 93]) (by decide +kernel) (RN.stm hb0 (RN.stm hb1 (RN.stm hb2 (RN.stm hb3 (RN.stm hb4 (RN.stm hb5 (RN.stm hb6 (RN.stm hb7 (RN.sth hb8 (tgt := 156) rfl k9)))))))))) ?_
    refine RK.of (RN.blk (ops := [(156, .lload_n 1), (157, .lload_n 3), (158, .lcmp)]) (pc' := 159) (lv' := [(0, .inl a1), (1, .inr (.inl a2)), (3, .inr (.inl a3))]) (st' := [.inl (m_lcmp a2 a3)]) (h' := h) (cs := []) (by decide +kernel) rfl trivial) ?_
    rcases it_of hF with ⟨hb, hF⟩ | ⟨hb, hF⟩
    · refine RK.of (RN.iff (cd := .le) (off := 7) (tgt := 166) (by decide +kernel) (mif_len hb)) ?_
      refine RK.of (RN.blk (ops := [(162, .lconst 1)]) (pc' := 163) (lv' := [(0, .inl a1), (1, .inr (.inl a2)), (3, .inr (.inl a3))]) (st' := [.inr (.inl 1)]) (h' := h) (cs := []) (by decide +kernel) rfl trivial) ?_
      refine RK.of (RN.goto (off := 4) (tgt := 167) (by decide +kernel)) ?_
      exact RK.lR (by decide +kernel) rfl hL hK hF
    · refine RK.of (RN.ift (cd := .le) (off := 7) (tgt := 166) (by decide +kernel) (mif_le hb)) ?_
      refine RK.of (RN.blk (ops := [(166, .lconst 0)]) (pc' := 167) (lv' := [(0, .inl a1), (1, .inr (.inl a2)), (3, .inr (.inl a3))]) (st' := [.inr (.inl 0)]) (h' := h) (cs := []) (by decide +kernel) rfl trivial) ?_
      exact RK.lR (by decide +kernel) rfl hL hK hF
  rcases it_of hF with ⟨hb9, hF⟩ | ⟨hb9, hF⟩
  · refine RK.of (fun k9 => RN.tsw (dflt := 171) (lo := 2) (hi := 14) (offs := #[67, 71, 75, 79, 107, 119, 131, 143, 155, 171, 167, 171, 93]) (by decide +kernel) (RN.stm hb0 (RN.stm hb1 (RN.stm hb2 (RN.stm hb3 (RN.stm hb4 (RN.stm hb5 (RN.stm hb6 (RN.stm hb7 (RN.stm hb8 (RN.sth hb9 (tgt := 172) rfl k9))))))))))) ?_
    refine RK.of (RN.blk (ops := [(172, .lload_n 1), (173, .lload_n 3), (174, .lor)]) (pc' := 175) (lv' := [(0, .inl a1), (1, .inr (.inl a2)), (3, .inr (.inl a3))]) (st' := [.inr (.inl (m_lor a2 a3))]) (h' := h) (cs := []) (by decide +kernel) rfl trivial) ?_
    exact RK.lR (by decide +kernel) rfl hL hK hF
  rcases it_of hF with ⟨hb10, hF⟩ | ⟨hb10, hF⟩
  · refine RK.of (fun k9 => RN.tsw (dflt := 171) (lo := 2) (hi := 14) (offs := #[67, 71, 75, 79, 107, 119, 131, 143, 155, 171, 167, 171, 93]) (by decide +kernel) (RN.stm hb0 (RN.stm hb1 (RN.stm hb2 (RN.stm hb3 (RN.stm hb4 (RN.stm hb5 (RN.stm hb6 (RN.stm hb7 (RN.stm hb8 (RN.stm hb9 (RN.sth hb10 (tgt := 168) rfl k9)))))))))))) ?_
    refine RK.of (RN.blk (ops := [(168, .lload_n 1), (169, .lload_n 3), (170, .land)]) (pc' := 171) (lv' := [(0, .inl a1), (1, .inr (.inl a2)), (3, .inr (.inl a3))]) (st' := [.inr (.inl (m_land a2 a3))]) (h' := h) (cs := []) (by decide +kernel) rfl trivial) ?_
    exact RK.lR (by decide +kernel) rfl hL hK hF
  rcases it_of hF with ⟨hb11, hF⟩ | ⟨hb11, hF⟩
  · refine RK.of (fun k9 => RN.tsw (dflt := 171) (lo := 2) (hi := 14) (offs := #[67, 71, 75, 79, 107, 119, 131, 143, 155, 171, 167, 171, 93]) (by decide +kernel) (RN.stm hb0 (RN.stm hb1 (RN.stm hb2 (RN.stm hb3 (RN.stm hb4 (RN.stm hb5 (RN.stm hb6 (RN.stm hb7 (RN.stm hb8 (RN.stm hb9 (RN.stm hb10 (RN.sth hb11 (tgt := 172) rfl k9))))))))))))) ?_
    refine RK.of (RN.blk (ops := [(172, .lload_n 1), (173, .lload_n 3), (174, .lor)]) (pc' := 175) (lv' := [(0, .inl a1), (1, .inr (.inl a2)), (3, .inr (.inl a3))]) (st' := [.inr (.inl (m_lor a2 a3))]) (h' := h) (cs := []) (by decide +kernel) rfl trivial) ?_
    exact RK.lR (by decide +kernel) rfl hL hK hF
  rcases it_of hF with ⟨hb12, hF⟩ | ⟨hb12, hF⟩
  · refine RK.of (fun k9 => RN.tsw (dflt := 171) (lo := 2) (hi := 14) (offs := #[67, 71, 75, 79, 107, 119, 131, 143, 155, 171, 167, 171, 93]) (by decide +kernel) (RN.stm hb0 (RN.stm hb1 (RN.stm hb2 (RN.stm hb3 (RN.stm hb4 (RN.stm hb5 (RN.stm hb6 (RN.stm hb7 (RN.stm hb8 (RN.stm hb9 (RN.stm hb10 (RN.stm hb11 (RN.sth hb12 (tgt := 94) rfl k9)))))))))))))) ?_
    refine RK.of (RN.blk (ops := [(94, .lload_n 3), (95, .lconst 0), (96, .lcmp)]) (pc' := 97) (lv' := [(0, .inl a1), (1, .inr (.inl a2)), (3, .inr (.inl a3))]) (st' := [.inl (m_lcmp a3 0)]) (h' := h) (cs := []) (by decide +kernel) rfl trivial) ?_
    rcases it_of hF with ⟨hb, hF⟩ | ⟨hb, hF⟩
    · refine RK.of (RN.iff (cd := .ne) (off := 7) (tgt := 104) (by decide +kernel) (mif_nen hb)) ?_
      refine RK.of (RN.blk (ops := [(100, .lconst 0)]) (pc' := 101) (lv' := [(0, .inl a1), (1, .inr (.inl a2)), (3, .inr (.inl a3))]) (st' := [.inr (.inl 0)]) (h' := h) (cs := []) (by decide +kernel) rfl trivial) ?_
      refine RK.of (RN.goto (off := 6) (tgt := 107) (by decide +kernel)) ?_
      exact RK.lR (by decide +kernel) rfl hL hK hF
    · refine RK.of (RN.ift (cd := .ne) (off := 7) (tgt := 104) (by decide +kernel) (mif_ne hb)) ?_
      obtain ⟨hc, hF⟩ := gd_of hF
      refine RK.of (RN.blk (ops := [(104, .lload_n 1), (105, .lload_n 3), (106, .lrem)]) (pc' := 107) (lv' := [(0, .inl a1), (1, .inr (.inl a2)), (3, .inr (.inl a3))]) (st' := [.inr (.inl (Int.tmod a2 a3))]) (h' := h) (cs := [(a3 : Int) ≠ 0]) (by decide +kernel) rfl ⟨hc.1, trivial⟩) ?_
      exact RK.lR (by decide +kernel) rfl hL hK hF
  refine RK.of (fun k9 => RN.tsw (dflt := 171) (lo := 2) (hi := 14) (offs := #[67, 71, 75, 79, 107, 119, 131, 143, 155, 171, 167, 171, 93]) (by decide +kernel) (RN.stm hb0 (RN.stm hb1 (RN.stm hb2 (RN.stm hb3 (RN.stm hb4 (RN.stm hb5 (RN.stm hb6 (RN.stm hb7 (RN.stm hb8 (RN.stm hb9 (RN.stm hb10 (RN.stm hb11 (RN.stm hb12 (RN.std (tgt := 172) rfl k9))))))))))))))) ?_
  refine RK.of (RN.blk (ops := [(172, .lload_n 1), (173, .lload_n 3), (174, .lor)]) (pc' := 175) (lv' := [(0, .inl a1), (1, .inr (.inl a2)), (3, .inr (.inl a3))]) (st' := [.inr (.inl (m_lor a2 a3))]) (h' := h) (cs := []) (by decide +kernel) rfl trivial) ?_
  exact RK.lR (by decide +kernel) rfl hL hK hF
noncomputable def GX12_reckons_L8 (u1 : Int) (u3 : Int) (K0 : MH → Option (Int × MH)) : Nat → Int → MH → Option (Int × MH)
  | 0, _, _ => none
  | f + 1, v4, h =>
    (if v4 < u3 then
     gd [IB (m_w32 ((m_w32 (400 * u1)) + v4)) 2400] (
      gd [IB (m_w32 ((m_w32 (400 * u1)) + v4)) 2400] (
       (if (m_band (m_rd h 336 (m_w32 ((m_w32 (400 * u1)) + v4))) 15) = 0 then
        (bv (GX12_push (m_shr (m_rd h 336 (m_w32 ((m_w32 (400 * u1)) + v4))) 4) h) (fun h12 =>
         GX12_reckons_L8 u1 u3 K0 f (m_w32 (v4 + 1)) h12))
       else
        (if (m_band (m_rd h 336 (m_w32 ((m_w32 (400 * u1)) + v4))) 15) = 1 then
         gd [IB (m_shr (m_rd h 336 (m_w32 ((m_w32 (400 * u1)) + v4))) 4) 11] (
          (bv (GX12_push (m_rd h 343 (m_shr (m_rd h 336 (m_w32 ((m_w32 (400 * u1)) + v4))) 4)) h) (fun h11 =>
           GX12_reckons_L8 u1 u3 K0 f (m_w32 (v4 + 1)) h11)))
        else
         (if (m_band (m_rd h 336 (m_w32 ((m_w32 (400 * u1)) + v4))) 15) = 11 then
          (bd (GX12_pop h) (fun x9 h8 =>
           (bv (GX12_push (m_w64 (1 - x9)) h8) (fun h10 =>
            GX12_reckons_L8 u1 u3 K0 f (m_w32 (v4 + 1)) h10))))
         else
          (bd (GX12_pop h) (fun x2 h1 =>
           (bd (GX12_pop h1) (fun x4 h3 =>
            (bd (GX12_sumOfTwo (m_band (m_rd h 336 (m_w32 ((m_w32 (400 * u1)) + v4))) 15) x4 x2 h3) (fun x6 h5 =>
             (bv (GX12_push x6 h5) (fun h7 =>
              GX12_reckons_L8 u1 u3 K0 f (m_w32 (v4 + 1)) h7)))))))))))))
    else
     K0 h)
theorem DX12_reckons_L8 {d : Nat} {u1 : Int} {u3 : Int} {K0 : MH → Option (Int × MH)} {r : Int × MH} {h0 hB : MH} (hB0 : KD h0 hB) (hK0 : ∀ (h : MH), LR h → KD hB h → K0 h = some r → RK xs L iX12_reckons (d + 1) 135 [(0, .inr (.inr 334))] [] h (RJo r) h0 r.2) : ∀ (f : Nat) (v4 : Int) (h : MH), LR h → KD hB h → GX12_reckons_L8 u1 u3 K0 f v4 h = some r → RK xs L iX12_reckons (d + 1) 8 [(0, .inr (.inr 334)), (1, .inl u1), (3, .inl u3), (4, .inl v4)] [] h (RJo r) h0 r.2 := by
  intro f
  induction f with
  | zero =>
    intro v4 h hL hJ hF
    cases hF
  | succ f ih =>
    intro v4 h hL hJ hF
    unfold GX12_reckons_L8 at hF
    have hK := hB0.tr hJ
    refine RK.of (RN.blk (ops := [(8, .iload 4), (10, .iload_n 3)]) (pc' := 11) (lv' := [(0, .inr (.inr 334)), (1, .inl u1), (3, .inl u3), (4, .inl v4)]) (st' := [.inl u3, .inl v4]) (h' := h) (cs := []) (by decide +kernel) rfl trivial) ?_
    rcases it_of hF with ⟨hb, hF⟩ | ⟨hb, hF⟩
    · refine RK.of (RN.icf (cd := .ge) (off := 124) (tgt := 135) (by decide +kernel) (mif_gen hb)) ?_
      refine RK.of (RN.blk (ops := [(14, .aload_n 0)]) (pc' := 15) (lv' := [(0, .inr (.inr 334)), (1, .inl u1), (3, .inl u3), (4, .inl v4)]) (st' := [.inr (.inr 334)]) (h' := h) (cs := []) (by decide +kernel) rfl trivial) ?_
      refine RK.of (RN.gr (i := 13) (ci := 12) (k := 3) (fn := true) (v := 336) (by decide +kernel) rfl (TO.gk (o_334 hL)) (hL.fa (v := 336) 3 1 2400 (o_334 hL) rfl (by decide) rfl (by decide)).1) ?_
      obtain ⟨hc, hF⟩ := gd_of hF
      refine RK.of (RN.blk (ops := [(18, .sipush 400), (21, .iload_n 1), (22, .imul), (23, .iload 4), (25, .iadd), (26, .iaload), (27, .bipush 15), (29, .iand), (30, .istore 5), (32, .aload_n 0)]) (pc' := 33) (lv' := [(5, .inl (m_band (m_rd h 336 (m_w32 ((m_w32 (400 * u1)) + v4))) 15)), (0, .inr (.inr 334)), (1, .inl u1), (3, .inl u3), (4, .inl v4)]) (st' := [.inr (.inr 334)]) (h' := h) (cs := [GI h 336 1 (m_w32 ((m_w32 (400 * u1)) + v4))]) (by decide +kernel) rfl ⟨(a_336 hL).gi hc.1.1 hc.1.2, trivial⟩) ?_
      refine RK.of (RN.gr (i := 13) (ci := 12) (k := 3) (fn := true) (v := 336) (by decide +kernel) rfl (TO.gk (o_334 hL)) (hL.fa (v := 336) 3 1 2400 (o_334 hL) rfl (by decide) rfl (by decide)).1) ?_
      obtain ⟨hc, hF⟩ := gd_of hF
      refine RK.of (RN.blk (ops := [(36, .sipush 400), (39, .iload_n 1), (40, .imul), (41, .iload 4), (43, .iadd), (44, .iaload), (45, .iconst 4), (46, .ishr), (47, .istore 6), (49, .iload 5)]) (pc' := 51) (lv' := [(6, .inl (m_shr (m_rd h 336 (m_w32 ((m_w32 (400 * u1)) + v4))) 4)), (5, .inl (m_band (m_rd h 336 (m_w32 ((m_w32 (400 * u1)) + v4))) 15)), (0, .inr (.inr 334)), (1, .inl u1), (3, .inl u3), (4, .inl v4)]) (st' := [.inl (m_band (m_rd h 336 (m_w32 ((m_w32 (400 * u1)) + v4))) 15)]) (h' := h) (cs := [GI h 336 1 (m_w32 ((m_w32 (400 * u1)) + v4))]) (by decide +kernel) rfl ⟨(a_336 hL).gi hc.1.1 hc.1.2, trivial⟩) ?_
      rcases it_of hF with ⟨hb, hF⟩ | ⟨hb, hF⟩
      · refine RK.of (RN.iff (cd := .ne) (off := 13) (tgt := 64) (by decide +kernel) (mif_nen hb)) ?_
        refine RK.of (RN.blk (ops := [(54, .aload_n 0), (55, .iload 6), (57, .i2l)]) (pc' := 58) (lv' := [(6, .inl (m_shr (m_rd h 336 (m_w32 ((m_w32 (400 * u1)) + v4))) 4)), (5, .inl (m_band (m_rd h 336 (m_w32 ((m_w32 (400 * u1)) + v4))) 15)), (0, .inr (.inr 334)), (1, .inl u1), (3, .inl u3), (4, .inl v4)]) (st' := [.inr (.inl (m_shr (m_rd h 336 (m_w32 ((m_w32 (400 * u1)) + v4))) 4)), .inr (.inr 334)]) (h' := h) (cs := []) (by decide +kernel) rfl trivial) ?_
        obtain ⟨h12, hG, hF⟩ := bv_of hF
        have hq := rcv_ok (as := [.inr (.inl (m_shr (m_rd h 336 (m_w32 ((m_w32 (400 * u1)) + v4))) 4))]) (TO.gk (o_334 hL))
        obtain ⟨hN, hL, hQ⟩ := DX12_push (d := d) hL  hG
        refine RK.of (RN.cv (i := 283) (k := 198) (q2 := iX12_push) (as := [.inr (.inr 334), .inr (.inl (m_shr (m_rd h 336 (m_w32 ((m_w32 (400 * u1)) + v4))) 4))]) (r := []) (v := none) (h1 := h12) (by decide +kernel) rfl rfl rfl rfl rfl hq hN) ?_
        have hK := hK.tr hQ
        have hJ := hJ.tr hQ
        refine RK.of (RN.goto (off := 68) (tgt := 129) (by decide +kernel)) ?_
        refine RK.of (RN.blk (ops := [(129, .iinc 4 1)]) (pc' := 132) (lv' := [(4, .inl (m_w32 (v4 + 1))), (6, .inl (m_shr (m_rd h 336 (m_w32 ((m_w32 (400 * u1)) + v4))) 4)), (5, .inl (m_band (m_rd h 336 (m_w32 ((m_w32 (400 * u1)) + v4))) 15)), (0, .inr (.inr 334)), (1, .inl u1), (3, .inl u3)]) (st' := []) (h' := h12) (cs := []) (by decide +kernel) rfl trivial) ?_
        refine RK.of (RN.goto (off := -124) (tgt := 8) (by decide +kernel)) ?_
        exact RK.sub (ih _ _ hL hJ hF) (sub_cons rfl (sub_cons rfl (sub_cons rfl (sub_cons rfl sub_nil))))
      · refine RK.of (RN.ift (cd := .ne) (off := 13) (tgt := 64) (by decide +kernel) (mif_ne hb)) ?_
        refine RK.of (RN.blk (ops := [(64, .iload 5), (66, .iconst 1)]) (pc' := 67) (lv' := [(6, .inl (m_shr (m_rd h 336 (m_w32 ((m_w32 (400 * u1)) + v4))) 4)), (5, .inl (m_band (m_rd h 336 (m_w32 ((m_w32 (400 * u1)) + v4))) 15)), (0, .inr (.inr 334)), (1, .inl u1), (3, .inl u3), (4, .inl v4)]) (st' := [.inl 1, .inl (m_band (m_rd h 336 (m_w32 ((m_w32 (400 * u1)) + v4))) 15)]) (h' := h) (cs := []) (by decide +kernel) rfl trivial) ?_
        rcases it_of hF with ⟨hb, hF⟩ | ⟨hb, hF⟩
        · refine RK.of (RN.icf (cd := .ne) (off := 17) (tgt := 84) (by decide +kernel) (mif_nen hb)) ?_
          refine RK.of (RN.blk (ops := [(70, .aload_n 0), (71, .aload_n 0)]) (pc' := 72) (lv' := [(6, .inl (m_shr (m_rd h 336 (m_w32 ((m_w32 (400 * u1)) + v4))) 4)), (5, .inl (m_band (m_rd h 336 (m_w32 ((m_w32 (400 * u1)) + v4))) 15)), (0, .inr (.inr 334)), (1, .inl u1), (3, .inl u3), (4, .inl v4)]) (st' := [.inr (.inr 334), .inr (.inr 334)]) (h' := h) (cs := []) (by decide +kernel) rfl trivial) ?_
          refine RK.of (RN.gr (i := 36) (ci := 12) (k := 19) (fn := true) (v := 343) (by decide +kernel) rfl (TO.gk (o_334 hL)) (hL.fa (v := 343) 19 2 11 (o_334 hL) rfl (by decide) rfl (by decide)).1) ?_
          obtain ⟨hc, hF⟩ := gd_of hF
          refine RK.of (RN.blk (ops := [(75, .iload 6), (77, .laload)]) (pc' := 78) (lv' := [(6, .inl (m_shr (m_rd h 336 (m_w32 ((m_w32 (400 * u1)) + v4))) 4)), (5, .inl (m_band (m_rd h 336 (m_w32 ((m_w32 (400 * u1)) + v4))) 15)), (0, .inr (.inr 334)), (1, .inl u1), (3, .inl u3), (4, .inl v4)]) (st' := [.inr (.inl (m_rd h 343 (m_shr (m_rd h 336 (m_w32 ((m_w32 (400 * u1)) + v4))) 4))), .inr (.inr 334)]) (h' := h) (cs := [GI h 343 2 (m_shr (m_rd h 336 (m_w32 ((m_w32 (400 * u1)) + v4))) 4)]) (by decide +kernel) rfl ⟨(a_343 hL).gi hc.1.1 hc.1.2, trivial⟩) ?_
          obtain ⟨h11, hG, hF⟩ := bv_of hF
          have hq := rcv_ok (as := [.inr (.inl (m_rd h 343 (m_shr (m_rd h 336 (m_w32 ((m_w32 (400 * u1)) + v4))) 4)))]) (TO.gk (o_334 hL))
          obtain ⟨hN, hL, hQ⟩ := DX12_push (d := d) hL  hG
          refine RK.of (RN.cv (i := 283) (k := 198) (q2 := iX12_push) (as := [.inr (.inr 334), .inr (.inl (m_rd h 343 (m_shr (m_rd h 336 (m_w32 ((m_w32 (400 * u1)) + v4))) 4)))]) (r := []) (v := none) (h1 := h11) (by decide +kernel) rfl rfl rfl rfl rfl hq hN) ?_
          have hK := hK.tr hQ
          have hJ := hJ.tr hQ
          refine RK.of (RN.goto (off := 48) (tgt := 129) (by decide +kernel)) ?_
          refine RK.of (RN.blk (ops := [(129, .iinc 4 1)]) (pc' := 132) (lv' := [(4, .inl (m_w32 (v4 + 1))), (6, .inl (m_shr (m_rd h 336 (m_w32 ((m_w32 (400 * u1)) + v4))) 4)), (5, .inl (m_band (m_rd h 336 (m_w32 ((m_w32 (400 * u1)) + v4))) 15)), (0, .inr (.inr 334)), (1, .inl u1), (3, .inl u3)]) (st' := []) (h' := h11) (cs := []) (by decide +kernel) rfl trivial) ?_
          refine RK.of (RN.goto (off := -124) (tgt := 8) (by decide +kernel)) ?_
          exact RK.sub (ih _ _ hL hJ hF) (sub_cons rfl (sub_cons rfl (sub_cons rfl (sub_cons rfl sub_nil))))
        · refine RK.of (RN.ict (cd := .ne) (off := 17) (tgt := 84) (by decide +kernel) (mif_ne hb)) ?_
          refine RK.of (RN.blk (ops := [(84, .iload 5), (86, .bipush 11)]) (pc' := 88) (lv' := [(6, .inl (m_shr (m_rd h 336 (m_w32 ((m_w32 (400 * u1)) + v4))) 4)), (5, .inl (m_band (m_rd h 336 (m_w32 ((m_w32 (400 * u1)) + v4))) 15)), (0, .inr (.inr 334)), (1, .inl u1), (3, .inl u3), (4, .inl v4)]) (st' := [.inl 11, .inl (m_band (m_rd h 336 (m_w32 ((m_w32 (400 * u1)) + v4))) 15)]) (h' := h) (cs := []) (by decide +kernel) rfl trivial) ?_
          rcases it_of hF with ⟨hb, hF⟩ | ⟨hb, hF⟩
          · refine RK.of (RN.icf (cd := .ne) (off := 16) (tgt := 104) (by decide +kernel) (mif_nen hb)) ?_
            refine RK.of (RN.blk (ops := [(91, .aload_n 0), (92, .lconst 1), (93, .aload_n 0)]) (pc' := 94) (lv' := [(6, .inl (m_shr (m_rd h 336 (m_w32 ((m_w32 (400 * u1)) + v4))) 4)), (5, .inl (m_band (m_rd h 336 (m_w32 ((m_w32 (400 * u1)) + v4))) 15)), (0, .inr (.inr 334)), (1, .inl u1), (3, .inl u3), (4, .inl v4)]) (st' := [.inr (.inr 334), .inr (.inl 1), .inr (.inr 334)]) (h' := h) (cs := []) (by decide +kernel) rfl trivial) ?_
            obtain ⟨x9, h8, hG, hF⟩ := bd_of hF
            have hq := rcv_ok (as := []) (TO.gk (o_334 hL))
            obtain ⟨hN, hL, hQ⟩ := DX12_pop (d := d) hL  hG
            refine RK.of (RN.cv (i := 287) (k := 199) (q2 := iX12_pop) (as := [.inr (.inr 334)]) (r := [.inr (.inl 1), .inr (.inr 334)]) (v := some (.inr (.inl x9))) (h1 := h8) (by decide +kernel) rfl rfl rfl rfl rfl hq hN) ?_
            have hK := hK.tr hQ
            have hJ := hJ.tr hQ
            refine RK.of (RN.blk (ops := [(97, .lsub)]) (pc' := 98) (lv' := [(6, .inl (m_shr (m_rd h 336 (m_w32 ((m_w32 (400 * u1)) + v4))) 4)), (5, .inl (m_band (m_rd h 336 (m_w32 ((m_w32 (400 * u1)) + v4))) 15)), (0, .inr (.inr 334)), (1, .inl u1), (3, .inl u3), (4, .inl v4)]) (st' := [.inr (.inl (m_w64 (1 - x9))), .inr (.inr 334)]) (h' := h8) (cs := []) (by decide +kernel) rfl trivial) ?_
            obtain ⟨h10, hG, hF⟩ := bv_of hF
            have hq := rcv_ok (as := [.inr (.inl (m_w64 (1 - x9)))]) (TO.gk (o_334 hL))
            obtain ⟨hN, hL, hQ⟩ := DX12_push (d := d) hL  hG
            refine RK.of (RN.cv (i := 283) (k := 198) (q2 := iX12_push) (as := [.inr (.inr 334), .inr (.inl (m_w64 (1 - x9)))]) (r := []) (v := none) (h1 := h10) (by decide +kernel) rfl rfl rfl rfl rfl hq hN) ?_
            have hK := hK.tr hQ
            have hJ := hJ.tr hQ
            refine RK.of (RN.goto (off := 28) (tgt := 129) (by decide +kernel)) ?_
            refine RK.of (RN.blk (ops := [(129, .iinc 4 1)]) (pc' := 132) (lv' := [(4, .inl (m_w32 (v4 + 1))), (6, .inl (m_shr (m_rd h 336 (m_w32 ((m_w32 (400 * u1)) + v4))) 4)), (5, .inl (m_band (m_rd h 336 (m_w32 ((m_w32 (400 * u1)) + v4))) 15)), (0, .inr (.inr 334)), (1, .inl u1), (3, .inl u3)]) (st' := []) (h' := h10) (cs := []) (by decide +kernel) rfl trivial) ?_
            refine RK.of (RN.goto (off := -124) (tgt := 8) (by decide +kernel)) ?_
            exact RK.sub (ih _ _ hL hJ hF) (sub_cons rfl (sub_cons rfl (sub_cons rfl (sub_cons rfl sub_nil))))
          · refine RK.of (RN.ict (cd := .ne) (off := 16) (tgt := 104) (by decide +kernel) (mif_ne hb)) ?_
            refine RK.of (RN.blk (ops := [(104, .aload_n 0)]) (pc' := 105) (lv' := [(6, .inl (m_shr (m_rd h 336 (m_w32 ((m_w32 (400 * u1)) + v4))) 4)), (5, .inl (m_band (m_rd h 336 (m_w32 ((m_w32 (400 * u1)) + v4))) 15)), (0, .inr (.inr 334)), (1, .inl u1), (3, .inl u3), (4, .inl v4)]) (st' := [.inr (.inr 334)]) (h' := h) (cs := []) (by decide +kernel) rfl trivial) ?_
            obtain ⟨x2, h1, hG, hF⟩ := bd_of hF
            have hq := rcv_ok (as := []) (TO.gk (o_334 hL))
            obtain ⟨hN, hL, hQ⟩ := DX12_pop (d := d) hL  hG
            refine RK.of (RN.cv (i := 287) (k := 199) (q2 := iX12_pop) (as := [.inr (.inr 334)]) (r := []) (v := some (.inr (.inl x2))) (h1 := h1) (by decide +kernel) rfl rfl rfl rfl rfl hq hN) ?_
            have hK := hK.tr hQ
            have hJ := hJ.tr hQ
            refine RK.of (RN.blk (ops := [(108, .lstore 7), (110, .aload_n 0)]) (pc' := 111) (lv' := [(7, .inr (.inl x2)), (6, .inl (m_shr (m_rd h 336 (m_w32 ((m_w32 (400 * u1)) + v4))) 4)), (5, .inl (m_band (m_rd h 336 (m_w32 ((m_w32 (400 * u1)) + v4))) 15)), (0, .inr (.inr 334)), (1, .inl u1), (3, .inl u3), (4, .inl v4)]) (st' := [.inr (.inr 334)]) (h' := h1) (cs := []) (by decide +kernel) rfl trivial) ?_
            obtain ⟨x4, h3, hG, hF⟩ := bd_of hF
            have hq := rcv_ok (as := []) (TO.gk (o_334 hL))
            obtain ⟨hN, hL, hQ⟩ := DX12_pop (d := d) hL  hG
            refine RK.of (RN.cv (i := 287) (k := 199) (q2 := iX12_pop) (as := [.inr (.inr 334)]) (r := []) (v := some (.inr (.inl x4))) (h1 := h3) (by decide +kernel) rfl rfl rfl rfl rfl hq hN) ?_
            have hK := hK.tr hQ
            have hJ := hJ.tr hQ
            refine RK.of (RN.blk (ops := [(114, .lstore 9), (116, .aload_n 0), (117, .iload 5), (119, .lload 9), (121, .lload 7)]) (pc' := 123) (lv' := [(9, .inr (.inl x4)), (7, .inr (.inl x2)), (6, .inl (m_shr (m_rd h 336 (m_w32 ((m_w32 (400 * u1)) + v4))) 4)), (5, .inl (m_band (m_rd h 336 (m_w32 ((m_w32 (400 * u1)) + v4))) 15)), (0, .inr (.inr 334)), (1, .inl u1), (3, .inl u3), (4, .inl v4)]) (st' := [.inr (.inl x2), .inr (.inl x4), .inl (m_band (m_rd h 336 (m_w32 ((m_w32 (400 * u1)) + v4))) 15), .inr (.inr 334)]) (h' := h3) (cs := []) (by decide +kernel) rfl trivial) ?_
            obtain ⟨x6, h5, hG, hF⟩ := bd_of hF
            obtain ⟨hN, hL, hQ⟩ := DX12_sumOfTwo (d := d) hL  hG
            refine RK.of (RN.cst (i := 291) (k := 200) (q2 := iX12_sumOfTwo) (as := [.inl (m_band (m_rd h 336 (m_w32 ((m_w32 (400 * u1)) + v4))) 15), .inr (.inl x4), .inr (.inl x2)]) (r := [.inr (.inr 334)]) (v := some (.inr (.inl x6))) (h1 := h5) (by decide +kernel) rfl rfl rfl rfl rfl hN) ?_
            have hK := hK.tr hQ
            have hJ := hJ.tr hQ
            obtain ⟨h7, hG, hF⟩ := bv_of hF
            have hq := rcv_ok (as := [.inr (.inl x6)]) (TO.gk (o_334 hL))
            obtain ⟨hN, hL, hQ⟩ := DX12_push (d := d) hL  hG
            refine RK.of (RN.cv (i := 283) (k := 198) (q2 := iX12_push) (as := [.inr (.inr 334), .inr (.inl x6)]) (r := []) (v := none) (h1 := h7) (by decide +kernel) rfl rfl rfl rfl rfl hq hN) ?_
            have hK := hK.tr hQ
            have hJ := hJ.tr hQ
            refine RK.of (RN.blk (ops := [(129, .iinc 4 1)]) (pc' := 132) (lv' := [(4, .inl (m_w32 (v4 + 1))), (9, .inr (.inl x4)), (7, .inr (.inl x2)), (6, .inl (m_shr (m_rd h 336 (m_w32 ((m_w32 (400 * u1)) + v4))) 4)), (5, .inl (m_band (m_rd h 336 (m_w32 ((m_w32 (400 * u1)) + v4))) 15)), (0, .inr (.inr 334)), (1, .inl u1), (3, .inl u3)]) (st' := []) (h' := h7) (cs := []) (by decide +kernel) rfl trivial) ?_
            refine RK.of (RN.goto (off := -124) (tgt := 8) (by decide +kernel)) ?_
            exact RK.sub (ih _ _ hL hJ hF) (sub_cons rfl (sub_cons rfl (sub_cons rfl (sub_cons rfl sub_nil))))
    · refine RK.of (RN.ict (cd := .ge) (off := 124) (tgt := 135) (by decide +kernel) (mif_ge hb)) ?_
      exact RK.sub (hK0 _ hL hJ hF) (sub_cons rfl sub_nil)
noncomputable def GX12_reckons (a1 : Int) (a2 : Int) (a3 : Int) (h : MH) : Option (Int × MH) :=
  GX12_reckons_L8 a1 a3 (fun h1 =>
   (bd (GX12_pop h1) (fun x3 h2 =>
    some (x3, h2)))) FU a2 (m_wr h 334 18 0)
theorem DX12_reckons {d : Nat} {a1 : Int} {a2 : Int} {a3 : Int} {h : MH} {r : Int × MH} (hL : LR h) (hF : GX12_reckons a1 a2 a3 h = some r) : RN xs L iX12_reckons (d + 1) 0 (lvE 0 [.inr (.inr 334), .inl a1, .inl a2, .inl a3]) [] h (RJo r) ∧ LR r.2 ∧ KD h r.2 := by
  unfold GX12_reckons at hF
  have hK : KD h h := KD.rf
  show RK xs L iX12_reckons (d + 1) 0 (lvE 0 [.inr (.inr 334), .inl a1, .inl a2, .inl a3]) [] h (RJo r) h r.2
  refine RK.of (RN.blk (ops := [(0, .aload_n 0), (1, .iconst 0), (2, .putfield 280)]) (pc' := 5) (lv' := [(0, .inr (.inr 334)), (1, .inl a1), (2, .inl a2), (3, .inl a3)]) (st' := []) (h' := (m_wr h 334 18 0)) (cs := [GK h 334 12]) (by decide +kernel) rfl ⟨(o_334 hL).gk, trivial⟩) ?_
  have hL : LR (m_wr h 334 18 0) := LR.wf (k := 18) hL (o_334 hL) rfl
  have hK := hK.tr (KD.wr : KD h (m_wr h 334 18 0))
  refine RK.of (RN.blk (ops := [(5, .iload_n 2), (6, .istore 4)]) (pc' := 8) (lv' := [(4, .inl a2), (0, .inr (.inr 334)), (1, .inl a1), (2, .inl a2), (3, .inl a3)]) (st' := []) (h' := (m_wr h 334 18 0)) (cs := []) (by decide +kernel) rfl trivial) ?_
  refine RK.sub (DX12_reckons_L8 hK ?_ _ _ _ hL KD.rf hF) (sub_cons rfl (sub_cons rfl (sub_cons rfl (sub_cons rfl sub_nil))))
  · intro h1 hL hq hF
    have hK := hK.tr hq
    refine RK.of (RN.blk (ops := [(135, .aload_n 0)]) (pc' := 136) (lv' := [(0, .inr (.inr 334))]) (st' := [.inr (.inr 334)]) (h' := h1) (cs := []) (by decide +kernel) rfl trivial) ?_
    obtain ⟨x3, h2, hG, hF⟩ := bd_of hF
    have hq := rcv_ok (as := []) (TO.gk (o_334 hL))
    obtain ⟨hN, hL, hQ⟩ := DX12_pop (d := d) hL  hG
    refine RK.of (RN.cv (i := 287) (k := 199) (q2 := iX12_pop) (as := [.inr (.inr 334)]) (r := []) (v := some (.inr (.inl x3))) (h1 := h2) (by decide +kernel) rfl rfl rfl rfl rfl hq hN) ?_
    have hK := hK.tr hQ
    exact RK.lR (by decide +kernel) rfl hL hK hF
noncomputable def GX12_isFrame (h : MH) : Option (Int × MH) :=
  (if (m_rd h 344 0) = 1 then
   some (1, h)
  else
   some (0, h))
theorem DX12_isFrame {d : Nat} {h : MH} {r : Int × MH} (hL : LR h) (hF : GX12_isFrame h = some r) : RN xs L iX12_isFrame (d) 0 (lvE 0 [.inr (.inr 334)]) [] h (RIo r) ∧ LR r.2 ∧ KD h r.2 := by
  unfold GX12_isFrame at hF
  have hK : KD h h := KD.rf
  show RK xs L iX12_isFrame (d) 0 (lvE 0 [.inr (.inr 334)]) [] h (RIo r) h r.2
  refine RK.of (RN.blk (ops := [(0, .aload_n 0)]) (pc' := 1) (lv' := [(0, .inr (.inr 334))]) (st' := [.inr (.inr 334)]) (h' := h) (cs := []) (by decide +kernel) rfl trivial) ?_
  refine RK.of (RN.gr (i := 39) (ci := 12) (k := 20) (fn := true) (v := 344) (by decide +kernel) rfl (TO.gk (o_334 hL)) (hL.fa (v := 344) 20 1 167 (o_334 hL) rfl (by decide) rfl (by decide)).1) ?_
  refine RK.of (RN.blk (ops := [(4, .iconst 0), (5, .iaload), (6, .iconst 1)]) (pc' := 7) (lv' := [(0, .inr (.inr 334))]) (st' := [.inl 1, .inl (m_rd h 344 0)]) (h' := h) (cs := [GI h 344 1 0]) (by decide +kernel) rfl ⟨(a_344 hL).gi (by decide) (by decide), trivial⟩) ?_
  rcases it_of hF with ⟨hb, hF⟩ | ⟨hb, hF⟩
  · refine RK.of (RN.icf (cd := .ne) (off := 7) (tgt := 14) (by decide +kernel) (mif_nen hb)) ?_
    refine RK.of (RN.blk (ops := [(10, .iconst 1)]) (pc' := 11) (lv' := [(0, .inr (.inr 334))]) (st' := [.inl 1]) (h' := h) (cs := []) (by decide +kernel) rfl trivial) ?_
    refine RK.of (RN.goto (off := 4) (tgt := 15) (by decide +kernel)) ?_
    exact RK.zR (by decide +kernel) rfl (Or.inr rfl) hL hK hF
  · refine RK.of (RN.ict (cd := .ne) (off := 7) (tgt := 14) (by decide +kernel) (mif_ne hb)) ?_
    refine RK.of (RN.blk (ops := [(14, .iconst 0)]) (pc' := 15) (lv' := [(0, .inr (.inr 334))]) (st' := [.inl 0]) (h' := h) (cs := []) (by decide +kernel) rfl trivial) ?_
    exact RK.zR (by decide +kernel) rfl (Or.inl rfl) hL hK hF
noncomputable def GX12_codesMany (h : MH) : Option (Int × MH) :=
  (bd (GX12_isFrame h) (fun x2 h1 =>
   (if x2 = 0 then
    some (0, h1)
   else
    (bd (GX12_power (m_rd h1 344 1) (m_rd h1 344 2) h1) (fun x4 h3 =>
     some (x4, h3))))))
theorem DX12_codesMany {d : Nat} {h : MH} {r : Int × MH} (hL : LR h) (hF : GX12_codesMany h = some r) : RN xs L iX12_codesMany (d + 1) 0 (lvE 0 [.inr (.inr 334)]) [] h (RIo r) ∧ LR r.2 ∧ KD h r.2 := by
  unfold GX12_codesMany at hF
  have hK : KD h h := KD.rf
  show RK xs L iX12_codesMany (d + 1) 0 (lvE 0 [.inr (.inr 334)]) [] h (RIo r) h r.2
  refine RK.of (RN.blk (ops := [(0, .aload_n 0)]) (pc' := 1) (lv' := [(0, .inr (.inr 334))]) (st' := [.inr (.inr 334)]) (h' := h) (cs := []) (by decide +kernel) rfl trivial) ?_
  obtain ⟨x2, h1, hG, hF⟩ := bd_of hF
  have hq := rcv_ok (as := []) (TO.gk (o_334 hL))
  obtain ⟨hN, hL, hQ⟩ := DX12_isFrame (d := d) hL  hG
  refine RK.of (RN.cv (i := 295) (k := 202) (q2 := iX12_isFrame) (as := [.inr (.inr 334)]) (r := []) (v := some (.inl x2)) (h1 := h1) (by decide +kernel) rfl rfl rfl rfl rfl hq hN) ?_
  have hK := hK.tr hQ
  rcases it_of hF with ⟨hb, hF⟩ | ⟨hb, hF⟩
  · refine RK.of (RN.ift (cd := .eq) (off := 21) (tgt := 25) (by decide +kernel) (mif_eq hb)) ?_
    refine RK.of (RN.blk (ops := [(25, .iconst 0)]) (pc' := 26) (lv' := [(0, .inr (.inr 334))]) (st' := [.inl 0]) (h' := h1) (cs := []) (by decide +kernel) rfl trivial) ?_
    exact RK.iR (by decide +kernel) rfl hL hK hF
  · refine RK.of (RN.iff (cd := .eq) (off := 21) (tgt := 25) (by decide +kernel) (mif_eqn hb)) ?_
    refine RK.of (RN.blk (ops := [(7, .aload_n 0)]) (pc' := 8) (lv' := [(0, .inr (.inr 334))]) (st' := [.inr (.inr 334)]) (h' := h1) (cs := []) (by decide +kernel) rfl trivial) ?_
    refine RK.of (RN.gr (i := 39) (ci := 12) (k := 20) (fn := true) (v := 344) (by decide +kernel) rfl (TO.gk (o_334 hL)) (hL.fa (v := 344) 20 1 167 (o_334 hL) rfl (by decide) rfl (by decide)).1) ?_
    refine RK.of (RN.blk (ops := [(11, .iconst 1), (12, .iaload), (13, .aload_n 0)]) (pc' := 14) (lv' := [(0, .inr (.inr 334))]) (st' := [.inr (.inr 334), .inl (m_rd h1 344 1)]) (h' := h1) (cs := [GI h1 344 1 1]) (by decide +kernel) rfl ⟨(a_344 hL).gi (by decide) (by decide), trivial⟩) ?_
    refine RK.of (RN.gr (i := 39) (ci := 12) (k := 20) (fn := true) (v := 344) (by decide +kernel) rfl (TO.gk (o_334 hL)) (hL.fa (v := 344) 20 1 167 (o_334 hL) rfl (by decide) rfl (by decide)).1) ?_
    refine RK.of (RN.blk (ops := [(17, .iconst 2), (18, .iaload)]) (pc' := 19) (lv' := [(0, .inr (.inr 334))]) (st' := [.inl (m_rd h1 344 2), .inl (m_rd h1 344 1)]) (h' := h1) (cs := [GI h1 344 1 2]) (by decide +kernel) rfl ⟨(a_344 hL).gi (by decide) (by decide), trivial⟩) ?_
    obtain ⟨x4, h3, hG, hF⟩ := bd_of hF
    obtain ⟨hN, hL, hQ⟩ := DX12_power (d := d) hL  hG
    refine RK.of (RN.cst (i := 229) (k := 159) (q2 := iX12_power) (as := [.inl (m_rd h1 344 1), .inl (m_rd h1 344 2)]) (r := []) (v := some (.inl x4)) (h1 := h3) (by decide +kernel) rfl rfl rfl rfl rfl hN) ?_
    have hK := hK.tr hQ
    refine RK.of (RN.goto (off := 4) (tgt := 26) (by decide +kernel)) ?_
    exact RK.iR (by decide +kernel) rfl hL hK hF
noncomputable def GX12_isHole (a1 : Int) (h : MH) : Option (Int × MH) :=
  (if a1 < 0 then
   some (0, h)
  else
   (if a1 < (m_rd h 344 3) then
    some (1, h)
   else
    some (0, h)))
theorem DX12_isHole {d : Nat} {a1 : Int} {h : MH} {r : Int × MH} (hL : LR h) (hF : GX12_isHole a1 h = some r) : RN xs L iX12_isHole (d) 0 (lvE 0 [.inr (.inr 334), .inl a1]) [] h (RIo r) ∧ LR r.2 ∧ KD h r.2 := by
  unfold GX12_isHole at hF
  have hK : KD h h := KD.rf
  show RK xs L iX12_isHole (d) 0 (lvE 0 [.inr (.inr 334), .inl a1]) [] h (RIo r) h r.2
  refine RK.of (RN.blk (ops := [(0, .iload_n 1)]) (pc' := 1) (lv' := [(0, .inr (.inr 334)), (1, .inl a1)]) (st' := [.inl a1]) (h' := h) (cs := []) (by decide +kernel) rfl trivial) ?_
  rcases it_of hF with ⟨hb, hF⟩ | ⟨hb, hF⟩
  · refine RK.of (RN.ift (cd := .lt) (off := 17) (tgt := 18) (by decide +kernel) (mif_lt hb)) ?_
    refine RK.of (RN.blk (ops := [(18, .iconst 0)]) (pc' := 19) (lv' := [(0, .inr (.inr 334)), (1, .inl a1)]) (st' := [.inl 0]) (h' := h) (cs := []) (by decide +kernel) rfl trivial) ?_
    exact RK.zR (by decide +kernel) rfl (Or.inl rfl) hL hK hF
  · refine RK.of (RN.iff (cd := .lt) (off := 17) (tgt := 18) (by decide +kernel) (mif_ltn hb)) ?_
    refine RK.of (RN.blk (ops := [(4, .iload_n 1), (5, .aload_n 0)]) (pc' := 6) (lv' := [(0, .inr (.inr 334)), (1, .inl a1)]) (st' := [.inr (.inr 334), .inl a1]) (h' := h) (cs := []) (by decide +kernel) rfl trivial) ?_
    refine RK.of (RN.gr (i := 39) (ci := 12) (k := 20) (fn := true) (v := 344) (by decide +kernel) rfl (TO.gk (o_334 hL)) (hL.fa (v := 344) 20 1 167 (o_334 hL) rfl (by decide) rfl (by decide)).1) ?_
    refine RK.of (RN.blk (ops := [(9, .iconst 3), (10, .iaload)]) (pc' := 11) (lv' := [(0, .inr (.inr 334)), (1, .inl a1)]) (st' := [.inl (m_rd h 344 3), .inl a1]) (h' := h) (cs := [GI h 344 1 3]) (by decide +kernel) rfl ⟨(a_344 hL).gi (by decide) (by decide), trivial⟩) ?_
    rcases it_of hF with ⟨hb, hF⟩ | ⟨hb, hF⟩
    · refine RK.of (RN.icf (cd := .ge) (off := 7) (tgt := 18) (by decide +kernel) (mif_gen hb)) ?_
      refine RK.of (RN.blk (ops := [(14, .iconst 1)]) (pc' := 15) (lv' := [(0, .inr (.inr 334)), (1, .inl a1)]) (st' := [.inl 1]) (h' := h) (cs := []) (by decide +kernel) rfl trivial) ?_
      refine RK.of (RN.goto (off := 4) (tgt := 19) (by decide +kernel)) ?_
      exact RK.zR (by decide +kernel) rfl (Or.inr rfl) hL hK hF
    · refine RK.of (RN.ict (cd := .ge) (off := 7) (tgt := 18) (by decide +kernel) (mif_ge hb)) ?_
      refine RK.of (RN.blk (ops := [(18, .iconst 0)]) (pc' := 19) (lv' := [(0, .inr (.inr 334)), (1, .inl a1)]) (st' := [.inl 0]) (h' := h) (cs := []) (by decide +kernel) rfl trivial) ?_
      exact RK.zR (by decide +kernel) rfl (Or.inl rfl) hL hK hF
noncomputable def GX12_isEntry (a1 : Int) (h : MH) : Option (Int × MH) :=
  (if a1 < 0 then
   some (0, h)
  else
   (if a1 < (m_rd h 344 13) then
    some (1, h)
   else
    some (0, h)))
theorem DX12_isEntry {d : Nat} {a1 : Int} {h : MH} {r : Int × MH} (hL : LR h) (hF : GX12_isEntry a1 h = some r) : RN xs L iX12_isEntry (d) 0 (lvE 0 [.inr (.inr 334), .inl a1]) [] h (RIo r) ∧ LR r.2 ∧ KD h r.2 := by
  unfold GX12_isEntry at hF
  have hK : KD h h := KD.rf
  show RK xs L iX12_isEntry (d) 0 (lvE 0 [.inr (.inr 334), .inl a1]) [] h (RIo r) h r.2
  refine RK.of (RN.blk (ops := [(0, .iload_n 1)]) (pc' := 1) (lv' := [(0, .inr (.inr 334)), (1, .inl a1)]) (st' := [.inl a1]) (h' := h) (cs := []) (by decide +kernel) rfl trivial) ?_
  rcases it_of hF with ⟨hb, hF⟩ | ⟨hb, hF⟩
  · refine RK.of (RN.ift (cd := .lt) (off := 18) (tgt := 19) (by decide +kernel) (mif_lt hb)) ?_
    refine RK.of (RN.blk (ops := [(19, .iconst 0)]) (pc' := 20) (lv' := [(0, .inr (.inr 334)), (1, .inl a1)]) (st' := [.inl 0]) (h' := h) (cs := []) (by decide +kernel) rfl trivial) ?_
    exact RK.zR (by decide +kernel) rfl (Or.inl rfl) hL hK hF
  · refine RK.of (RN.iff (cd := .lt) (off := 18) (tgt := 19) (by decide +kernel) (mif_ltn hb)) ?_
    refine RK.of (RN.blk (ops := [(4, .iload_n 1), (5, .aload_n 0)]) (pc' := 6) (lv' := [(0, .inr (.inr 334)), (1, .inl a1)]) (st' := [.inr (.inr 334), .inl a1]) (h' := h) (cs := []) (by decide +kernel) rfl trivial) ?_
    refine RK.of (RN.gr (i := 39) (ci := 12) (k := 20) (fn := true) (v := 344) (by decide +kernel) rfl (TO.gk (o_334 hL)) (hL.fa (v := 344) 20 1 167 (o_334 hL) rfl (by decide) rfl (by decide)).1) ?_
    refine RK.of (RN.blk (ops := [(9, .bipush 13), (11, .iaload)]) (pc' := 12) (lv' := [(0, .inr (.inr 334)), (1, .inl a1)]) (st' := [.inl (m_rd h 344 13), .inl a1]) (h' := h) (cs := [GI h 344 1 13]) (by decide +kernel) rfl ⟨(a_344 hL).gi (by decide) (by decide), trivial⟩) ?_
    rcases it_of hF with ⟨hb, hF⟩ | ⟨hb, hF⟩
    · refine RK.of (RN.icf (cd := .ge) (off := 7) (tgt := 19) (by decide +kernel) (mif_gen hb)) ?_
      refine RK.of (RN.blk (ops := [(15, .iconst 1)]) (pc' := 16) (lv' := [(0, .inr (.inr 334)), (1, .inl a1)]) (st' := [.inl 1]) (h' := h) (cs := []) (by decide +kernel) rfl trivial) ?_
      refine RK.of (RN.goto (off := 4) (tgt := 20) (by decide +kernel)) ?_
      exact RK.zR (by decide +kernel) rfl (Or.inr rfl) hL hK hF
    · refine RK.of (RN.ict (cd := .ge) (off := 7) (tgt := 19) (by decide +kernel) (mif_ge hb)) ?_
      refine RK.of (RN.blk (ops := [(19, .iconst 0)]) (pc' := 20) (lv' := [(0, .inr (.inr 334)), (1, .inl a1)]) (st' := [.inl 0]) (h' := h) (cs := []) (by decide +kernel) rfl trivial) ?_
      exact RK.zR (by decide +kernel) rfl (Or.inl rfl) hL hK hF
noncomputable def GX12_isCode (a1 : Int) (h : MH) : Option (Int × MH) :=
  (if a1 < 0 then
   some (0, h)
  else
   (bd (GX12_codesMany h) (fun x2 h1 =>
    (if a1 < x2 then
     some (1, h1)
    else
     some (0, h1)))))
theorem DX12_isCode {d : Nat} {a1 : Int} {h : MH} {r : Int × MH} (hL : LR h) (hF : GX12_isCode a1 h = some r) : RN xs L iX12_isCode (d + 2) 0 (lvE 0 [.inr (.inr 334), .inl a1]) [] h (RIo r) ∧ LR r.2 ∧ KD h r.2 := by
  unfold GX12_isCode at hF
  have hK : KD h h := KD.rf
  show RK xs L iX12_isCode (d + 2) 0 (lvE 0 [.inr (.inr 334), .inl a1]) [] h (RIo r) h r.2
  refine RK.of (RN.blk (ops := [(0, .iload_n 1)]) (pc' := 1) (lv' := [(0, .inr (.inr 334)), (1, .inl a1)]) (st' := [.inl a1]) (h' := h) (cs := []) (by decide +kernel) rfl trivial) ?_
  rcases it_of hF with ⟨hb, hF⟩ | ⟨hb, hF⟩
  · refine RK.of (RN.ift (cd := .lt) (off := 15) (tgt := 16) (by decide +kernel) (mif_lt hb)) ?_
    refine RK.of (RN.blk (ops := [(16, .iconst 0)]) (pc' := 17) (lv' := [(0, .inr (.inr 334)), (1, .inl a1)]) (st' := [.inl 0]) (h' := h) (cs := []) (by decide +kernel) rfl trivial) ?_
    exact RK.zR (by decide +kernel) rfl (Or.inl rfl) hL hK hF
  · refine RK.of (RN.iff (cd := .lt) (off := 15) (tgt := 16) (by decide +kernel) (mif_ltn hb)) ?_
    refine RK.of (RN.blk (ops := [(4, .iload_n 1), (5, .aload_n 0)]) (pc' := 6) (lv' := [(0, .inr (.inr 334)), (1, .inl a1)]) (st' := [.inr (.inr 334), .inl a1]) (h' := h) (cs := []) (by decide +kernel) rfl trivial) ?_
    obtain ⟨x2, h1, hG, hF⟩ := bd_of hF
    have hq := rcv_ok (as := []) (TO.gk (o_334 hL))
    obtain ⟨hN, hL, hQ⟩ := DX12_codesMany (d := d) hL  hG
    refine RK.of (RN.cv (i := 298) (k := 203) (q2 := iX12_codesMany) (as := [.inr (.inr 334)]) (r := [.inl a1]) (v := some (.inl x2)) (h1 := h1) (by decide +kernel) rfl rfl rfl rfl rfl hq hN) ?_
    have hK := hK.tr hQ
    rcases it_of hF with ⟨hb, hF⟩ | ⟨hb, hF⟩
    · refine RK.of (RN.icf (cd := .ge) (off := 7) (tgt := 16) (by decide +kernel) (mif_gen hb)) ?_
      refine RK.of (RN.blk (ops := [(12, .iconst 1)]) (pc' := 13) (lv' := [(0, .inr (.inr 334)), (1, .inl a1)]) (st' := [.inl 1]) (h' := h1) (cs := []) (by decide +kernel) rfl trivial) ?_
      refine RK.of (RN.goto (off := 4) (tgt := 17) (by decide +kernel)) ?_
      exact RK.zR (by decide +kernel) rfl (Or.inr rfl) hL hK hF
    · refine RK.of (RN.ict (cd := .ge) (off := 7) (tgt := 16) (by decide +kernel) (mif_ge hb)) ?_
      refine RK.of (RN.blk (ops := [(16, .iconst 0)]) (pc' := 17) (lv' := [(0, .inr (.inr 334)), (1, .inl a1)]) (st' := [.inl 0]) (h' := h1) (cs := []) (by decide +kernel) rfl trivial) ?_
      exact RK.zR (by decide +kernel) rfl (Or.inl rfl) hL hK hF
noncomputable def GX12_prefixOf (a1 : Int) (a2 : Int) (h : MH) : Option (Int × MH) :=
  (bd (GX12_power (m_rd h 344 1) (m_w32 ((m_rd h 344 2) - a2)) h) (fun x2 h1 =>
   gd [(x2 : Int) ≠ 0] (
    some ((m_w32 (Int.tdiv a1 x2)), h1))))
theorem DX12_prefixOf {d : Nat} {a1 : Int} {a2 : Int} {h : MH} {r : Int × MH} (hL : LR h) (hF : GX12_prefixOf a1 a2 h = some r) : RN xs L iX12_prefixOf (d + 1) 0 (lvE 0 [.inr (.inr 334), .inl a1, .inl a2]) [] h (RIo r) ∧ LR r.2 ∧ KD h r.2 := by
  unfold GX12_prefixOf at hF
  have hK : KD h h := KD.rf
  show RK xs L iX12_prefixOf (d + 1) 0 (lvE 0 [.inr (.inr 334), .inl a1, .inl a2]) [] h (RIo r) h r.2
  refine RK.of (RN.blk (ops := [(0, .iload_n 1), (1, .aload_n 0)]) (pc' := 2) (lv' := [(0, .inr (.inr 334)), (1, .inl a1), (2, .inl a2)]) (st' := [.inr (.inr 334), .inl a1]) (h' := h) (cs := []) (by decide +kernel) rfl trivial) ?_
  refine RK.of (RN.gr (i := 39) (ci := 12) (k := 20) (fn := true) (v := 344) (by decide +kernel) rfl (TO.gk (o_334 hL)) (hL.fa (v := 344) 20 1 167 (o_334 hL) rfl (by decide) rfl (by decide)).1) ?_
  refine RK.of (RN.blk (ops := [(5, .iconst 1), (6, .iaload), (7, .aload_n 0)]) (pc' := 8) (lv' := [(0, .inr (.inr 334)), (1, .inl a1), (2, .inl a2)]) (st' := [.inr (.inr 334), .inl (m_rd h 344 1), .inl a1]) (h' := h) (cs := [GI h 344 1 1]) (by decide +kernel) rfl ⟨(a_344 hL).gi (by decide) (by decide), trivial⟩) ?_
  refine RK.of (RN.gr (i := 39) (ci := 12) (k := 20) (fn := true) (v := 344) (by decide +kernel) rfl (TO.gk (o_334 hL)) (hL.fa (v := 344) 20 1 167 (o_334 hL) rfl (by decide) rfl (by decide)).1) ?_
  refine RK.of (RN.blk (ops := [(11, .iconst 2), (12, .iaload), (13, .iload_n 2), (14, .isub)]) (pc' := 15) (lv' := [(0, .inr (.inr 334)), (1, .inl a1), (2, .inl a2)]) (st' := [.inl (m_w32 ((m_rd h 344 2) - a2)), .inl (m_rd h 344 1), .inl a1]) (h' := h) (cs := [GI h 344 1 2]) (by decide +kernel) rfl ⟨(a_344 hL).gi (by decide) (by decide), trivial⟩) ?_
  obtain ⟨x2, h1, hG, hF⟩ := bd_of hF
  obtain ⟨hN, hL, hQ⟩ := DX12_power (d := d) hL  hG
  refine RK.of (RN.cst (i := 229) (k := 159) (q2 := iX12_power) (as := [.inl (m_rd h 344 1), .inl (m_w32 ((m_rd h 344 2) - a2))]) (r := [.inl a1]) (v := some (.inl x2)) (h1 := h1) (by decide +kernel) rfl rfl rfl rfl rfl hN) ?_
  have hK := hK.tr hQ
  obtain ⟨hc, hF⟩ := gd_of hF
  refine RK.of (RN.blk (ops := [(18, .idiv)]) (pc' := 19) (lv' := [(0, .inr (.inr 334)), (1, .inl a1), (2, .inl a2)]) (st' := [.inl (m_w32 (Int.tdiv a1 x2))]) (h' := h1) (cs := [(x2 : Int) ≠ 0]) (by decide +kernel) rfl ⟨hc.1, trivial⟩) ?_
  exact RK.iR (by decide +kernel) rfl hL hK hF
noncomputable def GX12_entryOf_L4 (u1 : Int) (K0 : Int → MH → Option (Int × MH)) : Nat → Int → Int → MH → Option (Int × MH)
  | 0, _, _, _ => none
  | f + 1, v2, v3, h =>
    (if v3 < (m_rd h 344 13) then
     gd [IB (m_w32 ((m_w32 (46 + (m_w32 (3 * v3)))) + 1)) 167] (
      gd [IB (m_w32 (46 + (m_w32 (3 * v3)))) 167] (
       (bd (GX12_prefixOf u1 (m_rd h 344 (m_w32 (46 + (m_w32 (3 * v3))))) h) (fun x2 h1 =>
        (if (m_rd h 344 (m_w32 ((m_w32 (46 + (m_w32 (3 * v3)))) + 1))) = x2 then
         (if v2 < 0 then
          GX12_entryOf_L4 u1 K0 f v3 (m_w32 (v3 + 1)) h1
         else
          gd [IB (m_w32 (46 + (m_w32 (3 * v3)))) 167] (
           gd [IB (m_w32 (46 + (m_w32 (3 * v2)))) 167] (
            (if (m_rd h1 344 (m_w32 (46 + (m_w32 (3 * v2))))) < (m_rd h1 344 (m_w32 (46 + (m_w32 (3 * v3))))) then
             GX12_entryOf_L4 u1 K0 f v3 (m_w32 (v3 + 1)) h1
            else
             GX12_entryOf_L4 u1 K0 f v2 (m_w32 (v3 + 1)) h1))))
        else
         GX12_entryOf_L4 u1 K0 f v2 (m_w32 (v3 + 1)) h1)))))
    else
     K0 v2 h)
theorem DX12_entryOf_L4 {d : Nat} {u1 : Int} {K0 : Int → MH → Option (Int × MH)} {r : Int × MH} {h0 hB : MH} (hB0 : KD h0 hB) (hK0 : ∀ (w2 : Int) (h : MH), LR h → KD hB h → K0 w2 h = some r → RK xs L iX12_entryOf (d + 2) 80 [(2, .inl w2)] [] h (RIo r) h0 r.2) : ∀ (f : Nat) (v2 : Int) (v3 : Int) (h : MH), LR h → KD hB h → GX12_entryOf_L4 u1 K0 f v2 v3 h = some r → RK xs L iX12_entryOf (d + 2) 4 [(0, .inr (.inr 334)), (1, .inl u1), (2, .inl v2), (3, .inl v3)] [] h (RIo r) h0 r.2 := by
  intro f
  induction f with
  | zero =>
    intro v2 v3 h hL hJ hF
    cases hF
  | succ f ih =>
    intro v2 v3 h hL hJ hF
    unfold GX12_entryOf_L4 at hF
    have hK := hB0.tr hJ
    refine RK.of (RN.blk (ops := [(4, .iload_n 3), (5, .aload_n 0)]) (pc' := 6) (lv' := [(0, .inr (.inr 334)), (1, .inl u1), (2, .inl v2), (3, .inl v3)]) (st' := [.inr (.inr 334), .inl v3]) (h' := h) (cs := []) (by decide +kernel) rfl trivial) ?_
    refine RK.of (RN.gr (i := 39) (ci := 12) (k := 20) (fn := true) (v := 344) (by decide +kernel) rfl (TO.gk (o_334 hL)) (hL.fa (v := 344) 20 1 167 (o_334 hL) rfl (by decide) rfl (by decide)).1) ?_
    refine RK.of (RN.blk (ops := [(9, .bipush 13), (11, .iaload)]) (pc' := 12) (lv' := [(0, .inr (.inr 334)), (1, .inl u1), (2, .inl v2), (3, .inl v3)]) (st' := [.inl (m_rd h 344 13), .inl v3]) (h' := h) (cs := [GI h 344 1 13]) (by decide +kernel) rfl ⟨(a_344 hL).gi (by decide) (by decide), trivial⟩) ?_
    rcases it_of hF with ⟨hb, hF⟩ | ⟨hb, hF⟩
    · refine RK.of (RN.icf (cd := .ge) (off := 68) (tgt := 80) (by decide +kernel) (mif_gen hb)) ?_
      refine RK.of (RN.blk (ops := [(15, .bipush 46), (17, .iconst 3), (18, .iload_n 3), (19, .imul), (20, .iadd), (21, .istore 4), (23, .aload_n 0)]) (pc' := 24) (lv' := [(4, .inl (m_w32 (46 + (m_w32 (3 * v3))))), (0, .inr (.inr 334)), (1, .inl u1), (2, .inl v2), (3, .inl v3)]) (st' := [.inr (.inr 334)]) (h' := h) (cs := []) (by decide +kernel) rfl trivial) ?_
      refine RK.of (RN.gr (i := 39) (ci := 12) (k := 20) (fn := true) (v := 344) (by decide +kernel) rfl (TO.gk (o_334 hL)) (hL.fa (v := 344) 20 1 167 (o_334 hL) rfl (by decide) rfl (by decide)).1) ?_
      obtain ⟨hc, hF⟩ := gd_of hF
      refine RK.of (RN.blk (ops := [(27, .iload 4), (29, .iconst 1), (30, .iadd), (31, .iaload), (32, .aload_n 0), (33, .iload_n 1), (34, .aload_n 0)]) (pc' := 35) (lv' := [(4, .inl (m_w32 (46 + (m_w32 (3 * v3))))), (0, .inr (.inr 334)), (1, .inl u1), (2, .inl v2), (3, .inl v3)]) (st' := [.inr (.inr 334), .inl u1, .inr (.inr 334), .inl (m_rd h 344 (m_w32 ((m_w32 (46 + (m_w32 (3 * v3)))) + 1)))]) (h' := h) (cs := [GI h 344 1 (m_w32 ((m_w32 (46 + (m_w32 (3 * v3)))) + 1))]) (by decide +kernel) rfl ⟨(a_344 hL).gi hc.1.1 hc.1.2, trivial⟩) ?_
      refine RK.of (RN.gr (i := 39) (ci := 12) (k := 20) (fn := true) (v := 344) (by decide +kernel) rfl (TO.gk (o_334 hL)) (hL.fa (v := 344) 20 1 167 (o_334 hL) rfl (by decide) rfl (by decide)).1) ?_
      obtain ⟨hc, hF⟩ := gd_of hF
      refine RK.of (RN.blk (ops := [(38, .iload 4), (40, .iaload)]) (pc' := 41) (lv' := [(4, .inl (m_w32 (46 + (m_w32 (3 * v3))))), (0, .inr (.inr 334)), (1, .inl u1), (2, .inl v2), (3, .inl v3)]) (st' := [.inl (m_rd h 344 (m_w32 (46 + (m_w32 (3 * v3))))), .inl u1, .inr (.inr 334), .inl (m_rd h 344 (m_w32 ((m_w32 (46 + (m_w32 (3 * v3)))) + 1)))]) (h' := h) (cs := [GI h 344 1 (m_w32 (46 + (m_w32 (3 * v3))))]) (by decide +kernel) rfl ⟨(a_344 hL).gi hc.1.1 hc.1.2, trivial⟩) ?_
      obtain ⟨x2, h1, hG, hF⟩ := bd_of hF
      have hq := rcv_ok (as := [.inl u1, .inl (m_rd h 344 (m_w32 (46 + (m_w32 (3 * v3)))))]) (TO.gk (o_334 hL))
      obtain ⟨hN, hL, hQ⟩ := DX12_prefixOf (d := d) hL  hG
      refine RK.of (RN.cv (i := 301) (k := 207) (q2 := iX12_prefixOf) (as := [.inr (.inr 334), .inl u1, .inl (m_rd h 344 (m_w32 (46 + (m_w32 (3 * v3)))))]) (r := [.inl (m_rd h 344 (m_w32 ((m_w32 (46 + (m_w32 (3 * v3)))) + 1)))]) (v := some (.inl x2)) (h1 := h1) (by decide +kernel) rfl rfl rfl rfl rfl hq hN) ?_
      have hK := hK.tr hQ
      have hJ := hJ.tr hQ
      rcases it_of hF with ⟨hb, hF⟩ | ⟨hb, hF⟩
      · refine RK.of (RN.icf (cd := .ne) (off := 30) (tgt := 74) (by decide +kernel) (mif_nen hb)) ?_
        refine RK.of (RN.blk (ops := [(47, .iload_n 2)]) (pc' := 48) (lv' := [(4, .inl (m_w32 (46 + (m_w32 (3 * v3))))), (0, .inr (.inr 334)), (1, .inl u1), (2, .inl v2), (3, .inl v3)]) (st' := [.inl v2]) (h' := h1) (cs := []) (by decide +kernel) rfl trivial) ?_
        rcases it_of hF with ⟨hb, hF⟩ | ⟨hb, hF⟩
        · refine RK.of (RN.ift (cd := .lt) (off := 24) (tgt := 72) (by decide +kernel) (mif_lt hb)) ?_
          refine RK.of (RN.blk (ops := [(72, .iload_n 3), (73, .istore_n 2)]) (pc' := 74) (lv' := [(2, .inl v3), (4, .inl (m_w32 (46 + (m_w32 (3 * v3))))), (0, .inr (.inr 334)), (1, .inl u1), (3, .inl v3)]) (st' := []) (h' := h1) (cs := []) (by decide +kernel) rfl trivial) ?_
          refine RK.of (RN.blk (ops := [(74, .iinc 3 1)]) (pc' := 77) (lv' := [(3, .inl (m_w32 (v3 + 1))), (2, .inl v3), (4, .inl (m_w32 (46 + (m_w32 (3 * v3))))), (0, .inr (.inr 334)), (1, .inl u1)]) (st' := []) (h' := h1) (cs := []) (by decide +kernel) rfl trivial) ?_
          refine RK.of (RN.goto (off := -73) (tgt := 4) (by decide +kernel)) ?_
          exact RK.sub (ih _ _ _ hL hJ hF) (sub_cons rfl (sub_cons rfl (sub_cons rfl (sub_cons rfl sub_nil))))
        · refine RK.of (RN.iff (cd := .lt) (off := 24) (tgt := 72) (by decide +kernel) (mif_ltn hb)) ?_
          refine RK.of (RN.blk (ops := [(51, .aload_n 0)]) (pc' := 52) (lv' := [(4, .inl (m_w32 (46 + (m_w32 (3 * v3))))), (0, .inr (.inr 334)), (1, .inl u1), (2, .inl v2), (3, .inl v3)]) (st' := [.inr (.inr 334)]) (h' := h1) (cs := []) (by decide +kernel) rfl trivial) ?_
          refine RK.of (RN.gr (i := 39) (ci := 12) (k := 20) (fn := true) (v := 344) (by decide +kernel) rfl (TO.gk (o_334 hL)) (hL.fa (v := 344) 20 1 167 (o_334 hL) rfl (by decide) rfl (by decide)).1) ?_
          obtain ⟨hc, hF⟩ := gd_of hF
          refine RK.of (RN.blk (ops := [(55, .iload 4), (57, .iaload), (58, .aload_n 0)]) (pc' := 59) (lv' := [(4, .inl (m_w32 (46 + (m_w32 (3 * v3))))), (0, .inr (.inr 334)), (1, .inl u1), (2, .inl v2), (3, .inl v3)]) (st' := [.inr (.inr 334), .inl (m_rd h1 344 (m_w32 (46 + (m_w32 (3 * v3)))))]) (h' := h1) (cs := [GI h1 344 1 (m_w32 (46 + (m_w32 (3 * v3))))]) (by decide +kernel) rfl ⟨(a_344 hL).gi hc.1.1 hc.1.2, trivial⟩) ?_
          refine RK.of (RN.gr (i := 39) (ci := 12) (k := 20) (fn := true) (v := 344) (by decide +kernel) rfl (TO.gk (o_334 hL)) (hL.fa (v := 344) 20 1 167 (o_334 hL) rfl (by decide) rfl (by decide)).1) ?_
          obtain ⟨hc, hF⟩ := gd_of hF
          refine RK.of (RN.blk (ops := [(62, .bipush 46), (64, .iconst 3), (65, .iload_n 2), (66, .imul), (67, .iadd), (68, .iaload)]) (pc' := 69) (lv' := [(4, .inl (m_w32 (46 + (m_w32 (3 * v3))))), (0, .inr (.inr 334)), (1, .inl u1), (2, .inl v2), (3, .inl v3)]) (st' := [.inl (m_rd h1 344 (m_w32 (46 + (m_w32 (3 * v2))))), .inl (m_rd h1 344 (m_w32 (46 + (m_w32 (3 * v3)))))]) (h' := h1) (cs := [GI h1 344 1 (m_w32 (46 + (m_w32 (3 * v2))))]) (by decide +kernel) rfl ⟨(a_344 hL).gi hc.1.1 hc.1.2, trivial⟩) ?_
          rcases it_of hF with ⟨hb, hF⟩ | ⟨hb, hF⟩
          · refine RK.of (RN.icf (cd := .le) (off := 5) (tgt := 74) (by decide +kernel) (mif_len hb)) ?_
            refine RK.of (RN.blk (ops := [(72, .iload_n 3), (73, .istore_n 2)]) (pc' := 74) (lv' := [(2, .inl v3), (4, .inl (m_w32 (46 + (m_w32 (3 * v3))))), (0, .inr (.inr 334)), (1, .inl u1), (3, .inl v3)]) (st' := []) (h' := h1) (cs := []) (by decide +kernel) rfl trivial) ?_
            refine RK.of (RN.blk (ops := [(74, .iinc 3 1)]) (pc' := 77) (lv' := [(3, .inl (m_w32 (v3 + 1))), (2, .inl v3), (4, .inl (m_w32 (46 + (m_w32 (3 * v3))))), (0, .inr (.inr 334)), (1, .inl u1)]) (st' := []) (h' := h1) (cs := []) (by decide +kernel) rfl trivial) ?_
            refine RK.of (RN.goto (off := -73) (tgt := 4) (by decide +kernel)) ?_
            exact RK.sub (ih _ _ _ hL hJ hF) (sub_cons rfl (sub_cons rfl (sub_cons rfl (sub_cons rfl sub_nil))))
          · refine RK.of (RN.ict (cd := .le) (off := 5) (tgt := 74) (by decide +kernel) (mif_le hb)) ?_
            refine RK.of (RN.blk (ops := [(74, .iinc 3 1)]) (pc' := 77) (lv' := [(3, .inl (m_w32 (v3 + 1))), (4, .inl (m_w32 (46 + (m_w32 (3 * v3))))), (0, .inr (.inr 334)), (1, .inl u1), (2, .inl v2)]) (st' := []) (h' := h1) (cs := []) (by decide +kernel) rfl trivial) ?_
            refine RK.of (RN.goto (off := -73) (tgt := 4) (by decide +kernel)) ?_
            exact RK.sub (ih _ _ _ hL hJ hF) (sub_cons rfl (sub_cons rfl (sub_cons rfl (sub_cons rfl sub_nil))))
      · refine RK.of (RN.ict (cd := .ne) (off := 30) (tgt := 74) (by decide +kernel) (mif_ne hb)) ?_
        refine RK.of (RN.blk (ops := [(74, .iinc 3 1)]) (pc' := 77) (lv' := [(3, .inl (m_w32 (v3 + 1))), (4, .inl (m_w32 (46 + (m_w32 (3 * v3))))), (0, .inr (.inr 334)), (1, .inl u1), (2, .inl v2)]) (st' := []) (h' := h1) (cs := []) (by decide +kernel) rfl trivial) ?_
        refine RK.of (RN.goto (off := -73) (tgt := 4) (by decide +kernel)) ?_
        exact RK.sub (ih _ _ _ hL hJ hF) (sub_cons rfl (sub_cons rfl (sub_cons rfl (sub_cons rfl sub_nil))))
    · refine RK.of (RN.ict (cd := .ge) (off := 68) (tgt := 80) (by decide +kernel) (mif_ge hb)) ?_
      exact RK.sub (hK0 _ _ hL hJ hF) (sub_cons rfl sub_nil)
noncomputable def GX12_entryOf (a1 : Int) (h : MH) : Option (Int × MH) :=
  GX12_entryOf_L4 a1 (fun w1 h2 =>
   some (w1, h2)) FU (-1) 0 h
theorem DX12_entryOf {d : Nat} {a1 : Int} {h : MH} {r : Int × MH} (hL : LR h) (hF : GX12_entryOf a1 h = some r) : RN xs L iX12_entryOf (d + 2) 0 (lvE 0 [.inr (.inr 334), .inl a1]) [] h (RIo r) ∧ LR r.2 ∧ KD h r.2 := by
  unfold GX12_entryOf at hF
  have hK : KD h h := KD.rf
  show RK xs L iX12_entryOf (d + 2) 0 (lvE 0 [.inr (.inr 334), .inl a1]) [] h (RIo r) h r.2
  refine RK.of (RN.blk (ops := [(0, .iconst (-1)), (1, .istore_n 2), (2, .iconst 0), (3, .istore_n 3)]) (pc' := 4) (lv' := [(3, .inl 0), (2, .inl (-1)), (0, .inr (.inr 334)), (1, .inl a1)]) (st' := []) (h' := h) (cs := []) (by decide +kernel) rfl trivial) ?_
  refine RK.sub (DX12_entryOf_L4 hK ?_ _ _ _ _ hL KD.rf hF) (sub_cons rfl (sub_cons rfl (sub_cons rfl (sub_cons rfl sub_nil))))
  · intro w1 h2 hL hq hF
    have hK := hK.tr hq
    refine RK.of (RN.blk (ops := [(80, .iload_n 2)]) (pc' := 81) (lv' := [(2, .inl w1)]) (st' := [.inl w1]) (h' := h2) (cs := []) (by decide +kernel) rfl trivial) ?_
    exact RK.iR (by decide +kernel) rfl hL hK hF
noncomputable def GX12_holeOf (a1 : Int) (h : MH) : Option (Int × MH) :=
  (bd (GX12_entryOf a1 h) (fun x2 h1 =>
   (if x2 < 0 then
    some ((-1), h1)
   else
    gd [IB (m_w32 ((m_w32 (46 + (m_w32 (3 * x2)))) + 2)) 167] (
     some ((m_rd h1 344 (m_w32 ((m_w32 (46 + (m_w32 (3 * x2)))) + 2))), h1)))))
theorem DX12_holeOf {d : Nat} {a1 : Int} {h : MH} {r : Int × MH} (hL : LR h) (hF : GX12_holeOf a1 h = some r) : RN xs L iX12_holeOf (d + 3) 0 (lvE 0 [.inr (.inr 334), .inl a1]) [] h (RIo r) ∧ LR r.2 ∧ KD h r.2 := by
  unfold GX12_holeOf at hF
  have hK : KD h h := KD.rf
  show RK xs L iX12_holeOf (d + 3) 0 (lvE 0 [.inr (.inr 334), .inl a1]) [] h (RIo r) h r.2
  refine RK.of (RN.blk (ops := [(0, .aload_n 0), (1, .iload_n 1)]) (pc' := 2) (lv' := [(0, .inr (.inr 334)), (1, .inl a1)]) (st' := [.inl a1, .inr (.inr 334)]) (h' := h) (cs := []) (by decide +kernel) rfl trivial) ?_
  obtain ⟨x2, h1, hG, hF⟩ := bd_of hF
  have hq := rcv_ok (as := [.inl a1]) (TO.gk (o_334 hL))
  obtain ⟨hN, hL, hQ⟩ := DX12_entryOf (d := d) hL  hG
  refine RK.of (RN.cv (i := 304) (k := 208) (q2 := iX12_entryOf) (as := [.inr (.inr 334), .inl a1]) (r := []) (v := some (.inl x2)) (h1 := h1) (by decide +kernel) rfl rfl rfl rfl rfl hq hN) ?_
  have hK := hK.tr hQ
  refine RK.of (RN.blk (ops := [(5, .istore_n 2), (6, .iload_n 2)]) (pc' := 7) (lv' := [(2, .inl x2), (0, .inr (.inr 334)), (1, .inl a1)]) (st' := [.inl x2]) (h' := h1) (cs := []) (by decide +kernel) rfl trivial) ?_
  rcases it_of hF with ⟨hb, hF⟩ | ⟨hb, hF⟩
  · refine RK.of (RN.iff (cd := .ge) (off := 7) (tgt := 14) (by decide +kernel) (mif_gen hb)) ?_
    refine RK.of (RN.blk (ops := [(10, .iconst (-1))]) (pc' := 11) (lv' := [(2, .inl x2), (0, .inr (.inr 334)), (1, .inl a1)]) (st' := [.inl (-1)]) (h' := h1) (cs := []) (by decide +kernel) rfl trivial) ?_
    refine RK.of (RN.goto (off := 16) (tgt := 27) (by decide +kernel)) ?_
    exact RK.iR (by decide +kernel) rfl hL hK hF
  · refine RK.of (RN.ift (cd := .ge) (off := 7) (tgt := 14) (by decide +kernel) (mif_ge hb)) ?_
    refine RK.of (RN.blk (ops := [(14, .aload_n 0)]) (pc' := 15) (lv' := [(2, .inl x2), (0, .inr (.inr 334)), (1, .inl a1)]) (st' := [.inr (.inr 334)]) (h' := h1) (cs := []) (by decide +kernel) rfl trivial) ?_
    refine RK.of (RN.gr (i := 39) (ci := 12) (k := 20) (fn := true) (v := 344) (by decide +kernel) rfl (TO.gk (o_334 hL)) (hL.fa (v := 344) 20 1 167 (o_334 hL) rfl (by decide) rfl (by decide)).1) ?_
    obtain ⟨hc, hF⟩ := gd_of hF
    refine RK.of (RN.blk (ops := [(18, .bipush 46), (20, .iconst 3), (21, .iload_n 2), (22, .imul), (23, .iadd), (24, .iconst 2), (25, .iadd), (26, .iaload)]) (pc' := 27) (lv' := [(2, .inl x2), (0, .inr (.inr 334)), (1, .inl a1)]) (st' := [.inl (m_rd h1 344 (m_w32 ((m_w32 (46 + (m_w32 (3 * x2)))) + 2)))]) (h' := h1) (cs := [GI h1 344 1 (m_w32 ((m_w32 (46 + (m_w32 (3 * x2)))) + 2))]) (by decide +kernel) rfl ⟨(a_344 hL).gi hc.1.1 hc.1.2, trivial⟩) ?_
    exact RK.iR (by decide +kernel) rfl hL hK hF
noncomputable def GX12_sumOver_L4 (u1 : Int) (K0 : Int → MH → Option (Int × MH)) : Nat → Int → Int → MH → Option (Int × MH)
  | 0, _, _, _ => none
  | f + 1, v2, v3, h =>
    (if v3 < (m_rd h 344 3) then
     gd [IB (m_w32 (u1 + v3)) 167] (
      GX12_sumOver_L4 u1 K0 f (m_w32 (v2 + (m_rd h 344 (m_w32 (u1 + v3))))) (m_w32 (v3 + 1)) h)
    else
     K0 v2 h)
theorem DX12_sumOver_L4 {d : Nat} {u1 : Int} {K0 : Int → MH → Option (Int × MH)} {r : Int × MH} {h0 hB : MH} (hB0 : KD h0 hB) (hK0 : ∀ (w2 : Int) (h : MH), LR h → KD hB h → K0 w2 h = some r → RK xs L iX12_sumOver (d) 31 [(2, .inl w2)] [] h (RIo r) h0 r.2) : ∀ (f : Nat) (v2 : Int) (v3 : Int) (h : MH), LR h → KD hB h → GX12_sumOver_L4 u1 K0 f v2 v3 h = some r → RK xs L iX12_sumOver (d) 4 [(0, .inr (.inr 334)), (1, .inl u1), (2, .inl v2), (3, .inl v3)] [] h (RIo r) h0 r.2 := by
  intro f
  induction f with
  | zero =>
    intro v2 v3 h hL hJ hF
    cases hF
  | succ f ih =>
    intro v2 v3 h hL hJ hF
    unfold GX12_sumOver_L4 at hF
    have hK := hB0.tr hJ
    refine RK.of (RN.blk (ops := [(4, .iload_n 3), (5, .aload_n 0)]) (pc' := 6) (lv' := [(0, .inr (.inr 334)), (1, .inl u1), (2, .inl v2), (3, .inl v3)]) (st' := [.inr (.inr 334), .inl v3]) (h' := h) (cs := []) (by decide +kernel) rfl trivial) ?_
    refine RK.of (RN.gr (i := 39) (ci := 12) (k := 20) (fn := true) (v := 344) (by decide +kernel) rfl (TO.gk (o_334 hL)) (hL.fa (v := 344) 20 1 167 (o_334 hL) rfl (by decide) rfl (by decide)).1) ?_
    refine RK.of (RN.blk (ops := [(9, .iconst 3), (10, .iaload)]) (pc' := 11) (lv' := [(0, .inr (.inr 334)), (1, .inl u1), (2, .inl v2), (3, .inl v3)]) (st' := [.inl (m_rd h 344 3), .inl v3]) (h' := h) (cs := [GI h 344 1 3]) (by decide +kernel) rfl ⟨(a_344 hL).gi (by decide) (by decide), trivial⟩) ?_
    rcases it_of hF with ⟨hb, hF⟩ | ⟨hb, hF⟩
    · refine RK.of (RN.icf (cd := .ge) (off := 20) (tgt := 31) (by decide +kernel) (mif_gen hb)) ?_
      refine RK.of (RN.blk (ops := [(14, .iload_n 2), (15, .aload_n 0)]) (pc' := 16) (lv' := [(0, .inr (.inr 334)), (1, .inl u1), (2, .inl v2), (3, .inl v3)]) (st' := [.inr (.inr 334), .inl v2]) (h' := h) (cs := []) (by decide +kernel) rfl trivial) ?_
      refine RK.of (RN.gr (i := 39) (ci := 12) (k := 20) (fn := true) (v := 344) (by decide +kernel) rfl (TO.gk (o_334 hL)) (hL.fa (v := 344) 20 1 167 (o_334 hL) rfl (by decide) rfl (by decide)).1) ?_
      obtain ⟨hc, hF⟩ := gd_of hF
      refine RK.of (RN.blk (ops := [(19, .iload_n 1), (20, .iload_n 3), (21, .iadd), (22, .iaload), (23, .iadd), (24, .istore_n 2), (25, .iinc 3 1)]) (pc' := 28) (lv' := [(3, .inl (m_w32 (v3 + 1))), (2, .inl (m_w32 (v2 + (m_rd h 344 (m_w32 (u1 + v3)))))), (0, .inr (.inr 334)), (1, .inl u1)]) (st' := []) (h' := h) (cs := [GI h 344 1 (m_w32 (u1 + v3))]) (by decide +kernel) rfl ⟨(a_344 hL).gi hc.1.1 hc.1.2, trivial⟩) ?_
      refine RK.of (RN.goto (off := -24) (tgt := 4) (by decide +kernel)) ?_
      exact RK.sub (ih _ _ _ hL hJ hF) (sub_cons rfl (sub_cons rfl (sub_cons rfl (sub_cons rfl sub_nil))))
    · refine RK.of (RN.ict (cd := .ge) (off := 20) (tgt := 31) (by decide +kernel) (mif_ge hb)) ?_
      exact RK.sub (hK0 _ _ hL hJ hF) (sub_cons rfl sub_nil)
noncomputable def GX12_sumOver (a1 : Int) (h : MH) : Option (Int × MH) :=
  GX12_sumOver_L4 a1 (fun w1 h2 =>
   some (w1, h2)) FU 0 0 h
theorem DX12_sumOver {d : Nat} {a1 : Int} {h : MH} {r : Int × MH} (hL : LR h) (hF : GX12_sumOver a1 h = some r) : RN xs L iX12_sumOver (d) 0 (lvE 0 [.inr (.inr 334), .inl a1]) [] h (RIo r) ∧ LR r.2 ∧ KD h r.2 := by
  unfold GX12_sumOver at hF
  have hK : KD h h := KD.rf
  show RK xs L iX12_sumOver (d) 0 (lvE 0 [.inr (.inr 334), .inl a1]) [] h (RIo r) h r.2
  refine RK.of (RN.blk (ops := [(0, .iconst 0), (1, .istore_n 2), (2, .iconst 0), (3, .istore_n 3)]) (pc' := 4) (lv' := [(3, .inl 0), (2, .inl 0), (0, .inr (.inr 334)), (1, .inl a1)]) (st' := []) (h' := h) (cs := []) (by decide +kernel) rfl trivial) ?_
  refine RK.sub (DX12_sumOver_L4 hK ?_ _ _ _ _ hL KD.rf hF) (sub_cons rfl (sub_cons rfl (sub_cons rfl (sub_cons rfl sub_nil))))
  · intro w1 h2 hL hq hF
    have hK := hK.tr hq
    refine RK.of (RN.blk (ops := [(31, .iload_n 2)]) (pc' := 32) (lv' := [(2, .inl w1)]) (st' := [.inl w1]) (h' := h2) (cs := []) (by decide +kernel) rfl trivial) ?_
    exact RK.iR (by decide +kernel) rfl hL hK hF
noncomputable def GX12_force (a1 : Int) (h : MH) : Option (Int × MH) :=
  (if a1 = (-1) then
   some ((m_rd h 334 21), (m_wr h 334 21 a1))
  else
   (bd (GX12_isRule a1 h) (fun x2 h1 =>
    (if x2 = 0 then
     some ((-2), h1)
    else
     some ((m_rd h1 334 21), (m_wr h1 334 21 a1))))))
theorem DX12_force {d : Nat} {a1 : Int} {h : MH} {r : Int × MH} (hL : LR h) (hF : GX12_force a1 h = some r) : RN xs L iX12_force (d + 1) 0 (lvE 0 [.inr (.inr 334), .inl a1]) [] h (RIo r) ∧ LR r.2 ∧ KD h r.2 := by
  unfold GX12_force at hF
  have hK : KD h h := KD.rf
  show RK xs L iX12_force (d + 1) 0 (lvE 0 [.inr (.inr 334), .inl a1]) [] h (RIo r) h r.2
  refine RK.of (RN.blk (ops := [(0, .iload_n 1), (1, .iconst (-1))]) (pc' := 2) (lv' := [(0, .inr (.inr 334)), (1, .inl a1)]) (st' := [.inl (-1), .inl a1]) (h' := h) (cs := []) (by decide +kernel) rfl trivial) ?_
  rcases it_of hF with ⟨hb, hF⟩ | ⟨hb, hF⟩
  · refine RK.of (RN.ict (cd := .eq) (off := 14) (tgt := 16) (by decide +kernel) (mif_eq hb)) ?_
    refine RK.of (RN.blk (ops := [(16, .aload_n 0), (17, .getfield 42), (20, .istore_n 2), (21, .aload_n 0), (22, .iload_n 1), (23, .putfield 42)]) (pc' := 26) (lv' := [(2, .inl (m_rd h 334 21)), (0, .inr (.inr 334)), (1, .inl a1)]) (st' := []) (h' := (m_wr h 334 21 a1)) (cs := [GK h 334 12, GK h 334 12]) (by decide +kernel) rfl ⟨(o_334 hL).gk, (o_334 hL).gk, trivial⟩) ?_
    have hL : LR (m_wr h 334 21 a1) := LR.wf (k := 21) hL (o_334 hL) rfl
    have hK := hK.tr (KD.wr : KD h (m_wr h 334 21 a1))
    refine RK.of (RN.blk (ops := [(26, .iload_n 2)]) (pc' := 27) (lv' := [(2, .inl (m_rd h 334 21)), (0, .inr (.inr 334)), (1, .inl a1)]) (st' := [.inl (m_rd h 334 21)]) (h' := (m_wr h 334 21 a1)) (cs := []) (by decide +kernel) rfl trivial) ?_
    exact RK.iR (by decide +kernel) rfl hL hK hF
  · refine RK.of (RN.icf (cd := .eq) (off := 14) (tgt := 16) (by decide +kernel) (mif_eqn hb)) ?_
    refine RK.of (RN.blk (ops := [(5, .aload_n 0), (6, .iload_n 1)]) (pc' := 7) (lv' := [(0, .inr (.inr 334)), (1, .inl a1)]) (st' := [.inl a1, .inr (.inr 334)]) (h' := h) (cs := []) (by decide +kernel) rfl trivial) ?_
    obtain ⟨x2, h1, hG, hF⟩ := bd_of hF
    have hq := rcv_ok (as := [.inl a1]) (TO.gk (o_334 hL))
    obtain ⟨hN, hL, hQ⟩ := DX12_isRule (d := d) hL  hG
    refine RK.of (RN.cv (i := 307) (k := 197) (q2 := iX12_isRule) (as := [.inr (.inr 334), .inl a1]) (r := []) (v := some (.inl x2)) (h1 := h1) (by decide +kernel) rfl rfl rfl rfl rfl hq hN) ?_
    have hK := hK.tr hQ
    rcases it_of hF with ⟨hb, hF⟩ | ⟨hb, hF⟩
    · refine RK.of (RN.iff (cd := .ne) (off := 6) (tgt := 16) (by decide +kernel) (mif_nen hb)) ?_
      refine RK.of (RN.blk (ops := [(13, .bipush (-2))]) (pc' := 15) (lv' := [(0, .inr (.inr 334)), (1, .inl a1)]) (st' := [.inl (-2)]) (h' := h1) (cs := []) (by decide +kernel) rfl trivial) ?_
      exact RK.iR (by decide +kernel) rfl hL hK hF
    · refine RK.of (RN.ift (cd := .ne) (off := 6) (tgt := 16) (by decide +kernel) (mif_ne hb)) ?_
      refine RK.of (RN.blk (ops := [(16, .aload_n 0), (17, .getfield 42), (20, .istore_n 2), (21, .aload_n 0), (22, .iload_n 1), (23, .putfield 42)]) (pc' := 26) (lv' := [(2, .inl (m_rd h1 334 21)), (0, .inr (.inr 334)), (1, .inl a1)]) (st' := []) (h' := (m_wr h1 334 21 a1)) (cs := [GK h1 334 12, GK h1 334 12]) (by decide +kernel) rfl ⟨(o_334 hL).gk, (o_334 hL).gk, trivial⟩) ?_
      have hL : LR (m_wr h1 334 21 a1) := LR.wf (k := 21) hL (o_334 hL) rfl
      have hK := hK.tr (KD.wr : KD h1 (m_wr h1 334 21 a1))
      refine RK.of (RN.blk (ops := [(26, .iload_n 2)]) (pc' := 27) (lv' := [(2, .inl (m_rd h1 334 21)), (0, .inr (.inr 334)), (1, .inl a1)]) (st' := [.inl (m_rd h1 334 21)]) (h' := (m_wr h1 334 21 a1)) (cs := []) (by decide +kernel) rfl trivial) ?_
      exact RK.iR (by decide +kernel) rfl hL hK hF
noncomputable def GX12_hole (a1 : Int) (a2 : Int) (h : MH) : Option (Int × MH) :=
  (bd (GX12_isHole a1 h) (fun x2 h1 =>
   (if x2 = 0 then
    some ((-1), h1)
   else
    (bd (GX12_in a2 0 2 h1) (fun x4 h3 =>
     (if x4 = 0 then
      some ((-1), h3)
     else
      (if a2 = 0 then
       gd [IB (m_w32 (82 + a1)) 167] (
        some ((m_rd h3 344 (m_w32 (82 + a1))), h3))
      else
       (if a2 = 1 then
        gd [IB (m_w32 (14 + a1)) 167] (
         some ((m_rd h3 344 (m_w32 (14 + a1))), h3))
       else
        gd [IB (m_w32 (20 + a1)) 167] (
         some ((m_rd h3 344 (m_w32 (20 + a1))), h3))))))))))
theorem DX12_hole {d : Nat} {a1 : Int} {a2 : Int} {h : MH} {r : Int × MH} (hL : LR h) (hF : GX12_hole a1 a2 h = some r) : RN xs L iX12_hole (d + 1) 0 (lvE 0 [.inr (.inr 334), .inl a1, .inl a2]) [] h (RIo r) ∧ LR r.2 ∧ KD h r.2 := by
  unfold GX12_hole at hF
  have hK : KD h h := KD.rf
  show RK xs L iX12_hole (d + 1) 0 (lvE 0 [.inr (.inr 334), .inl a1, .inl a2]) [] h (RIo r) h r.2
  refine RK.of (RN.blk (ops := [(0, .aload_n 0), (1, .iload_n 1)]) (pc' := 2) (lv' := [(0, .inr (.inr 334)), (1, .inl a1), (2, .inl a2)]) (st' := [.inl a1, .inr (.inr 334)]) (h' := h) (cs := []) (by decide +kernel) rfl trivial) ?_
  obtain ⟨x2, h1, hG, hF⟩ := bd_of hF
  have hq := rcv_ok (as := [.inl a1]) (TO.gk (o_334 hL))
  obtain ⟨hN, hL, hQ⟩ := DX12_isHole (d := d) hL  hG
  refine RK.of (RN.cv (i := 310) (k := 204) (q2 := iX12_isHole) (as := [.inr (.inr 334), .inl a1]) (r := []) (v := some (.inl x2)) (h1 := h1) (by decide +kernel) rfl rfl rfl rfl rfl hq hN) ?_
  have hK := hK.tr hQ
  rcases it_of hF with ⟨hb, hF⟩ | ⟨hb, hF⟩
  · refine RK.of (RN.ift (cd := .eq) (off := 15) (tgt := 20) (by decide +kernel) (mif_eq hb)) ?_
    refine RK.of (RN.blk (ops := [(20, .iconst (-1))]) (pc' := 21) (lv' := [(0, .inr (.inr 334)), (1, .inl a1), (2, .inl a2)]) (st' := [.inl (-1)]) (h' := h1) (cs := []) (by decide +kernel) rfl trivial) ?_
    exact RK.iR (by decide +kernel) rfl hL hK hF
  · refine RK.of (RN.iff (cd := .eq) (off := 15) (tgt := 20) (by decide +kernel) (mif_eqn hb)) ?_
    refine RK.of (RN.blk (ops := [(8, .iload_n 2), (9, .i2l), (10, .lconst 0), (11, .ldc2_w 313)]) (pc' := 14) (lv' := [(0, .inr (.inr 334)), (1, .inl a1), (2, .inl a2)]) (st' := [.inr (.inl 2), .inr (.inl 0), .inr (.inl a2)]) (h' := h1) (cs := []) (by decide +kernel) rfl trivial) ?_
    obtain ⟨x4, h3, hG, hF⟩ := bd_of hF
    obtain ⟨hN, hL, hQ⟩ := DX12_in (d := d) hL  hG
    refine RK.of (RN.cst (i := 127) (k := 156) (q2 := iX12_in) (as := [.inr (.inl a2), .inr (.inl 0), .inr (.inl 2)]) (r := []) (v := some (.inl x4)) (h1 := h3) (by decide +kernel) rfl rfl rfl rfl rfl hN) ?_
    have hK := hK.tr hQ
    rcases it_of hF with ⟨hb, hF⟩ | ⟨hb, hF⟩
    · refine RK.of (RN.iff (cd := .ne) (off := 5) (tgt := 22) (by decide +kernel) (mif_nen hb)) ?_
      refine RK.of (RN.blk (ops := [(20, .iconst (-1))]) (pc' := 21) (lv' := [(0, .inr (.inr 334)), (1, .inl a1), (2, .inl a2)]) (st' := [.inl (-1)]) (h' := h3) (cs := []) (by decide +kernel) rfl trivial) ?_
      exact RK.iR (by decide +kernel) rfl hL hK hF
    · refine RK.of (RN.ift (cd := .ne) (off := 5) (tgt := 22) (by decide +kernel) (mif_ne hb)) ?_
      refine RK.of (RN.blk (ops := [(22, .iload_n 2)]) (pc' := 23) (lv' := [(0, .inr (.inr 334)), (1, .inl a1), (2, .inl a2)]) (st' := [.inl a2]) (h' := h3) (cs := []) (by decide +kernel) rfl trivial) ?_
      rcases it_of hF with ⟨hb, hF⟩ | ⟨hb, hF⟩
      · refine RK.of (RN.iff (cd := .ne) (off := 15) (tgt := 38) (by decide +kernel) (mif_nen hb)) ?_
        refine RK.of (RN.blk (ops := [(26, .aload_n 0)]) (pc' := 27) (lv' := [(0, .inr (.inr 334)), (1, .inl a1), (2, .inl a2)]) (st' := [.inr (.inr 334)]) (h' := h3) (cs := []) (by decide +kernel) rfl trivial) ?_
        refine RK.of (RN.gr (i := 39) (ci := 12) (k := 20) (fn := true) (v := 344) (by decide +kernel) rfl (TO.gk (o_334 hL)) (hL.fa (v := 344) 20 1 167 (o_334 hL) rfl (by decide) rfl (by decide)).1) ?_
        obtain ⟨hc, hF⟩ := gd_of hF
        refine RK.of (RN.blk (ops := [(30, .bipush 82), (32, .iload_n 1), (33, .iadd), (34, .iaload)]) (pc' := 35) (lv' := [(0, .inr (.inr 334)), (1, .inl a1), (2, .inl a2)]) (st' := [.inl (m_rd h3 344 (m_w32 (82 + a1)))]) (h' := h3) (cs := [GI h3 344 1 (m_w32 (82 + a1))]) (by decide +kernel) rfl ⟨(a_344 hL).gi hc.1.1 hc.1.2, trivial⟩) ?_
        refine RK.of (RN.goto (off := 29) (tgt := 64) (by decide +kernel)) ?_
        exact RK.iR (by decide +kernel) rfl hL hK hF
      · refine RK.of (RN.ift (cd := .ne) (off := 15) (tgt := 38) (by decide +kernel) (mif_ne hb)) ?_
        refine RK.of (RN.blk (ops := [(38, .iload_n 2), (39, .iconst 1)]) (pc' := 40) (lv' := [(0, .inr (.inr 334)), (1, .inl a1), (2, .inl a2)]) (st' := [.inl 1, .inl a2]) (h' := h3) (cs := []) (by decide +kernel) rfl trivial) ?_
        rcases it_of hF with ⟨hb, hF⟩ | ⟨hb, hF⟩
        · refine RK.of (RN.icf (cd := .ne) (off := 15) (tgt := 55) (by decide +kernel) (mif_nen hb)) ?_
          refine RK.of (RN.blk (ops := [(43, .aload_n 0)]) (pc' := 44) (lv' := [(0, .inr (.inr 334)), (1, .inl a1), (2, .inl a2)]) (st' := [.inr (.inr 334)]) (h' := h3) (cs := []) (by decide +kernel) rfl trivial) ?_
          refine RK.of (RN.gr (i := 39) (ci := 12) (k := 20) (fn := true) (v := 344) (by decide +kernel) rfl (TO.gk (o_334 hL)) (hL.fa (v := 344) 20 1 167 (o_334 hL) rfl (by decide) rfl (by decide)).1) ?_
          obtain ⟨hc, hF⟩ := gd_of hF
          refine RK.of (RN.blk (ops := [(47, .bipush 14), (49, .iload_n 1), (50, .iadd), (51, .iaload)]) (pc' := 52) (lv' := [(0, .inr (.inr 334)), (1, .inl a1), (2, .inl a2)]) (st' := [.inl (m_rd h3 344 (m_w32 (14 + a1)))]) (h' := h3) (cs := [GI h3 344 1 (m_w32 (14 + a1))]) (by decide +kernel) rfl ⟨(a_344 hL).gi hc.1.1 hc.1.2, trivial⟩) ?_
          refine RK.of (RN.goto (off := 12) (tgt := 64) (by decide +kernel)) ?_
          exact RK.iR (by decide +kernel) rfl hL hK hF
        · refine RK.of (RN.ict (cd := .ne) (off := 15) (tgt := 55) (by decide +kernel) (mif_ne hb)) ?_
          refine RK.of (RN.blk (ops := [(55, .aload_n 0)]) (pc' := 56) (lv' := [(0, .inr (.inr 334)), (1, .inl a1), (2, .inl a2)]) (st' := [.inr (.inr 334)]) (h' := h3) (cs := []) (by decide +kernel) rfl trivial) ?_
          refine RK.of (RN.gr (i := 39) (ci := 12) (k := 20) (fn := true) (v := 344) (by decide +kernel) rfl (TO.gk (o_334 hL)) (hL.fa (v := 344) 20 1 167 (o_334 hL) rfl (by decide) rfl (by decide)).1) ?_
          obtain ⟨hc, hF⟩ := gd_of hF
          refine RK.of (RN.blk (ops := [(59, .bipush 20), (61, .iload_n 1), (62, .iadd), (63, .iaload)]) (pc' := 64) (lv' := [(0, .inr (.inr 334)), (1, .inl a1), (2, .inl a2)]) (st' := [.inl (m_rd h3 344 (m_w32 (20 + a1)))]) (h' := h3) (cs := [GI h3 344 1 (m_w32 (20 + a1))]) (by decide +kernel) rfl ⟨(a_344 hL).gi hc.1.1 hc.1.2, trivial⟩) ?_
          exact RK.iR (by decide +kernel) rfl hL hK hF
noncomputable def GX12_entry (a1 : Int) (a2 : Int) (h : MH) : Option (Int × MH) :=
  (bd (GX12_isEntry a1 h) (fun x2 h1 =>
   (if x2 = 0 then
    some ((-1), h1)
   else
    (bd (GX12_in a2 0 2 h1) (fun x4 h3 =>
     (if x4 = 0 then
      some ((-1), h3)
     else
      gd [IB (m_w32 ((m_w32 (46 + (m_w32 (3 * a1)))) + a2)) 167] (
       some ((m_rd h3 344 (m_w32 ((m_w32 (46 + (m_w32 (3 * a1)))) + a2))), h3))))))))
theorem DX12_entry {d : Nat} {a1 : Int} {a2 : Int} {h : MH} {r : Int × MH} (hL : LR h) (hF : GX12_entry a1 a2 h = some r) : RN xs L iX12_entry (d + 1) 0 (lvE 0 [.inr (.inr 334), .inl a1, .inl a2]) [] h (RIo r) ∧ LR r.2 ∧ KD h r.2 := by
  unfold GX12_entry at hF
  have hK : KD h h := KD.rf
  show RK xs L iX12_entry (d + 1) 0 (lvE 0 [.inr (.inr 334), .inl a1, .inl a2]) [] h (RIo r) h r.2
  refine RK.of (RN.blk (ops := [(0, .aload_n 0), (1, .iload_n 1)]) (pc' := 2) (lv' := [(0, .inr (.inr 334)), (1, .inl a1), (2, .inl a2)]) (st' := [.inl a1, .inr (.inr 334)]) (h' := h) (cs := []) (by decide +kernel) rfl trivial) ?_
  obtain ⟨x2, h1, hG, hF⟩ := bd_of hF
  have hq := rcv_ok (as := [.inl a1]) (TO.gk (o_334 hL))
  obtain ⟨hN, hL, hQ⟩ := DX12_isEntry (d := d) hL  hG
  refine RK.of (RN.cv (i := 315) (k := 205) (q2 := iX12_isEntry) (as := [.inr (.inr 334), .inl a1]) (r := []) (v := some (.inl x2)) (h1 := h1) (by decide +kernel) rfl rfl rfl rfl rfl hq hN) ?_
  have hK := hK.tr hQ
  rcases it_of hF with ⟨hb, hF⟩ | ⟨hb, hF⟩
  · refine RK.of (RN.ift (cd := .eq) (off := 31) (tgt := 36) (by decide +kernel) (mif_eq hb)) ?_
    refine RK.of (RN.blk (ops := [(36, .iconst (-1))]) (pc' := 37) (lv' := [(0, .inr (.inr 334)), (1, .inl a1), (2, .inl a2)]) (st' := [.inl (-1)]) (h' := h1) (cs := []) (by decide +kernel) rfl trivial) ?_
    exact RK.iR (by decide +kernel) rfl hL hK hF
  · refine RK.of (RN.iff (cd := .eq) (off := 31) (tgt := 36) (by decide +kernel) (mif_eqn hb)) ?_
    refine RK.of (RN.blk (ops := [(8, .iload_n 2), (9, .i2l), (10, .lconst 0), (11, .ldc2_w 313)]) (pc' := 14) (lv' := [(0, .inr (.inr 334)), (1, .inl a1), (2, .inl a2)]) (st' := [.inr (.inl 2), .inr (.inl 0), .inr (.inl a2)]) (h' := h1) (cs := []) (by decide +kernel) rfl trivial) ?_
    obtain ⟨x4, h3, hG, hF⟩ := bd_of hF
    obtain ⟨hN, hL, hQ⟩ := DX12_in (d := d) hL  hG
    refine RK.of (RN.cst (i := 127) (k := 156) (q2 := iX12_in) (as := [.inr (.inl a2), .inr (.inl 0), .inr (.inl 2)]) (r := []) (v := some (.inl x4)) (h1 := h3) (by decide +kernel) rfl rfl rfl rfl rfl hN) ?_
    have hK := hK.tr hQ
    rcases it_of hF with ⟨hb, hF⟩ | ⟨hb, hF⟩
    · refine RK.of (RN.ift (cd := .eq) (off := 19) (tgt := 36) (by decide +kernel) (mif_eq hb)) ?_
      refine RK.of (RN.blk (ops := [(36, .iconst (-1))]) (pc' := 37) (lv' := [(0, .inr (.inr 334)), (1, .inl a1), (2, .inl a2)]) (st' := [.inl (-1)]) (h' := h3) (cs := []) (by decide +kernel) rfl trivial) ?_
      exact RK.iR (by decide +kernel) rfl hL hK hF
    · refine RK.of (RN.iff (cd := .eq) (off := 19) (tgt := 36) (by decide +kernel) (mif_eqn hb)) ?_
      refine RK.of (RN.blk (ops := [(20, .aload_n 0)]) (pc' := 21) (lv' := [(0, .inr (.inr 334)), (1, .inl a1), (2, .inl a2)]) (st' := [.inr (.inr 334)]) (h' := h3) (cs := []) (by decide +kernel) rfl trivial) ?_
      refine RK.of (RN.gr (i := 39) (ci := 12) (k := 20) (fn := true) (v := 344) (by decide +kernel) rfl (TO.gk (o_334 hL)) (hL.fa (v := 344) 20 1 167 (o_334 hL) rfl (by decide) rfl (by decide)).1) ?_
      obtain ⟨hc, hF⟩ := gd_of hF
      refine RK.of (RN.blk (ops := [(24, .bipush 46), (26, .iconst 3), (27, .iload_n 1), (28, .imul), (29, .iadd), (30, .iload_n 2), (31, .iadd), (32, .iaload)]) (pc' := 33) (lv' := [(0, .inr (.inr 334)), (1, .inl a1), (2, .inl a2)]) (st' := [.inl (m_rd h3 344 (m_w32 ((m_w32 (46 + (m_w32 (3 * a1)))) + a2)))]) (h' := h3) (cs := [GI h3 344 1 (m_w32 ((m_w32 (46 + (m_w32 (3 * a1)))) + a2))]) (by decide +kernel) rfl ⟨(a_344 hL).gi hc.1.1 hc.1.2, trivial⟩) ?_
      refine RK.of (RN.goto (off := 4) (tgt := 37) (by decide +kernel)) ?_
      exact RK.iR (by decide +kernel) rfl hL hK hF
noncomputable def GX12_waits (a1 : Int) (h : MH) : Option (Int × MH) :=
  (if a1 < 0 then
   some ((-1), h)
  else
   (if a1 < (m_rd h 344 12) then
    gd [IB (m_w32 (26 + a1)) 167] (
     some ((m_rd h 344 (m_w32 (26 + a1))), h))
   else
    some ((-1), h)))
theorem DX12_waits {d : Nat} {a1 : Int} {h : MH} {r : Int × MH} (hL : LR h) (hF : GX12_waits a1 h = some r) : RN xs L iX12_waits (d) 0 (lvE 0 [.inr (.inr 334), .inl a1]) [] h (RIo r) ∧ LR r.2 ∧ KD h r.2 := by
  unfold GX12_waits at hF
  have hK : KD h h := KD.rf
  show RK xs L iX12_waits (d) 0 (lvE 0 [.inr (.inr 334), .inl a1]) [] h (RIo r) h r.2
  refine RK.of (RN.blk (ops := [(0, .iload_n 1)]) (pc' := 1) (lv' := [(0, .inr (.inr 334)), (1, .inl a1)]) (st' := [.inl a1]) (h' := h) (cs := []) (by decide +kernel) rfl trivial) ?_
  rcases it_of hF with ⟨hb, hF⟩ | ⟨hb, hF⟩
  · refine RK.of (RN.ift (cd := .lt) (off := 26) (tgt := 27) (by decide +kernel) (mif_lt hb)) ?_
    refine RK.of (RN.blk (ops := [(27, .iconst (-1))]) (pc' := 28) (lv' := [(0, .inr (.inr 334)), (1, .inl a1)]) (st' := [.inl (-1)]) (h' := h) (cs := []) (by decide +kernel) rfl trivial) ?_
    exact RK.iR (by decide +kernel) rfl hL hK hF
  · refine RK.of (RN.iff (cd := .lt) (off := 26) (tgt := 27) (by decide +kernel) (mif_ltn hb)) ?_
    refine RK.of (RN.blk (ops := [(4, .iload_n 1), (5, .aload_n 0)]) (pc' := 6) (lv' := [(0, .inr (.inr 334)), (1, .inl a1)]) (st' := [.inr (.inr 334), .inl a1]) (h' := h) (cs := []) (by decide +kernel) rfl trivial) ?_
    refine RK.of (RN.gr (i := 39) (ci := 12) (k := 20) (fn := true) (v := 344) (by decide +kernel) rfl (TO.gk (o_334 hL)) (hL.fa (v := 344) 20 1 167 (o_334 hL) rfl (by decide) rfl (by decide)).1) ?_
    refine RK.of (RN.blk (ops := [(9, .bipush 12), (11, .iaload)]) (pc' := 12) (lv' := [(0, .inr (.inr 334)), (1, .inl a1)]) (st' := [.inl (m_rd h 344 12), .inl a1]) (h' := h) (cs := [GI h 344 1 12]) (by decide +kernel) rfl ⟨(a_344 hL).gi (by decide) (by decide), trivial⟩) ?_
    rcases it_of hF with ⟨hb, hF⟩ | ⟨hb, hF⟩
    · refine RK.of (RN.icf (cd := .ge) (off := 15) (tgt := 27) (by decide +kernel) (mif_gen hb)) ?_
      refine RK.of (RN.blk (ops := [(15, .aload_n 0)]) (pc' := 16) (lv' := [(0, .inr (.inr 334)), (1, .inl a1)]) (st' := [.inr (.inr 334)]) (h' := h) (cs := []) (by decide +kernel) rfl trivial) ?_
      refine RK.of (RN.gr (i := 39) (ci := 12) (k := 20) (fn := true) (v := 344) (by decide +kernel) rfl (TO.gk (o_334 hL)) (hL.fa (v := 344) 20 1 167 (o_334 hL) rfl (by decide) rfl (by decide)).1) ?_
      obtain ⟨hc, hF⟩ := gd_of hF
      refine RK.of (RN.blk (ops := [(19, .bipush 26), (21, .iload_n 1), (22, .iadd), (23, .iaload)]) (pc' := 24) (lv' := [(0, .inr (.inr 334)), (1, .inl a1)]) (st' := [.inl (m_rd h 344 (m_w32 (26 + a1)))]) (h' := h) (cs := [GI h 344 1 (m_w32 (26 + a1))]) (by decide +kernel) rfl ⟨(a_344 hL).gi hc.1.1 hc.1.2, trivial⟩) ?_
      refine RK.of (RN.goto (off := 4) (tgt := 28) (by decide +kernel)) ?_
      exact RK.iR (by decide +kernel) rfl hL hK hF
    · refine RK.of (RN.ict (cd := .ge) (off := 15) (tgt := 27) (by decide +kernel) (mif_ge hb)) ?_
      refine RK.of (RN.blk (ops := [(27, .iconst (-1))]) (pc' := 28) (lv' := [(0, .inr (.inr 334)), (1, .inl a1)]) (st' := [.inl (-1)]) (h' := h) (cs := []) (by decide +kernel) rfl trivial) ?_
      exact RK.iR (by decide +kernel) rfl hL hK hF
noncomputable def GX12_summedBy_L2 (u1 : Int) (K0 : Int → MH → Option (Int × MH)) (K1 : MH → Option (Int × MH)) : Nat → Int → MH → Option (Int × MH)
  | 0, _, _ => none
  | f + 1, v2, h =>
    gd [IB u1 6] (
     (if v2 < (m_rd h 339 u1) then
      gd [IB (m_w32 ((m_w32 ((m_w32 (48 * u1)) + (m_w32 (4 * v2)))) + 2)) 288] (
       (if (m_rd h 338 (m_w32 ((m_w32 ((m_w32 (48 * u1)) + (m_w32 (4 * v2)))) + 2))) < 0 then
        K0 (m_w32 ((m_w32 (48 * u1)) + (m_w32 (4 * v2)))) h
       else
        gd [IB (m_w32 ((m_w32 ((m_w32 (48 * u1)) + (m_w32 (4 * v2)))) + 2)) 288] (
         gd [IB (m_w32 ((m_w32 ((m_w32 (48 * u1)) + (m_w32 (4 * v2)))) + 3)) 288] (
          (bd (GX12_reckons u1 (m_rd h 338 (m_w32 ((m_w32 ((m_w32 (48 * u1)) + (m_w32 (4 * v2)))) + 2))) (m_rd h 338 (m_w32 ((m_w32 ((m_w32 (48 * u1)) + (m_w32 (4 * v2)))) + 3))) h) (fun x2 h1 =>
           (if (m_lcmp x2 1) = 0 then
            K0 (m_w32 ((m_w32 (48 * u1)) + (m_w32 (4 * v2)))) h1
           else
            GX12_summedBy_L2 u1 K0 K1 f (m_w32 (v2 + 1)) h1)))))))
     else
      K1 h))
theorem DX12_summedBy_L2 {d : Nat} {u1 : Int} {K0 : Int → MH → Option (Int × MH)} {K1 : MH → Option (Int × MH)} {r : Int × MH} {h0 hB : MH} (hB0 : KD h0 hB) (hK0 : ∀ (w3 : Int) (h : MH), LR h → KD hB h → K0 w3 h = some r → RK xs L iX12_summedBy (d + 2) 58 [(0, .inr (.inr 334)), (1, .inl u1), (3, .inl w3)] [] h (RJo r) h0 r.2) (hK1 : ∀ (h : MH), LR h → KD hB h → K1 h = some r → RK xs L iX12_summedBy (d + 2) 84 [] [] h (RJo r) h0 r.2) : ∀ (f : Nat) (v2 : Int) (h : MH), LR h → KD hB h → GX12_summedBy_L2 u1 K0 K1 f v2 h = some r → RK xs L iX12_summedBy (d + 2) 2 [(0, .inr (.inr 334)), (1, .inl u1), (2, .inl v2)] [] h (RJo r) h0 r.2 := by
  intro f
  induction f with
  | zero =>
    intro v2 h hL hJ hF
    cases hF
  | succ f ih =>
    intro v2 h hL hJ hF
    unfold GX12_summedBy_L2 at hF
    have hK := hB0.tr hJ
    refine RK.of (RN.blk (ops := [(2, .iload_n 2), (3, .aload_n 0)]) (pc' := 4) (lv' := [(0, .inr (.inr 334)), (1, .inl u1), (2, .inl v2)]) (st' := [.inr (.inr 334), .inl v2]) (h' := h) (cs := []) (by decide +kernel) rfl trivial) ?_
    refine RK.of (RN.gr (i := 23) (ci := 12) (k := 6) (fn := true) (v := 339) (by decide +kernel) rfl (TO.gk (o_334 hL)) (hL.fa (v := 339) 6 1 6 (o_334 hL) rfl (by decide) rfl (by decide)).1) ?_
    obtain ⟨hc, hF⟩ := gd_of hF
    refine RK.of (RN.blk (ops := [(7, .iload_n 1), (8, .iaload)]) (pc' := 9) (lv' := [(0, .inr (.inr 334)), (1, .inl u1), (2, .inl v2)]) (st' := [.inl (m_rd h 339 u1), .inl v2]) (h' := h) (cs := [GI h 339 1 u1]) (by decide +kernel) rfl ⟨(a_339 hL).gi hc.1.1 hc.1.2, trivial⟩) ?_
    rcases it_of hF with ⟨hb, hF⟩ | ⟨hb, hF⟩
    · refine RK.of (RN.icf (cd := .ge) (off := 75) (tgt := 84) (by decide +kernel) (mif_gen hb)) ?_
      refine RK.of (RN.blk (ops := [(12, .bipush 48), (14, .iload_n 1), (15, .imul), (16, .iconst 4), (17, .iload_n 2), (18, .imul), (19, .iadd), (20, .istore_n 3), (21, .aload_n 0)]) (pc' := 22) (lv' := [(3, .inl (m_w32 ((m_w32 (48 * u1)) + (m_w32 (4 * v2))))), (0, .inr (.inr 334)), (1, .inl u1), (2, .inl v2)]) (st' := [.inr (.inr 334)]) (h' := h) (cs := []) (by decide +kernel) rfl trivial) ?_
      refine RK.of (RN.gr (i := 20) (ci := 12) (k := 5) (fn := true) (v := 338) (by decide +kernel) rfl (TO.gk (o_334 hL)) (hL.fa (v := 338) 5 1 288 (o_334 hL) rfl (by decide) rfl (by decide)).1) ?_
      obtain ⟨hc, hF⟩ := gd_of hF
      refine RK.of (RN.blk (ops := [(25, .iload_n 3), (26, .iconst 2), (27, .iadd), (28, .iaload)]) (pc' := 29) (lv' := [(3, .inl (m_w32 ((m_w32 (48 * u1)) + (m_w32 (4 * v2))))), (0, .inr (.inr 334)), (1, .inl u1), (2, .inl v2)]) (st' := [.inl (m_rd h 338 (m_w32 ((m_w32 ((m_w32 (48 * u1)) + (m_w32 (4 * v2)))) + 2)))]) (h' := h) (cs := [GI h 338 1 (m_w32 ((m_w32 ((m_w32 (48 * u1)) + (m_w32 (4 * v2)))) + 2))]) (by decide +kernel) rfl ⟨(a_338 hL).gi hc.1.1 hc.1.2, trivial⟩) ?_
      rcases it_of hF with ⟨hb, hF⟩ | ⟨hb, hF⟩
      · refine RK.of (RN.ift (cd := .lt) (off := 29) (tgt := 58) (by decide +kernel) (mif_lt hb)) ?_
        exact RK.sub (hK0 _ _ hL hJ hF) (sub_cons rfl (sub_cons rfl (sub_cons rfl sub_nil)))
      · refine RK.of (RN.iff (cd := .lt) (off := 29) (tgt := 58) (by decide +kernel) (mif_ltn hb)) ?_
        refine RK.of (RN.blk (ops := [(32, .aload_n 0), (33, .iload_n 1), (34, .aload_n 0)]) (pc' := 35) (lv' := [(3, .inl (m_w32 ((m_w32 (48 * u1)) + (m_w32 (4 * v2))))), (0, .inr (.inr 334)), (1, .inl u1), (2, .inl v2)]) (st' := [.inr (.inr 334), .inl u1, .inr (.inr 334)]) (h' := h) (cs := []) (by decide +kernel) rfl trivial) ?_
        refine RK.of (RN.gr (i := 20) (ci := 12) (k := 5) (fn := true) (v := 338) (by decide +kernel) rfl (TO.gk (o_334 hL)) (hL.fa (v := 338) 5 1 288 (o_334 hL) rfl (by decide) rfl (by decide)).1) ?_
        obtain ⟨hc, hF⟩ := gd_of hF
        refine RK.of (RN.blk (ops := [(38, .iload_n 3), (39, .iconst 2), (40, .iadd), (41, .iaload), (42, .aload_n 0)]) (pc' := 43) (lv' := [(3, .inl (m_w32 ((m_w32 (48 * u1)) + (m_w32 (4 * v2))))), (0, .inr (.inr 334)), (1, .inl u1), (2, .inl v2)]) (st' := [.inr (.inr 334), .inl (m_rd h 338 (m_w32 ((m_w32 ((m_w32 (48 * u1)) + (m_w32 (4 * v2)))) + 2))), .inl u1, .inr (.inr 334)]) (h' := h) (cs := [GI h 338 1 (m_w32 ((m_w32 ((m_w32 (48 * u1)) + (m_w32 (4 * v2)))) + 2))]) (by decide +kernel) rfl ⟨(a_338 hL).gi hc.1.1 hc.1.2, trivial⟩) ?_
        refine RK.of (RN.gr (i := 20) (ci := 12) (k := 5) (fn := true) (v := 338) (by decide +kernel) rfl (TO.gk (o_334 hL)) (hL.fa (v := 338) 5 1 288 (o_334 hL) rfl (by decide) rfl (by decide)).1) ?_
        obtain ⟨hc, hF⟩ := gd_of hF
        refine RK.of (RN.blk (ops := [(46, .iload_n 3), (47, .iconst 3), (48, .iadd), (49, .iaload)]) (pc' := 50) (lv' := [(3, .inl (m_w32 ((m_w32 (48 * u1)) + (m_w32 (4 * v2))))), (0, .inr (.inr 334)), (1, .inl u1), (2, .inl v2)]) (st' := [.inl (m_rd h 338 (m_w32 ((m_w32 ((m_w32 (48 * u1)) + (m_w32 (4 * v2)))) + 3))), .inl (m_rd h 338 (m_w32 ((m_w32 ((m_w32 (48 * u1)) + (m_w32 (4 * v2)))) + 2))), .inl u1, .inr (.inr 334)]) (h' := h) (cs := [GI h 338 1 (m_w32 ((m_w32 ((m_w32 (48 * u1)) + (m_w32 (4 * v2)))) + 3))]) (by decide +kernel) rfl ⟨(a_338 hL).gi hc.1.1 hc.1.2, trivial⟩) ?_
        obtain ⟨x2, h1, hG, hF⟩ := bd_of hF
        have hq := rcv_ok (as := [.inl u1, .inl (m_rd h 338 (m_w32 ((m_w32 ((m_w32 (48 * u1)) + (m_w32 (4 * v2)))) + 2))), .inl (m_rd h 338 (m_w32 ((m_w32 ((m_w32 (48 * u1)) + (m_w32 (4 * v2)))) + 3)))]) (TO.gk (o_334 hL))
        obtain ⟨hN, hL, hQ⟩ := DX12_reckons (d := d) hL  hG
        refine RK.of (RN.cv (i := 318) (k := 201) (q2 := iX12_reckons) (as := [.inr (.inr 334), .inl u1, .inl (m_rd h 338 (m_w32 ((m_w32 ((m_w32 (48 * u1)) + (m_w32 (4 * v2)))) + 2))), .inl (m_rd h 338 (m_w32 ((m_w32 ((m_w32 (48 * u1)) + (m_w32 (4 * v2)))) + 3)))]) (r := []) (v := some (.inr (.inl x2))) (h1 := h1) (by decide +kernel) rfl rfl rfl rfl rfl hq hN) ?_
        have hK := hK.tr hQ
        have hJ := hJ.tr hQ
        refine RK.of (RN.blk (ops := [(53, .lconst 1), (54, .lcmp)]) (pc' := 55) (lv' := [(3, .inl (m_w32 ((m_w32 (48 * u1)) + (m_w32 (4 * v2))))), (0, .inr (.inr 334)), (1, .inl u1), (2, .inl v2)]) (st' := [.inl (m_lcmp x2 1)]) (h' := h1) (cs := []) (by decide +kernel) rfl trivial) ?_
        rcases it_of hF with ⟨hb, hF⟩ | ⟨hb, hF⟩
        · refine RK.of (RN.iff (cd := .ne) (off := 23) (tgt := 78) (by decide +kernel) (mif_nen hb)) ?_
          exact RK.sub (hK0 _ _ hL hJ hF) (sub_cons rfl (sub_cons rfl (sub_cons rfl sub_nil)))
        · refine RK.of (RN.ift (cd := .ne) (off := 23) (tgt := 78) (by decide +kernel) (mif_ne hb)) ?_
          refine RK.of (RN.blk (ops := [(78, .iinc 2 1)]) (pc' := 81) (lv' := [(2, .inl (m_w32 (v2 + 1))), (3, .inl (m_w32 ((m_w32 (48 * u1)) + (m_w32 (4 * v2))))), (0, .inr (.inr 334)), (1, .inl u1)]) (st' := []) (h' := h1) (cs := []) (by decide +kernel) rfl trivial) ?_
          refine RK.of (RN.goto (off := -79) (tgt := 2) (by decide +kernel)) ?_
          exact RK.sub (ih _ _ hL hJ hF) (sub_cons rfl (sub_cons rfl (sub_cons rfl sub_nil)))
    · refine RK.of (RN.ict (cd := .ge) (off := 75) (tgt := 84) (by decide +kernel) (mif_ge hb)) ?_
      exact RK.sub (hK1 _ hL hJ hF) sub_nil
noncomputable def GX12_summedBy (a1 : Int) (h : MH) : Option (Int × MH) :=
  GX12_summedBy_L2 a1 (fun w1 h2 =>
   gd [IB w1 288] (
    gd [IB (m_w32 (w1 + 1)) 288] (
     (bd (GX12_reckons a1 (m_rd h2 338 w1) (m_rd h2 338 (m_w32 (w1 + 1))) h2) (fun x5 h4 =>
      some (x5, h4)))))) (fun h3 =>
   some (0, h3)) FU 0 h
theorem DX12_summedBy {d : Nat} {a1 : Int} {h : MH} {r : Int × MH} (hL : LR h) (hF : GX12_summedBy a1 h = some r) : RN xs L iX12_summedBy (d + 2) 0 (lvE 0 [.inr (.inr 334), .inl a1]) [] h (RJo r) ∧ LR r.2 ∧ KD h r.2 := by
  unfold GX12_summedBy at hF
  have hK : KD h h := KD.rf
  show RK xs L iX12_summedBy (d + 2) 0 (lvE 0 [.inr (.inr 334), .inl a1]) [] h (RJo r) h r.2
  refine RK.of (RN.blk (ops := [(0, .iconst 0), (1, .istore_n 2)]) (pc' := 2) (lv' := [(2, .inl 0), (0, .inr (.inr 334)), (1, .inl a1)]) (st' := []) (h' := h) (cs := []) (by decide +kernel) rfl trivial) ?_
  refine RK.sub (DX12_summedBy_L2 hK ?_ ?_ _ _ _ hL KD.rf hF) (sub_cons rfl (sub_cons rfl (sub_cons rfl sub_nil)))
  · intro w1 h2 hL hq hF
    have hK := hK.tr hq
    refine RK.of (RN.blk (ops := [(58, .aload_n 0), (59, .iload_n 1), (60, .aload_n 0)]) (pc' := 61) (lv' := [(0, .inr (.inr 334)), (1, .inl a1), (3, .inl w1)]) (st' := [.inr (.inr 334), .inl a1, .inr (.inr 334)]) (h' := h2) (cs := []) (by decide +kernel) rfl trivial) ?_
    refine RK.of (RN.gr (i := 20) (ci := 12) (k := 5) (fn := true) (v := 338) (by decide +kernel) rfl (TO.gk (o_334 hL)) (hL.fa (v := 338) 5 1 288 (o_334 hL) rfl (by decide) rfl (by decide)).1) ?_
    obtain ⟨hc, hF⟩ := gd_of hF
    refine RK.of (RN.blk (ops := [(64, .iload_n 3), (65, .iaload), (66, .aload_n 0)]) (pc' := 67) (lv' := [(0, .inr (.inr 334)), (1, .inl a1), (3, .inl w1)]) (st' := [.inr (.inr 334), .inl (m_rd h2 338 w1), .inl a1, .inr (.inr 334)]) (h' := h2) (cs := [GI h2 338 1 w1]) (by decide +kernel) rfl ⟨(a_338 hL).gi hc.1.1 hc.1.2, trivial⟩) ?_
    refine RK.of (RN.gr (i := 20) (ci := 12) (k := 5) (fn := true) (v := 338) (by decide +kernel) rfl (TO.gk (o_334 hL)) (hL.fa (v := 338) 5 1 288 (o_334 hL) rfl (by decide) rfl (by decide)).1) ?_
    obtain ⟨hc, hF⟩ := gd_of hF
    refine RK.of (RN.blk (ops := [(70, .iload_n 3), (71, .iconst 1), (72, .iadd), (73, .iaload)]) (pc' := 74) (lv' := [(0, .inr (.inr 334)), (1, .inl a1), (3, .inl w1)]) (st' := [.inl (m_rd h2 338 (m_w32 (w1 + 1))), .inl (m_rd h2 338 w1), .inl a1, .inr (.inr 334)]) (h' := h2) (cs := [GI h2 338 1 (m_w32 (w1 + 1))]) (by decide +kernel) rfl ⟨(a_338 hL).gi hc.1.1 hc.1.2, trivial⟩) ?_
    obtain ⟨x5, h4, hG, hF⟩ := bd_of hF
    have hq := rcv_ok (as := [.inl a1, .inl (m_rd h2 338 w1), .inl (m_rd h2 338 (m_w32 (w1 + 1)))]) (TO.gk (o_334 hL))
    obtain ⟨hN, hL, hQ⟩ := DX12_reckons (d := d) hL  hG
    refine RK.of (RN.cv (i := 318) (k := 201) (q2 := iX12_reckons) (as := [.inr (.inr 334), .inl a1, .inl (m_rd h2 338 w1), .inl (m_rd h2 338 (m_w32 (w1 + 1)))]) (r := []) (v := some (.inr (.inl x5))) (h1 := h4) (by decide +kernel) rfl rfl rfl rfl rfl hq hN) ?_
    have hK := hK.tr hQ
    exact RK.lR (by decide +kernel) rfl hL hK hF
  · intro h3 hL hq hF
    have hK := hK.tr hq
    refine RK.of (RN.blk (ops := [(84, .lconst 0)]) (pc' := 85) (lv' := []) (st' := [.inr (.inl 0)]) (h' := h3) (cs := []) (by decide +kernel) rfl trivial) ?_
    exact RK.lR (by decide +kernel) rfl hL hK hF
noncomputable def GX12_sumOf (a1 : Int) (h : MH) : Option (Int × MH) :=
  gd [IB (m_w32 (26 + a1)) 167] (
   (bd (GX12_entryOf (m_rd h 344 (m_w32 (26 + a1))) h) (fun x2 h1 =>
    (bd (GX12_holeOf (m_rd h 344 (m_w32 (26 + a1))) h1) (fun x4 h3 =>
     (bd (GX12_prefixOf (m_rd h 344 (m_w32 (26 + a1))) 1 (m_wr (m_wr h3 343 0 a1) 343 1 (m_rd h 344 (m_w32 (26 + a1))))) (fun x6 h5 =>
      gd [((m_rd (m_wr h5 343 2 x6) 344 1) : Int) ≠ 0] (
       hl (m_wr (m_wr h5 343 2 x6) 343 3 (Int.tmod (m_rd h 344 (m_w32 (26 + a1))) (m_rd (m_wr h5 343 2 x6) 344 1))) (fun h7 =>
        jn (fun (s9 : Int) =>
         jn (fun (s11 : Int) =>
          jn (fun (s13 : Int) =>
           hl (m_wr (m_wr (m_wr (m_wr (m_wr h7 343 4 x4) 343 5 s9) 343 6 s11) 343 7 s13) 343 8 (m_rd (m_wr (m_wr (m_wr (m_wr h7 343 4 x4) 343 5 s9) 343 6 s11) 343 7 s13) 344 12)) (fun h14 =>
            (bd (GX12_sumOver 20 h14) (fun x16 h15 =>
             (bd (GX12_summedBy (m_rd (m_wr (m_wr h15 343 9 x16) 343 10 (m_rd (m_wr h15 343 9 x16) 344 10)) 334 21) (m_wr (m_wr h15 343 9 x16) 343 10 (m_rd (m_wr h15 343 9 x16) 344 10))) (fun x18 h17 =>
              some (x18, h17))))))) (fun j12 =>
           (if x2 < 0 then
            j12 0
           else
            gd [IB (m_w32 (46 + (m_w32 (3 * x2)))) 167] (
             j12 (m_rd (m_wr (m_wr (m_wr h7 343 4 x4) 343 5 s9) 343 6 s11) 344 (m_w32 (46 + (m_w32 (3 * x2))))))))) (fun j10 =>
          (if x4 < 0 then
           j10 0
          else
           gd [IB (m_w32 (82 + x4)) 167] (
            j10 (m_rd (m_wr (m_wr h7 343 4 x4) 343 5 s9) 344 (m_w32 (82 + x4))))))) (fun j8 =>
         (if x4 < 0 then
          j8 0
         else
          gd [IB (m_w32 (14 + x4)) 167] (
           j8 (m_rd (m_wr h7 343 4 x4) 344 (m_w32 (14 + x4)))))))))))))))
theorem DX12_sumOf {d : Nat} {a1 : Int} {h : MH} {r : Int × MH} (hL : LR h) (hF : GX12_sumOf a1 h = some r) : RN xs L iX12_sumOf (d + 4) 0 (lvE 0 [.inr (.inr 334), .inl a1]) [] h (RJo r) ∧ LR r.2 ∧ KD h r.2 := by
  unfold GX12_sumOf at hF
  have hK : KD h h := KD.rf
  show RK xs L iX12_sumOf (d + 4) 0 (lvE 0 [.inr (.inr 334), .inl a1]) [] h (RJo r) h r.2
  refine RK.of (RN.blk (ops := [(0, .aload_n 0)]) (pc' := 1) (lv' := [(0, .inr (.inr 334)), (1, .inl a1)]) (st' := [.inr (.inr 334)]) (h' := h) (cs := []) (by decide +kernel) rfl trivial) ?_
  refine RK.of (RN.gr (i := 39) (ci := 12) (k := 20) (fn := true) (v := 344) (by decide +kernel) rfl (TO.gk (o_334 hL)) (hL.fa (v := 344) 20 1 167 (o_334 hL) rfl (by decide) rfl (by decide)).1) ?_
  obtain ⟨hc, hF⟩ := gd_of hF
  refine RK.of (RN.blk (ops := [(4, .bipush 26), (6, .iload_n 1), (7, .iadd), (8, .iaload), (9, .istore_n 2), (10, .aload_n 0), (11, .iload_n 2)]) (pc' := 12) (lv' := [(2, .inl (m_rd h 344 (m_w32 (26 + a1)))), (0, .inr (.inr 334)), (1, .inl a1)]) (st' := [.inl (m_rd h 344 (m_w32 (26 + a1))), .inr (.inr 334)]) (h' := h) (cs := [GI h 344 1 (m_w32 (26 + a1))]) (by decide +kernel) rfl ⟨(a_344 hL).gi hc.1.1 hc.1.2, trivial⟩) ?_
  obtain ⟨x2, h1, hG, hF⟩ := bd_of hF
  have hq := rcv_ok (as := [.inl (m_rd h 344 (m_w32 (26 + a1)))]) (TO.gk (o_334 hL))
  obtain ⟨hN, hL, hQ⟩ := DX12_entryOf (d := d + 1) hL  hG
  refine RK.of (RN.cv (i := 304) (k := 208) (q2 := iX12_entryOf) (as := [.inr (.inr 334), .inl (m_rd h 344 (m_w32 (26 + a1)))]) (r := []) (v := some (.inl x2)) (h1 := h1) (by decide +kernel) rfl rfl rfl rfl rfl hq hN) ?_
  have hK := hK.tr hQ
  refine RK.of (RN.blk (ops := [(15, .istore_n 3), (16, .aload_n 0), (17, .iload_n 2)]) (pc' := 18) (lv' := [(3, .inl x2), (2, .inl (m_rd h 344 (m_w32 (26 + a1)))), (0, .inr (.inr 334)), (1, .inl a1)]) (st' := [.inl (m_rd h 344 (m_w32 (26 + a1))), .inr (.inr 334)]) (h' := h1) (cs := []) (by decide +kernel) rfl trivial) ?_
  obtain ⟨x4, h3, hG, hF⟩ := bd_of hF
  have hq := rcv_ok (as := [.inl (m_rd h 344 (m_w32 (26 + a1)))]) (TO.gk (o_334 hL))
  obtain ⟨hN, hL, hQ⟩ := DX12_holeOf (d := d) hL  hG
  refine RK.of (RN.cv (i := 322) (k := 209) (q2 := iX12_holeOf) (as := [.inr (.inr 334), .inl (m_rd h 344 (m_w32 (26 + a1)))]) (r := []) (v := some (.inl x4)) (h1 := h3) (by decide +kernel) rfl rfl rfl rfl rfl hq hN) ?_
  have hK := hK.tr hQ
  refine RK.of (RN.blk (ops := [(21, .istore 4), (23, .aload_n 0)]) (pc' := 24) (lv' := [(4, .inl x4), (3, .inl x2), (2, .inl (m_rd h 344 (m_w32 (26 + a1)))), (0, .inr (.inr 334)), (1, .inl a1)]) (st' := [.inr (.inr 334)]) (h' := h3) (cs := []) (by decide +kernel) rfl trivial) ?_
  refine RK.of (RN.gr (i := 36) (ci := 12) (k := 19) (fn := true) (v := 343) (by decide +kernel) rfl (TO.gk (o_334 hL)) (hL.fa (v := 343) 19 2 11 (o_334 hL) rfl (by decide) rfl (by decide)).1) ?_
  refine RK.of (RN.blk (ops := [(27, .iconst 0), (28, .iload_n 1), (29, .i2l), (30, .lastore)]) (pc' := 31) (lv' := [(4, .inl x4), (3, .inl x2), (2, .inl (m_rd h 344 (m_w32 (26 + a1)))), (0, .inr (.inr 334)), (1, .inl a1)]) (st' := []) (h' := (m_wr h3 343 0 a1)) (cs := [GI h3 343 2 0]) (by decide +kernel) rfl ⟨(a_343 hL).gi (by decide) (by decide), trivial⟩) ?_
  have hL : LR (m_wr h3 343 0 a1) := hL.wa (TA.le5 (a_343 hL) (by decide))
  have hK := hK.tr (KD.wr : KD h3 (m_wr h3 343 0 a1))
  refine RK.of (RN.blk (ops := [(31, .aload_n 0)]) (pc' := 32) (lv' := [(4, .inl x4), (3, .inl x2), (2, .inl (m_rd h 344 (m_w32 (26 + a1)))), (0, .inr (.inr 334)), (1, .inl a1)]) (st' := [.inr (.inr 334)]) (h' := (m_wr h3 343 0 a1)) (cs := []) (by decide +kernel) rfl trivial) ?_
  refine RK.of (RN.gr (i := 36) (ci := 12) (k := 19) (fn := true) (v := 343) (by decide +kernel) rfl (TO.gk (o_334 hL)) (hL.fa (v := 343) 19 2 11 (o_334 hL) rfl (by decide) rfl (by decide)).1) ?_
  refine RK.of (RN.blk (ops := [(35, .iconst 1), (36, .iload_n 2), (37, .i2l), (38, .lastore)]) (pc' := 39) (lv' := [(4, .inl x4), (3, .inl x2), (2, .inl (m_rd h 344 (m_w32 (26 + a1)))), (0, .inr (.inr 334)), (1, .inl a1)]) (st' := []) (h' := (m_wr (m_wr h3 343 0 a1) 343 1 (m_rd h 344 (m_w32 (26 + a1))))) (cs := [GI (m_wr h3 343 0 a1) 343 2 1]) (by decide +kernel) rfl ⟨(a_343 hL).gi (by decide) (by decide), trivial⟩) ?_
  have hL : LR (m_wr (m_wr h3 343 0 a1) 343 1 (m_rd h 344 (m_w32 (26 + a1)))) := hL.wa (TA.le5 (a_343 hL) (by decide))
  have hK := hK.tr (KD.wr : KD (m_wr h3 343 0 a1) (m_wr (m_wr h3 343 0 a1) 343 1 (m_rd h 344 (m_w32 (26 + a1)))))
  refine RK.of (RN.blk (ops := [(39, .aload_n 0)]) (pc' := 40) (lv' := [(4, .inl x4), (3, .inl x2), (2, .inl (m_rd h 344 (m_w32 (26 + a1)))), (0, .inr (.inr 334)), (1, .inl a1)]) (st' := [.inr (.inr 334)]) (h' := (m_wr (m_wr h3 343 0 a1) 343 1 (m_rd h 344 (m_w32 (26 + a1))))) (cs := []) (by decide +kernel) rfl trivial) ?_
  refine RK.of (RN.gr (i := 36) (ci := 12) (k := 19) (fn := true) (v := 343) (by decide +kernel) rfl (TO.gk (o_334 hL)) (hL.fa (v := 343) 19 2 11 (o_334 hL) rfl (by decide) rfl (by decide)).1) ?_
  refine RK.of (RN.blk (ops := [(43, .iconst 2), (44, .aload_n 0), (45, .iload_n 2), (46, .iconst 1)]) (pc' := 47) (lv' := [(4, .inl x4), (3, .inl x2), (2, .inl (m_rd h 344 (m_w32 (26 + a1)))), (0, .inr (.inr 334)), (1, .inl a1)]) (st' := [.inl 1, .inl (m_rd h 344 (m_w32 (26 + a1))), .inr (.inr 334), .inl 2, .inr (.inr 343)]) (h' := (m_wr (m_wr h3 343 0 a1) 343 1 (m_rd h 344 (m_w32 (26 + a1))))) (cs := []) (by decide +kernel) rfl trivial) ?_
  obtain ⟨x6, h5, hG, hF⟩ := bd_of hF
  have hq := rcv_ok (as := [.inl (m_rd h 344 (m_w32 (26 + a1))), .inl 1]) (TO.gk (o_334 hL))
  obtain ⟨hN, hL, hQ⟩ := DX12_prefixOf (d := d + 2) hL  hG
  refine RK.of (RN.cv (i := 301) (k := 207) (q2 := iX12_prefixOf) (as := [.inr (.inr 334), .inl (m_rd h 344 (m_w32 (26 + a1))), .inl 1]) (r := [.inl 2, .inr (.inr 343)]) (v := some (.inl x6)) (h1 := h5) (by decide +kernel) rfl rfl rfl rfl rfl hq hN) ?_
  have hK := hK.tr hQ
  refine RK.of (RN.blk (ops := [(50, .i2l), (51, .lastore)]) (pc' := 52) (lv' := [(4, .inl x4), (3, .inl x2), (2, .inl (m_rd h 344 (m_w32 (26 + a1)))), (0, .inr (.inr 334)), (1, .inl a1)]) (st' := []) (h' := (m_wr h5 343 2 x6)) (cs := [GI h5 343 2 2]) (by decide +kernel) rfl ⟨(a_343 hL).gi (by decide) (by decide), trivial⟩) ?_
  have hL : LR (m_wr h5 343 2 x6) := hL.wa (TA.le5 (a_343 hL) (by decide))
  have hK := hK.tr (KD.wr : KD h5 (m_wr h5 343 2 x6))
  refine RK.of (RN.blk (ops := [(52, .aload_n 0)]) (pc' := 53) (lv' := [(4, .inl x4), (3, .inl x2), (2, .inl (m_rd h 344 (m_w32 (26 + a1)))), (0, .inr (.inr 334)), (1, .inl a1)]) (st' := [.inr (.inr 334)]) (h' := (m_wr h5 343 2 x6)) (cs := []) (by decide +kernel) rfl trivial) ?_
  refine RK.of (RN.gr (i := 36) (ci := 12) (k := 19) (fn := true) (v := 343) (by decide +kernel) rfl (TO.gk (o_334 hL)) (hL.fa (v := 343) 19 2 11 (o_334 hL) rfl (by decide) rfl (by decide)).1) ?_
  refine RK.of (RN.blk (ops := [(56, .iconst 3), (57, .iload_n 2), (58, .aload_n 0)]) (pc' := 59) (lv' := [(4, .inl x4), (3, .inl x2), (2, .inl (m_rd h 344 (m_w32 (26 + a1)))), (0, .inr (.inr 334)), (1, .inl a1)]) (st' := [.inr (.inr 334), .inl (m_rd h 344 (m_w32 (26 + a1))), .inl 3, .inr (.inr 343)]) (h' := (m_wr h5 343 2 x6)) (cs := []) (by decide +kernel) rfl trivial) ?_
  refine RK.of (RN.gr (i := 39) (ci := 12) (k := 20) (fn := true) (v := 344) (by decide +kernel) rfl (TO.gk (o_334 hL)) (hL.fa (v := 344) 20 1 167 (o_334 hL) rfl (by decide) rfl (by decide)).1) ?_
  obtain ⟨hc, hF⟩ := gd_of hF
  refine RK.of (RN.blk (ops := [(62, .iconst 1), (63, .iaload), (64, .irem), (65, .i2l), (66, .lastore)]) (pc' := 67) (lv' := [(4, .inl x4), (3, .inl x2), (2, .inl (m_rd h 344 (m_w32 (26 + a1)))), (0, .inr (.inr 334)), (1, .inl a1)]) (st' := []) (h' := (m_wr (m_wr h5 343 2 x6) 343 3 (Int.tmod (m_rd h 344 (m_w32 (26 + a1))) (m_rd (m_wr h5 343 2 x6) 344 1)))) (cs := [GI (m_wr h5 343 2 x6) 344 1 1, ((m_rd (m_wr h5 343 2 x6) 344 1) : Int) ≠ 0, GI (m_wr h5 343 2 x6) 343 2 3]) (by decide +kernel) rfl ⟨(a_344 hL).gi (by decide) (by decide), hc.1, (a_343 hL).gi (by decide) (by decide), trivial⟩) ?_
  have hL : LR (m_wr (m_wr h5 343 2 x6) 343 3 (Int.tmod (m_rd h 344 (m_w32 (26 + a1))) (m_rd (m_wr h5 343 2 x6) 344 1))) := hL.wa (TA.le5 (a_343 hL) (by decide))
  have hK := hK.tr (KD.wr : KD (m_wr h5 343 2 x6) (m_wr (m_wr h5 343 2 x6) 343 3 (Int.tmod (m_rd h 344 (m_w32 (26 + a1))) (m_rd (m_wr h5 343 2 x6) 344 1))))
  obtain ⟨h7, he, hF⟩ := hl_of hF
  refine RK.of (RN.hl he) ?_
  rw [← he] at hL hK
  refine RK.of (RN.blk (ops := [(67, .aload_n 0)]) (pc' := 68) (lv' := [(4, .inl x4), (3, .inl x2), (2, .inl (m_rd h 344 (m_w32 (26 + a1)))), (0, .inr (.inr 334)), (1, .inl a1)]) (st' := [.inr (.inr 334)]) (h' := h7) (cs := []) (by decide +kernel) rfl trivial) ?_
  refine RK.of (RN.gr (i := 36) (ci := 12) (k := 19) (fn := true) (v := 343) (by decide +kernel) rfl (TO.gk (o_334 hL)) (hL.fa (v := 343) 19 2 11 (o_334 hL) rfl (by decide) rfl (by decide)).1) ?_
  refine RK.of (RN.blk (ops := [(71, .iconst 4), (72, .iload 4), (74, .i2l), (75, .lastore)]) (pc' := 76) (lv' := [(4, .inl x4), (3, .inl x2), (2, .inl (m_rd h 344 (m_w32 (26 + a1)))), (0, .inr (.inr 334)), (1, .inl a1)]) (st' := []) (h' := (m_wr h7 343 4 x4)) (cs := [GI h7 343 2 4]) (by decide +kernel) rfl ⟨(a_343 hL).gi (by decide) (by decide), trivial⟩) ?_
  have hL : LR (m_wr h7 343 4 x4) := hL.wa (TA.le5 (a_343 hL) (by decide))
  have hK := hK.tr (KD.wr : KD h7 (m_wr h7 343 4 x4))
  refine RK.of (RN.blk (ops := [(76, .aload_n 0)]) (pc' := 77) (lv' := [(4, .inl x4), (3, .inl x2), (2, .inl (m_rd h 344 (m_w32 (26 + a1)))), (0, .inr (.inr 334)), (1, .inl a1)]) (st' := [.inr (.inr 334)]) (h' := (m_wr h7 343 4 x4)) (cs := []) (by decide +kernel) rfl trivial) ?_
  refine RK.of (RN.gr (i := 36) (ci := 12) (k := 19) (fn := true) (v := 343) (by decide +kernel) rfl (TO.gk (o_334 hL)) (hL.fa (v := 343) 19 2 11 (o_334 hL) rfl (by decide) rfl (by decide)).1) ?_
  refine RK.of (RN.blk (ops := [(80, .iconst 5), (81, .iload 4)]) (pc' := 83) (lv' := [(4, .inl x4), (3, .inl x2), (2, .inl (m_rd h 344 (m_w32 (26 + a1)))), (0, .inr (.inr 334)), (1, .inl a1)]) (st' := [.inl x4, .inl 5, .inr (.inr 343)]) (h' := (m_wr h7 343 4 x4)) (cs := []) (by decide +kernel) rfl trivial) ?_
  refine jn_use (fun j8 => ∀ (s9 : Int), j8 s9 = some r → RK xs L iX12_sumOf (d + 4) 101 [(0, .inr (.inr 334)), (3, .inl x2), (4, .inl x4)] [.inr (.inl s9), .inl 5, .inr (.inr 343)] (m_wr h7 343 4 x4) (RJo r) h r.2) ?_ ?_ hF
  · intro s9 hF
    refine RK.of (RN.blk (ops := [(101, .lastore)]) (pc' := 102) (lv' := [(0, .inr (.inr 334)), (3, .inl x2), (4, .inl x4)]) (st' := []) (h' := (m_wr (m_wr h7 343 4 x4) 343 5 s9)) (cs := [GI (m_wr h7 343 4 x4) 343 2 5]) (by decide +kernel) rfl ⟨(a_343 hL).gi (by decide) (by decide), trivial⟩) ?_
    have hL : LR (m_wr (m_wr h7 343 4 x4) 343 5 s9) := hL.wa (TA.le5 (a_343 hL) (by decide))
    have hK := hK.tr (KD.wr : KD (m_wr h7 343 4 x4) (m_wr (m_wr h7 343 4 x4) 343 5 s9))
    refine RK.of (RN.blk (ops := [(102, .aload_n 0)]) (pc' := 103) (lv' := [(0, .inr (.inr 334)), (3, .inl x2), (4, .inl x4)]) (st' := [.inr (.inr 334)]) (h' := (m_wr (m_wr h7 343 4 x4) 343 5 s9)) (cs := []) (by decide +kernel) rfl trivial) ?_
    refine RK.of (RN.gr (i := 36) (ci := 12) (k := 19) (fn := true) (v := 343) (by decide +kernel) rfl (TO.gk (o_334 hL)) (hL.fa (v := 343) 19 2 11 (o_334 hL) rfl (by decide) rfl (by decide)).1) ?_
    refine RK.of (RN.blk (ops := [(106, .bipush 6), (108, .iload 4)]) (pc' := 110) (lv' := [(0, .inr (.inr 334)), (3, .inl x2), (4, .inl x4)]) (st' := [.inl x4, .inl 6, .inr (.inr 343)]) (h' := (m_wr (m_wr h7 343 4 x4) 343 5 s9)) (cs := []) (by decide +kernel) rfl trivial) ?_
    refine jn_use (fun j10 => ∀ (s11 : Int), j10 s11 = some r → RK xs L iX12_sumOf (d + 4) 128 [(0, .inr (.inr 334)), (3, .inl x2)] [.inr (.inl s11), .inl 6, .inr (.inr 343)] (m_wr (m_wr h7 343 4 x4) 343 5 s9) (RJo r) h r.2) ?_ ?_ hF
    · intro s11 hF
      refine RK.of (RN.blk (ops := [(128, .lastore)]) (pc' := 129) (lv' := [(0, .inr (.inr 334)), (3, .inl x2)]) (st' := []) (h' := (m_wr (m_wr (m_wr h7 343 4 x4) 343 5 s9) 343 6 s11)) (cs := [GI (m_wr (m_wr h7 343 4 x4) 343 5 s9) 343 2 6]) (by decide +kernel) rfl ⟨(a_343 hL).gi (by decide) (by decide), trivial⟩) ?_
      have hL : LR (m_wr (m_wr (m_wr h7 343 4 x4) 343 5 s9) 343 6 s11) := hL.wa (TA.le5 (a_343 hL) (by decide))
      have hK := hK.tr (KD.wr : KD (m_wr (m_wr h7 343 4 x4) 343 5 s9) (m_wr (m_wr (m_wr h7 343 4 x4) 343 5 s9) 343 6 s11))
      refine RK.of (RN.blk (ops := [(129, .aload_n 0)]) (pc' := 130) (lv' := [(0, .inr (.inr 334)), (3, .inl x2)]) (st' := [.inr (.inr 334)]) (h' := (m_wr (m_wr (m_wr h7 343 4 x4) 343 5 s9) 343 6 s11)) (cs := []) (by decide +kernel) rfl trivial) ?_
      refine RK.of (RN.gr (i := 36) (ci := 12) (k := 19) (fn := true) (v := 343) (by decide +kernel) rfl (TO.gk (o_334 hL)) (hL.fa (v := 343) 19 2 11 (o_334 hL) rfl (by decide) rfl (by decide)).1) ?_
      refine RK.of (RN.blk (ops := [(133, .bipush 7), (135, .iload_n 3)]) (pc' := 136) (lv' := [(0, .inr (.inr 334)), (3, .inl x2)]) (st' := [.inl x2, .inl 7, .inr (.inr 343)]) (h' := (m_wr (m_wr (m_wr h7 343 4 x4) 343 5 s9) 343 6 s11)) (cs := []) (by decide +kernel) rfl trivial) ?_
      refine jn_use (fun j12 => ∀ (s13 : Int), j12 s13 = some r → RK xs L iX12_sumOf (d + 4) 155 [(0, .inr (.inr 334))] [.inr (.inl s13), .inl 7, .inr (.inr 343)] (m_wr (m_wr (m_wr h7 343 4 x4) 343 5 s9) 343 6 s11) (RJo r) h r.2) ?_ ?_ hF
      · intro s13 hF
        refine RK.of (RN.blk (ops := [(155, .lastore)]) (pc' := 156) (lv' := [(0, .inr (.inr 334))]) (st' := []) (h' := (m_wr (m_wr (m_wr (m_wr h7 343 4 x4) 343 5 s9) 343 6 s11) 343 7 s13)) (cs := [GI (m_wr (m_wr (m_wr h7 343 4 x4) 343 5 s9) 343 6 s11) 343 2 7]) (by decide +kernel) rfl ⟨(a_343 hL).gi (by decide) (by decide), trivial⟩) ?_
        have hL : LR (m_wr (m_wr (m_wr (m_wr h7 343 4 x4) 343 5 s9) 343 6 s11) 343 7 s13) := hL.wa (TA.le5 (a_343 hL) (by decide))
        have hK := hK.tr (KD.wr : KD (m_wr (m_wr (m_wr h7 343 4 x4) 343 5 s9) 343 6 s11) (m_wr (m_wr (m_wr (m_wr h7 343 4 x4) 343 5 s9) 343 6 s11) 343 7 s13))
        refine RK.of (RN.blk (ops := [(156, .aload_n 0)]) (pc' := 157) (lv' := [(0, .inr (.inr 334))]) (st' := [.inr (.inr 334)]) (h' := (m_wr (m_wr (m_wr (m_wr h7 343 4 x4) 343 5 s9) 343 6 s11) 343 7 s13)) (cs := []) (by decide +kernel) rfl trivial) ?_
        refine RK.of (RN.gr (i := 36) (ci := 12) (k := 19) (fn := true) (v := 343) (by decide +kernel) rfl (TO.gk (o_334 hL)) (hL.fa (v := 343) 19 2 11 (o_334 hL) rfl (by decide) rfl (by decide)).1) ?_
        refine RK.of (RN.blk (ops := [(160, .bipush 8), (162, .aload_n 0)]) (pc' := 163) (lv' := [(0, .inr (.inr 334))]) (st' := [.inr (.inr 334), .inl 8, .inr (.inr 343)]) (h' := (m_wr (m_wr (m_wr (m_wr h7 343 4 x4) 343 5 s9) 343 6 s11) 343 7 s13)) (cs := []) (by decide +kernel) rfl trivial) ?_
        refine RK.of (RN.gr (i := 39) (ci := 12) (k := 20) (fn := true) (v := 344) (by decide +kernel) rfl (TO.gk (o_334 hL)) (hL.fa (v := 344) 20 1 167 (o_334 hL) rfl (by decide) rfl (by decide)).1) ?_
        refine RK.of (RN.blk (ops := [(166, .bipush 12), (168, .iaload), (169, .i2l), (170, .lastore)]) (pc' := 171) (lv' := [(0, .inr (.inr 334))]) (st' := []) (h' := (m_wr (m_wr (m_wr (m_wr (m_wr h7 343 4 x4) 343 5 s9) 343 6 s11) 343 7 s13) 343 8 (m_rd (m_wr (m_wr (m_wr (m_wr h7 343 4 x4) 343 5 s9) 343 6 s11) 343 7 s13) 344 12))) (cs := [GI (m_wr (m_wr (m_wr (m_wr h7 343 4 x4) 343 5 s9) 343 6 s11) 343 7 s13) 344 1 12, GI (m_wr (m_wr (m_wr (m_wr h7 343 4 x4) 343 5 s9) 343 6 s11) 343 7 s13) 343 2 8]) (by decide +kernel) rfl ⟨(a_344 hL).gi (by decide) (by decide), (a_343 hL).gi (by decide) (by decide), trivial⟩) ?_
        have hL : LR (m_wr (m_wr (m_wr (m_wr (m_wr h7 343 4 x4) 343 5 s9) 343 6 s11) 343 7 s13) 343 8 (m_rd (m_wr (m_wr (m_wr (m_wr h7 343 4 x4) 343 5 s9) 343 6 s11) 343 7 s13) 344 12)) := hL.wa (TA.le5 (a_343 hL) (by decide))
        have hK := hK.tr (KD.wr : KD (m_wr (m_wr (m_wr (m_wr h7 343 4 x4) 343 5 s9) 343 6 s11) 343 7 s13) (m_wr (m_wr (m_wr (m_wr (m_wr h7 343 4 x4) 343 5 s9) 343 6 s11) 343 7 s13) 343 8 (m_rd (m_wr (m_wr (m_wr (m_wr h7 343 4 x4) 343 5 s9) 343 6 s11) 343 7 s13) 344 12)))
        obtain ⟨h14, he, hF⟩ := hl_of hF
        refine RK.of (RN.hl he) ?_
        rw [← he] at hL hK
        refine RK.of (RN.blk (ops := [(171, .aload_n 0)]) (pc' := 172) (lv' := [(0, .inr (.inr 334))]) (st' := [.inr (.inr 334)]) (h' := h14) (cs := []) (by decide +kernel) rfl trivial) ?_
        refine RK.of (RN.gr (i := 36) (ci := 12) (k := 19) (fn := true) (v := 343) (by decide +kernel) rfl (TO.gk (o_334 hL)) (hL.fa (v := 343) 19 2 11 (o_334 hL) rfl (by decide) rfl (by decide)).1) ?_
        refine RK.of (RN.blk (ops := [(175, .bipush 9), (177, .aload_n 0), (178, .bipush 20)]) (pc' := 180) (lv' := [(0, .inr (.inr 334))]) (st' := [.inl 20, .inr (.inr 334), .inl 9, .inr (.inr 343)]) (h' := h14) (cs := []) (by decide +kernel) rfl trivial) ?_
        obtain ⟨x16, h15, hG, hF⟩ := bd_of hF
        have hq := rcv_ok (as := [.inl 20]) (TO.gk (o_334 hL))
        obtain ⟨hN, hL, hQ⟩ := DX12_sumOver (d := d + 3) hL  hG
        refine RK.of (RN.cv (i := 325) (k := 210) (q2 := iX12_sumOver) (as := [.inr (.inr 334), .inl 20]) (r := [.inl 9, .inr (.inr 343)]) (v := some (.inl x16)) (h1 := h15) (by decide +kernel) rfl rfl rfl rfl rfl hq hN) ?_
        have hK := hK.tr hQ
        refine RK.of (RN.blk (ops := [(183, .i2l), (184, .lastore)]) (pc' := 185) (lv' := [(0, .inr (.inr 334))]) (st' := []) (h' := (m_wr h15 343 9 x16)) (cs := [GI h15 343 2 9]) (by decide +kernel) rfl ⟨(a_343 hL).gi (by decide) (by decide), trivial⟩) ?_
        have hL : LR (m_wr h15 343 9 x16) := hL.wa (TA.le5 (a_343 hL) (by decide))
        have hK := hK.tr (KD.wr : KD h15 (m_wr h15 343 9 x16))
        refine RK.of (RN.blk (ops := [(185, .aload_n 0)]) (pc' := 186) (lv' := [(0, .inr (.inr 334))]) (st' := [.inr (.inr 334)]) (h' := (m_wr h15 343 9 x16)) (cs := []) (by decide +kernel) rfl trivial) ?_
        refine RK.of (RN.gr (i := 36) (ci := 12) (k := 19) (fn := true) (v := 343) (by decide +kernel) rfl (TO.gk (o_334 hL)) (hL.fa (v := 343) 19 2 11 (o_334 hL) rfl (by decide) rfl (by decide)).1) ?_
        refine RK.of (RN.blk (ops := [(189, .bipush 10), (191, .aload_n 0)]) (pc' := 192) (lv' := [(0, .inr (.inr 334))]) (st' := [.inr (.inr 334), .inl 10, .inr (.inr 343)]) (h' := (m_wr h15 343 9 x16)) (cs := []) (by decide +kernel) rfl trivial) ?_
        refine RK.of (RN.gr (i := 39) (ci := 12) (k := 20) (fn := true) (v := 344) (by decide +kernel) rfl (TO.gk (o_334 hL)) (hL.fa (v := 344) 20 1 167 (o_334 hL) rfl (by decide) rfl (by decide)).1) ?_
        refine RK.of (RN.blk (ops := [(195, .bipush 10), (197, .iaload), (198, .i2l), (199, .lastore)]) (pc' := 200) (lv' := [(0, .inr (.inr 334))]) (st' := []) (h' := (m_wr (m_wr h15 343 9 x16) 343 10 (m_rd (m_wr h15 343 9 x16) 344 10))) (cs := [GI (m_wr h15 343 9 x16) 344 1 10, GI (m_wr h15 343 9 x16) 343 2 10]) (by decide +kernel) rfl ⟨(a_344 hL).gi (by decide) (by decide), (a_343 hL).gi (by decide) (by decide), trivial⟩) ?_
        have hL : LR (m_wr (m_wr h15 343 9 x16) 343 10 (m_rd (m_wr h15 343 9 x16) 344 10)) := hL.wa (TA.le5 (a_343 hL) (by decide))
        have hK := hK.tr (KD.wr : KD (m_wr h15 343 9 x16) (m_wr (m_wr h15 343 9 x16) 343 10 (m_rd (m_wr h15 343 9 x16) 344 10)))
        refine RK.of (RN.blk (ops := [(200, .aload_n 0), (201, .aload_n 0), (202, .getfield 42)]) (pc' := 205) (lv' := [(0, .inr (.inr 334))]) (st' := [.inl (m_rd (m_wr (m_wr h15 343 9 x16) 343 10 (m_rd (m_wr h15 343 9 x16) 344 10)) 334 21), .inr (.inr 334)]) (h' := (m_wr (m_wr h15 343 9 x16) 343 10 (m_rd (m_wr h15 343 9 x16) 344 10))) (cs := [GK (m_wr (m_wr h15 343 9 x16) 343 10 (m_rd (m_wr h15 343 9 x16) 344 10)) 334 12]) (by decide +kernel) rfl ⟨(o_334 hL).gk, trivial⟩) ?_
        obtain ⟨x18, h17, hG, hF⟩ := bd_of hF
        have hq := rcv_ok (as := [.inl (m_rd (m_wr (m_wr h15 343 9 x16) 343 10 (m_rd (m_wr h15 343 9 x16) 344 10)) 334 21)]) (TO.gk (o_334 hL))
        obtain ⟨hN, hL, hQ⟩ := DX12_summedBy (d := d + 1) hL  hG
        refine RK.of (RN.cv (i := 328) (k := 216) (q2 := iX12_summedBy) (as := [.inr (.inr 334), .inl (m_rd (m_wr (m_wr h15 343 9 x16) 343 10 (m_rd (m_wr h15 343 9 x16) 344 10)) 334 21)]) (r := []) (v := some (.inr (.inl x18))) (h1 := h17) (by decide +kernel) rfl rfl rfl rfl rfl hq hN) ?_
        have hK := hK.tr hQ
        exact RK.lR (by decide +kernel) rfl hL hK hF
      · intro j12 Jj12 hF
        rcases it_of hF with ⟨hb, hF⟩ | ⟨hb, hF⟩
        · refine RK.of (RN.iff (cd := .ge) (off := 7) (tgt := 143) (by decide +kernel) (mif_gen hb)) ?_
          refine RK.of (RN.blk (ops := [(139, .lconst 0)]) (pc' := 140) (lv' := [(0, .inr (.inr 334)), (3, .inl x2)]) (st' := [.inr (.inl 0), .inl 7, .inr (.inr 343)]) (h' := (m_wr (m_wr (m_wr h7 343 4 x4) 343 5 s9) 343 6 s11)) (cs := []) (by decide +kernel) rfl trivial) ?_
          refine RK.of (RN.goto (off := 15) (tgt := 155) (by decide +kernel)) ?_
          exact RK.sub (Jj12 _ hF) (sub_cons rfl sub_nil)
        · refine RK.of (RN.ift (cd := .ge) (off := 7) (tgt := 143) (by decide +kernel) (mif_ge hb)) ?_
          refine RK.of (RN.blk (ops := [(143, .aload_n 0)]) (pc' := 144) (lv' := [(0, .inr (.inr 334)), (3, .inl x2)]) (st' := [.inr (.inr 334), .inl 7, .inr (.inr 343)]) (h' := (m_wr (m_wr (m_wr h7 343 4 x4) 343 5 s9) 343 6 s11)) (cs := []) (by decide +kernel) rfl trivial) ?_
          refine RK.of (RN.gr (i := 39) (ci := 12) (k := 20) (fn := true) (v := 344) (by decide +kernel) rfl (TO.gk (o_334 hL)) (hL.fa (v := 344) 20 1 167 (o_334 hL) rfl (by decide) rfl (by decide)).1) ?_
          obtain ⟨hc, hF⟩ := gd_of hF
          refine RK.of (RN.blk (ops := [(147, .bipush 46), (149, .iconst 3), (150, .iload_n 3), (151, .imul), (152, .iadd), (153, .iaload), (154, .i2l)]) (pc' := 155) (lv' := [(0, .inr (.inr 334)), (3, .inl x2)]) (st' := [.inr (.inl (m_rd (m_wr (m_wr (m_wr h7 343 4 x4) 343 5 s9) 343 6 s11) 344 (m_w32 (46 + (m_w32 (3 * x2)))))), .inl 7, .inr (.inr 343)]) (h' := (m_wr (m_wr (m_wr h7 343 4 x4) 343 5 s9) 343 6 s11)) (cs := [GI (m_wr (m_wr (m_wr h7 343 4 x4) 343 5 s9) 343 6 s11) 344 1 (m_w32 (46 + (m_w32 (3 * x2))))]) (by decide +kernel) rfl ⟨(a_344 hL).gi hc.1.1 hc.1.2, trivial⟩) ?_
          exact RK.sub (Jj12 _ hF) (sub_cons rfl sub_nil)
    · intro j10 Jj10 hF
      rcases it_of hF with ⟨hb, hF⟩ | ⟨hb, hF⟩
      · refine RK.of (RN.iff (cd := .ge) (off := 7) (tgt := 117) (by decide +kernel) (mif_gen hb)) ?_
        refine RK.of (RN.blk (ops := [(113, .lconst 0)]) (pc' := 114) (lv' := [(0, .inr (.inr 334)), (3, .inl x2), (4, .inl x4)]) (st' := [.inr (.inl 0), .inl 6, .inr (.inr 343)]) (h' := (m_wr (m_wr h7 343 4 x4) 343 5 s9)) (cs := []) (by decide +kernel) rfl trivial) ?_
        refine RK.of (RN.goto (off := 14) (tgt := 128) (by decide +kernel)) ?_
        exact RK.sub (Jj10 _ hF) (sub_cons rfl (sub_cons rfl sub_nil))
      · refine RK.of (RN.ift (cd := .ge) (off := 7) (tgt := 117) (by decide +kernel) (mif_ge hb)) ?_
        refine RK.of (RN.blk (ops := [(117, .aload_n 0)]) (pc' := 118) (lv' := [(0, .inr (.inr 334)), (3, .inl x2), (4, .inl x4)]) (st' := [.inr (.inr 334), .inl 6, .inr (.inr 343)]) (h' := (m_wr (m_wr h7 343 4 x4) 343 5 s9)) (cs := []) (by decide +kernel) rfl trivial) ?_
        refine RK.of (RN.gr (i := 39) (ci := 12) (k := 20) (fn := true) (v := 344) (by decide +kernel) rfl (TO.gk (o_334 hL)) (hL.fa (v := 344) 20 1 167 (o_334 hL) rfl (by decide) rfl (by decide)).1) ?_
        obtain ⟨hc, hF⟩ := gd_of hF
        refine RK.of (RN.blk (ops := [(121, .bipush 82), (123, .iload 4), (125, .iadd), (126, .iaload), (127, .i2l)]) (pc' := 128) (lv' := [(0, .inr (.inr 334)), (3, .inl x2), (4, .inl x4)]) (st' := [.inr (.inl (m_rd (m_wr (m_wr h7 343 4 x4) 343 5 s9) 344 (m_w32 (82 + x4)))), .inl 6, .inr (.inr 343)]) (h' := (m_wr (m_wr h7 343 4 x4) 343 5 s9)) (cs := [GI (m_wr (m_wr h7 343 4 x4) 343 5 s9) 344 1 (m_w32 (82 + x4))]) (by decide +kernel) rfl ⟨(a_344 hL).gi hc.1.1 hc.1.2, trivial⟩) ?_
        exact RK.sub (Jj10 _ hF) (sub_cons rfl (sub_cons rfl sub_nil))
  · intro j8 Jj8 hF
    rcases it_of hF with ⟨hb, hF⟩ | ⟨hb, hF⟩
    · refine RK.of (RN.iff (cd := .ge) (off := 7) (tgt := 90) (by decide +kernel) (mif_gen hb)) ?_
      refine RK.of (RN.blk (ops := [(86, .lconst 0)]) (pc' := 87) (lv' := [(4, .inl x4), (3, .inl x2), (2, .inl (m_rd h 344 (m_w32 (26 + a1)))), (0, .inr (.inr 334)), (1, .inl a1)]) (st' := [.inr (.inl 0), .inl 5, .inr (.inr 343)]) (h' := (m_wr h7 343 4 x4)) (cs := []) (by decide +kernel) rfl trivial) ?_
      refine RK.of (RN.goto (off := 14) (tgt := 101) (by decide +kernel)) ?_
      exact RK.sub (Jj8 _ hF) (sub_cons rfl (sub_cons rfl (sub_cons rfl sub_nil)))
    · refine RK.of (RN.ift (cd := .ge) (off := 7) (tgt := 90) (by decide +kernel) (mif_ge hb)) ?_
      refine RK.of (RN.blk (ops := [(90, .aload_n 0)]) (pc' := 91) (lv' := [(4, .inl x4), (3, .inl x2), (2, .inl (m_rd h 344 (m_w32 (26 + a1)))), (0, .inr (.inr 334)), (1, .inl a1)]) (st' := [.inr (.inr 334), .inl 5, .inr (.inr 343)]) (h' := (m_wr h7 343 4 x4)) (cs := []) (by decide +kernel) rfl trivial) ?_
      refine RK.of (RN.gr (i := 39) (ci := 12) (k := 20) (fn := true) (v := 344) (by decide +kernel) rfl (TO.gk (o_334 hL)) (hL.fa (v := 344) 20 1 167 (o_334 hL) rfl (by decide) rfl (by decide)).1) ?_
      obtain ⟨hc, hF⟩ := gd_of hF
      refine RK.of (RN.blk (ops := [(94, .bipush 14), (96, .iload 4), (98, .iadd), (99, .iaload), (100, .i2l)]) (pc' := 101) (lv' := [(4, .inl x4), (3, .inl x2), (2, .inl (m_rd h 344 (m_w32 (26 + a1)))), (0, .inr (.inr 334)), (1, .inl a1)]) (st' := [.inr (.inl (m_rd (m_wr h7 343 4 x4) 344 (m_w32 (14 + x4)))), .inl 5, .inr (.inr 343)]) (h' := (m_wr h7 343 4 x4)) (cs := [GI (m_wr h7 343 4 x4) 344 1 (m_w32 (14 + x4))]) (by decide +kernel) rfl ⟨(a_344 hL).gi hc.1.1 hc.1.2, trivial⟩) ?_
      exact RK.sub (Jj8 _ hF) (sub_cons rfl (sub_cons rfl (sub_cons rfl sub_nil)))
end Gc
