/-! METHODS AS FUNCTIONS, references resolved (by program): X0_addSight, X0_mostAlike, X0_seekSight, X1_lay, X1_draw, X1_howManyTo, X1_leastTo, X1_takeReading, X8_digitOf, X1_isMeant, X1_meantHoles, X1_decides, X1_setToRead, X1_slipsOf, X1_mostSlipping, X1_idleEntries, X1_joinCosts -/
section Gc
variable {xs : Int → Int} {L : Int}
noncomputable def GX0_addSight (a1 : Int) (h : MH) : Option (MH) :=
  (if (m_rd h 323 6) < 7 then
   gd [IB (m_rd h 323 6) 7] (
    gd [GC h a1 0 (327 + (m_rd h 323 6)) 0 6] (
     some (m_wr (m_cpy h a1 0 (327 + (m_rd h 323 6)) 0 6) 323 6 (m_w32 ((m_rd (m_cpy h a1 0 (327 + (m_rd h 323 6)) 0 6) 323 6) + 1)))))
  else
   some h)
theorem DX0_addSight {d : Nat} {a1 : Int} {h : MH} {r : MH} (hL : LR h) (hF : GX0_addSight a1 h = some r) : RN xs L iX0_addSight (d + 1) 0 (lvE 0 [.inr (.inr 323), .inr (.inr a1)]) [] h (RVo r) ∧ LR r ∧ KD h r := by
  unfold GX0_addSight at hF
  have hK : KD h h := KD.rf
  show RK xs L iX0_addSight (d + 1) 0 (lvE 0 [.inr (.inr 323), .inr (.inr a1)]) [] h (RVo r) h r
  refine RK.of (RN.blk (ops := [(0, .aload_n 0), (1, .getfield 125), (4, .aload_n 0)]) (pc' := 5) (lv' := [(0, .inr (.inr 323)), (1, .inr (.inr a1))]) (st' := [.inr (.inr 323), .inl (m_rd h 323 6)]) (h' := h) (cs := [GK h 323 0]) (by decide +kernel) rfl ⟨(o_323 hL).gk, trivial⟩) ?_
  refine RK.of (RN.gr (i := 20) (ci := 0) (k := 11) (fn := true) (v := 326) (by decide +kernel) rfl (TO.gk (o_323 hL)) (hL.fa (v := 326) 11 8 7 (o_323 hL) rfl (by decide) rfl (by decide)).1) ?_
  refine RK.of (RN.al (by decide +kernel) (a_326 hL) (by decide) (by decide)) ?_
  rcases it_of hF with ⟨hb, hF⟩ | ⟨hb, hF⟩
  · refine RK.of (RN.icf (cd := .ge) (off := 30) (tgt := 39) (by decide +kernel) (mif_gen hb)) ?_
    refine RK.of (RN.blk (ops := [(12, .aload_n 1), (13, .iconst 0), (14, .aload_n 0)]) (pc' := 15) (lv' := [(0, .inr (.inr 323)), (1, .inr (.inr a1))]) (st' := [.inr (.inr 323), .inl 0, .inr (.inr a1)]) (h' := h) (cs := []) (by decide +kernel) rfl trivial) ?_
    refine RK.of (RN.gr (i := 20) (ci := 0) (k := 11) (fn := true) (v := 326) (by decide +kernel) rfl (TO.gk (o_323 hL)) (hL.fa (v := 326) 11 8 7 (o_323 hL) rfl (by decide) rfl (by decide)).1) ?_
    refine RK.of (RN.blk (ops := [(18, .aload_n 0), (19, .getfield 125)]) (pc' := 22) (lv' := [(0, .inr (.inr 323)), (1, .inr (.inr a1))]) (st' := [.inl (m_rd h 323 6), .inr (.inr 326), .inl 0, .inr (.inr a1)]) (h' := h) (cs := [GK h 323 0]) (by decide +kernel) rfl ⟨(o_323 hL).gk, trivial⟩) ?_
    obtain ⟨hc, hF⟩ := gd_of hF
    refine RK.of (RN.ga (by decide +kernel) ((a_326 hL).ga (by decide) (by decide) hc.1.1 hc.1.2) (hL.2.2.2.2.2 _ hc.1.1 hc.1.2)) ?_
    have t_d1 := hL.sgt hc.1.1 hc.1.2
    refine RK.of (RN.blk (ops := [(23, .iconst 0), (24, .bipush 6)]) (pc' := 26) (lv' := [(0, .inr (.inr 323)), (1, .inr (.inr a1))]) (st' := [.inl 6, .inl 0, .inr (.inr (327 + (m_rd h 323 6))), .inl 0, .inr (.inr a1)]) (h' := h) (cs := []) (by decide +kernel) rfl trivial) ?_
    obtain ⟨hc, hF⟩ := gd_of hF
    have hG : GC h a1 0 (327 + (m_rd h 323 6)) 0 6 := hc.1
    refine RK.of (RN.cp (i := 37) (by decide +kernel) rfl rfl hG) ?_
    have hL : LR (m_cpy h a1 0 (327 + (m_rd h 323 6)) 0 6) := hL.wc (by rw [hG.2.1]; decide)
    have t_d1 := (KD.cpy : KD h (m_cpy h a1 0 (327 + (m_rd h 323 6)) 0 6)).ta t_d1
    have hK := hK.tr (KD.cpy : KD h (m_cpy h a1 0 (327 + (m_rd h 323 6)) 0 6))
    refine RK.of (RN.blk (ops := [(29, .aload_n 0), (30, .dup), (31, .getfield 125), (34, .iconst 1), (35, .iadd), (36, .putfield 125)]) (pc' := 39) (lv' := [(0, .inr (.inr 323)), (1, .inr (.inr a1))]) (st' := []) (h' := (m_wr (m_cpy h a1 0 (327 + (m_rd h 323 6)) 0 6) 323 6 (m_w32 ((m_rd (m_cpy h a1 0 (327 + (m_rd h 323 6)) 0 6) 323 6) + 1)))) (cs := [GK (m_cpy h a1 0 (327 + (m_rd h 323 6)) 0 6) 323 0, GK (m_cpy h a1 0 (327 + (m_rd h 323 6)) 0 6) 323 0]) (by decide +kernel) rfl ⟨(o_323 hL).gk, (o_323 hL).gk, trivial⟩) ?_
    have hL : LR (m_wr (m_cpy h a1 0 (327 + (m_rd h 323 6)) 0 6) 323 6 (m_w32 ((m_rd (m_cpy h a1 0 (327 + (m_rd h 323 6)) 0 6) 323 6) + 1))) := LR.wf (k := 6) hL (o_323 hL) rfl
    have t_d1 := (KD.wr : KD (m_cpy h a1 0 (327 + (m_rd h 323 6)) 0 6) (m_wr (m_cpy h a1 0 (327 + (m_rd h 323 6)) 0 6) 323 6 (m_w32 ((m_rd (m_cpy h a1 0 (327 + (m_rd h 323 6)) 0 6) 323 6) + 1)))).ta t_d1
    have hK := hK.tr (KD.wr : KD (m_cpy h a1 0 (327 + (m_rd h 323 6)) 0 6) (m_wr (m_cpy h a1 0 (327 + (m_rd h 323 6)) 0 6) 323 6 (m_w32 ((m_rd (m_cpy h a1 0 (327 + (m_rd h 323 6)) 0 6) 323 6) + 1))))
    exact RK.vR (by decide +kernel) rfl hL hK hF
  · refine RK.of (RN.ict (cd := .ge) (off := 30) (tgt := 39) (by decide +kernel) (mif_ge hb)) ?_
    exact RK.vR (by decide +kernel) rfl hL hK hF
noncomputable def GX0_mostAlike_L18 (u1 : Int) (u2 : Int) (u3 : Int) (K0 : Int → MH → Option (Int × MH)) : Nat → Int → Int → MH → Option (Int × MH)
  | 0, _, _, _ => none
  | f + 1, v4, v5, h =>
    (if v5 < (m_rd h 323 6) then
     gd [IB v5 7] (
      gd [IB u1 6] (
       gd [IB u3 7] (
        gd [IB u1 6] (
         (if (m_rd h (327 + v5) u1) = (m_rd h (327 + u3) u1) then
          GX0_mostAlike_L18 u1 u2 u3 K0 f (m_w32 (v4 + 1)) (m_w32 (v5 + 1)) h
         else
          GX0_mostAlike_L18 u1 u2 u3 K0 f v4 (m_w32 (v5 + 1)) h)))))
    else
     K0 v4 h)
theorem DX0_mostAlike_L18 {d : Nat} {u1 : Int} {u2 : Int} {u3 : Int} {K0 : Int → MH → Option (Int × MH)} {r : Int × MH} {h0 hB : MH} (hB0 : KD h0 hB) (hK0 : ∀ (w4 : Int) (h : MH), LR h → KD hB h → K0 w4 h = some r → RK xs L iX0_mostAlike (d + 1) 56 [(0, .inr (.inr 323)), (1, .inl u1), (2, .inl u2), (3, .inl u3), (4, .inl w4)] [] h (RIo r) h0 r.2) : ∀ (f : Nat) (v4 : Int) (v5 : Int) (h : MH), LR h → KD hB h → GX0_mostAlike_L18 u1 u2 u3 K0 f v4 v5 h = some r → RK xs L iX0_mostAlike (d + 1) 18 [(0, .inr (.inr 323)), (1, .inl u1), (2, .inl u2), (3, .inl u3), (4, .inl v4), (5, .inl v5)] [] h (RIo r) h0 r.2 := by
  intro f
  induction f with
  | zero =>
    intro v4 v5 h hL hJ hF
    cases hF
  | succ f ih =>
    intro v4 v5 h hL hJ hF
    unfold GX0_mostAlike_L18 at hF
    have hK := hB0.tr hJ
    refine RK.of (RN.blk (ops := [(18, .iload 5), (20, .aload_n 0), (21, .getfield 125)]) (pc' := 24) (lv' := [(0, .inr (.inr 323)), (1, .inl u1), (2, .inl u2), (3, .inl u3), (4, .inl v4), (5, .inl v5)]) (st' := [.inl (m_rd h 323 6), .inl v5]) (h' := h) (cs := [GK h 323 0]) (by decide +kernel) rfl ⟨(o_323 hL).gk, trivial⟩) ?_
    rcases it_of hF with ⟨hb, hF⟩ | ⟨hb, hF⟩
    · refine RK.of (RN.icf (cd := .ge) (off := 32) (tgt := 56) (by decide +kernel) (mif_gen hb)) ?_
      refine RK.of (RN.blk (ops := [(27, .aload_n 0)]) (pc' := 28) (lv' := [(0, .inr (.inr 323)), (1, .inl u1), (2, .inl u2), (3, .inl u3), (4, .inl v4), (5, .inl v5)]) (st' := [.inr (.inr 323)]) (h' := h) (cs := []) (by decide +kernel) rfl trivial) ?_
      refine RK.of (RN.gr (i := 20) (ci := 0) (k := 11) (fn := true) (v := 326) (by decide +kernel) rfl (TO.gk (o_323 hL)) (hL.fa (v := 326) 11 8 7 (o_323 hL) rfl (by decide) rfl (by decide)).1) ?_
      refine RK.of (RN.blk (ops := [(31, .iload 5)]) (pc' := 33) (lv' := [(0, .inr (.inr 323)), (1, .inl u1), (2, .inl u2), (3, .inl u3), (4, .inl v4), (5, .inl v5)]) (st' := [.inl v5, .inr (.inr 326)]) (h' := h) (cs := []) (by decide +kernel) rfl trivial) ?_
      obtain ⟨hc, hF⟩ := gd_of hF
      refine RK.of (RN.ga (by decide +kernel) ((a_326 hL).ga (by decide) (by decide) hc.1.1 hc.1.2) (hL.2.2.2.2.2 _ hc.1.1 hc.1.2)) ?_
      have t_d1 := hL.sgt hc.1.1 hc.1.2
      obtain ⟨hc, hF⟩ := gd_of hF
      refine RK.of (RN.blk (ops := [(34, .iload_n 1), (35, .iaload), (36, .aload_n 0)]) (pc' := 37) (lv' := [(0, .inr (.inr 323)), (1, .inl u1), (2, .inl u2), (3, .inl u3), (4, .inl v4), (5, .inl v5)]) (st' := [.inr (.inr 323), .inl (m_rd h (327 + v5) u1)]) (h' := h) (cs := [GI h (327 + v5) 1 u1]) (by decide +kernel) rfl ⟨t_d1.gi hc.1.1 hc.1.2, trivial⟩) ?_
      refine RK.of (RN.gr (i := 20) (ci := 0) (k := 11) (fn := true) (v := 326) (by decide +kernel) rfl (TO.gk (o_323 hL)) (hL.fa (v := 326) 11 8 7 (o_323 hL) rfl (by decide) rfl (by decide)).1) ?_
      refine RK.of (RN.blk (ops := [(40, .iload_n 3)]) (pc' := 41) (lv' := [(0, .inr (.inr 323)), (1, .inl u1), (2, .inl u2), (3, .inl u3), (4, .inl v4), (5, .inl v5)]) (st' := [.inl u3, .inr (.inr 326), .inl (m_rd h (327 + v5) u1)]) (h' := h) (cs := []) (by decide +kernel) rfl trivial) ?_
      obtain ⟨hc, hF⟩ := gd_of hF
      refine RK.of (RN.ga (by decide +kernel) ((a_326 hL).ga (by decide) (by decide) hc.1.1 hc.1.2) (hL.2.2.2.2.2 _ hc.1.1 hc.1.2)) ?_
      have t_d2 := hL.sgt hc.1.1 hc.1.2
      obtain ⟨hc, hF⟩ := gd_of hF
      refine RK.of (RN.blk (ops := [(42, .iload_n 1), (43, .iaload)]) (pc' := 44) (lv' := [(0, .inr (.inr 323)), (1, .inl u1), (2, .inl u2), (3, .inl u3), (4, .inl v4), (5, .inl v5)]) (st' := [.inl (m_rd h (327 + u3) u1), .inl (m_rd h (327 + v5) u1)]) (h' := h) (cs := [GI h (327 + u3) 1 u1]) (by decide +kernel) rfl ⟨t_d2.gi hc.1.1 hc.1.2, trivial⟩) ?_
      rcases it_of hF with ⟨hb, hF⟩ | ⟨hb, hF⟩
      · refine RK.of (RN.icf (cd := .ne) (off := 6) (tgt := 50) (by decide +kernel) (mif_nen hb)) ?_
        refine RK.of (RN.blk (ops := [(47, .iinc 4 1)]) (pc' := 50) (lv' := [(4, .inl (m_w32 (v4 + 1))), (0, .inr (.inr 323)), (1, .inl u1), (2, .inl u2), (3, .inl u3), (5, .inl v5)]) (st' := []) (h' := h) (cs := []) (by decide +kernel) rfl trivial) ?_
        refine RK.of (RN.blk (ops := [(50, .iinc 5 1)]) (pc' := 53) (lv' := [(5, .inl (m_w32 (v5 + 1))), (4, .inl (m_w32 (v4 + 1))), (0, .inr (.inr 323)), (1, .inl u1), (2, .inl u2), (3, .inl u3)]) (st' := []) (h' := h) (cs := []) (by decide +kernel) rfl trivial) ?_
        refine RK.of (RN.goto (off := -35) (tgt := 18) (by decide +kernel)) ?_
        exact RK.sub (ih _ _ _ hL hJ hF) (sub_cons rfl (sub_cons rfl (sub_cons rfl (sub_cons rfl (sub_cons rfl (sub_cons rfl sub_nil))))))
      · refine RK.of (RN.ict (cd := .ne) (off := 6) (tgt := 50) (by decide +kernel) (mif_ne hb)) ?_
        refine RK.of (RN.blk (ops := [(50, .iinc 5 1)]) (pc' := 53) (lv' := [(5, .inl (m_w32 (v5 + 1))), (0, .inr (.inr 323)), (1, .inl u1), (2, .inl u2), (3, .inl u3), (4, .inl v4)]) (st' := []) (h' := h) (cs := []) (by decide +kernel) rfl trivial) ?_
        refine RK.of (RN.goto (off := -35) (tgt := 18) (by decide +kernel)) ?_
        exact RK.sub (ih _ _ _ hL hJ hF) (sub_cons rfl (sub_cons rfl (sub_cons rfl (sub_cons rfl (sub_cons rfl (sub_cons rfl sub_nil))))))
    · refine RK.of (RN.ict (cd := .ge) (off := 32) (tgt := 56) (by decide +kernel) (mif_ge hb)) ?_
      exact RK.sub (hK0 _ _ hL hJ hF) (sub_cons rfl (sub_cons rfl (sub_cons rfl (sub_cons rfl (sub_cons rfl sub_nil)))))
noncomputable def GX0_mostAlike_L4 (u1 : Int) (K0 : Int → MH → Option (Int × MH)) : Nat → Int → Int → MH → Option (Int × MH)
  | 0, _, _, _ => none
  | f + 1, v2, v3, h =>
    (if v3 < (m_rd h 323 6) then
     GX0_mostAlike_L18 u1 v2 v3 (fun w1 h2 =>
      GX0_mostAlike_L4 u1 K0 f (m_mx v2 w1) (m_w32 (v3 + 1)) h2) FU 0 0 h
    else
     K0 v2 h)
theorem DX0_mostAlike_L4 {d : Nat} {u1 : Int} {K0 : Int → MH → Option (Int × MH)} {r : Int × MH} {h0 hB : MH} (hB0 : KD h0 hB) (hK0 : ∀ (w2 : Int) (h : MH), LR h → KD hB h → K0 w2 h = some r → RK xs L iX0_mostAlike (d + 1) 69 [(2, .inl w2)] [] h (RIo r) h0 r.2) : ∀ (f : Nat) (v2 : Int) (v3 : Int) (h : MH), LR h → KD hB h → GX0_mostAlike_L4 u1 K0 f v2 v3 h = some r → RK xs L iX0_mostAlike (d + 1) 4 [(0, .inr (.inr 323)), (1, .inl u1), (2, .inl v2), (3, .inl v3)] [] h (RIo r) h0 r.2 := by
  intro f
  induction f with
  | zero =>
    intro v2 v3 h hL hJ hF
    cases hF
  | succ f ih =>
    intro v2 v3 h hL hJ hF
    unfold GX0_mostAlike_L4 at hF
    have hK := hB0.tr hJ
    refine RK.of (RN.blk (ops := [(4, .iload_n 3), (5, .aload_n 0), (6, .getfield 125)]) (pc' := 9) (lv' := [(0, .inr (.inr 323)), (1, .inl u1), (2, .inl v2), (3, .inl v3)]) (st' := [.inl (m_rd h 323 6), .inl v3]) (h' := h) (cs := [GK h 323 0]) (by decide +kernel) rfl ⟨(o_323 hL).gk, trivial⟩) ?_
    rcases it_of hF with ⟨hb, hF⟩ | ⟨hb, hF⟩
    · refine RK.of (RN.icf (cd := .ge) (off := 60) (tgt := 69) (by decide +kernel) (mif_gen hb)) ?_
      refine RK.of (RN.blk (ops := [(12, .iconst 0), (13, .istore 4), (15, .iconst 0), (16, .istore 5)]) (pc' := 18) (lv' := [(5, .inl 0), (4, .inl 0), (0, .inr (.inr 323)), (1, .inl u1), (2, .inl v2), (3, .inl v3)]) (st' := []) (h' := h) (cs := []) (by decide +kernel) rfl trivial) ?_
      refine RK.sub (DX0_mostAlike_L18 hK ?_ _ _ _ _ hL KD.rf hF) (sub_cons rfl (sub_cons rfl (sub_cons rfl (sub_cons rfl (sub_cons rfl (sub_cons rfl sub_nil))))))
      · intro w1 h2 hL hq hF
        have hK := hK.tr hq
        have hJ := hJ.tr hq
        refine RK.of (RN.blk (ops := [(56, .iload_n 2), (57, .iload 4)]) (pc' := 59) (lv' := [(0, .inr (.inr 323)), (1, .inl u1), (2, .inl v2), (3, .inl v3), (4, .inl w1)]) (st' := [.inl w1, .inl v2]) (h' := h2) (cs := []) (by decide +kernel) rfl trivial) ?_
        refine RK.of (RN.mx (i := 134) (by decide +kernel) rfl rfl) ?_
        refine RK.of (RN.blk (ops := [(62, .istore_n 2), (63, .iinc 3 1)]) (pc' := 66) (lv' := [(3, .inl (m_w32 (v3 + 1))), (2, .inl (m_mx v2 w1)), (0, .inr (.inr 323)), (1, .inl u1), (4, .inl w1)]) (st' := []) (h' := h2) (cs := []) (by decide +kernel) rfl trivial) ?_
        refine RK.of (RN.goto (off := -62) (tgt := 4) (by decide +kernel)) ?_
        exact RK.sub (ih _ _ _ hL hJ hF) (sub_cons rfl (sub_cons rfl (sub_cons rfl (sub_cons rfl sub_nil))))
    · refine RK.of (RN.ict (cd := .ge) (off := 60) (tgt := 69) (by decide +kernel) (mif_ge hb)) ?_
      exact RK.sub (hK0 _ _ hL hJ hF) (sub_cons rfl sub_nil)
noncomputable def GX0_mostAlike (a1 : Int) (h : MH) : Option (Int × MH) :=
  GX0_mostAlike_L4 a1 (fun w1 h2 =>
   some (w1, h2)) FU 0 0 h
theorem DX0_mostAlike {d : Nat} {a1 : Int} {h : MH} {r : Int × MH} (hL : LR h) (hF : GX0_mostAlike a1 h = some r) : RN xs L iX0_mostAlike (d + 1) 0 (lvE 0 [.inr (.inr 323), .inl a1]) [] h (RIo r) ∧ LR r.2 ∧ KD h r.2 := by
  unfold GX0_mostAlike at hF
  have hK : KD h h := KD.rf
  show RK xs L iX0_mostAlike (d + 1) 0 (lvE 0 [.inr (.inr 323), .inl a1]) [] h (RIo r) h r.2
  refine RK.of (RN.blk (ops := [(0, .iconst 0), (1, .istore_n 2), (2, .iconst 0), (3, .istore_n 3)]) (pc' := 4) (lv' := [(3, .inl 0), (2, .inl 0), (0, .inr (.inr 323)), (1, .inl a1)]) (st' := []) (h' := h) (cs := []) (by decide +kernel) rfl trivial) ?_
  refine RK.sub (DX0_mostAlike_L4 hK ?_ _ _ _ _ hL KD.rf hF) (sub_cons rfl (sub_cons rfl (sub_cons rfl (sub_cons rfl sub_nil))))
  · intro w1 h2 hL hq hF
    have hK := hK.tr hq
    refine RK.of (RN.blk (ops := [(69, .iload_n 2)]) (pc' := 70) (lv' := [(2, .inl w1)]) (st' := [.inl w1]) (h' := h2) (cs := []) (by decide +kernel) rfl trivial) ?_
    exact RK.iR (by decide +kernel) rfl hL hK hF
noncomputable def GX0_seekSight_L16 (u1 : Int) (K0 : MH → Option (MH)) : Nat → Int → MH → Option (MH)
  | 0, _, _ => none
  | f + 1, v2, h =>
    (if v2 < u1 then
     (bd (GX0_mostAlike v2 h) (fun x2 h1 =>
      (if x2 < (m_rd h1 323 7) then
       GX0_seekSight_L16 u1 K0 f (m_w32 (v2 + 1)) (m_wr (m_wr h1 323 7 x2) 323 4 v2)
      else
       GX0_seekSight_L16 u1 K0 f (m_w32 (v2 + 1)) h1)))
    else
     K0 h)
theorem DX0_seekSight_L16 {d : Nat} {u1 : Int} {K0 : MH → Option (MH)} {r : MH} {h0 hB : MH} (hB0 : KD h0 hB) (hK0 : ∀ (h : MH), LR h → KD hB h → K0 h = some r → RK xs L iX0_seekSight (d + 2) 51 [] [] h (RVo r) h0 r) : ∀ (f : Nat) (v2 : Int) (h : MH), LR h → KD hB h → GX0_seekSight_L16 u1 K0 f v2 h = some r → RK xs L iX0_seekSight (d + 2) 16 [(0, .inr (.inr 323)), (1, .inl u1), (2, .inl v2)] [] h (RVo r) h0 r := by
  intro f
  induction f with
  | zero =>
    intro v2 h hL hJ hF
    cases hF
  | succ f ih =>
    intro v2 h hL hJ hF
    unfold GX0_seekSight_L16 at hF
    have hK := hB0.tr hJ
    refine RK.of (RN.blk (ops := [(16, .iload_n 2), (17, .iload_n 1)]) (pc' := 18) (lv' := [(0, .inr (.inr 323)), (1, .inl u1), (2, .inl v2)]) (st' := [.inl u1, .inl v2]) (h' := h) (cs := []) (by decide +kernel) rfl trivial) ?_
    rcases it_of hF with ⟨hb, hF⟩ | ⟨hb, hF⟩
    · refine RK.of (RN.icf (cd := .ge) (off := 33) (tgt := 51) (by decide +kernel) (mif_gen hb)) ?_
      refine RK.of (RN.blk (ops := [(21, .aload_n 0), (22, .iload_n 2)]) (pc' := 23) (lv' := [(0, .inr (.inr 323)), (1, .inl u1), (2, .inl v2)]) (st' := [.inl v2, .inr (.inr 323)]) (h' := h) (cs := []) (by decide +kernel) rfl trivial) ?_
      obtain ⟨x2, h1, hG, hF⟩ := bd_of hF
      have hq := rcv_ok (as := [.inl v2]) (TO.gk (o_323 hL))
      obtain ⟨hN, hL, hQ⟩ := DX0_mostAlike (d := d) hL  hG
      refine RK.of (RN.cv (i := 128) (k := 10) (q2 := iX0_mostAlike) (as := [.inr (.inr 323), .inl v2]) (r := []) (v := some (.inl x2)) (h1 := h1) (by decide +kernel) rfl rfl rfl rfl rfl hq hN) ?_
      have hK := hK.tr hQ
      have hJ := hJ.tr hQ
      refine RK.of (RN.blk (ops := [(26, .istore_n 3), (27, .iload_n 3), (28, .aload_n 0), (29, .getfield 131)]) (pc' := 32) (lv' := [(3, .inl x2), (0, .inr (.inr 323)), (1, .inl u1), (2, .inl v2)]) (st' := [.inl (m_rd h1 323 7), .inl x2]) (h' := h1) (cs := [GK h1 323 0]) (by decide +kernel) rfl ⟨(o_323 hL).gk, trivial⟩) ?_
      rcases it_of hF with ⟨hb, hF⟩ | ⟨hb, hF⟩
      · refine RK.of (RN.icf (cd := .ge) (off := 13) (tgt := 45) (by decide +kernel) (mif_gen hb)) ?_
        refine RK.of (RN.blk (ops := [(35, .aload_n 0), (36, .iload_n 3), (37, .putfield 131)]) (pc' := 40) (lv' := [(3, .inl x2), (0, .inr (.inr 323)), (1, .inl u1), (2, .inl v2)]) (st' := []) (h' := (m_wr h1 323 7 x2)) (cs := [GK h1 323 0]) (by decide +kernel) rfl ⟨(o_323 hL).gk, trivial⟩) ?_
        have hL : LR (m_wr h1 323 7 x2) := LR.wf (k := 7) hL (o_323 hL) rfl
        have hK := hK.tr (KD.wr : KD h1 (m_wr h1 323 7 x2))
        have hJ := hJ.tr (KD.wr : KD h1 (m_wr h1 323 7 x2))
        refine RK.of (RN.blk (ops := [(40, .aload_n 0), (41, .iload_n 2), (42, .putfield 80)]) (pc' := 45) (lv' := [(3, .inl x2), (0, .inr (.inr 323)), (1, .inl u1), (2, .inl v2)]) (st' := []) (h' := (m_wr (m_wr h1 323 7 x2) 323 4 v2)) (cs := [GK (m_wr h1 323 7 x2) 323 0]) (by decide +kernel) rfl ⟨(o_323 hL).gk, trivial⟩) ?_
        have hL : LR (m_wr (m_wr h1 323 7 x2) 323 4 v2) := LR.wf (k := 4) hL (o_323 hL) rfl
        have hK := hK.tr (KD.wr : KD (m_wr h1 323 7 x2) (m_wr (m_wr h1 323 7 x2) 323 4 v2))
        have hJ := hJ.tr (KD.wr : KD (m_wr h1 323 7 x2) (m_wr (m_wr h1 323 7 x2) 323 4 v2))
        refine RK.of (RN.blk (ops := [(45, .iinc 2 1)]) (pc' := 48) (lv' := [(2, .inl (m_w32 (v2 + 1))), (3, .inl x2), (0, .inr (.inr 323)), (1, .inl u1)]) (st' := []) (h' := (m_wr (m_wr h1 323 7 x2) 323 4 v2)) (cs := []) (by decide +kernel) rfl trivial) ?_
        refine RK.of (RN.goto (off := -32) (tgt := 16) (by decide +kernel)) ?_
        exact RK.sub (ih _ _ hL hJ hF) (sub_cons rfl (sub_cons rfl (sub_cons rfl sub_nil)))
      · refine RK.of (RN.ict (cd := .ge) (off := 13) (tgt := 45) (by decide +kernel) (mif_ge hb)) ?_
        refine RK.of (RN.blk (ops := [(45, .iinc 2 1)]) (pc' := 48) (lv' := [(2, .inl (m_w32 (v2 + 1))), (3, .inl x2), (0, .inr (.inr 323)), (1, .inl u1)]) (st' := []) (h' := h1) (cs := []) (by decide +kernel) rfl trivial) ?_
        refine RK.of (RN.goto (off := -32) (tgt := 16) (by decide +kernel)) ?_
        exact RK.sub (ih _ _ hL hJ hF) (sub_cons rfl (sub_cons rfl (sub_cons rfl sub_nil)))
    · refine RK.of (RN.ict (cd := .ge) (off := 33) (tgt := 51) (by decide +kernel) (mif_ge hb)) ?_
      exact RK.sub (hK0 _ hL hJ hF) sub_nil
noncomputable def GX0_seekSight (a1 : Int) (h : MH) : Option (MH) :=
  (bd (GX0_mostAlike 0 (m_wr h 323 4 0)) (fun x2 h1 =>
   GX0_seekSight_L16 a1 (fun h3 =>
    some h3) FU 1 (m_wr h1 323 7 x2)))
theorem DX0_seekSight {d : Nat} {a1 : Int} {h : MH} {r : MH} (hL : LR h) (hF : GX0_seekSight a1 h = some r) : RN xs L iX0_seekSight (d + 2) 0 (lvE 0 [.inr (.inr 323), .inl a1]) [] h (RVo r) ∧ LR r ∧ KD h r := by
  unfold GX0_seekSight at hF
  have hK : KD h h := KD.rf
  show RK xs L iX0_seekSight (d + 2) 0 (lvE 0 [.inr (.inr 323), .inl a1]) [] h (RVo r) h r
  refine RK.of (RN.blk (ops := [(0, .aload_n 0), (1, .iconst 0), (2, .putfield 80)]) (pc' := 5) (lv' := [(0, .inr (.inr 323)), (1, .inl a1)]) (st' := []) (h' := (m_wr h 323 4 0)) (cs := [GK h 323 0]) (by decide +kernel) rfl ⟨(o_323 hL).gk, trivial⟩) ?_
  have hL : LR (m_wr h 323 4 0) := LR.wf (k := 4) hL (o_323 hL) rfl
  have hK := hK.tr (KD.wr : KD h (m_wr h 323 4 0))
  refine RK.of (RN.blk (ops := [(5, .aload_n 0), (6, .aload_n 0), (7, .iconst 0)]) (pc' := 8) (lv' := [(0, .inr (.inr 323)), (1, .inl a1)]) (st' := [.inl 0, .inr (.inr 323), .inr (.inr 323)]) (h' := (m_wr h 323 4 0)) (cs := []) (by decide +kernel) rfl trivial) ?_
  obtain ⟨x2, h1, hG, hF⟩ := bd_of hF
  have hq := rcv_ok (as := [.inl 0]) (TO.gk (o_323 hL))
  obtain ⟨hN, hL, hQ⟩ := DX0_mostAlike (d := d) hL  hG
  refine RK.of (RN.cv (i := 128) (k := 10) (q2 := iX0_mostAlike) (as := [.inr (.inr 323), .inl 0]) (r := [.inr (.inr 323)]) (v := some (.inl x2)) (h1 := h1) (by decide +kernel) rfl rfl rfl rfl rfl hq hN) ?_
  have hK := hK.tr hQ
  refine RK.of (RN.blk (ops := [(11, .putfield 131)]) (pc' := 14) (lv' := [(0, .inr (.inr 323)), (1, .inl a1)]) (st' := []) (h' := (m_wr h1 323 7 x2)) (cs := [GK h1 323 0]) (by decide +kernel) rfl ⟨(o_323 hL).gk, trivial⟩) ?_
  have hL : LR (m_wr h1 323 7 x2) := LR.wf (k := 7) hL (o_323 hL) rfl
  have hK := hK.tr (KD.wr : KD h1 (m_wr h1 323 7 x2))
  refine RK.of (RN.blk (ops := [(14, .iconst 1), (15, .istore_n 2)]) (pc' := 16) (lv' := [(2, .inl 1), (0, .inr (.inr 323)), (1, .inl a1)]) (st' := []) (h' := (m_wr h1 323 7 x2)) (cs := []) (by decide +kernel) rfl trivial) ?_
  refine RK.sub (DX0_seekSight_L16 hK ?_ _ _ _ hL KD.rf hF) (sub_cons rfl (sub_cons rfl (sub_cons rfl sub_nil)))
  · intro h3 hL hq hF
    have hK := hK.tr hq
    exact RK.vR (by decide +kernel) rfl hL hK hF
noncomputable def GX1_lay_L32 (u1 : Int) (u2 : Int) (u3 : Int) (K0 : MH → Option (MH)) : Nat → Int → MH → Option (MH)
  | 0, _, _ => none
  | f + 1, v4, h =>
    (if v4 < (m_w32 (u3 + u2)) then
     (if v4 < 256 then
      gd [IB v4 256] (
       GX1_lay_L32 u1 u2 u3 K0 f (m_w32 (v4 + 1)) (m_wr h 306 v4 u1))
     else
      K0 h)
    else
     K0 h)
theorem DX1_lay_L32 {d : Nat} {u1 : Int} {u2 : Int} {u3 : Int} {K0 : MH → Option (MH)} {r : MH} {h0 hB : MH} (hB0 : KD h0 hB) (hK0 : ∀ (h : MH), LR h → KD hB h → K0 h = some r → RK xs L iX1_lay (d + 1) 62 [] [] h (RVo r) h0 r) : ∀ (f : Nat) (v4 : Int) (h : MH), LR h → KD hB h → GX1_lay_L32 u1 u2 u3 K0 f v4 h = some r → RK xs L iX1_lay (d + 1) 32 [(0, .inr (.inr 298)), (1, .inl u1), (2, .inl u2), (3, .inl u3), (4, .inl v4)] [] h (RVo r) h0 r := by
  intro f
  induction f with
  | zero =>
    intro v4 h hL hJ hF
    cases hF
  | succ f ih =>
    intro v4 h hL hJ hF
    unfold GX1_lay_L32 at hF
    have hK := hB0.tr hJ
    refine RK.of (RN.blk (ops := [(32, .iload 4), (34, .iload_n 3), (35, .iload_n 2), (36, .iadd)]) (pc' := 37) (lv' := [(0, .inr (.inr 298)), (1, .inl u1), (2, .inl u2), (3, .inl u3), (4, .inl v4)]) (st' := [.inl (m_w32 (u3 + u2)), .inl v4]) (h' := h) (cs := []) (by decide +kernel) rfl trivial) ?_
    rcases it_of hF with ⟨hb, hF⟩ | ⟨hb, hF⟩
    · refine RK.of (RN.icf (cd := .ge) (off := 25) (tgt := 62) (by decide +kernel) (mif_gen hb)) ?_
      refine RK.of (RN.blk (ops := [(40, .iload 4), (42, .sipush 256)]) (pc' := 45) (lv' := [(0, .inr (.inr 298)), (1, .inl u1), (2, .inl u2), (3, .inl u3), (4, .inl v4)]) (st' := [.inl 256, .inl v4]) (h' := h) (cs := []) (by decide +kernel) rfl trivial) ?_
      rcases it_of hF with ⟨hb, hF⟩ | ⟨hb, hF⟩
      · refine RK.of (RN.icf (cd := .ge) (off := 17) (tgt := 62) (by decide +kernel) (mif_gen hb)) ?_
        refine RK.of (RN.blk (ops := [(48, .aload_n 0)]) (pc' := 49) (lv' := [(0, .inr (.inr 298)), (1, .inl u1), (2, .inl u2), (3, .inl u3), (4, .inl v4)]) (st' := [.inr (.inr 298)]) (h' := h) (cs := []) (by decide +kernel) rfl trivial) ?_
        refine RK.of (RN.gr (i := 25) (ci := 1) (k := 2) (fn := true) (v := 306) (by decide +kernel) rfl (TO.gk (o_298 hL)) (hL.fa (v := 306) 2 1 256 (o_298 hL) rfl (by decide) rfl (by decide)).1) ?_
        obtain ⟨hc, hF⟩ := gd_of hF
        refine RK.of (RN.blk (ops := [(52, .iload 4), (54, .iload_n 1), (55, .iastore)]) (pc' := 56) (lv' := [(0, .inr (.inr 298)), (1, .inl u1), (2, .inl u2), (3, .inl u3), (4, .inl v4)]) (st' := []) (h' := (m_wr h 306 v4 u1)) (cs := [GI h 306 1 v4]) (by decide +kernel) rfl ⟨(a_306 hL).gi hc.1.1 hc.1.2, trivial⟩) ?_
        have hL : LR (m_wr h 306 v4 u1) := hL.wa (TA.le5 (a_306 hL) (by decide))
        have hK := hK.tr (KD.wr : KD h (m_wr h 306 v4 u1))
        have hJ := hJ.tr (KD.wr : KD h (m_wr h 306 v4 u1))
        refine RK.of (RN.blk (ops := [(56, .iinc 4 1)]) (pc' := 59) (lv' := [(4, .inl (m_w32 (v4 + 1))), (0, .inr (.inr 298)), (1, .inl u1), (2, .inl u2), (3, .inl u3)]) (st' := []) (h' := (m_wr h 306 v4 u1)) (cs := []) (by decide +kernel) rfl trivial) ?_
        refine RK.of (RN.goto (off := -27) (tgt := 32) (by decide +kernel)) ?_
        exact RK.sub (ih _ _ hL hJ hF) (sub_cons rfl (sub_cons rfl (sub_cons rfl (sub_cons rfl (sub_cons rfl sub_nil)))))
      · refine RK.of (RN.ict (cd := .ge) (off := 17) (tgt := 62) (by decide +kernel) (mif_ge hb)) ?_
        exact RK.sub (hK0 _ hL hJ hF) sub_nil
    · refine RK.of (RN.ict (cd := .ge) (off := 25) (tgt := 62) (by decide +kernel) (mif_ge hb)) ?_
      exact RK.sub (hK0 _ hL hJ hF) sub_nil
noncomputable def GX1_lay (a1 : Int) (h : MH) : Option (MH) :=
  gd [TO h (m_rd h 298 1) 4] (
   gd [IB a1 12] (
    gd [TO h (m_rd h 298 0) 8] (bd (GX8_spanOf (m_rd h 298 0) (m_rd h ((m_rd h 298 1) + 1) a1) h) (fun x3 h2 =>
     gd [TO h2 (m_rd h2 298 1) 4] (
      gd [IB a1 12] (
       GX1_lay_L32 a1 x3 (m_w32 ((m_rd h2 ((m_rd h2 298 1) + 2) a1) * x3)) (fun h5 =>
        some h5) FU (m_w32 ((m_rd h2 ((m_rd h2 298 1) + 2) a1) * x3)) h2))))))
theorem DX1_lay {d : Nat} {a1 : Int} {h : MH} {r : MH} (hL : LR h) (hF : GX1_lay a1 h = some r) : RN xs L iX1_lay (d + 1) 0 (lvE 0 [.inr (.inr 298), .inl a1]) [] h (RVo r) ∧ LR r ∧ KD h r := by
  unfold GX1_lay at hF
  have hK : KD h h := KD.rf
  show RK xs L iX1_lay (d + 1) 0 (lvE 0 [.inr (.inr 298), .inl a1]) [] h (RVo r) h r
  refine RK.of (RN.blk (ops := [(0, .aload_n 0), (1, .getfield 12), (4, .aload_n 0), (5, .getfield 21)]) (pc' := 8) (lv' := [(0, .inr (.inr 298)), (1, .inl a1)]) (st' := [.inr (.inr (m_rd h 298 1)), .inr (.inr (m_rd h 298 0))]) (h' := h) (cs := [GK h 298 1, GK h 298 1]) (by decide +kernel) rfl ⟨(o_298 hL).gk, (o_298 hL).gk, trivial⟩) ?_
  obtain ⟨hc, hF⟩ := gd_of hF
  have k_d1 := hc.1
  refine RK.of (RN.gr (i := 48) (ci := 4) (k := 1) (fn := true) (v := ((m_rd h 298 1) + 1)) (by decide +kernel) rfl (TO.gk k_d1) (hL.fa (v := ((m_rd h 298 1) + 1)) 1 1 12 k_d1 rfl rfl rfl (by decide)).1) ?_
  obtain ⟨hc, hF⟩ := gd_of hF
  refine RK.of (RN.blk (ops := [(11, .iload_n 1), (12, .iaload)]) (pc' := 13) (lv' := [(0, .inr (.inr 298)), (1, .inl a1)]) (st' := [.inl (m_rd h ((m_rd h 298 1) + 1) a1), .inr (.inr (m_rd h 298 0))]) (h' := h) (cs := [GI h ((m_rd h 298 1) + 1) 1 a1]) (by decide +kernel) rfl ⟨(hL.fa 1 1 12 k_d1 rfl rfl rfl (by decide)).2.gi hc.1.1 hc.1.2, trivial⟩) ?_
  obtain ⟨hc, hF⟩ := gd_of hF
  obtain ⟨x3, h2, hG, hF⟩ := bd_of hF
  have hq := rcv_ok (as := [.inl (m_rd h ((m_rd h 298 1) + 1) a1)]) (TO.gk hc.1)
  obtain ⟨hN, hL, hQ⟩ := DX8_spanOf (d := d) hL hc.1 hG
  refine RK.of (RN.cv (i := 54) (k := 85) (q2 := iX8_spanOf) (as := [.inr (.inr (m_rd h 298 0)), .inl (m_rd h ((m_rd h 298 1) + 1) a1)]) (r := []) (v := some (.inl x3)) (h1 := h2) (by decide +kernel) rfl rfl rfl rfl rfl hq hN) ?_
  have k_d1 := hQ.to k_d1
  have hK := hK.tr hQ
  refine RK.of (RN.blk (ops := [(16, .istore_n 2), (17, .aload_n 0), (18, .getfield 21)]) (pc' := 21) (lv' := [(2, .inl x3), (0, .inr (.inr 298)), (1, .inl a1)]) (st' := [.inr (.inr (m_rd h2 298 1))]) (h' := h2) (cs := [GK h2 298 1]) (by decide +kernel) rfl ⟨(o_298 hL).gk, trivial⟩) ?_
  obtain ⟨hc, hF⟩ := gd_of hF
  have k_d4 := hc.1
  refine RK.of (RN.gr (i := 58) (ci := 4) (k := 2) (fn := true) (v := ((m_rd h2 298 1) + 2)) (by decide +kernel) rfl (TO.gk k_d4) (hL.fa (v := ((m_rd h2 298 1) + 2)) 2 1 12 k_d4 rfl rfl rfl (by decide)).1) ?_
  obtain ⟨hc, hF⟩ := gd_of hF
  refine RK.of (RN.blk (ops := [(24, .iload_n 1), (25, .iaload), (26, .iload_n 2), (27, .imul), (28, .istore_n 3), (29, .iload_n 3), (30, .istore 4)]) (pc' := 32) (lv' := [(4, .inl (m_w32 ((m_rd h2 ((m_rd h2 298 1) + 2) a1) * x3))), (3, .inl (m_w32 ((m_rd h2 ((m_rd h2 298 1) + 2) a1) * x3))), (2, .inl x3), (0, .inr (.inr 298)), (1, .inl a1)]) (st' := []) (h' := h2) (cs := [GI h2 ((m_rd h2 298 1) + 2) 1 a1]) (by decide +kernel) rfl ⟨(hL.fa 2 1 12 k_d4 rfl rfl rfl (by decide)).2.gi hc.1.1 hc.1.2, trivial⟩) ?_
  refine RK.sub (DX1_lay_L32 hK ?_ _ _ _ hL KD.rf hF) (sub_cons rfl (sub_cons rfl (sub_cons rfl (sub_cons rfl (sub_cons rfl sub_nil)))))
  · intro h5 hL hq hF
    have k_d1 := hq.to k_d1
    have k_d4 := hq.to k_d4
    have hK := hK.tr hq
    exact RK.vR (by decide +kernel) rfl hL hK hF
noncomputable def GX1_draw_L12 (K0 : MH → Option (MH)) : Nat → Int → MH → Option (MH)
  | 0, _, _ => none
  | f + 1, v3, h =>
    gd [TO h (m_rd h 298 0) 8] (
     (if v3 < (m_rd h (m_rd h 298 0) 3) then
      (if v3 < 256 then
       gd [IB v3 256] (
        GX1_draw_L12 K0 f (m_w32 (v3 + 1)) (m_wr h 306 v3 (-1)))
      else
       K0 h)
     else
      K0 h))
theorem DX1_draw_L12 {d : Nat} {K0 : MH → Option (MH)} {r : MH} {h0 hB : MH} (hB0 : KD h0 hB) (hK0 : ∀ (h : MH), LR h → KD hB h → K0 h = some r → RK xs L iX1_draw (d + 2) 43 [(0, .inr (.inr 298))] [] h (RVo r) h0 r) : ∀ (f : Nat) (v3 : Int) (h : MH), LR h → KD hB h → GX1_draw_L12 K0 f v3 h = some r → RK xs L iX1_draw (d + 2) 12 [(0, .inr (.inr 298)), (3, .inl v3)] [] h (RVo r) h0 r := by
  intro f
  induction f with
  | zero =>
    intro v3 h hL hJ hF
    cases hF
  | succ f ih =>
    intro v3 h hL hJ hF
    unfold GX1_draw_L12 at hF
    have hK := hB0.tr hJ
    obtain ⟨hc, hF⟩ := gd_of hF
    refine RK.of (RN.blk (ops := [(12, .iload_n 3), (13, .aload_n 0), (14, .getfield 12), (17, .getfield 38)]) (pc' := 20) (lv' := [(0, .inr (.inr 298)), (3, .inl v3)]) (st' := [.inl (m_rd h (m_rd h 298 0) 3), .inl v3]) (h' := h) (cs := [GK h 298 1, GK h (m_rd h 298 0) 8]) (by decide +kernel) rfl ⟨(o_298 hL).gk, (TO.gk hc.1), trivial⟩) ?_
    rcases it_of hF with ⟨hb, hF⟩ | ⟨hb, hF⟩
    · refine RK.of (RN.icf (cd := .ge) (off := 23) (tgt := 43) (by decide +kernel) (mif_gen hb)) ?_
      refine RK.of (RN.blk (ops := [(23, .iload_n 3), (24, .sipush 256)]) (pc' := 27) (lv' := [(0, .inr (.inr 298)), (3, .inl v3)]) (st' := [.inl 256, .inl v3]) (h' := h) (cs := []) (by decide +kernel) rfl trivial) ?_
      rcases it_of hF with ⟨hb, hF⟩ | ⟨hb, hF⟩
      · refine RK.of (RN.icf (cd := .ge) (off := 16) (tgt := 43) (by decide +kernel) (mif_gen hb)) ?_
        refine RK.of (RN.blk (ops := [(30, .aload_n 0)]) (pc' := 31) (lv' := [(0, .inr (.inr 298)), (3, .inl v3)]) (st' := [.inr (.inr 298)]) (h' := h) (cs := []) (by decide +kernel) rfl trivial) ?_
        refine RK.of (RN.gr (i := 25) (ci := 1) (k := 2) (fn := true) (v := 306) (by decide +kernel) rfl (TO.gk (o_298 hL)) (hL.fa (v := 306) 2 1 256 (o_298 hL) rfl (by decide) rfl (by decide)).1) ?_
        obtain ⟨hc, hF⟩ := gd_of hF
        refine RK.of (RN.blk (ops := [(34, .iload_n 3), (35, .iconst (-1)), (36, .iastore)]) (pc' := 37) (lv' := [(0, .inr (.inr 298)), (3, .inl v3)]) (st' := []) (h' := (m_wr h 306 v3 (-1))) (cs := [GI h 306 1 v3]) (by decide +kernel) rfl ⟨(a_306 hL).gi hc.1.1 hc.1.2, trivial⟩) ?_
        have hL : LR (m_wr h 306 v3 (-1)) := hL.wa (TA.le5 (a_306 hL) (by decide))
        have hK := hK.tr (KD.wr : KD h (m_wr h 306 v3 (-1)))
        have hJ := hJ.tr (KD.wr : KD h (m_wr h 306 v3 (-1)))
        refine RK.of (RN.blk (ops := [(37, .iinc 3 1)]) (pc' := 40) (lv' := [(3, .inl (m_w32 (v3 + 1))), (0, .inr (.inr 298))]) (st' := []) (h' := (m_wr h 306 v3 (-1))) (cs := []) (by decide +kernel) rfl trivial) ?_
        refine RK.of (RN.goto (off := -28) (tgt := 12) (by decide +kernel)) ?_
        exact RK.sub (ih _ _ hL hJ hF) (sub_cons rfl (sub_cons rfl sub_nil))
      · refine RK.of (RN.ict (cd := .ge) (off := 16) (tgt := 43) (by decide +kernel) (mif_ge hb)) ?_
        exact RK.sub (hK0 _ hL hJ hF) (sub_cons rfl sub_nil)
    · refine RK.of (RN.ict (cd := .ge) (off := 23) (tgt := 43) (by decide +kernel) (mif_ge hb)) ?_
      exact RK.sub (hK0 _ hL hJ hF) (sub_cons rfl sub_nil)
noncomputable def GX1_draw_L59 (u3 : Int) (K0 : MH → Option (MH)) : Nat → Int → MH → Option (MH)
  | 0, _, _ => none
  | f + 1, v4, h =>
    gd [TO h (m_rd h 298 1) 4] (
     (if v4 < (m_rd h (m_rd h 298 1) 0) then
      gd [TO h (m_rd h 298 1) 4] (
       gd [IB v4 12] (
        (if (m_rd h ((m_rd h 298 1) + 1) v4) = u3 then
         (bv (GX1_lay v4 h) (fun h2 =>
          GX1_draw_L59 u3 K0 f (m_w32 (v4 + 1)) h2))
        else
         GX1_draw_L59 u3 K0 f (m_w32 (v4 + 1)) h)))
     else
      K0 h))
theorem DX1_draw_L59 {d : Nat} {u3 : Int} {K0 : MH → Option (MH)} {r : MH} {h0 hB : MH} (hB0 : KD h0 hB) (hK0 : ∀ (h : MH), LR h → KD hB h → K0 h = some r → RK xs L iX1_draw (d + 2) 97 [(0, .inr (.inr 298)), (3, .inl u3)] [] h (RVo r) h0 r) : ∀ (f : Nat) (v4 : Int) (h : MH), LR h → KD hB h → GX1_draw_L59 u3 K0 f v4 h = some r → RK xs L iX1_draw (d + 2) 59 [(0, .inr (.inr 298)), (3, .inl u3), (4, .inl v4)] [] h (RVo r) h0 r := by
  intro f
  induction f with
  | zero =>
    intro v4 h hL hJ hF
    cases hF
  | succ f ih =>
    intro v4 h hL hJ hF
    unfold GX1_draw_L59 at hF
    have hK := hB0.tr hJ
    obtain ⟨hc, hF⟩ := gd_of hF
    refine RK.of (RN.blk (ops := [(59, .iload 4), (61, .aload_n 0), (62, .getfield 21), (65, .getfield 45)]) (pc' := 68) (lv' := [(0, .inr (.inr 298)), (3, .inl u3), (4, .inl v4)]) (st' := [.inl (m_rd h (m_rd h 298 1) 0), .inl v4]) (h' := h) (cs := [GK h 298 1, GK h (m_rd h 298 1) 4]) (by decide +kernel) rfl ⟨(o_298 hL).gk, (TO.gk hc.1), trivial⟩) ?_
    rcases it_of hF with ⟨hb, hF⟩ | ⟨hb, hF⟩
    · refine RK.of (RN.icf (cd := .ge) (off := 29) (tgt := 97) (by decide +kernel) (mif_gen hb)) ?_
      refine RK.of (RN.blk (ops := [(71, .aload_n 0), (72, .getfield 21)]) (pc' := 75) (lv' := [(0, .inr (.inr 298)), (3, .inl u3), (4, .inl v4)]) (st' := [.inr (.inr (m_rd h 298 1))]) (h' := h) (cs := [GK h 298 1]) (by decide +kernel) rfl ⟨(o_298 hL).gk, trivial⟩) ?_
      obtain ⟨hc, hF⟩ := gd_of hF
      have k_d1 := hc.1
      refine RK.of (RN.gr (i := 48) (ci := 4) (k := 1) (fn := true) (v := ((m_rd h 298 1) + 1)) (by decide +kernel) rfl (TO.gk k_d1) (hL.fa (v := ((m_rd h 298 1) + 1)) 1 1 12 k_d1 rfl rfl rfl (by decide)).1) ?_
      obtain ⟨hc, hF⟩ := gd_of hF
      refine RK.of (RN.blk (ops := [(78, .iload 4), (80, .iaload), (81, .iload_n 3)]) (pc' := 82) (lv' := [(0, .inr (.inr 298)), (3, .inl u3), (4, .inl v4)]) (st' := [.inl u3, .inl (m_rd h ((m_rd h 298 1) + 1) v4)]) (h' := h) (cs := [GI h ((m_rd h 298 1) + 1) 1 v4]) (by decide +kernel) rfl ⟨(hL.fa 1 1 12 k_d1 rfl rfl rfl (by decide)).2.gi hc.1.1 hc.1.2, trivial⟩) ?_
      rcases it_of hF with ⟨hb, hF⟩ | ⟨hb, hF⟩
      · refine RK.of (RN.icf (cd := .ne) (off := 9) (tgt := 91) (by decide +kernel) (mif_nen hb)) ?_
        refine RK.of (RN.blk (ops := [(85, .aload_n 0), (86, .iload 4)]) (pc' := 88) (lv' := [(0, .inr (.inr 298)), (3, .inl u3), (4, .inl v4)]) (st' := [.inl v4, .inr (.inr 298)]) (h' := h) (cs := []) (by decide +kernel) rfl trivial) ?_
        obtain ⟨h2, hG, hF⟩ := bv_of hF
        have hq := rcv_ok (as := [.inl v4]) (TO.gk (o_298 hL))
        obtain ⟨hN, hL, hQ⟩ := DX1_lay (d := d) hL  hG
        refine RK.of (RN.cv (i := 50) (k := 13) (q2 := iX1_lay) (as := [.inr (.inr 298), .inl v4]) (r := []) (v := none) (h1 := h2) (by decide +kernel) rfl rfl rfl rfl rfl hq hN) ?_
        have k_d1 := hQ.to k_d1
        have hK := hK.tr hQ
        have hJ := hJ.tr hQ
        refine RK.of (RN.blk (ops := [(91, .iinc 4 1)]) (pc' := 94) (lv' := [(4, .inl (m_w32 (v4 + 1))), (0, .inr (.inr 298)), (3, .inl u3)]) (st' := []) (h' := h2) (cs := []) (by decide +kernel) rfl trivial) ?_
        refine RK.of (RN.goto (off := -35) (tgt := 59) (by decide +kernel)) ?_
        exact RK.sub (ih _ _ hL hJ hF) (sub_cons rfl (sub_cons rfl (sub_cons rfl sub_nil)))
      · refine RK.of (RN.ict (cd := .ne) (off := 9) (tgt := 91) (by decide +kernel) (mif_ne hb)) ?_
        refine RK.of (RN.blk (ops := [(91, .iinc 4 1)]) (pc' := 94) (lv' := [(4, .inl (m_w32 (v4 + 1))), (0, .inr (.inr 298)), (3, .inl u3)]) (st' := []) (h' := h) (cs := []) (by decide +kernel) rfl trivial) ?_
        refine RK.of (RN.goto (off := -35) (tgt := 59) (by decide +kernel)) ?_
        exact RK.sub (ih _ _ hL hJ hF) (sub_cons rfl (sub_cons rfl (sub_cons rfl sub_nil)))
    · refine RK.of (RN.ict (cd := .ge) (off := 29) (tgt := 97) (by decide +kernel) (mif_ge hb)) ?_
      exact RK.sub (hK0 _ hL hJ hF) (sub_cons rfl (sub_cons rfl sub_nil))
noncomputable def GX1_draw_L45 (K0 : MH → Option (MH)) : Nat → Int → MH → Option (MH)
  | 0, _, _ => none
  | f + 1, v3, h =>
    gd [TO h (m_rd h 298 0) 8] (
     (if (m_rd h (m_rd h 298 0) 1) < v3 then
      K0 h
     else
      GX1_draw_L59 v3 (fun h1 =>
       GX1_draw_L45 K0 f (m_w32 (v3 + 1)) h1) FU 0 h))
theorem DX1_draw_L45 {d : Nat} {K0 : MH → Option (MH)} {r : MH} {h0 hB : MH} (hB0 : KD h0 hB) (hK0 : ∀ (h : MH), LR h → KD hB h → K0 h = some r → RK xs L iX1_draw (d + 2) 103 [] [] h (RVo r) h0 r) : ∀ (f : Nat) (v3 : Int) (h : MH), LR h → KD hB h → GX1_draw_L45 K0 f v3 h = some r → RK xs L iX1_draw (d + 2) 45 [(0, .inr (.inr 298)), (3, .inl v3)] [] h (RVo r) h0 r := by
  intro f
  induction f with
  | zero =>
    intro v3 h hL hJ hF
    cases hF
  | succ f ih =>
    intro v3 h hL hJ hF
    unfold GX1_draw_L45 at hF
    have hK := hB0.tr hJ
    obtain ⟨hc, hF⟩ := gd_of hF
    refine RK.of (RN.blk (ops := [(45, .iload_n 3), (46, .aload_n 0), (47, .getfield 12), (50, .getfield 42)]) (pc' := 53) (lv' := [(0, .inr (.inr 298)), (3, .inl v3)]) (st' := [.inl (m_rd h (m_rd h 298 0) 1), .inl v3]) (h' := h) (cs := [GK h 298 1, GK h (m_rd h 298 0) 8]) (by decide +kernel) rfl ⟨(o_298 hL).gk, (TO.gk hc.1), trivial⟩) ?_
    rcases it_of hF with ⟨hb, hF⟩ | ⟨hb, hF⟩
    · refine RK.of (RN.ict (cd := .gt) (off := 50) (tgt := 103) (by decide +kernel) (mif_gt hb)) ?_
      exact RK.sub (hK0 _ hL hJ hF) sub_nil
    · refine RK.of (RN.icf (cd := .gt) (off := 50) (tgt := 103) (by decide +kernel) (mif_gtn hb)) ?_
      refine RK.of (RN.blk (ops := [(56, .iconst 0), (57, .istore 4)]) (pc' := 59) (lv' := [(4, .inl 0), (0, .inr (.inr 298)), (3, .inl v3)]) (st' := []) (h' := h) (cs := []) (by decide +kernel) rfl trivial) ?_
      refine RK.sub (DX1_draw_L59 hK ?_ _ _ _ hL KD.rf hF) (sub_cons rfl (sub_cons rfl (sub_cons rfl sub_nil)))
      · intro h1 hL hq hF
        have hK := hK.tr hq
        have hJ := hJ.tr hq
        refine RK.of (RN.blk (ops := [(97, .iinc 3 1)]) (pc' := 100) (lv' := [(3, .inl (m_w32 (v3 + 1))), (0, .inr (.inr 298))]) (st' := []) (h' := h1) (cs := []) (by decide +kernel) rfl trivial) ?_
        refine RK.of (RN.goto (off := -55) (tgt := 45) (by decide +kernel)) ?_
        exact RK.sub (ih _ _ hL hJ hF) (sub_cons rfl (sub_cons rfl sub_nil))
noncomputable def GX1_draw (a1 : Int) (a2 : Int) (h : MH) : Option (MH) :=
  GX1_draw_L12 (fun h1 =>
   GX1_draw_L45 (fun h2 =>
    some h2) FU 0 h1) FU 0 (m_wr (m_wr h 298 0 a1) 298 1 a2)
theorem DX1_draw {d : Nat} {a1 : Int} {a2 : Int} {h : MH} {r : MH} (hL : LR h) (k0_a1 : TO h a1 8) (k0_a2 : TO h a2 4) (hF : GX1_draw a1 a2 h = some r) : RN xs L iX1_draw (d + 2) 0 (lvE 0 [.inr (.inr 298), .inr (.inr a1), .inr (.inr a2)]) [] h (RVo r) ∧ LR r ∧ KD h r := by
  unfold GX1_draw at hF
  have hK : KD h h := KD.rf
  have k_a1 := k0_a1
  have k_a2 := k0_a2
  show RK xs L iX1_draw (d + 2) 0 (lvE 0 [.inr (.inr 298), .inr (.inr a1), .inr (.inr a2)]) [] h (RVo r) h r
  refine RK.of (RN.blk (ops := [(0, .aload_n 0), (1, .aload_n 1), (2, .putfield 12)]) (pc' := 5) (lv' := [(0, .inr (.inr 298)), (1, .inr (.inr a1)), (2, .inr (.inr a2))]) (st' := []) (h' := (m_wr h 298 0 a1)) (cs := [GK h 298 1]) (by decide +kernel) rfl ⟨(o_298 hL).gk, trivial⟩) ?_
  have hL : LR (m_wr h 298 0 a1) := LR.wf (k := 0) hL (o_298 hL) rfl
  have k_a1 := (KD.wr : KD h (m_wr h 298 0 a1)).to k_a1
  have k_a2 := (KD.wr : KD h (m_wr h 298 0 a1)).to k_a2
  have hK := hK.tr (KD.wr : KD h (m_wr h 298 0 a1))
  refine RK.of (RN.blk (ops := [(5, .aload_n 0), (6, .aload_n 2), (7, .putfield 21)]) (pc' := 10) (lv' := [(0, .inr (.inr 298)), (1, .inr (.inr a1)), (2, .inr (.inr a2))]) (st' := []) (h' := (m_wr (m_wr h 298 0 a1) 298 1 a2)) (cs := [GK (m_wr h 298 0 a1) 298 1]) (by decide +kernel) rfl ⟨(o_298 hL).gk, trivial⟩) ?_
  have hL : LR (m_wr (m_wr h 298 0 a1) 298 1 a2) := LR.wf (k := 1) hL (o_298 hL) rfl
  have k_a1 := (KD.wr : KD (m_wr h 298 0 a1) (m_wr (m_wr h 298 0 a1) 298 1 a2)).to k_a1
  have k_a2 := (KD.wr : KD (m_wr h 298 0 a1) (m_wr (m_wr h 298 0 a1) 298 1 a2)).to k_a2
  have hK := hK.tr (KD.wr : KD (m_wr h 298 0 a1) (m_wr (m_wr h 298 0 a1) 298 1 a2))
  refine RK.of (RN.blk (ops := [(10, .iconst 0), (11, .istore_n 3)]) (pc' := 12) (lv' := [(3, .inl 0), (0, .inr (.inr 298)), (1, .inr (.inr a1)), (2, .inr (.inr a2))]) (st' := []) (h' := (m_wr (m_wr h 298 0 a1) 298 1 a2)) (cs := []) (by decide +kernel) rfl trivial) ?_
  refine RK.sub (DX1_draw_L12 hK ?_ _ _ _ hL KD.rf hF) (sub_cons rfl (sub_cons rfl sub_nil))
  · intro h1 hL hq hF
    have k_a1 := hq.to k_a1
    have k_a2 := hq.to k_a2
    have hK := hK.tr hq
    refine RK.of (RN.blk (ops := [(43, .iconst 0), (44, .istore_n 3)]) (pc' := 45) (lv' := [(3, .inl 0), (0, .inr (.inr 298))]) (st' := []) (h' := h1) (cs := []) (by decide +kernel) rfl trivial) ?_
    refine RK.sub (DX1_draw_L45 hK ?_ _ _ _ hL KD.rf hF) (sub_cons rfl (sub_cons rfl sub_nil))
    · intro h2 hL hq hF
      have k_a1 := hq.to k_a1
      have k_a2 := hq.to k_a2
      have hK := hK.tr hq
      exact RK.vR (by decide +kernel) rfl hL hK hF
noncomputable def GX1_howManyTo_L4 (u1 : Int) (K0 : Int → MH → Option (Int × MH)) : Nat → Int → Int → MH → Option (Int × MH)
  | 0, _, _, _ => none
  | f + 1, v2, v3, h =>
    gd [TO h (m_rd h 298 0) 8] (
     (if v3 < (m_rd h (m_rd h 298 0) 3) then
      (bd (GX1_holeFor v3 h) (fun x2 h1 =>
       (if x2 = u1 then
        GX1_howManyTo_L4 u1 K0 f (m_w32 (v2 + 1)) (m_w32 (v3 + 1)) h1
       else
        GX1_howManyTo_L4 u1 K0 f v2 (m_w32 (v3 + 1)) h1)))
     else
      K0 v2 h))
theorem DX1_howManyTo_L4 {d : Nat} {u1 : Int} {K0 : Int → MH → Option (Int × MH)} {r : Int × MH} {h0 hB : MH} (hB0 : KD h0 hB) (hK0 : ∀ (w2 : Int) (h : MH), LR h → KD hB h → K0 w2 h = some r → RK xs L iX1_howManyTo (d + 3) 33 [(2, .inl w2)] [] h (RIo r) h0 r.2) : ∀ (f : Nat) (v2 : Int) (v3 : Int) (h : MH), LR h → KD hB h → GX1_howManyTo_L4 u1 K0 f v2 v3 h = some r → RK xs L iX1_howManyTo (d + 3) 4 [(0, .inr (.inr 298)), (1, .inl u1), (2, .inl v2), (3, .inl v3)] [] h (RIo r) h0 r.2 := by
  intro f
  induction f with
  | zero =>
    intro v2 v3 h hL hJ hF
    cases hF
  | succ f ih =>
    intro v2 v3 h hL hJ hF
    unfold GX1_howManyTo_L4 at hF
    have hK := hB0.tr hJ
    obtain ⟨hc, hF⟩ := gd_of hF
    refine RK.of (RN.blk (ops := [(4, .iload_n 3), (5, .aload_n 0), (6, .getfield 12), (9, .getfield 38)]) (pc' := 12) (lv' := [(0, .inr (.inr 298)), (1, .inl u1), (2, .inl v2), (3, .inl v3)]) (st' := [.inl (m_rd h (m_rd h 298 0) 3), .inl v3]) (h' := h) (cs := [GK h 298 1, GK h (m_rd h 298 0) 8]) (by decide +kernel) rfl ⟨(o_298 hL).gk, (TO.gk hc.1), trivial⟩) ?_
    rcases it_of hF with ⟨hb, hF⟩ | ⟨hb, hF⟩
    · refine RK.of (RN.icf (cd := .ge) (off := 21) (tgt := 33) (by decide +kernel) (mif_gen hb)) ?_
      refine RK.of (RN.blk (ops := [(15, .aload_n 0), (16, .iload_n 3)]) (pc' := 17) (lv' := [(0, .inr (.inr 298)), (1, .inl u1), (2, .inl v2), (3, .inl v3)]) (st' := [.inl v3, .inr (.inr 298)]) (h' := h) (cs := []) (by decide +kernel) rfl trivial) ?_
      obtain ⟨x2, h1, hG, hF⟩ := bd_of hF
      have hq := rcv_ok (as := [.inl v3]) (TO.gk (o_298 hL))
      obtain ⟨hN, hL, hQ⟩ := DX1_holeFor (d := d) hL  hG
      refine RK.of (RN.cv (i := 74) (k := 15) (q2 := iX1_holeFor) (as := [.inr (.inr 298), .inl v3]) (r := []) (v := some (.inl x2)) (h1 := h1) (by decide +kernel) rfl rfl rfl rfl rfl hq hN) ?_
      have hK := hK.tr hQ
      have hJ := hJ.tr hQ
      refine RK.of (RN.blk (ops := [(20, .iload_n 1)]) (pc' := 21) (lv' := [(0, .inr (.inr 298)), (1, .inl u1), (2, .inl v2), (3, .inl v3)]) (st' := [.inl u1, .inl x2]) (h' := h1) (cs := []) (by decide +kernel) rfl trivial) ?_
      rcases it_of hF with ⟨hb, hF⟩ | ⟨hb, hF⟩
      · refine RK.of (RN.icf (cd := .ne) (off := 6) (tgt := 27) (by decide +kernel) (mif_nen hb)) ?_
        refine RK.of (RN.blk (ops := [(24, .iinc 2 1)]) (pc' := 27) (lv' := [(2, .inl (m_w32 (v2 + 1))), (0, .inr (.inr 298)), (1, .inl u1), (3, .inl v3)]) (st' := []) (h' := h1) (cs := []) (by decide +kernel) rfl trivial) ?_
        refine RK.of (RN.blk (ops := [(27, .iinc 3 1)]) (pc' := 30) (lv' := [(3, .inl (m_w32 (v3 + 1))), (2, .inl (m_w32 (v2 + 1))), (0, .inr (.inr 298)), (1, .inl u1)]) (st' := []) (h' := h1) (cs := []) (by decide +kernel) rfl trivial) ?_
        refine RK.of (RN.goto (off := -26) (tgt := 4) (by decide +kernel)) ?_
        exact RK.sub (ih _ _ _ hL hJ hF) (sub_cons rfl (sub_cons rfl (sub_cons rfl (sub_cons rfl sub_nil))))
      · refine RK.of (RN.ict (cd := .ne) (off := 6) (tgt := 27) (by decide +kernel) (mif_ne hb)) ?_
        refine RK.of (RN.blk (ops := [(27, .iinc 3 1)]) (pc' := 30) (lv' := [(3, .inl (m_w32 (v3 + 1))), (0, .inr (.inr 298)), (1, .inl u1), (2, .inl v2)]) (st' := []) (h' := h1) (cs := []) (by decide +kernel) rfl trivial) ?_
        refine RK.of (RN.goto (off := -26) (tgt := 4) (by decide +kernel)) ?_
        exact RK.sub (ih _ _ _ hL hJ hF) (sub_cons rfl (sub_cons rfl (sub_cons rfl (sub_cons rfl sub_nil))))
    · refine RK.of (RN.ict (cd := .ge) (off := 21) (tgt := 33) (by decide +kernel) (mif_ge hb)) ?_
      exact RK.sub (hK0 _ _ hL hJ hF) (sub_cons rfl sub_nil)
noncomputable def GX1_howManyTo (a1 : Int) (h : MH) : Option (Int × MH) :=
  GX1_howManyTo_L4 a1 (fun w1 h2 =>
   some (w1, h2)) FU 0 0 h
theorem DX1_howManyTo {d : Nat} {a1 : Int} {h : MH} {r : Int × MH} (hL : LR h) (hF : GX1_howManyTo a1 h = some r) : RN xs L iX1_howManyTo (d + 3) 0 (lvE 0 [.inr (.inr 298), .inl a1]) [] h (RIo r) ∧ LR r.2 ∧ KD h r.2 := by
  unfold GX1_howManyTo at hF
  have hK : KD h h := KD.rf
  show RK xs L iX1_howManyTo (d + 3) 0 (lvE 0 [.inr (.inr 298), .inl a1]) [] h (RIo r) h r.2
  refine RK.of (RN.blk (ops := [(0, .iconst 0), (1, .istore_n 2), (2, .iconst 0), (3, .istore_n 3)]) (pc' := 4) (lv' := [(3, .inl 0), (2, .inl 0), (0, .inr (.inr 298)), (1, .inl a1)]) (st' := []) (h' := h) (cs := []) (by decide +kernel) rfl trivial) ?_
  refine RK.sub (DX1_howManyTo_L4 hK ?_ _ _ _ _ hL KD.rf hF) (sub_cons rfl (sub_cons rfl (sub_cons rfl (sub_cons rfl sub_nil))))
  · intro w1 h2 hL hq hF
    have hK := hK.tr hq
    refine RK.of (RN.blk (ops := [(33, .iload_n 2)]) (pc' := 34) (lv' := [(2, .inl w1)]) (st' := [.inl w1]) (h' := h2) (cs := []) (by decide +kernel) rfl trivial) ?_
    exact RK.iR (by decide +kernel) rfl hL hK hF
noncomputable def GX1_leastTo_L2 (u1 : Int) (K0 : Int → MH → Option (Int × MH)) (K1 : MH → Option (Int × MH)) : Nat → Int → MH → Option (Int × MH)
  | 0, _, _ => none
  | f + 1, v2, h =>
    gd [TO h (m_rd h 298 0) 8] (
     (if v2 < (m_rd h (m_rd h 298 0) 3) then
      (bd (GX1_holeFor v2 h) (fun x2 h1 =>
       (if x2 = u1 then
        K0 v2 h1
       else
        GX1_leastTo_L2 u1 K0 K1 f (m_w32 (v2 + 1)) h1)))
     else
      K1 h))
theorem DX1_leastTo_L2 {d : Nat} {u1 : Int} {K0 : Int → MH → Option (Int × MH)} {K1 : MH → Option (Int × MH)} {r : Int × MH} {h0 hB : MH} (hB0 : KD h0 hB) (hK0 : ∀ (w2 : Int) (h : MH), LR h → KD hB h → K0 w2 h = some r → RK xs L iX1_leastTo (d + 3) 22 [(2, .inl w2)] [] h (RIo r) h0 r.2) (hK1 : ∀ (h : MH), LR h → KD hB h → K1 h = some r → RK xs L iX1_leastTo (d + 3) 30 [] [] h (RIo r) h0 r.2) : ∀ (f : Nat) (v2 : Int) (h : MH), LR h → KD hB h → GX1_leastTo_L2 u1 K0 K1 f v2 h = some r → RK xs L iX1_leastTo (d + 3) 2 [(0, .inr (.inr 298)), (1, .inl u1), (2, .inl v2)] [] h (RIo r) h0 r.2 := by
  intro f
  induction f with
  | zero =>
    intro v2 h hL hJ hF
    cases hF
  | succ f ih =>
    intro v2 h hL hJ hF
    unfold GX1_leastTo_L2 at hF
    have hK := hB0.tr hJ
    obtain ⟨hc, hF⟩ := gd_of hF
    refine RK.of (RN.blk (ops := [(2, .iload_n 2), (3, .aload_n 0), (4, .getfield 12), (7, .getfield 38)]) (pc' := 10) (lv' := [(0, .inr (.inr 298)), (1, .inl u1), (2, .inl v2)]) (st' := [.inl (m_rd h (m_rd h 298 0) 3), .inl v2]) (h' := h) (cs := [GK h 298 1, GK h (m_rd h 298 0) 8]) (by decide +kernel) rfl ⟨(o_298 hL).gk, (TO.gk hc.1), trivial⟩) ?_
    rcases it_of hF with ⟨hb, hF⟩ | ⟨hb, hF⟩
    · refine RK.of (RN.icf (cd := .ge) (off := 20) (tgt := 30) (by decide +kernel) (mif_gen hb)) ?_
      refine RK.of (RN.blk (ops := [(13, .aload_n 0), (14, .iload_n 2)]) (pc' := 15) (lv' := [(0, .inr (.inr 298)), (1, .inl u1), (2, .inl v2)]) (st' := [.inl v2, .inr (.inr 298)]) (h' := h) (cs := []) (by decide +kernel) rfl trivial) ?_
      obtain ⟨x2, h1, hG, hF⟩ := bd_of hF
      have hq := rcv_ok (as := [.inl v2]) (TO.gk (o_298 hL))
      obtain ⟨hN, hL, hQ⟩ := DX1_holeFor (d := d) hL  hG
      refine RK.of (RN.cv (i := 74) (k := 15) (q2 := iX1_holeFor) (as := [.inr (.inr 298), .inl v2]) (r := []) (v := some (.inl x2)) (h1 := h1) (by decide +kernel) rfl rfl rfl rfl rfl hq hN) ?_
      have hK := hK.tr hQ
      have hJ := hJ.tr hQ
      refine RK.of (RN.blk (ops := [(18, .iload_n 1)]) (pc' := 19) (lv' := [(0, .inr (.inr 298)), (1, .inl u1), (2, .inl v2)]) (st' := [.inl u1, .inl x2]) (h' := h1) (cs := []) (by decide +kernel) rfl trivial) ?_
      rcases it_of hF with ⟨hb, hF⟩ | ⟨hb, hF⟩
      · refine RK.of (RN.icf (cd := .ne) (off := 5) (tgt := 24) (by decide +kernel) (mif_nen hb)) ?_
        exact RK.sub (hK0 _ _ hL hJ hF) (sub_cons rfl sub_nil)
      · refine RK.of (RN.ict (cd := .ne) (off := 5) (tgt := 24) (by decide +kernel) (mif_ne hb)) ?_
        refine RK.of (RN.blk (ops := [(24, .iinc 2 1)]) (pc' := 27) (lv' := [(2, .inl (m_w32 (v2 + 1))), (0, .inr (.inr 298)), (1, .inl u1)]) (st' := []) (h' := h1) (cs := []) (by decide +kernel) rfl trivial) ?_
        refine RK.of (RN.goto (off := -25) (tgt := 2) (by decide +kernel)) ?_
        exact RK.sub (ih _ _ hL hJ hF) (sub_cons rfl (sub_cons rfl (sub_cons rfl sub_nil)))
    · refine RK.of (RN.ict (cd := .ge) (off := 20) (tgt := 30) (by decide +kernel) (mif_ge hb)) ?_
      exact RK.sub (hK1 _ hL hJ hF) sub_nil
noncomputable def GX1_leastTo (a1 : Int) (h : MH) : Option (Int × MH) :=
  GX1_leastTo_L2 a1 (fun w1 h2 =>
   some (w1, h2)) (fun h3 =>
   some ((-2), h3)) FU 0 h
theorem DX1_leastTo {d : Nat} {a1 : Int} {h : MH} {r : Int × MH} (hL : LR h) (hF : GX1_leastTo a1 h = some r) : RN xs L iX1_leastTo (d + 3) 0 (lvE 0 [.inr (.inr 298), .inl a1]) [] h (RIo r) ∧ LR r.2 ∧ KD h r.2 := by
  unfold GX1_leastTo at hF
  have hK : KD h h := KD.rf
  show RK xs L iX1_leastTo (d + 3) 0 (lvE 0 [.inr (.inr 298), .inl a1]) [] h (RIo r) h r.2
  refine RK.of (RN.blk (ops := [(0, .iconst 0), (1, .istore_n 2)]) (pc' := 2) (lv' := [(2, .inl 0), (0, .inr (.inr 298)), (1, .inl a1)]) (st' := []) (h' := h) (cs := []) (by decide +kernel) rfl trivial) ?_
  refine RK.sub (DX1_leastTo_L2 hK ?_ ?_ _ _ _ hL KD.rf hF) (sub_cons rfl (sub_cons rfl (sub_cons rfl sub_nil)))
  · intro w1 h2 hL hq hF
    have hK := hK.tr hq
    refine RK.of (RN.blk (ops := [(22, .iload_n 2)]) (pc' := 23) (lv' := [(2, .inl w1)]) (st' := [.inl w1]) (h' := h2) (cs := []) (by decide +kernel) rfl trivial) ?_
    exact RK.iR (by decide +kernel) rfl hL hK hF
  · intro h3 hL hq hF
    have hK := hK.tr hq
    refine RK.of (RN.blk (ops := [(30, .bipush (-2))]) (pc' := 32) (lv' := []) (st' := [.inl (-2)]) (h' := h3) (cs := []) (by decide +kernel) rfl trivial) ?_
    exact RK.iR (by decide +kernel) rfl hL hK hF
noncomputable def GX1_takeReading_L28 (K0 : MH → Option (Int × MH)) (K1 : Int → MH → Option (Int × MH)) : Nat → Int → Int → MH → Option (Int × MH)
  | 0, _, _, _ => none
  | f + 1, v2, v3, h =>
    (if v3 < 0 then
     K1 v2 h
    else
     gd [IB v3 4] (
      gd [IB v3 4] (
       (if (m_rd (m_wr h 307 v3 (Int.tmod v2 10)) 307 v3) = 9 then
        GX1_takeReading_L28 K0 K1 f (m_w32 (Int.tdiv v2 10)) (m_w32 (v3 + (-1))) (m_wr h 307 v3 (Int.tmod v2 10))
       else
        gd [IB v3 4, TO (m_wr h 307 v3 (Int.tmod v2 10)) (m_rd (m_wr h 307 v3 (Int.tmod v2 10)) 298 0) 8] (
         (if (m_rd (m_wr h 307 v3 (Int.tmod v2 10)) 307 v3) < (m_rd (m_wr h 307 v3 (Int.tmod v2 10)) (m_rd (m_wr h 307 v3 (Int.tmod v2 10)) 298 0) 0) then
          GX1_takeReading_L28 K0 K1 f (m_w32 (Int.tdiv v2 10)) (m_w32 (v3 + (-1))) (m_wr h 307 v3 (Int.tmod v2 10))
         else
          K0 (m_wr h 307 v3 (Int.tmod v2 10))))))))
theorem DX1_takeReading_L28 {d : Nat} {K0 : MH → Option (Int × MH)} {K1 : Int → MH → Option (Int × MH)} {r : Int × MH} {h0 hB : MH} (hB0 : KD h0 hB) (hK0 : ∀ (h : MH), LR h → KD hB h → K0 h = some r → RK xs L iX1_takeReading (d) 74 [] [] h (RIo r) h0 r.2) (hK1 : ∀ (w2 : Int) (h : MH), LR h → KD hB h → K1 w2 h = some r → RK xs L iX1_takeReading (d) 82 [(2, .inl w2)] [] h (RIo r) h0 r.2) : ∀ (f : Nat) (v2 : Int) (v3 : Int) (h : MH), LR h → KD hB h → GX1_takeReading_L28 K0 K1 f v2 v3 h = some r → RK xs L iX1_takeReading (d) 28 [(0, .inr (.inr 298)), (2, .inl v2), (3, .inl v3)] [] h (RIo r) h0 r.2 := by
  intro f
  induction f with
  | zero =>
    intro v2 v3 h hL hJ hF
    cases hF
  | succ f ih =>
    intro v2 v3 h hL hJ hF
    unfold GX1_takeReading_L28 at hF
    have hK := hB0.tr hJ
    refine RK.of (RN.blk (ops := [(28, .iload_n 3)]) (pc' := 29) (lv' := [(0, .inr (.inr 298)), (2, .inl v2), (3, .inl v3)]) (st' := [.inl v3]) (h' := h) (cs := []) (by decide +kernel) rfl trivial) ?_
    rcases it_of hF with ⟨hb, hF⟩ | ⟨hb, hF⟩
    · refine RK.of (RN.ift (cd := .lt) (off := 53) (tgt := 82) (by decide +kernel) (mif_lt hb)) ?_
      exact RK.sub (hK1 _ _ hL hJ hF) (sub_cons rfl sub_nil)
    · refine RK.of (RN.iff (cd := .lt) (off := 53) (tgt := 82) (by decide +kernel) (mif_ltn hb)) ?_
      refine RK.of (RN.blk (ops := [(32, .aload_n 0)]) (pc' := 33) (lv' := [(0, .inr (.inr 298)), (2, .inl v2), (3, .inl v3)]) (st' := [.inr (.inr 298)]) (h' := h) (cs := []) (by decide +kernel) rfl trivial) ?_
      refine RK.of (RN.gr (i := 29) (ci := 1) (k := 3) (fn := true) (v := 307) (by decide +kernel) rfl (TO.gk (o_298 hL)) (hL.fa (v := 307) 3 1 4 (o_298 hL) rfl (by decide) rfl (by decide)).1) ?_
      obtain ⟨hc, hF⟩ := gd_of hF
      refine RK.of (RN.blk (ops := [(36, .iload_n 3), (37, .iload_n 2), (38, .bipush 10), (40, .irem), (41, .iastore)]) (pc' := 42) (lv' := [(0, .inr (.inr 298)), (2, .inl v2), (3, .inl v3)]) (st' := []) (h' := (m_wr h 307 v3 (Int.tmod v2 10))) (cs := [(10 : Int) ≠ 0, GI h 307 1 v3]) (by decide +kernel) rfl ⟨(by decide), (a_307 hL).gi hc.1.1 hc.1.2, trivial⟩) ?_
      have hL : LR (m_wr h 307 v3 (Int.tmod v2 10)) := hL.wa (TA.le5 (a_307 hL) (by decide))
      have hK := hK.tr (KD.wr : KD h (m_wr h 307 v3 (Int.tmod v2 10)))
      have hJ := hJ.tr (KD.wr : KD h (m_wr h 307 v3 (Int.tmod v2 10)))
      refine RK.of (RN.blk (ops := [(42, .iload_n 2), (43, .bipush 10), (45, .idiv), (46, .istore_n 2), (47, .aload_n 0)]) (pc' := 48) (lv' := [(2, .inl (m_w32 (Int.tdiv v2 10))), (0, .inr (.inr 298)), (3, .inl v3)]) (st' := [.inr (.inr 298)]) (h' := (m_wr h 307 v3 (Int.tmod v2 10))) (cs := [(10 : Int) ≠ 0]) (by decide +kernel) rfl ⟨(by decide), trivial⟩) ?_
      refine RK.of (RN.gr (i := 29) (ci := 1) (k := 3) (fn := true) (v := 307) (by decide +kernel) rfl (TO.gk (o_298 hL)) (hL.fa (v := 307) 3 1 4 (o_298 hL) rfl (by decide) rfl (by decide)).1) ?_
      obtain ⟨hc, hF⟩ := gd_of hF
      refine RK.of (RN.blk (ops := [(51, .iload_n 3), (52, .iaload), (53, .bipush 9)]) (pc' := 55) (lv' := [(2, .inl (m_w32 (Int.tdiv v2 10))), (0, .inr (.inr 298)), (3, .inl v3)]) (st' := [.inl 9, .inl (m_rd (m_wr h 307 v3 (Int.tmod v2 10)) 307 v3)]) (h' := (m_wr h 307 v3 (Int.tmod v2 10))) (cs := [GI (m_wr h 307 v3 (Int.tmod v2 10)) 307 1 v3]) (by decide +kernel) rfl ⟨(a_307 hL).gi hc.1.1 hc.1.2, trivial⟩) ?_
      rcases it_of hF with ⟨hb, hF⟩ | ⟨hb, hF⟩
      · refine RK.of (RN.ict (cd := .eq) (off := 21) (tgt := 76) (by decide +kernel) (mif_eq hb)) ?_
        refine RK.of (RN.blk (ops := [(76, .iinc 3 (-1))]) (pc' := 79) (lv' := [(3, .inl (m_w32 (v3 + (-1)))), (2, .inl (m_w32 (Int.tdiv v2 10))), (0, .inr (.inr 298))]) (st' := []) (h' := (m_wr h 307 v3 (Int.tmod v2 10))) (cs := []) (by decide +kernel) rfl trivial) ?_
        refine RK.of (RN.goto (off := -51) (tgt := 28) (by decide +kernel)) ?_
        exact RK.sub (ih _ _ _ hL hJ hF) (sub_cons rfl (sub_cons rfl (sub_cons rfl sub_nil)))
      · refine RK.of (RN.icf (cd := .eq) (off := 21) (tgt := 76) (by decide +kernel) (mif_eqn hb)) ?_
        refine RK.of (RN.blk (ops := [(58, .aload_n 0)]) (pc' := 59) (lv' := [(2, .inl (m_w32 (Int.tdiv v2 10))), (0, .inr (.inr 298)), (3, .inl v3)]) (st' := [.inr (.inr 298)]) (h' := (m_wr h 307 v3 (Int.tmod v2 10))) (cs := []) (by decide +kernel) rfl trivial) ?_
        refine RK.of (RN.gr (i := 29) (ci := 1) (k := 3) (fn := true) (v := 307) (by decide +kernel) rfl (TO.gk (o_298 hL)) (hL.fa (v := 307) 3 1 4 (o_298 hL) rfl (by decide) rfl (by decide)).1) ?_
        obtain ⟨hc, hF⟩ := gd_of hF
        refine RK.of (RN.blk (ops := [(62, .iload_n 3), (63, .iaload), (64, .aload_n 0), (65, .getfield 12), (68, .getfield 77)]) (pc' := 71) (lv' := [(2, .inl (m_w32 (Int.tdiv v2 10))), (0, .inr (.inr 298)), (3, .inl v3)]) (st' := [.inl (m_rd (m_wr h 307 v3 (Int.tmod v2 10)) (m_rd (m_wr h 307 v3 (Int.tmod v2 10)) 298 0) 0), .inl (m_rd (m_wr h 307 v3 (Int.tmod v2 10)) 307 v3)]) (h' := (m_wr h 307 v3 (Int.tmod v2 10))) (cs := [GI (m_wr h 307 v3 (Int.tmod v2 10)) 307 1 v3, GK (m_wr h 307 v3 (Int.tmod v2 10)) 298 1, GK (m_wr h 307 v3 (Int.tmod v2 10)) (m_rd (m_wr h 307 v3 (Int.tmod v2 10)) 298 0) 8]) (by decide +kernel) rfl ⟨(a_307 hL).gi hc.1.1 hc.1.2, (o_298 hL).gk, (TO.gk hc.2.1), trivial⟩) ?_
        rcases it_of hF with ⟨hb, hF⟩ | ⟨hb, hF⟩
        · refine RK.of (RN.ict (cd := .lt) (off := 5) (tgt := 76) (by decide +kernel) (mif_lt hb)) ?_
          refine RK.of (RN.blk (ops := [(76, .iinc 3 (-1))]) (pc' := 79) (lv' := [(3, .inl (m_w32 (v3 + (-1)))), (2, .inl (m_w32 (Int.tdiv v2 10))), (0, .inr (.inr 298))]) (st' := []) (h' := (m_wr h 307 v3 (Int.tmod v2 10))) (cs := []) (by decide +kernel) rfl trivial) ?_
          refine RK.of (RN.goto (off := -51) (tgt := 28) (by decide +kernel)) ?_
          exact RK.sub (ih _ _ _ hL hJ hF) (sub_cons rfl (sub_cons rfl (sub_cons rfl sub_nil)))
        · refine RK.of (RN.icf (cd := .lt) (off := 5) (tgt := 76) (by decide +kernel) (mif_ltn hb)) ?_
          exact RK.sub (hK0 _ hL hJ hF) sub_nil
noncomputable def GX1_takeReading (a1 : Int) (h : MH) : Option (Int × MH) :=
  gd [TO h (m_rd h 298 0) 8] (
   (if (m_rd h (m_rd h 298 0) 3) = 0 then
    some (0, h)
   else
    (if a1 < 0 then
     some (0, h)
    else
     gd [TO h (m_rd h 298 0) 8] (
      GX1_takeReading_L28 (fun h1 =>
       some (0, h1)) (fun w2 h3 =>
       (if w2 = 0 then
        some (1, h3)
       else
        some (0, h3))) FU a1 (m_w32 ((m_rd h (m_rd h 298 0) 1) - 1)) h))))
theorem DX1_takeReading {d : Nat} {a1 : Int} {h : MH} {r : Int × MH} (hL : LR h) (hF : GX1_takeReading a1 h = some r) : RN xs L iX1_takeReading (d) 0 (lvE 0 [.inr (.inr 298), .inl a1]) [] h (RIo r) ∧ LR r.2 ∧ KD h r.2 := by
  unfold GX1_takeReading at hF
  have hK : KD h h := KD.rf
  show RK xs L iX1_takeReading (d) 0 (lvE 0 [.inr (.inr 298), .inl a1]) [] h (RIo r) h r.2
  obtain ⟨hc, hF⟩ := gd_of hF
  refine RK.of (RN.blk (ops := [(0, .aload_n 0), (1, .getfield 12), (4, .getfield 38)]) (pc' := 7) (lv' := [(0, .inr (.inr 298)), (1, .inl a1)]) (st' := [.inl (m_rd h (m_rd h 298 0) 3)]) (h' := h) (cs := [GK h 298 1, GK h (m_rd h 298 0) 8]) (by decide +kernel) rfl ⟨(o_298 hL).gk, (TO.gk hc.1), trivial⟩) ?_
  rcases it_of hF with ⟨hb, hF⟩ | ⟨hb, hF⟩
  · refine RK.of (RN.ift (cd := .eq) (off := 7) (tgt := 14) (by decide +kernel) (mif_eq hb)) ?_
    refine RK.of (RN.blk (ops := [(14, .iconst 0)]) (pc' := 15) (lv' := [(0, .inr (.inr 298)), (1, .inl a1)]) (st' := [.inl 0]) (h' := h) (cs := []) (by decide +kernel) rfl trivial) ?_
    exact RK.zR (by decide +kernel) rfl (Or.inl rfl) hL hK hF
  · refine RK.of (RN.iff (cd := .eq) (off := 7) (tgt := 14) (by decide +kernel) (mif_eqn hb)) ?_
    refine RK.of (RN.blk (ops := [(10, .iload_n 1)]) (pc' := 11) (lv' := [(0, .inr (.inr 298)), (1, .inl a1)]) (st' := [.inl a1]) (h' := h) (cs := []) (by decide +kernel) rfl trivial) ?_
    rcases it_of hF with ⟨hb, hF⟩ | ⟨hb, hF⟩
    · refine RK.of (RN.iff (cd := .ge) (off := 5) (tgt := 16) (by decide +kernel) (mif_gen hb)) ?_
      refine RK.of (RN.blk (ops := [(14, .iconst 0)]) (pc' := 15) (lv' := [(0, .inr (.inr 298)), (1, .inl a1)]) (st' := [.inl 0]) (h' := h) (cs := []) (by decide +kernel) rfl trivial) ?_
      exact RK.zR (by decide +kernel) rfl (Or.inl rfl) hL hK hF
    · refine RK.of (RN.ift (cd := .ge) (off := 5) (tgt := 16) (by decide +kernel) (mif_ge hb)) ?_
      obtain ⟨hc, hF⟩ := gd_of hF
      refine RK.of (RN.blk (ops := [(16, .iload_n 1), (17, .istore_n 2), (18, .aload_n 0), (19, .getfield 12), (22, .getfield 42), (25, .iconst 1), (26, .isub), (27, .istore_n 3)]) (pc' := 28) (lv' := [(3, .inl (m_w32 ((m_rd h (m_rd h 298 0) 1) - 1))), (2, .inl a1), (0, .inr (.inr 298)), (1, .inl a1)]) (st' := []) (h' := h) (cs := [GK h 298 1, GK h (m_rd h 298 0) 8]) (by decide +kernel) rfl ⟨(o_298 hL).gk, (TO.gk hc.1), trivial⟩) ?_
      refine RK.sub (DX1_takeReading_L28 hK ?_ ?_ _ _ _ _ hL KD.rf hF) (sub_cons rfl (sub_cons rfl (sub_cons rfl sub_nil)))
      · intro h1 hL hq hF
        have hK := hK.tr hq
        refine RK.of (RN.blk (ops := [(74, .iconst 0)]) (pc' := 75) (lv' := []) (st' := [.inl 0]) (h' := h1) (cs := []) (by decide +kernel) rfl trivial) ?_
        exact RK.zR (by decide +kernel) rfl (Or.inl rfl) hL hK hF
      · intro w2 h3 hL hq hF
        have hK := hK.tr hq
        refine RK.of (RN.blk (ops := [(82, .iload_n 2)]) (pc' := 83) (lv' := [(2, .inl w2)]) (st' := [.inl w2]) (h' := h3) (cs := []) (by decide +kernel) rfl trivial) ?_
        rcases it_of hF with ⟨hb, hF⟩ | ⟨hb, hF⟩
        · refine RK.of (RN.iff (cd := .ne) (off := 7) (tgt := 90) (by decide +kernel) (mif_nen hb)) ?_
          refine RK.of (RN.blk (ops := [(86, .iconst 1)]) (pc' := 87) (lv' := [(2, .inl w2)]) (st' := [.inl 1]) (h' := h3) (cs := []) (by decide +kernel) rfl trivial) ?_
          refine RK.of (RN.goto (off := 4) (tgt := 91) (by decide +kernel)) ?_
          exact RK.zR (by decide +kernel) rfl (Or.inr rfl) hL hK hF
        · refine RK.of (RN.ift (cd := .ne) (off := 7) (tgt := 90) (by decide +kernel) (mif_ne hb)) ?_
          refine RK.of (RN.blk (ops := [(90, .iconst 0)]) (pc' := 91) (lv' := [(2, .inl w2)]) (st' := [.inl 0]) (h' := h3) (cs := []) (by decide +kernel) rfl trivial) ?_
          exact RK.zR (by decide +kernel) rfl (Or.inl rfl) hL hK hF
noncomputable def GX8_digitOf (t : Int) (a1 : Int) (a2 : Int) (h : MH) : Option (Int × MH) :=
  (bd (GX8_spanOf t (m_w32 (a2 + 1)) h) (fun x2 h1 =>
   (if x2 = 0 then
    some (0, h1)
   else
    (if (m_rd h1 t 0) = 0 then
     some (0, h1)
    else
     gd [(x2 : Int) ≠ 0, ((m_rd h1 t 0) : Int) ≠ 0] (
      some ((Int.tmod (m_w32 (Int.tdiv a1 x2)) (m_rd h1 t 0)), h1))))))
theorem DX8_digitOf {d : Nat} {t : Int} {a1 : Int} {a2 : Int} {h : MH} {r : Int × MH} (hL : LR h) (k0_t : TO h t 8) (hF : GX8_digitOf t a1 a2 h = some r) : RN xs L iX8_digitOf (d + 1) 0 (lvE 0 [.inr (.inr t), .inl a1, .inl a2]) [] h (RIo r) ∧ LR r.2 ∧ KD h r.2 := by
  unfold GX8_digitOf at hF
  have hK : KD h h := KD.rf
  have k_t := k0_t
  show RK xs L iX8_digitOf (d + 1) 0 (lvE 0 [.inr (.inr t), .inl a1, .inl a2]) [] h (RIo r) h r.2
  refine RK.of (RN.blk (ops := [(0, .aload_n 0), (1, .iload_n 2), (2, .iconst 1), (3, .iadd)]) (pc' := 4) (lv' := [(0, .inr (.inr t)), (1, .inl a1), (2, .inl a2)]) (st' := [.inl (m_w32 (a2 + 1)), .inr (.inr t)]) (h' := h) (cs := []) (by decide +kernel) rfl trivial) ?_
  obtain ⟨x2, h1, hG, hF⟩ := bd_of hF
  have hq := rcv_ok (as := [.inl (m_w32 (a2 + 1))]) (TO.gk k_t)
  obtain ⟨hN, hL, hQ⟩ := DX8_spanOf (d := d) hL k_t hG
  refine RK.of (RN.cv (i := 41) (k := 85) (q2 := iX8_spanOf) (as := [.inr (.inr t), .inl (m_w32 (a2 + 1))]) (r := []) (v := some (.inl x2)) (h1 := h1) (by decide +kernel) rfl rfl rfl rfl rfl hq hN) ?_
  have k_t := hQ.to k_t
  have hK := hK.tr hQ
  refine RK.of (RN.blk (ops := [(7, .istore_n 3), (8, .iload_n 3)]) (pc' := 9) (lv' := [(3, .inl x2), (0, .inr (.inr t)), (1, .inl a1), (2, .inl a2)]) (st' := [.inl x2]) (h' := h1) (cs := []) (by decide +kernel) rfl trivial) ?_
  rcases it_of hF with ⟨hb, hF⟩ | ⟨hb, hF⟩
  · refine RK.of (RN.ift (cd := .eq) (off := 10) (tgt := 19) (by decide +kernel) (mif_eq hb)) ?_
    refine RK.of (RN.blk (ops := [(19, .iconst 0)]) (pc' := 20) (lv' := [(3, .inl x2), (0, .inr (.inr t)), (1, .inl a1), (2, .inl a2)]) (st' := [.inl 0]) (h' := h1) (cs := []) (by decide +kernel) rfl trivial) ?_
    refine RK.of (RN.goto (off := 11) (tgt := 31) (by decide +kernel)) ?_
    exact RK.iR (by decide +kernel) rfl hL hK hF
  · refine RK.of (RN.iff (cd := .eq) (off := 10) (tgt := 19) (by decide +kernel) (mif_eqn hb)) ?_
    refine RK.of (RN.blk (ops := [(12, .aload_n 0), (13, .getfield 18)]) (pc' := 16) (lv' := [(3, .inl x2), (0, .inr (.inr t)), (1, .inl a1), (2, .inl a2)]) (st' := [.inl (m_rd h1 t 0)]) (h' := h1) (cs := [GK h1 t 8]) (by decide +kernel) rfl ⟨k_t.gk, trivial⟩) ?_
    rcases it_of hF with ⟨hb, hF⟩ | ⟨hb, hF⟩
    · refine RK.of (RN.iff (cd := .ne) (off := 7) (tgt := 23) (by decide +kernel) (mif_nen hb)) ?_
      refine RK.of (RN.blk (ops := [(19, .iconst 0)]) (pc' := 20) (lv' := [(3, .inl x2), (0, .inr (.inr t)), (1, .inl a1), (2, .inl a2)]) (st' := [.inl 0]) (h' := h1) (cs := []) (by decide +kernel) rfl trivial) ?_
      refine RK.of (RN.goto (off := 11) (tgt := 31) (by decide +kernel)) ?_
      exact RK.iR (by decide +kernel) rfl hL hK hF
    · refine RK.of (RN.ift (cd := .ne) (off := 7) (tgt := 23) (by decide +kernel) (mif_ne hb)) ?_
      obtain ⟨hc, hF⟩ := gd_of hF
      refine RK.of (RN.blk (ops := [(23, .iload_n 1), (24, .iload_n 3), (25, .idiv), (26, .aload_n 0), (27, .getfield 18), (30, .irem)]) (pc' := 31) (lv' := [(3, .inl x2), (0, .inr (.inr t)), (1, .inl a1), (2, .inl a2)]) (st' := [.inl (Int.tmod (m_w32 (Int.tdiv a1 x2)) (m_rd h1 t 0))]) (h' := h1) (cs := [(x2 : Int) ≠ 0, GK h1 t 8, ((m_rd h1 t 0) : Int) ≠ 0]) (by decide +kernel) rfl ⟨hc.1, k_t.gk, hc.2.1, trivial⟩) ?_
      exact RK.iR (by decide +kernel) rfl hL hK hF
noncomputable def GX1_isMeant_L2 (u1 : Int) (K0 : MH → Option (Int × MH)) (K1 : MH → Option (Int × MH)) : Nat → Int → MH → Option (Int × MH)
  | 0, _, _ => none
  | f + 1, v2, h =>
    gd [TO h (m_rd h 298 0) 8] (
     (if v2 < (m_rd h (m_rd h 298 0) 1) then
      gd [IB v2 4] (
       (if (m_rd h 307 v2) = 9 then
        GX1_isMeant_L2 u1 K0 K1 f (m_w32 (v2 + 1)) h
       else
        gd [IB v2 4] (
         gd [TO h (m_rd h 298 0) 8] (bd (GX8_digitOf (m_rd h 298 0) u1 v2 h) (fun x2 h1 =>
          (if (m_rd h 307 v2) = x2 then
           GX1_isMeant_L2 u1 K0 K1 f (m_w32 (v2 + 1)) h1
          else
           K0 h1))))))
     else
      K1 h))
theorem DX1_isMeant_L2 {d : Nat} {u1 : Int} {K0 : MH → Option (Int × MH)} {K1 : MH → Option (Int × MH)} {r : Int × MH} {h0 hB : MH} (hB0 : KD h0 hB) (hK0 : ∀ (h : MH), LR h → KD hB h → K0 h = some r → RK xs L iX1_isMeant (d + 2) 42 [] [] h (RIo r) h0 r.2) (hK1 : ∀ (h : MH), LR h → KD hB h → K1 h = some r → RK xs L iX1_isMeant (d + 2) 50 [] [] h (RIo r) h0 r.2) : ∀ (f : Nat) (v2 : Int) (h : MH), LR h → KD hB h → GX1_isMeant_L2 u1 K0 K1 f v2 h = some r → RK xs L iX1_isMeant (d + 2) 2 [(0, .inr (.inr 298)), (1, .inl u1), (2, .inl v2)] [] h (RIo r) h0 r.2 := by
  intro f
  induction f with
  | zero =>
    intro v2 h hL hJ hF
    cases hF
  | succ f ih =>
    intro v2 h hL hJ hF
    unfold GX1_isMeant_L2 at hF
    have hK := hB0.tr hJ
    obtain ⟨hc, hF⟩ := gd_of hF
    refine RK.of (RN.blk (ops := [(2, .iload_n 2), (3, .aload_n 0), (4, .getfield 12), (7, .getfield 42)]) (pc' := 10) (lv' := [(0, .inr (.inr 298)), (1, .inl u1), (2, .inl v2)]) (st' := [.inl (m_rd h (m_rd h 298 0) 1), .inl v2]) (h' := h) (cs := [GK h 298 1, GK h (m_rd h 298 0) 8]) (by decide +kernel) rfl ⟨(o_298 hL).gk, (TO.gk hc.1), trivial⟩) ?_
    rcases it_of hF with ⟨hb, hF⟩ | ⟨hb, hF⟩
    · refine RK.of (RN.icf (cd := .ge) (off := 40) (tgt := 50) (by decide +kernel) (mif_gen hb)) ?_
      refine RK.of (RN.blk (ops := [(13, .aload_n 0)]) (pc' := 14) (lv' := [(0, .inr (.inr 298)), (1, .inl u1), (2, .inl v2)]) (st' := [.inr (.inr 298)]) (h' := h) (cs := []) (by decide +kernel) rfl trivial) ?_
      refine RK.of (RN.gr (i := 29) (ci := 1) (k := 3) (fn := true) (v := 307) (by decide +kernel) rfl (TO.gk (o_298 hL)) (hL.fa (v := 307) 3 1 4 (o_298 hL) rfl (by decide) rfl (by decide)).1) ?_
      obtain ⟨hc, hF⟩ := gd_of hF
      refine RK.of (RN.blk (ops := [(17, .iload_n 2), (18, .iaload), (19, .bipush 9)]) (pc' := 21) (lv' := [(0, .inr (.inr 298)), (1, .inl u1), (2, .inl v2)]) (st' := [.inl 9, .inl (m_rd h 307 v2)]) (h' := h) (cs := [GI h 307 1 v2]) (by decide +kernel) rfl ⟨(a_307 hL).gi hc.1.1 hc.1.2, trivial⟩) ?_
      rcases it_of hF with ⟨hb, hF⟩ | ⟨hb, hF⟩
      · refine RK.of (RN.ict (cd := .eq) (off := 23) (tgt := 44) (by decide +kernel) (mif_eq hb)) ?_
        refine RK.of (RN.blk (ops := [(44, .iinc 2 1)]) (pc' := 47) (lv' := [(2, .inl (m_w32 (v2 + 1))), (0, .inr (.inr 298)), (1, .inl u1)]) (st' := []) (h' := h) (cs := []) (by decide +kernel) rfl trivial) ?_
        refine RK.of (RN.goto (off := -45) (tgt := 2) (by decide +kernel)) ?_
        exact RK.sub (ih _ _ hL hJ hF) (sub_cons rfl (sub_cons rfl (sub_cons rfl sub_nil)))
      · refine RK.of (RN.icf (cd := .eq) (off := 23) (tgt := 44) (by decide +kernel) (mif_eqn hb)) ?_
        refine RK.of (RN.blk (ops := [(24, .aload_n 0)]) (pc' := 25) (lv' := [(0, .inr (.inr 298)), (1, .inl u1), (2, .inl v2)]) (st' := [.inr (.inr 298)]) (h' := h) (cs := []) (by decide +kernel) rfl trivial) ?_
        refine RK.of (RN.gr (i := 29) (ci := 1) (k := 3) (fn := true) (v := 307) (by decide +kernel) rfl (TO.gk (o_298 hL)) (hL.fa (v := 307) 3 1 4 (o_298 hL) rfl (by decide) rfl (by decide)).1) ?_
        obtain ⟨hc, hF⟩ := gd_of hF
        refine RK.of (RN.blk (ops := [(28, .iload_n 2), (29, .iaload), (30, .aload_n 0), (31, .getfield 12), (34, .iload_n 1), (35, .iload_n 2)]) (pc' := 36) (lv' := [(0, .inr (.inr 298)), (1, .inl u1), (2, .inl v2)]) (st' := [.inl v2, .inl u1, .inr (.inr (m_rd h 298 0)), .inl (m_rd h 307 v2)]) (h' := h) (cs := [GI h 307 1 v2, GK h 298 1]) (by decide +kernel) rfl ⟨(a_307 hL).gi hc.1.1 hc.1.2, (o_298 hL).gk, trivial⟩) ?_
        obtain ⟨hc, hF⟩ := gd_of hF
        obtain ⟨x2, h1, hG, hF⟩ := bd_of hF
        have hq := rcv_ok (as := [.inl u1, .inl v2]) (TO.gk hc.1)
        obtain ⟨hN, hL, hQ⟩ := DX8_digitOf (d := d) hL hc.1 hG
        refine RK.of (RN.cv (i := 80) (k := 87) (q2 := iX8_digitOf) (as := [.inr (.inr (m_rd h 298 0)), .inl u1, .inl v2]) (r := [.inl (m_rd h 307 v2)]) (v := some (.inl x2)) (h1 := h1) (by decide +kernel) rfl rfl rfl rfl rfl hq hN) ?_
        have hK := hK.tr hQ
        have hJ := hJ.tr hQ
        rcases it_of hF with ⟨hb, hF⟩ | ⟨hb, hF⟩
        · refine RK.of (RN.ict (cd := .eq) (off := 5) (tgt := 44) (by decide +kernel) (mif_eq hb)) ?_
          refine RK.of (RN.blk (ops := [(44, .iinc 2 1)]) (pc' := 47) (lv' := [(2, .inl (m_w32 (v2 + 1))), (0, .inr (.inr 298)), (1, .inl u1)]) (st' := []) (h' := h1) (cs := []) (by decide +kernel) rfl trivial) ?_
          refine RK.of (RN.goto (off := -45) (tgt := 2) (by decide +kernel)) ?_
          exact RK.sub (ih _ _ hL hJ hF) (sub_cons rfl (sub_cons rfl (sub_cons rfl sub_nil)))
        · refine RK.of (RN.icf (cd := .eq) (off := 5) (tgt := 44) (by decide +kernel) (mif_eqn hb)) ?_
          exact RK.sub (hK0 _ hL hJ hF) sub_nil
    · refine RK.of (RN.ict (cd := .ge) (off := 40) (tgt := 50) (by decide +kernel) (mif_ge hb)) ?_
      exact RK.sub (hK1 _ hL hJ hF) sub_nil
noncomputable def GX1_isMeant (a1 : Int) (h : MH) : Option (Int × MH) :=
  GX1_isMeant_L2 a1 (fun h1 =>
   some (0, h1)) (fun h2 =>
   some (1, h2)) FU 0 h
theorem DX1_isMeant {d : Nat} {a1 : Int} {h : MH} {r : Int × MH} (hL : LR h) (hF : GX1_isMeant a1 h = some r) : RN xs L iX1_isMeant (d + 2) 0 (lvE 0 [.inr (.inr 298), .inl a1]) [] h (RIo r) ∧ LR r.2 ∧ KD h r.2 := by
  unfold GX1_isMeant at hF
  have hK : KD h h := KD.rf
  show RK xs L iX1_isMeant (d + 2) 0 (lvE 0 [.inr (.inr 298), .inl a1]) [] h (RIo r) h r.2
  refine RK.of (RN.blk (ops := [(0, .iconst 0), (1, .istore_n 2)]) (pc' := 2) (lv' := [(2, .inl 0), (0, .inr (.inr 298)), (1, .inl a1)]) (st' := []) (h' := h) (cs := []) (by decide +kernel) rfl trivial) ?_
  refine RK.sub (DX1_isMeant_L2 hK ?_ ?_ _ _ _ hL KD.rf hF) (sub_cons rfl (sub_cons rfl (sub_cons rfl sub_nil)))
  · intro h1 hL hq hF
    have hK := hK.tr hq
    refine RK.of (RN.blk (ops := [(42, .iconst 0)]) (pc' := 43) (lv' := []) (st' := [.inl 0]) (h' := h1) (cs := []) (by decide +kernel) rfl trivial) ?_
    exact RK.zR (by decide +kernel) rfl (Or.inl rfl) hL hK hF
  · intro h2 hL hq hF
    have hK := hK.tr hq
    refine RK.of (RN.blk (ops := [(50, .iconst 1)]) (pc' := 51) (lv' := []) (st' := [.inl 1]) (h' := h2) (cs := []) (by decide +kernel) rfl trivial) ?_
    exact RK.zR (by decide +kernel) rfl (Or.inr rfl) hL hK hF
noncomputable def GX1_meantHoles_L4 (K0 : Int → MH → Option (Int × MH)) : Nat → Int → Int → MH → Option (Int × MH)
  | 0, _, _, _ => none
  | f + 1, v1, v2, h =>
    gd [TO h (m_rd h 298 0) 8] (
     (if v2 < (m_rd h (m_rd h 298 0) 3) then
      (bd (GX1_isMeant v2 h) (fun x2 h1 =>
       (if x2 = 0 then
        GX1_meantHoles_L4 K0 f v1 (m_w32 (v2 + 1)) h1
       else
        (bd (GX1_holeFor v2 h1) (fun x4 h3 =>
         (if x4 = (-1) then
          GX1_meantHoles_L4 K0 f (m_bor v1 64) (m_w32 (v2 + 1)) h3
         else
          GX1_meantHoles_L4 K0 f (m_bor v1 (m_shl 1 x4)) (m_w32 (v2 + 1)) h3))))))
     else
      K0 v1 h))
theorem DX1_meantHoles_L4 {d : Nat} {K0 : Int → MH → Option (Int × MH)} {r : Int × MH} {h0 hB : MH} (hB0 : KD h0 hB) (hK0 : ∀ (w1 : Int) (h : MH), LR h → KD hB h → K0 w1 h = some r → RK xs L iX1_meantHoles (d + 3) 51 [(1, .inl w1)] [] h (RIo r) h0 r.2) : ∀ (f : Nat) (v1 : Int) (v2 : Int) (h : MH), LR h → KD hB h → GX1_meantHoles_L4 K0 f v1 v2 h = some r → RK xs L iX1_meantHoles (d + 3) 4 [(0, .inr (.inr 298)), (1, .inl v1), (2, .inl v2)] [] h (RIo r) h0 r.2 := by
  intro f
  induction f with
  | zero =>
    intro v1 v2 h hL hJ hF
    cases hF
  | succ f ih =>
    intro v1 v2 h hL hJ hF
    unfold GX1_meantHoles_L4 at hF
    have hK := hB0.tr hJ
    obtain ⟨hc, hF⟩ := gd_of hF
    refine RK.of (RN.blk (ops := [(4, .iload_n 2), (5, .aload_n 0), (6, .getfield 12), (9, .getfield 38)]) (pc' := 12) (lv' := [(0, .inr (.inr 298)), (1, .inl v1), (2, .inl v2)]) (st' := [.inl (m_rd h (m_rd h 298 0) 3), .inl v2]) (h' := h) (cs := [GK h 298 1, GK h (m_rd h 298 0) 8]) (by decide +kernel) rfl ⟨(o_298 hL).gk, (TO.gk hc.1), trivial⟩) ?_
    rcases it_of hF with ⟨hb, hF⟩ | ⟨hb, hF⟩
    · refine RK.of (RN.icf (cd := .ge) (off := 39) (tgt := 51) (by decide +kernel) (mif_gen hb)) ?_
      refine RK.of (RN.blk (ops := [(15, .aload_n 0), (16, .iload_n 2)]) (pc' := 17) (lv' := [(0, .inr (.inr 298)), (1, .inl v1), (2, .inl v2)]) (st' := [.inl v2, .inr (.inr 298)]) (h' := h) (cs := []) (by decide +kernel) rfl trivial) ?_
      obtain ⟨x2, h1, hG, hF⟩ := bd_of hF
      have hq := rcv_ok (as := [.inl v2]) (TO.gk (o_298 hL))
      obtain ⟨hN, hL, hQ⟩ := DX1_isMeant (d := d) hL  hG
      refine RK.of (RN.cv (i := 84) (k := 20) (q2 := iX1_isMeant) (as := [.inr (.inr 298), .inl v2]) (r := []) (v := some (.inl x2)) (h1 := h1) (by decide +kernel) rfl rfl rfl rfl rfl hq hN) ?_
      have hK := hK.tr hQ
      have hJ := hJ.tr hQ
      rcases it_of hF with ⟨hb, hF⟩ | ⟨hb, hF⟩
      · refine RK.of (RN.ift (cd := .eq) (off := 25) (tgt := 45) (by decide +kernel) (mif_eq hb)) ?_
        refine RK.of (RN.blk (ops := [(45, .iinc 2 1)]) (pc' := 48) (lv' := [(2, .inl (m_w32 (v2 + 1))), (0, .inr (.inr 298)), (1, .inl v1)]) (st' := []) (h' := h1) (cs := []) (by decide +kernel) rfl trivial) ?_
        refine RK.of (RN.goto (off := -44) (tgt := 4) (by decide +kernel)) ?_
        exact RK.sub (ih _ _ _ hL hJ hF) (sub_cons rfl (sub_cons rfl (sub_cons rfl sub_nil)))
      · refine RK.of (RN.iff (cd := .eq) (off := 25) (tgt := 45) (by decide +kernel) (mif_eqn hb)) ?_
        refine RK.of (RN.blk (ops := [(23, .aload_n 0), (24, .iload_n 2)]) (pc' := 25) (lv' := [(0, .inr (.inr 298)), (1, .inl v1), (2, .inl v2)]) (st' := [.inl v2, .inr (.inr 298)]) (h' := h1) (cs := []) (by decide +kernel) rfl trivial) ?_
        obtain ⟨x4, h3, hG, hF⟩ := bd_of hF
        have hq := rcv_ok (as := [.inl v2]) (TO.gk (o_298 hL))
        obtain ⟨hN, hL, hQ⟩ := DX1_holeFor (d := d) hL  hG
        refine RK.of (RN.cv (i := 74) (k := 15) (q2 := iX1_holeFor) (as := [.inr (.inr 298), .inl v2]) (r := []) (v := some (.inl x4)) (h1 := h3) (by decide +kernel) rfl rfl rfl rfl rfl hq hN) ?_
        have hK := hK.tr hQ
        have hJ := hJ.tr hQ
        refine RK.of (RN.blk (ops := [(28, .istore_n 3), (29, .iload_n 1), (30, .iload_n 3), (31, .iconst (-1))]) (pc' := 32) (lv' := [(3, .inl x4), (0, .inr (.inr 298)), (1, .inl v1), (2, .inl v2)]) (st' := [.inl (-1), .inl x4, .inl v1]) (h' := h3) (cs := []) (by decide +kernel) rfl trivial) ?_
        rcases it_of hF with ⟨hb, hF⟩ | ⟨hb, hF⟩
        · refine RK.of (RN.icf (cd := .ne) (off := 8) (tgt := 40) (by decide +kernel) (mif_nen hb)) ?_
          refine RK.of (RN.blk (ops := [(35, .bipush 64)]) (pc' := 37) (lv' := [(3, .inl x4), (0, .inr (.inr 298)), (1, .inl v1), (2, .inl v2)]) (st' := [.inl 64, .inl v1]) (h' := h3) (cs := []) (by decide +kernel) rfl trivial) ?_
          refine RK.of (RN.goto (off := 6) (tgt := 43) (by decide +kernel)) ?_
          refine RK.of (RN.blk (ops := [(43, .ior), (44, .istore_n 1)]) (pc' := 45) (lv' := [(1, .inl (m_bor v1 64)), (3, .inl x4), (0, .inr (.inr 298)), (2, .inl v2)]) (st' := []) (h' := h3) (cs := []) (by decide +kernel) rfl trivial) ?_
          refine RK.of (RN.blk (ops := [(45, .iinc 2 1)]) (pc' := 48) (lv' := [(2, .inl (m_w32 (v2 + 1))), (1, .inl (m_bor v1 64)), (3, .inl x4), (0, .inr (.inr 298))]) (st' := []) (h' := h3) (cs := []) (by decide +kernel) rfl trivial) ?_
          refine RK.of (RN.goto (off := -44) (tgt := 4) (by decide +kernel)) ?_
          exact RK.sub (ih _ _ _ hL hJ hF) (sub_cons rfl (sub_cons rfl (sub_cons rfl sub_nil)))
        · refine RK.of (RN.ict (cd := .ne) (off := 8) (tgt := 40) (by decide +kernel) (mif_ne hb)) ?_
          refine RK.of (RN.blk (ops := [(40, .iconst 1), (41, .iload_n 3), (42, .ishl)]) (pc' := 43) (lv' := [(3, .inl x4), (0, .inr (.inr 298)), (1, .inl v1), (2, .inl v2)]) (st' := [.inl (m_shl 1 x4), .inl v1]) (h' := h3) (cs := []) (by decide +kernel) rfl trivial) ?_
          refine RK.of (RN.blk (ops := [(43, .ior), (44, .istore_n 1)]) (pc' := 45) (lv' := [(1, .inl (m_bor v1 (m_shl 1 x4))), (3, .inl x4), (0, .inr (.inr 298)), (2, .inl v2)]) (st' := []) (h' := h3) (cs := []) (by decide +kernel) rfl trivial) ?_
          refine RK.of (RN.blk (ops := [(45, .iinc 2 1)]) (pc' := 48) (lv' := [(2, .inl (m_w32 (v2 + 1))), (1, .inl (m_bor v1 (m_shl 1 x4))), (3, .inl x4), (0, .inr (.inr 298))]) (st' := []) (h' := h3) (cs := []) (by decide +kernel) rfl trivial) ?_
          refine RK.of (RN.goto (off := -44) (tgt := 4) (by decide +kernel)) ?_
          exact RK.sub (ih _ _ _ hL hJ hF) (sub_cons rfl (sub_cons rfl (sub_cons rfl sub_nil)))
    · refine RK.of (RN.ict (cd := .ge) (off := 39) (tgt := 51) (by decide +kernel) (mif_ge hb)) ?_
      exact RK.sub (hK0 _ _ hL hJ hF) (sub_cons rfl sub_nil)
noncomputable def GX1_meantHoles (h : MH) : Option (Int × MH) :=
  GX1_meantHoles_L4 (fun w1 h2 =>
   some (w1, h2)) FU 0 0 h
theorem DX1_meantHoles {d : Nat} {h : MH} {r : Int × MH} (hL : LR h) (hF : GX1_meantHoles h = some r) : RN xs L iX1_meantHoles (d + 3) 0 (lvE 0 [.inr (.inr 298)]) [] h (RIo r) ∧ LR r.2 ∧ KD h r.2 := by
  unfold GX1_meantHoles at hF
  have hK : KD h h := KD.rf
  show RK xs L iX1_meantHoles (d + 3) 0 (lvE 0 [.inr (.inr 298)]) [] h (RIo r) h r.2
  refine RK.of (RN.blk (ops := [(0, .iconst 0), (1, .istore_n 1), (2, .iconst 0), (3, .istore_n 2)]) (pc' := 4) (lv' := [(2, .inl 0), (1, .inl 0), (0, .inr (.inr 298))]) (st' := []) (h' := h) (cs := []) (by decide +kernel) rfl trivial) ?_
  refine RK.sub (DX1_meantHoles_L4 hK ?_ _ _ _ _ hL KD.rf hF) (sub_cons rfl (sub_cons rfl (sub_cons rfl sub_nil)))
  · intro w1 h2 hL hq hF
    have hK := hK.tr hq
    refine RK.of (RN.blk (ops := [(51, .iload_n 1)]) (pc' := 52) (lv' := [(1, .inl w1)]) (st' := [.inl w1]) (h' := h2) (cs := []) (by decide +kernel) rfl trivial) ?_
    exact RK.iR (by decide +kernel) rfl hL hK hF
noncomputable def GX1_decides_L13 (u1 : Int) (u2 : Int) (K0 : MH → Option (Int × MH)) (K1 : MH → Option (Int × MH)) : Nat → Int → MH → Option (Int × MH)
  | 0, _, _ => none
  | f + 1, v3, h =>
    gd [TO h (m_rd h 298 0) 8] (
     (if v3 < (m_rd h (m_rd h 298 0) 3) then
      gd [TO h (m_rd h 298 0) 8] (bd (GX8_digitOf (m_rd h 298 0) v3 u1 h) (fun x2 h1 =>
       (bd (GX1_isMeant v3 h1) (fun x4 h3 =>
        (if x4 = 0 then
         GX1_decides_L13 u1 u2 K0 K1 f (m_w32 (v3 + 1)) h3
        else
         (bd (GX1_holeFor v3 h3) (fun x6 h5 =>
          (bd (GX1_holeFor (m_w32 (v3 - (m_w32 (x2 * u2)))) h5) (fun x8 h7 =>
           (if x6 = x8 then
            GX1_decides_L13 u1 u2 K0 K1 f (m_w32 (v3 + 1)) h7
           else
            K0 h7))))))))))
     else
      K1 h))
theorem DX1_decides_L13 {d : Nat} {u1 : Int} {u2 : Int} {K0 : MH → Option (Int × MH)} {K1 : MH → Option (Int × MH)} {r : Int × MH} {h0 hB : MH} (hB0 : KD h0 hB) (hK0 : ∀ (h : MH), LR h → KD hB h → K0 h = some r → RK xs L iX1_decides (d + 3) 61 [] [] h (RIo r) h0 r.2) (hK1 : ∀ (h : MH), LR h → KD hB h → K1 h = some r → RK xs L iX1_decides (d + 3) 69 [] [] h (RIo r) h0 r.2) : ∀ (f : Nat) (v3 : Int) (h : MH), LR h → KD hB h → GX1_decides_L13 u1 u2 K0 K1 f v3 h = some r → RK xs L iX1_decides (d + 3) 13 [(0, .inr (.inr 298)), (1, .inl u1), (2, .inl u2), (3, .inl v3)] [] h (RIo r) h0 r.2 := by
  intro f
  induction f with
  | zero =>
    intro v3 h hL hJ hF
    cases hF
  | succ f ih =>
    intro v3 h hL hJ hF
    unfold GX1_decides_L13 at hF
    have hK := hB0.tr hJ
    obtain ⟨hc, hF⟩ := gd_of hF
    refine RK.of (RN.blk (ops := [(13, .iload_n 3), (14, .aload_n 0), (15, .getfield 12), (18, .getfield 38)]) (pc' := 21) (lv' := [(0, .inr (.inr 298)), (1, .inl u1), (2, .inl u2), (3, .inl v3)]) (st' := [.inl (m_rd h (m_rd h 298 0) 3), .inl v3]) (h' := h) (cs := [GK h 298 1, GK h (m_rd h 298 0) 8]) (by decide +kernel) rfl ⟨(o_298 hL).gk, (TO.gk hc.1), trivial⟩) ?_
    rcases it_of hF with ⟨hb, hF⟩ | ⟨hb, hF⟩
    · refine RK.of (RN.icf (cd := .ge) (off := 48) (tgt := 69) (by decide +kernel) (mif_gen hb)) ?_
      refine RK.of (RN.blk (ops := [(24, .iload_n 3), (25, .aload_n 0), (26, .getfield 12), (29, .iload_n 3), (30, .iload_n 1)]) (pc' := 31) (lv' := [(0, .inr (.inr 298)), (1, .inl u1), (2, .inl u2), (3, .inl v3)]) (st' := [.inl u1, .inl v3, .inr (.inr (m_rd h 298 0)), .inl v3]) (h' := h) (cs := [GK h 298 1]) (by decide +kernel) rfl ⟨(o_298 hL).gk, trivial⟩) ?_
      obtain ⟨hc, hF⟩ := gd_of hF
      obtain ⟨x2, h1, hG, hF⟩ := bd_of hF
      have hq := rcv_ok (as := [.inl v3, .inl u1]) (TO.gk hc.1)
      obtain ⟨hN, hL, hQ⟩ := DX8_digitOf (d := d + 1) hL hc.1 hG
      refine RK.of (RN.cv (i := 80) (k := 87) (q2 := iX8_digitOf) (as := [.inr (.inr (m_rd h 298 0)), .inl v3, .inl u1]) (r := [.inl v3]) (v := some (.inl x2)) (h1 := h1) (by decide +kernel) rfl rfl rfl rfl rfl hq hN) ?_
      have hK := hK.tr hQ
      have hJ := hJ.tr hQ
      refine RK.of (RN.blk (ops := [(34, .iload_n 2), (35, .imul), (36, .isub), (37, .istore 4), (39, .aload_n 0), (40, .iload_n 3)]) (pc' := 41) (lv' := [(4, .inl (m_w32 (v3 - (m_w32 (x2 * u2))))), (0, .inr (.inr 298)), (1, .inl u1), (2, .inl u2), (3, .inl v3)]) (st' := [.inl v3, .inr (.inr 298)]) (h' := h1) (cs := []) (by decide +kernel) rfl trivial) ?_
      obtain ⟨x4, h3, hG, hF⟩ := bd_of hF
      have hq := rcv_ok (as := [.inl v3]) (TO.gk (o_298 hL))
      obtain ⟨hN, hL, hQ⟩ := DX1_isMeant (d := d) hL  hG
      refine RK.of (RN.cv (i := 84) (k := 20) (q2 := iX1_isMeant) (as := [.inr (.inr 298), .inl v3]) (r := []) (v := some (.inl x4)) (h1 := h3) (by decide +kernel) rfl rfl rfl rfl rfl hq hN) ?_
      have hK := hK.tr hQ
      have hJ := hJ.tr hQ
      rcases it_of hF with ⟨hb, hF⟩ | ⟨hb, hF⟩
      · refine RK.of (RN.ift (cd := .eq) (off := 19) (tgt := 63) (by decide +kernel) (mif_eq hb)) ?_
        refine RK.of (RN.blk (ops := [(63, .iinc 3 1)]) (pc' := 66) (lv' := [(3, .inl (m_w32 (v3 + 1))), (4, .inl (m_w32 (v3 - (m_w32 (x2 * u2))))), (0, .inr (.inr 298)), (1, .inl u1), (2, .inl u2)]) (st' := []) (h' := h3) (cs := []) (by decide +kernel) rfl trivial) ?_
        refine RK.of (RN.goto (off := -53) (tgt := 13) (by decide +kernel)) ?_
        exact RK.sub (ih _ _ hL hJ hF) (sub_cons rfl (sub_cons rfl (sub_cons rfl (sub_cons rfl sub_nil))))
      · refine RK.of (RN.iff (cd := .eq) (off := 19) (tgt := 63) (by decide +kernel) (mif_eqn hb)) ?_
        refine RK.of (RN.blk (ops := [(47, .aload_n 0), (48, .iload_n 3)]) (pc' := 49) (lv' := [(4, .inl (m_w32 (v3 - (m_w32 (x2 * u2))))), (0, .inr (.inr 298)), (1, .inl u1), (2, .inl u2), (3, .inl v3)]) (st' := [.inl v3, .inr (.inr 298)]) (h' := h3) (cs := []) (by decide +kernel) rfl trivial) ?_
        obtain ⟨x6, h5, hG, hF⟩ := bd_of hF
        have hq := rcv_ok (as := [.inl v3]) (TO.gk (o_298 hL))
        obtain ⟨hN, hL, hQ⟩ := DX1_holeFor (d := d) hL  hG
        refine RK.of (RN.cv (i := 74) (k := 15) (q2 := iX1_holeFor) (as := [.inr (.inr 298), .inl v3]) (r := []) (v := some (.inl x6)) (h1 := h5) (by decide +kernel) rfl rfl rfl rfl rfl hq hN) ?_
        have hK := hK.tr hQ
        have hJ := hJ.tr hQ
        refine RK.of (RN.blk (ops := [(52, .aload_n 0), (53, .iload 4)]) (pc' := 55) (lv' := [(4, .inl (m_w32 (v3 - (m_w32 (x2 * u2))))), (0, .inr (.inr 298)), (1, .inl u1), (2, .inl u2), (3, .inl v3)]) (st' := [.inl (m_w32 (v3 - (m_w32 (x2 * u2)))), .inr (.inr 298), .inl x6]) (h' := h5) (cs := []) (by decide +kernel) rfl trivial) ?_
        obtain ⟨x8, h7, hG, hF⟩ := bd_of hF
        have hq := rcv_ok (as := [.inl (m_w32 (v3 - (m_w32 (x2 * u2))))]) (TO.gk (o_298 hL))
        obtain ⟨hN, hL, hQ⟩ := DX1_holeFor (d := d) hL  hG
        refine RK.of (RN.cv (i := 74) (k := 15) (q2 := iX1_holeFor) (as := [.inr (.inr 298), .inl (m_w32 (v3 - (m_w32 (x2 * u2))))]) (r := [.inl x6]) (v := some (.inl x8)) (h1 := h7) (by decide +kernel) rfl rfl rfl rfl rfl hq hN) ?_
        have hK := hK.tr hQ
        have hJ := hJ.tr hQ
        rcases it_of hF with ⟨hb, hF⟩ | ⟨hb, hF⟩
        · refine RK.of (RN.ict (cd := .eq) (off := 5) (tgt := 63) (by decide +kernel) (mif_eq hb)) ?_
          refine RK.of (RN.blk (ops := [(63, .iinc 3 1)]) (pc' := 66) (lv' := [(3, .inl (m_w32 (v3 + 1))), (4, .inl (m_w32 (v3 - (m_w32 (x2 * u2))))), (0, .inr (.inr 298)), (1, .inl u1), (2, .inl u2)]) (st' := []) (h' := h7) (cs := []) (by decide +kernel) rfl trivial) ?_
          refine RK.of (RN.goto (off := -53) (tgt := 13) (by decide +kernel)) ?_
          exact RK.sub (ih _ _ hL hJ hF) (sub_cons rfl (sub_cons rfl (sub_cons rfl (sub_cons rfl sub_nil))))
        · refine RK.of (RN.icf (cd := .eq) (off := 5) (tgt := 63) (by decide +kernel) (mif_eqn hb)) ?_
          exact RK.sub (hK0 _ hL hJ hF) sub_nil
    · refine RK.of (RN.ict (cd := .ge) (off := 48) (tgt := 69) (by decide +kernel) (mif_ge hb)) ?_
      exact RK.sub (hK1 _ hL hJ hF) sub_nil
noncomputable def GX1_decides (a1 : Int) (h : MH) : Option (Int × MH) :=
  gd [TO h (m_rd h 298 0) 8] (bd (GX8_spanOf (m_rd h 298 0) (m_w32 (a1 + 1)) h) (fun x2 h1 =>
   GX1_decides_L13 a1 x2 (fun h3 =>
    some (1, h3)) (fun h4 =>
    some (0, h4)) FU 0 h1))
theorem DX1_decides {d : Nat} {a1 : Int} {h : MH} {r : Int × MH} (hL : LR h) (hF : GX1_decides a1 h = some r) : RN xs L iX1_decides (d + 3) 0 (lvE 0 [.inr (.inr 298), .inl a1]) [] h (RIo r) ∧ LR r.2 ∧ KD h r.2 := by
  unfold GX1_decides at hF
  have hK : KD h h := KD.rf
  show RK xs L iX1_decides (d + 3) 0 (lvE 0 [.inr (.inr 298), .inl a1]) [] h (RIo r) h r.2
  refine RK.of (RN.blk (ops := [(0, .aload_n 0), (1, .getfield 12), (4, .iload_n 1), (5, .iconst 1), (6, .iadd)]) (pc' := 7) (lv' := [(0, .inr (.inr 298)), (1, .inl a1)]) (st' := [.inl (m_w32 (a1 + 1)), .inr (.inr (m_rd h 298 0))]) (h' := h) (cs := [GK h 298 1]) (by decide +kernel) rfl ⟨(o_298 hL).gk, trivial⟩) ?_
  obtain ⟨hc, hF⟩ := gd_of hF
  obtain ⟨x2, h1, hG, hF⟩ := bd_of hF
  have hq := rcv_ok (as := [.inl (m_w32 (a1 + 1))]) (TO.gk hc.1)
  obtain ⟨hN, hL, hQ⟩ := DX8_spanOf (d := d + 2) hL hc.1 hG
  refine RK.of (RN.cv (i := 54) (k := 85) (q2 := iX8_spanOf) (as := [.inr (.inr (m_rd h 298 0)), .inl (m_w32 (a1 + 1))]) (r := []) (v := some (.inl x2)) (h1 := h1) (by decide +kernel) rfl rfl rfl rfl rfl hq hN) ?_
  have hK := hK.tr hQ
  refine RK.of (RN.blk (ops := [(10, .istore_n 2), (11, .iconst 0), (12, .istore_n 3)]) (pc' := 13) (lv' := [(3, .inl 0), (2, .inl x2), (0, .inr (.inr 298)), (1, .inl a1)]) (st' := []) (h' := h1) (cs := []) (by decide +kernel) rfl trivial) ?_
  refine RK.sub (DX1_decides_L13 hK ?_ ?_ _ _ _ hL KD.rf hF) (sub_cons rfl (sub_cons rfl (sub_cons rfl (sub_cons rfl sub_nil))))
  · intro h3 hL hq hF
    have hK := hK.tr hq
    refine RK.of (RN.blk (ops := [(61, .iconst 1)]) (pc' := 62) (lv' := []) (st' := [.inl 1]) (h' := h3) (cs := []) (by decide +kernel) rfl trivial) ?_
    exact RK.zR (by decide +kernel) rfl (Or.inr rfl) hL hK hF
  · intro h4 hL hq hF
    have hK := hK.tr hq
    refine RK.of (RN.blk (ops := [(69, .iconst 0)]) (pc' := 70) (lv' := []) (st' := [.inl 0]) (h' := h4) (cs := []) (by decide +kernel) rfl trivial) ?_
    exact RK.zR (by decide +kernel) rfl (Or.inl rfl) hL hK hF
noncomputable def GX1_setToRead_L4 (K0 : Int → MH → Option (Int × MH)) : Nat → Int → Int → MH → Option (Int × MH)
  | 0, _, _, _ => none
  | f + 1, v1, v2, h =>
    gd [TO h (m_rd h 298 0) 8] (
     (if v2 < (m_rd h (m_rd h 298 0) 1) then
      gd [IB v2 4] (
       (if (m_rd h 307 v2) = 9 then
        (bd (GX1_decides v2 h) (fun x2 h1 =>
         (if x2 = 0 then
          GX1_setToRead_L4 K0 f v1 (m_w32 (v2 + 1)) h1
         else
          GX1_setToRead_L4 K0 f (m_bor v1 (m_shl 1 v2)) (m_w32 (v2 + 1)) h1)))
       else
        GX1_setToRead_L4 K0 f v1 (m_w32 (v2 + 1)) h))
     else
      K0 v1 h))
theorem DX1_setToRead_L4 {d : Nat} {K0 : Int → MH → Option (Int × MH)} {r : Int × MH} {h0 hB : MH} (hB0 : KD h0 hB) (hK0 : ∀ (w1 : Int) (h : MH), LR h → KD hB h → K0 w1 h = some r → RK xs L iX1_setToRead (d + 4) 46 [(1, .inl w1)] [] h (RIo r) h0 r.2) : ∀ (f : Nat) (v1 : Int) (v2 : Int) (h : MH), LR h → KD hB h → GX1_setToRead_L4 K0 f v1 v2 h = some r → RK xs L iX1_setToRead (d + 4) 4 [(0, .inr (.inr 298)), (1, .inl v1), (2, .inl v2)] [] h (RIo r) h0 r.2 := by
  intro f
  induction f with
  | zero =>
    intro v1 v2 h hL hJ hF
    cases hF
  | succ f ih =>
    intro v1 v2 h hL hJ hF
    unfold GX1_setToRead_L4 at hF
    have hK := hB0.tr hJ
    obtain ⟨hc, hF⟩ := gd_of hF
    refine RK.of (RN.blk (ops := [(4, .iload_n 2), (5, .aload_n 0), (6, .getfield 12), (9, .getfield 42)]) (pc' := 12) (lv' := [(0, .inr (.inr 298)), (1, .inl v1), (2, .inl v2)]) (st' := [.inl (m_rd h (m_rd h 298 0) 1), .inl v2]) (h' := h) (cs := [GK h 298 1, GK h (m_rd h 298 0) 8]) (by decide +kernel) rfl ⟨(o_298 hL).gk, (TO.gk hc.1), trivial⟩) ?_
    rcases it_of hF with ⟨hb, hF⟩ | ⟨hb, hF⟩
    · refine RK.of (RN.icf (cd := .ge) (off := 34) (tgt := 46) (by decide +kernel) (mif_gen hb)) ?_
      refine RK.of (RN.blk (ops := [(15, .aload_n 0)]) (pc' := 16) (lv' := [(0, .inr (.inr 298)), (1, .inl v1), (2, .inl v2)]) (st' := [.inr (.inr 298)]) (h' := h) (cs := []) (by decide +kernel) rfl trivial) ?_
      refine RK.of (RN.gr (i := 29) (ci := 1) (k := 3) (fn := true) (v := 307) (by decide +kernel) rfl (TO.gk (o_298 hL)) (hL.fa (v := 307) 3 1 4 (o_298 hL) rfl (by decide) rfl (by decide)).1) ?_
      obtain ⟨hc, hF⟩ := gd_of hF
      refine RK.of (RN.blk (ops := [(19, .iload_n 2), (20, .iaload), (21, .bipush 9)]) (pc' := 23) (lv' := [(0, .inr (.inr 298)), (1, .inl v1), (2, .inl v2)]) (st' := [.inl 9, .inl (m_rd h 307 v2)]) (h' := h) (cs := [GI h 307 1 v2]) (by decide +kernel) rfl ⟨(a_307 hL).gi hc.1.1 hc.1.2, trivial⟩) ?_
      rcases it_of hF with ⟨hb, hF⟩ | ⟨hb, hF⟩
      · refine RK.of (RN.icf (cd := .ne) (off := 17) (tgt := 40) (by decide +kernel) (mif_nen hb)) ?_
        refine RK.of (RN.blk (ops := [(26, .aload_n 0), (27, .iload_n 2)]) (pc' := 28) (lv' := [(0, .inr (.inr 298)), (1, .inl v1), (2, .inl v2)]) (st' := [.inl v2, .inr (.inr 298)]) (h' := h) (cs := []) (by decide +kernel) rfl trivial) ?_
        obtain ⟨x2, h1, hG, hF⟩ := bd_of hF
        have hq := rcv_ok (as := [.inl v2]) (TO.gk (o_298 hL))
        obtain ⟨hN, hL, hQ⟩ := DX1_decides (d := d) hL  hG
        refine RK.of (RN.cv (i := 87) (k := 23) (q2 := iX1_decides) (as := [.inr (.inr 298), .inl v2]) (r := []) (v := some (.inl x2)) (h1 := h1) (by decide +kernel) rfl rfl rfl rfl rfl hq hN) ?_
        have hK := hK.tr hQ
        have hJ := hJ.tr hQ
        rcases it_of hF with ⟨hb, hF⟩ | ⟨hb, hF⟩
        · refine RK.of (RN.ift (cd := .eq) (off := 9) (tgt := 40) (by decide +kernel) (mif_eq hb)) ?_
          refine RK.of (RN.blk (ops := [(40, .iinc 2 1)]) (pc' := 43) (lv' := [(2, .inl (m_w32 (v2 + 1))), (0, .inr (.inr 298)), (1, .inl v1)]) (st' := []) (h' := h1) (cs := []) (by decide +kernel) rfl trivial) ?_
          refine RK.of (RN.goto (off := -39) (tgt := 4) (by decide +kernel)) ?_
          exact RK.sub (ih _ _ _ hL hJ hF) (sub_cons rfl (sub_cons rfl (sub_cons rfl sub_nil)))
        · refine RK.of (RN.iff (cd := .eq) (off := 9) (tgt := 40) (by decide +kernel) (mif_eqn hb)) ?_
          refine RK.of (RN.blk (ops := [(34, .iload_n 1), (35, .iconst 1), (36, .iload_n 2), (37, .ishl), (38, .ior), (39, .istore_n 1)]) (pc' := 40) (lv' := [(1, .inl (m_bor v1 (m_shl 1 v2))), (0, .inr (.inr 298)), (2, .inl v2)]) (st' := []) (h' := h1) (cs := []) (by decide +kernel) rfl trivial) ?_
          refine RK.of (RN.blk (ops := [(40, .iinc 2 1)]) (pc' := 43) (lv' := [(2, .inl (m_w32 (v2 + 1))), (1, .inl (m_bor v1 (m_shl 1 v2))), (0, .inr (.inr 298))]) (st' := []) (h' := h1) (cs := []) (by decide +kernel) rfl trivial) ?_
          refine RK.of (RN.goto (off := -39) (tgt := 4) (by decide +kernel)) ?_
          exact RK.sub (ih _ _ _ hL hJ hF) (sub_cons rfl (sub_cons rfl (sub_cons rfl sub_nil)))
      · refine RK.of (RN.ict (cd := .ne) (off := 17) (tgt := 40) (by decide +kernel) (mif_ne hb)) ?_
        refine RK.of (RN.blk (ops := [(40, .iinc 2 1)]) (pc' := 43) (lv' := [(2, .inl (m_w32 (v2 + 1))), (0, .inr (.inr 298)), (1, .inl v1)]) (st' := []) (h' := h) (cs := []) (by decide +kernel) rfl trivial) ?_
        refine RK.of (RN.goto (off := -39) (tgt := 4) (by decide +kernel)) ?_
        exact RK.sub (ih _ _ _ hL hJ hF) (sub_cons rfl (sub_cons rfl (sub_cons rfl sub_nil)))
    · refine RK.of (RN.ict (cd := .ge) (off := 34) (tgt := 46) (by decide +kernel) (mif_ge hb)) ?_
      exact RK.sub (hK0 _ _ hL hJ hF) (sub_cons rfl sub_nil)
noncomputable def GX1_setToRead (h : MH) : Option (Int × MH) :=
  GX1_setToRead_L4 (fun w1 h2 =>
   some (w1, h2)) FU 0 0 h
theorem DX1_setToRead {d : Nat} {h : MH} {r : Int × MH} (hL : LR h) (hF : GX1_setToRead h = some r) : RN xs L iX1_setToRead (d + 4) 0 (lvE 0 [.inr (.inr 298)]) [] h (RIo r) ∧ LR r.2 ∧ KD h r.2 := by
  unfold GX1_setToRead at hF
  have hK : KD h h := KD.rf
  show RK xs L iX1_setToRead (d + 4) 0 (lvE 0 [.inr (.inr 298)]) [] h (RIo r) h r.2
  refine RK.of (RN.blk (ops := [(0, .iconst 0), (1, .istore_n 1), (2, .iconst 0), (3, .istore_n 2)]) (pc' := 4) (lv' := [(2, .inl 0), (1, .inl 0), (0, .inr (.inr 298))]) (st' := []) (h' := h) (cs := []) (by decide +kernel) rfl trivial) ?_
  refine RK.sub (DX1_setToRead_L4 hK ?_ _ _ _ _ hL KD.rf hF) (sub_cons rfl (sub_cons rfl (sub_cons rfl sub_nil)))
  · intro w1 h2 hL hq hF
    have hK := hK.tr hq
    refine RK.of (RN.blk (ops := [(46, .iload_n 1)]) (pc' := 47) (lv' := [(1, .inl w1)]) (st' := [.inl w1]) (h' := h2) (cs := []) (by decide +kernel) rfl trivial) ?_
    exact RK.iR (by decide +kernel) rfl hL hK hF
noncomputable def GX1_slipsOf_L56 (u1 : Int) (u3 : Int) (u4 : Int) (u5 : Int) (u6 : Int) (K0 : Int → MH → Option (Int × MH)) : Nat → Int → Int → MH → Option (Int × MH)
  | 0, _, _, _ => none
  | f + 1, v2, v7, h =>
    gd [TO h (m_rd h 298 0) 8] (
     (if v7 < (m_rd h (m_rd h 298 0) 0) then
      (bd (GX1_holeFor (m_w32 (u6 + (m_w32 (v7 * u5)))) h) (fun x2 h1 =>
       (if x2 = u3 then
        GX1_slipsOf_L56 u1 u3 u4 u5 u6 K0 f v2 (m_w32 (v7 + 1)) h1
       else
        GX1_slipsOf_L56 u1 u3 u4 u5 u6 K0 f (m_w32 (v2 + 1)) (m_w32 (v7 + 1)) h1)))
     else
      K0 v2 h))
theorem DX1_slipsOf_L56 {d : Nat} {u1 : Int} {u3 : Int} {u4 : Int} {u5 : Int} {u6 : Int} {K0 : Int → MH → Option (Int × MH)} {r : Int × MH} {h0 hB : MH} (hB0 : KD h0 hB) (hK0 : ∀ (w2 : Int) (h : MH), LR h → KD hB h → K0 w2 h = some r → RK xs L iX1_slipsOf (d + 3) 93 [(0, .inr (.inr 298)), (1, .inl u1), (2, .inl w2), (3, .inl u3), (4, .inl u4)] [] h (RIo r) h0 r.2) : ∀ (f : Nat) (v2 : Int) (v7 : Int) (h : MH), LR h → KD hB h → GX1_slipsOf_L56 u1 u3 u4 u5 u6 K0 f v2 v7 h = some r → RK xs L iX1_slipsOf (d + 3) 56 [(0, .inr (.inr 298)), (1, .inl u1), (2, .inl v2), (3, .inl u3), (4, .inl u4), (5, .inl u5), (6, .inl u6), (7, .inl v7)] [] h (RIo r) h0 r.2 := by
  intro f
  induction f with
  | zero =>
    intro v2 v7 h hL hJ hF
    cases hF
  | succ f ih =>
    intro v2 v7 h hL hJ hF
    unfold GX1_slipsOf_L56 at hF
    have hK := hB0.tr hJ
    obtain ⟨hc, hF⟩ := gd_of hF
    refine RK.of (RN.blk (ops := [(56, .iload 7), (58, .aload_n 0), (59, .getfield 12), (62, .getfield 77)]) (pc' := 65) (lv' := [(0, .inr (.inr 298)), (1, .inl u1), (2, .inl v2), (3, .inl u3), (4, .inl u4), (5, .inl u5), (6, .inl u6), (7, .inl v7)]) (st' := [.inl (m_rd h (m_rd h 298 0) 0), .inl v7]) (h' := h) (cs := [GK h 298 1, GK h (m_rd h 298 0) 8]) (by decide +kernel) rfl ⟨(o_298 hL).gk, (TO.gk hc.1), trivial⟩) ?_
    rcases it_of hF with ⟨hb, hF⟩ | ⟨hb, hF⟩
    · refine RK.of (RN.icf (cd := .ge) (off := 28) (tgt := 93) (by decide +kernel) (mif_gen hb)) ?_
      refine RK.of (RN.blk (ops := [(68, .aload_n 0), (69, .iload 6), (71, .iload 7), (73, .iload 5), (75, .imul), (76, .iadd)]) (pc' := 77) (lv' := [(0, .inr (.inr 298)), (1, .inl u1), (2, .inl v2), (3, .inl u3), (4, .inl u4), (5, .inl u5), (6, .inl u6), (7, .inl v7)]) (st' := [.inl (m_w32 (u6 + (m_w32 (v7 * u5)))), .inr (.inr 298)]) (h' := h) (cs := []) (by decide +kernel) rfl trivial) ?_
      obtain ⟨x2, h1, hG, hF⟩ := bd_of hF
      have hq := rcv_ok (as := [.inl (m_w32 (u6 + (m_w32 (v7 * u5))))]) (TO.gk (o_298 hL))
      obtain ⟨hN, hL, hQ⟩ := DX1_holeFor (d := d) hL  hG
      refine RK.of (RN.cv (i := 74) (k := 15) (q2 := iX1_holeFor) (as := [.inr (.inr 298), .inl (m_w32 (u6 + (m_w32 (v7 * u5))))]) (r := []) (v := some (.inl x2)) (h1 := h1) (by decide +kernel) rfl rfl rfl rfl rfl hq hN) ?_
      have hK := hK.tr hQ
      have hJ := hJ.tr hQ
      refine RK.of (RN.blk (ops := [(80, .iload_n 3)]) (pc' := 81) (lv' := [(0, .inr (.inr 298)), (1, .inl u1), (2, .inl v2), (3, .inl u3), (4, .inl u4), (5, .inl u5), (6, .inl u6), (7, .inl v7)]) (st' := [.inl u3, .inl x2]) (h' := h1) (cs := []) (by decide +kernel) rfl trivial) ?_
      rcases it_of hF with ⟨hb, hF⟩ | ⟨hb, hF⟩
      · refine RK.of (RN.ict (cd := .eq) (off := 6) (tgt := 87) (by decide +kernel) (mif_eq hb)) ?_
        refine RK.of (RN.blk (ops := [(87, .iinc 7 1)]) (pc' := 90) (lv' := [(7, .inl (m_w32 (v7 + 1))), (0, .inr (.inr 298)), (1, .inl u1), (2, .inl v2), (3, .inl u3), (4, .inl u4), (5, .inl u5), (6, .inl u6)]) (st' := []) (h' := h1) (cs := []) (by decide +kernel) rfl trivial) ?_
        refine RK.of (RN.goto (off := -34) (tgt := 56) (by decide +kernel)) ?_
        exact RK.sub (ih _ _ _ hL hJ hF) (sub_cons rfl (sub_cons rfl (sub_cons rfl (sub_cons rfl (sub_cons rfl (sub_cons rfl (sub_cons rfl (sub_cons rfl sub_nil))))))))
      · refine RK.of (RN.icf (cd := .eq) (off := 6) (tgt := 87) (by decide +kernel) (mif_eqn hb)) ?_
        refine RK.of (RN.blk (ops := [(84, .iinc 2 1)]) (pc' := 87) (lv' := [(2, .inl (m_w32 (v2 + 1))), (0, .inr (.inr 298)), (1, .inl u1), (3, .inl u3), (4, .inl u4), (5, .inl u5), (6, .inl u6), (7, .inl v7)]) (st' := []) (h' := h1) (cs := []) (by decide +kernel) rfl trivial) ?_
        refine RK.of (RN.blk (ops := [(87, .iinc 7 1)]) (pc' := 90) (lv' := [(7, .inl (m_w32 (v7 + 1))), (2, .inl (m_w32 (v2 + 1))), (0, .inr (.inr 298)), (1, .inl u1), (3, .inl u3), (4, .inl u4), (5, .inl u5), (6, .inl u6)]) (st' := []) (h' := h1) (cs := []) (by decide +kernel) rfl trivial) ?_
        refine RK.of (RN.goto (off := -34) (tgt := 56) (by decide +kernel)) ?_
        exact RK.sub (ih _ _ _ hL hJ hF) (sub_cons rfl (sub_cons rfl (sub_cons rfl (sub_cons rfl (sub_cons rfl (sub_cons rfl (sub_cons rfl (sub_cons rfl sub_nil))))))))
    · refine RK.of (RN.ict (cd := .ge) (off := 28) (tgt := 93) (by decide +kernel) (mif_ge hb)) ?_
      exact RK.sub (hK0 _ _ hL hJ hF) (sub_cons rfl (sub_cons rfl (sub_cons rfl (sub_cons rfl (sub_cons rfl sub_nil)))))
noncomputable def GX1_slipsOf_L11 (u1 : Int) (u3 : Int) (K0 : Int → MH → Option (Int × MH)) : Nat → Int → Int → MH → Option (Int × MH)
  | 0, _, _, _ => none
  | f + 1, v2, v4, h =>
    gd [TO h (m_rd h 298 0) 8] (
     (if v4 < (m_rd h (m_rd h 298 0) 1) then
      gd [TO h (m_rd h 298 0) 8] (bd (GX8_spanOf (m_rd h 298 0) (m_w32 (v4 + 1)) h) (fun x2 h1 =>
       gd [TO h1 (m_rd h1 298 0) 8] (bd (GX8_digitOf (m_rd h1 298 0) u1 v4 h1) (fun x4 h3 =>
        GX1_slipsOf_L56 u1 u3 v4 x2 (m_w32 (u1 - (m_w32 (x4 * x2)))) (fun w5 h6 =>
         GX1_slipsOf_L11 u1 u3 K0 f w5 (m_w32 (v4 + 1)) h6) FU v2 0 h3))))
     else
      K0 v2 h))
theorem DX1_slipsOf_L11 {d : Nat} {u1 : Int} {u3 : Int} {K0 : Int → MH → Option (Int × MH)} {r : Int × MH} {h0 hB : MH} (hB0 : KD h0 hB) (hK0 : ∀ (w2 : Int) (h : MH), LR h → KD hB h → K0 w2 h = some r → RK xs L iX1_slipsOf (d + 3) 99 [(2, .inl w2)] [] h (RIo r) h0 r.2) : ∀ (f : Nat) (v2 : Int) (v4 : Int) (h : MH), LR h → KD hB h → GX1_slipsOf_L11 u1 u3 K0 f v2 v4 h = some r → RK xs L iX1_slipsOf (d + 3) 11 [(0, .inr (.inr 298)), (1, .inl u1), (2, .inl v2), (3, .inl u3), (4, .inl v4)] [] h (RIo r) h0 r.2 := by
  intro f
  induction f with
  | zero =>
    intro v2 v4 h hL hJ hF
    cases hF
  | succ f ih =>
    intro v2 v4 h hL hJ hF
    unfold GX1_slipsOf_L11 at hF
    have hK := hB0.tr hJ
    obtain ⟨hc, hF⟩ := gd_of hF
    refine RK.of (RN.blk (ops := [(11, .iload 4), (13, .aload_n 0), (14, .getfield 12), (17, .getfield 42)]) (pc' := 20) (lv' := [(0, .inr (.inr 298)), (1, .inl u1), (2, .inl v2), (3, .inl u3), (4, .inl v4)]) (st' := [.inl (m_rd h (m_rd h 298 0) 1), .inl v4]) (h' := h) (cs := [GK h 298 1, GK h (m_rd h 298 0) 8]) (by decide +kernel) rfl ⟨(o_298 hL).gk, (TO.gk hc.1), trivial⟩) ?_
    rcases it_of hF with ⟨hb, hF⟩ | ⟨hb, hF⟩
    · refine RK.of (RN.icf (cd := .ge) (off := 79) (tgt := 99) (by decide +kernel) (mif_gen hb)) ?_
      refine RK.of (RN.blk (ops := [(23, .aload_n 0), (24, .getfield 12), (27, .iload 4), (29, .iconst 1), (30, .iadd)]) (pc' := 31) (lv' := [(0, .inr (.inr 298)), (1, .inl u1), (2, .inl v2), (3, .inl u3), (4, .inl v4)]) (st' := [.inl (m_w32 (v4 + 1)), .inr (.inr (m_rd h 298 0))]) (h' := h) (cs := [GK h 298 1]) (by decide +kernel) rfl ⟨(o_298 hL).gk, trivial⟩) ?_
      obtain ⟨hc, hF⟩ := gd_of hF
      obtain ⟨x2, h1, hG, hF⟩ := bd_of hF
      have hq := rcv_ok (as := [.inl (m_w32 (v4 + 1))]) (TO.gk hc.1)
      obtain ⟨hN, hL, hQ⟩ := DX8_spanOf (d := d + 2) hL hc.1 hG
      refine RK.of (RN.cv (i := 54) (k := 85) (q2 := iX8_spanOf) (as := [.inr (.inr (m_rd h 298 0)), .inl (m_w32 (v4 + 1))]) (r := []) (v := some (.inl x2)) (h1 := h1) (by decide +kernel) rfl rfl rfl rfl rfl hq hN) ?_
      have hK := hK.tr hQ
      have hJ := hJ.tr hQ
      refine RK.of (RN.blk (ops := [(34, .istore 5), (36, .iload_n 1), (37, .aload_n 0), (38, .getfield 12), (41, .iload_n 1), (42, .iload 4)]) (pc' := 44) (lv' := [(5, .inl x2), (0, .inr (.inr 298)), (1, .inl u1), (2, .inl v2), (3, .inl u3), (4, .inl v4)]) (st' := [.inl v4, .inl u1, .inr (.inr (m_rd h1 298 0)), .inl u1]) (h' := h1) (cs := [GK h1 298 1]) (by decide +kernel) rfl ⟨(o_298 hL).gk, trivial⟩) ?_
      obtain ⟨hc, hF⟩ := gd_of hF
      obtain ⟨x4, h3, hG, hF⟩ := bd_of hF
      have hq := rcv_ok (as := [.inl u1, .inl v4]) (TO.gk hc.1)
      obtain ⟨hN, hL, hQ⟩ := DX8_digitOf (d := d + 1) hL hc.1 hG
      refine RK.of (RN.cv (i := 80) (k := 87) (q2 := iX8_digitOf) (as := [.inr (.inr (m_rd h1 298 0)), .inl u1, .inl v4]) (r := [.inl u1]) (v := some (.inl x4)) (h1 := h3) (by decide +kernel) rfl rfl rfl rfl rfl hq hN) ?_
      have hK := hK.tr hQ
      have hJ := hJ.tr hQ
      refine RK.of (RN.blk (ops := [(47, .iload 5), (49, .imul), (50, .isub), (51, .istore 6), (53, .iconst 0), (54, .istore 7)]) (pc' := 56) (lv' := [(7, .inl 0), (6, .inl (m_w32 (u1 - (m_w32 (x4 * x2))))), (5, .inl x2), (0, .inr (.inr 298)), (1, .inl u1), (2, .inl v2), (3, .inl u3), (4, .inl v4)]) (st' := []) (h' := h3) (cs := []) (by decide +kernel) rfl trivial) ?_
      refine RK.sub (DX1_slipsOf_L56 hK ?_ _ _ _ _ hL KD.rf hF) (sub_cons rfl (sub_cons rfl (sub_cons rfl (sub_cons rfl (sub_cons rfl (sub_cons rfl (sub_cons rfl (sub_cons rfl sub_nil))))))))
      · intro w5 h6 hL hq hF
        have hK := hK.tr hq
        have hJ := hJ.tr hq
        refine RK.of (RN.blk (ops := [(93, .iinc 4 1)]) (pc' := 96) (lv' := [(4, .inl (m_w32 (v4 + 1))), (0, .inr (.inr 298)), (1, .inl u1), (2, .inl w5), (3, .inl u3)]) (st' := []) (h' := h6) (cs := []) (by decide +kernel) rfl trivial) ?_
        refine RK.of (RN.goto (off := -85) (tgt := 11) (by decide +kernel)) ?_
        exact RK.sub (ih _ _ _ hL hJ hF) (sub_cons rfl (sub_cons rfl (sub_cons rfl (sub_cons rfl (sub_cons rfl sub_nil)))))
    · refine RK.of (RN.ict (cd := .ge) (off := 79) (tgt := 99) (by decide +kernel) (mif_ge hb)) ?_
      exact RK.sub (hK0 _ _ hL hJ hF) (sub_cons rfl sub_nil)
noncomputable def GX1_slipsOf (a1 : Int) (h : MH) : Option (Int × MH) :=
  (bd (GX1_holeFor a1 h) (fun x2 h1 =>
   GX1_slipsOf_L11 a1 x2 (fun w3 h4 =>
    some (w3, h4)) FU 0 0 h1))
theorem DX1_slipsOf {d : Nat} {a1 : Int} {h : MH} {r : Int × MH} (hL : LR h) (hF : GX1_slipsOf a1 h = some r) : RN xs L iX1_slipsOf (d + 3) 0 (lvE 0 [.inr (.inr 298), .inl a1]) [] h (RIo r) ∧ LR r.2 ∧ KD h r.2 := by
  unfold GX1_slipsOf at hF
  have hK : KD h h := KD.rf
  show RK xs L iX1_slipsOf (d + 3) 0 (lvE 0 [.inr (.inr 298), .inl a1]) [] h (RIo r) h r.2
  refine RK.of (RN.blk (ops := [(0, .iconst 0), (1, .istore_n 2), (2, .aload_n 0), (3, .iload_n 1)]) (pc' := 4) (lv' := [(2, .inl 0), (0, .inr (.inr 298)), (1, .inl a1)]) (st' := [.inl a1, .inr (.inr 298)]) (h' := h) (cs := []) (by decide +kernel) rfl trivial) ?_
  obtain ⟨x2, h1, hG, hF⟩ := bd_of hF
  have hq := rcv_ok (as := [.inl a1]) (TO.gk (o_298 hL))
  obtain ⟨hN, hL, hQ⟩ := DX1_holeFor (d := d) hL  hG
  refine RK.of (RN.cv (i := 74) (k := 15) (q2 := iX1_holeFor) (as := [.inr (.inr 298), .inl a1]) (r := []) (v := some (.inl x2)) (h1 := h1) (by decide +kernel) rfl rfl rfl rfl rfl hq hN) ?_
  have hK := hK.tr hQ
  refine RK.of (RN.blk (ops := [(7, .istore_n 3), (8, .iconst 0), (9, .istore 4)]) (pc' := 11) (lv' := [(4, .inl 0), (3, .inl x2), (2, .inl 0), (0, .inr (.inr 298)), (1, .inl a1)]) (st' := []) (h' := h1) (cs := []) (by decide +kernel) rfl trivial) ?_
  refine RK.sub (DX1_slipsOf_L11 hK ?_ _ _ _ _ hL KD.rf hF) (sub_cons rfl (sub_cons rfl (sub_cons rfl (sub_cons rfl (sub_cons rfl sub_nil)))))
  · intro w3 h4 hL hq hF
    have hK := hK.tr hq
    refine RK.of (RN.blk (ops := [(99, .iload_n 2)]) (pc' := 100) (lv' := [(2, .inl w3)]) (st' := [.inl w3]) (h' := h4) (cs := []) (by decide +kernel) rfl trivial) ?_
    exact RK.iR (by decide +kernel) rfl hL hK hF
noncomputable def GX1_mostSlipping_L10 (K0 : Int → MH → Option (Int × MH)) : Nat → Int → Int → Int → MH → Option (Int × MH)
  | 0, _, _, _, _ => none
  | f + 1, v1, v2, v3, h =>
    gd [TO h (m_rd h 298 0) 8] (
     (if v3 < (m_rd h (m_rd h 298 0) 3) then
      (bd (GX1_slipsOf v3 h) (fun x2 h1 =>
       (if v2 < x2 then
        GX1_mostSlipping_L10 K0 f v3 x2 (m_w32 (v3 + 1)) h1
       else
        GX1_mostSlipping_L10 K0 f v1 v2 (m_w32 (v3 + 1)) h1)))
     else
      K0 v1 h))
theorem DX1_mostSlipping_L10 {d : Nat} {K0 : Int → MH → Option (Int × MH)} {r : Int × MH} {h0 hB : MH} (hB0 : KD h0 hB) (hK0 : ∀ (w1 : Int) (h : MH), LR h → KD hB h → K0 w1 h = some r → RK xs L iX1_mostSlipping (d + 4) 45 [(1, .inl w1)] [] h (RIo r) h0 r.2) : ∀ (f : Nat) (v1 : Int) (v2 : Int) (v3 : Int) (h : MH), LR h → KD hB h → GX1_mostSlipping_L10 K0 f v1 v2 v3 h = some r → RK xs L iX1_mostSlipping (d + 4) 10 [(0, .inr (.inr 298)), (1, .inl v1), (2, .inl v2), (3, .inl v3)] [] h (RIo r) h0 r.2 := by
  intro f
  induction f with
  | zero =>
    intro v1 v2 v3 h hL hJ hF
    cases hF
  | succ f ih =>
    intro v1 v2 v3 h hL hJ hF
    unfold GX1_mostSlipping_L10 at hF
    have hK := hB0.tr hJ
    obtain ⟨hc, hF⟩ := gd_of hF
    refine RK.of (RN.blk (ops := [(10, .iload_n 3), (11, .aload_n 0), (12, .getfield 12), (15, .getfield 38)]) (pc' := 18) (lv' := [(0, .inr (.inr 298)), (1, .inl v1), (2, .inl v2), (3, .inl v3)]) (st' := [.inl (m_rd h (m_rd h 298 0) 3), .inl v3]) (h' := h) (cs := [GK h 298 1, GK h (m_rd h 298 0) 8]) (by decide +kernel) rfl ⟨(o_298 hL).gk, (TO.gk hc.1), trivial⟩) ?_
    rcases it_of hF with ⟨hb, hF⟩ | ⟨hb, hF⟩
    · refine RK.of (RN.icf (cd := .ge) (off := 27) (tgt := 45) (by decide +kernel) (mif_gen hb)) ?_
      refine RK.of (RN.blk (ops := [(21, .aload_n 0), (22, .iload_n 3)]) (pc' := 23) (lv' := [(0, .inr (.inr 298)), (1, .inl v1), (2, .inl v2), (3, .inl v3)]) (st' := [.inl v3, .inr (.inr 298)]) (h' := h) (cs := []) (by decide +kernel) rfl trivial) ?_
      obtain ⟨x2, h1, hG, hF⟩ := bd_of hF
      have hq := rcv_ok (as := [.inl v3]) (TO.gk (o_298 hL))
      obtain ⟨hN, hL, hQ⟩ := DX1_slipsOf (d := d) hL  hG
      refine RK.of (RN.cv (i := 90) (k := 24) (q2 := iX1_slipsOf) (as := [.inr (.inr 298), .inl v3]) (r := []) (v := some (.inl x2)) (h1 := h1) (by decide +kernel) rfl rfl rfl rfl rfl hq hN) ?_
      have hK := hK.tr hQ
      have hJ := hJ.tr hQ
      refine RK.of (RN.blk (ops := [(26, .istore 4), (28, .iload 4), (30, .iload_n 2)]) (pc' := 31) (lv' := [(4, .inl x2), (0, .inr (.inr 298)), (1, .inl v1), (2, .inl v2), (3, .inl v3)]) (st' := [.inl v2, .inl x2]) (h' := h1) (cs := []) (by decide +kernel) rfl trivial) ?_
      rcases it_of hF with ⟨hb, hF⟩ | ⟨hb, hF⟩
      · refine RK.of (RN.icf (cd := .le) (off := 8) (tgt := 39) (by decide +kernel) (mif_len hb)) ?_
        refine RK.of (RN.blk (ops := [(34, .iload 4), (36, .istore_n 2), (37, .iload_n 3), (38, .istore_n 1)]) (pc' := 39) (lv' := [(1, .inl v3), (2, .inl x2), (4, .inl x2), (0, .inr (.inr 298)), (3, .inl v3)]) (st' := []) (h' := h1) (cs := []) (by decide +kernel) rfl trivial) ?_
        refine RK.of (RN.blk (ops := [(39, .iinc 3 1)]) (pc' := 42) (lv' := [(3, .inl (m_w32 (v3 + 1))), (1, .inl v3), (2, .inl x2), (4, .inl x2), (0, .inr (.inr 298))]) (st' := []) (h' := h1) (cs := []) (by decide +kernel) rfl trivial) ?_
        refine RK.of (RN.goto (off := -32) (tgt := 10) (by decide +kernel)) ?_
        exact RK.sub (ih _ _ _ _ hL hJ hF) (sub_cons rfl (sub_cons rfl (sub_cons rfl (sub_cons rfl sub_nil))))
      · refine RK.of (RN.ict (cd := .le) (off := 8) (tgt := 39) (by decide +kernel) (mif_le hb)) ?_
        refine RK.of (RN.blk (ops := [(39, .iinc 3 1)]) (pc' := 42) (lv' := [(3, .inl (m_w32 (v3 + 1))), (4, .inl x2), (0, .inr (.inr 298)), (1, .inl v1), (2, .inl v2)]) (st' := []) (h' := h1) (cs := []) (by decide +kernel) rfl trivial) ?_
        refine RK.of (RN.goto (off := -32) (tgt := 10) (by decide +kernel)) ?_
        exact RK.sub (ih _ _ _ _ hL hJ hF) (sub_cons rfl (sub_cons rfl (sub_cons rfl (sub_cons rfl sub_nil))))
    · refine RK.of (RN.ict (cd := .ge) (off := 27) (tgt := 45) (by decide +kernel) (mif_ge hb)) ?_
      exact RK.sub (hK0 _ _ hL hJ hF) (sub_cons rfl sub_nil)
noncomputable def GX1_mostSlipping (h : MH) : Option (Int × MH) :=
  (bd (GX1_slipsOf 0 h) (fun x2 h1 =>
   GX1_mostSlipping_L10 (fun w3 h4 =>
    some (w3, h4)) FU 0 x2 1 h1))
theorem DX1_mostSlipping {d : Nat} {h : MH} {r : Int × MH} (hL : LR h) (hF : GX1_mostSlipping h = some r) : RN xs L iX1_mostSlipping (d + 4) 0 (lvE 0 [.inr (.inr 298)]) [] h (RIo r) ∧ LR r.2 ∧ KD h r.2 := by
  unfold GX1_mostSlipping at hF
  have hK : KD h h := KD.rf
  show RK xs L iX1_mostSlipping (d + 4) 0 (lvE 0 [.inr (.inr 298)]) [] h (RIo r) h r.2
  refine RK.of (RN.blk (ops := [(0, .iconst 0), (1, .istore_n 1), (2, .aload_n 0), (3, .iconst 0)]) (pc' := 4) (lv' := [(1, .inl 0), (0, .inr (.inr 298))]) (st' := [.inl 0, .inr (.inr 298)]) (h' := h) (cs := []) (by decide +kernel) rfl trivial) ?_
  obtain ⟨x2, h1, hG, hF⟩ := bd_of hF
  have hq := rcv_ok (as := [.inl 0]) (TO.gk (o_298 hL))
  obtain ⟨hN, hL, hQ⟩ := DX1_slipsOf (d := d) hL  hG
  refine RK.of (RN.cv (i := 90) (k := 24) (q2 := iX1_slipsOf) (as := [.inr (.inr 298), .inl 0]) (r := []) (v := some (.inl x2)) (h1 := h1) (by decide +kernel) rfl rfl rfl rfl rfl hq hN) ?_
  have hK := hK.tr hQ
  refine RK.of (RN.blk (ops := [(7, .istore_n 2), (8, .iconst 1), (9, .istore_n 3)]) (pc' := 10) (lv' := [(3, .inl 1), (2, .inl x2), (1, .inl 0), (0, .inr (.inr 298))]) (st' := []) (h' := h1) (cs := []) (by decide +kernel) rfl trivial) ?_
  refine RK.sub (DX1_mostSlipping_L10 hK ?_ _ _ _ _ _ hL KD.rf hF) (sub_cons rfl (sub_cons rfl (sub_cons rfl (sub_cons rfl sub_nil))))
  · intro w3 h4 hL hq hF
    have hK := hK.tr hq
    refine RK.of (RN.blk (ops := [(45, .iload_n 1)]) (pc' := 46) (lv' := [(1, .inl w3)]) (st' := [.inl w3]) (h' := h4) (cs := []) (by decide +kernel) rfl trivial) ?_
    exact RK.iR (by decide +kernel) rfl hL hK hF
noncomputable def GX1_idleEntries_L14 (K0 : Int → MH → Option (Int × MH)) : Nat → Int → Int → MH → Option (Int × MH)
  | 0, _, _, _ => none
  | f + 1, v1, v2, h =>
    gd [TO h (m_rd h 298 0) 8] (
     (if v2 < (m_rd h (m_rd h 298 0) 3) then
      (bd (GX1_entryFor v2 h) (fun x2 h1 =>
       (if x2 = (-1) then
        GX1_idleEntries_L14 K0 f v1 (m_w32 (v2 + 1)) h1
       else
        GX1_idleEntries_L14 K0 f (m_band v1 (m_bxor (m_shl 1 x2) (-1))) (m_w32 (v2 + 1)) h1)))
     else
      K0 v1 h))
theorem DX1_idleEntries_L14 {d : Nat} {K0 : Int → MH → Option (Int × MH)} {r : Int × MH} {h0 hB : MH} (hB0 : KD h0 hB) (hK0 : ∀ (w1 : Int) (h : MH), LR h → KD hB h → K0 w1 h = some r → RK xs L iX1_idleEntries (d + 2) 50 [(1, .inl w1)] [] h (RIo r) h0 r.2) : ∀ (f : Nat) (v1 : Int) (v2 : Int) (h : MH), LR h → KD hB h → GX1_idleEntries_L14 K0 f v1 v2 h = some r → RK xs L iX1_idleEntries (d + 2) 14 [(0, .inr (.inr 298)), (1, .inl v1), (2, .inl v2)] [] h (RIo r) h0 r.2 := by
  intro f
  induction f with
  | zero =>
    intro v1 v2 h hL hJ hF
    cases hF
  | succ f ih =>
    intro v1 v2 h hL hJ hF
    unfold GX1_idleEntries_L14 at hF
    have hK := hB0.tr hJ
    obtain ⟨hc, hF⟩ := gd_of hF
    refine RK.of (RN.blk (ops := [(14, .iload_n 2), (15, .aload_n 0), (16, .getfield 12), (19, .getfield 38)]) (pc' := 22) (lv' := [(0, .inr (.inr 298)), (1, .inl v1), (2, .inl v2)]) (st' := [.inl (m_rd h (m_rd h 298 0) 3), .inl v2]) (h' := h) (cs := [GK h 298 1, GK h (m_rd h 298 0) 8]) (by decide +kernel) rfl ⟨(o_298 hL).gk, (TO.gk hc.1), trivial⟩) ?_
    rcases it_of hF with ⟨hb, hF⟩ | ⟨hb, hF⟩
    · refine RK.of (RN.icf (cd := .ge) (off := 28) (tgt := 50) (by decide +kernel) (mif_gen hb)) ?_
      refine RK.of (RN.blk (ops := [(25, .aload_n 0), (26, .iload_n 2)]) (pc' := 27) (lv' := [(0, .inr (.inr 298)), (1, .inl v1), (2, .inl v2)]) (st' := [.inl v2, .inr (.inr 298)]) (h' := h) (cs := []) (by decide +kernel) rfl trivial) ?_
      obtain ⟨x2, h1, hG, hF⟩ := bd_of hF
      have hq := rcv_ok (as := [.inl v2]) (TO.gk (o_298 hL))
      obtain ⟨hN, hL, hQ⟩ := DX1_entryFor (d := d) hL  hG
      refine RK.of (RN.cv (i := 68) (k := 14) (q2 := iX1_entryFor) (as := [.inr (.inr 298), .inl v2]) (r := []) (v := some (.inl x2)) (h1 := h1) (by decide +kernel) rfl rfl rfl rfl rfl hq hN) ?_
      have hK := hK.tr hQ
      have hJ := hJ.tr hQ
      refine RK.of (RN.blk (ops := [(30, .istore_n 3), (31, .iload_n 3), (32, .iconst (-1))]) (pc' := 33) (lv' := [(3, .inl x2), (0, .inr (.inr 298)), (1, .inl v1), (2, .inl v2)]) (st' := [.inl (-1), .inl x2]) (h' := h1) (cs := []) (by decide +kernel) rfl trivial) ?_
      rcases it_of hF with ⟨hb, hF⟩ | ⟨hb, hF⟩
      · refine RK.of (RN.ict (cd := .eq) (off := 11) (tgt := 44) (by decide +kernel) (mif_eq hb)) ?_
        refine RK.of (RN.blk (ops := [(44, .iinc 2 1)]) (pc' := 47) (lv' := [(2, .inl (m_w32 (v2 + 1))), (3, .inl x2), (0, .inr (.inr 298)), (1, .inl v1)]) (st' := []) (h' := h1) (cs := []) (by decide +kernel) rfl trivial) ?_
        refine RK.of (RN.goto (off := -33) (tgt := 14) (by decide +kernel)) ?_
        exact RK.sub (ih _ _ _ hL hJ hF) (sub_cons rfl (sub_cons rfl (sub_cons rfl sub_nil)))
      · refine RK.of (RN.icf (cd := .eq) (off := 11) (tgt := 44) (by decide +kernel) (mif_eqn hb)) ?_
        refine RK.of (RN.blk (ops := [(36, .iload_n 1), (37, .iconst 1), (38, .iload_n 3), (39, .ishl), (40, .iconst (-1)), (41, .ixor), (42, .iand), (43, .istore_n 1)]) (pc' := 44) (lv' := [(1, .inl (m_band v1 (m_bxor (m_shl 1 x2) (-1)))), (3, .inl x2), (0, .inr (.inr 298)), (2, .inl v2)]) (st' := []) (h' := h1) (cs := []) (by decide +kernel) rfl trivial) ?_
        refine RK.of (RN.blk (ops := [(44, .iinc 2 1)]) (pc' := 47) (lv' := [(2, .inl (m_w32 (v2 + 1))), (1, .inl (m_band v1 (m_bxor (m_shl 1 x2) (-1)))), (3, .inl x2), (0, .inr (.inr 298))]) (st' := []) (h' := h1) (cs := []) (by decide +kernel) rfl trivial) ?_
        refine RK.of (RN.goto (off := -33) (tgt := 14) (by decide +kernel)) ?_
        exact RK.sub (ih _ _ _ hL hJ hF) (sub_cons rfl (sub_cons rfl (sub_cons rfl sub_nil)))
    · refine RK.of (RN.ict (cd := .ge) (off := 28) (tgt := 50) (by decide +kernel) (mif_ge hb)) ?_
      exact RK.sub (hK0 _ _ hL hJ hF) (sub_cons rfl sub_nil)
noncomputable def GX1_idleEntries (h : MH) : Option (Int × MH) :=
  gd [TO h (m_rd h 298 1) 4] (
   GX1_idleEntries_L14 (fun w1 h2 =>
    some (w1, h2)) FU (m_w32 ((m_shl 1 (m_rd h (m_rd h 298 1) 0)) - 1)) 0 h)
theorem DX1_idleEntries {d : Nat} {h : MH} {r : Int × MH} (hL : LR h) (hF : GX1_idleEntries h = some r) : RN xs L iX1_idleEntries (d + 2) 0 (lvE 0 [.inr (.inr 298)]) [] h (RIo r) ∧ LR r.2 ∧ KD h r.2 := by
  unfold GX1_idleEntries at hF
  have hK : KD h h := KD.rf
  show RK xs L iX1_idleEntries (d + 2) 0 (lvE 0 [.inr (.inr 298)]) [] h (RIo r) h r.2
  obtain ⟨hc, hF⟩ := gd_of hF
  refine RK.of (RN.blk (ops := [(0, .iconst 1), (1, .aload_n 0), (2, .getfield 21), (5, .getfield 45), (8, .ishl), (9, .iconst 1), (10, .isub), (11, .istore_n 1), (12, .iconst 0), (13, .istore_n 2)]) (pc' := 14) (lv' := [(2, .inl 0), (1, .inl (m_w32 ((m_shl 1 (m_rd h (m_rd h 298 1) 0)) - 1))), (0, .inr (.inr 298))]) (st' := []) (h' := h) (cs := [GK h 298 1, GK h (m_rd h 298 1) 4]) (by decide +kernel) rfl ⟨(o_298 hL).gk, (TO.gk hc.1), trivial⟩) ?_
  refine RK.sub (DX1_idleEntries_L14 hK ?_ _ _ _ _ hL KD.rf hF) (sub_cons rfl (sub_cons rfl (sub_cons rfl sub_nil)))
  · intro w1 h2 hL hq hF
    have hK := hK.tr hq
    refine RK.of (RN.blk (ops := [(50, .iload_n 1)]) (pc' := 51) (lv' := [(1, .inl w1)]) (st' := [.inl w1]) (h' := h2) (cs := []) (by decide +kernel) rfl trivial) ?_
    exact RK.iR (by decide +kernel) rfl hL hK hF
noncomputable def GX1_joinCosts_L22 (u1 : Int) (u2 : Int) (u3 : Int) (u4 : Int) (K0 : Int → MH → Option (MH)) : Nat → Int → Int → MH → Option (MH)
  | 0, _, _, _ => none
  | f + 1, v5, v6, h =>
    gd [TO h (m_rd h 298 0) 8] (
     (if v6 < (m_rd h (m_rd h 298 0) 0) then
      gd [TO h (m_rd h 298 0) 8, IB (m_w32 ((m_w32 ((m_w32 ((m_w32 (u1 * (m_rd h (m_rd h 298 0) 0))) + v6)) * u2)) + u4)) 1792] (
       GX1_joinCosts_L22 u1 u2 u3 u4 K0 f (m_w32 (v5 + (m_rd h 308 (m_w32 ((m_w32 ((m_w32 ((m_w32 (u1 * (m_rd h (m_rd h 298 0) 0))) + v6)) * u2)) + u4))))) (m_w32 (v6 + 1)) h)
     else
      K0 v5 h))
theorem DX1_joinCosts_L22 {d : Nat} {u1 : Int} {u2 : Int} {u3 : Int} {u4 : Int} {K0 : Int → MH → Option (MH)} {r : MH} {h0 hB : MH} (hB0 : KD h0 hB) (hK0 : ∀ (w5 : Int) (h : MH), LR h → KD hB h → K0 w5 h = some r → RK xs L iX1_joinCosts (d + 1) 67 [(0, .inr (.inr 298)), (1, .inl u1), (2, .inl u2), (3, .inl u3), (4, .inl u4), (5, .inl w5)] [] h (RVo r) h0 r) : ∀ (f : Nat) (v5 : Int) (v6 : Int) (h : MH), LR h → KD hB h → GX1_joinCosts_L22 u1 u2 u3 u4 K0 f v5 v6 h = some r → RK xs L iX1_joinCosts (d + 1) 22 [(0, .inr (.inr 298)), (1, .inl u1), (2, .inl u2), (3, .inl u3), (4, .inl u4), (5, .inl v5), (6, .inl v6)] [] h (RVo r) h0 r := by
  intro f
  induction f with
  | zero =>
    intro v5 v6 h hL hJ hF
    cases hF
  | succ f ih =>
    intro v5 v6 h hL hJ hF
    unfold GX1_joinCosts_L22 at hF
    have hK := hB0.tr hJ
    obtain ⟨hc, hF⟩ := gd_of hF
    refine RK.of (RN.blk (ops := [(22, .iload 6), (24, .aload_n 0), (25, .getfield 12), (28, .getfield 77)]) (pc' := 31) (lv' := [(0, .inr (.inr 298)), (1, .inl u1), (2, .inl u2), (3, .inl u3), (4, .inl u4), (5, .inl v5), (6, .inl v6)]) (st' := [.inl (m_rd h (m_rd h 298 0) 0), .inl v6]) (h' := h) (cs := [GK h 298 1, GK h (m_rd h 298 0) 8]) (by decide +kernel) rfl ⟨(o_298 hL).gk, (TO.gk hc.1), trivial⟩) ?_
    rcases it_of hF with ⟨hb, hF⟩ | ⟨hb, hF⟩
    · refine RK.of (RN.icf (cd := .ge) (off := 36) (tgt := 67) (by decide +kernel) (mif_gen hb)) ?_
      refine RK.of (RN.blk (ops := [(34, .iload 5), (36, .aload_n 0)]) (pc' := 37) (lv' := [(0, .inr (.inr 298)), (1, .inl u1), (2, .inl u2), (3, .inl u3), (4, .inl u4), (5, .inl v5), (6, .inl v6)]) (st' := [.inr (.inr 298), .inl v5]) (h' := h) (cs := []) (by decide +kernel) rfl trivial) ?_
      refine RK.of (RN.gr (i := 32) (ci := 1) (k := 4) (fn := true) (v := 308) (by decide +kernel) rfl (TO.gk (o_298 hL)) (hL.fa (v := 308) 4 1 1792 (o_298 hL) rfl (by decide) rfl (by decide)).1) ?_
      obtain ⟨hc, hF⟩ := gd_of hF
      refine RK.of (RN.blk (ops := [(40, .iload_n 1), (41, .aload_n 0), (42, .getfield 12), (45, .getfield 77), (48, .imul), (49, .iload 6), (51, .iadd), (52, .iload_n 2), (53, .imul), (54, .iload 4), (56, .iadd), (57, .iaload), (58, .iadd), (59, .istore 5), (61, .iinc 6 1)]) (pc' := 64) (lv' := [(6, .inl (m_w32 (v6 + 1))), (5, .inl (m_w32 (v5 + (m_rd h 308 (m_w32 ((m_w32 ((m_w32 ((m_w32 (u1 * (m_rd h (m_rd h 298 0) 0))) + v6)) * u2)) + u4)))))), (0, .inr (.inr 298)), (1, .inl u1), (2, .inl u2), (3, .inl u3), (4, .inl u4)]) (st' := []) (h' := h) (cs := [GK h 298 1, GK h (m_rd h 298 0) 8, GI h 308 1 (m_w32 ((m_w32 ((m_w32 ((m_w32 (u1 * (m_rd h (m_rd h 298 0) 0))) + v6)) * u2)) + u4))]) (by decide +kernel) rfl ⟨(o_298 hL).gk, (TO.gk hc.1), (a_308 hL).gi hc.2.1.1 hc.2.1.2, trivial⟩) ?_
      refine RK.of (RN.goto (off := -42) (tgt := 22) (by decide +kernel)) ?_
      exact RK.sub (ih _ _ _ hL hJ hF) (sub_cons rfl (sub_cons rfl (sub_cons rfl (sub_cons rfl (sub_cons rfl (sub_cons rfl (sub_cons rfl sub_nil)))))))
    · refine RK.of (RN.ict (cd := .ge) (off := 36) (tgt := 67) (by decide +kernel) (mif_ge hb)) ?_
      exact RK.sub (hK0 _ _ hL hJ hF) (sub_cons rfl (sub_cons rfl (sub_cons rfl (sub_cons rfl (sub_cons rfl (sub_cons rfl sub_nil))))))
noncomputable def GX1_joinCosts_L10 (u1 : Int) (u2 : Int) (K0 : Int → MH → Option (MH)) : Nat → Int → Int → MH → Option (MH)
  | 0, _, _, _ => none
  | f + 1, v3, v4, h =>
    (if v4 < u2 then
     GX1_joinCosts_L22 u1 u2 v3 v4 (fun w1 h2 =>
      gd [IB v4 7] (
       gd [TO (m_wr h2 309 v4 (m_mn w1 10000)) (m_rd (m_wr h2 309 v4 (m_mn w1 10000)) 298 0) 8] (
        (if v4 < (m_rd (m_wr h2 309 v4 (m_mn w1 10000)) (m_rd (m_wr h2 309 v4 (m_mn w1 10000)) 298 0) 2) then
         gd [IB v4 7] (
          GX1_joinCosts_L10 u1 u2 K0 f (m_mn v3 (m_rd (m_wr h2 309 v4 (m_mn w1 10000)) 309 v4)) (m_w32 (v4 + 1)) (m_wr h2 309 v4 (m_mn w1 10000)))
        else
         GX1_joinCosts_L10 u1 u2 K0 f v3 (m_w32 (v4 + 1)) (m_wr h2 309 v4 (m_mn w1 10000)))))) FU 0 0 h
    else
     K0 v3 h)
theorem DX1_joinCosts_L10 {d : Nat} {u1 : Int} {u2 : Int} {K0 : Int → MH → Option (MH)} {r : MH} {h0 hB : MH} (hB0 : KD h0 hB) (hK0 : ∀ (w3 : Int) (h : MH), LR h → KD hB h → K0 w3 h = some r → RK xs L iX1_joinCosts (d + 1) 112 [(0, .inr (.inr 298)), (1, .inl u1), (2, .inl u2), (3, .inl w3)] [] h (RVo r) h0 r) : ∀ (f : Nat) (v3 : Int) (v4 : Int) (h : MH), LR h → KD hB h → GX1_joinCosts_L10 u1 u2 K0 f v3 v4 h = some r → RK xs L iX1_joinCosts (d + 1) 10 [(0, .inr (.inr 298)), (1, .inl u1), (2, .inl u2), (3, .inl v3), (4, .inl v4)] [] h (RVo r) h0 r := by
  intro f
  induction f with
  | zero =>
    intro v3 v4 h hL hJ hF
    cases hF
  | succ f ih =>
    intro v3 v4 h hL hJ hF
    unfold GX1_joinCosts_L10 at hF
    have hK := hB0.tr hJ
    refine RK.of (RN.blk (ops := [(10, .iload 4), (12, .iload_n 2)]) (pc' := 13) (lv' := [(0, .inr (.inr 298)), (1, .inl u1), (2, .inl u2), (3, .inl v3), (4, .inl v4)]) (st' := [.inl u2, .inl v4]) (h' := h) (cs := []) (by decide +kernel) rfl trivial) ?_
    rcases it_of hF with ⟨hb, hF⟩ | ⟨hb, hF⟩
    · refine RK.of (RN.icf (cd := .ge) (off := 99) (tgt := 112) (by decide +kernel) (mif_gen hb)) ?_
      refine RK.of (RN.blk (ops := [(16, .iconst 0), (17, .istore 5), (19, .iconst 0), (20, .istore 6)]) (pc' := 22) (lv' := [(6, .inl 0), (5, .inl 0), (0, .inr (.inr 298)), (1, .inl u1), (2, .inl u2), (3, .inl v3), (4, .inl v4)]) (st' := []) (h' := h) (cs := []) (by decide +kernel) rfl trivial) ?_
      refine RK.sub (DX1_joinCosts_L22 hK ?_ _ _ _ _ hL KD.rf hF) (sub_cons rfl (sub_cons rfl (sub_cons rfl (sub_cons rfl (sub_cons rfl (sub_cons rfl (sub_cons rfl sub_nil)))))))
      · intro w1 h2 hL hq hF
        have hK := hK.tr hq
        have hJ := hJ.tr hq
        refine RK.of (RN.blk (ops := [(67, .aload_n 0)]) (pc' := 68) (lv' := [(0, .inr (.inr 298)), (1, .inl u1), (2, .inl u2), (3, .inl v3), (4, .inl v4), (5, .inl w1)]) (st' := [.inr (.inr 298)]) (h' := h2) (cs := []) (by decide +kernel) rfl trivial) ?_
        refine RK.of (RN.gr (i := 35) (ci := 1) (k := 5) (fn := true) (v := 309) (by decide +kernel) rfl (TO.gk (o_298 hL)) (hL.fa (v := 309) 5 1 7 (o_298 hL) rfl (by decide) rfl (by decide)).1) ?_
        refine RK.of (RN.blk (ops := [(71, .iload 4), (73, .iload 5), (75, .sipush 10000)]) (pc' := 78) (lv' := [(0, .inr (.inr 298)), (1, .inl u1), (2, .inl u2), (3, .inl v3), (4, .inl v4), (5, .inl w1)]) (st' := [.inl 10000, .inl w1, .inl v4, .inr (.inr 309)]) (h' := h2) (cs := []) (by decide +kernel) rfl trivial) ?_
        refine RK.of (RN.mn (i := 99) (by decide +kernel) rfl rfl) ?_
        obtain ⟨hc, hF⟩ := gd_of hF
        refine RK.of (RN.blk (ops := [(81, .iastore)]) (pc' := 82) (lv' := [(0, .inr (.inr 298)), (1, .inl u1), (2, .inl u2), (3, .inl v3), (4, .inl v4), (5, .inl w1)]) (st' := []) (h' := (m_wr h2 309 v4 (m_mn w1 10000))) (cs := [GI h2 309 1 v4]) (by decide +kernel) rfl ⟨(a_309 hL).gi hc.1.1 hc.1.2, trivial⟩) ?_
        have hL : LR (m_wr h2 309 v4 (m_mn w1 10000)) := hL.wa (TA.le5 (a_309 hL) (by decide))
        have hK := hK.tr (KD.wr : KD h2 (m_wr h2 309 v4 (m_mn w1 10000)))
        have hJ := hJ.tr (KD.wr : KD h2 (m_wr h2 309 v4 (m_mn w1 10000)))
        obtain ⟨hc, hF⟩ := gd_of hF
        refine RK.of (RN.blk (ops := [(82, .iload 4), (84, .aload_n 0), (85, .getfield 12), (88, .getfield 104)]) (pc' := 91) (lv' := [(0, .inr (.inr 298)), (1, .inl u1), (2, .inl u2), (3, .inl v3), (4, .inl v4), (5, .inl w1)]) (st' := [.inl (m_rd (m_wr h2 309 v4 (m_mn w1 10000)) (m_rd (m_wr h2 309 v4 (m_mn w1 10000)) 298 0) 2), .inl v4]) (h' := (m_wr h2 309 v4 (m_mn w1 10000))) (cs := [GK (m_wr h2 309 v4 (m_mn w1 10000)) 298 1, GK (m_wr h2 309 v4 (m_mn w1 10000)) (m_rd (m_wr h2 309 v4 (m_mn w1 10000)) 298 0) 8]) (by decide +kernel) rfl ⟨(o_298 hL).gk, (TO.gk hc.1), trivial⟩) ?_
        rcases it_of hF with ⟨hb, hF⟩ | ⟨hb, hF⟩
        · refine RK.of (RN.icf (cd := .ge) (off := 15) (tgt := 106) (by decide +kernel) (mif_gen hb)) ?_
          refine RK.of (RN.blk (ops := [(94, .iload_n 3), (95, .aload_n 0)]) (pc' := 96) (lv' := [(0, .inr (.inr 298)), (1, .inl u1), (2, .inl u2), (3, .inl v3), (4, .inl v4), (5, .inl w1)]) (st' := [.inr (.inr 298), .inl v3]) (h' := (m_wr h2 309 v4 (m_mn w1 10000))) (cs := []) (by decide +kernel) rfl trivial) ?_
          refine RK.of (RN.gr (i := 35) (ci := 1) (k := 5) (fn := true) (v := 309) (by decide +kernel) rfl (TO.gk (o_298 hL)) (hL.fa (v := 309) 5 1 7 (o_298 hL) rfl (by decide) rfl (by decide)).1) ?_
          obtain ⟨hc, hF⟩ := gd_of hF
          refine RK.of (RN.blk (ops := [(99, .iload 4), (101, .iaload)]) (pc' := 102) (lv' := [(0, .inr (.inr 298)), (1, .inl u1), (2, .inl u2), (3, .inl v3), (4, .inl v4), (5, .inl w1)]) (st' := [.inl (m_rd (m_wr h2 309 v4 (m_mn w1 10000)) 309 v4), .inl v3]) (h' := (m_wr h2 309 v4 (m_mn w1 10000))) (cs := [GI (m_wr h2 309 v4 (m_mn w1 10000)) 309 1 v4]) (by decide +kernel) rfl ⟨(a_309 hL).gi hc.1.1 hc.1.2, trivial⟩) ?_
          refine RK.of (RN.mn (i := 99) (by decide +kernel) rfl rfl) ?_
          refine RK.of (RN.blk (ops := [(105, .istore_n 3)]) (pc' := 106) (lv' := [(3, .inl (m_mn v3 (m_rd (m_wr h2 309 v4 (m_mn w1 10000)) 309 v4))), (0, .inr (.inr 298)), (1, .inl u1), (2, .inl u2), (4, .inl v4), (5, .inl w1)]) (st' := []) (h' := (m_wr h2 309 v4 (m_mn w1 10000))) (cs := []) (by decide +kernel) rfl trivial) ?_
          refine RK.of (RN.blk (ops := [(106, .iinc 4 1)]) (pc' := 109) (lv' := [(4, .inl (m_w32 (v4 + 1))), (3, .inl (m_mn v3 (m_rd (m_wr h2 309 v4 (m_mn w1 10000)) 309 v4))), (0, .inr (.inr 298)), (1, .inl u1), (2, .inl u2), (5, .inl w1)]) (st' := []) (h' := (m_wr h2 309 v4 (m_mn w1 10000))) (cs := []) (by decide +kernel) rfl trivial) ?_
          refine RK.of (RN.goto (off := -99) (tgt := 10) (by decide +kernel)) ?_
          exact RK.sub (ih _ _ _ hL hJ hF) (sub_cons rfl (sub_cons rfl (sub_cons rfl (sub_cons rfl (sub_cons rfl sub_nil)))))
        · refine RK.of (RN.ict (cd := .ge) (off := 15) (tgt := 106) (by decide +kernel) (mif_ge hb)) ?_
          refine RK.of (RN.blk (ops := [(106, .iinc 4 1)]) (pc' := 109) (lv' := [(4, .inl (m_w32 (v4 + 1))), (0, .inr (.inr 298)), (1, .inl u1), (2, .inl u2), (3, .inl v3), (5, .inl w1)]) (st' := []) (h' := (m_wr h2 309 v4 (m_mn w1 10000))) (cs := []) (by decide +kernel) rfl trivial) ?_
          refine RK.of (RN.goto (off := -99) (tgt := 10) (by decide +kernel)) ?_
          exact RK.sub (ih _ _ _ hL hJ hF) (sub_cons rfl (sub_cons rfl (sub_cons rfl (sub_cons rfl (sub_cons rfl sub_nil)))))
    · refine RK.of (RN.ict (cd := .ge) (off := 99) (tgt := 112) (by decide +kernel) (mif_ge hb)) ?_
      exact RK.sub (hK0 _ _ hL hJ hF) (sub_cons rfl (sub_cons rfl (sub_cons rfl (sub_cons rfl sub_nil))))
noncomputable def GX1_joinCosts_L115 (u1 : Int) (u2 : Int) (u3 : Int) (K0 : MH → Option (MH)) : Nat → Int → MH → Option (MH)
  | 0, _, _ => none
  | f + 1, v4, h =>
    (if v4 < u2 then
     gd [IB v4 7] (
      gd [IB (m_w32 ((m_w32 (u1 * u2)) + v4)) 1792] (
       hl (m_wr h 308 (m_w32 ((m_w32 (u1 * u2)) + v4)) (m_mn (m_rd h 309 v4) (m_mn (m_w32 (u3 + 1)) 10000))) (fun h1 =>
        GX1_joinCosts_L115 u1 u2 u3 K0 f (m_w32 (v4 + 1)) h1)))
    else
     K0 h)
theorem DX1_joinCosts_L115 {d : Nat} {u1 : Int} {u2 : Int} {u3 : Int} {K0 : MH → Option (MH)} {r : MH} {h0 hB : MH} (hB0 : KD h0 hB) (hK0 : ∀ (h : MH), LR h → KD hB h → K0 h = some r → RK xs L iX1_joinCosts (d + 1) 157 [] [] h (RVo r) h0 r) : ∀ (f : Nat) (v4 : Int) (h : MH), LR h → KD hB h → GX1_joinCosts_L115 u1 u2 u3 K0 f v4 h = some r → RK xs L iX1_joinCosts (d + 1) 115 [(0, .inr (.inr 298)), (1, .inl u1), (2, .inl u2), (3, .inl u3), (4, .inl v4)] [] h (RVo r) h0 r := by
  intro f
  induction f with
  | zero =>
    intro v4 h hL hJ hF
    cases hF
  | succ f ih =>
    intro v4 h hL hJ hF
    unfold GX1_joinCosts_L115 at hF
    have hK := hB0.tr hJ
    refine RK.of (RN.blk (ops := [(115, .iload 4), (117, .iload_n 2)]) (pc' := 118) (lv' := [(0, .inr (.inr 298)), (1, .inl u1), (2, .inl u2), (3, .inl u3), (4, .inl v4)]) (st' := [.inl u2, .inl v4]) (h' := h) (cs := []) (by decide +kernel) rfl trivial) ?_
    rcases it_of hF with ⟨hb, hF⟩ | ⟨hb, hF⟩
    · refine RK.of (RN.icf (cd := .ge) (off := 39) (tgt := 157) (by decide +kernel) (mif_gen hb)) ?_
      refine RK.of (RN.blk (ops := [(121, .aload_n 0)]) (pc' := 122) (lv' := [(0, .inr (.inr 298)), (1, .inl u1), (2, .inl u2), (3, .inl u3), (4, .inl v4)]) (st' := [.inr (.inr 298)]) (h' := h) (cs := []) (by decide +kernel) rfl trivial) ?_
      refine RK.of (RN.gr (i := 32) (ci := 1) (k := 4) (fn := true) (v := 308) (by decide +kernel) rfl (TO.gk (o_298 hL)) (hL.fa (v := 308) 4 1 1792 (o_298 hL) rfl (by decide) rfl (by decide)).1) ?_
      refine RK.of (RN.blk (ops := [(125, .iload_n 1), (126, .iload_n 2), (127, .imul), (128, .iload 4), (130, .iadd), (131, .aload_n 0)]) (pc' := 132) (lv' := [(0, .inr (.inr 298)), (1, .inl u1), (2, .inl u2), (3, .inl u3), (4, .inl v4)]) (st' := [.inr (.inr 298), .inl (m_w32 ((m_w32 (u1 * u2)) + v4)), .inr (.inr 308)]) (h' := h) (cs := []) (by decide +kernel) rfl trivial) ?_
      refine RK.of (RN.gr (i := 35) (ci := 1) (k := 5) (fn := true) (v := 309) (by decide +kernel) rfl (TO.gk (o_298 hL)) (hL.fa (v := 309) 5 1 7 (o_298 hL) rfl (by decide) rfl (by decide)).1) ?_
      obtain ⟨hc, hF⟩ := gd_of hF
      refine RK.of (RN.blk (ops := [(135, .iload 4), (137, .iaload), (138, .iload_n 3), (139, .iconst 1), (140, .iadd), (141, .sipush 10000)]) (pc' := 144) (lv' := [(0, .inr (.inr 298)), (1, .inl u1), (2, .inl u2), (3, .inl u3), (4, .inl v4)]) (st' := [.inl 10000, .inl (m_w32 (u3 + 1)), .inl (m_rd h 309 v4), .inl (m_w32 ((m_w32 (u1 * u2)) + v4)), .inr (.inr 308)]) (h' := h) (cs := [GI h 309 1 v4]) (by decide +kernel) rfl ⟨(a_309 hL).gi hc.1.1 hc.1.2, trivial⟩) ?_
      refine RK.of (RN.mn (i := 99) (by decide +kernel) rfl rfl) ?_
      refine RK.of (RN.mn (i := 99) (by decide +kernel) rfl rfl) ?_
      obtain ⟨hc, hF⟩ := gd_of hF
      refine RK.of (RN.blk (ops := [(150, .iastore)]) (pc' := 151) (lv' := [(0, .inr (.inr 298)), (1, .inl u1), (2, .inl u2), (3, .inl u3), (4, .inl v4)]) (st' := []) (h' := (m_wr h 308 (m_w32 ((m_w32 (u1 * u2)) + v4)) (m_mn (m_rd h 309 v4) (m_mn (m_w32 (u3 + 1)) 10000)))) (cs := [GI h 308 1 (m_w32 ((m_w32 (u1 * u2)) + v4))]) (by decide +kernel) rfl ⟨(a_308 hL).gi hc.1.1 hc.1.2, trivial⟩) ?_
      have hL : LR (m_wr h 308 (m_w32 ((m_w32 (u1 * u2)) + v4)) (m_mn (m_rd h 309 v4) (m_mn (m_w32 (u3 + 1)) 10000))) := hL.wa (TA.le5 (a_308 hL) (by decide))
      have hK := hK.tr (KD.wr : KD h (m_wr h 308 (m_w32 ((m_w32 (u1 * u2)) + v4)) (m_mn (m_rd h 309 v4) (m_mn (m_w32 (u3 + 1)) 10000))))
      have hJ := hJ.tr (KD.wr : KD h (m_wr h 308 (m_w32 ((m_w32 (u1 * u2)) + v4)) (m_mn (m_rd h 309 v4) (m_mn (m_w32 (u3 + 1)) 10000))))
      obtain ⟨h1, he, hF⟩ := hl_of hF
      refine RK.of (RN.hl he) ?_
      rw [← he] at hL hK hJ
      refine RK.of (RN.blk (ops := [(151, .iinc 4 1)]) (pc' := 154) (lv' := [(4, .inl (m_w32 (v4 + 1))), (0, .inr (.inr 298)), (1, .inl u1), (2, .inl u2), (3, .inl u3)]) (st' := []) (h' := h1) (cs := []) (by decide +kernel) rfl trivial) ?_
      refine RK.of (RN.goto (off := -39) (tgt := 115) (by decide +kernel)) ?_
      exact RK.sub (ih _ _ hL hJ hF) (sub_cons rfl (sub_cons rfl (sub_cons rfl (sub_cons rfl (sub_cons rfl sub_nil)))))
    · refine RK.of (RN.ict (cd := .ge) (off := 39) (tgt := 157) (by decide +kernel) (mif_ge hb)) ?_
      exact RK.sub (hK0 _ hL hJ hF) sub_nil
noncomputable def GX1_joinCosts (a1 : Int) (h : MH) : Option (MH) :=
  GX1_joinCosts_L10 a1 7 (fun w1 h2 =>
   GX1_joinCosts_L115 a1 7 w1 (fun h3 =>
    some h3) FU 0 h2) FU 10000 0 h
theorem DX1_joinCosts {d : Nat} {a1 : Int} {h : MH} {r : MH} (hL : LR h) (hF : GX1_joinCosts a1 h = some r) : RN xs L iX1_joinCosts (d + 1) 0 (lvE 0 [.inr (.inr 298), .inl a1]) [] h (RVo r) ∧ LR r ∧ KD h r := by
  unfold GX1_joinCosts at hF
  have hK : KD h h := KD.rf
  show RK xs L iX1_joinCosts (d + 1) 0 (lvE 0 [.inr (.inr 298), .inl a1]) [] h (RVo r) h r
  refine RK.of (RN.blk (ops := [(0, .bipush 7), (2, .istore_n 2), (3, .sipush 10000), (6, .istore_n 3), (7, .iconst 0), (8, .istore 4)]) (pc' := 10) (lv' := [(4, .inl 0), (3, .inl 10000), (2, .inl 7), (0, .inr (.inr 298)), (1, .inl a1)]) (st' := []) (h' := h) (cs := []) (by decide +kernel) rfl trivial) ?_
  refine RK.sub (DX1_joinCosts_L10 hK ?_ _ _ _ _ hL KD.rf hF) (sub_cons rfl (sub_cons rfl (sub_cons rfl (sub_cons rfl (sub_cons rfl sub_nil)))))
  · intro w1 h2 hL hq hF
    have hK := hK.tr hq
    refine RK.of (RN.blk (ops := [(112, .iconst 0), (113, .istore 4)]) (pc' := 115) (lv' := [(4, .inl 0), (0, .inr (.inr 298)), (1, .inl a1), (2, .inl 7), (3, .inl w1)]) (st' := []) (h' := h2) (cs := []) (by decide +kernel) rfl trivial) ?_
    refine RK.sub (DX1_joinCosts_L115 hK ?_ _ _ _ hL KD.rf hF) (sub_cons rfl (sub_cons rfl (sub_cons rfl (sub_cons rfl (sub_cons rfl sub_nil)))))
    · intro h3 hL hq hF
      have hK := hK.tr hq
      exact RK.vR (by decide +kernel) rfl hL hK hF
end Gc
