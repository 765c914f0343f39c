/-! METHODS AS FUNCTIONS, references resolved (by program): X11_post, X11_tie, X11_enter, X11_strike, X11_undo, X11_drawNow, X11_where, X11_may, J6_bitCount_0f7a4, X11_read, X11_codes, X11_slips, X11_worst, X11_idle, X11_least, X11_one, X11_change, X11_ahead -/
section Gc
variable {xs : Int → Int} {L : Int}
noncomputable def GX11_post (a1 : Int) (h : MH) : Option (Int × MH) :=
  (bd (GX8_hasCode 21 a1 h) (fun x2 h1 =>
   (if x2 = 0 then
    some ((-1), h1)
   else
    (if (m_rd h1 32 1) < 20 then
     (bv (GX11_remember h1) (fun h3 =>
      (bv (GX10_queue 32 a1 h3) (fun h4 =>
       some ((m_rd h4 32 1), h4)))))
    else
     some ((-1), h1)))))
theorem DX11_post {d : Nat} {a1 : Int} {h : MH} {r : Int × MH} (hL : LR h) (hF : GX11_post a1 h = some r) : RN xs L iX11_post (d + 4) 0 (lvE 0 [.inr (.inr 0), .inl a1]) [] h (RIo r) ∧ LR r.2 ∧ KD h r.2 := by
  unfold GX11_post at hF
  have hK : KD h h := KD.rf
  show RK xs L iX11_post (d + 4) 0 (lvE 0 [.inr (.inr 0), .inl a1]) [] h (RIo r) h r.2
  refine RK.of (RN.blk (ops := [(0, .aload_n 0)]) (pc' := 1) (lv' := [(0, .inr (.inr 0)), (1, .inl a1)]) (st' := [.inr (.inr 0)]) (h' := h) (cs := []) (by decide +kernel) rfl trivial) ?_
  refine RK.of (RN.gr (i := 41) (ci := 11) (k := 5) (fn := true) (v := 20) (by decide +kernel) rfl (TO.gk (o_0 hL)) (hL.fo (v := 20) 5 2 (o_0 hL) rfl (by decide) rfl).1) ?_
  refine RK.of (RN.gr (i := 130) (ci := 2) (k := 0) (fn := true) (v := 21) (by decide +kernel) rfl (TO.gk (o_20 hL)) (hL.fo (v := 21) 0 8 (o_20 hL) rfl (by decide) rfl).1) ?_
  refine RK.of (RN.blk (ops := [(7, .iload_n 1)]) (pc' := 8) (lv' := [(0, .inr (.inr 0)), (1, .inl a1)]) (st' := [.inl a1, .inr (.inr 21)]) (h' := h) (cs := []) (by decide +kernel) rfl trivial) ?_
  obtain ⟨x2, h1, hG, hF⟩ := bd_of hF
  have hq := rcv_ok (as := [.inl a1]) (TO.gk (o_21 hL))
  obtain ⟨hN, hL, hQ⟩ := DX8_hasCode (d := d + 3) hL (o_21 hL) hG
  refine RK.of (RN.cv (i := 216) (k := 82) (q2 := iX8_hasCode) (as := [.inr (.inr 21), .inl a1]) (r := []) (v := some (.inl x2)) (h1 := h1) (by decide +kernel) rfl rfl rfl rfl rfl hq hN) ?_
  have hK := hK.tr hQ
  rcases it_of hF with ⟨hb, hF⟩ | ⟨hb, hF⟩
  · refine RK.of (RN.ift (cd := .eq) (off := 18) (tgt := 29) (by decide +kernel) (mif_eq hb)) ?_
    refine RK.of (RN.blk (ops := [(29, .iconst (-1))]) (pc' := 30) (lv' := [(0, .inr (.inr 0)), (1, .inl a1)]) (st' := [.inl (-1)]) (h' := h1) (cs := []) (by decide +kernel) rfl trivial) ?_
    exact RK.iR (by decide +kernel) rfl hL hK hF
  · refine RK.of (RN.iff (cd := .eq) (off := 18) (tgt := 29) (by decide +kernel) (mif_eqn hb)) ?_
    refine RK.of (RN.blk (ops := [(14, .aload_n 0)]) (pc' := 15) (lv' := [(0, .inr (.inr 0)), (1, .inl a1)]) (st' := [.inr (.inr 0)]) (h' := h1) (cs := []) (by decide +kernel) rfl trivial) ?_
    refine RK.of (RN.gr (i := 41) (ci := 11) (k := 5) (fn := true) (v := 20) (by decide +kernel) rfl (TO.gk (o_0 hL)) (hL.fo (v := 20) 5 2 (o_0 hL) rfl (by decide) rfl).1) ?_
    refine RK.of (RN.gr (i := 110) (ci := 2) (k := 2) (fn := true) (v := 32) (by decide +kernel) rfl (TO.gk (o_20 hL)) (hL.fo (v := 32) 2 10 (o_20 hL) rfl (by decide) rfl).1) ?_
    refine RK.of (RN.blk (ops := [(21, .getfield 159), (24, .bipush 20)]) (pc' := 26) (lv' := [(0, .inr (.inr 0)), (1, .inl a1)]) (st' := [.inl 20, .inl (m_rd h1 32 1)]) (h' := h1) (cs := [GK h1 32 10]) (by decide +kernel) rfl ⟨(o_32 hL).gk, trivial⟩) ?_
    rcases it_of hF with ⟨hb, hF⟩ | ⟨hb, hF⟩
    · refine RK.of (RN.ict (cd := .lt) (off := 5) (tgt := 31) (by decide +kernel) (mif_lt hb)) ?_
      refine RK.of (RN.blk (ops := [(31, .aload_n 0)]) (pc' := 32) (lv' := [(0, .inr (.inr 0)), (1, .inl a1)]) (st' := [.inr (.inr 0)]) (h' := h1) (cs := []) (by decide +kernel) rfl trivial) ?_
      obtain ⟨h3, hG, hF⟩ := bv_of hF
      have hq := rcv_ok (as := []) (TO.gk (o_0 hL))
      obtain ⟨hN, hL, hQ⟩ := DX11_remember (d := d) hL  hG
      refine RK.of (RN.cv (i := 206) (k := 152) (q2 := iX11_remember) (as := [.inr (.inr 0)]) (r := []) (v := none) (h1 := h3) (by decide +kernel) rfl rfl rfl rfl rfl hq hN) ?_
      have hK := hK.tr hQ
      refine RK.of (RN.blk (ops := [(35, .aload_n 0)]) (pc' := 36) (lv' := [(0, .inr (.inr 0)), (1, .inl a1)]) (st' := [.inr (.inr 0)]) (h' := h3) (cs := []) (by decide +kernel) rfl trivial) ?_
      refine RK.of (RN.gr (i := 41) (ci := 11) (k := 5) (fn := true) (v := 20) (by decide +kernel) rfl (TO.gk (o_0 hL)) (hL.fo (v := 20) 5 2 (o_0 hL) rfl (by decide) rfl).1) ?_
      refine RK.of (RN.gr (i := 110) (ci := 2) (k := 2) (fn := true) (v := 32) (by decide +kernel) rfl (TO.gk (o_20 hL)) (hL.fo (v := 32) 2 10 (o_20 hL) rfl (by decide) rfl).1) ?_
      refine RK.of (RN.blk (ops := [(42, .iload_n 1)]) (pc' := 43) (lv' := [(0, .inr (.inr 0)), (1, .inl a1)]) (st' := [.inl a1, .inr (.inr 32)]) (h' := h3) (cs := []) (by decide +kernel) rfl trivial) ?_
      obtain ⟨h4, hG, hF⟩ := bv_of hF
      have hq := rcv_ok (as := [.inl a1]) (TO.gk (o_32 hL))
      obtain ⟨hN, hL, hQ⟩ := DX10_queue (d := d + 3) hL (o_32 hL) hG
      refine RK.of (RN.cv (i := 219) (k := 102) (q2 := iX10_queue) (as := [.inr (.inr 32), .inl a1]) (r := []) (v := none) (h1 := h4) (by decide +kernel) rfl rfl rfl rfl rfl hq hN) ?_
      have hK := hK.tr hQ
      refine RK.of (RN.blk (ops := [(46, .aload_n 0)]) (pc' := 47) (lv' := [(0, .inr (.inr 0)), (1, .inl a1)]) (st' := [.inr (.inr 0)]) (h' := h4) (cs := []) (by decide +kernel) rfl trivial) ?_
      refine RK.of (RN.gr (i := 41) (ci := 11) (k := 5) (fn := true) (v := 20) (by decide +kernel) rfl (TO.gk (o_0 hL)) (hL.fo (v := 20) 5 2 (o_0 hL) rfl (by decide) rfl).1) ?_
      refine RK.of (RN.gr (i := 110) (ci := 2) (k := 2) (fn := true) (v := 32) (by decide +kernel) rfl (TO.gk (o_20 hL)) (hL.fo (v := 32) 2 10 (o_20 hL) rfl (by decide) rfl).1) ?_
      refine RK.of (RN.blk (ops := [(53, .getfield 159)]) (pc' := 56) (lv' := [(0, .inr (.inr 0)), (1, .inl a1)]) (st' := [.inl (m_rd h4 32 1)]) (h' := h4) (cs := [GK h4 32 10]) (by decide +kernel) rfl ⟨(o_32 hL).gk, trivial⟩) ?_
      exact RK.iR (by decide +kernel) rfl hL hK hF
    · refine RK.of (RN.icf (cd := .lt) (off := 5) (tgt := 31) (by decide +kernel) (mif_ltn hb)) ?_
      refine RK.of (RN.blk (ops := [(29, .iconst (-1))]) (pc' := 30) (lv' := [(0, .inr (.inr 0)), (1, .inl a1)]) (st' := [.inl (-1)]) (h' := h1) (cs := []) (by decide +kernel) rfl trivial) ?_
      exact RK.iR (by decide +kernel) rfl hL hK hF
noncomputable def GX11_tie (a1 : Int) (h : MH) : Option (Int × MH) :=
  (bd (GX8_hasHole 21 a1 h) (fun x2 h1 =>
   (if x2 = 0 then
    some ((-1), h1)
   else
    gd [IB a1 6] (
     (if (m_rd h1 38 a1) = 0 then
      some ((-1), h1)
     else
      (bv (GX11_remember h1) (fun h3 =>
       gd [IB a1 6] (
        (bv (GX10_bagUp 32 a1 h3) (fun h4 =>
         some ((m_rd h3 38 a1), h4)))))))))))
theorem DX11_tie {d : Nat} {a1 : Int} {h : MH} {r : Int × MH} (hL : LR h) (hF : GX11_tie a1 h = some r) : RN xs L iX11_tie (d + 4) 0 (lvE 0 [.inr (.inr 0), .inl a1]) [] h (RIo r) ∧ LR r.2 ∧ KD h r.2 := by
  unfold GX11_tie at hF
  have hK : KD h h := KD.rf
  show RK xs L iX11_tie (d + 4) 0 (lvE 0 [.inr (.inr 0), .inl a1]) [] h (RIo r) h r.2
  refine RK.of (RN.blk (ops := [(0, .aload_n 0)]) (pc' := 1) (lv' := [(0, .inr (.inr 0)), (1, .inl a1)]) (st' := [.inr (.inr 0)]) (h' := h) (cs := []) (by decide +kernel) rfl trivial) ?_
  refine RK.of (RN.gr (i := 41) (ci := 11) (k := 5) (fn := true) (v := 20) (by decide +kernel) rfl (TO.gk (o_0 hL)) (hL.fo (v := 20) 5 2 (o_0 hL) rfl (by decide) rfl).1) ?_
  refine RK.of (RN.gr (i := 130) (ci := 2) (k := 0) (fn := true) (v := 21) (by decide +kernel) rfl (TO.gk (o_20 hL)) (hL.fo (v := 21) 0 8 (o_20 hL) rfl (by decide) rfl).1) ?_
  refine RK.of (RN.blk (ops := [(7, .iload_n 1)]) (pc' := 8) (lv' := [(0, .inr (.inr 0)), (1, .inl a1)]) (st' := [.inl a1, .inr (.inr 21)]) (h' := h) (cs := []) (by decide +kernel) rfl trivial) ?_
  obtain ⟨x2, h1, hG, hF⟩ := bd_of hF
  have hq := rcv_ok (as := [.inl a1]) (TO.gk (o_21 hL))
  obtain ⟨hN, hL, hQ⟩ := DX8_hasHole (d := d + 3) hL (o_21 hL) hG
  refine RK.of (RN.cv (i := 131) (k := 81) (q2 := iX8_hasHole) (as := [.inr (.inr 21), .inl a1]) (r := []) (v := some (.inl x2)) (h1 := h1) (by decide +kernel) rfl rfl rfl rfl rfl hq hN) ?_
  have hK := hK.tr hQ
  rcases it_of hF with ⟨hb, hF⟩ | ⟨hb, hF⟩
  · refine RK.of (RN.ift (cd := .eq) (off := 18) (tgt := 29) (by decide +kernel) (mif_eq hb)) ?_
    refine RK.of (RN.blk (ops := [(29, .iconst (-1))]) (pc' := 30) (lv' := [(0, .inr (.inr 0)), (1, .inl a1)]) (st' := [.inl (-1)]) (h' := h1) (cs := []) (by decide +kernel) rfl trivial) ?_
    exact RK.iR (by decide +kernel) rfl hL hK hF
  · refine RK.of (RN.iff (cd := .eq) (off := 18) (tgt := 29) (by decide +kernel) (mif_eqn hb)) ?_
    refine RK.of (RN.blk (ops := [(14, .aload_n 0)]) (pc' := 15) (lv' := [(0, .inr (.inr 0)), (1, .inl a1)]) (st' := [.inr (.inr 0)]) (h' := h1) (cs := []) (by decide +kernel) rfl trivial) ?_
    refine RK.of (RN.gr (i := 41) (ci := 11) (k := 5) (fn := true) (v := 20) (by decide +kernel) rfl (TO.gk (o_0 hL)) (hL.fo (v := 20) 5 2 (o_0 hL) rfl (by decide) rfl).1) ?_
    refine RK.of (RN.gr (i := 110) (ci := 2) (k := 2) (fn := true) (v := 32) (by decide +kernel) rfl (TO.gk (o_20 hL)) (hL.fo (v := 32) 2 10 (o_20 hL) rfl (by decide) rfl).1) ?_
    refine RK.of (RN.gr (i := 141) (ci := 10) (k := 3) (fn := true) (v := 38) (by decide +kernel) rfl (TO.gk (o_32 hL)) (hL.fa (v := 38) 3 1 6 (o_32 hL) rfl (by decide) rfl (by decide)).1) ?_
    obtain ⟨hc, hF⟩ := gd_of hF
    refine RK.of (RN.blk (ops := [(24, .iload_n 1), (25, .iaload)]) (pc' := 26) (lv' := [(0, .inr (.inr 0)), (1, .inl a1)]) (st' := [.inl (m_rd h1 38 a1)]) (h' := h1) (cs := [GI h1 38 1 a1]) (by decide +kernel) rfl ⟨(a_38 hL).gi hc.1.1 hc.1.2, trivial⟩) ?_
    rcases it_of hF with ⟨hb, hF⟩ | ⟨hb, hF⟩
    · refine RK.of (RN.iff (cd := .ne) (off := 5) (tgt := 31) (by decide +kernel) (mif_nen hb)) ?_
      refine RK.of (RN.blk (ops := [(29, .iconst (-1))]) (pc' := 30) (lv' := [(0, .inr (.inr 0)), (1, .inl a1)]) (st' := [.inl (-1)]) (h' := h1) (cs := []) (by decide +kernel) rfl trivial) ?_
      exact RK.iR (by decide +kernel) rfl hL hK hF
    · refine RK.of (RN.ift (cd := .ne) (off := 5) (tgt := 31) (by decide +kernel) (mif_ne hb)) ?_
      refine RK.of (RN.blk (ops := [(31, .aload_n 0)]) (pc' := 32) (lv' := [(0, .inr (.inr 0)), (1, .inl a1)]) (st' := [.inr (.inr 0)]) (h' := h1) (cs := []) (by decide +kernel) rfl trivial) ?_
      obtain ⟨h3, hG, hF⟩ := bv_of hF
      have hq := rcv_ok (as := []) (TO.gk (o_0 hL))
      obtain ⟨hN, hL, hQ⟩ := DX11_remember (d := d) hL  hG
      refine RK.of (RN.cv (i := 206) (k := 152) (q2 := iX11_remember) (as := [.inr (.inr 0)]) (r := []) (v := none) (h1 := h3) (by decide +kernel) rfl rfl rfl rfl rfl hq hN) ?_
      have hK := hK.tr hQ
      refine RK.of (RN.blk (ops := [(35, .aload_n 0)]) (pc' := 36) (lv' := [(0, .inr (.inr 0)), (1, .inl a1)]) (st' := [.inr (.inr 0)]) (h' := h3) (cs := []) (by decide +kernel) rfl trivial) ?_
      refine RK.of (RN.gr (i := 41) (ci := 11) (k := 5) (fn := true) (v := 20) (by decide +kernel) rfl (TO.gk (o_0 hL)) (hL.fo (v := 20) 5 2 (o_0 hL) rfl (by decide) rfl).1) ?_
      refine RK.of (RN.gr (i := 110) (ci := 2) (k := 2) (fn := true) (v := 32) (by decide +kernel) rfl (TO.gk (o_20 hL)) (hL.fo (v := 32) 2 10 (o_20 hL) rfl (by decide) rfl).1) ?_
      refine RK.of (RN.gr (i := 141) (ci := 10) (k := 3) (fn := true) (v := 38) (by decide +kernel) rfl (TO.gk (o_32 hL)) (hL.fa (v := 38) 3 1 6 (o_32 hL) rfl (by decide) rfl (by decide)).1) ?_
      obtain ⟨hc, hF⟩ := gd_of hF
      refine RK.of (RN.blk (ops := [(45, .iload_n 1), (46, .iaload), (47, .istore_n 2), (48, .aload_n 0)]) (pc' := 49) (lv' := [(2, .inl (m_rd h3 38 a1)), (0, .inr (.inr 0)), (1, .inl a1)]) (st' := [.inr (.inr 0)]) (h' := h3) (cs := [GI h3 38 1 a1]) (by decide +kernel) rfl ⟨(a_38 hL).gi hc.1.1 hc.1.2, trivial⟩) ?_
      refine RK.of (RN.gr (i := 41) (ci := 11) (k := 5) (fn := true) (v := 20) (by decide +kernel) rfl (TO.gk (o_0 hL)) (hL.fo (v := 20) 5 2 (o_0 hL) rfl (by decide) rfl).1) ?_
      refine RK.of (RN.gr (i := 110) (ci := 2) (k := 2) (fn := true) (v := 32) (by decide +kernel) rfl (TO.gk (o_20 hL)) (hL.fo (v := 32) 2 10 (o_20 hL) rfl (by decide) rfl).1) ?_
      refine RK.of (RN.blk (ops := [(55, .iload_n 1)]) (pc' := 56) (lv' := [(2, .inl (m_rd h3 38 a1)), (0, .inr (.inr 0)), (1, .inl a1)]) (st' := [.inl a1, .inr (.inr 32)]) (h' := h3) (cs := []) (by decide +kernel) rfl trivial) ?_
      obtain ⟨h4, hG, hF⟩ := bv_of hF
      have hq := rcv_ok (as := [.inl a1]) (TO.gk (o_32 hL))
      obtain ⟨hN, hL, hQ⟩ := DX10_bagUp (d := d + 2) hL (o_32 hL) hG
      refine RK.of (RN.cv (i := 222) (k := 104) (q2 := iX10_bagUp) (as := [.inr (.inr 32), .inl a1]) (r := []) (v := none) (h1 := h4) (by decide +kernel) rfl rfl rfl rfl rfl hq hN) ?_
      have hK := hK.tr hQ
      refine RK.of (RN.blk (ops := [(59, .iload_n 2)]) (pc' := 60) (lv' := [(2, .inl (m_rd h3 38 a1)), (0, .inr (.inr 0)), (1, .inl a1)]) (st' := [.inl (m_rd h3 38 a1)]) (h' := h4) (cs := []) (by decide +kernel) rfl trivial) ?_
      exact RK.iR (by decide +kernel) rfl hL hK hF
noncomputable def GX11_enter (a1 : Int) (a2 : Int) (a3 : Int) (h : MH) : Option (Int × MH) :=
  (bd (GX8_hasPrefix 21 a1 a2 h) (fun x2 h1 =>
   (if x2 = 0 then
    some ((-1), h1)
   else
    (bd (GX8_hasHole 21 a3 h1) (fun x4 h3 =>
     (if x4 = 0 then
      some ((-1), h3)
     else
      (bd (GX4_canTake 33 a1 a2 h3) (fun x6 h5 =>
       (if x6 = 0 then
        some ((-1), h5)
       else
        (bv (GX11_remember h5) (fun h7 =>
         (bd (GX4_put 33 a1 a2 a3 h7) (fun x9 h8 =>
          some (x9, h8))))))))))))))
theorem DX11_enter {d : Nat} {a1 : Int} {a2 : Int} {a3 : Int} {h : MH} {r : Int × MH} (hL : LR h) (hF : GX11_enter a1 a2 a3 h = some r) : RN xs L iX11_enter (d + 4) 0 (lvE 0 [.inr (.inr 0), .inl a1, .inl a2, .inl a3]) [] h (RIo r) ∧ LR r.2 ∧ KD h r.2 := by
  unfold GX11_enter at hF
  have hK : KD h h := KD.rf
  show RK xs L iX11_enter (d + 4) 0 (lvE 0 [.inr (.inr 0), .inl a1, .inl a2, .inl a3]) [] h (RIo r) h r.2
  refine RK.of (RN.blk (ops := [(0, .aload_n 0)]) (pc' := 1) (lv' := [(0, .inr (.inr 0)), (1, .inl a1), (2, .inl a2), (3, .inl a3)]) (st' := [.inr (.inr 0)]) (h' := h) (cs := []) (by decide +kernel) rfl trivial) ?_
  refine RK.of (RN.gr (i := 41) (ci := 11) (k := 5) (fn := true) (v := 20) (by decide +kernel) rfl (TO.gk (o_0 hL)) (hL.fo (v := 20) 5 2 (o_0 hL) rfl (by decide) rfl).1) ?_
  refine RK.of (RN.gr (i := 130) (ci := 2) (k := 0) (fn := true) (v := 21) (by decide +kernel) rfl (TO.gk (o_20 hL)) (hL.fo (v := 21) 0 8 (o_20 hL) rfl (by decide) rfl).1) ?_
  refine RK.of (RN.blk (ops := [(7, .iload_n 1), (8, .iload_n 2)]) (pc' := 9) (lv' := [(0, .inr (.inr 0)), (1, .inl a1), (2, .inl a2), (3, .inl a3)]) (st' := [.inl a2, .inl a1, .inr (.inr 21)]) (h' := h) (cs := []) (by decide +kernel) rfl trivial) ?_
  obtain ⟨x2, h1, hG, hF⟩ := bd_of hF
  have hq := rcv_ok (as := [.inl a1, .inl a2]) (TO.gk (o_21 hL))
  obtain ⟨hN, hL, hQ⟩ := DX8_hasPrefix (d := d + 2) hL (o_21 hL) hG
  refine RK.of (RN.cv (i := 225) (k := 83) (q2 := iX8_hasPrefix) (as := [.inr (.inr 21), .inl a1, .inl a2]) (r := []) (v := some (.inl x2)) (h1 := h1) (by decide +kernel) rfl rfl rfl rfl rfl hq hN) ?_
  have hK := hK.tr hQ
  rcases it_of hF with ⟨hb, hF⟩ | ⟨hb, hF⟩
  · refine RK.of (RN.ift (cd := .eq) (off := 35) (tgt := 47) (by decide +kernel) (mif_eq hb)) ?_
    refine RK.of (RN.blk (ops := [(47, .iconst (-1))]) (pc' := 48) (lv' := [(0, .inr (.inr 0)), (1, .inl a1), (2, .inl a2), (3, .inl a3)]) (st' := [.inl (-1)]) (h' := h1) (cs := []) (by decide +kernel) rfl trivial) ?_
    exact RK.iR (by decide +kernel) rfl hL hK hF
  · refine RK.of (RN.iff (cd := .eq) (off := 35) (tgt := 47) (by decide +kernel) (mif_eqn hb)) ?_
    refine RK.of (RN.blk (ops := [(15, .aload_n 0)]) (pc' := 16) (lv' := [(0, .inr (.inr 0)), (1, .inl a1), (2, .inl a2), (3, .inl a3)]) (st' := [.inr (.inr 0)]) (h' := h1) (cs := []) (by decide +kernel) rfl trivial) ?_
    refine RK.of (RN.gr (i := 41) (ci := 11) (k := 5) (fn := true) (v := 20) (by decide +kernel) rfl (TO.gk (o_0 hL)) (hL.fo (v := 20) 5 2 (o_0 hL) rfl (by decide) rfl).1) ?_
    refine RK.of (RN.gr (i := 130) (ci := 2) (k := 0) (fn := true) (v := 21) (by decide +kernel) rfl (TO.gk (o_20 hL)) (hL.fo (v := 21) 0 8 (o_20 hL) rfl (by decide) rfl).1) ?_
    refine RK.of (RN.blk (ops := [(22, .iload_n 3)]) (pc' := 23) (lv' := [(0, .inr (.inr 0)), (1, .inl a1), (2, .inl a2), (3, .inl a3)]) (st' := [.inl a3, .inr (.inr 21)]) (h' := h1) (cs := []) (by decide +kernel) rfl trivial) ?_
    obtain ⟨x4, h3, hG, hF⟩ := bd_of hF
    have hq := rcv_ok (as := [.inl a3]) (TO.gk (o_21 hL))
    obtain ⟨hN, hL, hQ⟩ := DX8_hasHole (d := d + 3) hL (o_21 hL) hG
    refine RK.of (RN.cv (i := 131) (k := 81) (q2 := iX8_hasHole) (as := [.inr (.inr 21), .inl a3]) (r := []) (v := some (.inl x4)) (h1 := h3) (by decide +kernel) rfl rfl rfl rfl rfl hq hN) ?_
    have hK := hK.tr hQ
    rcases it_of hF with ⟨hb, hF⟩ | ⟨hb, hF⟩
    · refine RK.of (RN.ift (cd := .eq) (off := 21) (tgt := 47) (by decide +kernel) (mif_eq hb)) ?_
      refine RK.of (RN.blk (ops := [(47, .iconst (-1))]) (pc' := 48) (lv' := [(0, .inr (.inr 0)), (1, .inl a1), (2, .inl a2), (3, .inl a3)]) (st' := [.inl (-1)]) (h' := h3) (cs := []) (by decide +kernel) rfl trivial) ?_
      exact RK.iR (by decide +kernel) rfl hL hK hF
    · refine RK.of (RN.iff (cd := .eq) (off := 21) (tgt := 47) (by decide +kernel) (mif_eqn hb)) ?_
      refine RK.of (RN.blk (ops := [(29, .aload_n 0)]) (pc' := 30) (lv' := [(0, .inr (.inr 0)), (1, .inl a1), (2, .inl a2), (3, .inl a3)]) (st' := [.inr (.inr 0)]) (h' := h3) (cs := []) (by decide +kernel) rfl trivial) ?_
      refine RK.of (RN.gr (i := 41) (ci := 11) (k := 5) (fn := true) (v := 20) (by decide +kernel) rfl (TO.gk (o_0 hL)) (hL.fo (v := 20) 5 2 (o_0 hL) rfl (by decide) rfl).1) ?_
      refine RK.of (RN.gr (i := 110) (ci := 2) (k := 2) (fn := true) (v := 32) (by decide +kernel) rfl (TO.gk (o_20 hL)) (hL.fo (v := 32) 2 10 (o_20 hL) rfl (by decide) rfl).1) ?_
      refine RK.of (RN.gr (i := 113) (ci := 10) (k := 0) (fn := true) (v := 33) (by decide +kernel) rfl (TO.gk (o_32 hL)) (hL.fo (v := 33) 0 4 (o_32 hL) rfl (by decide) rfl).1) ?_
      refine RK.of (RN.blk (ops := [(39, .iload_n 1), (40, .iload_n 2)]) (pc' := 41) (lv' := [(0, .inr (.inr 0)), (1, .inl a1), (2, .inl a2), (3, .inl a3)]) (st' := [.inl a2, .inl a1, .inr (.inr 33)]) (h' := h3) (cs := []) (by decide +kernel) rfl trivial) ?_
      obtain ⟨x6, h5, hG, hF⟩ := bd_of hF
      have hq := rcv_ok (as := [.inl a1, .inl a2]) (TO.gk (o_33 hL))
      obtain ⟨hN, hL, hQ⟩ := DX4_canTake (d := d + 2) hL (o_33 hL) hG
      refine RK.of (RN.cv (i := 229) (k := 48) (q2 := iX4_canTake) (as := [.inr (.inr 33), .inl a1, .inl a2]) (r := []) (v := some (.inl x6)) (h1 := h5) (by decide +kernel) rfl rfl rfl rfl rfl hq hN) ?_
      have hK := hK.tr hQ
      rcases it_of hF with ⟨hb, hF⟩ | ⟨hb, hF⟩
      · refine RK.of (RN.iff (cd := .ne) (off := 5) (tgt := 49) (by decide +kernel) (mif_nen hb)) ?_
        refine RK.of (RN.blk (ops := [(47, .iconst (-1))]) (pc' := 48) (lv' := [(0, .inr (.inr 0)), (1, .inl a1), (2, .inl a2), (3, .inl a3)]) (st' := [.inl (-1)]) (h' := h5) (cs := []) (by decide +kernel) rfl trivial) ?_
        exact RK.iR (by decide +kernel) rfl hL hK hF
      · refine RK.of (RN.ift (cd := .ne) (off := 5) (tgt := 49) (by decide +kernel) (mif_ne hb)) ?_
        refine RK.of (RN.blk (ops := [(49, .aload_n 0)]) (pc' := 50) (lv' := [(0, .inr (.inr 0)), (1, .inl a1), (2, .inl a2), (3, .inl a3)]) (st' := [.inr (.inr 0)]) (h' := h5) (cs := []) (by decide +kernel) rfl trivial) ?_
        obtain ⟨h7, hG, hF⟩ := bv_of hF
        have hq := rcv_ok (as := []) (TO.gk (o_0 hL))
        obtain ⟨hN, hL, hQ⟩ := DX11_remember (d := d) hL  hG
        refine RK.of (RN.cv (i := 206) (k := 152) (q2 := iX11_remember) (as := [.inr (.inr 0)]) (r := []) (v := none) (h1 := h7) (by decide +kernel) rfl rfl rfl rfl rfl hq hN) ?_
        have hK := hK.tr hQ
        refine RK.of (RN.blk (ops := [(53, .aload_n 0)]) (pc' := 54) (lv' := [(0, .inr (.inr 0)), (1, .inl a1), (2, .inl a2), (3, .inl a3)]) (st' := [.inr (.inr 0)]) (h' := h7) (cs := []) (by decide +kernel) rfl trivial) ?_
        refine RK.of (RN.gr (i := 41) (ci := 11) (k := 5) (fn := true) (v := 20) (by decide +kernel) rfl (TO.gk (o_0 hL)) (hL.fo (v := 20) 5 2 (o_0 hL) rfl (by decide) rfl).1) ?_
        refine RK.of (RN.gr (i := 110) (ci := 2) (k := 2) (fn := true) (v := 32) (by decide +kernel) rfl (TO.gk (o_20 hL)) (hL.fo (v := 32) 2 10 (o_20 hL) rfl (by decide) rfl).1) ?_
        refine RK.of (RN.gr (i := 113) (ci := 10) (k := 0) (fn := true) (v := 33) (by decide +kernel) rfl (TO.gk (o_32 hL)) (hL.fo (v := 33) 0 4 (o_32 hL) rfl (by decide) rfl).1) ?_
        refine RK.of (RN.blk (ops := [(63, .iload_n 1), (64, .iload_n 2), (65, .iload_n 3)]) (pc' := 66) (lv' := [(0, .inr (.inr 0)), (1, .inl a1), (2, .inl a2), (3, .inl a3)]) (st' := [.inl a3, .inl a2, .inl a1, .inr (.inr 33)]) (h' := h7) (cs := []) (by decide +kernel) rfl trivial) ?_
        obtain ⟨x9, h8, hG, hF⟩ := bd_of hF
        have hq := rcv_ok (as := [.inl a1, .inl a2, .inl a3]) (TO.gk (o_33 hL))
        obtain ⟨hN, hL, hQ⟩ := DX4_put (d := d + 2) hL (o_33 hL) hG
        refine RK.of (RN.cv (i := 232) (k := 49) (q2 := iX4_put) (as := [.inr (.inr 33), .inl a1, .inl a2, .inl a3]) (r := []) (v := some (.inl x9)) (h1 := h8) (by decide +kernel) rfl rfl rfl rfl rfl hq hN) ?_
        have hK := hK.tr hQ
        exact RK.iR (by decide +kernel) rfl hL hK hF
noncomputable def GX11_strike (a1 : Int) (h : MH) : Option (Int × MH) :=
  (bd (GX4_has 33 a1 h) (fun x2 h1 =>
   (if x2 = 0 then
    some ((-1), h1)
   else
    (bv (GX11_remember h1) (fun h3 =>
     (bv (GX4_drop 33 a1 h3) (fun h4 =>
      some ((m_rd h4 33 0), h4))))))))
theorem DX11_strike {d : Nat} {a1 : Int} {h : MH} {r : Int × MH} (hL : LR h) (hF : GX11_strike a1 h = some r) : RN xs L iX11_strike (d + 4) 0 (lvE 0 [.inr (.inr 0), .inl a1]) [] h (RIo r) ∧ LR r.2 ∧ KD h r.2 := by
  unfold GX11_strike at hF
  have hK : KD h h := KD.rf
  show RK xs L iX11_strike (d + 4) 0 (lvE 0 [.inr (.inr 0), .inl a1]) [] h (RIo r) h r.2
  refine RK.of (RN.blk (ops := [(0, .aload_n 0)]) (pc' := 1) (lv' := [(0, .inr (.inr 0)), (1, .inl a1)]) (st' := [.inr (.inr 0)]) (h' := h) (cs := []) (by decide +kernel) rfl trivial) ?_
  refine RK.of (RN.gr (i := 41) (ci := 11) (k := 5) (fn := true) (v := 20) (by decide +kernel) rfl (TO.gk (o_0 hL)) (hL.fo (v := 20) 5 2 (o_0 hL) rfl (by decide) rfl).1) ?_
  refine RK.of (RN.gr (i := 110) (ci := 2) (k := 2) (fn := true) (v := 32) (by decide +kernel) rfl (TO.gk (o_20 hL)) (hL.fo (v := 32) 2 10 (o_20 hL) rfl (by decide) rfl).1) ?_
  refine RK.of (RN.gr (i := 113) (ci := 10) (k := 0) (fn := true) (v := 33) (by decide +kernel) rfl (TO.gk (o_32 hL)) (hL.fo (v := 33) 0 4 (o_32 hL) rfl (by decide) rfl).1) ?_
  refine RK.of (RN.blk (ops := [(10, .iload_n 1)]) (pc' := 11) (lv' := [(0, .inr (.inr 0)), (1, .inl a1)]) (st' := [.inl a1, .inr (.inr 33)]) (h' := h) (cs := []) (by decide +kernel) rfl trivial) ?_
  obtain ⟨x2, h1, hG, hF⟩ := bd_of hF
  have hq := rcv_ok (as := [.inl a1]) (TO.gk (o_33 hL))
  obtain ⟨hN, hL, hQ⟩ := DX4_has (d := d + 3) hL (o_33 hL) hG
  refine RK.of (RN.cv (i := 147) (k := 46) (q2 := iX4_has) (as := [.inr (.inr 33), .inl a1]) (r := []) (v := some (.inl x2)) (h1 := h1) (by decide +kernel) rfl rfl rfl rfl rfl hq hN) ?_
  have hK := hK.tr hQ
  rcases it_of hF with ⟨hb, hF⟩ | ⟨hb, hF⟩
  · refine RK.of (RN.iff (cd := .ne) (off := 5) (tgt := 19) (by decide +kernel) (mif_nen hb)) ?_
    refine RK.of (RN.blk (ops := [(17, .iconst (-1))]) (pc' := 18) (lv' := [(0, .inr (.inr 0)), (1, .inl a1)]) (st' := [.inl (-1)]) (h' := h1) (cs := []) (by decide +kernel) rfl trivial) ?_
    exact RK.iR (by decide +kernel) rfl hL hK hF
  · refine RK.of (RN.ift (cd := .ne) (off := 5) (tgt := 19) (by decide +kernel) (mif_ne hb)) ?_
    refine RK.of (RN.blk (ops := [(19, .aload_n 0)]) (pc' := 20) (lv' := [(0, .inr (.inr 0)), (1, .inl a1)]) (st' := [.inr (.inr 0)]) (h' := h1) (cs := []) (by decide +kernel) rfl trivial) ?_
    obtain ⟨h3, hG, hF⟩ := bv_of hF
    have hq := rcv_ok (as := []) (TO.gk (o_0 hL))
    obtain ⟨hN, hL, hQ⟩ := DX11_remember (d := d) hL  hG
    refine RK.of (RN.cv (i := 206) (k := 152) (q2 := iX11_remember) (as := [.inr (.inr 0)]) (r := []) (v := none) (h1 := h3) (by decide +kernel) rfl rfl rfl rfl rfl hq hN) ?_
    have hK := hK.tr hQ
    refine RK.of (RN.blk (ops := [(23, .aload_n 0)]) (pc' := 24) (lv' := [(0, .inr (.inr 0)), (1, .inl a1)]) (st' := [.inr (.inr 0)]) (h' := h3) (cs := []) (by decide +kernel) rfl trivial) ?_
    refine RK.of (RN.gr (i := 41) (ci := 11) (k := 5) (fn := true) (v := 20) (by decide +kernel) rfl (TO.gk (o_0 hL)) (hL.fo (v := 20) 5 2 (o_0 hL) rfl (by decide) rfl).1) ?_
    refine RK.of (RN.gr (i := 110) (ci := 2) (k := 2) (fn := true) (v := 32) (by decide +kernel) rfl (TO.gk (o_20 hL)) (hL.fo (v := 32) 2 10 (o_20 hL) rfl (by decide) rfl).1) ?_
    refine RK.of (RN.gr (i := 113) (ci := 10) (k := 0) (fn := true) (v := 33) (by decide +kernel) rfl (TO.gk (o_32 hL)) (hL.fo (v := 33) 0 4 (o_32 hL) rfl (by decide) rfl).1) ?_
    refine RK.of (RN.blk (ops := [(33, .iload_n 1)]) (pc' := 34) (lv' := [(0, .inr (.inr 0)), (1, .inl a1)]) (st' := [.inl a1, .inr (.inr 33)]) (h' := h3) (cs := []) (by decide +kernel) rfl trivial) ?_
    obtain ⟨h4, hG, hF⟩ := bv_of hF
    have hq := rcv_ok (as := [.inl a1]) (TO.gk (o_33 hL))
    obtain ⟨hN, hL, hQ⟩ := DX4_drop (d := d + 2) hL (o_33 hL) hG
    refine RK.of (RN.cv (i := 236) (k := 50) (q2 := iX4_drop) (as := [.inr (.inr 33), .inl a1]) (r := []) (v := none) (h1 := h4) (by decide +kernel) rfl rfl rfl rfl rfl hq hN) ?_
    have hK := hK.tr hQ
    refine RK.of (RN.blk (ops := [(37, .aload_n 0)]) (pc' := 38) (lv' := [(0, .inr (.inr 0)), (1, .inl a1)]) (st' := [.inr (.inr 0)]) (h' := h4) (cs := []) (by decide +kernel) rfl trivial) ?_
    refine RK.of (RN.gr (i := 41) (ci := 11) (k := 5) (fn := true) (v := 20) (by decide +kernel) rfl (TO.gk (o_0 hL)) (hL.fo (v := 20) 5 2 (o_0 hL) rfl (by decide) rfl).1) ?_
    refine RK.of (RN.gr (i := 110) (ci := 2) (k := 2) (fn := true) (v := 32) (by decide +kernel) rfl (TO.gk (o_20 hL)) (hL.fo (v := 32) 2 10 (o_20 hL) rfl (by decide) rfl).1) ?_
    refine RK.of (RN.gr (i := 113) (ci := 10) (k := 0) (fn := true) (v := 33) (by decide +kernel) rfl (TO.gk (o_32 hL)) (hL.fo (v := 33) 0 4 (o_32 hL) rfl (by decide) rfl).1) ?_
    refine RK.of (RN.blk (ops := [(47, .getfield 117)]) (pc' := 50) (lv' := [(0, .inr (.inr 0)), (1, .inl a1)]) (st' := [.inl (m_rd h4 33 0)]) (h' := h4) (cs := [GK h4 33 4]) (by decide +kernel) rfl ⟨(o_33 hL).gk, trivial⟩) ?_
    exact RK.iR (by decide +kernel) rfl hL hK hF
noncomputable def GX11_undo (h : MH) : Option (Int × MH) :=
  (if (m_rd h 0 10) = 0 then
   some ((-1), h)
  else
   hl (m_wr (m_wr h 0 9 (Int.tmod (m_w32 ((m_w32 ((m_rd h 0 9) + 20)) - 1)) 20)) 0 10 (m_w32 ((m_rd (m_wr h 0 9 (Int.tmod (m_w32 ((m_w32 ((m_rd h 0 9) + 20)) - 1)) 20)) 0 10) - 1))) (fun h1 =>
    gd [IB (m_rd h1 0 9) 20] (
     (bv (GX10_copyFrom 32 (138 + 8 * (m_rd h1 0 9)) h1) (fun h3 =>
      some ((m_rd h3 0 10), h3))))))
theorem DX11_undo {d : Nat} {h : MH} {r : Int × MH} (hL : LR h) (hF : GX11_undo h = some r) : RN xs L iX11_undo (d + 3) 0 (lvE 0 [.inr (.inr 0)]) [] h (RIo r) ∧ LR r.2 ∧ KD h r.2 := by
  unfold GX11_undo at hF
  have hK : KD h h := KD.rf
  show RK xs L iX11_undo (d + 3) 0 (lvE 0 [.inr (.inr 0)]) [] h (RIo r) h r.2
  refine RK.of (RN.blk (ops := [(0, .aload_n 0), (1, .getfield 107)]) (pc' := 4) (lv' := [(0, .inr (.inr 0))]) (st' := [.inl (m_rd h 0 10)]) (h' := h) (cs := [GK h 0 11]) (by decide +kernel) rfl ⟨(o_0 hL).gk, trivial⟩) ?_
  rcases it_of hF with ⟨hb, hF⟩ | ⟨hb, hF⟩
  · refine RK.of (RN.iff (cd := .ne) (off := 5) (tgt := 9) (by decide +kernel) (mif_nen hb)) ?_
    refine RK.of (RN.blk (ops := [(7, .iconst (-1))]) (pc' := 8) (lv' := [(0, .inr (.inr 0))]) (st' := [.inl (-1)]) (h' := h) (cs := []) (by decide +kernel) rfl trivial) ?_
    exact RK.iR (by decide +kernel) rfl hL hK hF
  · refine RK.of (RN.ift (cd := .ne) (off := 5) (tgt := 9) (by decide +kernel) (mif_ne hb)) ?_
    refine RK.of (RN.blk (ops := [(9, .aload_n 0), (10, .aload_n 0), (11, .getfield 239), (14, .bipush 20), (16, .iadd), (17, .iconst 1), (18, .isub), (19, .bipush 20), (21, .irem), (22, .putfield 239)]) (pc' := 25) (lv' := [(0, .inr (.inr 0))]) (st' := []) (h' := (m_wr h 0 9 (Int.tmod (m_w32 ((m_w32 ((m_rd h 0 9) + 20)) - 1)) 20))) (cs := [GK h 0 11, (20 : Int) ≠ 0, GK h 0 11]) (by decide +kernel) rfl ⟨(o_0 hL).gk, (by decide), (o_0 hL).gk, trivial⟩) ?_
    have hL : LR (m_wr h 0 9 (Int.tmod (m_w32 ((m_w32 ((m_rd h 0 9) + 20)) - 1)) 20)) := LR.wf (k := 9) hL (o_0 hL) rfl
    have hK := hK.tr (KD.wr : KD h (m_wr h 0 9 (Int.tmod (m_w32 ((m_w32 ((m_rd h 0 9) + 20)) - 1)) 20)))
    refine RK.of (RN.blk (ops := [(25, .aload_n 0), (26, .dup), (27, .getfield 107), (30, .iconst 1), (31, .isub), (32, .putfield 107)]) (pc' := 35) (lv' := [(0, .inr (.inr 0))]) (st' := []) (h' := (m_wr (m_wr h 0 9 (Int.tmod (m_w32 ((m_w32 ((m_rd h 0 9) + 20)) - 1)) 20)) 0 10 (m_w32 ((m_rd (m_wr h 0 9 (Int.tmod (m_w32 ((m_w32 ((m_rd h 0 9) + 20)) - 1)) 20)) 0 10) - 1)))) (cs := [GK (m_wr h 0 9 (Int.tmod (m_w32 ((m_w32 ((m_rd h 0 9) + 20)) - 1)) 20)) 0 11, GK (m_wr h 0 9 (Int.tmod (m_w32 ((m_w32 ((m_rd h 0 9) + 20)) - 1)) 20)) 0 11]) (by decide +kernel) rfl ⟨(o_0 hL).gk, (o_0 hL).gk, trivial⟩) ?_
    have hL : LR (m_wr (m_wr h 0 9 (Int.tmod (m_w32 ((m_w32 ((m_rd h 0 9) + 20)) - 1)) 20)) 0 10 (m_w32 ((m_rd (m_wr h 0 9 (Int.tmod (m_w32 ((m_w32 ((m_rd h 0 9) + 20)) - 1)) 20)) 0 10) - 1))) := LR.wf (k := 10) hL (o_0 hL) rfl
    have hK := hK.tr (KD.wr : KD (m_wr h 0 9 (Int.tmod (m_w32 ((m_w32 ((m_rd h 0 9) + 20)) - 1)) 20)) (m_wr (m_wr h 0 9 (Int.tmod (m_w32 ((m_w32 ((m_rd h 0 9) + 20)) - 1)) 20)) 0 10 (m_w32 ((m_rd (m_wr h 0 9 (Int.tmod (m_w32 ((m_w32 ((m_rd h 0 9) + 20)) - 1)) 20)) 0 10) - 1))))
    obtain ⟨h1, he, hF⟩ := hl_of hF
    refine RK.of (RN.hl he) ?_
    rw [← he] at hL hK
    refine RK.of (RN.blk (ops := [(35, .aload_n 0)]) (pc' := 36) (lv' := [(0, .inr (.inr 0))]) (st' := [.inr (.inr 0)]) (h' := h1) (cs := []) (by decide +kernel) rfl trivial) ?_
    refine RK.of (RN.gr (i := 41) (ci := 11) (k := 5) (fn := true) (v := 20) (by decide +kernel) rfl (TO.gk (o_0 hL)) (hL.fo (v := 20) 5 2 (o_0 hL) rfl (by decide) rfl).1) ?_
    refine RK.of (RN.gr (i := 110) (ci := 2) (k := 2) (fn := true) (v := 32) (by decide +kernel) rfl (TO.gk (o_20 hL)) (hL.fo (v := 32) 2 10 (o_20 hL) rfl (by decide) rfl).1) ?_
    refine RK.of (RN.blk (ops := [(42, .aload_n 0)]) (pc' := 43) (lv' := [(0, .inr (.inr 0))]) (st' := [.inr (.inr 0), .inr (.inr 32)]) (h' := h1) (cs := []) (by decide +kernel) rfl trivial) ?_
    refine RK.of (RN.gr (i := 55) (ci := 11) (k := 8) (fn := true) (v := 137) (by decide +kernel) rfl (TO.gk (o_0 hL)) (hL.fa (v := 137) 8 7 20 (o_0 hL) rfl (by decide) rfl (by decide)).1) ?_
    refine RK.of (RN.blk (ops := [(46, .aload_n 0), (47, .getfield 239)]) (pc' := 50) (lv' := [(0, .inr (.inr 0))]) (st' := [.inl (m_rd h1 0 9), .inr (.inr 137), .inr (.inr 32)]) (h' := h1) (cs := [GK h1 0 11]) (by decide +kernel) rfl ⟨(o_0 hL).gk, trivial⟩) ?_
    obtain ⟨hc, hF⟩ := gd_of hF
    refine RK.of (RN.ga (by decide +kernel) ((a_137 hL).ga (by decide) (by decide) hc.1.1 hc.1.2) (hL.2.2.2.2.1 _ hc.1.1 hc.1.2)) ?_
    have k_d2 := hL.pst hc.1.1 hc.1.2
    obtain ⟨h3, hG, hF⟩ := bv_of hF
    have hq := rcv_ok (as := [.inr (.inr (138 + 8 * (m_rd h1 0 9)))]) (TO.gk (o_32 hL))
    obtain ⟨hN, hL, hQ⟩ := DX10_copyFrom (d := d) hL (o_32 hL) k_d2 hG
    refine RK.of (RN.cv (i := 212) (k := 101) (q2 := iX10_copyFrom) (as := [.inr (.inr 32), .inr (.inr (138 + 8 * (m_rd h1 0 9)))]) (r := []) (v := none) (h1 := h3) (by decide +kernel) rfl rfl rfl rfl rfl hq hN) ?_
    have k_d2 := hQ.to k_d2
    have hK := hK.tr hQ
    refine RK.of (RN.blk (ops := [(54, .aload_n 0), (55, .getfield 107)]) (pc' := 58) (lv' := [(0, .inr (.inr 0))]) (st' := [.inl (m_rd h3 0 10)]) (h' := h3) (cs := [GK h3 0 11]) (by decide +kernel) rfl ⟨(o_0 hL).gk, trivial⟩) ?_
    exact RK.iR (by decide +kernel) rfl hL hK hF
noncomputable def GX11_drawNow (h : MH) : Option (MH) :=
  (bv (GX1_draw 21 33 h) (fun h1 =>
   some h1))
theorem DX11_drawNow {d : Nat} {h : MH} {r : MH} (hL : LR h) (hF : GX11_drawNow h = some r) : RN xs L iX11_drawNow (d + 3) 0 (lvE 0 [.inr (.inr 0)]) [] h (RVo r) ∧ LR r ∧ KD h r := by
  unfold GX11_drawNow at hF
  have hK : KD h h := KD.rf
  show RK xs L iX11_drawNow (d + 3) 0 (lvE 0 [.inr (.inr 0)]) [] h (RVo r) h r
  refine RK.of (RN.blk (ops := [(0, .aload_n 0)]) (pc' := 1) (lv' := [(0, .inr (.inr 0))]) (st' := [.inr (.inr 0)]) (h' := h) (cs := []) (by decide +kernel) rfl trivial) ?_
  refine RK.of (RN.gr (i := 63) (ci := 11) (k := 11) (fn := true) (v := 298) (by decide +kernel) rfl (TO.gk (o_0 hL)) (hL.fo (v := 298) 11 1 (o_0 hL) rfl (by decide) rfl).1) ?_
  refine RK.of (RN.blk (ops := [(4, .aload_n 0)]) (pc' := 5) (lv' := [(0, .inr (.inr 0))]) (st' := [.inr (.inr 0), .inr (.inr 298)]) (h' := h) (cs := []) (by decide +kernel) rfl trivial) ?_
  refine RK.of (RN.gr (i := 41) (ci := 11) (k := 5) (fn := true) (v := 20) (by decide +kernel) rfl (TO.gk (o_0 hL)) (hL.fo (v := 20) 5 2 (o_0 hL) rfl (by decide) rfl).1) ?_
  refine RK.of (RN.gr (i := 130) (ci := 2) (k := 0) (fn := true) (v := 21) (by decide +kernel) rfl (TO.gk (o_20 hL)) (hL.fo (v := 21) 0 8 (o_20 hL) rfl (by decide) rfl).1) ?_
  refine RK.of (RN.blk (ops := [(11, .aload_n 0)]) (pc' := 12) (lv' := [(0, .inr (.inr 0))]) (st' := [.inr (.inr 0), .inr (.inr 21), .inr (.inr 298)]) (h' := h) (cs := []) (by decide +kernel) rfl trivial) ?_
  refine RK.of (RN.gr (i := 41) (ci := 11) (k := 5) (fn := true) (v := 20) (by decide +kernel) rfl (TO.gk (o_0 hL)) (hL.fo (v := 20) 5 2 (o_0 hL) rfl (by decide) rfl).1) ?_
  refine RK.of (RN.gr (i := 110) (ci := 2) (k := 2) (fn := true) (v := 32) (by decide +kernel) rfl (TO.gk (o_20 hL)) (hL.fo (v := 32) 2 10 (o_20 hL) rfl (by decide) rfl).1) ?_
  refine RK.of (RN.gr (i := 113) (ci := 10) (k := 0) (fn := true) (v := 33) (by decide +kernel) rfl (TO.gk (o_32 hL)) (hL.fo (v := 33) 0 4 (o_32 hL) rfl (by decide) rfl).1) ?_
  obtain ⟨h1, hG, hF⟩ := bv_of hF
  have hq := rcv_ok (as := [.inr (.inr 21), .inr (.inr 33)]) (TO.gk (o_298 hL))
  obtain ⟨hN, hL, hQ⟩ := DX1_draw (d := d) hL (o_21 hL) (o_33 hL) hG
  refine RK.of (RN.cv (i := 365) (k := 12) (q2 := iX1_draw) (as := [.inr (.inr 298), .inr (.inr 21), .inr (.inr 33)]) (r := []) (v := none) (h1 := h1) (by decide +kernel) rfl rfl rfl rfl rfl hq hN) ?_
  have hK := hK.tr hQ
  exact RK.vR (by decide +kernel) rfl hL hK hF
noncomputable def GX11_where (a1 : Int) (a2 : Int) (h : MH) : Option (Int × MH) :=
  (bd (GX8_hasCode 21 a1 h) (fun x2 h1 =>
   (if x2 = 0 then
    some ((-1), h1)
   else
    (if a2 < 0 then
     some ((-1), h1)
    else
     (if 1 < a2 then
      some ((-1), h1)
     else
      (bv (GX11_drawNow h1) (fun h3 =>
       (bd (GX1_entryFor a1 h3) (fun x5 h4 =>
        (if x5 = (-1) then
         some ((-2), h4)
        else
         (if a2 = 0 then
          (bd (GX1_holeFor a1 h4) (fun x9 h8 =>
           some (x9, h8)))
         else
          (bd (GX1_digitsFor a1 h4) (fun x7 h6 =>
           some (x7, h6))))))))))))))
theorem DX11_where {d : Nat} {a1 : Int} {a2 : Int} {h : MH} {r : Int × MH} (hL : LR h) (hF : GX11_where a1 a2 h = some r) : RN xs L iX11_where (d + 4) 0 (lvE 0 [.inr (.inr 0), .inl a1, .inl a2]) [] h (RIo r) ∧ LR r.2 ∧ KD h r.2 := by
  unfold GX11_where at hF
  have hK : KD h h := KD.rf
  show RK xs L iX11_where (d + 4) 0 (lvE 0 [.inr (.inr 0), .inl a1, .inl a2]) [] h (RIo r) h r.2
  refine RK.of (RN.blk (ops := [(0, .aload_n 0)]) (pc' := 1) (lv' := [(0, .inr (.inr 0)), (1, .inl a1), (2, .inl a2)]) (st' := [.inr (.inr 0)]) (h' := h) (cs := []) (by decide +kernel) rfl trivial) ?_
  refine RK.of (RN.gr (i := 41) (ci := 11) (k := 5) (fn := true) (v := 20) (by decide +kernel) rfl (TO.gk (o_0 hL)) (hL.fo (v := 20) 5 2 (o_0 hL) rfl (by decide) rfl).1) ?_
  refine RK.of (RN.gr (i := 130) (ci := 2) (k := 0) (fn := true) (v := 21) (by decide +kernel) rfl (TO.gk (o_20 hL)) (hL.fo (v := 21) 0 8 (o_20 hL) rfl (by decide) rfl).1) ?_
  refine RK.of (RN.blk (ops := [(7, .iload_n 1)]) (pc' := 8) (lv' := [(0, .inr (.inr 0)), (1, .inl a1), (2, .inl a2)]) (st' := [.inl a1, .inr (.inr 21)]) (h' := h) (cs := []) (by decide +kernel) rfl trivial) ?_
  obtain ⟨x2, h1, hG, hF⟩ := bd_of hF
  have hq := rcv_ok (as := [.inl a1]) (TO.gk (o_21 hL))
  obtain ⟨hN, hL, hQ⟩ := DX8_hasCode (d := d + 3) hL (o_21 hL) hG
  refine RK.of (RN.cv (i := 216) (k := 82) (q2 := iX8_hasCode) (as := [.inr (.inr 21), .inl a1]) (r := []) (v := some (.inl x2)) (h1 := h1) (by decide +kernel) rfl rfl rfl rfl rfl hq hN) ?_
  have hK := hK.tr hQ
  rcases it_of hF with ⟨hb, hF⟩ | ⟨hb, hF⟩
  · refine RK.of (RN.ift (cd := .eq) (off := 12) (tgt := 23) (by decide +kernel) (mif_eq hb)) ?_
    refine RK.of (RN.blk (ops := [(23, .iconst (-1))]) (pc' := 24) (lv' := [(0, .inr (.inr 0)), (1, .inl a1), (2, .inl a2)]) (st' := [.inl (-1)]) (h' := h1) (cs := []) (by decide +kernel) rfl trivial) ?_
    exact RK.iR (by decide +kernel) rfl hL hK hF
  · refine RK.of (RN.iff (cd := .eq) (off := 12) (tgt := 23) (by decide +kernel) (mif_eqn hb)) ?_
    refine RK.of (RN.blk (ops := [(14, .iload_n 2)]) (pc' := 15) (lv' := [(0, .inr (.inr 0)), (1, .inl a1), (2, .inl a2)]) (st' := [.inl a2]) (h' := h1) (cs := []) (by decide +kernel) rfl trivial) ?_
    rcases it_of hF with ⟨hb, hF⟩ | ⟨hb, hF⟩
    · refine RK.of (RN.ift (cd := .lt) (off := 8) (tgt := 23) (by decide +kernel) (mif_lt hb)) ?_
      refine RK.of (RN.blk (ops := [(23, .iconst (-1))]) (pc' := 24) (lv' := [(0, .inr (.inr 0)), (1, .inl a1), (2, .inl a2)]) (st' := [.inl (-1)]) (h' := h1) (cs := []) (by decide +kernel) rfl trivial) ?_
      exact RK.iR (by decide +kernel) rfl hL hK hF
    · refine RK.of (RN.iff (cd := .lt) (off := 8) (tgt := 23) (by decide +kernel) (mif_ltn hb)) ?_
      refine RK.of (RN.blk (ops := [(18, .iload_n 2), (19, .iconst 1)]) (pc' := 20) (lv' := [(0, .inr (.inr 0)), (1, .inl a1), (2, .inl a2)]) (st' := [.inl 1, .inl a2]) (h' := h1) (cs := []) (by decide +kernel) rfl trivial) ?_
      rcases it_of hF with ⟨hb, hF⟩ | ⟨hb, hF⟩
      · refine RK.of (RN.icf (cd := .le) (off := 5) (tgt := 25) (by decide +kernel) (mif_len hb)) ?_
        refine RK.of (RN.blk (ops := [(23, .iconst (-1))]) (pc' := 24) (lv' := [(0, .inr (.inr 0)), (1, .inl a1), (2, .inl a2)]) (st' := [.inl (-1)]) (h' := h1) (cs := []) (by decide +kernel) rfl trivial) ?_
        exact RK.iR (by decide +kernel) rfl hL hK hF
      · refine RK.of (RN.ict (cd := .le) (off := 5) (tgt := 25) (by decide +kernel) (mif_le hb)) ?_
        refine RK.of (RN.blk (ops := [(25, .aload_n 0)]) (pc' := 26) (lv' := [(0, .inr (.inr 0)), (1, .inl a1), (2, .inl a2)]) (st' := [.inr (.inr 0)]) (h' := h1) (cs := []) (by decide +kernel) rfl trivial) ?_
        obtain ⟨h3, hG, hF⟩ := bv_of hF
        have hq := rcv_ok (as := []) (TO.gk (o_0 hL))
        obtain ⟨hN, hL, hQ⟩ := DX11_drawNow (d := d) hL  hG
        refine RK.of (RN.cv (i := 242) (k := 153) (q2 := iX11_drawNow) (as := [.inr (.inr 0)]) (r := []) (v := none) (h1 := h3) (by decide +kernel) rfl rfl rfl rfl rfl hq hN) ?_
        have hK := hK.tr hQ
        refine RK.of (RN.blk (ops := [(29, .aload_n 0)]) (pc' := 30) (lv' := [(0, .inr (.inr 0)), (1, .inl a1), (2, .inl a2)]) (st' := [.inr (.inr 0)]) (h' := h3) (cs := []) (by decide +kernel) rfl trivial) ?_
        refine RK.of (RN.gr (i := 63) (ci := 11) (k := 11) (fn := true) (v := 298) (by decide +kernel) rfl (TO.gk (o_0 hL)) (hL.fo (v := 298) 11 1 (o_0 hL) rfl (by decide) rfl).1) ?_
        refine RK.of (RN.blk (ops := [(33, .iload_n 1)]) (pc' := 34) (lv' := [(0, .inr (.inr 0)), (1, .inl a1), (2, .inl a2)]) (st' := [.inl a1, .inr (.inr 298)]) (h' := h3) (cs := []) (by decide +kernel) rfl trivial) ?_
        obtain ⟨x5, h4, hG, hF⟩ := bd_of hF
        have hq := rcv_ok (as := [.inl a1]) (TO.gk (o_298 hL))
        obtain ⟨hN, hL, hQ⟩ := DX1_entryFor (d := d + 2) hL  hG
        refine RK.of (RN.cv (i := 245) (k := 14) (q2 := iX1_entryFor) (as := [.inr (.inr 298), .inl a1]) (r := []) (v := some (.inl x5)) (h1 := h4) (by decide +kernel) rfl rfl rfl rfl rfl hq hN) ?_
        have hK := hK.tr hQ
        refine RK.of (RN.blk (ops := [(37, .iconst (-1))]) (pc' := 38) (lv' := [(0, .inr (.inr 0)), (1, .inl a1), (2, .inl a2)]) (st' := [.inl (-1), .inl x5]) (h' := h4) (cs := []) (by decide +kernel) rfl trivial) ?_
        rcases it_of hF with ⟨hb, hF⟩ | ⟨hb, hF⟩
        · refine RK.of (RN.icf (cd := .ne) (off := 6) (tgt := 44) (by decide +kernel) (mif_nen hb)) ?_
          refine RK.of (RN.blk (ops := [(41, .bipush (-2))]) (pc' := 43) (lv' := [(0, .inr (.inr 0)), (1, .inl a1), (2, .inl a2)]) (st' := [.inl (-2)]) (h' := h4) (cs := []) (by decide +kernel) rfl trivial) ?_
          exact RK.iR (by decide +kernel) rfl hL hK hF
        · refine RK.of (RN.ict (cd := .ne) (off := 6) (tgt := 44) (by decide +kernel) (mif_ne hb)) ?_
          refine RK.of (RN.blk (ops := [(44, .iload_n 2)]) (pc' := 45) (lv' := [(0, .inr (.inr 0)), (1, .inl a1), (2, .inl a2)]) (st' := [.inl a2]) (h' := h4) (cs := []) (by decide +kernel) rfl trivial) ?_
          rcases it_of hF with ⟨hb, hF⟩ | ⟨hb, hF⟩
          · refine RK.of (RN.iff (cd := .ne) (off := 14) (tgt := 59) (by decide +kernel) (mif_nen hb)) ?_
            refine RK.of (RN.blk (ops := [(48, .aload_n 0)]) (pc' := 49) (lv' := [(0, .inr (.inr 0)), (1, .inl a1), (2, .inl a2)]) (st' := [.inr (.inr 0)]) (h' := h4) (cs := []) (by decide +kernel) rfl trivial) ?_
            refine RK.of (RN.gr (i := 63) (ci := 11) (k := 11) (fn := true) (v := 298) (by decide +kernel) rfl (TO.gk (o_0 hL)) (hL.fo (v := 298) 11 1 (o_0 hL) rfl (by decide) rfl).1) ?_
            refine RK.of (RN.blk (ops := [(52, .iload_n 1)]) (pc' := 53) (lv' := [(0, .inr (.inr 0)), (1, .inl a1), (2, .inl a2)]) (st' := [.inl a1, .inr (.inr 298)]) (h' := h4) (cs := []) (by decide +kernel) rfl trivial) ?_
            obtain ⟨x9, h8, hG, hF⟩ := bd_of hF
            have hq := rcv_ok (as := [.inl a1]) (TO.gk (o_298 hL))
            obtain ⟨hN, hL, hQ⟩ := DX1_holeFor (d := d + 1) hL  hG
            refine RK.of (RN.cv (i := 249) (k := 15) (q2 := iX1_holeFor) (as := [.inr (.inr 298), .inl a1]) (r := []) (v := some (.inl x9)) (h1 := h8) (by decide +kernel) rfl rfl rfl rfl rfl hq hN) ?_
            have hK := hK.tr hQ
            refine RK.of (RN.goto (off := 11) (tgt := 67) (by decide +kernel)) ?_
            exact RK.iR (by decide +kernel) rfl hL hK hF
          · refine RK.of (RN.ift (cd := .ne) (off := 14) (tgt := 59) (by decide +kernel) (mif_ne hb)) ?_
            refine RK.of (RN.blk (ops := [(59, .aload_n 0)]) (pc' := 60) (lv' := [(0, .inr (.inr 0)), (1, .inl a1), (2, .inl a2)]) (st' := [.inr (.inr 0)]) (h' := h4) (cs := []) (by decide +kernel) rfl trivial) ?_
            refine RK.of (RN.gr (i := 63) (ci := 11) (k := 11) (fn := true) (v := 298) (by decide +kernel) rfl (TO.gk (o_0 hL)) (hL.fo (v := 298) 11 1 (o_0 hL) rfl (by decide) rfl).1) ?_
            refine RK.of (RN.blk (ops := [(63, .iload_n 1)]) (pc' := 64) (lv' := [(0, .inr (.inr 0)), (1, .inl a1), (2, .inl a2)]) (st' := [.inl a1, .inr (.inr 298)]) (h' := h4) (cs := []) (by decide +kernel) rfl trivial) ?_
            obtain ⟨x7, h6, hG, hF⟩ := bd_of hF
            have hq := rcv_ok (as := [.inl a1]) (TO.gk (o_298 hL))
            obtain ⟨hN, hL, hQ⟩ := DX1_digitsFor (d := d + 1) hL  hG
            refine RK.of (RN.cv (i := 252) (k := 16) (q2 := iX1_digitsFor) (as := [.inr (.inr 298), .inl a1]) (r := []) (v := some (.inl x7)) (h1 := h6) (by decide +kernel) rfl rfl rfl rfl rfl hq hN) ?_
            have hK := hK.tr hQ
            exact RK.iR (by decide +kernel) rfl hL hK hF
noncomputable def GX11_may (a1 : Int) (h : MH) : Option (Int × MH) :=
  (bv (GX11_drawNow h) (fun h1 =>
   (bd (GX1_takeReading a1 h1) (fun x3 h2 =>
    (if x3 = 0 then
     some ((-1), h2)
    else
     (bd (GX1_meantHoles h2) (fun x5 h4 =>
      some (x5, h4))))))))
theorem DX11_may {d : Nat} {a1 : Int} {h : MH} {r : Int × MH} (hL : LR h) (hF : GX11_may a1 h = some r) : RN xs L iX11_may (d + 4) 0 (lvE 0 [.inr (.inr 0), .inl a1]) [] h (RIo r) ∧ LR r.2 ∧ KD h r.2 := by
  unfold GX11_may at hF
  have hK : KD h h := KD.rf
  show RK xs L iX11_may (d + 4) 0 (lvE 0 [.inr (.inr 0), .inl a1]) [] h (RIo r) h r.2
  refine RK.of (RN.blk (ops := [(0, .aload_n 0)]) (pc' := 1) (lv' := [(0, .inr (.inr 0)), (1, .inl a1)]) (st' := [.inr (.inr 0)]) (h' := h) (cs := []) (by decide +kernel) rfl trivial) ?_
  obtain ⟨h1, hG, hF⟩ := bv_of hF
  have hq := rcv_ok (as := []) (TO.gk (o_0 hL))
  obtain ⟨hN, hL, hQ⟩ := DX11_drawNow (d := d) hL  hG
  refine RK.of (RN.cv (i := 242) (k := 153) (q2 := iX11_drawNow) (as := [.inr (.inr 0)]) (r := []) (v := none) (h1 := h1) (by decide +kernel) rfl rfl rfl rfl rfl hq hN) ?_
  have hK := hK.tr hQ
  refine RK.of (RN.blk (ops := [(4, .aload_n 0)]) (pc' := 5) (lv' := [(0, .inr (.inr 0)), (1, .inl a1)]) (st' := [.inr (.inr 0)]) (h' := h1) (cs := []) (by decide +kernel) rfl trivial) ?_
  refine RK.of (RN.gr (i := 63) (ci := 11) (k := 11) (fn := true) (v := 298) (by decide +kernel) rfl (TO.gk (o_0 hL)) (hL.fo (v := 298) 11 1 (o_0 hL) rfl (by decide) rfl).1) ?_
  refine RK.of (RN.blk (ops := [(8, .iload_n 1)]) (pc' := 9) (lv' := [(0, .inr (.inr 0)), (1, .inl a1)]) (st' := [.inl a1, .inr (.inr 298)]) (h' := h1) (cs := []) (by decide +kernel) rfl trivial) ?_
  obtain ⟨x3, h2, hG, hF⟩ := bd_of hF
  have hq := rcv_ok (as := [.inl a1]) (TO.gk (o_298 hL))
  obtain ⟨hN, hL, hQ⟩ := DX1_takeReading (d := d + 3) hL  hG
  refine RK.of (RN.cv (i := 255) (k := 19) (q2 := iX1_takeReading) (as := [.inr (.inr 298), .inl a1]) (r := []) (v := some (.inl x3)) (h1 := h2) (by decide +kernel) rfl rfl rfl rfl rfl hq hN) ?_
  have hK := hK.tr hQ
  rcases it_of hF with ⟨hb, hF⟩ | ⟨hb, hF⟩
  · refine RK.of (RN.ift (cd := .eq) (off := 13) (tgt := 25) (by decide +kernel) (mif_eq hb)) ?_
    refine RK.of (RN.blk (ops := [(25, .iconst (-1))]) (pc' := 26) (lv' := [(0, .inr (.inr 0)), (1, .inl a1)]) (st' := [.inl (-1)]) (h' := h2) (cs := []) (by decide +kernel) rfl trivial) ?_
    exact RK.iR (by decide +kernel) rfl hL hK hF
  · refine RK.of (RN.iff (cd := .eq) (off := 13) (tgt := 25) (by decide +kernel) (mif_eqn hb)) ?_
    refine RK.of (RN.blk (ops := [(15, .aload_n 0)]) (pc' := 16) (lv' := [(0, .inr (.inr 0)), (1, .inl a1)]) (st' := [.inr (.inr 0)]) (h' := h2) (cs := []) (by decide +kernel) rfl trivial) ?_
    refine RK.of (RN.gr (i := 63) (ci := 11) (k := 11) (fn := true) (v := 298) (by decide +kernel) rfl (TO.gk (o_0 hL)) (hL.fo (v := 298) 11 1 (o_0 hL) rfl (by decide) rfl).1) ?_
    obtain ⟨x5, h4, hG, hF⟩ := bd_of hF
    have hq := rcv_ok (as := []) (TO.gk (o_298 hL))
    obtain ⟨hN, hL, hQ⟩ := DX1_meantHoles (d := d) hL  hG
    refine RK.of (RN.cv (i := 258) (k := 21) (q2 := iX1_meantHoles) (as := [.inr (.inr 298)]) (r := []) (v := some (.inl x5)) (h1 := h4) (by decide +kernel) rfl rfl rfl rfl rfl hq hN) ?_
    have hK := hK.tr hQ
    refine RK.of (RN.goto (off := 4) (tgt := 26) (by decide +kernel)) ?_
    exact RK.iR (by decide +kernel) rfl hL hK hF
noncomputable def GJ6_bitCount_0f7a4 (a1 : Int) (h : MH) : Option (Int × MH) :=
  some ((m_band (m_w32 ((m_w32 ((m_band (m_w32 ((m_w32 ((m_band (m_w32 (a1 - (m_band (m_ushr a1 1) 1431655765))) 858993459) + (m_band (m_ushr (m_w32 (a1 - (m_band (m_ushr a1 1) 1431655765))) 2) 858993459))) + (m_ushr (m_w32 ((m_band (m_w32 (a1 - (m_band (m_ushr a1 1) 1431655765))) 858993459) + (m_band (m_ushr (m_w32 (a1 - (m_band (m_ushr a1 1) 1431655765))) 2) 858993459))) 4))) 252645135) + (m_ushr (m_band (m_w32 ((m_w32 ((m_band (m_w32 (a1 - (m_band (m_ushr a1 1) 1431655765))) 858993459) + (m_band (m_ushr (m_w32 (a1 - (m_band (m_ushr a1 1) 1431655765))) 2) 858993459))) + (m_ushr (m_w32 ((m_band (m_w32 (a1 - (m_band (m_ushr a1 1) 1431655765))) 858993459) + (m_band (m_ushr (m_w32 (a1 - (m_band (m_ushr a1 1) 1431655765))) 2) 858993459))) 4))) 252645135) 8))) + (m_ushr (m_w32 ((m_band (m_w32 ((m_w32 ((m_band (m_w32 (a1 - (m_band (m_ushr a1 1) 1431655765))) 858993459) + (m_band (m_ushr (m_w32 (a1 - (m_band (m_ushr a1 1) 1431655765))) 2) 858993459))) + (m_ushr (m_w32 ((m_band (m_w32 (a1 - (m_band (m_ushr a1 1) 1431655765))) 858993459) + (m_band (m_ushr (m_w32 (a1 - (m_band (m_ushr a1 1) 1431655765))) 2) 858993459))) 4))) 252645135) + (m_ushr (m_band (m_w32 ((m_w32 ((m_band (m_w32 (a1 - (m_band (m_ushr a1 1) 1431655765))) 858993459) + (m_band (m_ushr (m_w32 (a1 - (m_band (m_ushr a1 1) 1431655765))) 2) 858993459))) + (m_ushr (m_w32 ((m_band (m_w32 (a1 - (m_band (m_ushr a1 1) 1431655765))) 858993459) + (m_band (m_ushr (m_w32 (a1 - (m_band (m_ushr a1 1) 1431655765))) 2) 858993459))) 4))) 252645135) 8))) 16))) 63), h)
theorem DJ6_bitCount_0f7a4 {d : Nat} {a1 : Int} {h : MH} {r : Int × MH} (hL : LR h) (hF : GJ6_bitCount_0f7a4 a1 h = some r) : RN xs L iJ6_bitCount_0f7a4 (d) 0 (lvE 0 [.inl a1]) [] h (RIo r) ∧ LR r.2 ∧ KD h r.2 := by
  unfold GJ6_bitCount_0f7a4 at hF
  have hK : KD h h := KD.rf
  show RK xs L iJ6_bitCount_0f7a4 (d) 0 (lvE 0 [.inl a1]) [] h (RIo r) h r.2
  refine RK.of (RN.blk (ops := [(0, .iload_n 0), (1, .iload_n 0), (2, .iconst 1), (3, .iushr), (4, .ldc_w 265), (7, .iand), (8, .isub), (9, .istore_n 0), (10, .iload_n 0), (11, .ldc_w 266), (14, .iand), (15, .iload_n 0), (16, .iconst 2), (17, .iushr), (18, .ldc_w 266), (21, .iand), (22, .iadd), (23, .istore_n 0), (24, .iload_n 0), (25, .iload_n 0), (26, .iconst 4), (27, .iushr), (28, .iadd), (29, .ldc_w 267), (32, .iand), (33, .istore_n 0), (34, .iload_n 0), (35, .iload_n 0), (36, .bipush 8), (38, .iushr), (39, .iadd), (40, .istore_n 0), (41, .iload_n 0), (42, .iload_n 0), (43, .bipush 16), (45, .iushr), (46, .iadd), (47, .istore_n 0), (48, .iload_n 0), (49, .bipush 63), (51, .iand)]) (pc' := 52) (lv' := [(0, .inl (m_w32 ((m_w32 ((m_band (m_w32 ((m_w32 ((m_band (m_w32 (a1 - (m_band (m_ushr a1 1) 1431655765))) 858993459) + (m_band (m_ushr (m_w32 (a1 - (m_band (m_ushr a1 1) 1431655765))) 2) 858993459))) + (m_ushr (m_w32 ((m_band (m_w32 (a1 - (m_band (m_ushr a1 1) 1431655765))) 858993459) + (m_band (m_ushr (m_w32 (a1 - (m_band (m_ushr a1 1) 1431655765))) 2) 858993459))) 4))) 252645135) + (m_ushr (m_band (m_w32 ((m_w32 ((m_band (m_w32 (a1 - (m_band (m_ushr a1 1) 1431655765))) 858993459) + (m_band (m_ushr (m_w32 (a1 - (m_band (m_ushr a1 1) 1431655765))) 2) 858993459))) + (m_ushr (m_w32 ((m_band (m_w32 (a1 - (m_band (m_ushr a1 1) 1431655765))) 858993459) + (m_band (m_ushr (m_w32 (a1 - (m_band (m_ushr a1 1) 1431655765))) 2) 858993459))) 4))) 252645135) 8))) + (m_ushr (m_w32 ((m_band (m_w32 ((m_w32 ((m_band (m_w32 (a1 - (m_band (m_ushr a1 1) 1431655765))) 858993459) + (m_band (m_ushr (m_w32 (a1 - (m_band (m_ushr a1 1) 1431655765))) 2) 858993459))) + (m_ushr (m_w32 ((m_band (m_w32 (a1 - (m_band (m_ushr a1 1) 1431655765))) 858993459) + (m_band (m_ushr (m_w32 (a1 - (m_band (m_ushr a1 1) 1431655765))) 2) 858993459))) 4))) 252645135) + (m_ushr (m_band (m_w32 ((m_w32 ((m_band (m_w32 (a1 - (m_band (m_ushr a1 1) 1431655765))) 858993459) + (m_band (m_ushr (m_w32 (a1 - (m_band (m_ushr a1 1) 1431655765))) 2) 858993459))) + (m_ushr (m_w32 ((m_band (m_w32 (a1 - (m_band (m_ushr a1 1) 1431655765))) 858993459) + (m_band (m_ushr (m_w32 (a1 - (m_band (m_ushr a1 1) 1431655765))) 2) 858993459))) 4))) 252645135) 8))) 16))))]) (st' := [.inl (m_band (m_w32 ((m_w32 ((m_band (m_w32 ((m_w32 ((m_band (m_w32 (a1 - (m_band (m_ushr a1 1) 1431655765))) 858993459) + (m_band (m_ushr (m_w32 (a1 - (m_band (m_ushr a1 1) 1431655765))) 2) 858993459))) + (m_ushr (m_w32 ((m_band (m_w32 (a1 - (m_band (m_ushr a1 1) 1431655765))) 858993459) + (m_band (m_ushr (m_w32 (a1 - (m_band (m_ushr a1 1) 1431655765))) 2) 858993459))) 4))) 252645135) + (m_ushr (m_band (m_w32 ((m_w32 ((m_band (m_w32 (a1 - (m_band (m_ushr a1 1) 1431655765))) 858993459) + (m_band (m_ushr (m_w32 (a1 - (m_band (m_ushr a1 1) 1431655765))) 2) 858993459))) + (m_ushr (m_w32 ((m_band (m_w32 (a1 - (m_band (m_ushr a1 1) 1431655765))) 858993459) + (m_band (m_ushr (m_w32 (a1 - (m_band (m_ushr a1 1) 1431655765))) 2) 858993459))) 4))) 252645135) 8))) + (m_ushr (m_w32 ((m_band (m_w32 ((m_w32 ((m_band (m_w32 (a1 - (m_band (m_ushr a1 1) 1431655765))) 858993459) + (m_band (m_ushr (m_w32 (a1 - (m_band (m_ushr a1 1) 1431655765))) 2) 858993459))) + (m_ushr (m_w32 ((m_band (m_w32 (a1 - (m_band (m_ushr a1 1) 1431655765))) 858993459) + (m_band (m_ushr (m_w32 (a1 - (m_band (m_ushr a1 1) 1431655765))) 2) 858993459))) 4))) 252645135) + (m_ushr (m_band (m_w32 ((m_w32 ((m_band (m_w32 (a1 - (m_band (m_ushr a1 1) 1431655765))) 858993459) + (m_band (m_ushr (m_w32 (a1 - (m_band (m_ushr a1 1) 1431655765))) 2) 858993459))) + (m_ushr (m_w32 ((m_band (m_w32 (a1 - (m_band (m_ushr a1 1) 1431655765))) 858993459) + (m_band (m_ushr (m_w32 (a1 - (m_band (m_ushr a1 1) 1431655765))) 2) 858993459))) 4))) 252645135) 8))) 16))) 63)]) (h' := h) (cs := []) (by decide +kernel) rfl trivial) ?_
  exact RK.iR (by decide +kernel) rfl hL hK hF
noncomputable def GX11_read (a1 : Int) (a2 : Int) (h : MH) : Option (Int × MH) :=
  (if a2 < 0 then
   some ((-1), h)
  else
   (if 1 < a2 then
    some ((-1), h)
   else
    (bv (GX11_drawNow h) (fun h1 =>
     (bd (GX1_takeReading a1 h1) (fun x3 h2 =>
      (if x3 = 0 then
       some ((-1), h2)
      else
       (bd (GX1_setToRead h2) (fun x5 h4 =>
        (if a2 = 0 then
         (bd (GJ6_bitCount_0f7a4 x5 h4) (fun x7 h6 =>
          some (x7, h6)))
        else
         some (x5, h4)))))))))))
theorem DX11_read {d : Nat} {a1 : Int} {a2 : Int} {h : MH} {r : Int × MH} (hL : LR h) (hF : GX11_read a1 a2 h = some r) : RN xs L iX11_read (d + 5) 0 (lvE 0 [.inr (.inr 0), .inl a1, .inl a2]) [] h (RIo r) ∧ LR r.2 ∧ KD h r.2 := by
  unfold GX11_read at hF
  have hK : KD h h := KD.rf
  show RK xs L iX11_read (d + 5) 0 (lvE 0 [.inr (.inr 0), .inl a1, .inl a2]) [] h (RIo r) h r.2
  refine RK.of (RN.blk (ops := [(0, .iload_n 2)]) (pc' := 1) (lv' := [(0, .inr (.inr 0)), (1, .inl a1), (2, .inl a2)]) (st' := [.inl a2]) (h' := h) (cs := []) (by decide +kernel) rfl trivial) ?_
  rcases it_of hF with ⟨hb, hF⟩ | ⟨hb, hF⟩
  · refine RK.of (RN.ift (cd := .lt) (off := 8) (tgt := 9) (by decide +kernel) (mif_lt hb)) ?_
    refine RK.of (RN.blk (ops := [(9, .iconst (-1))]) (pc' := 10) (lv' := [(0, .inr (.inr 0)), (1, .inl a1), (2, .inl a2)]) (st' := [.inl (-1)]) (h' := h) (cs := []) (by decide +kernel) rfl trivial) ?_
    exact RK.iR (by decide +kernel) rfl hL hK hF
  · refine RK.of (RN.iff (cd := .lt) (off := 8) (tgt := 9) (by decide +kernel) (mif_ltn hb)) ?_
    refine RK.of (RN.blk (ops := [(4, .iload_n 2), (5, .iconst 1)]) (pc' := 6) (lv' := [(0, .inr (.inr 0)), (1, .inl a1), (2, .inl a2)]) (st' := [.inl 1, .inl a2]) (h' := h) (cs := []) (by decide +kernel) rfl trivial) ?_
    rcases it_of hF with ⟨hb, hF⟩ | ⟨hb, hF⟩
    · refine RK.of (RN.icf (cd := .le) (off := 5) (tgt := 11) (by decide +kernel) (mif_len hb)) ?_
      refine RK.of (RN.blk (ops := [(9, .iconst (-1))]) (pc' := 10) (lv' := [(0, .inr (.inr 0)), (1, .inl a1), (2, .inl a2)]) (st' := [.inl (-1)]) (h' := h) (cs := []) (by decide +kernel) rfl trivial) ?_
      exact RK.iR (by decide +kernel) rfl hL hK hF
    · refine RK.of (RN.ict (cd := .le) (off := 5) (tgt := 11) (by decide +kernel) (mif_le hb)) ?_
      refine RK.of (RN.blk (ops := [(11, .aload_n 0)]) (pc' := 12) (lv' := [(0, .inr (.inr 0)), (1, .inl a1), (2, .inl a2)]) (st' := [.inr (.inr 0)]) (h' := h) (cs := []) (by decide +kernel) rfl trivial) ?_
      obtain ⟨h1, hG, hF⟩ := bv_of hF
      have hq := rcv_ok (as := []) (TO.gk (o_0 hL))
      obtain ⟨hN, hL, hQ⟩ := DX11_drawNow (d := d + 1) hL  hG
      refine RK.of (RN.cv (i := 242) (k := 153) (q2 := iX11_drawNow) (as := [.inr (.inr 0)]) (r := []) (v := none) (h1 := h1) (by decide +kernel) rfl rfl rfl rfl rfl hq hN) ?_
      have hK := hK.tr hQ
      refine RK.of (RN.blk (ops := [(15, .aload_n 0)]) (pc' := 16) (lv' := [(0, .inr (.inr 0)), (1, .inl a1), (2, .inl a2)]) (st' := [.inr (.inr 0)]) (h' := h1) (cs := []) (by decide +kernel) rfl trivial) ?_
      refine RK.of (RN.gr (i := 63) (ci := 11) (k := 11) (fn := true) (v := 298) (by decide +kernel) rfl (TO.gk (o_0 hL)) (hL.fo (v := 298) 11 1 (o_0 hL) rfl (by decide) rfl).1) ?_
      refine RK.of (RN.blk (ops := [(19, .iload_n 1)]) (pc' := 20) (lv' := [(0, .inr (.inr 0)), (1, .inl a1), (2, .inl a2)]) (st' := [.inl a1, .inr (.inr 298)]) (h' := h1) (cs := []) (by decide +kernel) rfl trivial) ?_
      obtain ⟨x3, h2, hG, hF⟩ := bd_of hF
      have hq := rcv_ok (as := [.inl a1]) (TO.gk (o_298 hL))
      obtain ⟨hN, hL, hQ⟩ := DX1_takeReading (d := d + 4) hL  hG
      refine RK.of (RN.cv (i := 255) (k := 19) (q2 := iX1_takeReading) (as := [.inr (.inr 298), .inl a1]) (r := []) (v := some (.inl x3)) (h1 := h2) (by decide +kernel) rfl rfl rfl rfl rfl hq hN) ?_
      have hK := hK.tr hQ
      rcases it_of hF with ⟨hb, hF⟩ | ⟨hb, hF⟩
      · refine RK.of (RN.iff (cd := .ne) (off := 5) (tgt := 28) (by decide +kernel) (mif_nen hb)) ?_
        refine RK.of (RN.blk (ops := [(26, .iconst (-1))]) (pc' := 27) (lv' := [(0, .inr (.inr 0)), (1, .inl a1), (2, .inl a2)]) (st' := [.inl (-1)]) (h' := h2) (cs := []) (by decide +kernel) rfl trivial) ?_
        exact RK.iR (by decide +kernel) rfl hL hK hF
      · refine RK.of (RN.ift (cd := .ne) (off := 5) (tgt := 28) (by decide +kernel) (mif_ne hb)) ?_
        refine RK.of (RN.blk (ops := [(28, .aload_n 0)]) (pc' := 29) (lv' := [(0, .inr (.inr 0)), (1, .inl a1), (2, .inl a2)]) (st' := [.inr (.inr 0)]) (h' := h2) (cs := []) (by decide +kernel) rfl trivial) ?_
        refine RK.of (RN.gr (i := 63) (ci := 11) (k := 11) (fn := true) (v := 298) (by decide +kernel) rfl (TO.gk (o_0 hL)) (hL.fo (v := 298) 11 1 (o_0 hL) rfl (by decide) rfl).1) ?_
        obtain ⟨x5, h4, hG, hF⟩ := bd_of hF
        have hq := rcv_ok (as := []) (TO.gk (o_298 hL))
        obtain ⟨hN, hL, hQ⟩ := DX1_setToRead (d := d) hL  hG
        refine RK.of (RN.cv (i := 261) (k := 22) (q2 := iX1_setToRead) (as := [.inr (.inr 298)]) (r := []) (v := some (.inl x5)) (h1 := h4) (by decide +kernel) rfl rfl rfl rfl rfl hq hN) ?_
        have hK := hK.tr hQ
        refine RK.of (RN.blk (ops := [(35, .istore_n 3), (36, .iload_n 2)]) (pc' := 37) (lv' := [(3, .inl x5), (0, .inr (.inr 0)), (1, .inl a1), (2, .inl a2)]) (st' := [.inl a2]) (h' := h4) (cs := []) (by decide +kernel) rfl trivial) ?_
        rcases it_of hF with ⟨hb, hF⟩ | ⟨hb, hF⟩
        · refine RK.of (RN.iff (cd := .ne) (off := 10) (tgt := 47) (by decide +kernel) (mif_nen hb)) ?_
          refine RK.of (RN.blk (ops := [(40, .iload_n 3)]) (pc' := 41) (lv' := [(3, .inl x5), (0, .inr (.inr 0)), (1, .inl a1), (2, .inl a2)]) (st' := [.inl x5]) (h' := h4) (cs := []) (by decide +kernel) rfl trivial) ?_
          obtain ⟨x7, h6, hG, hF⟩ := bd_of hF
          obtain ⟨hN, hL, hQ⟩ := DJ6_bitCount_0f7a4 (d := d + 4) hL  hG
          refine RK.of (RN.cst (i := 264) (k := 282) (q2 := iJ6_bitCount_0f7a4) (as := [.inl x5]) (r := []) (v := some (.inl x7)) (h1 := h6) (by decide +kernel) rfl rfl rfl rfl rfl hN) ?_
          have hK := hK.tr hQ
          refine RK.of (RN.goto (off := 4) (tgt := 48) (by decide +kernel)) ?_
          exact RK.iR (by decide +kernel) rfl hL hK hF
        · refine RK.of (RN.ift (cd := .ne) (off := 10) (tgt := 47) (by decide +kernel) (mif_ne hb)) ?_
          refine RK.of (RN.blk (ops := [(47, .iload_n 3)]) (pc' := 48) (lv' := [(3, .inl x5), (0, .inr (.inr 0)), (1, .inl a1), (2, .inl a2)]) (st' := [.inl x5]) (h' := h4) (cs := []) (by decide +kernel) rfl trivial) ?_
          exact RK.iR (by decide +kernel) rfl hL hK hF
noncomputable def GX11_codes (a1 : Int) (a2 : Int) (h : MH) : Option (Int × MH) :=
  jn (fun (s2 : Int) (h3 : MH) =>
   (bd (GX11_hasFrame h3) (fun x5 h4 =>
    (if x5 = 0 then
     some ((-3), h4)
    else
     (if s2 = 0 then
      some ((-3), h4)
     else
      (if a2 < 0 then
       some ((-3), h4)
      else
       (if 1 < a2 then
        some ((-3), h4)
       else
        (bv (GX11_drawNow h4) (fun h6 =>
         (if a2 = 0 then
          (bd (GX1_howManyTo a1 h6) (fun x10 h9 =>
           some (x10, h9)))
         else
          (bd (GX1_leastTo a1 h6) (fun x8 h7 =>
           some (x8, h7))))))))))))) (fun j1 =>
   jn (fun (h12 : MH) =>
    j1 1 h12) (fun j11 =>
    (if a1 = (-1) then
     j11 h
    else
     (bd (GX8_hasHole 21 a1 h) (fun x14 h13 =>
      (if x14 = 0 then
       j1 0 h13
      else
       j11 h13))))))
theorem DX11_codes {d : Nat} {a1 : Int} {a2 : Int} {h : MH} {r : Int × MH} (hL : LR h) (hF : GX11_codes a1 a2 h = some r) : RN xs L iX11_codes (d + 4) 0 (lvE 0 [.inr (.inr 0), .inl a1, .inl a2]) [] h (RIo r) ∧ LR r.2 ∧ KD h r.2 := by
  unfold GX11_codes at hF
  have hK : KD h h := KD.rf
  show RK xs L iX11_codes (d + 4) 0 (lvE 0 [.inr (.inr 0), .inl a1, .inl a2]) [] h (RIo r) h r.2
  refine RK.of (RN.blk (ops := [(0, .iload_n 1), (1, .iconst (-1))]) (pc' := 2) (lv' := [(0, .inr (.inr 0)), (1, .inl a1), (2, .inl a2)]) (st' := [.inl (-1), .inl a1]) (h' := h) (cs := []) (by decide +kernel) rfl trivial) ?_
  refine jn_use (fun j1 => ∀ (s2 : Int) (h3 : MH), LR h3 → KD h h3 → j1 s2 h3 = some r → RK xs L iX11_codes (d + 4) 24 [(0, .inr (.inr 0)), (1, .inl a1), (2, .inl a2)] [.inl s2] h3 (RIo r) h r.2) ?_ ?_ hF
  · intro s2 h3 hL hK hF
    refine RK.of (RN.blk (ops := [(24, .istore_n 3), (25, .aload_n 0)]) (pc' := 26) (lv' := [(3, .inl s2), (0, .inr (.inr 0)), (1, .inl a1), (2, .inl a2)]) (st' := [.inr (.inr 0)]) (h' := h3) (cs := []) (by decide +kernel) rfl trivial) ?_
    obtain ⟨x5, h4, hG, hF⟩ := bd_of hF
    have hq := rcv_ok (as := []) (TO.gk (o_0 hL))
    obtain ⟨hN, hL, hQ⟩ := DX11_hasFrame (d := d + 3) hL  hG
    refine RK.of (RN.cv (i := 191) (k := 149) (q2 := iX11_hasFrame) (as := [.inr (.inr 0)]) (r := []) (v := some (.inl x5)) (h1 := h4) (by decide +kernel) rfl rfl rfl rfl rfl hq hN) ?_
    have hK := hK.tr hQ
    rcases it_of hF with ⟨hb, hF⟩ | ⟨hb, hF⟩
    · refine RK.of (RN.ift (cd := .eq) (off := 16) (tgt := 45) (by decide +kernel) (mif_eq hb)) ?_
      refine RK.of (RN.blk (ops := [(45, .bipush (-3))]) (pc' := 47) (lv' := [(3, .inl s2), (0, .inr (.inr 0)), (1, .inl a1), (2, .inl a2)]) (st' := [.inl (-3)]) (h' := h4) (cs := []) (by decide +kernel) rfl trivial) ?_
      exact RK.iR (by decide +kernel) rfl hL hK hF
    · refine RK.of (RN.iff (cd := .eq) (off := 16) (tgt := 45) (by decide +kernel) (mif_eqn hb)) ?_
      refine RK.of (RN.blk (ops := [(32, .iload_n 3)]) (pc' := 33) (lv' := [(3, .inl s2), (0, .inr (.inr 0)), (1, .inl a1), (2, .inl a2)]) (st' := [.inl s2]) (h' := h4) (cs := []) (by decide +kernel) rfl trivial) ?_
      rcases it_of hF with ⟨hb, hF⟩ | ⟨hb, hF⟩
      · refine RK.of (RN.ift (cd := .eq) (off := 12) (tgt := 45) (by decide +kernel) (mif_eq hb)) ?_
        refine RK.of (RN.blk (ops := [(45, .bipush (-3))]) (pc' := 47) (lv' := [(3, .inl s2), (0, .inr (.inr 0)), (1, .inl a1), (2, .inl a2)]) (st' := [.inl (-3)]) (h' := h4) (cs := []) (by decide +kernel) rfl trivial) ?_
        exact RK.iR (by decide +kernel) rfl hL hK hF
      · refine RK.of (RN.iff (cd := .eq) (off := 12) (tgt := 45) (by decide +kernel) (mif_eqn hb)) ?_
        refine RK.of (RN.blk (ops := [(36, .iload_n 2)]) (pc' := 37) (lv' := [(3, .inl s2), (0, .inr (.inr 0)), (1, .inl a1), (2, .inl a2)]) (st' := [.inl a2]) (h' := h4) (cs := []) (by decide +kernel) rfl trivial) ?_
        rcases it_of hF with ⟨hb, hF⟩ | ⟨hb, hF⟩
        · refine RK.of (RN.ift (cd := .lt) (off := 8) (tgt := 45) (by decide +kernel) (mif_lt hb)) ?_
          refine RK.of (RN.blk (ops := [(45, .bipush (-3))]) (pc' := 47) (lv' := [(3, .inl s2), (0, .inr (.inr 0)), (1, .inl a1), (2, .inl a2)]) (st' := [.inl (-3)]) (h' := h4) (cs := []) (by decide +kernel) rfl trivial) ?_
          exact RK.iR (by decide +kernel) rfl hL hK hF
        · refine RK.of (RN.iff (cd := .lt) (off := 8) (tgt := 45) (by decide +kernel) (mif_ltn hb)) ?_
          refine RK.of (RN.blk (ops := [(40, .iload_n 2), (41, .iconst 1)]) (pc' := 42) (lv' := [(3, .inl s2), (0, .inr (.inr 0)), (1, .inl a1), (2, .inl a2)]) (st' := [.inl 1, .inl a2]) (h' := h4) (cs := []) (by decide +kernel) rfl trivial) ?_
          rcases it_of hF with ⟨hb, hF⟩ | ⟨hb, hF⟩
          · refine RK.of (RN.icf (cd := .le) (off := 6) (tgt := 48) (by decide +kernel) (mif_len hb)) ?_
            refine RK.of (RN.blk (ops := [(45, .bipush (-3))]) (pc' := 47) (lv' := [(3, .inl s2), (0, .inr (.inr 0)), (1, .inl a1), (2, .inl a2)]) (st' := [.inl (-3)]) (h' := h4) (cs := []) (by decide +kernel) rfl trivial) ?_
            exact RK.iR (by decide +kernel) rfl hL hK hF
          · refine RK.of (RN.ict (cd := .le) (off := 6) (tgt := 48) (by decide +kernel) (mif_le hb)) ?_
            refine RK.of (RN.blk (ops := [(48, .aload_n 0)]) (pc' := 49) (lv' := [(3, .inl s2), (0, .inr (.inr 0)), (1, .inl a1), (2, .inl a2)]) (st' := [.inr (.inr 0)]) (h' := h4) (cs := []) (by decide +kernel) rfl trivial) ?_
            obtain ⟨h6, hG, hF⟩ := bv_of hF
            have hq := rcv_ok (as := []) (TO.gk (o_0 hL))
            obtain ⟨hN, hL, hQ⟩ := DX11_drawNow (d := d) hL  hG
            refine RK.of (RN.cv (i := 242) (k := 153) (q2 := iX11_drawNow) (as := [.inr (.inr 0)]) (r := []) (v := none) (h1 := h6) (by decide +kernel) rfl rfl rfl rfl rfl hq hN) ?_
            have hK := hK.tr hQ
            refine RK.of (RN.blk (ops := [(52, .iload_n 2)]) (pc' := 53) (lv' := [(3, .inl s2), (0, .inr (.inr 0)), (1, .inl a1), (2, .inl a2)]) (st' := [.inl a2]) (h' := h6) (cs := []) (by decide +kernel) rfl trivial) ?_
            rcases it_of hF with ⟨hb, hF⟩ | ⟨hb, hF⟩
            · refine RK.of (RN.iff (cd := .ne) (off := 14) (tgt := 67) (by decide +kernel) (mif_nen hb)) ?_
              refine RK.of (RN.blk (ops := [(56, .aload_n 0)]) (pc' := 57) (lv' := [(3, .inl s2), (0, .inr (.inr 0)), (1, .inl a1), (2, .inl a2)]) (st' := [.inr (.inr 0)]) (h' := h6) (cs := []) (by decide +kernel) rfl trivial) ?_
              refine RK.of (RN.gr (i := 63) (ci := 11) (k := 11) (fn := true) (v := 298) (by decide +kernel) rfl (TO.gk (o_0 hL)) (hL.fo (v := 298) 11 1 (o_0 hL) rfl (by decide) rfl).1) ?_
              refine RK.of (RN.blk (ops := [(60, .iload_n 1)]) (pc' := 61) (lv' := [(3, .inl s2), (0, .inr (.inr 0)), (1, .inl a1), (2, .inl a2)]) (st' := [.inl a1, .inr (.inr 298)]) (h' := h6) (cs := []) (by decide +kernel) rfl trivial) ?_
              obtain ⟨x10, h9, hG, hF⟩ := bd_of hF
              have hq := rcv_ok (as := [.inl a1]) (TO.gk (o_298 hL))
              obtain ⟨hN, hL, hQ⟩ := DX1_howManyTo (d := d) hL  hG
              refine RK.of (RN.cv (i := 269) (k := 17) (q2 := iX1_howManyTo) (as := [.inr (.inr 298), .inl a1]) (r := []) (v := some (.inl x10)) (h1 := h9) (by decide +kernel) rfl rfl rfl rfl rfl hq hN) ?_
              have hK := hK.tr hQ
              refine RK.of (RN.goto (off := 11) (tgt := 75) (by decide +kernel)) ?_
              exact RK.iR (by decide +kernel) rfl hL hK hF
            · refine RK.of (RN.ift (cd := .ne) (off := 14) (tgt := 67) (by decide +kernel) (mif_ne hb)) ?_
              refine RK.of (RN.blk (ops := [(67, .aload_n 0)]) (pc' := 68) (lv' := [(3, .inl s2), (0, .inr (.inr 0)), (1, .inl a1), (2, .inl a2)]) (st' := [.inr (.inr 0)]) (h' := h6) (cs := []) (by decide +kernel) rfl trivial) ?_
              refine RK.of (RN.gr (i := 63) (ci := 11) (k := 11) (fn := true) (v := 298) (by decide +kernel) rfl (TO.gk (o_0 hL)) (hL.fo (v := 298) 11 1 (o_0 hL) rfl (by decide) rfl).1) ?_
              refine RK.of (RN.blk (ops := [(71, .iload_n 1)]) (pc' := 72) (lv' := [(3, .inl s2), (0, .inr (.inr 0)), (1, .inl a1), (2, .inl a2)]) (st' := [.inl a1, .inr (.inr 298)]) (h' := h6) (cs := []) (by decide +kernel) rfl trivial) ?_
              obtain ⟨x8, h7, hG, hF⟩ := bd_of hF
              have hq := rcv_ok (as := [.inl a1]) (TO.gk (o_298 hL))
              obtain ⟨hN, hL, hQ⟩ := DX1_leastTo (d := d) hL  hG
              refine RK.of (RN.cv (i := 272) (k := 18) (q2 := iX1_leastTo) (as := [.inr (.inr 298), .inl a1]) (r := []) (v := some (.inl x8)) (h1 := h7) (by decide +kernel) rfl rfl rfl rfl rfl hq hN) ?_
              have hK := hK.tr hQ
              exact RK.iR (by decide +kernel) rfl hL hK hF
  · intro j1 Jj1 hF
    refine jn_use (fun j11 => ∀ (h12 : MH), LR h12 → KD h h12 → j11 h12 = some r → RK xs L iX11_codes (d + 4) 19 [(0, .inr (.inr 0)), (1, .inl a1), (2, .inl a2)] [] h12 (RIo r) h r.2) ?_ ?_ hF
    · intro h12 hL hK hF
      refine RK.of (RN.blk (ops := [(19, .iconst 1)]) (pc' := 20) (lv' := [(0, .inr (.inr 0)), (1, .inl a1), (2, .inl a2)]) (st' := [.inl 1]) (h' := h12) (cs := []) (by decide +kernel) rfl trivial) ?_
      refine RK.of (RN.goto (off := 4) (tgt := 24) (by decide +kernel)) ?_
      exact RK.sub (Jj1 _ _ hL hK hF) (sub_cons rfl (sub_cons rfl (sub_cons rfl sub_nil)))
    · intro j11 Jj11 hF
      rcases it_of hF with ⟨hb, hF⟩ | ⟨hb, hF⟩
      · refine RK.of (RN.ict (cd := .eq) (off := 17) (tgt := 19) (by decide +kernel) (mif_eq hb)) ?_
        exact RK.sub (Jj11 _ hL hK hF) (sub_cons rfl (sub_cons rfl (sub_cons rfl sub_nil)))
      · refine RK.of (RN.icf (cd := .eq) (off := 17) (tgt := 19) (by decide +kernel) (mif_eqn hb)) ?_
        refine RK.of (RN.blk (ops := [(5, .aload_n 0)]) (pc' := 6) (lv' := [(0, .inr (.inr 0)), (1, .inl a1), (2, .inl a2)]) (st' := [.inr (.inr 0)]) (h' := h) (cs := []) (by decide +kernel) rfl trivial) ?_
        refine RK.of (RN.gr (i := 41) (ci := 11) (k := 5) (fn := true) (v := 20) (by decide +kernel) rfl (TO.gk (o_0 hL)) (hL.fo (v := 20) 5 2 (o_0 hL) rfl (by decide) rfl).1) ?_
        refine RK.of (RN.gr (i := 130) (ci := 2) (k := 0) (fn := true) (v := 21) (by decide +kernel) rfl (TO.gk (o_20 hL)) (hL.fo (v := 21) 0 8 (o_20 hL) rfl (by decide) rfl).1) ?_
        refine RK.of (RN.blk (ops := [(12, .iload_n 1)]) (pc' := 13) (lv' := [(0, .inr (.inr 0)), (1, .inl a1), (2, .inl a2)]) (st' := [.inl a1, .inr (.inr 21)]) (h' := h) (cs := []) (by decide +kernel) rfl trivial) ?_
        obtain ⟨x14, h13, hG, hF⟩ := bd_of hF
        have hq := rcv_ok (as := [.inl a1]) (TO.gk (o_21 hL))
        obtain ⟨hN, hL, hQ⟩ := DX8_hasHole (d := d + 3) hL (o_21 hL) hG
        refine RK.of (RN.cv (i := 131) (k := 81) (q2 := iX8_hasHole) (as := [.inr (.inr 21), .inl a1]) (r := []) (v := some (.inl x14)) (h1 := h13) (by decide +kernel) rfl rfl rfl rfl rfl hq hN) ?_
        have hK := hK.tr hQ
        rcases it_of hF with ⟨hb, hF⟩ | ⟨hb, hF⟩
        · refine RK.of (RN.ift (cd := .eq) (off := 7) (tgt := 23) (by decide +kernel) (mif_eq hb)) ?_
          refine RK.of (RN.blk (ops := [(23, .iconst 0)]) (pc' := 24) (lv' := [(0, .inr (.inr 0)), (1, .inl a1), (2, .inl a2)]) (st' := [.inl 0]) (h' := h13) (cs := []) (by decide +kernel) rfl trivial) ?_
          exact RK.sub (Jj1 _ _ hL hK hF) (sub_cons rfl (sub_cons rfl (sub_cons rfl sub_nil)))
        · refine RK.of (RN.iff (cd := .eq) (off := 7) (tgt := 23) (by decide +kernel) (mif_eqn hb)) ?_
          exact RK.sub (Jj11 _ hL hK hF) (sub_cons rfl (sub_cons rfl (sub_cons rfl sub_nil)))
noncomputable def GX11_slips (a1 : Int) (h : MH) : Option (Int × MH) :=
  (bd (GX8_hasCode 21 a1 h) (fun x2 h1 =>
   (if x2 = 0 then
    some ((-1), h1)
   else
    (bv (GX11_drawNow h1) (fun h3 =>
     (bd (GX1_slipsOf a1 h3) (fun x5 h4 =>
      some (x5, h4))))))))
theorem DX11_slips {d : Nat} {a1 : Int} {h : MH} {r : Int × MH} (hL : LR h) (hF : GX11_slips a1 h = some r) : RN xs L iX11_slips (d + 4) 0 (lvE 0 [.inr (.inr 0), .inl a1]) [] h (RIo r) ∧ LR r.2 ∧ KD h r.2 := by
  unfold GX11_slips at hF
  have hK : KD h h := KD.rf
  show RK xs L iX11_slips (d + 4) 0 (lvE 0 [.inr (.inr 0), .inl a1]) [] h (RIo r) h r.2
  refine RK.of (RN.blk (ops := [(0, .aload_n 0)]) (pc' := 1) (lv' := [(0, .inr (.inr 0)), (1, .inl a1)]) (st' := [.inr (.inr 0)]) (h' := h) (cs := []) (by decide +kernel) rfl trivial) ?_
  refine RK.of (RN.gr (i := 41) (ci := 11) (k := 5) (fn := true) (v := 20) (by decide +kernel) rfl (TO.gk (o_0 hL)) (hL.fo (v := 20) 5 2 (o_0 hL) rfl (by decide) rfl).1) ?_
  refine RK.of (RN.gr (i := 130) (ci := 2) (k := 0) (fn := true) (v := 21) (by decide +kernel) rfl (TO.gk (o_20 hL)) (hL.fo (v := 21) 0 8 (o_20 hL) rfl (by decide) rfl).1) ?_
  refine RK.of (RN.blk (ops := [(7, .iload_n 1)]) (pc' := 8) (lv' := [(0, .inr (.inr 0)), (1, .inl a1)]) (st' := [.inl a1, .inr (.inr 21)]) (h' := h) (cs := []) (by decide +kernel) rfl trivial) ?_
  obtain ⟨x2, h1, hG, hF⟩ := bd_of hF
  have hq := rcv_ok (as := [.inl a1]) (TO.gk (o_21 hL))
  obtain ⟨hN, hL, hQ⟩ := DX8_hasCode (d := d + 3) hL (o_21 hL) hG
  refine RK.of (RN.cv (i := 216) (k := 82) (q2 := iX8_hasCode) (as := [.inr (.inr 21), .inl a1]) (r := []) (v := some (.inl x2)) (h1 := h1) (by decide +kernel) rfl rfl rfl rfl rfl hq hN) ?_
  have hK := hK.tr hQ
  rcases it_of hF with ⟨hb, hF⟩ | ⟨hb, hF⟩
  · refine RK.of (RN.iff (cd := .ne) (off := 5) (tgt := 16) (by decide +kernel) (mif_nen hb)) ?_
    refine RK.of (RN.blk (ops := [(14, .iconst (-1))]) (pc' := 15) (lv' := [(0, .inr (.inr 0)), (1, .inl a1)]) (st' := [.inl (-1)]) (h' := h1) (cs := []) (by decide +kernel) rfl trivial) ?_
    exact RK.iR (by decide +kernel) rfl hL hK hF
  · refine RK.of (RN.ift (cd := .ne) (off := 5) (tgt := 16) (by decide +kernel) (mif_ne hb)) ?_
    refine RK.of (RN.blk (ops := [(16, .aload_n 0)]) (pc' := 17) (lv' := [(0, .inr (.inr 0)), (1, .inl a1)]) (st' := [.inr (.inr 0)]) (h' := h1) (cs := []) (by decide +kernel) rfl trivial) ?_
    obtain ⟨h3, hG, hF⟩ := bv_of hF
    have hq := rcv_ok (as := []) (TO.gk (o_0 hL))
    obtain ⟨hN, hL, hQ⟩ := DX11_drawNow (d := d) hL  hG
    refine RK.of (RN.cv (i := 242) (k := 153) (q2 := iX11_drawNow) (as := [.inr (.inr 0)]) (r := []) (v := none) (h1 := h3) (by decide +kernel) rfl rfl rfl rfl rfl hq hN) ?_
    have hK := hK.tr hQ
    refine RK.of (RN.blk (ops := [(20, .aload_n 0)]) (pc' := 21) (lv' := [(0, .inr (.inr 0)), (1, .inl a1)]) (st' := [.inr (.inr 0)]) (h' := h3) (cs := []) (by decide +kernel) rfl trivial) ?_
    refine RK.of (RN.gr (i := 63) (ci := 11) (k := 11) (fn := true) (v := 298) (by decide +kernel) rfl (TO.gk (o_0 hL)) (hL.fo (v := 298) 11 1 (o_0 hL) rfl (by decide) rfl).1) ?_
    refine RK.of (RN.blk (ops := [(24, .iload_n 1)]) (pc' := 25) (lv' := [(0, .inr (.inr 0)), (1, .inl a1)]) (st' := [.inl a1, .inr (.inr 298)]) (h' := h3) (cs := []) (by decide +kernel) rfl trivial) ?_
    obtain ⟨x5, h4, hG, hF⟩ := bd_of hF
    have hq := rcv_ok (as := [.inl a1]) (TO.gk (o_298 hL))
    obtain ⟨hN, hL, hQ⟩ := DX1_slipsOf (d := d) hL  hG
    refine RK.of (RN.cv (i := 275) (k := 24) (q2 := iX1_slipsOf) (as := [.inr (.inr 298), .inl a1]) (r := []) (v := some (.inl x5)) (h1 := h4) (by decide +kernel) rfl rfl rfl rfl rfl hq hN) ?_
    have hK := hK.tr hQ
    exact RK.iR (by decide +kernel) rfl hL hK hF
noncomputable def GX11_worst (a1 : Int) (h : MH) : Option (Int × MH) :=
  (bd (GX11_hasFrame h) (fun x2 h1 =>
   (if x2 = 0 then
    some ((-1), h1)
   else
    (if a1 < 0 then
     some ((-1), h1)
    else
     (if 1 < a1 then
      some ((-1), h1)
     else
      (bv (GX11_drawNow h1) (fun h3 =>
       (bd (GX1_mostSlipping h3) (fun x5 h4 =>
        (if a1 = 0 then
         some (x5, h4)
        else
         (bd (GX1_slipsOf x5 h4) (fun x7 h6 =>
          some (x7, h6)))))))))))))
theorem DX11_worst {d : Nat} {a1 : Int} {h : MH} {r : Int × MH} (hL : LR h) (hF : GX11_worst a1 h = some r) : RN xs L iX11_worst (d + 5) 0 (lvE 0 [.inr (.inr 0), .inl a1]) [] h (RIo r) ∧ LR r.2 ∧ KD h r.2 := by
  unfold GX11_worst at hF
  have hK : KD h h := KD.rf
  show RK xs L iX11_worst (d + 5) 0 (lvE 0 [.inr (.inr 0), .inl a1]) [] h (RIo r) h r.2
  refine RK.of (RN.blk (ops := [(0, .aload_n 0)]) (pc' := 1) (lv' := [(0, .inr (.inr 0)), (1, .inl a1)]) (st' := [.inr (.inr 0)]) (h' := h) (cs := []) (by decide +kernel) rfl trivial) ?_
  obtain ⟨x2, h1, hG, hF⟩ := bd_of hF
  have hq := rcv_ok (as := []) (TO.gk (o_0 hL))
  obtain ⟨hN, hL, hQ⟩ := DX11_hasFrame (d := d + 4) hL  hG
  refine RK.of (RN.cv (i := 191) (k := 149) (q2 := iX11_hasFrame) (as := [.inr (.inr 0)]) (r := []) (v := some (.inl x2)) (h1 := h1) (by decide +kernel) rfl rfl rfl rfl rfl hq hN) ?_
  have hK := hK.tr hQ
  rcases it_of hF with ⟨hb, hF⟩ | ⟨hb, hF⟩
  · refine RK.of (RN.ift (cd := .eq) (off := 12) (tgt := 16) (by decide +kernel) (mif_eq hb)) ?_
    refine RK.of (RN.blk (ops := [(16, .iconst (-1))]) (pc' := 17) (lv' := [(0, .inr (.inr 0)), (1, .inl a1)]) (st' := [.inl (-1)]) (h' := h1) (cs := []) (by decide +kernel) rfl trivial) ?_
    exact RK.iR (by decide +kernel) rfl hL hK hF
  · refine RK.of (RN.iff (cd := .eq) (off := 12) (tgt := 16) (by decide +kernel) (mif_eqn hb)) ?_
    refine RK.of (RN.blk (ops := [(7, .iload_n 1)]) (pc' := 8) (lv' := [(0, .inr (.inr 0)), (1, .inl a1)]) (st' := [.inl a1]) (h' := h1) (cs := []) (by decide +kernel) rfl trivial) ?_
    rcases it_of hF with ⟨hb, hF⟩ | ⟨hb, hF⟩
    · refine RK.of (RN.ift (cd := .lt) (off := 8) (tgt := 16) (by decide +kernel) (mif_lt hb)) ?_
      refine RK.of (RN.blk (ops := [(16, .iconst (-1))]) (pc' := 17) (lv' := [(0, .inr (.inr 0)), (1, .inl a1)]) (st' := [.inl (-1)]) (h' := h1) (cs := []) (by decide +kernel) rfl trivial) ?_
      exact RK.iR (by decide +kernel) rfl hL hK hF
    · refine RK.of (RN.iff (cd := .lt) (off := 8) (tgt := 16) (by decide +kernel) (mif_ltn hb)) ?_
      refine RK.of (RN.blk (ops := [(11, .iload_n 1), (12, .iconst 1)]) (pc' := 13) (lv' := [(0, .inr (.inr 0)), (1, .inl a1)]) (st' := [.inl 1, .inl a1]) (h' := h1) (cs := []) (by decide +kernel) rfl trivial) ?_
      rcases it_of hF with ⟨hb, hF⟩ | ⟨hb, hF⟩
      · refine RK.of (RN.icf (cd := .le) (off := 5) (tgt := 18) (by decide +kernel) (mif_len hb)) ?_
        refine RK.of (RN.blk (ops := [(16, .iconst (-1))]) (pc' := 17) (lv' := [(0, .inr (.inr 0)), (1, .inl a1)]) (st' := [.inl (-1)]) (h' := h1) (cs := []) (by decide +kernel) rfl trivial) ?_
        exact RK.iR (by decide +kernel) rfl hL hK hF
      · refine RK.of (RN.ict (cd := .le) (off := 5) (tgt := 18) (by decide +kernel) (mif_le hb)) ?_
        refine RK.of (RN.blk (ops := [(18, .aload_n 0)]) (pc' := 19) (lv' := [(0, .inr (.inr 0)), (1, .inl a1)]) (st' := [.inr (.inr 0)]) (h' := h1) (cs := []) (by decide +kernel) rfl trivial) ?_
        obtain ⟨h3, hG, hF⟩ := bv_of hF
        have hq := rcv_ok (as := []) (TO.gk (o_0 hL))
        obtain ⟨hN, hL, hQ⟩ := DX11_drawNow (d := d + 1) hL  hG
        refine RK.of (RN.cv (i := 242) (k := 153) (q2 := iX11_drawNow) (as := [.inr (.inr 0)]) (r := []) (v := none) (h1 := h3) (by decide +kernel) rfl rfl rfl rfl rfl hq hN) ?_
        have hK := hK.tr hQ
        refine RK.of (RN.blk (ops := [(22, .aload_n 0)]) (pc' := 23) (lv' := [(0, .inr (.inr 0)), (1, .inl a1)]) (st' := [.inr (.inr 0)]) (h' := h3) (cs := []) (by decide +kernel) rfl trivial) ?_
        refine RK.of (RN.gr (i := 63) (ci := 11) (k := 11) (fn := true) (v := 298) (by decide +kernel) rfl (TO.gk (o_0 hL)) (hL.fo (v := 298) 11 1 (o_0 hL) rfl (by decide) rfl).1) ?_
        obtain ⟨x5, h4, hG, hF⟩ := bd_of hF
        have hq := rcv_ok (as := []) (TO.gk (o_298 hL))
        obtain ⟨hN, hL, hQ⟩ := DX1_mostSlipping (d := d) hL  hG
        refine RK.of (RN.cv (i := 278) (k := 25) (q2 := iX1_mostSlipping) (as := [.inr (.inr 298)]) (r := []) (v := some (.inl x5)) (h1 := h4) (by decide +kernel) rfl rfl rfl rfl rfl hq hN) ?_
        have hK := hK.tr hQ
        refine RK.of (RN.blk (ops := [(29, .istore_n 2), (30, .iload_n 1)]) (pc' := 31) (lv' := [(2, .inl x5), (0, .inr (.inr 0)), (1, .inl a1)]) (st' := [.inl a1]) (h' := h4) (cs := []) (by decide +kernel) rfl trivial) ?_
        rcases it_of hF with ⟨hb, hF⟩ | ⟨hb, hF⟩
        · refine RK.of (RN.iff (cd := .ne) (off := 7) (tgt := 38) (by decide +kernel) (mif_nen hb)) ?_
          refine RK.of (RN.blk (ops := [(34, .iload_n 2)]) (pc' := 35) (lv' := [(2, .inl x5), (0, .inr (.inr 0)), (1, .inl a1)]) (st' := [.inl x5]) (h' := h4) (cs := []) (by decide +kernel) rfl trivial) ?_
          refine RK.of (RN.goto (off := 11) (tgt := 46) (by decide +kernel)) ?_
          exact RK.iR (by decide +kernel) rfl hL hK hF
        · refine RK.of (RN.ift (cd := .ne) (off := 7) (tgt := 38) (by decide +kernel) (mif_ne hb)) ?_
          refine RK.of (RN.blk (ops := [(38, .aload_n 0)]) (pc' := 39) (lv' := [(2, .inl x5), (0, .inr (.inr 0)), (1, .inl a1)]) (st' := [.inr (.inr 0)]) (h' := h4) (cs := []) (by decide +kernel) rfl trivial) ?_
          refine RK.of (RN.gr (i := 63) (ci := 11) (k := 11) (fn := true) (v := 298) (by decide +kernel) rfl (TO.gk (o_0 hL)) (hL.fo (v := 298) 11 1 (o_0 hL) rfl (by decide) rfl).1) ?_
          refine RK.of (RN.blk (ops := [(42, .iload_n 2)]) (pc' := 43) (lv' := [(2, .inl x5), (0, .inr (.inr 0)), (1, .inl a1)]) (st' := [.inl x5, .inr (.inr 298)]) (h' := h4) (cs := []) (by decide +kernel) rfl trivial) ?_
          obtain ⟨x7, h6, hG, hF⟩ := bd_of hF
          have hq := rcv_ok (as := [.inl x5]) (TO.gk (o_298 hL))
          obtain ⟨hN, hL, hQ⟩ := DX1_slipsOf (d := d + 1) hL  hG
          refine RK.of (RN.cv (i := 275) (k := 24) (q2 := iX1_slipsOf) (as := [.inr (.inr 298), .inl x5]) (r := []) (v := some (.inl x7)) (h1 := h6) (by decide +kernel) rfl rfl rfl rfl rfl hq hN) ?_
          have hK := hK.tr hQ
          exact RK.iR (by decide +kernel) rfl hL hK hF
noncomputable def GX11_idle (h : MH) : Option (Int × MH) :=
  (bd (GX11_hasFrame h) (fun x2 h1 =>
   (if x2 = 0 then
    some ((-1), h1)
   else
    (bv (GX11_drawNow h1) (fun h3 =>
     (bd (GX1_idleEntries h3) (fun x5 h4 =>
      some (x5, h4))))))))
theorem DX11_idle {d : Nat} {h : MH} {r : Int × MH} (hL : LR h) (hF : GX11_idle h = some r) : RN xs L iX11_idle (d + 4) 0 (lvE 0 [.inr (.inr 0)]) [] h (RIo r) ∧ LR r.2 ∧ KD h r.2 := by
  unfold GX11_idle at hF
  have hK : KD h h := KD.rf
  show RK xs L iX11_idle (d + 4) 0 (lvE 0 [.inr (.inr 0)]) [] h (RIo r) h r.2
  refine RK.of (RN.blk (ops := [(0, .aload_n 0)]) (pc' := 1) (lv' := [(0, .inr (.inr 0))]) (st' := [.inr (.inr 0)]) (h' := h) (cs := []) (by decide +kernel) rfl trivial) ?_
  obtain ⟨x2, h1, hG, hF⟩ := bd_of hF
  have hq := rcv_ok (as := []) (TO.gk (o_0 hL))
  obtain ⟨hN, hL, hQ⟩ := DX11_hasFrame (d := d + 3) hL  hG
  refine RK.of (RN.cv (i := 191) (k := 149) (q2 := iX11_hasFrame) (as := [.inr (.inr 0)]) (r := []) (v := some (.inl x2)) (h1 := h1) (by decide +kernel) rfl rfl rfl rfl rfl hq hN) ?_
  have hK := hK.tr hQ
  rcases it_of hF with ⟨hb, hF⟩ | ⟨hb, hF⟩
  · refine RK.of (RN.iff (cd := .ne) (off := 5) (tgt := 9) (by decide +kernel) (mif_nen hb)) ?_
    refine RK.of (RN.blk (ops := [(7, .iconst (-1))]) (pc' := 8) (lv' := [(0, .inr (.inr 0))]) (st' := [.inl (-1)]) (h' := h1) (cs := []) (by decide +kernel) rfl trivial) ?_
    exact RK.iR (by decide +kernel) rfl hL hK hF
  · refine RK.of (RN.ift (cd := .ne) (off := 5) (tgt := 9) (by decide +kernel) (mif_ne hb)) ?_
    refine RK.of (RN.blk (ops := [(9, .aload_n 0)]) (pc' := 10) (lv' := [(0, .inr (.inr 0))]) (st' := [.inr (.inr 0)]) (h' := h1) (cs := []) (by decide +kernel) rfl trivial) ?_
    obtain ⟨h3, hG, hF⟩ := bv_of hF
    have hq := rcv_ok (as := []) (TO.gk (o_0 hL))
    obtain ⟨hN, hL, hQ⟩ := DX11_drawNow (d := d) hL  hG
    refine RK.of (RN.cv (i := 242) (k := 153) (q2 := iX11_drawNow) (as := [.inr (.inr 0)]) (r := []) (v := none) (h1 := h3) (by decide +kernel) rfl rfl rfl rfl rfl hq hN) ?_
    have hK := hK.tr hQ
    refine RK.of (RN.blk (ops := [(13, .aload_n 0)]) (pc' := 14) (lv' := [(0, .inr (.inr 0))]) (st' := [.inr (.inr 0)]) (h' := h3) (cs := []) (by decide +kernel) rfl trivial) ?_
    refine RK.of (RN.gr (i := 63) (ci := 11) (k := 11) (fn := true) (v := 298) (by decide +kernel) rfl (TO.gk (o_0 hL)) (hL.fo (v := 298) 11 1 (o_0 hL) rfl (by decide) rfl).1) ?_
    obtain ⟨x5, h4, hG, hF⟩ := bd_of hF
    have hq := rcv_ok (as := []) (TO.gk (o_298 hL))
    obtain ⟨hN, hL, hQ⟩ := DX1_idleEntries (d := d + 1) hL  hG
    refine RK.of (RN.cv (i := 281) (k := 26) (q2 := iX1_idleEntries) (as := [.inr (.inr 298)]) (r := []) (v := some (.inl x5)) (h1 := h4) (by decide +kernel) rfl rfl rfl rfl rfl hq hN) ?_
    have hK := hK.tr hQ
    exact RK.iR (by decide +kernel) rfl hL hK hF
noncomputable def GX11_least (h : MH) : Option (Int × MH) :=
  (bd (GX11_hasFrame h) (fun x2 h1 =>
   (if x2 = 0 then
    some ((-1), h1)
   else
    (bv (GX11_drawNow h1) (fun h3 =>
     (bd (GX1_fewestEntries h3) (fun x5 h4 =>
      some (x5, h4))))))))
theorem DX11_least {d : Nat} {h : MH} {r : Int × MH} (hL : LR h) (hF : GX11_least h = some r) : RN xs L iX11_least (d + 4) 0 (lvE 0 [.inr (.inr 0)]) [] h (RIo r) ∧ LR r.2 ∧ KD h r.2 := by
  unfold GX11_least at hF
  have hK : KD h h := KD.rf
  show RK xs L iX11_least (d + 4) 0 (lvE 0 [.inr (.inr 0)]) [] h (RIo r) h r.2
  refine RK.of (RN.blk (ops := [(0, .aload_n 0)]) (pc' := 1) (lv' := [(0, .inr (.inr 0))]) (st' := [.inr (.inr 0)]) (h' := h) (cs := []) (by decide +kernel) rfl trivial) ?_
  obtain ⟨x2, h1, hG, hF⟩ := bd_of hF
  have hq := rcv_ok (as := []) (TO.gk (o_0 hL))
  obtain ⟨hN, hL, hQ⟩ := DX11_hasFrame (d := d + 3) hL  hG
  refine RK.of (RN.cv (i := 191) (k := 149) (q2 := iX11_hasFrame) (as := [.inr (.inr 0)]) (r := []) (v := some (.inl x2)) (h1 := h1) (by decide +kernel) rfl rfl rfl rfl rfl hq hN) ?_
  have hK := hK.tr hQ
  rcases it_of hF with ⟨hb, hF⟩ | ⟨hb, hF⟩
  · refine RK.of (RN.iff (cd := .ne) (off := 5) (tgt := 9) (by decide +kernel) (mif_nen hb)) ?_
    refine RK.of (RN.blk (ops := [(7, .iconst (-1))]) (pc' := 8) (lv' := [(0, .inr (.inr 0))]) (st' := [.inl (-1)]) (h' := h1) (cs := []) (by decide +kernel) rfl trivial) ?_
    exact RK.iR (by decide +kernel) rfl hL hK hF
  · refine RK.of (RN.ift (cd := .ne) (off := 5) (tgt := 9) (by decide +kernel) (mif_ne hb)) ?_
    refine RK.of (RN.blk (ops := [(9, .aload_n 0)]) (pc' := 10) (lv' := [(0, .inr (.inr 0))]) (st' := [.inr (.inr 0)]) (h' := h1) (cs := []) (by decide +kernel) rfl trivial) ?_
    obtain ⟨h3, hG, hF⟩ := bv_of hF
    have hq := rcv_ok (as := []) (TO.gk (o_0 hL))
    obtain ⟨hN, hL, hQ⟩ := DX11_drawNow (d := d) hL  hG
    refine RK.of (RN.cv (i := 242) (k := 153) (q2 := iX11_drawNow) (as := [.inr (.inr 0)]) (r := []) (v := none) (h1 := h3) (by decide +kernel) rfl rfl rfl rfl rfl hq hN) ?_
    have hK := hK.tr hQ
    refine RK.of (RN.blk (ops := [(13, .aload_n 0)]) (pc' := 14) (lv' := [(0, .inr (.inr 0))]) (st' := [.inr (.inr 0)]) (h' := h3) (cs := []) (by decide +kernel) rfl trivial) ?_
    refine RK.of (RN.gr (i := 63) (ci := 11) (k := 11) (fn := true) (v := 298) (by decide +kernel) rfl (TO.gk (o_0 hL)) (hL.fo (v := 298) 11 1 (o_0 hL) rfl (by decide) rfl).1) ?_
    obtain ⟨x5, h4, hG, hF⟩ := bd_of hF
    have hq := rcv_ok (as := []) (TO.gk (o_298 hL))
    obtain ⟨hN, hL, hQ⟩ := DX1_fewestEntries (d := d) hL  hG
    refine RK.of (RN.cv (i := 284) (k := 27) (q2 := iX1_fewestEntries) (as := [.inr (.inr 298)]) (r := []) (v := some (.inl x5)) (h1 := h4) (by decide +kernel) rfl rfl rfl rfl rfl hq hN) ?_
    have hK := hK.tr hQ
    exact RK.iR (by decide +kernel) rfl hL hK hF
noncomputable def GX11_one (a1 : Int) (h : MH) : Option (Int × MH) :=
  (bd (GX11_hasFrame h) (fun x2 h1 =>
   (if x2 = 0 then
    some ((-2), h1)
   else
    (if a1 < 0 then
     some ((-2), h1)
    else
     (if 4 < a1 then
      some ((-2), h1)
     else
      (bv (GX11_drawNow h1) (fun h3 =>
       (bv (GX0_seekEntry 21 32 h3) (fun h4 =>
        (if a1 = 0 then
         some ((m_rd h4 323 0), h4)
        else
        (if a1 = 1 then
         some ((m_rd h4 323 1), h4)
        else
        (if a1 = 2 then
         some ((m_rd h4 323 2), h4)
        else
        (if a1 = 3 then
         some ((m_rd h4 323 3), h4)
        else
         some ((m_rd h4 323 4), h4))))))))))))))
theorem DX11_one {d : Nat} {a1 : Int} {h : MH} {r : Int × MH} (hL : LR h) (hF : GX11_one a1 h = some r) : RN xs L iX11_one (d + 6) 0 (lvE 0 [.inr (.inr 0), .inl a1]) [] h (RIo r) ∧ LR r.2 ∧ KD h r.2 := by
  unfold GX11_one at hF
  have hK : KD h h := KD.rf
  show RK xs L iX11_one (d + 6) 0 (lvE 0 [.inr (.inr 0), .inl a1]) [] h (RIo r) h r.2
  refine RK.of (RN.blk (ops := [(0, .aload_n 0)]) (pc' := 1) (lv' := [(0, .inr (.inr 0)), (1, .inl a1)]) (st' := [.inr (.inr 0)]) (h' := h) (cs := []) (by decide +kernel) rfl trivial) ?_
  obtain ⟨x2, h1, hG, hF⟩ := bd_of hF
  have hq := rcv_ok (as := []) (TO.gk (o_0 hL))
  obtain ⟨hN, hL, hQ⟩ := DX11_hasFrame (d := d + 5) hL  hG
  refine RK.of (RN.cv (i := 191) (k := 149) (q2 := iX11_hasFrame) (as := [.inr (.inr 0)]) (r := []) (v := some (.inl x2)) (h1 := h1) (by decide +kernel) rfl rfl rfl rfl rfl hq hN) ?_
  have hK := hK.tr hQ
  rcases it_of hF with ⟨hb, hF⟩ | ⟨hb, hF⟩
  · refine RK.of (RN.ift (cd := .eq) (off := 12) (tgt := 16) (by decide +kernel) (mif_eq hb)) ?_
    refine RK.of (RN.blk (ops := [(16, .bipush (-2))]) (pc' := 18) (lv' := [(0, .inr (.inr 0)), (1, .inl a1)]) (st' := [.inl (-2)]) (h' := h1) (cs := []) (by decide +kernel) rfl trivial) ?_
    exact RK.iR (by decide +kernel) rfl hL hK hF
  · refine RK.of (RN.iff (cd := .eq) (off := 12) (tgt := 16) (by decide +kernel) (mif_eqn hb)) ?_
    refine RK.of (RN.blk (ops := [(7, .iload_n 1)]) (pc' := 8) (lv' := [(0, .inr (.inr 0)), (1, .inl a1)]) (st' := [.inl a1]) (h' := h1) (cs := []) (by decide +kernel) rfl trivial) ?_
    rcases it_of hF with ⟨hb, hF⟩ | ⟨hb, hF⟩
    · refine RK.of (RN.ift (cd := .lt) (off := 8) (tgt := 16) (by decide +kernel) (mif_lt hb)) ?_
      refine RK.of (RN.blk (ops := [(16, .bipush (-2))]) (pc' := 18) (lv' := [(0, .inr (.inr 0)), (1, .inl a1)]) (st' := [.inl (-2)]) (h' := h1) (cs := []) (by decide +kernel) rfl trivial) ?_
      exact RK.iR (by decide +kernel) rfl hL hK hF
    · refine RK.of (RN.iff (cd := .lt) (off := 8) (tgt := 16) (by decide +kernel) (mif_ltn hb)) ?_
      refine RK.of (RN.blk (ops := [(11, .iload_n 1), (12, .iconst 4)]) (pc' := 13) (lv' := [(0, .inr (.inr 0)), (1, .inl a1)]) (st' := [.inl 4, .inl a1]) (h' := h1) (cs := []) (by decide +kernel) rfl trivial) ?_
      rcases it_of hF with ⟨hb, hF⟩ | ⟨hb, hF⟩
      · refine RK.of (RN.icf (cd := .le) (off := 6) (tgt := 19) (by decide +kernel) (mif_len hb)) ?_
        refine RK.of (RN.blk (ops := [(16, .bipush (-2))]) (pc' := 18) (lv' := [(0, .inr (.inr 0)), (1, .inl a1)]) (st' := [.inl (-2)]) (h' := h1) (cs := []) (by decide +kernel) rfl trivial) ?_
        exact RK.iR (by decide +kernel) rfl hL hK hF
      · refine RK.of (RN.ict (cd := .le) (off := 6) (tgt := 19) (by decide +kernel) (mif_le hb)) ?_
        refine RK.of (RN.blk (ops := [(19, .aload_n 0)]) (pc' := 20) (lv' := [(0, .inr (.inr 0)), (1, .inl a1)]) (st' := [.inr (.inr 0)]) (h' := h1) (cs := []) (by decide +kernel) rfl trivial) ?_
        obtain ⟨h3, hG, hF⟩ := bv_of hF
        have hq := rcv_ok (as := []) (TO.gk (o_0 hL))
        obtain ⟨hN, hL, hQ⟩ := DX11_drawNow (d := d + 2) hL  hG
        refine RK.of (RN.cv (i := 242) (k := 153) (q2 := iX11_drawNow) (as := [.inr (.inr 0)]) (r := []) (v := none) (h1 := h3) (by decide +kernel) rfl rfl rfl rfl rfl hq hN) ?_
        have hK := hK.tr hQ
        refine RK.of (RN.blk (ops := [(23, .aload_n 0)]) (pc' := 24) (lv' := [(0, .inr (.inr 0)), (1, .inl a1)]) (st' := [.inr (.inr 0)]) (h' := h3) (cs := []) (by decide +kernel) rfl trivial) ?_
        refine RK.of (RN.gr (i := 79) (ci := 11) (k := 13) (fn := true) (v := 323) (by decide +kernel) rfl (TO.gk (o_0 hL)) (hL.fo (v := 323) 13 0 (o_0 hL) rfl (by decide) rfl).1) ?_
        refine RK.of (RN.blk (ops := [(27, .aload_n 0)]) (pc' := 28) (lv' := [(0, .inr (.inr 0)), (1, .inl a1)]) (st' := [.inr (.inr 0), .inr (.inr 323)]) (h' := h3) (cs := []) (by decide +kernel) rfl trivial) ?_
        refine RK.of (RN.gr (i := 41) (ci := 11) (k := 5) (fn := true) (v := 20) (by decide +kernel) rfl (TO.gk (o_0 hL)) (hL.fo (v := 20) 5 2 (o_0 hL) rfl (by decide) rfl).1) ?_
        refine RK.of (RN.gr (i := 130) (ci := 2) (k := 0) (fn := true) (v := 21) (by decide +kernel) rfl (TO.gk (o_20 hL)) (hL.fo (v := 21) 0 8 (o_20 hL) rfl (by decide) rfl).1) ?_
        refine RK.of (RN.blk (ops := [(34, .aload_n 0)]) (pc' := 35) (lv' := [(0, .inr (.inr 0)), (1, .inl a1)]) (st' := [.inr (.inr 0), .inr (.inr 21), .inr (.inr 323)]) (h' := h3) (cs := []) (by decide +kernel) rfl trivial) ?_
        refine RK.of (RN.gr (i := 41) (ci := 11) (k := 5) (fn := true) (v := 20) (by decide +kernel) rfl (TO.gk (o_0 hL)) (hL.fo (v := 20) 5 2 (o_0 hL) rfl (by decide) rfl).1) ?_
        refine RK.of (RN.gr (i := 110) (ci := 2) (k := 2) (fn := true) (v := 32) (by decide +kernel) rfl (TO.gk (o_20 hL)) (hL.fo (v := 32) 2 10 (o_20 hL) rfl (by decide) rfl).1) ?_
        obtain ⟨h4, hG, hF⟩ := bv_of hF
        have hq := rcv_ok (as := [.inr (.inr 21), .inr (.inr 32)]) (TO.gk (o_323 hL))
        obtain ⟨hN, hL, hQ⟩ := DX0_seekEntry (d := d) hL (o_21 hL) (o_32 hL) hG
        refine RK.of (RN.cv (i := 287) (k := 3) (q2 := iX0_seekEntry) (as := [.inr (.inr 323), .inr (.inr 21), .inr (.inr 32)]) (r := []) (v := none) (h1 := h4) (by decide +kernel) rfl rfl rfl rfl rfl hq hN) ?_
        have hK := hK.tr hQ
        refine RK.of (RN.blk (ops := [(44, .iload_n 1)]) (pc' := 45) (lv' := [(0, .inr (.inr 0)), (1, .inl a1)]) (st' := [.inl a1]) (h' := h4) (cs := []) (by decide +kernel) rfl trivial) ?_
        rcases it_of hF with ⟨hb0, hF⟩ | ⟨hb0, hF⟩
        · refine RK.of (fun k9 => RN.tsw (dflt := 63) (lo := 0) (hi := 3) (offs := #[31, 39, 47, 55]) (by decide +kernel) (RN.sth hb0 (tgt := 76) rfl k9)) ?_
          refine RK.of (RN.blk (ops := [(76, .aload_n 0)]) (pc' := 77) (lv' := [(0, .inr (.inr 0)), (1, .inl a1)]) (st' := [.inr (.inr 0)]) (h' := h4) (cs := []) (by decide +kernel) rfl trivial) ?_
          refine RK.of (RN.gr (i := 79) (ci := 11) (k := 13) (fn := true) (v := 323) (by decide +kernel) rfl (TO.gk (o_0 hL)) (hL.fo (v := 323) 13 0 (o_0 hL) rfl (by decide) rfl).1) ?_
          refine RK.of (RN.blk (ops := [(80, .getfield 290)]) (pc' := 83) (lv' := [(0, .inr (.inr 0)), (1, .inl a1)]) (st' := [.inl (m_rd h4 323 0)]) (h' := h4) (cs := [GK h4 323 0]) (by decide +kernel) rfl ⟨(o_323 hL).gk, trivial⟩) ?_
          exact RK.iR (by decide +kernel) rfl hL hK hF
        rcases it_of hF with ⟨hb1, hF⟩ | ⟨hb1, hF⟩
        · refine RK.of (fun k9 => RN.tsw (dflt := 63) (lo := 0) (hi := 3) (offs := #[31, 39, 47, 55]) (by decide +kernel) (RN.stm hb0 (RN.sth hb1 (tgt := 84) rfl k9))) ?_
          refine RK.of (RN.blk (ops := [(84, .aload_n 0)]) (pc' := 85) (lv' := [(0, .inr (.inr 0)), (1, .inl a1)]) (st' := [.inr (.inr 0)]) (h' := h4) (cs := []) (by decide +kernel) rfl trivial) ?_
          refine RK.of (RN.gr (i := 79) (ci := 11) (k := 13) (fn := true) (v := 323) (by decide +kernel) rfl (TO.gk (o_0 hL)) (hL.fo (v := 323) 13 0 (o_0 hL) rfl (by decide) rfl).1) ?_
          refine RK.of (RN.blk (ops := [(88, .getfield 291)]) (pc' := 91) (lv' := [(0, .inr (.inr 0)), (1, .inl a1)]) (st' := [.inl (m_rd h4 323 1)]) (h' := h4) (cs := [GK h4 323 0]) (by decide +kernel) rfl ⟨(o_323 hL).gk, trivial⟩) ?_
          exact RK.iR (by decide +kernel) rfl hL hK hF
        rcases it_of hF with ⟨hb2, hF⟩ | ⟨hb2, hF⟩
        · refine RK.of (fun k9 => RN.tsw (dflt := 63) (lo := 0) (hi := 3) (offs := #[31, 39, 47, 55]) (by decide +kernel) (RN.stm hb0 (RN.stm hb1 (RN.sth hb2 (tgt := 92) rfl k9)))) ?_
          refine RK.of (RN.blk (ops := [(92, .aload_n 0)]) (pc' := 93) (lv' := [(0, .inr (.inr 0)), (1, .inl a1)]) (st' := [.inr (.inr 0)]) (h' := h4) (cs := []) (by decide +kernel) rfl trivial) ?_
          refine RK.of (RN.gr (i := 79) (ci := 11) (k := 13) (fn := true) (v := 323) (by decide +kernel) rfl (TO.gk (o_0 hL)) (hL.fo (v := 323) 13 0 (o_0 hL) rfl (by decide) rfl).1) ?_
          refine RK.of (RN.blk (ops := [(96, .getfield 293)]) (pc' := 99) (lv' := [(0, .inr (.inr 0)), (1, .inl a1)]) (st' := [.inl (m_rd h4 323 2)]) (h' := h4) (cs := [GK h4 323 0]) (by decide +kernel) rfl ⟨(o_323 hL).gk, trivial⟩) ?_
          exact RK.iR (by decide +kernel) rfl hL hK hF
        rcases it_of hF with ⟨hb3, hF⟩ | ⟨hb3, hF⟩
        · refine RK.of (fun k9 => RN.tsw (dflt := 63) (lo := 0) (hi := 3) (offs := #[31, 39, 47, 55]) (by decide +kernel) (RN.stm hb0 (RN.stm hb1 (RN.stm hb2 (RN.sth hb3 (tgt := 100) rfl k9))))) ?_
          refine RK.of (RN.blk (ops := [(100, .aload_n 0)]) (pc' := 101) (lv' := [(0, .inr (.inr 0)), (1, .inl a1)]) (st' := [.inr (.inr 0)]) (h' := h4) (cs := []) (by decide +kernel) rfl trivial) ?_
          refine RK.of (RN.gr (i := 79) (ci := 11) (k := 13) (fn := true) (v := 323) (by decide +kernel) rfl (TO.gk (o_0 hL)) (hL.fo (v := 323) 13 0 (o_0 hL) rfl (by decide) rfl).1) ?_
          refine RK.of (RN.blk (ops := [(104, .getfield 294)]) (pc' := 107) (lv' := [(0, .inr (.inr 0)), (1, .inl a1)]) (st' := [.inl (m_rd h4 323 3)]) (h' := h4) (cs := [GK h4 323 0]) (by decide +kernel) rfl ⟨(o_323 hL).gk, trivial⟩) ?_
          exact RK.iR (by decide +kernel) rfl hL hK hF
        refine RK.of (fun k9 => RN.tsw (dflt := 63) (lo := 0) (hi := 3) (offs := #[31, 39, 47, 55]) (by decide +kernel) (RN.stm hb0 (RN.stm hb1 (RN.stm hb2 (RN.stm hb3 (RN.std (tgt := 108) rfl k9)))))) ?_
        refine RK.of (RN.blk (ops := [(108, .aload_n 0)]) (pc' := 109) (lv' := [(0, .inr (.inr 0)), (1, .inl a1)]) (st' := [.inr (.inr 0)]) (h' := h4) (cs := []) (by decide +kernel) rfl trivial) ?_
        refine RK.of (RN.gr (i := 79) (ci := 11) (k := 13) (fn := true) (v := 323) (by decide +kernel) rfl (TO.gk (o_0 hL)) (hL.fo (v := 323) 13 0 (o_0 hL) rfl (by decide) rfl).1) ?_
        refine RK.of (RN.blk (ops := [(112, .getfield 296)]) (pc' := 115) (lv' := [(0, .inr (.inr 0)), (1, .inl a1)]) (st' := [.inl (m_rd h4 323 4)]) (h' := h4) (cs := [GK h4 323 0]) (by decide +kernel) rfl ⟨(o_323 hL).gk, trivial⟩) ?_
        exact RK.iR (by decide +kernel) rfl hL hK hF
noncomputable def GX11_change (a1 : Int) (h : MH) : Option (Int × MH) :=
  (bd (GX11_hasFrame h) (fun x2 h1 =>
   (if x2 = 0 then
    some ((-2), h1)
   else
    (if a1 < 0 then
     some ((-2), h1)
    else
     (if 2 < a1 then
      some ((-2), h1)
     else
      (bv (GX11_drawNow h1) (fun h3 =>
       (bv (GX0_seekChange 21 32 h3) (fun h4 =>
        (if a1 = 0 then
         some ((m_rd h4 323 1), h4)
        else
        (if a1 = 1 then
         some ((m_rd h4 323 4), h4)
        else
         some ((m_rd h4 323 5), h4))))))))))))
theorem DX11_change {d : Nat} {a1 : Int} {h : MH} {r : Int × MH} (hL : LR h) (hF : GX11_change a1 h = some r) : RN xs L iX11_change (d + 5) 0 (lvE 0 [.inr (.inr 0), .inl a1]) [] h (RIo r) ∧ LR r.2 ∧ KD h r.2 := by
  unfold GX11_change at hF
  have hK : KD h h := KD.rf
  show RK xs L iX11_change (d + 5) 0 (lvE 0 [.inr (.inr 0), .inl a1]) [] h (RIo r) h r.2
  refine RK.of (RN.blk (ops := [(0, .aload_n 0)]) (pc' := 1) (lv' := [(0, .inr (.inr 0)), (1, .inl a1)]) (st' := [.inr (.inr 0)]) (h' := h) (cs := []) (by decide +kernel) rfl trivial) ?_
  obtain ⟨x2, h1, hG, hF⟩ := bd_of hF
  have hq := rcv_ok (as := []) (TO.gk (o_0 hL))
  obtain ⟨hN, hL, hQ⟩ := DX11_hasFrame (d := d + 4) hL  hG
  refine RK.of (RN.cv (i := 191) (k := 149) (q2 := iX11_hasFrame) (as := [.inr (.inr 0)]) (r := []) (v := some (.inl x2)) (h1 := h1) (by decide +kernel) rfl rfl rfl rfl rfl hq hN) ?_
  have hK := hK.tr hQ
  rcases it_of hF with ⟨hb, hF⟩ | ⟨hb, hF⟩
  · refine RK.of (RN.ift (cd := .eq) (off := 12) (tgt := 16) (by decide +kernel) (mif_eq hb)) ?_
    refine RK.of (RN.blk (ops := [(16, .bipush (-2))]) (pc' := 18) (lv' := [(0, .inr (.inr 0)), (1, .inl a1)]) (st' := [.inl (-2)]) (h' := h1) (cs := []) (by decide +kernel) rfl trivial) ?_
    exact RK.iR (by decide +kernel) rfl hL hK hF
  · refine RK.of (RN.iff (cd := .eq) (off := 12) (tgt := 16) (by decide +kernel) (mif_eqn hb)) ?_
    refine RK.of (RN.blk (ops := [(7, .iload_n 1)]) (pc' := 8) (lv' := [(0, .inr (.inr 0)), (1, .inl a1)]) (st' := [.inl a1]) (h' := h1) (cs := []) (by decide +kernel) rfl trivial) ?_
    rcases it_of hF with ⟨hb, hF⟩ | ⟨hb, hF⟩
    · refine RK.of (RN.ift (cd := .lt) (off := 8) (tgt := 16) (by decide +kernel) (mif_lt hb)) ?_
      refine RK.of (RN.blk (ops := [(16, .bipush (-2))]) (pc' := 18) (lv' := [(0, .inr (.inr 0)), (1, .inl a1)]) (st' := [.inl (-2)]) (h' := h1) (cs := []) (by decide +kernel) rfl trivial) ?_
      exact RK.iR (by decide +kernel) rfl hL hK hF
    · refine RK.of (RN.iff (cd := .lt) (off := 8) (tgt := 16) (by decide +kernel) (mif_ltn hb)) ?_
      refine RK.of (RN.blk (ops := [(11, .iload_n 1), (12, .iconst 2)]) (pc' := 13) (lv' := [(0, .inr (.inr 0)), (1, .inl a1)]) (st' := [.inl 2, .inl a1]) (h' := h1) (cs := []) (by decide +kernel) rfl trivial) ?_
      rcases it_of hF with ⟨hb, hF⟩ | ⟨hb, hF⟩
      · refine RK.of (RN.icf (cd := .le) (off := 6) (tgt := 19) (by decide +kernel) (mif_len hb)) ?_
        refine RK.of (RN.blk (ops := [(16, .bipush (-2))]) (pc' := 18) (lv' := [(0, .inr (.inr 0)), (1, .inl a1)]) (st' := [.inl (-2)]) (h' := h1) (cs := []) (by decide +kernel) rfl trivial) ?_
        exact RK.iR (by decide +kernel) rfl hL hK hF
      · refine RK.of (RN.ict (cd := .le) (off := 6) (tgt := 19) (by decide +kernel) (mif_le hb)) ?_
        refine RK.of (RN.blk (ops := [(19, .aload_n 0)]) (pc' := 20) (lv' := [(0, .inr (.inr 0)), (1, .inl a1)]) (st' := [.inr (.inr 0)]) (h' := h1) (cs := []) (by decide +kernel) rfl trivial) ?_
        obtain ⟨h3, hG, hF⟩ := bv_of hF
        have hq := rcv_ok (as := []) (TO.gk (o_0 hL))
        obtain ⟨hN, hL, hQ⟩ := DX11_drawNow (d := d + 1) hL  hG
        refine RK.of (RN.cv (i := 242) (k := 153) (q2 := iX11_drawNow) (as := [.inr (.inr 0)]) (r := []) (v := none) (h1 := h3) (by decide +kernel) rfl rfl rfl rfl rfl hq hN) ?_
        have hK := hK.tr hQ
        refine RK.of (RN.blk (ops := [(23, .aload_n 0)]) (pc' := 24) (lv' := [(0, .inr (.inr 0)), (1, .inl a1)]) (st' := [.inr (.inr 0)]) (h' := h3) (cs := []) (by decide +kernel) rfl trivial) ?_
        refine RK.of (RN.gr (i := 79) (ci := 11) (k := 13) (fn := true) (v := 323) (by decide +kernel) rfl (TO.gk (o_0 hL)) (hL.fo (v := 323) 13 0 (o_0 hL) rfl (by decide) rfl).1) ?_
        refine RK.of (RN.blk (ops := [(27, .aload_n 0)]) (pc' := 28) (lv' := [(0, .inr (.inr 0)), (1, .inl a1)]) (st' := [.inr (.inr 0), .inr (.inr 323)]) (h' := h3) (cs := []) (by decide +kernel) rfl trivial) ?_
        refine RK.of (RN.gr (i := 41) (ci := 11) (k := 5) (fn := true) (v := 20) (by decide +kernel) rfl (TO.gk (o_0 hL)) (hL.fo (v := 20) 5 2 (o_0 hL) rfl (by decide) rfl).1) ?_
        refine RK.of (RN.gr (i := 130) (ci := 2) (k := 0) (fn := true) (v := 21) (by decide +kernel) rfl (TO.gk (o_20 hL)) (hL.fo (v := 21) 0 8 (o_20 hL) rfl (by decide) rfl).1) ?_
        refine RK.of (RN.blk (ops := [(34, .aload_n 0)]) (pc' := 35) (lv' := [(0, .inr (.inr 0)), (1, .inl a1)]) (st' := [.inr (.inr 0), .inr (.inr 21), .inr (.inr 323)]) (h' := h3) (cs := []) (by decide +kernel) rfl trivial) ?_
        refine RK.of (RN.gr (i := 41) (ci := 11) (k := 5) (fn := true) (v := 20) (by decide +kernel) rfl (TO.gk (o_0 hL)) (hL.fo (v := 20) 5 2 (o_0 hL) rfl (by decide) rfl).1) ?_
        refine RK.of (RN.gr (i := 110) (ci := 2) (k := 2) (fn := true) (v := 32) (by decide +kernel) rfl (TO.gk (o_20 hL)) (hL.fo (v := 32) 2 10 (o_20 hL) rfl (by decide) rfl).1) ?_
        obtain ⟨h4, hG, hF⟩ := bv_of hF
        have hq := rcv_ok (as := [.inr (.inr 21), .inr (.inr 32)]) (TO.gk (o_323 hL))
        obtain ⟨hN, hL, hQ⟩ := DX0_seekChange (d := d) hL (o_21 hL) (o_32 hL) hG
        refine RK.of (RN.cv (i := 298) (k := 6) (q2 := iX0_seekChange) (as := [.inr (.inr 323), .inr (.inr 21), .inr (.inr 32)]) (r := []) (v := none) (h1 := h4) (by decide +kernel) rfl rfl rfl rfl rfl hq hN) ?_
        have hK := hK.tr hQ
        refine RK.of (RN.blk (ops := [(44, .iload_n 1)]) (pc' := 45) (lv' := [(0, .inr (.inr 0)), (1, .inl a1)]) (st' := [.inl a1]) (h' := h4) (cs := []) (by decide +kernel) rfl trivial) ?_
        rcases it_of hF with ⟨hb0, hF⟩ | ⟨hb0, hF⟩
        · refine RK.of (fun k9 => RN.lsw (dflt := 43) (ps := #[(0, 27), (1, 35)]) (by decide +kernel) (RN.slh hb0 (tgt := 72) rfl k9)) ?_
          refine RK.of (RN.blk (ops := [(72, .aload_n 0)]) (pc' := 73) (lv' := [(0, .inr (.inr 0)), (1, .inl a1)]) (st' := [.inr (.inr 0)]) (h' := h4) (cs := []) (by decide +kernel) rfl trivial) ?_
          refine RK.of (RN.gr (i := 79) (ci := 11) (k := 13) (fn := true) (v := 323) (by decide +kernel) rfl (TO.gk (o_0 hL)) (hL.fo (v := 323) 13 0 (o_0 hL) rfl (by decide) rfl).1) ?_
          refine RK.of (RN.blk (ops := [(76, .getfield 291)]) (pc' := 79) (lv' := [(0, .inr (.inr 0)), (1, .inl a1)]) (st' := [.inl (m_rd h4 323 1)]) (h' := h4) (cs := [GK h4 323 0]) (by decide +kernel) rfl ⟨(o_323 hL).gk, trivial⟩) ?_
          exact RK.iR (by decide +kernel) rfl hL hK hF
        rcases it_of hF with ⟨hb1, hF⟩ | ⟨hb1, hF⟩
        · refine RK.of (fun k9 => RN.lsw (dflt := 43) (ps := #[(0, 27), (1, 35)]) (by decide +kernel) (RN.slm hb0 (RN.slh hb1 (tgt := 80) rfl k9))) ?_
          refine RK.of (RN.blk (ops := [(80, .aload_n 0)]) (pc' := 81) (lv' := [(0, .inr (.inr 0)), (1, .inl a1)]) (st' := [.inr (.inr 0)]) (h' := h4) (cs := []) (by decide +kernel) rfl trivial) ?_
          refine RK.of (RN.gr (i := 79) (ci := 11) (k := 13) (fn := true) (v := 323) (by decide +kernel) rfl (TO.gk (o_0 hL)) (hL.fo (v := 323) 13 0 (o_0 hL) rfl (by decide) rfl).1) ?_
          refine RK.of (RN.blk (ops := [(84, .getfield 296)]) (pc' := 87) (lv' := [(0, .inr (.inr 0)), (1, .inl a1)]) (st' := [.inl (m_rd h4 323 4)]) (h' := h4) (cs := [GK h4 323 0]) (by decide +kernel) rfl ⟨(o_323 hL).gk, trivial⟩) ?_
          exact RK.iR (by decide +kernel) rfl hL hK hF
        refine RK.of (fun k9 => RN.lsw (dflt := 43) (ps := #[(0, 27), (1, 35)]) (by decide +kernel) (RN.slm hb0 (RN.slm hb1 (RN.sld (tgt := 88) rfl k9)))) ?_
        refine RK.of (RN.blk (ops := [(88, .aload_n 0)]) (pc' := 89) (lv' := [(0, .inr (.inr 0)), (1, .inl a1)]) (st' := [.inr (.inr 0)]) (h' := h4) (cs := []) (by decide +kernel) rfl trivial) ?_
        refine RK.of (RN.gr (i := 79) (ci := 11) (k := 13) (fn := true) (v := 323) (by decide +kernel) rfl (TO.gk (o_0 hL)) (hL.fo (v := 323) 13 0 (o_0 hL) rfl (by decide) rfl).1) ?_
        refine RK.of (RN.blk (ops := [(92, .getfield 301)]) (pc' := 95) (lv' := [(0, .inr (.inr 0)), (1, .inl a1)]) (st' := [.inl (m_rd h4 323 5)]) (h' := h4) (cs := [GK h4 323 0]) (by decide +kernel) rfl ⟨(o_323 hL).gk, trivial⟩) ?_
        exact RK.iR (by decide +kernel) rfl hL hK hF
noncomputable def GX11_ahead (a1 : Int) (a2 : Int) (a3 : Int) (h : MH) : Option (Int × MH) :=
  jn (fun (s2 : Int) (h3 : MH) =>
   (bd (GX11_hasFrame h3) (fun x5 h4 =>
    (if x5 = 0 then
     some ((-1), h4)
    else
     (if s2 = 0 then
      some ((-1), h4)
     else
      (if a2 < 0 then
       some ((-1), h4)
      else
       (if 100 < a2 then
        some ((-1), h4)
       else
        (bv (GX11_startFromNow h4) (fun h6 =>
         (bd (GX11_ruleInForce h6) (fun x8 h7 =>
          (bv (GX7_steps x8 a2 h7) (fun h9 =>
           (if a3 = 0 then
            gd [IB a1 6] (
             some ((m_rd h9 320 a1), h9))
           else
           (if a3 = 1 then
            some ((m_rd h9 314 1), h9)
           else
           (if a3 = 2 then
            (bd (GX10_bagsOfAll 314 h9) (fun x11 h10 =>
             some (x11, h10)))
           else
            some ((m_rd h9 314 5), h9))))))))))))))))) (fun j1 =>
   (if a3 = 0 then
    (bd (GX8_hasHole 21 a1 h) (fun x14 h13 =>
     j1 x14 h13))
   else
    jn (
     j1 0 h) (fun j12 =>
     (if 0 < a3 then
      (if 3 < a3 then
       j12
      else
       j1 1 h)
     else
      j12))))
theorem DX11_ahead {d : Nat} {a1 : Int} {a2 : Int} {a3 : Int} {h : MH} {r : Int × MH} (hL : LR h) (hF : GX11_ahead a1 a2 a3 h = some r) : RN xs L iX11_ahead (d + 6) 0 (lvE 0 [.inr (.inr 0), .inl a1, .inl a2, .inl a3]) [] h (RIo r) ∧ LR r.2 ∧ KD h r.2 := by
  unfold GX11_ahead at hF
  have hK : KD h h := KD.rf
  show RK xs L iX11_ahead (d + 6) 0 (lvE 0 [.inr (.inr 0), .inl a1, .inl a2, .inl a3]) [] h (RIo r) h r.2
  refine RK.of (RN.blk (ops := [(0, .iload_n 3)]) (pc' := 1) (lv' := [(0, .inr (.inr 0)), (1, .inl a1), (2, .inl a2), (3, .inl a3)]) (st' := [.inl a3]) (h' := h) (cs := []) (by decide +kernel) rfl trivial) ?_
  refine jn_use (fun j1 => ∀ (s2 : Int) (h3 : MH), LR h3 → KD h h3 → j1 s2 h3 = some r → RK xs L iX11_ahead (d + 6) 32 [(0, .inr (.inr 0)), (1, .inl a1), (2, .inl a2), (3, .inl a3)] [.inl s2] h3 (RIo r) h r.2) ?_ ?_ hF
  · intro s2 h3 hL hK hF
    refine RK.of (RN.blk (ops := [(32, .istore 4), (34, .aload_n 0)]) (pc' := 35) (lv' := [(4, .inl s2), (0, .inr (.inr 0)), (1, .inl a1), (2, .inl a2), (3, .inl a3)]) (st' := [.inr (.inr 0)]) (h' := h3) (cs := []) (by decide +kernel) rfl trivial) ?_
    obtain ⟨x5, h4, hG, hF⟩ := bd_of hF
    have hq := rcv_ok (as := []) (TO.gk (o_0 hL))
    obtain ⟨hN, hL, hQ⟩ := DX11_hasFrame (d := d + 5) hL  hG
    refine RK.of (RN.cv (i := 191) (k := 149) (q2 := iX11_hasFrame) (as := [.inr (.inr 0)]) (r := []) (v := some (.inl x5)) (h1 := h4) (by decide +kernel) rfl rfl rfl rfl rfl hq hN) ?_
    have hK := hK.tr hQ
    rcases it_of hF with ⟨hb, hF⟩ | ⟨hb, hF⟩
    · refine RK.of (RN.ift (cd := .eq) (off := 18) (tgt := 56) (by decide +kernel) (mif_eq hb)) ?_
      refine RK.of (RN.blk (ops := [(56, .iconst (-1))]) (pc' := 57) (lv' := [(4, .inl s2), (0, .inr (.inr 0)), (1, .inl a1), (2, .inl a2), (3, .inl a3)]) (st' := [.inl (-1)]) (h' := h4) (cs := []) (by decide +kernel) rfl trivial) ?_
      exact RK.iR (by decide +kernel) rfl hL hK hF
    · refine RK.of (RN.iff (cd := .eq) (off := 18) (tgt := 56) (by decide +kernel) (mif_eqn hb)) ?_
      refine RK.of (RN.blk (ops := [(41, .iload 4)]) (pc' := 43) (lv' := [(4, .inl s2), (0, .inr (.inr 0)), (1, .inl a1), (2, .inl a2), (3, .inl a3)]) (st' := [.inl s2]) (h' := h4) (cs := []) (by decide +kernel) rfl trivial) ?_
      rcases it_of hF with ⟨hb, hF⟩ | ⟨hb, hF⟩
      · refine RK.of (RN.ift (cd := .eq) (off := 13) (tgt := 56) (by decide +kernel) (mif_eq hb)) ?_
        refine RK.of (RN.blk (ops := [(56, .iconst (-1))]) (pc' := 57) (lv' := [(4, .inl s2), (0, .inr (.inr 0)), (1, .inl a1), (2, .inl a2), (3, .inl a3)]) (st' := [.inl (-1)]) (h' := h4) (cs := []) (by decide +kernel) rfl trivial) ?_
        exact RK.iR (by decide +kernel) rfl hL hK hF
      · refine RK.of (RN.iff (cd := .eq) (off := 13) (tgt := 56) (by decide +kernel) (mif_eqn hb)) ?_
        refine RK.of (RN.blk (ops := [(46, .iload_n 2)]) (pc' := 47) (lv' := [(4, .inl s2), (0, .inr (.inr 0)), (1, .inl a1), (2, .inl a2), (3, .inl a3)]) (st' := [.inl a2]) (h' := h4) (cs := []) (by decide +kernel) rfl trivial) ?_
        rcases it_of hF with ⟨hb, hF⟩ | ⟨hb, hF⟩
        · refine RK.of (RN.ift (cd := .lt) (off := 9) (tgt := 56) (by decide +kernel) (mif_lt hb)) ?_
          refine RK.of (RN.blk (ops := [(56, .iconst (-1))]) (pc' := 57) (lv' := [(4, .inl s2), (0, .inr (.inr 0)), (1, .inl a1), (2, .inl a2), (3, .inl a3)]) (st' := [.inl (-1)]) (h' := h4) (cs := []) (by decide +kernel) rfl trivial) ?_
          exact RK.iR (by decide +kernel) rfl hL hK hF
        · refine RK.of (RN.iff (cd := .lt) (off := 9) (tgt := 56) (by decide +kernel) (mif_ltn hb)) ?_
          refine RK.of (RN.blk (ops := [(50, .iload_n 2), (51, .bipush 100)]) (pc' := 53) (lv' := [(4, .inl s2), (0, .inr (.inr 0)), (1, .inl a1), (2, .inl a2), (3, .inl a3)]) (st' := [.inl 100, .inl a2]) (h' := h4) (cs := []) (by decide +kernel) rfl trivial) ?_
          rcases it_of hF with ⟨hb, hF⟩ | ⟨hb, hF⟩
          · refine RK.of (RN.icf (cd := .le) (off := 5) (tgt := 58) (by decide +kernel) (mif_len hb)) ?_
            refine RK.of (RN.blk (ops := [(56, .iconst (-1))]) (pc' := 57) (lv' := [(4, .inl s2), (0, .inr (.inr 0)), (1, .inl a1), (2, .inl a2), (3, .inl a3)]) (st' := [.inl (-1)]) (h' := h4) (cs := []) (by decide +kernel) rfl trivial) ?_
            exact RK.iR (by decide +kernel) rfl hL hK hF
          · refine RK.of (RN.ict (cd := .le) (off := 5) (tgt := 58) (by decide +kernel) (mif_le hb)) ?_
            refine RK.of (RN.blk (ops := [(58, .aload_n 0)]) (pc' := 59) (lv' := [(4, .inl s2), (0, .inr (.inr 0)), (1, .inl a1), (2, .inl a2), (3, .inl a3)]) (st' := [.inr (.inr 0)]) (h' := h4) (cs := []) (by decide +kernel) rfl trivial) ?_
            obtain ⟨h6, hG, hF⟩ := bv_of hF
            have hq := rcv_ok (as := []) (TO.gk (o_0 hL))
            obtain ⟨hN, hL, hQ⟩ := DX11_startFromNow (d := d + 1) hL  hG
            refine RK.of (RN.cv (i := 195) (k := 154) (q2 := iX11_startFromNow) (as := [.inr (.inr 0)]) (r := []) (v := none) (h1 := h6) (by decide +kernel) rfl rfl rfl rfl rfl hq hN) ?_
            have hK := hK.tr hQ
            refine RK.of (RN.blk (ops := [(62, .aload_n 0)]) (pc' := 63) (lv' := [(4, .inl s2), (0, .inr (.inr 0)), (1, .inl a1), (2, .inl a2), (3, .inl a3)]) (st' := [.inr (.inr 0)]) (h' := h6) (cs := []) (by decide +kernel) rfl trivial) ?_
            refine RK.of (RN.gr (i := 72) (ci := 11) (k := 12) (fn := true) (v := 310) (by decide +kernel) rfl (TO.gk (o_0 hL)) (hL.fo (v := 310) 12 7 (o_0 hL) rfl (by decide) rfl).1) ?_
            refine RK.of (RN.blk (ops := [(66, .aload_n 0)]) (pc' := 67) (lv' := [(4, .inl s2), (0, .inr (.inr 0)), (1, .inl a1), (2, .inl a2), (3, .inl a3)]) (st' := [.inr (.inr 0), .inr (.inr 310)]) (h' := h6) (cs := []) (by decide +kernel) rfl trivial) ?_
            obtain ⟨x8, h7, hG, hF⟩ := bd_of hF
            have hq := rcv_ok (as := []) (TO.gk (o_0 hL))
            obtain ⟨hN, hL, hQ⟩ := DX11_ruleInForce (d := d + 4) hL  hG
            refine RK.of (RN.cv (i := 198) (k := 151) (q2 := iX11_ruleInForce) (as := [.inr (.inr 0)]) (r := [.inr (.inr 310)]) (v := some (.inr (.inr x8))) (h1 := h7) (by decide +kernel) rfl rfl rfl rfl rfl hq hN) ?_
            have hK := hK.tr hQ
            refine RK.of (RN.blk (ops := [(70, .iload_n 2)]) (pc' := 71) (lv' := [(4, .inl s2), (0, .inr (.inr 0)), (1, .inl a1), (2, .inl a2), (3, .inl a3)]) (st' := [.inl a2, .inr (.inr x8), .inr (.inr 310)]) (h' := h7) (cs := []) (by decide +kernel) rfl trivial) ?_
            obtain ⟨h9, hG, hF⟩ := bv_of hF
            have hq := rcv_ok (as := [.inr (.inr x8), .inl a2]) (TO.gk (o_310 hL))
            obtain ⟨hN, hL, hQ⟩ := DX7_steps (d := d) hL  hG
            refine RK.of (RN.cv (i := 304) (k := 72) (q2 := iX7_steps) (as := [.inr (.inr 310), .inr (.inr x8), .inl a2]) (r := []) (v := none) (h1 := h9) (by decide +kernel) rfl rfl rfl rfl rfl hq hN) ?_
            have hK := hK.tr hQ
            refine RK.of (RN.blk (ops := [(74, .iload_n 3)]) (pc' := 75) (lv' := [(4, .inl s2), (0, .inr (.inr 0)), (1, .inl a1), (2, .inl a2), (3, .inl a3)]) (st' := [.inl a3]) (h' := h9) (cs := []) (by decide +kernel) rfl trivial) ?_
            rcases it_of hF with ⟨hb0, hF⟩ | ⟨hb0, hF⟩
            · refine RK.of (fun k9 => RN.tsw (dflt := 60) (lo := 0) (hi := 2) (offs := #[25, 38, 49]) (by decide +kernel) (RN.sth hb0 (tgt := 100) rfl k9)) ?_
              refine RK.of (RN.blk (ops := [(100, .aload_n 0)]) (pc' := 101) (lv' := [(4, .inl s2), (0, .inr (.inr 0)), (1, .inl a1), (2, .inl a2), (3, .inl a3)]) (st' := [.inr (.inr 0)]) (h' := h9) (cs := []) (by decide +kernel) rfl trivial) ?_
              refine RK.of (RN.gr (i := 72) (ci := 11) (k := 12) (fn := true) (v := 310) (by decide +kernel) rfl (TO.gk (o_0 hL)) (hL.fo (v := 310) 12 7 (o_0 hL) rfl (by decide) rfl).1) ?_
              refine RK.of (RN.gr (i := 209) (ci := 7) (k := 1) (fn := true) (v := 314) (by decide +kernel) rfl (TO.gk (o_310 hL)) (hL.fo (v := 314) 1 10 (o_310 hL) rfl (by decide) rfl).1) ?_
              refine RK.of (RN.gr (i := 141) (ci := 10) (k := 3) (fn := true) (v := 320) (by decide +kernel) rfl (TO.gk (o_314 hL)) (hL.fa (v := 320) 3 1 6 (o_314 hL) rfl (by decide) rfl (by decide)).1) ?_
              obtain ⟨hc, hF⟩ := gd_of hF
              refine RK.of (RN.blk (ops := [(110, .iload_n 1), (111, .iaload)]) (pc' := 112) (lv' := [(4, .inl s2), (0, .inr (.inr 0)), (1, .inl a1), (2, .inl a2), (3, .inl a3)]) (st' := [.inl (m_rd h9 320 a1)]) (h' := h9) (cs := [GI h9 320 1 a1]) (by decide +kernel) rfl ⟨(a_320 hL).gi hc.1.1 hc.1.2, trivial⟩) ?_
              exact RK.iR (by decide +kernel) rfl hL hK hF
            rcases it_of hF with ⟨hb1, hF⟩ | ⟨hb1, hF⟩
            · refine RK.of (fun k9 => RN.tsw (dflt := 60) (lo := 0) (hi := 2) (offs := #[25, 38, 49]) (by decide +kernel) (RN.stm hb0 (RN.sth hb1 (tgt := 113) rfl k9))) ?_
              refine RK.of (RN.blk (ops := [(113, .aload_n 0)]) (pc' := 114) (lv' := [(4, .inl s2), (0, .inr (.inr 0)), (1, .inl a1), (2, .inl a2), (3, .inl a3)]) (st' := [.inr (.inr 0)]) (h' := h9) (cs := []) (by decide +kernel) rfl trivial) ?_
              refine RK.of (RN.gr (i := 72) (ci := 11) (k := 12) (fn := true) (v := 310) (by decide +kernel) rfl (TO.gk (o_0 hL)) (hL.fo (v := 310) 12 7 (o_0 hL) rfl (by decide) rfl).1) ?_
              refine RK.of (RN.gr (i := 209) (ci := 7) (k := 1) (fn := true) (v := 314) (by decide +kernel) rfl (TO.gk (o_310 hL)) (hL.fo (v := 314) 1 10 (o_310 hL) rfl (by decide) rfl).1) ?_
              refine RK.of (RN.blk (ops := [(120, .getfield 159)]) (pc' := 123) (lv' := [(4, .inl s2), (0, .inr (.inr 0)), (1, .inl a1), (2, .inl a2), (3, .inl a3)]) (st' := [.inl (m_rd h9 314 1)]) (h' := h9) (cs := [GK h9 314 10]) (by decide +kernel) rfl ⟨(o_314 hL).gk, trivial⟩) ?_
              exact RK.iR (by decide +kernel) rfl hL hK hF
            rcases it_of hF with ⟨hb2, hF⟩ | ⟨hb2, hF⟩
            · refine RK.of (fun k9 => RN.tsw (dflt := 60) (lo := 0) (hi := 2) (offs := #[25, 38, 49]) (by decide +kernel) (RN.stm hb0 (RN.stm hb1 (RN.sth hb2 (tgt := 124) rfl k9)))) ?_
              refine RK.of (RN.blk (ops := [(124, .aload_n 0)]) (pc' := 125) (lv' := [(4, .inl s2), (0, .inr (.inr 0)), (1, .inl a1), (2, .inl a2), (3, .inl a3)]) (st' := [.inr (.inr 0)]) (h' := h9) (cs := []) (by decide +kernel) rfl trivial) ?_
              refine RK.of (RN.gr (i := 72) (ci := 11) (k := 12) (fn := true) (v := 310) (by decide +kernel) rfl (TO.gk (o_0 hL)) (hL.fo (v := 310) 12 7 (o_0 hL) rfl (by decide) rfl).1) ?_
              refine RK.of (RN.gr (i := 209) (ci := 7) (k := 1) (fn := true) (v := 314) (by decide +kernel) rfl (TO.gk (o_310 hL)) (hL.fo (v := 314) 1 10 (o_310 hL) rfl (by decide) rfl).1) ?_
              obtain ⟨x11, h10, hG, hF⟩ := bd_of hF
              have hq := rcv_ok (as := []) (TO.gk (o_314 hL))
              obtain ⟨hN, hL, hQ⟩ := DX10_bagsOfAll (d := d + 4) hL (o_314 hL) hG
              refine RK.of (RN.cv (i := 179) (k := 106) (q2 := iX10_bagsOfAll) (as := [.inr (.inr 314)]) (r := []) (v := some (.inl x11)) (h1 := h10) (by decide +kernel) rfl rfl rfl rfl rfl hq hN) ?_
              have hK := hK.tr hQ
              exact RK.iR (by decide +kernel) rfl hL hK hF
            refine RK.of (fun k9 => RN.tsw (dflt := 60) (lo := 0) (hi := 2) (offs := #[25, 38, 49]) (by decide +kernel) (RN.stm hb0 (RN.stm hb1 (RN.stm hb2 (RN.std (tgt := 135) rfl k9))))) ?_
            refine RK.of (RN.blk (ops := [(135, .aload_n 0)]) (pc' := 136) (lv' := [(4, .inl s2), (0, .inr (.inr 0)), (1, .inl a1), (2, .inl a2), (3, .inl a3)]) (st' := [.inr (.inr 0)]) (h' := h9) (cs := []) (by decide +kernel) rfl trivial) ?_
            refine RK.of (RN.gr (i := 72) (ci := 11) (k := 12) (fn := true) (v := 310) (by decide +kernel) rfl (TO.gk (o_0 hL)) (hL.fo (v := 310) 12 7 (o_0 hL) rfl (by decide) rfl).1) ?_
            refine RK.of (RN.gr (i := 209) (ci := 7) (k := 1) (fn := true) (v := 314) (by decide +kernel) rfl (TO.gk (o_310 hL)) (hL.fo (v := 314) 1 10 (o_310 hL) rfl (by decide) rfl).1) ?_
            refine RK.of (RN.blk (ops := [(142, .getfield 182)]) (pc' := 145) (lv' := [(4, .inl s2), (0, .inr (.inr 0)), (1, .inl a1), (2, .inl a2), (3, .inl a3)]) (st' := [.inl (m_rd h9 314 5)]) (h' := h9) (cs := [GK h9 314 10]) (by decide +kernel) rfl ⟨(o_314 hL).gk, trivial⟩) ?_
            exact RK.iR (by decide +kernel) rfl hL hK hF
  · intro j1 Jj1 hF
    rcases it_of hF with ⟨hb, hF⟩ | ⟨hb, hF⟩
    · refine RK.of (RN.iff (cd := .ne) (off := 17) (tgt := 18) (by decide +kernel) (mif_nen hb)) ?_
      refine RK.of (RN.blk (ops := [(4, .aload_n 0)]) (pc' := 5) (lv' := [(0, .inr (.inr 0)), (1, .inl a1), (2, .inl a2), (3, .inl a3)]) (st' := [.inr (.inr 0)]) (h' := h) (cs := []) (by decide +kernel) rfl trivial) ?_
      refine RK.of (RN.gr (i := 41) (ci := 11) (k := 5) (fn := true) (v := 20) (by decide +kernel) rfl (TO.gk (o_0 hL)) (hL.fo (v := 20) 5 2 (o_0 hL) rfl (by decide) rfl).1) ?_
      refine RK.of (RN.gr (i := 130) (ci := 2) (k := 0) (fn := true) (v := 21) (by decide +kernel) rfl (TO.gk (o_20 hL)) (hL.fo (v := 21) 0 8 (o_20 hL) rfl (by decide) rfl).1) ?_
      refine RK.of (RN.blk (ops := [(11, .iload_n 1)]) (pc' := 12) (lv' := [(0, .inr (.inr 0)), (1, .inl a1), (2, .inl a2), (3, .inl a3)]) (st' := [.inl a1, .inr (.inr 21)]) (h' := h) (cs := []) (by decide +kernel) rfl trivial) ?_
      obtain ⟨x14, h13, hG, hF⟩ := bd_of hF
      have hq := rcv_ok (as := [.inl a1]) (TO.gk (o_21 hL))
      obtain ⟨hN, hL, hQ⟩ := DX8_hasHole (d := d + 5) hL (o_21 hL) hG
      refine RK.of (RN.cv (i := 131) (k := 81) (q2 := iX8_hasHole) (as := [.inr (.inr 21), .inl a1]) (r := []) (v := some (.inl x14)) (h1 := h13) (by decide +kernel) rfl rfl rfl rfl rfl hq hN) ?_
      have hK := hK.tr hQ
      refine RK.of (RN.goto (off := 17) (tgt := 32) (by decide +kernel)) ?_
      exact RK.sub (Jj1 _ _ hL hK hF) (sub_cons rfl (sub_cons rfl (sub_cons rfl (sub_cons rfl sub_nil))))
    · refine RK.of (RN.ift (cd := .ne) (off := 17) (tgt := 18) (by decide +kernel) (mif_ne hb)) ?_
      refine RK.of (RN.blk (ops := [(18, .iload_n 3)]) (pc' := 19) (lv' := [(0, .inr (.inr 0)), (1, .inl a1), (2, .inl a2), (3, .inl a3)]) (st' := [.inl a3]) (h' := h) (cs := []) (by decide +kernel) rfl trivial) ?_
      refine jn_use (fun j12 => j12 = some r → RK xs L iX11_ahead (d + 6) 31 [(0, .inr (.inr 0)), (1, .inl a1), (2, .inl a2), (3, .inl a3)] [] h (RIo r) h r.2) ?_ ?_ hF
      · intro  hF
        refine RK.of (RN.blk (ops := [(31, .iconst 0)]) (pc' := 32) (lv' := [(0, .inr (.inr 0)), (1, .inl a1), (2, .inl a2), (3, .inl a3)]) (st' := [.inl 0]) (h' := h) (cs := []) (by decide +kernel) rfl trivial) ?_
        exact RK.sub (Jj1 _ _ hL hK hF) (sub_cons rfl (sub_cons rfl (sub_cons rfl (sub_cons rfl sub_nil))))
      · intro j12 Jj12 hF
        rcases it_of hF with ⟨hb, hF⟩ | ⟨hb, hF⟩
        · refine RK.of (RN.iff (cd := .le) (off := 12) (tgt := 31) (by decide +kernel) (mif_len hb)) ?_
          refine RK.of (RN.blk (ops := [(22, .iload_n 3), (23, .iconst 3)]) (pc' := 24) (lv' := [(0, .inr (.inr 0)), (1, .inl a1), (2, .inl a2), (3, .inl a3)]) (st' := [.inl 3, .inl a3]) (h' := h) (cs := []) (by decide +kernel) rfl trivial) ?_
          rcases it_of hF with ⟨hb, hF⟩ | ⟨hb, hF⟩
          · refine RK.of (RN.ict (cd := .gt) (off := 7) (tgt := 31) (by decide +kernel) (mif_gt hb)) ?_
            exact RK.sub (Jj12 hF) (sub_cons rfl (sub_cons rfl (sub_cons rfl (sub_cons rfl sub_nil))))
          · refine RK.of (RN.icf (cd := .gt) (off := 7) (tgt := 31) (by decide +kernel) (mif_gtn hb)) ?_
            refine RK.of (RN.blk (ops := [(27, .iconst 1)]) (pc' := 28) (lv' := [(0, .inr (.inr 0)), (1, .inl a1), (2, .inl a2), (3, .inl a3)]) (st' := [.inl 1]) (h' := h) (cs := []) (by decide +kernel) rfl trivial) ?_
            refine RK.of (RN.goto (off := 4) (tgt := 32) (by decide +kernel)) ?_
            exact RK.sub (Jj1 _ _ hL hK hF) (sub_cons rfl (sub_cons rfl (sub_cons rfl (sub_cons rfl sub_nil))))
        · refine RK.of (RN.ift (cd := .le) (off := 12) (tgt := 31) (by decide +kernel) (mif_le hb)) ?_
          exact RK.sub (Jj12 hF) (sub_cons rfl (sub_cons rfl (sub_cons rfl (sub_cons rfl sub_nil))))
end Gc
