/-! METHODS AS FUNCTIONS, references resolved (by program): X11_sorted, X11_tied, X11_enough, X11_said, X11_sent, X11_pence, X11_note, X11_ruled, X11_look, X11_seed, X11_posts -/
section Gc
variable {xs : Int → Int} {L : Int}
noncomputable def GX11_sorted (h : MH) : Option (Int × MH) :=
  (bd (GX11_hasFrame h) (fun x2 h1 =>
   (if x2 = 0 then
    some ((-1), h1)
   else
    (bv (GX11_startFromNow h1) (fun h3 =>
     (bd (GX11_ruleInForce h3) (fun x5 h4 =>
      (bd (GX7_turnOfSorting x5 h4) (fun x7 h6 =>
       some (x7, h6))))))))))
theorem DX11_sorted {d : Nat} {h : MH} {r : Int × MH} (hL : LR h) (hF : GX11_sorted h = some r) : RN xs L iX11_sorted (d + 6) 0 (lvE 0 [.inr (.inr 0)]) [] h (RIo r) ∧ LR r.2 ∧ KD h r.2 := by
  unfold GX11_sorted at hF
  have hK : KD h h := KD.rf
  show RK xs L iX11_sorted (d + 6) 0 (lvE 0 [.inr (.inr 0)]) [] h (RIo r) h r.2
  refine RK.of (RN.blk (ops := [(0, .aload_n 0)]) (pc' := 1) (lv' := [(0, .inr (.inr 0))]) (st' := [.inr (.inr 0)]) (h' := h) (cs := []) (by decide +kernel) rfl trivial) ?_
  obtain ⟨x2, h1, hG, hF⟩ := bd_of hF
  have hq := rcv_ok (as := []) (TO.gk (o_0 hL))
  obtain ⟨hN, hL, hQ⟩ := DX11_hasFrame (d := d + 5) hL  hG
  refine RK.of (RN.cv (i := 191) (k := 149) (q2 := iX11_hasFrame) (as := [.inr (.inr 0)]) (r := []) (v := some (.inl x2)) (h1 := h1) (by decide +kernel) rfl rfl rfl rfl rfl hq hN) ?_
  have hK := hK.tr hQ
  rcases it_of hF with ⟨hb, hF⟩ | ⟨hb, hF⟩
  · refine RK.of (RN.iff (cd := .ne) (off := 5) (tgt := 9) (by decide +kernel) (mif_nen hb)) ?_
    refine RK.of (RN.blk (ops := [(7, .iconst (-1))]) (pc' := 8) (lv' := [(0, .inr (.inr 0))]) (st' := [.inl (-1)]) (h' := h1) (cs := []) (by decide +kernel) rfl trivial) ?_
    exact RK.iR (by decide +kernel) rfl hL hK hF
  · refine RK.of (RN.ift (cd := .ne) (off := 5) (tgt := 9) (by decide +kernel) (mif_ne hb)) ?_
    refine RK.of (RN.blk (ops := [(9, .aload_n 0)]) (pc' := 10) (lv' := [(0, .inr (.inr 0))]) (st' := [.inr (.inr 0)]) (h' := h1) (cs := []) (by decide +kernel) rfl trivial) ?_
    obtain ⟨h3, hG, hF⟩ := bv_of hF
    have hq := rcv_ok (as := []) (TO.gk (o_0 hL))
    obtain ⟨hN, hL, hQ⟩ := DX11_startFromNow (d := d + 1) hL  hG
    refine RK.of (RN.cv (i := 195) (k := 154) (q2 := iX11_startFromNow) (as := [.inr (.inr 0)]) (r := []) (v := none) (h1 := h3) (by decide +kernel) rfl rfl rfl rfl rfl hq hN) ?_
    have hK := hK.tr hQ
    refine RK.of (RN.blk (ops := [(13, .aload_n 0)]) (pc' := 14) (lv' := [(0, .inr (.inr 0))]) (st' := [.inr (.inr 0)]) (h' := h3) (cs := []) (by decide +kernel) rfl trivial) ?_
    refine RK.of (RN.gr (i := 72) (ci := 11) (k := 12) (fn := true) (v := 310) (by decide +kernel) rfl (TO.gk (o_0 hL)) (hL.fo (v := 310) 12 7 (o_0 hL) rfl (by decide) rfl).1) ?_
    refine RK.of (RN.blk (ops := [(17, .aload_n 0)]) (pc' := 18) (lv' := [(0, .inr (.inr 0))]) (st' := [.inr (.inr 0), .inr (.inr 310)]) (h' := h3) (cs := []) (by decide +kernel) rfl trivial) ?_
    obtain ⟨x5, h4, hG, hF⟩ := bd_of hF
    have hq := rcv_ok (as := []) (TO.gk (o_0 hL))
    obtain ⟨hN, hL, hQ⟩ := DX11_ruleInForce (d := d + 4) hL  hG
    refine RK.of (RN.cv (i := 198) (k := 151) (q2 := iX11_ruleInForce) (as := [.inr (.inr 0)]) (r := [.inr (.inr 310)]) (v := some (.inr (.inr x5))) (h1 := h4) (by decide +kernel) rfl rfl rfl rfl rfl hq hN) ?_
    have hK := hK.tr hQ
    obtain ⟨x7, h6, hG, hF⟩ := bd_of hF
    have hq := rcv_ok (as := [.inr (.inr x5)]) (TO.gk (o_310 hL))
    obtain ⟨hN, hL, hQ⟩ := DX7_turnOfSorting (d := d) hL  hG
    refine RK.of (RN.cv (i := 308) (k := 73) (q2 := iX7_turnOfSorting) (as := [.inr (.inr 310), .inr (.inr x5)]) (r := []) (v := some (.inl x7)) (h1 := h6) (by decide +kernel) rfl rfl rfl rfl rfl hq hN) ?_
    have hK := hK.tr hQ
    exact RK.iR (by decide +kernel) rfl hL hK hF
noncomputable def GX11_tied (a1 : Int) (h : MH) : Option (Int × MH) :=
  (bd (GX8_hasHole 21 a1 h) (fun x2 h1 =>
   (if x2 = 0 then
    some ((-1), h1)
   else
    (bv (GX11_startFromNow h1) (fun h3 =>
     (bd (GX11_ruleInForce h3) (fun x5 h4 =>
      (bd (GX7_turnOfTying x5 a1 200 h4) (fun x7 h6 =>
       some (x7, h6))))))))))
theorem DX11_tied {d : Nat} {a1 : Int} {h : MH} {r : Int × MH} (hL : LR h) (hF : GX11_tied a1 h = some r) : RN xs L iX11_tied (d + 6) 0 (lvE 0 [.inr (.inr 0), .inl a1]) [] h (RIo r) ∧ LR r.2 ∧ KD h r.2 := by
  unfold GX11_tied at hF
  have hK : KD h h := KD.rf
  show RK xs L iX11_tied (d + 6) 0 (lvE 0 [.inr (.inr 0), .inl a1]) [] h (RIo r) h r.2
  refine RK.of (RN.blk (ops := [(0, .aload_n 0)]) (pc' := 1) (lv' := [(0, .inr (.inr 0)), (1, .inl a1)]) (st' := [.inr (.inr 0)]) (h' := h) (cs := []) (by decide +kernel) rfl trivial) ?_
  refine RK.of (RN.gr (i := 41) (ci := 11) (k := 5) (fn := true) (v := 20) (by decide +kernel) rfl (TO.gk (o_0 hL)) (hL.fo (v := 20) 5 2 (o_0 hL) rfl (by decide) rfl).1) ?_
  refine RK.of (RN.gr (i := 130) (ci := 2) (k := 0) (fn := true) (v := 21) (by decide +kernel) rfl (TO.gk (o_20 hL)) (hL.fo (v := 21) 0 8 (o_20 hL) rfl (by decide) rfl).1) ?_
  refine RK.of (RN.blk (ops := [(7, .iload_n 1)]) (pc' := 8) (lv' := [(0, .inr (.inr 0)), (1, .inl a1)]) (st' := [.inl a1, .inr (.inr 21)]) (h' := h) (cs := []) (by decide +kernel) rfl trivial) ?_
  obtain ⟨x2, h1, hG, hF⟩ := bd_of hF
  have hq := rcv_ok (as := [.inl a1]) (TO.gk (o_21 hL))
  obtain ⟨hN, hL, hQ⟩ := DX8_hasHole (d := d + 5) hL (o_21 hL) hG
  refine RK.of (RN.cv (i := 131) (k := 81) (q2 := iX8_hasHole) (as := [.inr (.inr 21), .inl a1]) (r := []) (v := some (.inl x2)) (h1 := h1) (by decide +kernel) rfl rfl rfl rfl rfl hq hN) ?_
  have hK := hK.tr hQ
  rcases it_of hF with ⟨hb, hF⟩ | ⟨hb, hF⟩
  · refine RK.of (RN.iff (cd := .ne) (off := 5) (tgt := 16) (by decide +kernel) (mif_nen hb)) ?_
    refine RK.of (RN.blk (ops := [(14, .iconst (-1))]) (pc' := 15) (lv' := [(0, .inr (.inr 0)), (1, .inl a1)]) (st' := [.inl (-1)]) (h' := h1) (cs := []) (by decide +kernel) rfl trivial) ?_
    exact RK.iR (by decide +kernel) rfl hL hK hF
  · refine RK.of (RN.ift (cd := .ne) (off := 5) (tgt := 16) (by decide +kernel) (mif_ne hb)) ?_
    refine RK.of (RN.blk (ops := [(16, .aload_n 0)]) (pc' := 17) (lv' := [(0, .inr (.inr 0)), (1, .inl a1)]) (st' := [.inr (.inr 0)]) (h' := h1) (cs := []) (by decide +kernel) rfl trivial) ?_
    obtain ⟨h3, hG, hF⟩ := bv_of hF
    have hq := rcv_ok (as := []) (TO.gk (o_0 hL))
    obtain ⟨hN, hL, hQ⟩ := DX11_startFromNow (d := d + 1) hL  hG
    refine RK.of (RN.cv (i := 195) (k := 154) (q2 := iX11_startFromNow) (as := [.inr (.inr 0)]) (r := []) (v := none) (h1 := h3) (by decide +kernel) rfl rfl rfl rfl rfl hq hN) ?_
    have hK := hK.tr hQ
    refine RK.of (RN.blk (ops := [(20, .aload_n 0)]) (pc' := 21) (lv' := [(0, .inr (.inr 0)), (1, .inl a1)]) (st' := [.inr (.inr 0)]) (h' := h3) (cs := []) (by decide +kernel) rfl trivial) ?_
    refine RK.of (RN.gr (i := 72) (ci := 11) (k := 12) (fn := true) (v := 310) (by decide +kernel) rfl (TO.gk (o_0 hL)) (hL.fo (v := 310) 12 7 (o_0 hL) rfl (by decide) rfl).1) ?_
    refine RK.of (RN.blk (ops := [(24, .aload_n 0)]) (pc' := 25) (lv' := [(0, .inr (.inr 0)), (1, .inl a1)]) (st' := [.inr (.inr 0), .inr (.inr 310)]) (h' := h3) (cs := []) (by decide +kernel) rfl trivial) ?_
    obtain ⟨x5, h4, hG, hF⟩ := bd_of hF
    have hq := rcv_ok (as := []) (TO.gk (o_0 hL))
    obtain ⟨hN, hL, hQ⟩ := DX11_ruleInForce (d := d + 4) hL  hG
    refine RK.of (RN.cv (i := 198) (k := 151) (q2 := iX11_ruleInForce) (as := [.inr (.inr 0)]) (r := [.inr (.inr 310)]) (v := some (.inr (.inr x5))) (h1 := h4) (by decide +kernel) rfl rfl rfl rfl rfl hq hN) ?_
    have hK := hK.tr hQ
    refine RK.of (RN.blk (ops := [(28, .iload_n 1), (29, .sipush 200)]) (pc' := 32) (lv' := [(0, .inr (.inr 0)), (1, .inl a1)]) (st' := [.inl 200, .inl a1, .inr (.inr x5), .inr (.inr 310)]) (h' := h4) (cs := []) (by decide +kernel) rfl trivial) ?_
    obtain ⟨x7, h6, hG, hF⟩ := bd_of hF
    have hq := rcv_ok (as := [.inr (.inr x5), .inl a1, .inl 200]) (TO.gk (o_310 hL))
    obtain ⟨hN, hL, hQ⟩ := DX7_turnOfTying (d := d) hL  hG
    refine RK.of (RN.cv (i := 311) (k := 74) (q2 := iX7_turnOfTying) (as := [.inr (.inr 310), .inr (.inr x5), .inl a1, .inl 200]) (r := []) (v := some (.inl x7)) (h1 := h6) (by decide +kernel) rfl rfl rfl rfl rfl hq hN) ?_
    have hK := hK.tr hQ
    exact RK.iR (by decide +kernel) rfl hL hK hF
noncomputable def GX11_enough_L33 (u1 : Int) (u2 : Int) (K0 : Int → MH → Option (Int × MH)) (K1 : MH → Option (Int × MH)) : Nat → Int → MH → Option (Int × MH)
  | 0, _, _ => none
  | f + 1, v3, h =>
    (if 20 < v3 then
     K1 h
    else
     (bv (GX10_copyFrom 314 32 h) (fun h1 =>
      gd [IB u1 6] (
       (bd (GX11_ruleInForce (m_wr h1 313 u1 v3)) (fun x3 h2 =>
        (bd (GX7_turnOfTying x3 u1 u2 h2) (fun x5 h4 =>
         (if x5 = (-2) then
          K0 v3 h4
         else
          GX11_enough_L33 u1 u2 K0 K1 f (m_w32 (v3 + 1)) h4)))))))))
theorem DX11_enough_L33 {d : Nat} {u1 : Int} {u2 : Int} {K0 : Int → MH → Option (Int × MH)} {K1 : MH → Option (Int × MH)} {r : Int × MH} {h0 hB : MH} (hB0 : KD h0 hB) (hK0 : ∀ (w3 : Int) (h : MH), LR h → KD hB h → K0 w3 h = some r → RK xs L iX11_enough (d + 6) 87 [(3, .inl w3)] [] h (RIo r) h0 r.2) (hK1 : ∀ (h : MH), LR h → KD hB h → K1 h = some r → RK xs L iX11_enough (d + 6) 95 [] [] h (RIo r) h0 r.2) : ∀ (f : Nat) (v3 : Int) (h : MH), LR h → KD hB h → GX11_enough_L33 u1 u2 K0 K1 f v3 h = some r → RK xs L iX11_enough (d + 6) 33 [(0, .inr (.inr 0)), (1, .inl u1), (2, .inl u2), (3, .inl v3)] [] h (RIo r) h0 r.2 := by
  intro f
  induction f with
  | zero =>
    intro v3 h hL hJ hF
    cases hF
  | succ f ih =>
    intro v3 h hL hJ hF
    unfold GX11_enough_L33 at hF
    have hK := hB0.tr hJ
    refine RK.of (RN.blk (ops := [(33, .iload_n 3), (34, .bipush 20)]) (pc' := 36) (lv' := [(0, .inr (.inr 0)), (1, .inl u1), (2, .inl u2), (3, .inl v3)]) (st' := [.inl 20, .inl v3]) (h' := h) (cs := []) (by decide +kernel) rfl trivial) ?_
    rcases it_of hF with ⟨hb, hF⟩ | ⟨hb, hF⟩
    · refine RK.of (RN.ict (cd := .gt) (off := 59) (tgt := 95) (by decide +kernel) (mif_gt hb)) ?_
      exact RK.sub (hK1 _ hL hJ hF) sub_nil
    · refine RK.of (RN.icf (cd := .gt) (off := 59) (tgt := 95) (by decide +kernel) (mif_gtn hb)) ?_
      refine RK.of (RN.blk (ops := [(39, .aload_n 0)]) (pc' := 40) (lv' := [(0, .inr (.inr 0)), (1, .inl u1), (2, .inl u2), (3, .inl v3)]) (st' := [.inr (.inr 0)]) (h' := h) (cs := []) (by decide +kernel) rfl trivial) ?_
      refine RK.of (RN.gr (i := 72) (ci := 11) (k := 12) (fn := true) (v := 310) (by decide +kernel) rfl (TO.gk (o_0 hL)) (hL.fo (v := 310) 12 7 (o_0 hL) rfl (by decide) rfl).1) ?_
      refine RK.of (RN.gr (i := 209) (ci := 7) (k := 1) (fn := true) (v := 314) (by decide +kernel) rfl (TO.gk (o_310 hL)) (hL.fo (v := 314) 1 10 (o_310 hL) rfl (by decide) rfl).1) ?_
      refine RK.of (RN.blk (ops := [(46, .aload_n 0)]) (pc' := 47) (lv' := [(0, .inr (.inr 0)), (1, .inl u1), (2, .inl u2), (3, .inl v3)]) (st' := [.inr (.inr 0), .inr (.inr 314)]) (h' := h) (cs := []) (by decide +kernel) rfl trivial) ?_
      refine RK.of (RN.gr (i := 41) (ci := 11) (k := 5) (fn := true) (v := 20) (by decide +kernel) rfl (TO.gk (o_0 hL)) (hL.fo (v := 20) 5 2 (o_0 hL) rfl (by decide) rfl).1) ?_
      refine RK.of (RN.gr (i := 110) (ci := 2) (k := 2) (fn := true) (v := 32) (by decide +kernel) rfl (TO.gk (o_20 hL)) (hL.fo (v := 32) 2 10 (o_20 hL) rfl (by decide) rfl).1) ?_
      obtain ⟨h1, hG, hF⟩ := bv_of hF
      have hq := rcv_ok (as := [.inr (.inr 32)]) (TO.gk (o_314 hL))
      obtain ⟨hN, hL, hQ⟩ := DX10_copyFrom (d := d + 3) hL (o_314 hL) (o_32 hL) hG
      refine RK.of (RN.cv (i := 212) (k := 101) (q2 := iX10_copyFrom) (as := [.inr (.inr 314), .inr (.inr 32)]) (r := []) (v := none) (h1 := h1) (by decide +kernel) rfl rfl rfl rfl rfl hq hN) ?_
      have hK := hK.tr hQ
      have hJ := hJ.tr hQ
      refine RK.of (RN.blk (ops := [(56, .aload_n 0)]) (pc' := 57) (lv' := [(0, .inr (.inr 0)), (1, .inl u1), (2, .inl u2), (3, .inl v3)]) (st' := [.inr (.inr 0)]) (h' := h1) (cs := []) (by decide +kernel) rfl trivial) ?_
      refine RK.of (RN.gr (i := 72) (ci := 11) (k := 12) (fn := true) (v := 310) (by decide +kernel) rfl (TO.gk (o_0 hL)) (hL.fo (v := 310) 12 7 (o_0 hL) rfl (by decide) rfl).1) ?_
      refine RK.of (RN.gr (i := 315) (ci := 7) (k := 0) (fn := true) (v := 311) (by decide +kernel) rfl (TO.gk (o_310 hL)) (hL.fo (v := 311) 0 8 (o_310 hL) rfl (by decide) rfl).1) ?_
      refine RK.of (RN.gr (i := 137) (ci := 8) (k := 5) (fn := true) (v := 313) (by decide +kernel) rfl (TO.gk (o_311 hL)) (hL.fa (v := 313) 5 1 6 (o_311 hL) rfl (by decide) rfl (by decide)).1) ?_
      obtain ⟨hc, hF⟩ := gd_of hF
      refine RK.of (RN.blk (ops := [(66, .iload_n 1), (67, .iload_n 3), (68, .iastore)]) (pc' := 69) (lv' := [(0, .inr (.inr 0)), (1, .inl u1), (2, .inl u2), (3, .inl v3)]) (st' := []) (h' := (m_wr h1 313 u1 v3)) (cs := [GI h1 313 1 u1]) (by decide +kernel) rfl ⟨(a_313 hL).gi hc.1.1 hc.1.2, trivial⟩) ?_
      have hL : LR (m_wr h1 313 u1 v3) := hL.wa (TA.le5 (a_313 hL) (by decide))
      have hK := hK.tr (KD.wr : KD h1 (m_wr h1 313 u1 v3))
      have hJ := hJ.tr (KD.wr : KD h1 (m_wr h1 313 u1 v3))
      refine RK.of (RN.blk (ops := [(69, .aload_n 0)]) (pc' := 70) (lv' := [(0, .inr (.inr 0)), (1, .inl u1), (2, .inl u2), (3, .inl v3)]) (st' := [.inr (.inr 0)]) (h' := (m_wr h1 313 u1 v3)) (cs := []) (by decide +kernel) rfl trivial) ?_
      refine RK.of (RN.gr (i := 72) (ci := 11) (k := 12) (fn := true) (v := 310) (by decide +kernel) rfl (TO.gk (o_0 hL)) (hL.fo (v := 310) 12 7 (o_0 hL) rfl (by decide) rfl).1) ?_
      refine RK.of (RN.blk (ops := [(73, .aload_n 0)]) (pc' := 74) (lv' := [(0, .inr (.inr 0)), (1, .inl u1), (2, .inl u2), (3, .inl v3)]) (st' := [.inr (.inr 0), .inr (.inr 310)]) (h' := (m_wr h1 313 u1 v3)) (cs := []) (by decide +kernel) rfl trivial) ?_
      obtain ⟨x3, h2, hG, hF⟩ := bd_of hF
      have hq := rcv_ok (as := []) (TO.gk (o_0 hL))
      obtain ⟨hN, hL, hQ⟩ := DX11_ruleInForce (d := d + 4) hL  hG
      refine RK.of (RN.cv (i := 198) (k := 151) (q2 := iX11_ruleInForce) (as := [.inr (.inr 0)]) (r := [.inr (.inr 310)]) (v := some (.inr (.inr x3))) (h1 := h2) (by decide +kernel) rfl rfl rfl rfl rfl hq hN) ?_
      have hK := hK.tr hQ
      have hJ := hJ.tr hQ
      refine RK.of (RN.blk (ops := [(77, .iload_n 1), (78, .iload_n 2)]) (pc' := 79) (lv' := [(0, .inr (.inr 0)), (1, .inl u1), (2, .inl u2), (3, .inl v3)]) (st' := [.inl u2, .inl u1, .inr (.inr x3), .inr (.inr 310)]) (h' := h2) (cs := []) (by decide +kernel) rfl trivial) ?_
      obtain ⟨x5, h4, hG, hF⟩ := bd_of hF
      have hq := rcv_ok (as := [.inr (.inr x3), .inl u1, .inl u2]) (TO.gk (o_310 hL))
      obtain ⟨hN, hL, hQ⟩ := DX7_turnOfTying (d := d) hL  hG
      refine RK.of (RN.cv (i := 311) (k := 74) (q2 := iX7_turnOfTying) (as := [.inr (.inr 310), .inr (.inr x3), .inl u1, .inl u2]) (r := []) (v := some (.inl x5)) (h1 := h4) (by decide +kernel) rfl rfl rfl rfl rfl hq hN) ?_
      have hK := hK.tr hQ
      have hJ := hJ.tr hQ
      refine RK.of (RN.blk (ops := [(82, .bipush (-2))]) (pc' := 84) (lv' := [(0, .inr (.inr 0)), (1, .inl u1), (2, .inl u2), (3, .inl v3)]) (st' := [.inl (-2), .inl x5]) (h' := h4) (cs := []) (by decide +kernel) rfl trivial) ?_
      rcases it_of hF with ⟨hb, hF⟩ | ⟨hb, hF⟩
      · refine RK.of (RN.icf (cd := .ne) (off := 5) (tgt := 89) (by decide +kernel) (mif_nen hb)) ?_
        exact RK.sub (hK0 _ _ hL hJ hF) (sub_cons rfl sub_nil)
      · refine RK.of (RN.ict (cd := .ne) (off := 5) (tgt := 89) (by decide +kernel) (mif_ne hb)) ?_
        refine RK.of (RN.blk (ops := [(89, .iinc 3 1)]) (pc' := 92) (lv' := [(3, .inl (m_w32 (v3 + 1))), (0, .inr (.inr 0)), (1, .inl u1), (2, .inl u2)]) (st' := []) (h' := h4) (cs := []) (by decide +kernel) rfl trivial) ?_
        refine RK.of (RN.goto (off := -59) (tgt := 33) (by decide +kernel)) ?_
        exact RK.sub (ih _ _ hL hJ hF) (sub_cons rfl (sub_cons rfl (sub_cons rfl (sub_cons rfl sub_nil))))
noncomputable def GX11_enough (a1 : Int) (a2 : Int) (h : MH) : Option (Int × MH) :=
  (bd (GX8_hasHole 21 a1 h) (fun x2 h1 =>
   (if x2 = 0 then
    some ((-1), h1)
   else
    (if a2 < 1 then
     some ((-1), h1)
    else
     (if 40 < a2 then
      some ((-1), h1)
     else
      (bv (GX11_startFromNow h1) (fun h3 =>
       GX11_enough_L33 a1 a2 (fun w4 h5 =>
        some (w4, h5)) (fun h6 =>
        some ((-2), h6)) FU 1 h3)))))))
theorem DX11_enough {d : Nat} {a1 : Int} {a2 : Int} {h : MH} {r : Int × MH} (hL : LR h) (hF : GX11_enough a1 a2 h = some r) : RN xs L iX11_enough (d + 6) 0 (lvE 0 [.inr (.inr 0), .inl a1, .inl a2]) [] h (RIo r) ∧ LR r.2 ∧ KD h r.2 := by
  unfold GX11_enough at hF
  have hK : KD h h := KD.rf
  show RK xs L iX11_enough (d + 6) 0 (lvE 0 [.inr (.inr 0), .inl a1, .inl a2]) [] h (RIo r) h r.2
  refine RK.of (RN.blk (ops := [(0, .aload_n 0)]) (pc' := 1) (lv' := [(0, .inr (.inr 0)), (1, .inl a1), (2, .inl a2)]) (st' := [.inr (.inr 0)]) (h' := h) (cs := []) (by decide +kernel) rfl trivial) ?_
  refine RK.of (RN.gr (i := 41) (ci := 11) (k := 5) (fn := true) (v := 20) (by decide +kernel) rfl (TO.gk (o_0 hL)) (hL.fo (v := 20) 5 2 (o_0 hL) rfl (by decide) rfl).1) ?_
  refine RK.of (RN.gr (i := 130) (ci := 2) (k := 0) (fn := true) (v := 21) (by decide +kernel) rfl (TO.gk (o_20 hL)) (hL.fo (v := 21) 0 8 (o_20 hL) rfl (by decide) rfl).1) ?_
  refine RK.of (RN.blk (ops := [(7, .iload_n 1)]) (pc' := 8) (lv' := [(0, .inr (.inr 0)), (1, .inl a1), (2, .inl a2)]) (st' := [.inl a1, .inr (.inr 21)]) (h' := h) (cs := []) (by decide +kernel) rfl trivial) ?_
  obtain ⟨x2, h1, hG, hF⟩ := bd_of hF
  have hq := rcv_ok (as := [.inl a1]) (TO.gk (o_21 hL))
  obtain ⟨hN, hL, hQ⟩ := DX8_hasHole (d := d + 5) hL (o_21 hL) hG
  refine RK.of (RN.cv (i := 131) (k := 81) (q2 := iX8_hasHole) (as := [.inr (.inr 21), .inl a1]) (r := []) (v := some (.inl x2)) (h1 := h1) (by decide +kernel) rfl rfl rfl rfl rfl hq hN) ?_
  have hK := hK.tr hQ
  rcases it_of hF with ⟨hb, hF⟩ | ⟨hb, hF⟩
  · refine RK.of (RN.ift (cd := .eq) (off := 14) (tgt := 25) (by decide +kernel) (mif_eq hb)) ?_
    refine RK.of (RN.blk (ops := [(25, .iconst (-1))]) (pc' := 26) (lv' := [(0, .inr (.inr 0)), (1, .inl a1), (2, .inl a2)]) (st' := [.inl (-1)]) (h' := h1) (cs := []) (by decide +kernel) rfl trivial) ?_
    exact RK.iR (by decide +kernel) rfl hL hK hF
  · refine RK.of (RN.iff (cd := .eq) (off := 14) (tgt := 25) (by decide +kernel) (mif_eqn hb)) ?_
    refine RK.of (RN.blk (ops := [(14, .iload_n 2), (15, .iconst 1)]) (pc' := 16) (lv' := [(0, .inr (.inr 0)), (1, .inl a1), (2, .inl a2)]) (st' := [.inl 1, .inl a2]) (h' := h1) (cs := []) (by decide +kernel) rfl trivial) ?_
    rcases it_of hF with ⟨hb, hF⟩ | ⟨hb, hF⟩
    · refine RK.of (RN.ict (cd := .lt) (off := 9) (tgt := 25) (by decide +kernel) (mif_lt hb)) ?_
      refine RK.of (RN.blk (ops := [(25, .iconst (-1))]) (pc' := 26) (lv' := [(0, .inr (.inr 0)), (1, .inl a1), (2, .inl a2)]) (st' := [.inl (-1)]) (h' := h1) (cs := []) (by decide +kernel) rfl trivial) ?_
      exact RK.iR (by decide +kernel) rfl hL hK hF
    · refine RK.of (RN.icf (cd := .lt) (off := 9) (tgt := 25) (by decide +kernel) (mif_ltn hb)) ?_
      refine RK.of (RN.blk (ops := [(19, .iload_n 2), (20, .bipush 40)]) (pc' := 22) (lv' := [(0, .inr (.inr 0)), (1, .inl a1), (2, .inl a2)]) (st' := [.inl 40, .inl a2]) (h' := h1) (cs := []) (by decide +kernel) rfl trivial) ?_
      rcases it_of hF with ⟨hb, hF⟩ | ⟨hb, hF⟩
      · refine RK.of (RN.icf (cd := .le) (off := 5) (tgt := 27) (by decide +kernel) (mif_len hb)) ?_
        refine RK.of (RN.blk (ops := [(25, .iconst (-1))]) (pc' := 26) (lv' := [(0, .inr (.inr 0)), (1, .inl a1), (2, .inl a2)]) (st' := [.inl (-1)]) (h' := h1) (cs := []) (by decide +kernel) rfl trivial) ?_
        exact RK.iR (by decide +kernel) rfl hL hK hF
      · refine RK.of (RN.ict (cd := .le) (off := 5) (tgt := 27) (by decide +kernel) (mif_le hb)) ?_
        refine RK.of (RN.blk (ops := [(27, .aload_n 0)]) (pc' := 28) (lv' := [(0, .inr (.inr 0)), (1, .inl a1), (2, .inl a2)]) (st' := [.inr (.inr 0)]) (h' := h1) (cs := []) (by decide +kernel) rfl trivial) ?_
        obtain ⟨h3, hG, hF⟩ := bv_of hF
        have hq := rcv_ok (as := []) (TO.gk (o_0 hL))
        obtain ⟨hN, hL, hQ⟩ := DX11_startFromNow (d := d + 1) hL  hG
        refine RK.of (RN.cv (i := 195) (k := 154) (q2 := iX11_startFromNow) (as := [.inr (.inr 0)]) (r := []) (v := none) (h1 := h3) (by decide +kernel) rfl rfl rfl rfl rfl hq hN) ?_
        have hK := hK.tr hQ
        refine RK.of (RN.blk (ops := [(31, .iconst 1), (32, .istore_n 3)]) (pc' := 33) (lv' := [(3, .inl 1), (0, .inr (.inr 0)), (1, .inl a1), (2, .inl a2)]) (st' := []) (h' := h3) (cs := []) (by decide +kernel) rfl trivial) ?_
        refine RK.sub (DX11_enough_L33 hK ?_ ?_ _ _ _ hL KD.rf hF) (sub_cons rfl (sub_cons rfl (sub_cons rfl (sub_cons rfl sub_nil))))
        · intro w4 h5 hL hq hF
          have hK := hK.tr hq
          refine RK.of (RN.blk (ops := [(87, .iload_n 3)]) (pc' := 88) (lv' := [(3, .inl w4)]) (st' := [.inl w4]) (h' := h5) (cs := []) (by decide +kernel) rfl trivial) ?_
          exact RK.iR (by decide +kernel) rfl hL hK hF
        · intro h6 hL hq hF
          have hK := hK.tr hq
          refine RK.of (RN.blk (ops := [(95, .bipush (-2))]) (pc' := 97) (lv' := []) (st' := [.inl (-2)]) (h' := h6) (cs := []) (by decide +kernel) rfl trivial) ?_
          exact RK.iR (by decide +kernel) rfl hL hK hF
noncomputable def GX11_said_L59 (u1 : Int) (u2 : Int) (K0 : Int → Int → MH → Option (Int × MH)) : Nat → Int → Int → Int → MH → Option (Int × MH)
  | 0, _, _, _, _ => none
  | f + 1, v3, v4, v5, h =>
    (if v5 < (m_rd h 21 3) then
     (bv (GX10_copyFrom 314 24 h) (fun h1 =>
      gd [IB u1 20] (
       (bd (GX11_ruleInForce (m_wr h1 319 u1 v5)) (fun x3 h2 =>
        (bd (GX7_agrees 20 x3 h2) (fun x5 h4 =>
         (if x5 = 0 then
          GX11_said_L59 u1 u2 K0 f v3 v4 (m_w32 (v5 + 1)) h4
         else
          (if v4 = (-2) then
           GX11_said_L59 u1 u2 K0 f (m_w32 (v3 + 1)) v5 (m_w32 (v5 + 1)) h4
          else
           GX11_said_L59 u1 u2 K0 f (m_w32 (v3 + 1)) v4 (m_w32 (v5 + 1)) h4)))))))))
    else
     K0 v3 v4 h)
theorem DX11_said_L59 {d : Nat} {u1 : Int} {u2 : Int} {K0 : Int → Int → MH → Option (Int × MH)} {r : Int × MH} {h0 hB : MH} (hB0 : KD h0 hB) (hK0 : ∀ (w3 : Int) (w4 : Int) (h : MH), LR h → KD hB h → K0 w3 w4 h = some r → RK xs L iX11_said (d + 6) 143 [(2, .inl u2), (3, .inl w3), (4, .inl w4)] [] h (RIo r) h0 r.2) : ∀ (f : Nat) (v3 : Int) (v4 : Int) (v5 : Int) (h : MH), LR h → KD hB h → GX11_said_L59 u1 u2 K0 f v3 v4 v5 h = some r → RK xs L iX11_said (d + 6) 59 [(0, .inr (.inr 0)), (1, .inl u1), (2, .inl u2), (3, .inl v3), (4, .inl v4), (5, .inl v5)] [] h (RIo r) h0 r.2 := by
  intro f
  induction f with
  | zero =>
    intro v3 v4 v5 h hL hJ hF
    cases hF
  | succ f ih =>
    intro v3 v4 v5 h hL hJ hF
    unfold GX11_said_L59 at hF
    have hK := hB0.tr hJ
    refine RK.of (RN.blk (ops := [(59, .iload 5), (61, .aload_n 0)]) (pc' := 62) (lv' := [(0, .inr (.inr 0)), (1, .inl u1), (2, .inl u2), (3, .inl v3), (4, .inl v4), (5, .inl v5)]) (st' := [.inr (.inr 0), .inl v5]) (h' := h) (cs := []) (by decide +kernel) rfl trivial) ?_
    refine RK.of (RN.gr (i := 41) (ci := 11) (k := 5) (fn := true) (v := 20) (by decide +kernel) rfl (TO.gk (o_0 hL)) (hL.fo (v := 20) 5 2 (o_0 hL) rfl (by decide) rfl).1) ?_
    refine RK.of (RN.gr (i := 130) (ci := 2) (k := 0) (fn := true) (v := 21) (by decide +kernel) rfl (TO.gk (o_20 hL)) (hL.fo (v := 21) 0 8 (o_20 hL) rfl (by decide) rfl).1) ?_
    refine RK.of (RN.blk (ops := [(68, .getfield 320)]) (pc' := 71) (lv' := [(0, .inr (.inr 0)), (1, .inl u1), (2, .inl u2), (3, .inl v3), (4, .inl v4), (5, .inl v5)]) (st' := [.inl (m_rd h 21 3), .inl v5]) (h' := h) (cs := [GK h 21 8]) (by decide +kernel) rfl ⟨(o_21 hL).gk, trivial⟩) ?_
    rcases it_of hF with ⟨hb, hF⟩ | ⟨hb, hF⟩
    · refine RK.of (RN.icf (cd := .ge) (off := 72) (tgt := 143) (by decide +kernel) (mif_gen hb)) ?_
      refine RK.of (RN.blk (ops := [(74, .aload_n 0)]) (pc' := 75) (lv' := [(0, .inr (.inr 0)), (1, .inl u1), (2, .inl u2), (3, .inl v3), (4, .inl v4), (5, .inl v5)]) (st' := [.inr (.inr 0)]) (h' := h) (cs := []) (by decide +kernel) rfl trivial) ?_
      refine RK.of (RN.gr (i := 72) (ci := 11) (k := 12) (fn := true) (v := 310) (by decide +kernel) rfl (TO.gk (o_0 hL)) (hL.fo (v := 310) 12 7 (o_0 hL) rfl (by decide) rfl).1) ?_
      refine RK.of (RN.gr (i := 209) (ci := 7) (k := 1) (fn := true) (v := 314) (by decide +kernel) rfl (TO.gk (o_310 hL)) (hL.fo (v := 314) 1 10 (o_310 hL) rfl (by decide) rfl).1) ?_
      refine RK.of (RN.blk (ops := [(81, .aload_n 0)]) (pc' := 82) (lv' := [(0, .inr (.inr 0)), (1, .inl u1), (2, .inl u2), (3, .inl v3), (4, .inl v4), (5, .inl v5)]) (st' := [.inr (.inr 0), .inr (.inr 314)]) (h' := h) (cs := []) (by decide +kernel) rfl trivial) ?_
      refine RK.of (RN.gr (i := 41) (ci := 11) (k := 5) (fn := true) (v := 20) (by decide +kernel) rfl (TO.gk (o_0 hL)) (hL.fo (v := 20) 5 2 (o_0 hL) rfl (by decide) rfl).1) ?_
      refine RK.of (RN.gr (i := 316) (ci := 2) (k := 1) (fn := true) (v := 24) (by decide +kernel) rfl (TO.gk (o_20 hL)) (hL.fo (v := 24) 1 10 (o_20 hL) rfl (by decide) rfl).1) ?_
      obtain ⟨h1, hG, hF⟩ := bv_of hF
      have hq := rcv_ok (as := [.inr (.inr 24)]) (TO.gk (o_314 hL))
      obtain ⟨hN, hL, hQ⟩ := DX10_copyFrom (d := d + 3) hL (o_314 hL) (o_24 hL) hG
      refine RK.of (RN.cv (i := 212) (k := 101) (q2 := iX10_copyFrom) (as := [.inr (.inr 314), .inr (.inr 24)]) (r := []) (v := none) (h1 := h1) (by decide +kernel) rfl rfl rfl rfl rfl hq hN) ?_
      have hK := hK.tr hQ
      have hJ := hJ.tr hQ
      refine RK.of (RN.blk (ops := [(91, .aload_n 0)]) (pc' := 92) (lv' := [(0, .inr (.inr 0)), (1, .inl u1), (2, .inl u2), (3, .inl v3), (4, .inl v4), (5, .inl v5)]) (st' := [.inr (.inr 0)]) (h' := h1) (cs := []) (by decide +kernel) rfl trivial) ?_
      refine RK.of (RN.gr (i := 72) (ci := 11) (k := 12) (fn := true) (v := 310) (by decide +kernel) rfl (TO.gk (o_0 hL)) (hL.fo (v := 310) 12 7 (o_0 hL) rfl (by decide) rfl).1) ?_
      refine RK.of (RN.gr (i := 209) (ci := 7) (k := 1) (fn := true) (v := 314) (by decide +kernel) rfl (TO.gk (o_310 hL)) (hL.fo (v := 314) 1 10 (o_310 hL) rfl (by decide) rfl).1) ?_
      refine RK.of (RN.gr (i := 162) (ci := 10) (k := 2) (fn := true) (v := 319) (by decide +kernel) rfl (TO.gk (o_314 hL)) (hL.fa (v := 319) 2 1 20 (o_314 hL) rfl (by decide) rfl (by decide)).1) ?_
      obtain ⟨hc, hF⟩ := gd_of hF
      refine RK.of (RN.blk (ops := [(101, .iload_n 1), (102, .iload 5), (104, .iastore)]) (pc' := 105) (lv' := [(0, .inr (.inr 0)), (1, .inl u1), (2, .inl u2), (3, .inl v3), (4, .inl v4), (5, .inl v5)]) (st' := []) (h' := (m_wr h1 319 u1 v5)) (cs := [GI h1 319 1 u1]) (by decide +kernel) rfl ⟨(a_319 hL).gi hc.1.1 hc.1.2, trivial⟩) ?_
      have hL : LR (m_wr h1 319 u1 v5) := hL.wa (TA.le5 (a_319 hL) (by decide))
      have hK := hK.tr (KD.wr : KD h1 (m_wr h1 319 u1 v5))
      have hJ := hJ.tr (KD.wr : KD h1 (m_wr h1 319 u1 v5))
      refine RK.of (RN.blk (ops := [(105, .aload_n 0)]) (pc' := 106) (lv' := [(0, .inr (.inr 0)), (1, .inl u1), (2, .inl u2), (3, .inl v3), (4, .inl v4), (5, .inl v5)]) (st' := [.inr (.inr 0)]) (h' := (m_wr h1 319 u1 v5)) (cs := []) (by decide +kernel) rfl trivial) ?_
      refine RK.of (RN.gr (i := 72) (ci := 11) (k := 12) (fn := true) (v := 310) (by decide +kernel) rfl (TO.gk (o_0 hL)) (hL.fo (v := 310) 12 7 (o_0 hL) rfl (by decide) rfl).1) ?_
      refine RK.of (RN.blk (ops := [(109, .aload_n 0)]) (pc' := 110) (lv' := [(0, .inr (.inr 0)), (1, .inl u1), (2, .inl u2), (3, .inl v3), (4, .inl v4), (5, .inl v5)]) (st' := [.inr (.inr 0), .inr (.inr 310)]) (h' := (m_wr h1 319 u1 v5)) (cs := []) (by decide +kernel) rfl trivial) ?_
      refine RK.of (RN.gr (i := 41) (ci := 11) (k := 5) (fn := true) (v := 20) (by decide +kernel) rfl (TO.gk (o_0 hL)) (hL.fo (v := 20) 5 2 (o_0 hL) rfl (by decide) rfl).1) ?_
      refine RK.of (RN.blk (ops := [(113, .aload_n 0)]) (pc' := 114) (lv' := [(0, .inr (.inr 0)), (1, .inl u1), (2, .inl u2), (3, .inl v3), (4, .inl v4), (5, .inl v5)]) (st' := [.inr (.inr 0), .inr (.inr 20), .inr (.inr 310)]) (h' := (m_wr h1 319 u1 v5)) (cs := []) (by decide +kernel) rfl trivial) ?_
      obtain ⟨x3, h2, hG, hF⟩ := bd_of hF
      have hq := rcv_ok (as := []) (TO.gk (o_0 hL))
      obtain ⟨hN, hL, hQ⟩ := DX11_ruleInForce (d := d + 4) hL  hG
      refine RK.of (RN.cv (i := 198) (k := 151) (q2 := iX11_ruleInForce) (as := [.inr (.inr 0)]) (r := [.inr (.inr 20), .inr (.inr 310)]) (v := some (.inr (.inr x3))) (h1 := h2) (by decide +kernel) rfl rfl rfl rfl rfl hq hN) ?_
      have hK := hK.tr hQ
      have hJ := hJ.tr hQ
      obtain ⟨x5, h4, hG, hF⟩ := bd_of hF
      have hq := rcv_ok (as := [.inr (.inr 20), .inr (.inr x3)]) (TO.gk (o_310 hL))
      obtain ⟨hN, hL, hQ⟩ := DX7_agrees (d := d) hL (o_20 hL) hG
      refine RK.of (RN.cv (i := 323) (k := 75) (q2 := iX7_agrees) (as := [.inr (.inr 310), .inr (.inr 20), .inr (.inr x3)]) (r := []) (v := some (.inl x5)) (h1 := h4) (by decide +kernel) rfl rfl rfl rfl rfl hq hN) ?_
      have hK := hK.tr hQ
      have hJ := hJ.tr hQ
      rcases it_of hF with ⟨hb, hF⟩ | ⟨hb, hF⟩
      · refine RK.of (RN.ift (cd := .eq) (off := 17) (tgt := 137) (by decide +kernel) (mif_eq hb)) ?_
        refine RK.of (RN.blk (ops := [(137, .iinc 5 1)]) (pc' := 140) (lv' := [(5, .inl (m_w32 (v5 + 1))), (0, .inr (.inr 0)), (1, .inl u1), (2, .inl u2), (3, .inl v3), (4, .inl v4)]) (st' := []) (h' := h4) (cs := []) (by decide +kernel) rfl trivial) ?_
        refine RK.of (RN.goto (off := -81) (tgt := 59) (by decide +kernel)) ?_
        exact RK.sub (ih _ _ _ _ hL hJ hF) (sub_cons rfl (sub_cons rfl (sub_cons rfl (sub_cons rfl (sub_cons rfl (sub_cons rfl sub_nil))))))
      · refine RK.of (RN.iff (cd := .eq) (off := 17) (tgt := 137) (by decide +kernel) (mif_eqn hb)) ?_
        refine RK.of (RN.blk (ops := [(123, .iinc 3 1), (126, .iload 4), (128, .bipush (-2))]) (pc' := 130) (lv' := [(3, .inl (m_w32 (v3 + 1))), (0, .inr (.inr 0)), (1, .inl u1), (2, .inl u2), (4, .inl v4), (5, .inl v5)]) (st' := [.inl (-2), .inl v4]) (h' := h4) (cs := []) (by decide +kernel) rfl trivial) ?_
        rcases it_of hF with ⟨hb, hF⟩ | ⟨hb, hF⟩
        · refine RK.of (RN.icf (cd := .ne) (off := 7) (tgt := 137) (by decide +kernel) (mif_nen hb)) ?_
          refine RK.of (RN.blk (ops := [(133, .iload 5), (135, .istore 4)]) (pc' := 137) (lv' := [(4, .inl v5), (3, .inl (m_w32 (v3 + 1))), (0, .inr (.inr 0)), (1, .inl u1), (2, .inl u2), (5, .inl v5)]) (st' := []) (h' := h4) (cs := []) (by decide +kernel) rfl trivial) ?_
          refine RK.of (RN.blk (ops := [(137, .iinc 5 1)]) (pc' := 140) (lv' := [(5, .inl (m_w32 (v5 + 1))), (4, .inl v5), (3, .inl (m_w32 (v3 + 1))), (0, .inr (.inr 0)), (1, .inl u1), (2, .inl u2)]) (st' := []) (h' := h4) (cs := []) (by decide +kernel) rfl trivial) ?_
          refine RK.of (RN.goto (off := -81) (tgt := 59) (by decide +kernel)) ?_
          exact RK.sub (ih _ _ _ _ hL hJ hF) (sub_cons rfl (sub_cons rfl (sub_cons rfl (sub_cons rfl (sub_cons rfl (sub_cons rfl sub_nil))))))
        · refine RK.of (RN.ict (cd := .ne) (off := 7) (tgt := 137) (by decide +kernel) (mif_ne hb)) ?_
          refine RK.of (RN.blk (ops := [(137, .iinc 5 1)]) (pc' := 140) (lv' := [(5, .inl (m_w32 (v5 + 1))), (3, .inl (m_w32 (v3 + 1))), (0, .inr (.inr 0)), (1, .inl u1), (2, .inl u2), (4, .inl v4)]) (st' := []) (h' := h4) (cs := []) (by decide +kernel) rfl trivial) ?_
          refine RK.of (RN.goto (off := -81) (tgt := 59) (by decide +kernel)) ?_
          exact RK.sub (ih _ _ _ _ hL hJ hF) (sub_cons rfl (sub_cons rfl (sub_cons rfl (sub_cons rfl (sub_cons rfl (sub_cons rfl sub_nil))))))
    · refine RK.of (RN.ict (cd := .ge) (off := 72) (tgt := 143) (by decide +kernel) (mif_ge hb)) ?_
      exact RK.sub (hK0 _ _ _ hL hJ hF) (sub_cons rfl (sub_cons rfl (sub_cons rfl sub_nil)))
noncomputable def GX11_said (a1 : Int) (a2 : Int) (h : MH) : Option (Int × MH) :=
  (if a1 < 0 then
   some ((-1), h)
  else
   (if a1 < (m_rd h 24 1) then
    (if a2 < 0 then
     some ((-1), h)
    else
     (if 1 < a2 then
      some ((-1), h)
     else
      (bv (GX7_start 21 24 h) (fun h1 =>
       GX11_said_L59 a1 a2 (fun w2 w3 h4 =>
        (if a2 = 0 then
         some (w2, h4)
        else
         some (w3, h4))) FU 0 (-2) 0 h1))))
   else
    some ((-1), h)))
theorem DX11_said {d : Nat} {a1 : Int} {a2 : Int} {h : MH} {r : Int × MH} (hL : LR h) (hF : GX11_said a1 a2 h = some r) : RN xs L iX11_said (d + 6) 0 (lvE 0 [.inr (.inr 0), .inl a1, .inl a2]) [] h (RIo r) ∧ LR r.2 ∧ KD h r.2 := by
  unfold GX11_said at hF
  have hK : KD h h := KD.rf
  show RK xs L iX11_said (d + 6) 0 (lvE 0 [.inr (.inr 0), .inl a1, .inl a2]) [] h (RIo r) h r.2
  refine RK.of (RN.blk (ops := [(0, .iload_n 1)]) (pc' := 1) (lv' := [(0, .inr (.inr 0)), (1, .inl a1), (2, .inl a2)]) (st' := [.inl a1]) (h' := h) (cs := []) (by decide +kernel) rfl trivial) ?_
  rcases it_of hF with ⟨hb, hF⟩ | ⟨hb, hF⟩
  · refine RK.of (RN.ift (cd := .lt) (off := 26) (tgt := 27) (by decide +kernel) (mif_lt hb)) ?_
    refine RK.of (RN.blk (ops := [(27, .iconst (-1))]) (pc' := 28) (lv' := [(0, .inr (.inr 0)), (1, .inl a1), (2, .inl a2)]) (st' := [.inl (-1)]) (h' := h) (cs := []) (by decide +kernel) rfl trivial) ?_
    exact RK.iR (by decide +kernel) rfl hL hK hF
  · refine RK.of (RN.iff (cd := .lt) (off := 26) (tgt := 27) (by decide +kernel) (mif_ltn hb)) ?_
    refine RK.of (RN.blk (ops := [(4, .iload_n 1), (5, .aload_n 0)]) (pc' := 6) (lv' := [(0, .inr (.inr 0)), (1, .inl a1), (2, .inl a2)]) (st' := [.inr (.inr 0), .inl a1]) (h' := h) (cs := []) (by decide +kernel) rfl trivial) ?_
    refine RK.of (RN.gr (i := 41) (ci := 11) (k := 5) (fn := true) (v := 20) (by decide +kernel) rfl (TO.gk (o_0 hL)) (hL.fo (v := 20) 5 2 (o_0 hL) rfl (by decide) rfl).1) ?_
    refine RK.of (RN.gr (i := 316) (ci := 2) (k := 1) (fn := true) (v := 24) (by decide +kernel) rfl (TO.gk (o_20 hL)) (hL.fo (v := 24) 1 10 (o_20 hL) rfl (by decide) rfl).1) ?_
    refine RK.of (RN.blk (ops := [(12, .getfield 159)]) (pc' := 15) (lv' := [(0, .inr (.inr 0)), (1, .inl a1), (2, .inl a2)]) (st' := [.inl (m_rd h 24 1), .inl a1]) (h' := h) (cs := [GK h 24 10]) (by decide +kernel) rfl ⟨(o_24 hL).gk, trivial⟩) ?_
    rcases it_of hF with ⟨hb, hF⟩ | ⟨hb, hF⟩
    · refine RK.of (RN.icf (cd := .ge) (off := 12) (tgt := 27) (by decide +kernel) (mif_gen hb)) ?_
      refine RK.of (RN.blk (ops := [(18, .iload_n 2)]) (pc' := 19) (lv' := [(0, .inr (.inr 0)), (1, .inl a1), (2, .inl a2)]) (st' := [.inl a2]) (h' := h) (cs := []) (by decide +kernel) rfl trivial) ?_
      rcases it_of hF with ⟨hb, hF⟩ | ⟨hb, hF⟩
      · refine RK.of (RN.ift (cd := .lt) (off := 8) (tgt := 27) (by decide +kernel) (mif_lt hb)) ?_
        refine RK.of (RN.blk (ops := [(27, .iconst (-1))]) (pc' := 28) (lv' := [(0, .inr (.inr 0)), (1, .inl a1), (2, .inl a2)]) (st' := [.inl (-1)]) (h' := h) (cs := []) (by decide +kernel) rfl trivial) ?_
        exact RK.iR (by decide +kernel) rfl hL hK hF
      · refine RK.of (RN.iff (cd := .lt) (off := 8) (tgt := 27) (by decide +kernel) (mif_ltn hb)) ?_
        refine RK.of (RN.blk (ops := [(22, .iload_n 2), (23, .iconst 1)]) (pc' := 24) (lv' := [(0, .inr (.inr 0)), (1, .inl a1), (2, .inl a2)]) (st' := [.inl 1, .inl a2]) (h' := h) (cs := []) (by decide +kernel) rfl trivial) ?_
        rcases it_of hF with ⟨hb, hF⟩ | ⟨hb, hF⟩
        · refine RK.of (RN.icf (cd := .le) (off := 5) (tgt := 29) (by decide +kernel) (mif_len hb)) ?_
          refine RK.of (RN.blk (ops := [(27, .iconst (-1))]) (pc' := 28) (lv' := [(0, .inr (.inr 0)), (1, .inl a1), (2, .inl a2)]) (st' := [.inl (-1)]) (h' := h) (cs := []) (by decide +kernel) rfl trivial) ?_
          exact RK.iR (by decide +kernel) rfl hL hK hF
        · refine RK.of (RN.ict (cd := .le) (off := 5) (tgt := 29) (by decide +kernel) (mif_le hb)) ?_
          refine RK.of (RN.blk (ops := [(29, .aload_n 0)]) (pc' := 30) (lv' := [(0, .inr (.inr 0)), (1, .inl a1), (2, .inl a2)]) (st' := [.inr (.inr 0)]) (h' := h) (cs := []) (by decide +kernel) rfl trivial) ?_
          refine RK.of (RN.gr (i := 72) (ci := 11) (k := 12) (fn := true) (v := 310) (by decide +kernel) rfl (TO.gk (o_0 hL)) (hL.fo (v := 310) 12 7 (o_0 hL) rfl (by decide) rfl).1) ?_
          refine RK.of (RN.blk (ops := [(33, .aload_n 0)]) (pc' := 34) (lv' := [(0, .inr (.inr 0)), (1, .inl a1), (2, .inl a2)]) (st' := [.inr (.inr 0), .inr (.inr 310)]) (h' := h) (cs := []) (by decide +kernel) rfl trivial) ?_
          refine RK.of (RN.gr (i := 41) (ci := 11) (k := 5) (fn := true) (v := 20) (by decide +kernel) rfl (TO.gk (o_0 hL)) (hL.fo (v := 20) 5 2 (o_0 hL) rfl (by decide) rfl).1) ?_
          refine RK.of (RN.gr (i := 130) (ci := 2) (k := 0) (fn := true) (v := 21) (by decide +kernel) rfl (TO.gk (o_20 hL)) (hL.fo (v := 21) 0 8 (o_20 hL) rfl (by decide) rfl).1) ?_
          refine RK.of (RN.blk (ops := [(40, .aload_n 0)]) (pc' := 41) (lv' := [(0, .inr (.inr 0)), (1, .inl a1), (2, .inl a2)]) (st' := [.inr (.inr 0), .inr (.inr 21), .inr (.inr 310)]) (h' := h) (cs := []) (by decide +kernel) rfl trivial) ?_
          refine RK.of (RN.gr (i := 41) (ci := 11) (k := 5) (fn := true) (v := 20) (by decide +kernel) rfl (TO.gk (o_0 hL)) (hL.fo (v := 20) 5 2 (o_0 hL) rfl (by decide) rfl).1) ?_
          refine RK.of (RN.gr (i := 316) (ci := 2) (k := 1) (fn := true) (v := 24) (by decide +kernel) rfl (TO.gk (o_20 hL)) (hL.fo (v := 24) 1 10 (o_20 hL) rfl (by decide) rfl).1) ?_
          obtain ⟨h1, hG, hF⟩ := bv_of hF
          have hq := rcv_ok (as := [.inr (.inr 21), .inr (.inr 24)]) (TO.gk (o_310 hL))
          obtain ⟨hN, hL, hQ⟩ := DX7_start (d := d + 2) hL (o_21 hL) (o_24 hL) hG
          refine RK.of (RN.cv (i := 317) (k := 67) (q2 := iX7_start) (as := [.inr (.inr 310), .inr (.inr 21), .inr (.inr 24)]) (r := []) (v := none) (h1 := h1) (by decide +kernel) rfl rfl rfl rfl rfl hq hN) ?_
          have hK := hK.tr hQ
          refine RK.of (RN.blk (ops := [(50, .iconst 0), (51, .istore_n 3), (52, .bipush (-2)), (54, .istore 4), (56, .iconst 0), (57, .istore 5)]) (pc' := 59) (lv' := [(5, .inl 0), (4, .inl (-2)), (3, .inl 0), (0, .inr (.inr 0)), (1, .inl a1), (2, .inl a2)]) (st' := []) (h' := h1) (cs := []) (by decide +kernel) rfl trivial) ?_
          refine RK.sub (DX11_said_L59 hK ?_ _ _ _ _ _ hL KD.rf hF) (sub_cons rfl (sub_cons rfl (sub_cons rfl (sub_cons rfl (sub_cons rfl (sub_cons rfl sub_nil))))))
          · intro w2 w3 h4 hL hq hF
            have hK := hK.tr hq
            refine RK.of (RN.blk (ops := [(143, .iload_n 2)]) (pc' := 144) (lv' := [(2, .inl a2), (3, .inl w2), (4, .inl w3)]) (st' := [.inl a2]) (h' := h4) (cs := []) (by decide +kernel) rfl trivial) ?_
            rcases it_of hF with ⟨hb, hF⟩ | ⟨hb, hF⟩
            · refine RK.of (RN.iff (cd := .ne) (off := 7) (tgt := 151) (by decide +kernel) (mif_nen hb)) ?_
              refine RK.of (RN.blk (ops := [(147, .iload_n 3)]) (pc' := 148) (lv' := [(2, .inl a2), (3, .inl w2), (4, .inl w3)]) (st' := [.inl w2]) (h' := h4) (cs := []) (by decide +kernel) rfl trivial) ?_
              refine RK.of (RN.goto (off := 5) (tgt := 153) (by decide +kernel)) ?_
              exact RK.iR (by decide +kernel) rfl hL hK hF
            · refine RK.of (RN.ift (cd := .ne) (off := 7) (tgt := 151) (by decide +kernel) (mif_ne hb)) ?_
              refine RK.of (RN.blk (ops := [(151, .iload 4)]) (pc' := 153) (lv' := [(2, .inl a2), (3, .inl w2), (4, .inl w3)]) (st' := [.inl w3]) (h' := h4) (cs := []) (by decide +kernel) rfl trivial) ?_
              exact RK.iR (by decide +kernel) rfl hL hK hF
    · refine RK.of (RN.ict (cd := .ge) (off := 12) (tgt := 27) (by decide +kernel) (mif_ge hb)) ?_
      refine RK.of (RN.blk (ops := [(27, .iconst (-1))]) (pc' := 28) (lv' := [(0, .inr (.inr 0)), (1, .inl a1), (2, .inl a2)]) (st' := [.inl (-1)]) (h' := h) (cs := []) (by decide +kernel) rfl trivial) ?_
      exact RK.iR (by decide +kernel) rfl hL hK hF
noncomputable def GX11_sent_L44 (u1 : Int) (K0 : Int → MH → Option (Int × MH)) : Nat → Int → Int → MH → Option (Int × MH)
  | 0, _, _, _ => none
  | f + 1, v2, v3, h =>
    (if v3 < (m_rd h 21 2) then
     (bv (GX10_copyFrom 314 24 h) (fun h1 =>
      gd [IB u1 12] (
       (bd (GX11_ruleInForce (m_wr h1 318 u1 v3)) (fun x3 h2 =>
        (bd (GX7_agrees 20 x3 h2) (fun x5 h4 =>
         (if x5 = 0 then
          GX11_sent_L44 u1 K0 f v2 (m_w32 (v3 + 1)) h4
         else
          GX11_sent_L44 u1 K0 f (m_bor v2 (m_shl 1 v3)) (m_w32 (v3 + 1)) h4))))))))
    else
     K0 v2 h)
theorem DX11_sent_L44 {d : Nat} {u1 : Int} {K0 : Int → MH → Option (Int × MH)} {r : Int × MH} {h0 hB : MH} (hB0 : KD h0 hB) (hK0 : ∀ (w2 : Int) (h : MH), LR h → KD hB h → K0 w2 h = some r → RK xs L iX11_sent (d + 6) 121 [(2, .inl w2)] [] h (RIo r) h0 r.2) : ∀ (f : Nat) (v2 : Int) (v3 : Int) (h : MH), LR h → KD hB h → GX11_sent_L44 u1 K0 f v2 v3 h = some r → RK xs L iX11_sent (d + 6) 44 [(0, .inr (.inr 0)), (1, .inl u1), (2, .inl v2), (3, .inl v3)] [] h (RIo r) h0 r.2 := by
  intro f
  induction f with
  | zero =>
    intro v2 v3 h hL hJ hF
    cases hF
  | succ f ih =>
    intro v2 v3 h hL hJ hF
    unfold GX11_sent_L44 at hF
    have hK := hB0.tr hJ
    refine RK.of (RN.blk (ops := [(44, .iload_n 3), (45, .aload_n 0)]) (pc' := 46) (lv' := [(0, .inr (.inr 0)), (1, .inl u1), (2, .inl v2), (3, .inl v3)]) (st' := [.inr (.inr 0), .inl v3]) (h' := h) (cs := []) (by decide +kernel) rfl trivial) ?_
    refine RK.of (RN.gr (i := 41) (ci := 11) (k := 5) (fn := true) (v := 20) (by decide +kernel) rfl (TO.gk (o_0 hL)) (hL.fo (v := 20) 5 2 (o_0 hL) rfl (by decide) rfl).1) ?_
    refine RK.of (RN.gr (i := 130) (ci := 2) (k := 0) (fn := true) (v := 21) (by decide +kernel) rfl (TO.gk (o_20 hL)) (hL.fo (v := 21) 0 8 (o_20 hL) rfl (by decide) rfl).1) ?_
    refine RK.of (RN.blk (ops := [(52, .getfield 170)]) (pc' := 55) (lv' := [(0, .inr (.inr 0)), (1, .inl u1), (2, .inl v2), (3, .inl v3)]) (st' := [.inl (m_rd h 21 2), .inl v3]) (h' := h) (cs := [GK h 21 8]) (by decide +kernel) rfl ⟨(o_21 hL).gk, trivial⟩) ?_
    rcases it_of hF with ⟨hb, hF⟩ | ⟨hb, hF⟩
    · refine RK.of (RN.icf (cd := .ge) (off := 66) (tgt := 121) (by decide +kernel) (mif_gen hb)) ?_
      refine RK.of (RN.blk (ops := [(58, .aload_n 0)]) (pc' := 59) (lv' := [(0, .inr (.inr 0)), (1, .inl u1), (2, .inl v2), (3, .inl v3)]) (st' := [.inr (.inr 0)]) (h' := h) (cs := []) (by decide +kernel) rfl trivial) ?_
      refine RK.of (RN.gr (i := 72) (ci := 11) (k := 12) (fn := true) (v := 310) (by decide +kernel) rfl (TO.gk (o_0 hL)) (hL.fo (v := 310) 12 7 (o_0 hL) rfl (by decide) rfl).1) ?_
      refine RK.of (RN.gr (i := 209) (ci := 7) (k := 1) (fn := true) (v := 314) (by decide +kernel) rfl (TO.gk (o_310 hL)) (hL.fo (v := 314) 1 10 (o_310 hL) rfl (by decide) rfl).1) ?_
      refine RK.of (RN.blk (ops := [(65, .aload_n 0)]) (pc' := 66) (lv' := [(0, .inr (.inr 0)), (1, .inl u1), (2, .inl v2), (3, .inl v3)]) (st' := [.inr (.inr 0), .inr (.inr 314)]) (h' := h) (cs := []) (by decide +kernel) rfl trivial) ?_
      refine RK.of (RN.gr (i := 41) (ci := 11) (k := 5) (fn := true) (v := 20) (by decide +kernel) rfl (TO.gk (o_0 hL)) (hL.fo (v := 20) 5 2 (o_0 hL) rfl (by decide) rfl).1) ?_
      refine RK.of (RN.gr (i := 316) (ci := 2) (k := 1) (fn := true) (v := 24) (by decide +kernel) rfl (TO.gk (o_20 hL)) (hL.fo (v := 24) 1 10 (o_20 hL) rfl (by decide) rfl).1) ?_
      obtain ⟨h1, hG, hF⟩ := bv_of hF
      have hq := rcv_ok (as := [.inr (.inr 24)]) (TO.gk (o_314 hL))
      obtain ⟨hN, hL, hQ⟩ := DX10_copyFrom (d := d + 3) hL (o_314 hL) (o_24 hL) hG
      refine RK.of (RN.cv (i := 212) (k := 101) (q2 := iX10_copyFrom) (as := [.inr (.inr 314), .inr (.inr 24)]) (r := []) (v := none) (h1 := h1) (by decide +kernel) rfl rfl rfl rfl rfl hq hN) ?_
      have hK := hK.tr hQ
      have hJ := hJ.tr hQ
      refine RK.of (RN.blk (ops := [(75, .aload_n 0)]) (pc' := 76) (lv' := [(0, .inr (.inr 0)), (1, .inl u1), (2, .inl v2), (3, .inl v3)]) (st' := [.inr (.inr 0)]) (h' := h1) (cs := []) (by decide +kernel) rfl trivial) ?_
      refine RK.of (RN.gr (i := 72) (ci := 11) (k := 12) (fn := true) (v := 310) (by decide +kernel) rfl (TO.gk (o_0 hL)) (hL.fo (v := 310) 12 7 (o_0 hL) rfl (by decide) rfl).1) ?_
      refine RK.of (RN.gr (i := 209) (ci := 7) (k := 1) (fn := true) (v := 314) (by decide +kernel) rfl (TO.gk (o_310 hL)) (hL.fo (v := 314) 1 10 (o_310 hL) rfl (by decide) rfl).1) ?_
      refine RK.of (RN.gr (i := 113) (ci := 10) (k := 0) (fn := true) (v := 315) (by decide +kernel) rfl (TO.gk (o_314 hL)) (hL.fo (v := 315) 0 4 (o_314 hL) rfl (by decide) rfl).1) ?_
      refine RK.of (RN.gr (i := 156) (ci := 4) (k := 3) (fn := true) (v := 318) (by decide +kernel) rfl (TO.gk (o_315 hL)) (hL.fa (v := 318) 3 1 12 (o_315 hL) rfl (by decide) rfl (by decide)).1) ?_
      obtain ⟨hc, hF⟩ := gd_of hF
      refine RK.of (RN.blk (ops := [(88, .iload_n 1), (89, .iload_n 3), (90, .iastore)]) (pc' := 91) (lv' := [(0, .inr (.inr 0)), (1, .inl u1), (2, .inl v2), (3, .inl v3)]) (st' := []) (h' := (m_wr h1 318 u1 v3)) (cs := [GI h1 318 1 u1]) (by decide +kernel) rfl ⟨(a_318 hL).gi hc.1.1 hc.1.2, trivial⟩) ?_
      have hL : LR (m_wr h1 318 u1 v3) := hL.wa (TA.le5 (a_318 hL) (by decide))
      have hK := hK.tr (KD.wr : KD h1 (m_wr h1 318 u1 v3))
      have hJ := hJ.tr (KD.wr : KD h1 (m_wr h1 318 u1 v3))
      refine RK.of (RN.blk (ops := [(91, .aload_n 0)]) (pc' := 92) (lv' := [(0, .inr (.inr 0)), (1, .inl u1), (2, .inl v2), (3, .inl v3)]) (st' := [.inr (.inr 0)]) (h' := (m_wr h1 318 u1 v3)) (cs := []) (by decide +kernel) rfl trivial) ?_
      refine RK.of (RN.gr (i := 72) (ci := 11) (k := 12) (fn := true) (v := 310) (by decide +kernel) rfl (TO.gk (o_0 hL)) (hL.fo (v := 310) 12 7 (o_0 hL) rfl (by decide) rfl).1) ?_
      refine RK.of (RN.blk (ops := [(95, .aload_n 0)]) (pc' := 96) (lv' := [(0, .inr (.inr 0)), (1, .inl u1), (2, .inl v2), (3, .inl v3)]) (st' := [.inr (.inr 0), .inr (.inr 310)]) (h' := (m_wr h1 318 u1 v3)) (cs := []) (by decide +kernel) rfl trivial) ?_
      refine RK.of (RN.gr (i := 41) (ci := 11) (k := 5) (fn := true) (v := 20) (by decide +kernel) rfl (TO.gk (o_0 hL)) (hL.fo (v := 20) 5 2 (o_0 hL) rfl (by decide) rfl).1) ?_
      refine RK.of (RN.blk (ops := [(99, .aload_n 0)]) (pc' := 100) (lv' := [(0, .inr (.inr 0)), (1, .inl u1), (2, .inl v2), (3, .inl v3)]) (st' := [.inr (.inr 0), .inr (.inr 20), .inr (.inr 310)]) (h' := (m_wr h1 318 u1 v3)) (cs := []) (by decide +kernel) rfl trivial) ?_
      obtain ⟨x3, h2, hG, hF⟩ := bd_of hF
      have hq := rcv_ok (as := []) (TO.gk (o_0 hL))
      obtain ⟨hN, hL, hQ⟩ := DX11_ruleInForce (d := d + 4) hL  hG
      refine RK.of (RN.cv (i := 198) (k := 151) (q2 := iX11_ruleInForce) (as := [.inr (.inr 0)]) (r := [.inr (.inr 20), .inr (.inr 310)]) (v := some (.inr (.inr x3))) (h1 := h2) (by decide +kernel) rfl rfl rfl rfl rfl hq hN) ?_
      have hK := hK.tr hQ
      have hJ := hJ.tr hQ
      obtain ⟨x5, h4, hG, hF⟩ := bd_of hF
      have hq := rcv_ok (as := [.inr (.inr 20), .inr (.inr x3)]) (TO.gk (o_310 hL))
      obtain ⟨hN, hL, hQ⟩ := DX7_agrees (d := d) hL (o_20 hL) hG
      refine RK.of (RN.cv (i := 323) (k := 75) (q2 := iX7_agrees) (as := [.inr (.inr 310), .inr (.inr 20), .inr (.inr x3)]) (r := []) (v := some (.inl x5)) (h1 := h4) (by decide +kernel) rfl rfl rfl rfl rfl hq hN) ?_
      have hK := hK.tr hQ
      have hJ := hJ.tr hQ
      rcases it_of hF with ⟨hb, hF⟩ | ⟨hb, hF⟩
      · refine RK.of (RN.ift (cd := .eq) (off := 9) (tgt := 115) (by decide +kernel) (mif_eq hb)) ?_
        refine RK.of (RN.blk (ops := [(115, .iinc 3 1)]) (pc' := 118) (lv' := [(3, .inl (m_w32 (v3 + 1))), (0, .inr (.inr 0)), (1, .inl u1), (2, .inl v2)]) (st' := []) (h' := h4) (cs := []) (by decide +kernel) rfl trivial) ?_
        refine RK.of (RN.goto (off := -74) (tgt := 44) (by decide +kernel)) ?_
        exact RK.sub (ih _ _ _ hL hJ hF) (sub_cons rfl (sub_cons rfl (sub_cons rfl (sub_cons rfl sub_nil))))
      · refine RK.of (RN.iff (cd := .eq) (off := 9) (tgt := 115) (by decide +kernel) (mif_eqn hb)) ?_
        refine RK.of (RN.blk (ops := [(109, .iload_n 2), (110, .iconst 1), (111, .iload_n 3), (112, .ishl), (113, .ior), (114, .istore_n 2)]) (pc' := 115) (lv' := [(2, .inl (m_bor v2 (m_shl 1 v3))), (0, .inr (.inr 0)), (1, .inl u1), (3, .inl v3)]) (st' := []) (h' := h4) (cs := []) (by decide +kernel) rfl trivial) ?_
        refine RK.of (RN.blk (ops := [(115, .iinc 3 1)]) (pc' := 118) (lv' := [(3, .inl (m_w32 (v3 + 1))), (2, .inl (m_bor v2 (m_shl 1 v3))), (0, .inr (.inr 0)), (1, .inl u1)]) (st' := []) (h' := h4) (cs := []) (by decide +kernel) rfl trivial) ?_
        refine RK.of (RN.goto (off := -74) (tgt := 44) (by decide +kernel)) ?_
        exact RK.sub (ih _ _ _ hL hJ hF) (sub_cons rfl (sub_cons rfl (sub_cons rfl (sub_cons rfl sub_nil))))
    · refine RK.of (RN.ict (cd := .ge) (off := 66) (tgt := 121) (by decide +kernel) (mif_ge hb)) ?_
      exact RK.sub (hK0 _ _ hL hJ hF) (sub_cons rfl sub_nil)
noncomputable def GX11_sent (a1 : Int) (h : MH) : Option (Int × MH) :=
  (bd (GX4_has 25 a1 h) (fun x2 h1 =>
   (if x2 = 0 then
    some ((-1), h1)
   else
    (bv (GX7_start 21 24 h1) (fun h3 =>
     GX11_sent_L44 a1 (fun w4 h5 =>
      some (w4, h5)) FU 0 0 h3)))))
theorem DX11_sent {d : Nat} {a1 : Int} {h : MH} {r : Int × MH} (hL : LR h) (hF : GX11_sent a1 h = some r) : RN xs L iX11_sent (d + 6) 0 (lvE 0 [.inr (.inr 0), .inl a1]) [] h (RIo r) ∧ LR r.2 ∧ KD h r.2 := by
  unfold GX11_sent at hF
  have hK : KD h h := KD.rf
  show RK xs L iX11_sent (d + 6) 0 (lvE 0 [.inr (.inr 0), .inl a1]) [] h (RIo r) h r.2
  refine RK.of (RN.blk (ops := [(0, .aload_n 0)]) (pc' := 1) (lv' := [(0, .inr (.inr 0)), (1, .inl a1)]) (st' := [.inr (.inr 0)]) (h' := h) (cs := []) (by decide +kernel) rfl trivial) ?_
  refine RK.of (RN.gr (i := 41) (ci := 11) (k := 5) (fn := true) (v := 20) (by decide +kernel) rfl (TO.gk (o_0 hL)) (hL.fo (v := 20) 5 2 (o_0 hL) rfl (by decide) rfl).1) ?_
  refine RK.of (RN.gr (i := 316) (ci := 2) (k := 1) (fn := true) (v := 24) (by decide +kernel) rfl (TO.gk (o_20 hL)) (hL.fo (v := 24) 1 10 (o_20 hL) rfl (by decide) rfl).1) ?_
  refine RK.of (RN.gr (i := 113) (ci := 10) (k := 0) (fn := true) (v := 25) (by decide +kernel) rfl (TO.gk (o_24 hL)) (hL.fo (v := 25) 0 4 (o_24 hL) rfl (by decide) rfl).1) ?_
  refine RK.of (RN.blk (ops := [(10, .iload_n 1)]) (pc' := 11) (lv' := [(0, .inr (.inr 0)), (1, .inl a1)]) (st' := [.inl a1, .inr (.inr 25)]) (h' := h) (cs := []) (by decide +kernel) rfl trivial) ?_
  obtain ⟨x2, h1, hG, hF⟩ := bd_of hF
  have hq := rcv_ok (as := [.inl a1]) (TO.gk (o_25 hL))
  obtain ⟨hN, hL, hQ⟩ := DX4_has (d := d + 5) hL (o_25 hL) hG
  refine RK.of (RN.cv (i := 147) (k := 46) (q2 := iX4_has) (as := [.inr (.inr 25), .inl a1]) (r := []) (v := some (.inl x2)) (h1 := h1) (by decide +kernel) rfl rfl rfl rfl rfl hq hN) ?_
  have hK := hK.tr hQ
  rcases it_of hF with ⟨hb, hF⟩ | ⟨hb, hF⟩
  · refine RK.of (RN.iff (cd := .ne) (off := 5) (tgt := 19) (by decide +kernel) (mif_nen hb)) ?_
    refine RK.of (RN.blk (ops := [(17, .iconst (-1))]) (pc' := 18) (lv' := [(0, .inr (.inr 0)), (1, .inl a1)]) (st' := [.inl (-1)]) (h' := h1) (cs := []) (by decide +kernel) rfl trivial) ?_
    exact RK.iR (by decide +kernel) rfl hL hK hF
  · refine RK.of (RN.ift (cd := .ne) (off := 5) (tgt := 19) (by decide +kernel) (mif_ne hb)) ?_
    refine RK.of (RN.blk (ops := [(19, .aload_n 0)]) (pc' := 20) (lv' := [(0, .inr (.inr 0)), (1, .inl a1)]) (st' := [.inr (.inr 0)]) (h' := h1) (cs := []) (by decide +kernel) rfl trivial) ?_
    refine RK.of (RN.gr (i := 72) (ci := 11) (k := 12) (fn := true) (v := 310) (by decide +kernel) rfl (TO.gk (o_0 hL)) (hL.fo (v := 310) 12 7 (o_0 hL) rfl (by decide) rfl).1) ?_
    refine RK.of (RN.blk (ops := [(23, .aload_n 0)]) (pc' := 24) (lv' := [(0, .inr (.inr 0)), (1, .inl a1)]) (st' := [.inr (.inr 0), .inr (.inr 310)]) (h' := h1) (cs := []) (by decide +kernel) rfl trivial) ?_
    refine RK.of (RN.gr (i := 41) (ci := 11) (k := 5) (fn := true) (v := 20) (by decide +kernel) rfl (TO.gk (o_0 hL)) (hL.fo (v := 20) 5 2 (o_0 hL) rfl (by decide) rfl).1) ?_
    refine RK.of (RN.gr (i := 130) (ci := 2) (k := 0) (fn := true) (v := 21) (by decide +kernel) rfl (TO.gk (o_20 hL)) (hL.fo (v := 21) 0 8 (o_20 hL) rfl (by decide) rfl).1) ?_
    refine RK.of (RN.blk (ops := [(30, .aload_n 0)]) (pc' := 31) (lv' := [(0, .inr (.inr 0)), (1, .inl a1)]) (st' := [.inr (.inr 0), .inr (.inr 21), .inr (.inr 310)]) (h' := h1) (cs := []) (by decide +kernel) rfl trivial) ?_
    refine RK.of (RN.gr (i := 41) (ci := 11) (k := 5) (fn := true) (v := 20) (by decide +kernel) rfl (TO.gk (o_0 hL)) (hL.fo (v := 20) 5 2 (o_0 hL) rfl (by decide) rfl).1) ?_
    refine RK.of (RN.gr (i := 316) (ci := 2) (k := 1) (fn := true) (v := 24) (by decide +kernel) rfl (TO.gk (o_20 hL)) (hL.fo (v := 24) 1 10 (o_20 hL) rfl (by decide) rfl).1) ?_
    obtain ⟨h3, hG, hF⟩ := bv_of hF
    have hq := rcv_ok (as := [.inr (.inr 21), .inr (.inr 24)]) (TO.gk (o_310 hL))
    obtain ⟨hN, hL, hQ⟩ := DX7_start (d := d + 2) hL (o_21 hL) (o_24 hL) hG
    refine RK.of (RN.cv (i := 317) (k := 67) (q2 := iX7_start) (as := [.inr (.inr 310), .inr (.inr 21), .inr (.inr 24)]) (r := []) (v := none) (h1 := h3) (by decide +kernel) rfl rfl rfl rfl rfl hq hN) ?_
    have hK := hK.tr hQ
    refine RK.of (RN.blk (ops := [(40, .iconst 0), (41, .istore_n 2), (42, .iconst 0), (43, .istore_n 3)]) (pc' := 44) (lv' := [(3, .inl 0), (2, .inl 0), (0, .inr (.inr 0)), (1, .inl a1)]) (st' := []) (h' := h3) (cs := []) (by decide +kernel) rfl trivial) ?_
    refine RK.sub (DX11_sent_L44 hK ?_ _ _ _ _ hL KD.rf hF) (sub_cons rfl (sub_cons rfl (sub_cons rfl (sub_cons rfl sub_nil))))
    · intro w4 h5 hL hq hF
      have hK := hK.tr hq
      refine RK.of (RN.blk (ops := [(121, .iload_n 2)]) (pc' := 122) (lv' := [(2, .inl w4)]) (st' := [.inl w4]) (h' := h5) (cs := []) (by decide +kernel) rfl trivial) ?_
      exact RK.iR (by decide +kernel) rfl hL hK hF
noncomputable def GX11_pence (a1 : Int) (a2 : Int) (h : MH) : Option (Int × MH) :=
  (bd (GX8_hasHole 21 a2 h) (fun x2 h1 =>
   (if x2 = 0 then
    some ((-1), h1)
   else
    (if a1 < 0 then
     some ((-1), h1)
    else
     (if 9999 < a1 then
      some ((-1), h1)
     else
      (bd (GX10_shareOf 32 a1 a2 h1) (fun x4 h3 =>
       some (x4, h3))))))))
theorem DX11_pence {d : Nat} {a1 : Int} {a2 : Int} {h : MH} {r : Int × MH} (hL : LR h) (hF : GX11_pence a1 a2 h = some r) : RN xs L iX11_pence (d + 3) 0 (lvE 0 [.inr (.inr 0), .inl a1, .inl a2]) [] h (RIo r) ∧ LR r.2 ∧ KD h r.2 := by
  unfold GX11_pence at hF
  have hK : KD h h := KD.rf
  show RK xs L iX11_pence (d + 3) 0 (lvE 0 [.inr (.inr 0), .inl a1, .inl a2]) [] h (RIo r) h r.2
  refine RK.of (RN.blk (ops := [(0, .aload_n 0)]) (pc' := 1) (lv' := [(0, .inr (.inr 0)), (1, .inl a1), (2, .inl a2)]) (st' := [.inr (.inr 0)]) (h' := h) (cs := []) (by decide +kernel) rfl trivial) ?_
  refine RK.of (RN.gr (i := 41) (ci := 11) (k := 5) (fn := true) (v := 20) (by decide +kernel) rfl (TO.gk (o_0 hL)) (hL.fo (v := 20) 5 2 (o_0 hL) rfl (by decide) rfl).1) ?_
  refine RK.of (RN.gr (i := 130) (ci := 2) (k := 0) (fn := true) (v := 21) (by decide +kernel) rfl (TO.gk (o_20 hL)) (hL.fo (v := 21) 0 8 (o_20 hL) rfl (by decide) rfl).1) ?_
  refine RK.of (RN.blk (ops := [(7, .iload_n 2)]) (pc' := 8) (lv' := [(0, .inr (.inr 0)), (1, .inl a1), (2, .inl a2)]) (st' := [.inl a2, .inr (.inr 21)]) (h' := h) (cs := []) (by decide +kernel) rfl trivial) ?_
  obtain ⟨x2, h1, hG, hF⟩ := bd_of hF
  have hq := rcv_ok (as := [.inl a2]) (TO.gk (o_21 hL))
  obtain ⟨hN, hL, hQ⟩ := DX8_hasHole (d := d + 2) hL (o_21 hL) hG
  refine RK.of (RN.cv (i := 131) (k := 81) (q2 := iX8_hasHole) (as := [.inr (.inr 21), .inl a2]) (r := []) (v := some (.inl x2)) (h1 := h1) (by decide +kernel) rfl rfl rfl rfl rfl hq hN) ?_
  have hK := hK.tr hQ
  rcases it_of hF with ⟨hb, hF⟩ | ⟨hb, hF⟩
  · refine RK.of (RN.ift (cd := .eq) (off := 14) (tgt := 25) (by decide +kernel) (mif_eq hb)) ?_
    refine RK.of (RN.blk (ops := [(25, .iconst (-1))]) (pc' := 26) (lv' := [(0, .inr (.inr 0)), (1, .inl a1), (2, .inl a2)]) (st' := [.inl (-1)]) (h' := h1) (cs := []) (by decide +kernel) rfl trivial) ?_
    exact RK.iR (by decide +kernel) rfl hL hK hF
  · refine RK.of (RN.iff (cd := .eq) (off := 14) (tgt := 25) (by decide +kernel) (mif_eqn hb)) ?_
    refine RK.of (RN.blk (ops := [(14, .iload_n 1)]) (pc' := 15) (lv' := [(0, .inr (.inr 0)), (1, .inl a1), (2, .inl a2)]) (st' := [.inl a1]) (h' := h1) (cs := []) (by decide +kernel) rfl trivial) ?_
    rcases it_of hF with ⟨hb, hF⟩ | ⟨hb, hF⟩
    · refine RK.of (RN.ift (cd := .lt) (off := 10) (tgt := 25) (by decide +kernel) (mif_lt hb)) ?_
      refine RK.of (RN.blk (ops := [(25, .iconst (-1))]) (pc' := 26) (lv' := [(0, .inr (.inr 0)), (1, .inl a1), (2, .inl a2)]) (st' := [.inl (-1)]) (h' := h1) (cs := []) (by decide +kernel) rfl trivial) ?_
      exact RK.iR (by decide +kernel) rfl hL hK hF
    · refine RK.of (RN.iff (cd := .lt) (off := 10) (tgt := 25) (by decide +kernel) (mif_ltn hb)) ?_
      refine RK.of (RN.blk (ops := [(18, .iload_n 1), (19, .sipush 9999)]) (pc' := 22) (lv' := [(0, .inr (.inr 0)), (1, .inl a1), (2, .inl a2)]) (st' := [.inl 9999, .inl a1]) (h' := h1) (cs := []) (by decide +kernel) rfl trivial) ?_
      rcases it_of hF with ⟨hb, hF⟩ | ⟨hb, hF⟩
      · refine RK.of (RN.icf (cd := .le) (off := 5) (tgt := 27) (by decide +kernel) (mif_len hb)) ?_
        refine RK.of (RN.blk (ops := [(25, .iconst (-1))]) (pc' := 26) (lv' := [(0, .inr (.inr 0)), (1, .inl a1), (2, .inl a2)]) (st' := [.inl (-1)]) (h' := h1) (cs := []) (by decide +kernel) rfl trivial) ?_
        exact RK.iR (by decide +kernel) rfl hL hK hF
      · refine RK.of (RN.ict (cd := .le) (off := 5) (tgt := 27) (by decide +kernel) (mif_le hb)) ?_
        refine RK.of (RN.blk (ops := [(27, .aload_n 0)]) (pc' := 28) (lv' := [(0, .inr (.inr 0)), (1, .inl a1), (2, .inl a2)]) (st' := [.inr (.inr 0)]) (h' := h1) (cs := []) (by decide +kernel) rfl trivial) ?_
        refine RK.of (RN.gr (i := 41) (ci := 11) (k := 5) (fn := true) (v := 20) (by decide +kernel) rfl (TO.gk (o_0 hL)) (hL.fo (v := 20) 5 2 (o_0 hL) rfl (by decide) rfl).1) ?_
        refine RK.of (RN.gr (i := 110) (ci := 2) (k := 2) (fn := true) (v := 32) (by decide +kernel) rfl (TO.gk (o_20 hL)) (hL.fo (v := 32) 2 10 (o_20 hL) rfl (by decide) rfl).1) ?_
        refine RK.of (RN.blk (ops := [(34, .iload_n 1), (35, .iload_n 2)]) (pc' := 36) (lv' := [(0, .inr (.inr 0)), (1, .inl a1), (2, .inl a2)]) (st' := [.inl a2, .inl a1, .inr (.inr 32)]) (h' := h1) (cs := []) (by decide +kernel) rfl trivial) ?_
        obtain ⟨x4, h3, hG, hF⟩ := bd_of hF
        have hq := rcv_ok (as := [.inl a1, .inl a2]) (TO.gk (o_32 hL))
        obtain ⟨hN, hL, hQ⟩ := DX10_shareOf (d := d) hL (o_32 hL) hG
        refine RK.of (RN.cv (i := 327) (k := 107) (q2 := iX10_shareOf) (as := [.inr (.inr 32), .inl a1, .inl a2]) (r := []) (v := some (.inl x4)) (h1 := h3) (by decide +kernel) rfl rfl rfl rfl rfl hq hN) ?_
        have hK := hK.tr hQ
        exact RK.iR (by decide +kernel) rfl hL hK hF
noncomputable def GX11_note (a1 : Int) (a2 : Int) (a3 : Int) (h : MH) : Option (Int × MH) :=
  (if a1 = (-1) then
   some (0, (m_wr h 20 5 0))
  else
   jn (fun (s2 : Int) (h3 : MH) =>
    (if s2 = 0 then
     some ((-2), h3)
    else
     (if (m_rd h3 20 5) < 10 then
      (bv (GX2_addNote 20 a1 a2 a3 h3) (fun h4 =>
       some ((m_rd h4 20 5), h4)))
     else
      some ((-2), h3)))) (fun j1 =>
    jn (fun (h6 : MH) =>
     j1 0 h6) (fun j5 =>
     (if a1 < 0 then
      j5 h
     else
      (if 60 < a1 then
       j5 h
      else
       (bd (GX8_hasHole 21 a2 h) (fun x8 h7 =>
        (if x8 = 0 then
         j5 h7
        else
         (if a3 < 0 then
          j5 h7
         else
          (if 20 < a3 then
           j5 h7
          else
           j1 1 h7))))))))))
theorem DX11_note {d : Nat} {a1 : Int} {a2 : Int} {a3 : Int} {h : MH} {r : Int × MH} (hL : LR h) (hF : GX11_note a1 a2 a3 h = some r) : RN xs L iX11_note (d + 1) 0 (lvE 0 [.inr (.inr 0), .inl a1, .inl a2, .inl a3]) [] h (RIo r) ∧ LR r.2 ∧ KD h r.2 := by
  unfold GX11_note at hF
  have hK : KD h h := KD.rf
  show RK xs L iX11_note (d + 1) 0 (lvE 0 [.inr (.inr 0), .inl a1, .inl a2, .inl a3]) [] h (RIo r) h r.2
  refine RK.of (RN.blk (ops := [(0, .iload_n 1), (1, .iconst (-1))]) (pc' := 2) (lv' := [(0, .inr (.inr 0)), (1, .inl a1), (2, .inl a2), (3, .inl a3)]) (st' := [.inl (-1), .inl a1]) (h' := h) (cs := []) (by decide +kernel) rfl trivial) ?_
  rcases it_of hF with ⟨hb, hF⟩ | ⟨hb, hF⟩
  · refine RK.of (RN.icf (cd := .ne) (off := 13) (tgt := 15) (by decide +kernel) (mif_nen hb)) ?_
    refine RK.of (RN.blk (ops := [(5, .aload_n 0)]) (pc' := 6) (lv' := [(0, .inr (.inr 0)), (1, .inl a1), (2, .inl a2), (3, .inl a3)]) (st' := [.inr (.inr 0)]) (h' := h) (cs := []) (by decide +kernel) rfl trivial) ?_
    refine RK.of (RN.gr (i := 41) (ci := 11) (k := 5) (fn := true) (v := 20) (by decide +kernel) rfl (TO.gk (o_0 hL)) (hL.fo (v := 20) 5 2 (o_0 hL) rfl (by decide) rfl).1) ?_
    refine RK.of (RN.blk (ops := [(9, .iconst 0), (10, .putfield 185)]) (pc' := 13) (lv' := [(0, .inr (.inr 0)), (1, .inl a1), (2, .inl a2), (3, .inl a3)]) (st' := []) (h' := (m_wr h 20 5 0)) (cs := [GK h 20 2]) (by decide +kernel) rfl ⟨(o_20 hL).gk, trivial⟩) ?_
    have hL : LR (m_wr h 20 5 0) := LR.wf (k := 5) hL (o_20 hL) rfl
    have hK := hK.tr (KD.wr : KD h (m_wr h 20 5 0))
    refine RK.of (RN.blk (ops := [(13, .iconst 0)]) (pc' := 14) (lv' := [(0, .inr (.inr 0)), (1, .inl a1), (2, .inl a2), (3, .inl a3)]) (st' := [.inl 0]) (h' := (m_wr h 20 5 0)) (cs := []) (by decide +kernel) rfl trivial) ?_
    exact RK.iR (by decide +kernel) rfl hL hK hF
  · refine RK.of (RN.ict (cd := .ne) (off := 13) (tgt := 15) (by decide +kernel) (mif_ne hb)) ?_
    refine RK.of (RN.blk (ops := [(15, .iload_n 1)]) (pc' := 16) (lv' := [(0, .inr (.inr 0)), (1, .inl a1), (2, .inl a2), (3, .inl a3)]) (st' := [.inl a1]) (h' := h) (cs := []) (by decide +kernel) rfl trivial) ?_
    refine jn_use (fun j1 => ∀ (s2 : Int) (h3 : MH), LR h3 → KD h h3 → j1 s2 h3 = some r → RK xs L iX11_note (d + 1) 54 [(0, .inr (.inr 0)), (1, .inl a1), (2, .inl a2), (3, .inl a3)] [.inl s2] h3 (RIo r) h r.2) ?_ ?_ hF
    · intro s2 h3 hL hK hF
      refine RK.of (RN.blk (ops := [(54, .istore 4), (56, .iload 4)]) (pc' := 58) (lv' := [(4, .inl s2), (0, .inr (.inr 0)), (1, .inl a1), (2, .inl a2), (3, .inl a3)]) (st' := [.inl s2]) (h' := h3) (cs := []) (by decide +kernel) rfl trivial) ?_
      rcases it_of hF with ⟨hb, hF⟩ | ⟨hb, hF⟩
      · refine RK.of (RN.ift (cd := .eq) (off := 15) (tgt := 73) (by decide +kernel) (mif_eq hb)) ?_
        refine RK.of (RN.blk (ops := [(73, .bipush (-2))]) (pc' := 75) (lv' := [(4, .inl s2), (0, .inr (.inr 0)), (1, .inl a1), (2, .inl a2), (3, .inl a3)]) (st' := [.inl (-2)]) (h' := h3) (cs := []) (by decide +kernel) rfl trivial) ?_
        exact RK.iR (by decide +kernel) rfl hL hK hF
      · refine RK.of (RN.iff (cd := .eq) (off := 15) (tgt := 73) (by decide +kernel) (mif_eqn hb)) ?_
        refine RK.of (RN.blk (ops := [(61, .aload_n 0)]) (pc' := 62) (lv' := [(4, .inl s2), (0, .inr (.inr 0)), (1, .inl a1), (2, .inl a2), (3, .inl a3)]) (st' := [.inr (.inr 0)]) (h' := h3) (cs := []) (by decide +kernel) rfl trivial) ?_
        refine RK.of (RN.gr (i := 41) (ci := 11) (k := 5) (fn := true) (v := 20) (by decide +kernel) rfl (TO.gk (o_0 hL)) (hL.fo (v := 20) 5 2 (o_0 hL) rfl (by decide) rfl).1) ?_
        refine RK.of (RN.blk (ops := [(65, .getfield 185), (68, .bipush 10)]) (pc' := 70) (lv' := [(4, .inl s2), (0, .inr (.inr 0)), (1, .inl a1), (2, .inl a2), (3, .inl a3)]) (st' := [.inl 10, .inl (m_rd h3 20 5)]) (h' := h3) (cs := [GK h3 20 2]) (by decide +kernel) rfl ⟨(o_20 hL).gk, trivial⟩) ?_
        rcases it_of hF with ⟨hb, hF⟩ | ⟨hb, hF⟩
        · refine RK.of (RN.ict (cd := .lt) (off := 6) (tgt := 76) (by decide +kernel) (mif_lt hb)) ?_
          refine RK.of (RN.blk (ops := [(76, .aload_n 0)]) (pc' := 77) (lv' := [(4, .inl s2), (0, .inr (.inr 0)), (1, .inl a1), (2, .inl a2), (3, .inl a3)]) (st' := [.inr (.inr 0)]) (h' := h3) (cs := []) (by decide +kernel) rfl trivial) ?_
          refine RK.of (RN.gr (i := 41) (ci := 11) (k := 5) (fn := true) (v := 20) (by decide +kernel) rfl (TO.gk (o_0 hL)) (hL.fo (v := 20) 5 2 (o_0 hL) rfl (by decide) rfl).1) ?_
          refine RK.of (RN.blk (ops := [(80, .iload_n 1), (81, .iload_n 2), (82, .iload_n 3)]) (pc' := 83) (lv' := [(4, .inl s2), (0, .inr (.inr 0)), (1, .inl a1), (2, .inl a2), (3, .inl a3)]) (st' := [.inl a3, .inl a2, .inl a1, .inr (.inr 20)]) (h' := h3) (cs := []) (by decide +kernel) rfl trivial) ?_
          obtain ⟨h4, hG, hF⟩ := bv_of hF
          have hq := rcv_ok (as := [.inl a1, .inl a2, .inl a3]) (TO.gk (o_20 hL))
          obtain ⟨hN, hL, hQ⟩ := DX2_addNote (d := d) hL (o_20 hL) hG
          refine RK.of (RN.cv (i := 331) (k := 32) (q2 := iX2_addNote) (as := [.inr (.inr 20), .inl a1, .inl a2, .inl a3]) (r := []) (v := none) (h1 := h4) (by decide +kernel) rfl rfl rfl rfl rfl hq hN) ?_
          have hK := hK.tr hQ
          refine RK.of (RN.blk (ops := [(86, .aload_n 0)]) (pc' := 87) (lv' := [(4, .inl s2), (0, .inr (.inr 0)), (1, .inl a1), (2, .inl a2), (3, .inl a3)]) (st' := [.inr (.inr 0)]) (h' := h4) (cs := []) (by decide +kernel) rfl trivial) ?_
          refine RK.of (RN.gr (i := 41) (ci := 11) (k := 5) (fn := true) (v := 20) (by decide +kernel) rfl (TO.gk (o_0 hL)) (hL.fo (v := 20) 5 2 (o_0 hL) rfl (by decide) rfl).1) ?_
          refine RK.of (RN.blk (ops := [(90, .getfield 185)]) (pc' := 93) (lv' := [(4, .inl s2), (0, .inr (.inr 0)), (1, .inl a1), (2, .inl a2), (3, .inl a3)]) (st' := [.inl (m_rd h4 20 5)]) (h' := h4) (cs := [GK h4 20 2]) (by decide +kernel) rfl ⟨(o_20 hL).gk, trivial⟩) ?_
          exact RK.iR (by decide +kernel) rfl hL hK hF
        · refine RK.of (RN.icf (cd := .lt) (off := 6) (tgt := 76) (by decide +kernel) (mif_ltn hb)) ?_
          refine RK.of (RN.blk (ops := [(73, .bipush (-2))]) (pc' := 75) (lv' := [(4, .inl s2), (0, .inr (.inr 0)), (1, .inl a1), (2, .inl a2), (3, .inl a3)]) (st' := [.inl (-2)]) (h' := h3) (cs := []) (by decide +kernel) rfl trivial) ?_
          exact RK.iR (by decide +kernel) rfl hL hK hF
    · intro j1 Jj1 hF
      refine jn_use (fun j5 => ∀ (h6 : MH), LR h6 → KD h h6 → j5 h6 = some r → RK xs L iX11_note (d + 1) 53 [(0, .inr (.inr 0)), (1, .inl a1), (2, .inl a2), (3, .inl a3)] [] h6 (RIo r) h r.2) ?_ ?_ hF
      · intro h6 hL hK hF
        refine RK.of (RN.blk (ops := [(53, .iconst 0)]) (pc' := 54) (lv' := [(0, .inr (.inr 0)), (1, .inl a1), (2, .inl a2), (3, .inl a3)]) (st' := [.inl 0]) (h' := h6) (cs := []) (by decide +kernel) rfl trivial) ?_
        exact RK.sub (Jj1 _ _ hL hK hF) (sub_cons rfl (sub_cons rfl (sub_cons rfl (sub_cons rfl sub_nil))))
      · intro j5 Jj5 hF
        rcases it_of hF with ⟨hb, hF⟩ | ⟨hb, hF⟩
        · refine RK.of (RN.ift (cd := .lt) (off := 37) (tgt := 53) (by decide +kernel) (mif_lt hb)) ?_
          exact RK.sub (Jj5 _ hL hK hF) (sub_cons rfl (sub_cons rfl (sub_cons rfl (sub_cons rfl sub_nil))))
        · refine RK.of (RN.iff (cd := .lt) (off := 37) (tgt := 53) (by decide +kernel) (mif_ltn hb)) ?_
          refine RK.of (RN.blk (ops := [(19, .iload_n 1), (20, .bipush 60)]) (pc' := 22) (lv' := [(0, .inr (.inr 0)), (1, .inl a1), (2, .inl a2), (3, .inl a3)]) (st' := [.inl 60, .inl a1]) (h' := h) (cs := []) (by decide +kernel) rfl trivial) ?_
          rcases it_of hF with ⟨hb, hF⟩ | ⟨hb, hF⟩
          · refine RK.of (RN.ict (cd := .gt) (off := 31) (tgt := 53) (by decide +kernel) (mif_gt hb)) ?_
            exact RK.sub (Jj5 _ hL hK hF) (sub_cons rfl (sub_cons rfl (sub_cons rfl (sub_cons rfl sub_nil))))
          · refine RK.of (RN.icf (cd := .gt) (off := 31) (tgt := 53) (by decide +kernel) (mif_gtn hb)) ?_
            refine RK.of (RN.blk (ops := [(25, .aload_n 0)]) (pc' := 26) (lv' := [(0, .inr (.inr 0)), (1, .inl a1), (2, .inl a2), (3, .inl a3)]) (st' := [.inr (.inr 0)]) (h' := h) (cs := []) (by decide +kernel) rfl trivial) ?_
            refine RK.of (RN.gr (i := 41) (ci := 11) (k := 5) (fn := true) (v := 20) (by decide +kernel) rfl (TO.gk (o_0 hL)) (hL.fo (v := 20) 5 2 (o_0 hL) rfl (by decide) rfl).1) ?_
            refine RK.of (RN.gr (i := 130) (ci := 2) (k := 0) (fn := true) (v := 21) (by decide +kernel) rfl (TO.gk (o_20 hL)) (hL.fo (v := 21) 0 8 (o_20 hL) rfl (by decide) rfl).1) ?_
            refine RK.of (RN.blk (ops := [(32, .iload_n 2)]) (pc' := 33) (lv' := [(0, .inr (.inr 0)), (1, .inl a1), (2, .inl a2), (3, .inl a3)]) (st' := [.inl a2, .inr (.inr 21)]) (h' := h) (cs := []) (by decide +kernel) rfl trivial) ?_
            obtain ⟨x8, h7, hG, hF⟩ := bd_of hF
            have hq := rcv_ok (as := [.inl a2]) (TO.gk (o_21 hL))
            obtain ⟨hN, hL, hQ⟩ := DX8_hasHole (d := d) hL (o_21 hL) hG
            refine RK.of (RN.cv (i := 131) (k := 81) (q2 := iX8_hasHole) (as := [.inr (.inr 21), .inl a2]) (r := []) (v := some (.inl x8)) (h1 := h7) (by decide +kernel) rfl rfl rfl rfl rfl hq hN) ?_
            have hK := hK.tr hQ
            rcases it_of hF with ⟨hb, hF⟩ | ⟨hb, hF⟩
            · refine RK.of (RN.ift (cd := .eq) (off := 17) (tgt := 53) (by decide +kernel) (mif_eq hb)) ?_
              exact RK.sub (Jj5 _ hL hK hF) (sub_cons rfl (sub_cons rfl (sub_cons rfl (sub_cons rfl sub_nil))))
            · refine RK.of (RN.iff (cd := .eq) (off := 17) (tgt := 53) (by decide +kernel) (mif_eqn hb)) ?_
              refine RK.of (RN.blk (ops := [(39, .iload_n 3)]) (pc' := 40) (lv' := [(0, .inr (.inr 0)), (1, .inl a1), (2, .inl a2), (3, .inl a3)]) (st' := [.inl a3]) (h' := h7) (cs := []) (by decide +kernel) rfl trivial) ?_
              rcases it_of hF with ⟨hb, hF⟩ | ⟨hb, hF⟩
              · refine RK.of (RN.ift (cd := .lt) (off := 13) (tgt := 53) (by decide +kernel) (mif_lt hb)) ?_
                exact RK.sub (Jj5 _ hL hK hF) (sub_cons rfl (sub_cons rfl (sub_cons rfl (sub_cons rfl sub_nil))))
              · refine RK.of (RN.iff (cd := .lt) (off := 13) (tgt := 53) (by decide +kernel) (mif_ltn hb)) ?_
                refine RK.of (RN.blk (ops := [(43, .iload_n 3), (44, .bipush 20)]) (pc' := 46) (lv' := [(0, .inr (.inr 0)), (1, .inl a1), (2, .inl a2), (3, .inl a3)]) (st' := [.inl 20, .inl a3]) (h' := h7) (cs := []) (by decide +kernel) rfl trivial) ?_
                rcases it_of hF with ⟨hb, hF⟩ | ⟨hb, hF⟩
                · refine RK.of (RN.ict (cd := .gt) (off := 7) (tgt := 53) (by decide +kernel) (mif_gt hb)) ?_
                  exact RK.sub (Jj5 _ hL hK hF) (sub_cons rfl (sub_cons rfl (sub_cons rfl (sub_cons rfl sub_nil))))
                · refine RK.of (RN.icf (cd := .gt) (off := 7) (tgt := 53) (by decide +kernel) (mif_gtn hb)) ?_
                  refine RK.of (RN.blk (ops := [(49, .iconst 1)]) (pc' := 50) (lv' := [(0, .inr (.inr 0)), (1, .inl a1), (2, .inl a2), (3, .inl a3)]) (st' := [.inl 1]) (h' := h7) (cs := []) (by decide +kernel) rfl trivial) ?_
                  refine RK.of (RN.goto (off := 4) (tgt := 54) (by decide +kernel)) ?_
                  exact RK.sub (Jj1 _ _ hL hK hF) (sub_cons rfl (sub_cons rfl (sub_cons rfl (sub_cons rfl sub_nil))))
noncomputable def GX11_ruled_L48 (u1 : Int) (K0 : Int → Int → MH → Option (Int × MH)) : Nat → Int → Int → Int → MH → Option (Int × MH)
  | 0, _, _, _, _ => none
  | f + 1, v2, v3, v4, h =>
    (if v4 < (m_rd h 0 4) then
     (bv (GX10_copyFrom 314 24 h) (fun h1 =>
      (bd (GX11_ruleAt v4 h1) (fun x3 h2 =>
       (bd (GX7_agrees 20 x3 h2) (fun x5 h4 =>
        (if x5 = 0 then
         GX11_ruled_L48 u1 K0 f v2 v3 (m_w32 (v4 + 1)) h4
        else
         (if v3 = (-2) then
          GX11_ruled_L48 u1 K0 f (m_w32 (v2 + 1)) v4 (m_w32 (v4 + 1)) h4
         else
          GX11_ruled_L48 u1 K0 f (m_w32 (v2 + 1)) v3 (m_w32 (v4 + 1)) h4))))))))
    else
     K0 v2 v3 h)
theorem DX11_ruled_L48 {d : Nat} {u1 : Int} {K0 : Int → Int → MH → Option (Int × MH)} {r : Int × MH} {h0 hB : MH} (hB0 : KD h0 hB) (hK0 : ∀ (w2 : Int) (w3 : Int) (h : MH), LR h → KD hB h → K0 w2 w3 h = some r → RK xs L iX11_ruled (d + 6) 112 [(1, .inl u1), (2, .inl w2), (3, .inl w3)] [] h (RIo r) h0 r.2) : ∀ (f : Nat) (v2 : Int) (v3 : Int) (v4 : Int) (h : MH), LR h → KD hB h → GX11_ruled_L48 u1 K0 f v2 v3 v4 h = some r → RK xs L iX11_ruled (d + 6) 48 [(0, .inr (.inr 0)), (1, .inl u1), (2, .inl v2), (3, .inl v3), (4, .inl v4)] [] h (RIo r) h0 r.2 := by
  intro f
  induction f with
  | zero =>
    intro v2 v3 v4 h hL hJ hF
    cases hF
  | succ f ih =>
    intro v2 v3 v4 h hL hJ hF
    unfold GX11_ruled_L48 at hF
    have hK := hB0.tr hJ
    refine RK.of (RN.blk (ops := [(48, .iload 4), (50, .aload_n 0), (51, .getfield 120)]) (pc' := 54) (lv' := [(0, .inr (.inr 0)), (1, .inl u1), (2, .inl v2), (3, .inl v3), (4, .inl v4)]) (st' := [.inl (m_rd h 0 4), .inl v4]) (h' := h) (cs := [GK h 0 11]) (by decide +kernel) rfl ⟨(o_0 hL).gk, trivial⟩) ?_
    rcases it_of hF with ⟨hb, hF⟩ | ⟨hb, hF⟩
    · refine RK.of (RN.icf (cd := .ge) (off := 58) (tgt := 112) (by decide +kernel) (mif_gen hb)) ?_
      refine RK.of (RN.blk (ops := [(57, .aload_n 0)]) (pc' := 58) (lv' := [(0, .inr (.inr 0)), (1, .inl u1), (2, .inl v2), (3, .inl v3), (4, .inl v4)]) (st' := [.inr (.inr 0)]) (h' := h) (cs := []) (by decide +kernel) rfl trivial) ?_
      refine RK.of (RN.gr (i := 72) (ci := 11) (k := 12) (fn := true) (v := 310) (by decide +kernel) rfl (TO.gk (o_0 hL)) (hL.fo (v := 310) 12 7 (o_0 hL) rfl (by decide) rfl).1) ?_
      refine RK.of (RN.gr (i := 209) (ci := 7) (k := 1) (fn := true) (v := 314) (by decide +kernel) rfl (TO.gk (o_310 hL)) (hL.fo (v := 314) 1 10 (o_310 hL) rfl (by decide) rfl).1) ?_
      refine RK.of (RN.blk (ops := [(64, .aload_n 0)]) (pc' := 65) (lv' := [(0, .inr (.inr 0)), (1, .inl u1), (2, .inl v2), (3, .inl v3), (4, .inl v4)]) (st' := [.inr (.inr 0), .inr (.inr 314)]) (h' := h) (cs := []) (by decide +kernel) rfl trivial) ?_
      refine RK.of (RN.gr (i := 41) (ci := 11) (k := 5) (fn := true) (v := 20) (by decide +kernel) rfl (TO.gk (o_0 hL)) (hL.fo (v := 20) 5 2 (o_0 hL) rfl (by decide) rfl).1) ?_
      refine RK.of (RN.gr (i := 316) (ci := 2) (k := 1) (fn := true) (v := 24) (by decide +kernel) rfl (TO.gk (o_20 hL)) (hL.fo (v := 24) 1 10 (o_20 hL) rfl (by decide) rfl).1) ?_
      obtain ⟨h1, hG, hF⟩ := bv_of hF
      have hq := rcv_ok (as := [.inr (.inr 24)]) (TO.gk (o_314 hL))
      obtain ⟨hN, hL, hQ⟩ := DX10_copyFrom (d := d + 3) hL (o_314 hL) (o_24 hL) hG
      refine RK.of (RN.cv (i := 212) (k := 101) (q2 := iX10_copyFrom) (as := [.inr (.inr 314), .inr (.inr 24)]) (r := []) (v := none) (h1 := h1) (by decide +kernel) rfl rfl rfl rfl rfl hq hN) ?_
      have hK := hK.tr hQ
      have hJ := hJ.tr hQ
      refine RK.of (RN.blk (ops := [(74, .aload_n 0)]) (pc' := 75) (lv' := [(0, .inr (.inr 0)), (1, .inl u1), (2, .inl v2), (3, .inl v3), (4, .inl v4)]) (st' := [.inr (.inr 0)]) (h' := h1) (cs := []) (by decide +kernel) rfl trivial) ?_
      refine RK.of (RN.gr (i := 72) (ci := 11) (k := 12) (fn := true) (v := 310) (by decide +kernel) rfl (TO.gk (o_0 hL)) (hL.fo (v := 310) 12 7 (o_0 hL) rfl (by decide) rfl).1) ?_
      refine RK.of (RN.blk (ops := [(78, .aload_n 0)]) (pc' := 79) (lv' := [(0, .inr (.inr 0)), (1, .inl u1), (2, .inl v2), (3, .inl v3), (4, .inl v4)]) (st' := [.inr (.inr 0), .inr (.inr 310)]) (h' := h1) (cs := []) (by decide +kernel) rfl trivial) ?_
      refine RK.of (RN.gr (i := 41) (ci := 11) (k := 5) (fn := true) (v := 20) (by decide +kernel) rfl (TO.gk (o_0 hL)) (hL.fo (v := 20) 5 2 (o_0 hL) rfl (by decide) rfl).1) ?_
      refine RK.of (RN.blk (ops := [(82, .aload_n 0), (83, .iload 4)]) (pc' := 85) (lv' := [(0, .inr (.inr 0)), (1, .inl u1), (2, .inl v2), (3, .inl v3), (4, .inl v4)]) (st' := [.inl v4, .inr (.inr 0), .inr (.inr 20), .inr (.inr 310)]) (h' := h1) (cs := []) (by decide +kernel) rfl trivial) ?_
      obtain ⟨x3, h2, hG, hF⟩ := bd_of hF
      have hq := rcv_ok (as := [.inl v4]) (TO.gk (o_0 hL))
      obtain ⟨hN, hL, hQ⟩ := DX11_ruleAt (d := d + 5) hL  hG
      refine RK.of (RN.cv (i := 335) (k := 150) (q2 := iX11_ruleAt) (as := [.inr (.inr 0), .inl v4]) (r := [.inr (.inr 20), .inr (.inr 310)]) (v := some (.inr (.inr x3))) (h1 := h2) (by decide +kernel) rfl rfl rfl rfl rfl hq hN) ?_
      have hK := hK.tr hQ
      have hJ := hJ.tr hQ
      obtain ⟨x5, h4, hG, hF⟩ := bd_of hF
      have hq := rcv_ok (as := [.inr (.inr 20), .inr (.inr x3)]) (TO.gk (o_310 hL))
      obtain ⟨hN, hL, hQ⟩ := DX7_agrees (d := d) hL (o_20 hL) hG
      refine RK.of (RN.cv (i := 323) (k := 75) (q2 := iX7_agrees) (as := [.inr (.inr 310), .inr (.inr 20), .inr (.inr x3)]) (r := []) (v := some (.inl x5)) (h1 := h4) (by decide +kernel) rfl rfl rfl rfl rfl hq hN) ?_
      have hK := hK.tr hQ
      have hJ := hJ.tr hQ
      rcases it_of hF with ⟨hb, hF⟩ | ⟨hb, hF⟩
      · refine RK.of (RN.ift (cd := .eq) (off := 15) (tgt := 106) (by decide +kernel) (mif_eq hb)) ?_
        refine RK.of (RN.blk (ops := [(106, .iinc 4 1)]) (pc' := 109) (lv' := [(4, .inl (m_w32 (v4 + 1))), (0, .inr (.inr 0)), (1, .inl u1), (2, .inl v2), (3, .inl v3)]) (st' := []) (h' := h4) (cs := []) (by decide +kernel) rfl trivial) ?_
        refine RK.of (RN.goto (off := -61) (tgt := 48) (by decide +kernel)) ?_
        exact RK.sub (ih _ _ _ _ hL hJ hF) (sub_cons rfl (sub_cons rfl (sub_cons rfl (sub_cons rfl (sub_cons rfl sub_nil)))))
      · refine RK.of (RN.iff (cd := .eq) (off := 15) (tgt := 106) (by decide +kernel) (mif_eqn hb)) ?_
        refine RK.of (RN.blk (ops := [(94, .iinc 2 1), (97, .iload_n 3), (98, .bipush (-2))]) (pc' := 100) (lv' := [(2, .inl (m_w32 (v2 + 1))), (0, .inr (.inr 0)), (1, .inl u1), (3, .inl v3), (4, .inl v4)]) (st' := [.inl (-2), .inl v3]) (h' := h4) (cs := []) (by decide +kernel) rfl trivial) ?_
        rcases it_of hF with ⟨hb, hF⟩ | ⟨hb, hF⟩
        · refine RK.of (RN.icf (cd := .ne) (off := 6) (tgt := 106) (by decide +kernel) (mif_nen hb)) ?_
          refine RK.of (RN.blk (ops := [(103, .iload 4), (105, .istore_n 3)]) (pc' := 106) (lv' := [(3, .inl v4), (2, .inl (m_w32 (v2 + 1))), (0, .inr (.inr 0)), (1, .inl u1), (4, .inl v4)]) (st' := []) (h' := h4) (cs := []) (by decide +kernel) rfl trivial) ?_
          refine RK.of (RN.blk (ops := [(106, .iinc 4 1)]) (pc' := 109) (lv' := [(4, .inl (m_w32 (v4 + 1))), (3, .inl v4), (2, .inl (m_w32 (v2 + 1))), (0, .inr (.inr 0)), (1, .inl u1)]) (st' := []) (h' := h4) (cs := []) (by decide +kernel) rfl trivial) ?_
          refine RK.of (RN.goto (off := -61) (tgt := 48) (by decide +kernel)) ?_
          exact RK.sub (ih _ _ _ _ hL hJ hF) (sub_cons rfl (sub_cons rfl (sub_cons rfl (sub_cons rfl (sub_cons rfl sub_nil)))))
        · refine RK.of (RN.ict (cd := .ne) (off := 6) (tgt := 106) (by decide +kernel) (mif_ne hb)) ?_
          refine RK.of (RN.blk (ops := [(106, .iinc 4 1)]) (pc' := 109) (lv' := [(4, .inl (m_w32 (v4 + 1))), (2, .inl (m_w32 (v2 + 1))), (0, .inr (.inr 0)), (1, .inl u1), (3, .inl v3)]) (st' := []) (h' := h4) (cs := []) (by decide +kernel) rfl trivial) ?_
          refine RK.of (RN.goto (off := -61) (tgt := 48) (by decide +kernel)) ?_
          exact RK.sub (ih _ _ _ _ hL hJ hF) (sub_cons rfl (sub_cons rfl (sub_cons rfl (sub_cons rfl (sub_cons rfl sub_nil)))))
    · refine RK.of (RN.ict (cd := .ge) (off := 58) (tgt := 112) (by decide +kernel) (mif_ge hb)) ?_
      exact RK.sub (hK0 _ _ _ hL hJ hF) (sub_cons rfl (sub_cons rfl (sub_cons rfl sub_nil)))
noncomputable def GX11_ruled (a1 : Int) (h : MH) : Option (Int × MH) :=
  (bd (GX11_hasFrame h) (fun x2 h1 =>
   (if x2 = 0 then
    some ((-3), h1)
   else
    (if a1 < 0 then
     some ((-3), h1)
    else
     (if 1 < a1 then
      some ((-3), h1)
     else
      (bv (GX7_start 21 24 h1) (fun h3 =>
       GX11_ruled_L48 a1 (fun w4 w5 h6 =>
        (if a1 = 0 then
         some (w4, h6)
        else
         some (w5, h6))) FU 0 (-2) (-1) h3)))))))
theorem DX11_ruled {d : Nat} {a1 : Int} {h : MH} {r : Int × MH} (hL : LR h) (hF : GX11_ruled a1 h = some r) : RN xs L iX11_ruled (d + 6) 0 (lvE 0 [.inr (.inr 0), .inl a1]) [] h (RIo r) ∧ LR r.2 ∧ KD h r.2 := by
  unfold GX11_ruled at hF
  have hK : KD h h := KD.rf
  show RK xs L iX11_ruled (d + 6) 0 (lvE 0 [.inr (.inr 0), .inl a1]) [] h (RIo r) h r.2
  refine RK.of (RN.blk (ops := [(0, .aload_n 0)]) (pc' := 1) (lv' := [(0, .inr (.inr 0)), (1, .inl a1)]) (st' := [.inr (.inr 0)]) (h' := h) (cs := []) (by decide +kernel) rfl trivial) ?_
  obtain ⟨x2, h1, hG, hF⟩ := bd_of hF
  have hq := rcv_ok (as := []) (TO.gk (o_0 hL))
  obtain ⟨hN, hL, hQ⟩ := DX11_hasFrame (d := d + 5) hL  hG
  refine RK.of (RN.cv (i := 191) (k := 149) (q2 := iX11_hasFrame) (as := [.inr (.inr 0)]) (r := []) (v := some (.inl x2)) (h1 := h1) (by decide +kernel) rfl rfl rfl rfl rfl hq hN) ?_
  have hK := hK.tr hQ
  rcases it_of hF with ⟨hb, hF⟩ | ⟨hb, hF⟩
  · refine RK.of (RN.ift (cd := .eq) (off := 12) (tgt := 16) (by decide +kernel) (mif_eq hb)) ?_
    refine RK.of (RN.blk (ops := [(16, .bipush (-3))]) (pc' := 18) (lv' := [(0, .inr (.inr 0)), (1, .inl a1)]) (st' := [.inl (-3)]) (h' := h1) (cs := []) (by decide +kernel) rfl trivial) ?_
    exact RK.iR (by decide +kernel) rfl hL hK hF
  · refine RK.of (RN.iff (cd := .eq) (off := 12) (tgt := 16) (by decide +kernel) (mif_eqn hb)) ?_
    refine RK.of (RN.blk (ops := [(7, .iload_n 1)]) (pc' := 8) (lv' := [(0, .inr (.inr 0)), (1, .inl a1)]) (st' := [.inl a1]) (h' := h1) (cs := []) (by decide +kernel) rfl trivial) ?_
    rcases it_of hF with ⟨hb, hF⟩ | ⟨hb, hF⟩
    · refine RK.of (RN.ift (cd := .lt) (off := 8) (tgt := 16) (by decide +kernel) (mif_lt hb)) ?_
      refine RK.of (RN.blk (ops := [(16, .bipush (-3))]) (pc' := 18) (lv' := [(0, .inr (.inr 0)), (1, .inl a1)]) (st' := [.inl (-3)]) (h' := h1) (cs := []) (by decide +kernel) rfl trivial) ?_
      exact RK.iR (by decide +kernel) rfl hL hK hF
    · refine RK.of (RN.iff (cd := .lt) (off := 8) (tgt := 16) (by decide +kernel) (mif_ltn hb)) ?_
      refine RK.of (RN.blk (ops := [(11, .iload_n 1), (12, .iconst 1)]) (pc' := 13) (lv' := [(0, .inr (.inr 0)), (1, .inl a1)]) (st' := [.inl 1, .inl a1]) (h' := h1) (cs := []) (by decide +kernel) rfl trivial) ?_
      rcases it_of hF with ⟨hb, hF⟩ | ⟨hb, hF⟩
      · refine RK.of (RN.icf (cd := .le) (off := 6) (tgt := 19) (by decide +kernel) (mif_len hb)) ?_
        refine RK.of (RN.blk (ops := [(16, .bipush (-3))]) (pc' := 18) (lv' := [(0, .inr (.inr 0)), (1, .inl a1)]) (st' := [.inl (-3)]) (h' := h1) (cs := []) (by decide +kernel) rfl trivial) ?_
        exact RK.iR (by decide +kernel) rfl hL hK hF
      · refine RK.of (RN.ict (cd := .le) (off := 6) (tgt := 19) (by decide +kernel) (mif_le hb)) ?_
        refine RK.of (RN.blk (ops := [(19, .aload_n 0)]) (pc' := 20) (lv' := [(0, .inr (.inr 0)), (1, .inl a1)]) (st' := [.inr (.inr 0)]) (h' := h1) (cs := []) (by decide +kernel) rfl trivial) ?_
        refine RK.of (RN.gr (i := 72) (ci := 11) (k := 12) (fn := true) (v := 310) (by decide +kernel) rfl (TO.gk (o_0 hL)) (hL.fo (v := 310) 12 7 (o_0 hL) rfl (by decide) rfl).1) ?_
        refine RK.of (RN.blk (ops := [(23, .aload_n 0)]) (pc' := 24) (lv' := [(0, .inr (.inr 0)), (1, .inl a1)]) (st' := [.inr (.inr 0), .inr (.inr 310)]) (h' := h1) (cs := []) (by decide +kernel) rfl trivial) ?_
        refine RK.of (RN.gr (i := 41) (ci := 11) (k := 5) (fn := true) (v := 20) (by decide +kernel) rfl (TO.gk (o_0 hL)) (hL.fo (v := 20) 5 2 (o_0 hL) rfl (by decide) rfl).1) ?_
        refine RK.of (RN.gr (i := 130) (ci := 2) (k := 0) (fn := true) (v := 21) (by decide +kernel) rfl (TO.gk (o_20 hL)) (hL.fo (v := 21) 0 8 (o_20 hL) rfl (by decide) rfl).1) ?_
        refine RK.of (RN.blk (ops := [(30, .aload_n 0)]) (pc' := 31) (lv' := [(0, .inr (.inr 0)), (1, .inl a1)]) (st' := [.inr (.inr 0), .inr (.inr 21), .inr (.inr 310)]) (h' := h1) (cs := []) (by decide +kernel) rfl trivial) ?_
        refine RK.of (RN.gr (i := 41) (ci := 11) (k := 5) (fn := true) (v := 20) (by decide +kernel) rfl (TO.gk (o_0 hL)) (hL.fo (v := 20) 5 2 (o_0 hL) rfl (by decide) rfl).1) ?_
        refine RK.of (RN.gr (i := 316) (ci := 2) (k := 1) (fn := true) (v := 24) (by decide +kernel) rfl (TO.gk (o_20 hL)) (hL.fo (v := 24) 1 10 (o_20 hL) rfl (by decide) rfl).1) ?_
        obtain ⟨h3, hG, hF⟩ := bv_of hF
        have hq := rcv_ok (as := [.inr (.inr 21), .inr (.inr 24)]) (TO.gk (o_310 hL))
        obtain ⟨hN, hL, hQ⟩ := DX7_start (d := d + 2) hL (o_21 hL) (o_24 hL) hG
        refine RK.of (RN.cv (i := 317) (k := 67) (q2 := iX7_start) (as := [.inr (.inr 310), .inr (.inr 21), .inr (.inr 24)]) (r := []) (v := none) (h1 := h3) (by decide +kernel) rfl rfl rfl rfl rfl hq hN) ?_
        have hK := hK.tr hQ
        refine RK.of (RN.blk (ops := [(40, .iconst 0), (41, .istore_n 2), (42, .bipush (-2)), (44, .istore_n 3), (45, .iconst (-1)), (46, .istore 4)]) (pc' := 48) (lv' := [(4, .inl (-1)), (3, .inl (-2)), (2, .inl 0), (0, .inr (.inr 0)), (1, .inl a1)]) (st' := []) (h' := h3) (cs := []) (by decide +kernel) rfl trivial) ?_
        refine RK.sub (DX11_ruled_L48 hK ?_ _ _ _ _ _ hL KD.rf hF) (sub_cons rfl (sub_cons rfl (sub_cons rfl (sub_cons rfl (sub_cons rfl sub_nil)))))
        · intro w4 w5 h6 hL hq hF
          have hK := hK.tr hq
          refine RK.of (RN.blk (ops := [(112, .iload_n 1)]) (pc' := 113) (lv' := [(1, .inl a1), (2, .inl w4), (3, .inl w5)]) (st' := [.inl a1]) (h' := h6) (cs := []) (by decide +kernel) rfl trivial) ?_
          rcases it_of hF with ⟨hb, hF⟩ | ⟨hb, hF⟩
          · refine RK.of (RN.iff (cd := .ne) (off := 7) (tgt := 120) (by decide +kernel) (mif_nen hb)) ?_
            refine RK.of (RN.blk (ops := [(116, .iload_n 2)]) (pc' := 117) (lv' := [(1, .inl a1), (2, .inl w4), (3, .inl w5)]) (st' := [.inl w4]) (h' := h6) (cs := []) (by decide +kernel) rfl trivial) ?_
            refine RK.of (RN.goto (off := 4) (tgt := 121) (by decide +kernel)) ?_
            exact RK.iR (by decide +kernel) rfl hL hK hF
          · refine RK.of (RN.ift (cd := .ne) (off := 7) (tgt := 120) (by decide +kernel) (mif_ne hb)) ?_
            refine RK.of (RN.blk (ops := [(120, .iload_n 3)]) (pc' := 121) (lv' := [(1, .inl a1), (2, .inl w4), (3, .inl w5)]) (st' := [.inl w5]) (h' := h6) (cs := []) (by decide +kernel) rfl trivial) ?_
            exact RK.iR (by decide +kernel) rfl hL hK hF
noncomputable def GX11_look_L59 (u1 : Int) (u2 : Int) (K0 : MH → Option (Int × MH)) : Nat → Int → MH → Option (Int × MH)
  | 0, _, _ => none
  | f + 1, v3, h =>
    (if v3 < (m_rd h 0 4) then
     (bv (GX10_copyFrom 314 24 h) (fun h1 =>
      (bd (GX11_ruleAt v3 h1) (fun x3 h2 =>
       (bd (GX7_agrees 20 x3 h2) (fun x5 h4 =>
        (if x5 = 0 then
         GX11_look_L59 u1 u2 K0 f (m_w32 (v3 + 1)) h4
        else
         (bv (GX10_copyFrom 314 24 h4) (fun h6 =>
          (bd (GX11_ruleAt v3 h6) (fun x8 h7 =>
           (bv (GX7_steps x8 (m_w32 (u1 + 1)) h7) (fun h9 =>
            (bv (GX0_addSight 320 h9) (fun h10 =>
             GX11_look_L59 u1 u2 K0 f (m_w32 (v3 + 1)) h10)))))))))))))))
    else
     K0 h)
theorem DX11_look_L59 {d : Nat} {u1 : Int} {u2 : Int} {K0 : MH → Option (Int × MH)} {r : Int × MH} {h0 hB : MH} (hB0 : KD h0 hB) (hK0 : ∀ (h : MH), LR h → KD hB h → K0 h = some r → RK xs L iX11_look (d + 6) 158 [(0, .inr (.inr 0)), (2, .inl u2)] [] h (RIo r) h0 r.2) : ∀ (f : Nat) (v3 : Int) (h : MH), LR h → KD hB h → GX11_look_L59 u1 u2 K0 f v3 h = some r → RK xs L iX11_look (d + 6) 59 [(0, .inr (.inr 0)), (1, .inl u1), (2, .inl u2), (3, .inl v3)] [] h (RIo r) h0 r.2 := by
  intro f
  induction f with
  | zero =>
    intro v3 h hL hJ hF
    cases hF
  | succ f ih =>
    intro v3 h hL hJ hF
    unfold GX11_look_L59 at hF
    have hK := hB0.tr hJ
    refine RK.of (RN.blk (ops := [(59, .iload_n 3), (60, .aload_n 0), (61, .getfield 120)]) (pc' := 64) (lv' := [(0, .inr (.inr 0)), (1, .inl u1), (2, .inl u2), (3, .inl v3)]) (st' := [.inl (m_rd h 0 4), .inl v3]) (h' := h) (cs := [GK h 0 11]) (by decide +kernel) rfl ⟨(o_0 hL).gk, trivial⟩) ?_
    rcases it_of hF with ⟨hb, hF⟩ | ⟨hb, hF⟩
    · refine RK.of (RN.icf (cd := .ge) (off := 94) (tgt := 158) (by decide +kernel) (mif_gen hb)) ?_
      refine RK.of (RN.blk (ops := [(67, .aload_n 0)]) (pc' := 68) (lv' := [(0, .inr (.inr 0)), (1, .inl u1), (2, .inl u2), (3, .inl v3)]) (st' := [.inr (.inr 0)]) (h' := h) (cs := []) (by decide +kernel) rfl trivial) ?_
      refine RK.of (RN.gr (i := 72) (ci := 11) (k := 12) (fn := true) (v := 310) (by decide +kernel) rfl (TO.gk (o_0 hL)) (hL.fo (v := 310) 12 7 (o_0 hL) rfl (by decide) rfl).1) ?_
      refine RK.of (RN.gr (i := 209) (ci := 7) (k := 1) (fn := true) (v := 314) (by decide +kernel) rfl (TO.gk (o_310 hL)) (hL.fo (v := 314) 1 10 (o_310 hL) rfl (by decide) rfl).1) ?_
      refine RK.of (RN.blk (ops := [(74, .aload_n 0)]) (pc' := 75) (lv' := [(0, .inr (.inr 0)), (1, .inl u1), (2, .inl u2), (3, .inl v3)]) (st' := [.inr (.inr 0), .inr (.inr 314)]) (h' := h) (cs := []) (by decide +kernel) rfl trivial) ?_
      refine RK.of (RN.gr (i := 41) (ci := 11) (k := 5) (fn := true) (v := 20) (by decide +kernel) rfl (TO.gk (o_0 hL)) (hL.fo (v := 20) 5 2 (o_0 hL) rfl (by decide) rfl).1) ?_
      refine RK.of (RN.gr (i := 316) (ci := 2) (k := 1) (fn := true) (v := 24) (by decide +kernel) rfl (TO.gk (o_20 hL)) (hL.fo (v := 24) 1 10 (o_20 hL) rfl (by decide) rfl).1) ?_
      obtain ⟨h1, hG, hF⟩ := bv_of hF
      have hq := rcv_ok (as := [.inr (.inr 24)]) (TO.gk (o_314 hL))
      obtain ⟨hN, hL, hQ⟩ := DX10_copyFrom (d := d + 3) hL (o_314 hL) (o_24 hL) hG
      refine RK.of (RN.cv (i := 212) (k := 101) (q2 := iX10_copyFrom) (as := [.inr (.inr 314), .inr (.inr 24)]) (r := []) (v := none) (h1 := h1) (by decide +kernel) rfl rfl rfl rfl rfl hq hN) ?_
      have hK := hK.tr hQ
      have hJ := hJ.tr hQ
      refine RK.of (RN.blk (ops := [(84, .aload_n 0)]) (pc' := 85) (lv' := [(0, .inr (.inr 0)), (1, .inl u1), (2, .inl u2), (3, .inl v3)]) (st' := [.inr (.inr 0)]) (h' := h1) (cs := []) (by decide +kernel) rfl trivial) ?_
      refine RK.of (RN.gr (i := 72) (ci := 11) (k := 12) (fn := true) (v := 310) (by decide +kernel) rfl (TO.gk (o_0 hL)) (hL.fo (v := 310) 12 7 (o_0 hL) rfl (by decide) rfl).1) ?_
      refine RK.of (RN.blk (ops := [(88, .aload_n 0)]) (pc' := 89) (lv' := [(0, .inr (.inr 0)), (1, .inl u1), (2, .inl u2), (3, .inl v3)]) (st' := [.inr (.inr 0), .inr (.inr 310)]) (h' := h1) (cs := []) (by decide +kernel) rfl trivial) ?_
      refine RK.of (RN.gr (i := 41) (ci := 11) (k := 5) (fn := true) (v := 20) (by decide +kernel) rfl (TO.gk (o_0 hL)) (hL.fo (v := 20) 5 2 (o_0 hL) rfl (by decide) rfl).1) ?_
      refine RK.of (RN.blk (ops := [(92, .aload_n 0), (93, .iload_n 3)]) (pc' := 94) (lv' := [(0, .inr (.inr 0)), (1, .inl u1), (2, .inl u2), (3, .inl v3)]) (st' := [.inl v3, .inr (.inr 0), .inr (.inr 20), .inr (.inr 310)]) (h' := h1) (cs := []) (by decide +kernel) rfl trivial) ?_
      obtain ⟨x3, h2, hG, hF⟩ := bd_of hF
      have hq := rcv_ok (as := [.inl v3]) (TO.gk (o_0 hL))
      obtain ⟨hN, hL, hQ⟩ := DX11_ruleAt (d := d + 5) hL  hG
      refine RK.of (RN.cv (i := 335) (k := 150) (q2 := iX11_ruleAt) (as := [.inr (.inr 0), .inl v3]) (r := [.inr (.inr 20), .inr (.inr 310)]) (v := some (.inr (.inr x3))) (h1 := h2) (by decide +kernel) rfl rfl rfl rfl rfl hq hN) ?_
      have hK := hK.tr hQ
      have hJ := hJ.tr hQ
      obtain ⟨x5, h4, hG, hF⟩ := bd_of hF
      have hq := rcv_ok (as := [.inr (.inr 20), .inr (.inr x3)]) (TO.gk (o_310 hL))
      obtain ⟨hN, hL, hQ⟩ := DX7_agrees (d := d) hL (o_20 hL) hG
      refine RK.of (RN.cv (i := 323) (k := 75) (q2 := iX7_agrees) (as := [.inr (.inr 310), .inr (.inr 20), .inr (.inr x3)]) (r := []) (v := some (.inl x5)) (h1 := h4) (by decide +kernel) rfl rfl rfl rfl rfl hq hN) ?_
      have hK := hK.tr hQ
      have hJ := hJ.tr hQ
      rcases it_of hF with ⟨hb, hF⟩ | ⟨hb, hF⟩
      · refine RK.of (RN.ift (cd := .eq) (off := 52) (tgt := 152) (by decide +kernel) (mif_eq hb)) ?_
        refine RK.of (RN.blk (ops := [(152, .iinc 3 1)]) (pc' := 155) (lv' := [(3, .inl (m_w32 (v3 + 1))), (0, .inr (.inr 0)), (1, .inl u1), (2, .inl u2)]) (st' := []) (h' := h4) (cs := []) (by decide +kernel) rfl trivial) ?_
        refine RK.of (RN.goto (off := -96) (tgt := 59) (by decide +kernel)) ?_
        exact RK.sub (ih _ _ hL hJ hF) (sub_cons rfl (sub_cons rfl (sub_cons rfl (sub_cons rfl sub_nil))))
      · refine RK.of (RN.iff (cd := .eq) (off := 52) (tgt := 152) (by decide +kernel) (mif_eqn hb)) ?_
        refine RK.of (RN.blk (ops := [(103, .aload_n 0)]) (pc' := 104) (lv' := [(0, .inr (.inr 0)), (1, .inl u1), (2, .inl u2), (3, .inl v3)]) (st' := [.inr (.inr 0)]) (h' := h4) (cs := []) (by decide +kernel) rfl trivial) ?_
        refine RK.of (RN.gr (i := 72) (ci := 11) (k := 12) (fn := true) (v := 310) (by decide +kernel) rfl (TO.gk (o_0 hL)) (hL.fo (v := 310) 12 7 (o_0 hL) rfl (by decide) rfl).1) ?_
        refine RK.of (RN.gr (i := 209) (ci := 7) (k := 1) (fn := true) (v := 314) (by decide +kernel) rfl (TO.gk (o_310 hL)) (hL.fo (v := 314) 1 10 (o_310 hL) rfl (by decide) rfl).1) ?_
        refine RK.of (RN.blk (ops := [(110, .aload_n 0)]) (pc' := 111) (lv' := [(0, .inr (.inr 0)), (1, .inl u1), (2, .inl u2), (3, .inl v3)]) (st' := [.inr (.inr 0), .inr (.inr 314)]) (h' := h4) (cs := []) (by decide +kernel) rfl trivial) ?_
        refine RK.of (RN.gr (i := 41) (ci := 11) (k := 5) (fn := true) (v := 20) (by decide +kernel) rfl (TO.gk (o_0 hL)) (hL.fo (v := 20) 5 2 (o_0 hL) rfl (by decide) rfl).1) ?_
        refine RK.of (RN.gr (i := 316) (ci := 2) (k := 1) (fn := true) (v := 24) (by decide +kernel) rfl (TO.gk (o_20 hL)) (hL.fo (v := 24) 1 10 (o_20 hL) rfl (by decide) rfl).1) ?_
        obtain ⟨h6, hG, hF⟩ := bv_of hF
        have hq := rcv_ok (as := [.inr (.inr 24)]) (TO.gk (o_314 hL))
        obtain ⟨hN, hL, hQ⟩ := DX10_copyFrom (d := d + 3) hL (o_314 hL) (o_24 hL) hG
        refine RK.of (RN.cv (i := 212) (k := 101) (q2 := iX10_copyFrom) (as := [.inr (.inr 314), .inr (.inr 24)]) (r := []) (v := none) (h1 := h6) (by decide +kernel) rfl rfl rfl rfl rfl hq hN) ?_
        have hK := hK.tr hQ
        have hJ := hJ.tr hQ
        refine RK.of (RN.blk (ops := [(120, .aload_n 0)]) (pc' := 121) (lv' := [(0, .inr (.inr 0)), (1, .inl u1), (2, .inl u2), (3, .inl v3)]) (st' := [.inr (.inr 0)]) (h' := h6) (cs := []) (by decide +kernel) rfl trivial) ?_
        refine RK.of (RN.gr (i := 72) (ci := 11) (k := 12) (fn := true) (v := 310) (by decide +kernel) rfl (TO.gk (o_0 hL)) (hL.fo (v := 310) 12 7 (o_0 hL) rfl (by decide) rfl).1) ?_
        refine RK.of (RN.blk (ops := [(124, .aload_n 0), (125, .iload_n 3)]) (pc' := 126) (lv' := [(0, .inr (.inr 0)), (1, .inl u1), (2, .inl u2), (3, .inl v3)]) (st' := [.inl v3, .inr (.inr 0), .inr (.inr 310)]) (h' := h6) (cs := []) (by decide +kernel) rfl trivial) ?_
        obtain ⟨x8, h7, hG, hF⟩ := bd_of hF
        have hq := rcv_ok (as := [.inl v3]) (TO.gk (o_0 hL))
        obtain ⟨hN, hL, hQ⟩ := DX11_ruleAt (d := d + 5) hL  hG
        refine RK.of (RN.cv (i := 335) (k := 150) (q2 := iX11_ruleAt) (as := [.inr (.inr 0), .inl v3]) (r := [.inr (.inr 310)]) (v := some (.inr (.inr x8))) (h1 := h7) (by decide +kernel) rfl rfl rfl rfl rfl hq hN) ?_
        have hK := hK.tr hQ
        have hJ := hJ.tr hQ
        refine RK.of (RN.blk (ops := [(129, .iload_n 1), (130, .iconst 1), (131, .iadd)]) (pc' := 132) (lv' := [(0, .inr (.inr 0)), (1, .inl u1), (2, .inl u2), (3, .inl v3)]) (st' := [.inl (m_w32 (u1 + 1)), .inr (.inr x8), .inr (.inr 310)]) (h' := h7) (cs := []) (by decide +kernel) rfl trivial) ?_
        obtain ⟨h9, hG, hF⟩ := bv_of hF
        have hq := rcv_ok (as := [.inr (.inr x8), .inl (m_w32 (u1 + 1))]) (TO.gk (o_310 hL))
        obtain ⟨hN, hL, hQ⟩ := DX7_steps (d := d) hL  hG
        refine RK.of (RN.cv (i := 304) (k := 72) (q2 := iX7_steps) (as := [.inr (.inr 310), .inr (.inr x8), .inl (m_w32 (u1 + 1))]) (r := []) (v := none) (h1 := h9) (by decide +kernel) rfl rfl rfl rfl rfl hq hN) ?_
        have hK := hK.tr hQ
        have hJ := hJ.tr hQ
        refine RK.of (RN.blk (ops := [(135, .aload_n 0)]) (pc' := 136) (lv' := [(0, .inr (.inr 0)), (1, .inl u1), (2, .inl u2), (3, .inl v3)]) (st' := [.inr (.inr 0)]) (h' := h9) (cs := []) (by decide +kernel) rfl trivial) ?_
        refine RK.of (RN.gr (i := 79) (ci := 11) (k := 13) (fn := true) (v := 323) (by decide +kernel) rfl (TO.gk (o_0 hL)) (hL.fo (v := 323) 13 0 (o_0 hL) rfl (by decide) rfl).1) ?_
        refine RK.of (RN.blk (ops := [(139, .aload_n 0)]) (pc' := 140) (lv' := [(0, .inr (.inr 0)), (1, .inl u1), (2, .inl u2), (3, .inl v3)]) (st' := [.inr (.inr 0), .inr (.inr 323)]) (h' := h9) (cs := []) (by decide +kernel) rfl trivial) ?_
        refine RK.of (RN.gr (i := 72) (ci := 11) (k := 12) (fn := true) (v := 310) (by decide +kernel) rfl (TO.gk (o_0 hL)) (hL.fo (v := 310) 12 7 (o_0 hL) rfl (by decide) rfl).1) ?_
        refine RK.of (RN.gr (i := 209) (ci := 7) (k := 1) (fn := true) (v := 314) (by decide +kernel) rfl (TO.gk (o_310 hL)) (hL.fo (v := 314) 1 10 (o_310 hL) rfl (by decide) rfl).1) ?_
        refine RK.of (RN.gr (i := 141) (ci := 10) (k := 3) (fn := true) (v := 320) (by decide +kernel) rfl (TO.gk (o_314 hL)) (hL.fa (v := 320) 3 1 6 (o_314 hL) rfl (by decide) rfl (by decide)).1) ?_
        obtain ⟨h10, hG, hF⟩ := bv_of hF
        have hq := rcv_ok (as := [.inr (.inr 320)]) (TO.gk (o_323 hL))
        obtain ⟨hN, hL, hQ⟩ := DX0_addSight (d := d + 4) hL  hG
        refine RK.of (RN.cv (i := 342) (k := 8) (q2 := iX0_addSight) (as := [.inr (.inr 323), .inr (.inr 320)]) (r := []) (v := none) (h1 := h10) (by decide +kernel) rfl rfl rfl rfl rfl hq hN) ?_
        have hK := hK.tr hQ
        have hJ := hJ.tr hQ
        refine RK.of (RN.blk (ops := [(152, .iinc 3 1)]) (pc' := 155) (lv' := [(3, .inl (m_w32 (v3 + 1))), (0, .inr (.inr 0)), (1, .inl u1), (2, .inl u2)]) (st' := []) (h' := h10) (cs := []) (by decide +kernel) rfl trivial) ?_
        refine RK.of (RN.goto (off := -96) (tgt := 59) (by decide +kernel)) ?_
        exact RK.sub (ih _ _ hL hJ hF) (sub_cons rfl (sub_cons rfl (sub_cons rfl (sub_cons rfl sub_nil))))
    · refine RK.of (RN.ict (cd := .ge) (off := 94) (tgt := 158) (by decide +kernel) (mif_ge hb)) ?_
      exact RK.sub (hK0 _ hL hJ hF) (sub_cons rfl (sub_cons rfl sub_nil))
noncomputable def GX11_look (a1 : Int) (a2 : Int) (h : MH) : Option (Int × MH) :=
  (bd (GX11_hasFrame h) (fun x2 h1 =>
   (if x2 = 0 then
    some ((-1), h1)
   else
    (if a1 < 0 then
     some ((-1), h1)
    else
     (if 60 < a1 then
      some ((-1), h1)
     else
      (if a2 < 0 then
       some ((-1), h1)
      else
       (if 1 < a2 then
        some ((-1), h1)
       else
        (bv (GX7_start 21 24 h1) (fun h3 =>
         GX11_look_L59 a1 a2 (fun h4 =>
          (if (m_rd h4 323 6) = 0 then
           some ((-2), h4)
          else
           (bv (GX0_seekSight (m_rd h4 21 2) h4) (fun h5 =>
            (if a2 = 0 then
             some ((m_rd h5 323 4), h5)
            else
             some ((m_rd h5 323 7), h5)))))) FU (-1) (m_wr h3 323 6 0))))))))))
theorem DX11_look {d : Nat} {a1 : Int} {a2 : Int} {h : MH} {r : Int × MH} (hL : LR h) (hF : GX11_look a1 a2 h = some r) : RN xs L iX11_look (d + 6) 0 (lvE 0 [.inr (.inr 0), .inl a1, .inl a2]) [] h (RIo r) ∧ LR r.2 ∧ KD h r.2 := by
  unfold GX11_look at hF
  have hK : KD h h := KD.rf
  show RK xs L iX11_look (d + 6) 0 (lvE 0 [.inr (.inr 0), .inl a1, .inl a2]) [] h (RIo r) h r.2
  refine RK.of (RN.blk (ops := [(0, .aload_n 0)]) (pc' := 1) (lv' := [(0, .inr (.inr 0)), (1, .inl a1), (2, .inl a2)]) (st' := [.inr (.inr 0)]) (h' := h) (cs := []) (by decide +kernel) rfl trivial) ?_
  obtain ⟨x2, h1, hG, hF⟩ := bd_of hF
  have hq := rcv_ok (as := []) (TO.gk (o_0 hL))
  obtain ⟨hN, hL, hQ⟩ := DX11_hasFrame (d := d + 5) hL  hG
  refine RK.of (RN.cv (i := 191) (k := 149) (q2 := iX11_hasFrame) (as := [.inr (.inr 0)]) (r := []) (v := some (.inl x2)) (h1 := h1) (by decide +kernel) rfl rfl rfl rfl rfl hq hN) ?_
  have hK := hK.tr hQ
  rcases it_of hF with ⟨hb, hF⟩ | ⟨hb, hF⟩
  · refine RK.of (RN.ift (cd := .eq) (off := 22) (tgt := 26) (by decide +kernel) (mif_eq hb)) ?_
    refine RK.of (RN.blk (ops := [(26, .iconst (-1))]) (pc' := 27) (lv' := [(0, .inr (.inr 0)), (1, .inl a1), (2, .inl a2)]) (st' := [.inl (-1)]) (h' := h1) (cs := []) (by decide +kernel) rfl trivial) ?_
    exact RK.iR (by decide +kernel) rfl hL hK hF
  · refine RK.of (RN.iff (cd := .eq) (off := 22) (tgt := 26) (by decide +kernel) (mif_eqn hb)) ?_
    refine RK.of (RN.blk (ops := [(7, .iload_n 1)]) (pc' := 8) (lv' := [(0, .inr (.inr 0)), (1, .inl a1), (2, .inl a2)]) (st' := [.inl a1]) (h' := h1) (cs := []) (by decide +kernel) rfl trivial) ?_
    rcases it_of hF with ⟨hb, hF⟩ | ⟨hb, hF⟩
    · refine RK.of (RN.ift (cd := .lt) (off := 18) (tgt := 26) (by decide +kernel) (mif_lt hb)) ?_
      refine RK.of (RN.blk (ops := [(26, .iconst (-1))]) (pc' := 27) (lv' := [(0, .inr (.inr 0)), (1, .inl a1), (2, .inl a2)]) (st' := [.inl (-1)]) (h' := h1) (cs := []) (by decide +kernel) rfl trivial) ?_
      exact RK.iR (by decide +kernel) rfl hL hK hF
    · refine RK.of (RN.iff (cd := .lt) (off := 18) (tgt := 26) (by decide +kernel) (mif_ltn hb)) ?_
      refine RK.of (RN.blk (ops := [(11, .iload_n 1), (12, .bipush 60)]) (pc' := 14) (lv' := [(0, .inr (.inr 0)), (1, .inl a1), (2, .inl a2)]) (st' := [.inl 60, .inl a1]) (h' := h1) (cs := []) (by decide +kernel) rfl trivial) ?_
      rcases it_of hF with ⟨hb, hF⟩ | ⟨hb, hF⟩
      · refine RK.of (RN.ict (cd := .gt) (off := 12) (tgt := 26) (by decide +kernel) (mif_gt hb)) ?_
        refine RK.of (RN.blk (ops := [(26, .iconst (-1))]) (pc' := 27) (lv' := [(0, .inr (.inr 0)), (1, .inl a1), (2, .inl a2)]) (st' := [.inl (-1)]) (h' := h1) (cs := []) (by decide +kernel) rfl trivial) ?_
        exact RK.iR (by decide +kernel) rfl hL hK hF
      · refine RK.of (RN.icf (cd := .gt) (off := 12) (tgt := 26) (by decide +kernel) (mif_gtn hb)) ?_
        refine RK.of (RN.blk (ops := [(17, .iload_n 2)]) (pc' := 18) (lv' := [(0, .inr (.inr 0)), (1, .inl a1), (2, .inl a2)]) (st' := [.inl a2]) (h' := h1) (cs := []) (by decide +kernel) rfl trivial) ?_
        rcases it_of hF with ⟨hb, hF⟩ | ⟨hb, hF⟩
        · refine RK.of (RN.ift (cd := .lt) (off := 8) (tgt := 26) (by decide +kernel) (mif_lt hb)) ?_
          refine RK.of (RN.blk (ops := [(26, .iconst (-1))]) (pc' := 27) (lv' := [(0, .inr (.inr 0)), (1, .inl a1), (2, .inl a2)]) (st' := [.inl (-1)]) (h' := h1) (cs := []) (by decide +kernel) rfl trivial) ?_
          exact RK.iR (by decide +kernel) rfl hL hK hF
        · refine RK.of (RN.iff (cd := .lt) (off := 8) (tgt := 26) (by decide +kernel) (mif_ltn hb)) ?_
          refine RK.of (RN.blk (ops := [(21, .iload_n 2), (22, .iconst 1)]) (pc' := 23) (lv' := [(0, .inr (.inr 0)), (1, .inl a1), (2, .inl a2)]) (st' := [.inl 1, .inl a2]) (h' := h1) (cs := []) (by decide +kernel) rfl trivial) ?_
          rcases it_of hF with ⟨hb, hF⟩ | ⟨hb, hF⟩
          · refine RK.of (RN.icf (cd := .le) (off := 5) (tgt := 28) (by decide +kernel) (mif_len hb)) ?_
            refine RK.of (RN.blk (ops := [(26, .iconst (-1))]) (pc' := 27) (lv' := [(0, .inr (.inr 0)), (1, .inl a1), (2, .inl a2)]) (st' := [.inl (-1)]) (h' := h1) (cs := []) (by decide +kernel) rfl trivial) ?_
            exact RK.iR (by decide +kernel) rfl hL hK hF
          · refine RK.of (RN.ict (cd := .le) (off := 5) (tgt := 28) (by decide +kernel) (mif_le hb)) ?_
            refine RK.of (RN.blk (ops := [(28, .aload_n 0)]) (pc' := 29) (lv' := [(0, .inr (.inr 0)), (1, .inl a1), (2, .inl a2)]) (st' := [.inr (.inr 0)]) (h' := h1) (cs := []) (by decide +kernel) rfl trivial) ?_
            refine RK.of (RN.gr (i := 72) (ci := 11) (k := 12) (fn := true) (v := 310) (by decide +kernel) rfl (TO.gk (o_0 hL)) (hL.fo (v := 310) 12 7 (o_0 hL) rfl (by decide) rfl).1) ?_
            refine RK.of (RN.blk (ops := [(32, .aload_n 0)]) (pc' := 33) (lv' := [(0, .inr (.inr 0)), (1, .inl a1), (2, .inl a2)]) (st' := [.inr (.inr 0), .inr (.inr 310)]) (h' := h1) (cs := []) (by decide +kernel) rfl trivial) ?_
            refine RK.of (RN.gr (i := 41) (ci := 11) (k := 5) (fn := true) (v := 20) (by decide +kernel) rfl (TO.gk (o_0 hL)) (hL.fo (v := 20) 5 2 (o_0 hL) rfl (by decide) rfl).1) ?_
            refine RK.of (RN.gr (i := 130) (ci := 2) (k := 0) (fn := true) (v := 21) (by decide +kernel) rfl (TO.gk (o_20 hL)) (hL.fo (v := 21) 0 8 (o_20 hL) rfl (by decide) rfl).1) ?_
            refine RK.of (RN.blk (ops := [(39, .aload_n 0)]) (pc' := 40) (lv' := [(0, .inr (.inr 0)), (1, .inl a1), (2, .inl a2)]) (st' := [.inr (.inr 0), .inr (.inr 21), .inr (.inr 310)]) (h' := h1) (cs := []) (by decide +kernel) rfl trivial) ?_
            refine RK.of (RN.gr (i := 41) (ci := 11) (k := 5) (fn := true) (v := 20) (by decide +kernel) rfl (TO.gk (o_0 hL)) (hL.fo (v := 20) 5 2 (o_0 hL) rfl (by decide) rfl).1) ?_
            refine RK.of (RN.gr (i := 316) (ci := 2) (k := 1) (fn := true) (v := 24) (by decide +kernel) rfl (TO.gk (o_20 hL)) (hL.fo (v := 24) 1 10 (o_20 hL) rfl (by decide) rfl).1) ?_
            obtain ⟨h3, hG, hF⟩ := bv_of hF
            have hq := rcv_ok (as := [.inr (.inr 21), .inr (.inr 24)]) (TO.gk (o_310 hL))
            obtain ⟨hN, hL, hQ⟩ := DX7_start (d := d + 2) hL (o_21 hL) (o_24 hL) hG
            refine RK.of (RN.cv (i := 317) (k := 67) (q2 := iX7_start) (as := [.inr (.inr 310), .inr (.inr 21), .inr (.inr 24)]) (r := []) (v := none) (h1 := h3) (by decide +kernel) rfl rfl rfl rfl rfl hq hN) ?_
            have hK := hK.tr hQ
            refine RK.of (RN.blk (ops := [(49, .aload_n 0)]) (pc' := 50) (lv' := [(0, .inr (.inr 0)), (1, .inl a1), (2, .inl a2)]) (st' := [.inr (.inr 0)]) (h' := h3) (cs := []) (by decide +kernel) rfl trivial) ?_
            refine RK.of (RN.gr (i := 79) (ci := 11) (k := 13) (fn := true) (v := 323) (by decide +kernel) rfl (TO.gk (o_0 hL)) (hL.fo (v := 323) 13 0 (o_0 hL) rfl (by decide) rfl).1) ?_
            refine RK.of (RN.blk (ops := [(53, .iconst 0), (54, .putfield 339)]) (pc' := 57) (lv' := [(0, .inr (.inr 0)), (1, .inl a1), (2, .inl a2)]) (st' := []) (h' := (m_wr h3 323 6 0)) (cs := [GK h3 323 0]) (by decide +kernel) rfl ⟨(o_323 hL).gk, trivial⟩) ?_
            have hL : LR (m_wr h3 323 6 0) := LR.wf (k := 6) hL (o_323 hL) rfl
            have hK := hK.tr (KD.wr : KD h3 (m_wr h3 323 6 0))
            refine RK.of (RN.blk (ops := [(57, .iconst (-1)), (58, .istore_n 3)]) (pc' := 59) (lv' := [(3, .inl (-1)), (0, .inr (.inr 0)), (1, .inl a1), (2, .inl a2)]) (st' := []) (h' := (m_wr h3 323 6 0)) (cs := []) (by decide +kernel) rfl trivial) ?_
            refine RK.sub (DX11_look_L59 hK ?_ _ _ _ hL KD.rf hF) (sub_cons rfl (sub_cons rfl (sub_cons rfl (sub_cons rfl sub_nil))))
            · intro h4 hL hq hF
              have hK := hK.tr hq
              refine RK.of (RN.blk (ops := [(158, .aload_n 0)]) (pc' := 159) (lv' := [(0, .inr (.inr 0)), (2, .inl a2)]) (st' := [.inr (.inr 0)]) (h' := h4) (cs := []) (by decide +kernel) rfl trivial) ?_
              refine RK.of (RN.gr (i := 79) (ci := 11) (k := 13) (fn := true) (v := 323) (by decide +kernel) rfl (TO.gk (o_0 hL)) (hL.fo (v := 323) 13 0 (o_0 hL) rfl (by decide) rfl).1) ?_
              refine RK.of (RN.blk (ops := [(162, .getfield 339)]) (pc' := 165) (lv' := [(0, .inr (.inr 0)), (2, .inl a2)]) (st' := [.inl (m_rd h4 323 6)]) (h' := h4) (cs := [GK h4 323 0]) (by decide +kernel) rfl ⟨(o_323 hL).gk, trivial⟩) ?_
              rcases it_of hF with ⟨hb, hF⟩ | ⟨hb, hF⟩
              · refine RK.of (RN.iff (cd := .ne) (off := 6) (tgt := 171) (by decide +kernel) (mif_nen hb)) ?_
                refine RK.of (RN.blk (ops := [(168, .bipush (-2))]) (pc' := 170) (lv' := [(0, .inr (.inr 0)), (2, .inl a2)]) (st' := [.inl (-2)]) (h' := h4) (cs := []) (by decide +kernel) rfl trivial) ?_
                exact RK.iR (by decide +kernel) rfl hL hK hF
              · refine RK.of (RN.ift (cd := .ne) (off := 6) (tgt := 171) (by decide +kernel) (mif_ne hb)) ?_
                refine RK.of (RN.blk (ops := [(171, .aload_n 0)]) (pc' := 172) (lv' := [(0, .inr (.inr 0)), (2, .inl a2)]) (st' := [.inr (.inr 0)]) (h' := h4) (cs := []) (by decide +kernel) rfl trivial) ?_
                refine RK.of (RN.gr (i := 79) (ci := 11) (k := 13) (fn := true) (v := 323) (by decide +kernel) rfl (TO.gk (o_0 hL)) (hL.fo (v := 323) 13 0 (o_0 hL) rfl (by decide) rfl).1) ?_
                refine RK.of (RN.blk (ops := [(175, .aload_n 0)]) (pc' := 176) (lv' := [(0, .inr (.inr 0)), (2, .inl a2)]) (st' := [.inr (.inr 0), .inr (.inr 323)]) (h' := h4) (cs := []) (by decide +kernel) rfl trivial) ?_
                refine RK.of (RN.gr (i := 41) (ci := 11) (k := 5) (fn := true) (v := 20) (by decide +kernel) rfl (TO.gk (o_0 hL)) (hL.fo (v := 20) 5 2 (o_0 hL) rfl (by decide) rfl).1) ?_
                refine RK.of (RN.gr (i := 130) (ci := 2) (k := 0) (fn := true) (v := 21) (by decide +kernel) rfl (TO.gk (o_20 hL)) (hL.fo (v := 21) 0 8 (o_20 hL) rfl (by decide) rfl).1) ?_
                refine RK.of (RN.blk (ops := [(182, .getfield 170)]) (pc' := 185) (lv' := [(0, .inr (.inr 0)), (2, .inl a2)]) (st' := [.inl (m_rd h4 21 2), .inr (.inr 323)]) (h' := h4) (cs := [GK h4 21 8]) (by decide +kernel) rfl ⟨(o_21 hL).gk, trivial⟩) ?_
                obtain ⟨h5, hG, hF⟩ := bv_of hF
                have hq := rcv_ok (as := [.inl (m_rd h4 21 2)]) (TO.gk (o_323 hL))
                obtain ⟨hN, hL, hQ⟩ := DX0_seekSight (d := d + 3) hL  hG
                refine RK.of (RN.cv (i := 346) (k := 9) (q2 := iX0_seekSight) (as := [.inr (.inr 323), .inl (m_rd h4 21 2)]) (r := []) (v := none) (h1 := h5) (by decide +kernel) rfl rfl rfl rfl rfl hq hN) ?_
                have hK := hK.tr hQ
                refine RK.of (RN.blk (ops := [(188, .iload_n 2)]) (pc' := 189) (lv' := [(0, .inr (.inr 0)), (2, .inl a2)]) (st' := [.inl a2]) (h' := h5) (cs := []) (by decide +kernel) rfl trivial) ?_
                rcases it_of hF with ⟨hb, hF⟩ | ⟨hb, hF⟩
                · refine RK.of (RN.iff (cd := .ne) (off := 13) (tgt := 202) (by decide +kernel) (mif_nen hb)) ?_
                  refine RK.of (RN.blk (ops := [(192, .aload_n 0)]) (pc' := 193) (lv' := [(0, .inr (.inr 0)), (2, .inl a2)]) (st' := [.inr (.inr 0)]) (h' := h5) (cs := []) (by decide +kernel) rfl trivial) ?_
                  refine RK.of (RN.gr (i := 79) (ci := 11) (k := 13) (fn := true) (v := 323) (by decide +kernel) rfl (TO.gk (o_0 hL)) (hL.fo (v := 323) 13 0 (o_0 hL) rfl (by decide) rfl).1) ?_
                  refine RK.of (RN.blk (ops := [(196, .getfield 296)]) (pc' := 199) (lv' := [(0, .inr (.inr 0)), (2, .inl a2)]) (st' := [.inl (m_rd h5 323 4)]) (h' := h5) (cs := [GK h5 323 0]) (by decide +kernel) rfl ⟨(o_323 hL).gk, trivial⟩) ?_
                  refine RK.of (RN.goto (off := 10) (tgt := 209) (by decide +kernel)) ?_
                  exact RK.iR (by decide +kernel) rfl hL hK hF
                · refine RK.of (RN.ift (cd := .ne) (off := 13) (tgt := 202) (by decide +kernel) (mif_ne hb)) ?_
                  refine RK.of (RN.blk (ops := [(202, .aload_n 0)]) (pc' := 203) (lv' := [(0, .inr (.inr 0)), (2, .inl a2)]) (st' := [.inr (.inr 0)]) (h' := h5) (cs := []) (by decide +kernel) rfl trivial) ?_
                  refine RK.of (RN.gr (i := 79) (ci := 11) (k := 13) (fn := true) (v := 323) (by decide +kernel) rfl (TO.gk (o_0 hL)) (hL.fo (v := 323) 13 0 (o_0 hL) rfl (by decide) rfl).1) ?_
                  refine RK.of (RN.blk (ops := [(206, .getfield 349)]) (pc' := 209) (lv' := [(0, .inr (.inr 0)), (2, .inl a2)]) (st' := [.inl (m_rd h5 323 7)]) (h' := h5) (cs := [GK h5 323 0]) (by decide +kernel) rfl ⟨(o_323 hL).gk, trivial⟩) ?_
                  exact RK.iR (by decide +kernel) rfl hL hK hF
noncomputable def GX11_seed (a1 : Int) (h : MH) : Option (Int × MH) :=
  (if a1 < 0 then
   some ((-1), h)
  else
   some ((m_rd h 20 4), (m_wr h 20 4 a1)))
theorem DX11_seed {d : Nat} {a1 : Int} {h : MH} {r : Int × MH} (hL : LR h) (hF : GX11_seed a1 h = some r) : RN xs L iX11_seed (d) 0 (lvE 0 [.inr (.inr 0), .inl a1]) [] h (RIo r) ∧ LR r.2 ∧ KD h r.2 := by
  unfold GX11_seed at hF
  have hK : KD h h := KD.rf
  show RK xs L iX11_seed (d) 0 (lvE 0 [.inr (.inr 0), .inl a1]) [] h (RIo r) h r.2
  refine RK.of (RN.blk (ops := [(0, .iload_n 1)]) (pc' := 1) (lv' := [(0, .inr (.inr 0)), (1, .inl a1)]) (st' := [.inl a1]) (h' := h) (cs := []) (by decide +kernel) rfl trivial) ?_
  rcases it_of hF with ⟨hb, hF⟩ | ⟨hb, hF⟩
  · refine RK.of (RN.iff (cd := .ge) (off := 5) (tgt := 6) (by decide +kernel) (mif_gen hb)) ?_
    refine RK.of (RN.blk (ops := [(4, .iconst (-1))]) (pc' := 5) (lv' := [(0, .inr (.inr 0)), (1, .inl a1)]) (st' := [.inl (-1)]) (h' := h) (cs := []) (by decide +kernel) rfl trivial) ?_
    exact RK.iR (by decide +kernel) rfl hL hK hF
  · refine RK.of (RN.ift (cd := .ge) (off := 5) (tgt := 6) (by decide +kernel) (mif_ge hb)) ?_
    refine RK.of (RN.blk (ops := [(6, .aload_n 0)]) (pc' := 7) (lv' := [(0, .inr (.inr 0)), (1, .inl a1)]) (st' := [.inr (.inr 0)]) (h' := h) (cs := []) (by decide +kernel) rfl trivial) ?_
    refine RK.of (RN.gr (i := 41) (ci := 11) (k := 5) (fn := true) (v := 20) (by decide +kernel) rfl (TO.gk (o_0 hL)) (hL.fo (v := 20) 5 2 (o_0 hL) rfl (by decide) rfl).1) ?_
    refine RK.of (RN.blk (ops := [(10, .getfield 188), (13, .istore_n 2), (14, .aload_n 0)]) (pc' := 15) (lv' := [(2, .inl (m_rd h 20 4)), (0, .inr (.inr 0)), (1, .inl a1)]) (st' := [.inr (.inr 0)]) (h' := h) (cs := [GK h 20 2]) (by decide +kernel) rfl ⟨(o_20 hL).gk, trivial⟩) ?_
    refine RK.of (RN.gr (i := 41) (ci := 11) (k := 5) (fn := true) (v := 20) (by decide +kernel) rfl (TO.gk (o_0 hL)) (hL.fo (v := 20) 5 2 (o_0 hL) rfl (by decide) rfl).1) ?_
    refine RK.of (RN.blk (ops := [(18, .iload_n 1), (19, .putfield 188)]) (pc' := 22) (lv' := [(2, .inl (m_rd h 20 4)), (0, .inr (.inr 0)), (1, .inl a1)]) (st' := []) (h' := (m_wr h 20 4 a1)) (cs := [GK h 20 2]) (by decide +kernel) rfl ⟨(o_20 hL).gk, trivial⟩) ?_
    have hL : LR (m_wr h 20 4 a1) := LR.wf (k := 4) hL (o_20 hL) rfl
    have hK := hK.tr (KD.wr : KD h (m_wr h 20 4 a1))
    refine RK.of (RN.blk (ops := [(22, .iload_n 2)]) (pc' := 23) (lv' := [(2, .inl (m_rd h 20 4)), (0, .inr (.inr 0)), (1, .inl a1)]) (st' := [.inl (m_rd h 20 4)]) (h' := (m_wr h 20 4 a1)) (cs := []) (by decide +kernel) rfl trivial) ?_
    exact RK.iR (by decide +kernel) rfl hL hK hF
noncomputable def GX11_posts_L91 (u1 : Int) (u2 : Int) (u3 : Int) (u4 : Int) (K0 : Int → Int → MH → Option (Int × MH)) : Nat → Int → Int → Int → MH → Option (Int × MH)
  | 0, _, _, _, _ => none
  | f + 1, v6, v7, v8, h =>
    (if v8 < u1 then
     (bv (GX10_copyFrom 314 32 h) (fun h1 =>
      (bd (GX11_ruleInForce h1) (fun x3 h2 =>
       (bv (GX7_stepsWithPosts x3 u2 u3 h2) (fun h4 =>
        (bd (GX10_bagsOfAll 314 h4) (fun x6 h5 =>
         GX11_posts_L91 u1 u2 u3 u4 K0 f (m_w32 (v6 + x6)) (m_w32 (v7 + (m_rd h5 314 5))) (m_w32 (v8 + 1)) h5))))))))
    else
     K0 v6 v7 h)
theorem DX11_posts_L91 {d : Nat} {u1 : Int} {u2 : Int} {u3 : Int} {u4 : Int} {K0 : Int → Int → MH → Option (Int × MH)} {r : Int × MH} {h0 hB : MH} (hB0 : KD h0 hB) (hK0 : ∀ (w6 : Int) (w7 : Int) (h : MH), LR h → KD hB h → K0 w6 w7 h = some r → RK xs L iX11_posts (d + 6) 163 [(4, .inl u4), (6, .inl w6), (7, .inl w7)] [] h (RIo r) h0 r.2) : ∀ (f : Nat) (v6 : Int) (v7 : Int) (v8 : Int) (h : MH), LR h → KD hB h → GX11_posts_L91 u1 u2 u3 u4 K0 f v6 v7 v8 h = some r → RK xs L iX11_posts (d + 6) 91 [(0, .inr (.inr 0)), (1, .inl u1), (2, .inl u2), (3, .inl u3), (4, .inl u4), (6, .inl v6), (7, .inl v7), (8, .inl v8)] [] h (RIo r) h0 r.2 := by
  intro f
  induction f with
  | zero =>
    intro v6 v7 v8 h hL hJ hF
    cases hF
  | succ f ih =>
    intro v6 v7 v8 h hL hJ hF
    unfold GX11_posts_L91 at hF
    have hK := hB0.tr hJ
    refine RK.of (RN.blk (ops := [(91, .iload 8), (93, .iload_n 1)]) (pc' := 94) (lv' := [(0, .inr (.inr 0)), (1, .inl u1), (2, .inl u2), (3, .inl u3), (4, .inl u4), (6, .inl v6), (7, .inl v7), (8, .inl v8)]) (st' := [.inl u1, .inl v8]) (h' := h) (cs := []) (by decide +kernel) rfl trivial) ?_
    rcases it_of hF with ⟨hb, hF⟩ | ⟨hb, hF⟩
    · refine RK.of (RN.icf (cd := .ge) (off := 69) (tgt := 163) (by decide +kernel) (mif_gen hb)) ?_
      refine RK.of (RN.blk (ops := [(97, .aload_n 0)]) (pc' := 98) (lv' := [(0, .inr (.inr 0)), (1, .inl u1), (2, .inl u2), (3, .inl u3), (4, .inl u4), (6, .inl v6), (7, .inl v7), (8, .inl v8)]) (st' := [.inr (.inr 0)]) (h' := h) (cs := []) (by decide +kernel) rfl trivial) ?_
      refine RK.of (RN.gr (i := 72) (ci := 11) (k := 12) (fn := true) (v := 310) (by decide +kernel) rfl (TO.gk (o_0 hL)) (hL.fo (v := 310) 12 7 (o_0 hL) rfl (by decide) rfl).1) ?_
      refine RK.of (RN.gr (i := 209) (ci := 7) (k := 1) (fn := true) (v := 314) (by decide +kernel) rfl (TO.gk (o_310 hL)) (hL.fo (v := 314) 1 10 (o_310 hL) rfl (by decide) rfl).1) ?_
      refine RK.of (RN.blk (ops := [(104, .aload_n 0)]) (pc' := 105) (lv' := [(0, .inr (.inr 0)), (1, .inl u1), (2, .inl u2), (3, .inl u3), (4, .inl u4), (6, .inl v6), (7, .inl v7), (8, .inl v8)]) (st' := [.inr (.inr 0), .inr (.inr 314)]) (h' := h) (cs := []) (by decide +kernel) rfl trivial) ?_
      refine RK.of (RN.gr (i := 41) (ci := 11) (k := 5) (fn := true) (v := 20) (by decide +kernel) rfl (TO.gk (o_0 hL)) (hL.fo (v := 20) 5 2 (o_0 hL) rfl (by decide) rfl).1) ?_
      refine RK.of (RN.gr (i := 110) (ci := 2) (k := 2) (fn := true) (v := 32) (by decide +kernel) rfl (TO.gk (o_20 hL)) (hL.fo (v := 32) 2 10 (o_20 hL) rfl (by decide) rfl).1) ?_
      obtain ⟨h1, hG, hF⟩ := bv_of hF
      have hq := rcv_ok (as := [.inr (.inr 32)]) (TO.gk (o_314 hL))
      obtain ⟨hN, hL, hQ⟩ := DX10_copyFrom (d := d + 3) hL (o_314 hL) (o_32 hL) hG
      refine RK.of (RN.cv (i := 212) (k := 101) (q2 := iX10_copyFrom) (as := [.inr (.inr 314), .inr (.inr 32)]) (r := []) (v := none) (h1 := h1) (by decide +kernel) rfl rfl rfl rfl rfl hq hN) ?_
      have hK := hK.tr hQ
      have hJ := hJ.tr hQ
      refine RK.of (RN.blk (ops := [(114, .aload_n 0)]) (pc' := 115) (lv' := [(0, .inr (.inr 0)), (1, .inl u1), (2, .inl u2), (3, .inl u3), (4, .inl u4), (6, .inl v6), (7, .inl v7), (8, .inl v8)]) (st' := [.inr (.inr 0)]) (h' := h1) (cs := []) (by decide +kernel) rfl trivial) ?_
      refine RK.of (RN.gr (i := 72) (ci := 11) (k := 12) (fn := true) (v := 310) (by decide +kernel) rfl (TO.gk (o_0 hL)) (hL.fo (v := 310) 12 7 (o_0 hL) rfl (by decide) rfl).1) ?_
      refine RK.of (RN.blk (ops := [(118, .aload_n 0)]) (pc' := 119) (lv' := [(0, .inr (.inr 0)), (1, .inl u1), (2, .inl u2), (3, .inl u3), (4, .inl u4), (6, .inl v6), (7, .inl v7), (8, .inl v8)]) (st' := [.inr (.inr 0), .inr (.inr 310)]) (h' := h1) (cs := []) (by decide +kernel) rfl trivial) ?_
      obtain ⟨x3, h2, hG, hF⟩ := bd_of hF
      have hq := rcv_ok (as := []) (TO.gk (o_0 hL))
      obtain ⟨hN, hL, hQ⟩ := DX11_ruleInForce (d := d + 4) hL  hG
      refine RK.of (RN.cv (i := 198) (k := 151) (q2 := iX11_ruleInForce) (as := [.inr (.inr 0)]) (r := [.inr (.inr 310)]) (v := some (.inr (.inr x3))) (h1 := h2) (by decide +kernel) rfl rfl rfl rfl rfl hq hN) ?_
      have hK := hK.tr hQ
      have hJ := hJ.tr hQ
      refine RK.of (RN.blk (ops := [(122, .iload_n 2), (123, .iload_n 3)]) (pc' := 124) (lv' := [(0, .inr (.inr 0)), (1, .inl u1), (2, .inl u2), (3, .inl u3), (4, .inl u4), (6, .inl v6), (7, .inl v7), (8, .inl v8)]) (st' := [.inl u3, .inl u2, .inr (.inr x3), .inr (.inr 310)]) (h' := h2) (cs := []) (by decide +kernel) rfl trivial) ?_
      obtain ⟨h4, hG, hF⟩ := bv_of hF
      have hq := rcv_ok (as := [.inr (.inr x3), .inl u2, .inl u3]) (TO.gk (o_310 hL))
      obtain ⟨hN, hL, hQ⟩ := DX7_stepsWithPosts (d := d) hL  hG
      refine RK.of (RN.cv (i := 353) (k := 76) (q2 := iX7_stepsWithPosts) (as := [.inr (.inr 310), .inr (.inr x3), .inl u2, .inl u3]) (r := []) (v := none) (h1 := h4) (by decide +kernel) rfl rfl rfl rfl rfl hq hN) ?_
      have hK := hK.tr hQ
      have hJ := hJ.tr hQ
      refine RK.of (RN.blk (ops := [(127, .iload 6), (129, .aload_n 0)]) (pc' := 130) (lv' := [(0, .inr (.inr 0)), (1, .inl u1), (2, .inl u2), (3, .inl u3), (4, .inl u4), (6, .inl v6), (7, .inl v7), (8, .inl v8)]) (st' := [.inr (.inr 0), .inl v6]) (h' := h4) (cs := []) (by decide +kernel) rfl trivial) ?_
      refine RK.of (RN.gr (i := 72) (ci := 11) (k := 12) (fn := true) (v := 310) (by decide +kernel) rfl (TO.gk (o_0 hL)) (hL.fo (v := 310) 12 7 (o_0 hL) rfl (by decide) rfl).1) ?_
      refine RK.of (RN.gr (i := 209) (ci := 7) (k := 1) (fn := true) (v := 314) (by decide +kernel) rfl (TO.gk (o_310 hL)) (hL.fo (v := 314) 1 10 (o_310 hL) rfl (by decide) rfl).1) ?_
      obtain ⟨x6, h5, hG, hF⟩ := bd_of hF
      have hq := rcv_ok (as := []) (TO.gk (o_314 hL))
      obtain ⟨hN, hL, hQ⟩ := DX10_bagsOfAll (d := d + 4) hL (o_314 hL) hG
      refine RK.of (RN.cv (i := 179) (k := 106) (q2 := iX10_bagsOfAll) (as := [.inr (.inr 314)]) (r := [.inl v6]) (v := some (.inl x6)) (h1 := h5) (by decide +kernel) rfl rfl rfl rfl rfl hq hN) ?_
      have hK := hK.tr hQ
      have hJ := hJ.tr hQ
      refine RK.of (RN.blk (ops := [(139, .iadd), (140, .istore 6), (142, .iload 7), (144, .aload_n 0)]) (pc' := 145) (lv' := [(6, .inl (m_w32 (v6 + x6))), (0, .inr (.inr 0)), (1, .inl u1), (2, .inl u2), (3, .inl u3), (4, .inl u4), (7, .inl v7), (8, .inl v8)]) (st' := [.inr (.inr 0), .inl v7]) (h' := h5) (cs := []) (by decide +kernel) rfl trivial) ?_
      refine RK.of (RN.gr (i := 72) (ci := 11) (k := 12) (fn := true) (v := 310) (by decide +kernel) rfl (TO.gk (o_0 hL)) (hL.fo (v := 310) 12 7 (o_0 hL) rfl (by decide) rfl).1) ?_
      refine RK.of (RN.gr (i := 209) (ci := 7) (k := 1) (fn := true) (v := 314) (by decide +kernel) rfl (TO.gk (o_310 hL)) (hL.fo (v := 314) 1 10 (o_310 hL) rfl (by decide) rfl).1) ?_
      refine RK.of (RN.blk (ops := [(151, .getfield 182), (154, .iadd), (155, .istore 7), (157, .iinc 8 1)]) (pc' := 160) (lv' := [(8, .inl (m_w32 (v8 + 1))), (7, .inl (m_w32 (v7 + (m_rd h5 314 5)))), (6, .inl (m_w32 (v6 + x6))), (0, .inr (.inr 0)), (1, .inl u1), (2, .inl u2), (3, .inl u3), (4, .inl u4)]) (st' := []) (h' := h5) (cs := [GK h5 314 10]) (by decide +kernel) rfl ⟨(o_314 hL).gk, trivial⟩) ?_
      refine RK.of (RN.goto (off := -69) (tgt := 91) (by decide +kernel)) ?_
      exact RK.sub (ih _ _ _ _ hL hJ hF) (sub_cons rfl (sub_cons rfl (sub_cons rfl (sub_cons rfl (sub_cons rfl (sub_cons rfl (sub_cons rfl (sub_cons rfl sub_nil))))))))
    · refine RK.of (RN.ict (cd := .ge) (off := 69) (tgt := 163) (by decide +kernel) (mif_ge hb)) ?_
      exact RK.sub (hK0 _ _ _ hL hJ hF) (sub_cons rfl (sub_cons rfl (sub_cons rfl sub_nil)))
noncomputable def GX11_posts (a1 : Int) (a2 : Int) (a3 : Int) (a4 : Int) (h : MH) : Option (Int × MH) :=
  jn (fun (s2 : Int) =>
   (bd (GX11_hasFrame h) (fun x4 h3 =>
    (if x4 = 0 then
     some ((-1), h3)
    else
     (if s2 = 0 then
      some ((-1), h3)
     else
      (bv (GX11_startFromNow h3) (fun h5 =>
       GX11_posts_L91 a1 a2 a3 a4 (fun w6 w7 h8 =>
        (if a4 = 0 then
         some (w6, h8)
        else
         some (w7, h8))) FU 0 0 0 (m_wr h5 310 2 (m_rd h5 20 4))))))))) (fun j1 =>
   jn (
    j1 0) (fun j9 =>
    (if a1 < 1 then
     j9
    else
     (if 10 < a1 then
      j9
     else
      (if a2 < 1 then
       j9
      else
       (if 60 < a2 then
        j9
       else
        (if a3 < 0 then
         j9
        else
         (if 100 < a3 then
          j9
         else
          (if a4 < 0 then
           j9
          else
           (if 1 < a4 then
            j9
           else
            j1 1))))))))))
theorem DX11_posts {d : Nat} {a1 : Int} {a2 : Int} {a3 : Int} {a4 : Int} {h : MH} {r : Int × MH} (hL : LR h) (hF : GX11_posts a1 a2 a3 a4 h = some r) : RN xs L iX11_posts (d + 6) 0 (lvE 0 [.inr (.inr 0), .inl a1, .inl a2, .inl a3, .inl a4]) [] h (RIo r) ∧ LR r.2 ∧ KD h r.2 := by
  unfold GX11_posts at hF
  have hK : KD h h := KD.rf
  show RK xs L iX11_posts (d + 6) 0 (lvE 0 [.inr (.inr 0), .inl a1, .inl a2, .inl a3, .inl a4]) [] h (RIo r) h r.2
  refine RK.of (RN.blk (ops := [(0, .iload_n 1), (1, .iconst 1)]) (pc' := 2) (lv' := [(0, .inr (.inr 0)), (1, .inl a1), (2, .inl a2), (3, .inl a3), (4, .inl a4)]) (st' := [.inl 1, .inl a1]) (h' := h) (cs := []) (by decide +kernel) rfl trivial) ?_
  refine jn_use (fun j1 => ∀ (s2 : Int), j1 s2 = some r → RK xs L iX11_posts (d + 6) 48 [(0, .inr (.inr 0)), (1, .inl a1), (2, .inl a2), (3, .inl a3), (4, .inl a4)] [.inl s2] h (RIo r) h r.2) ?_ ?_ hF
  · intro s2 hF
    refine RK.of (RN.blk (ops := [(48, .istore 5), (50, .aload_n 0)]) (pc' := 51) (lv' := [(5, .inl s2), (0, .inr (.inr 0)), (1, .inl a1), (2, .inl a2), (3, .inl a3), (4, .inl a4)]) (st' := [.inr (.inr 0)]) (h' := h) (cs := []) (by decide +kernel) rfl trivial) ?_
    obtain ⟨x4, h3, hG, hF⟩ := bd_of hF
    have hq := rcv_ok (as := []) (TO.gk (o_0 hL))
    obtain ⟨hN, hL, hQ⟩ := DX11_hasFrame (d := d + 5) hL  hG
    refine RK.of (RN.cv (i := 191) (k := 149) (q2 := iX11_hasFrame) (as := [.inr (.inr 0)]) (r := []) (v := some (.inl x4)) (h1 := h3) (by decide +kernel) rfl rfl rfl rfl rfl hq hN) ?_
    have hK := hK.tr hQ
    rcases it_of hF with ⟨hb, hF⟩ | ⟨hb, hF⟩
    · refine RK.of (RN.ift (cd := .eq) (off := 8) (tgt := 62) (by decide +kernel) (mif_eq hb)) ?_
      refine RK.of (RN.blk (ops := [(62, .iconst (-1))]) (pc' := 63) (lv' := [(5, .inl s2), (0, .inr (.inr 0)), (1, .inl a1), (2, .inl a2), (3, .inl a3), (4, .inl a4)]) (st' := [.inl (-1)]) (h' := h3) (cs := []) (by decide +kernel) rfl trivial) ?_
      exact RK.iR (by decide +kernel) rfl hL hK hF
    · refine RK.of (RN.iff (cd := .eq) (off := 8) (tgt := 62) (by decide +kernel) (mif_eqn hb)) ?_
      refine RK.of (RN.blk (ops := [(57, .iload 5)]) (pc' := 59) (lv' := [(5, .inl s2), (0, .inr (.inr 0)), (1, .inl a1), (2, .inl a2), (3, .inl a3), (4, .inl a4)]) (st' := [.inl s2]) (h' := h3) (cs := []) (by decide +kernel) rfl trivial) ?_
      rcases it_of hF with ⟨hb, hF⟩ | ⟨hb, hF⟩
      · refine RK.of (RN.iff (cd := .ne) (off := 5) (tgt := 64) (by decide +kernel) (mif_nen hb)) ?_
        refine RK.of (RN.blk (ops := [(62, .iconst (-1))]) (pc' := 63) (lv' := [(5, .inl s2), (0, .inr (.inr 0)), (1, .inl a1), (2, .inl a2), (3, .inl a3), (4, .inl a4)]) (st' := [.inl (-1)]) (h' := h3) (cs := []) (by decide +kernel) rfl trivial) ?_
        exact RK.iR (by decide +kernel) rfl hL hK hF
      · refine RK.of (RN.ift (cd := .ne) (off := 5) (tgt := 64) (by decide +kernel) (mif_ne hb)) ?_
        refine RK.of (RN.blk (ops := [(64, .aload_n 0)]) (pc' := 65) (lv' := [(5, .inl s2), (0, .inr (.inr 0)), (1, .inl a1), (2, .inl a2), (3, .inl a3), (4, .inl a4)]) (st' := [.inr (.inr 0)]) (h' := h3) (cs := []) (by decide +kernel) rfl trivial) ?_
        obtain ⟨h5, hG, hF⟩ := bv_of hF
        have hq := rcv_ok (as := []) (TO.gk (o_0 hL))
        obtain ⟨hN, hL, hQ⟩ := DX11_startFromNow (d := d + 1) hL  hG
        refine RK.of (RN.cv (i := 195) (k := 154) (q2 := iX11_startFromNow) (as := [.inr (.inr 0)]) (r := []) (v := none) (h1 := h5) (by decide +kernel) rfl rfl rfl rfl rfl hq hN) ?_
        have hK := hK.tr hQ
        refine RK.of (RN.blk (ops := [(68, .aload_n 0)]) (pc' := 69) (lv' := [(5, .inl s2), (0, .inr (.inr 0)), (1, .inl a1), (2, .inl a2), (3, .inl a3), (4, .inl a4)]) (st' := [.inr (.inr 0)]) (h' := h5) (cs := []) (by decide +kernel) rfl trivial) ?_
        refine RK.of (RN.gr (i := 72) (ci := 11) (k := 12) (fn := true) (v := 310) (by decide +kernel) rfl (TO.gk (o_0 hL)) (hL.fo (v := 310) 12 7 (o_0 hL) rfl (by decide) rfl).1) ?_
        refine RK.of (RN.blk (ops := [(72, .aload_n 0)]) (pc' := 73) (lv' := [(5, .inl s2), (0, .inr (.inr 0)), (1, .inl a1), (2, .inl a2), (3, .inl a3), (4, .inl a4)]) (st' := [.inr (.inr 0), .inr (.inr 310)]) (h' := h5) (cs := []) (by decide +kernel) rfl trivial) ?_
        refine RK.of (RN.gr (i := 41) (ci := 11) (k := 5) (fn := true) (v := 20) (by decide +kernel) rfl (TO.gk (o_0 hL)) (hL.fo (v := 20) 5 2 (o_0 hL) rfl (by decide) rfl).1) ?_
        refine RK.of (RN.blk (ops := [(76, .getfield 188), (79, .putfield 352)]) (pc' := 82) (lv' := [(5, .inl s2), (0, .inr (.inr 0)), (1, .inl a1), (2, .inl a2), (3, .inl a3), (4, .inl a4)]) (st' := []) (h' := (m_wr h5 310 2 (m_rd h5 20 4))) (cs := [GK h5 20 2, GK h5 310 7]) (by decide +kernel) rfl ⟨(o_20 hL).gk, (o_310 hL).gk, trivial⟩) ?_
        have hL : LR (m_wr h5 310 2 (m_rd h5 20 4)) := LR.wf (k := 2) hL (o_310 hL) rfl
        have hK := hK.tr (KD.wr : KD h5 (m_wr h5 310 2 (m_rd h5 20 4)))
        refine RK.of (RN.blk (ops := [(82, .iconst 0), (83, .istore 6), (85, .iconst 0), (86, .istore 7), (88, .iconst 0), (89, .istore 8)]) (pc' := 91) (lv' := [(8, .inl 0), (7, .inl 0), (6, .inl 0), (5, .inl s2), (0, .inr (.inr 0)), (1, .inl a1), (2, .inl a2), (3, .inl a3), (4, .inl a4)]) (st' := []) (h' := (m_wr h5 310 2 (m_rd h5 20 4))) (cs := []) (by decide +kernel) rfl trivial) ?_
        refine RK.sub (DX11_posts_L91 hK ?_ _ _ _ _ _ hL KD.rf hF) (sub_cons rfl (sub_cons rfl (sub_cons rfl (sub_cons rfl (sub_cons rfl (sub_cons rfl (sub_cons rfl (sub_cons rfl sub_nil))))))))
        · intro w6 w7 h8 hL hq hF
          have hK := hK.tr hq
          refine RK.of (RN.blk (ops := [(163, .iload 4)]) (pc' := 165) (lv' := [(4, .inl a4), (6, .inl w6), (7, .inl w7)]) (st' := [.inl a4]) (h' := h8) (cs := []) (by decide +kernel) rfl trivial) ?_
          rcases it_of hF with ⟨hb, hF⟩ | ⟨hb, hF⟩
          · refine RK.of (RN.iff (cd := .ne) (off := 8) (tgt := 173) (by decide +kernel) (mif_nen hb)) ?_
            refine RK.of (RN.blk (ops := [(168, .iload 6)]) (pc' := 170) (lv' := [(4, .inl a4), (6, .inl w6), (7, .inl w7)]) (st' := [.inl w6]) (h' := h8) (cs := []) (by decide +kernel) rfl trivial) ?_
            refine RK.of (RN.goto (off := 5) (tgt := 175) (by decide +kernel)) ?_
            exact RK.iR (by decide +kernel) rfl hL hK hF
          · refine RK.of (RN.ift (cd := .ne) (off := 8) (tgt := 173) (by decide +kernel) (mif_ne hb)) ?_
            refine RK.of (RN.blk (ops := [(173, .iload 7)]) (pc' := 175) (lv' := [(4, .inl a4), (6, .inl w6), (7, .inl w7)]) (st' := [.inl w7]) (h' := h8) (cs := []) (by decide +kernel) rfl trivial) ?_
            exact RK.iR (by decide +kernel) rfl hL hK hF
  · intro j1 Jj1 hF
    refine jn_use (fun j9 => j9 = some r → RK xs L iX11_posts (d + 6) 47 [(0, .inr (.inr 0)), (1, .inl a1), (2, .inl a2), (3, .inl a3), (4, .inl a4)] [] h (RIo r) h r.2) ?_ ?_ hF
    · intro  hF
      refine RK.of (RN.blk (ops := [(47, .iconst 0)]) (pc' := 48) (lv' := [(0, .inr (.inr 0)), (1, .inl a1), (2, .inl a2), (3, .inl a3), (4, .inl a4)]) (st' := [.inl 0]) (h' := h) (cs := []) (by decide +kernel) rfl trivial) ?_
      exact RK.sub (Jj1 _ hF) (sub_cons rfl (sub_cons rfl (sub_cons rfl (sub_cons rfl (sub_cons rfl sub_nil)))))
    · intro j9 Jj9 hF
      rcases it_of hF with ⟨hb, hF⟩ | ⟨hb, hF⟩
      · refine RK.of (RN.ict (cd := .lt) (off := 45) (tgt := 47) (by decide +kernel) (mif_lt hb)) ?_
        exact RK.sub (Jj9 hF) (sub_cons rfl (sub_cons rfl (sub_cons rfl (sub_cons rfl (sub_cons rfl sub_nil)))))
      · refine RK.of (RN.icf (cd := .lt) (off := 45) (tgt := 47) (by decide +kernel) (mif_ltn hb)) ?_
        refine RK.of (RN.blk (ops := [(5, .iload_n 1), (6, .bipush 10)]) (pc' := 8) (lv' := [(0, .inr (.inr 0)), (1, .inl a1), (2, .inl a2), (3, .inl a3), (4, .inl a4)]) (st' := [.inl 10, .inl a1]) (h' := h) (cs := []) (by decide +kernel) rfl trivial) ?_
        rcases it_of hF with ⟨hb, hF⟩ | ⟨hb, hF⟩
        · refine RK.of (RN.ict (cd := .gt) (off := 39) (tgt := 47) (by decide +kernel) (mif_gt hb)) ?_
          exact RK.sub (Jj9 hF) (sub_cons rfl (sub_cons rfl (sub_cons rfl (sub_cons rfl (sub_cons rfl sub_nil)))))
        · refine RK.of (RN.icf (cd := .gt) (off := 39) (tgt := 47) (by decide +kernel) (mif_gtn hb)) ?_
          refine RK.of (RN.blk (ops := [(11, .iload_n 2), (12, .iconst 1)]) (pc' := 13) (lv' := [(0, .inr (.inr 0)), (1, .inl a1), (2, .inl a2), (3, .inl a3), (4, .inl a4)]) (st' := [.inl 1, .inl a2]) (h' := h) (cs := []) (by decide +kernel) rfl trivial) ?_
          rcases it_of hF with ⟨hb, hF⟩ | ⟨hb, hF⟩
          · refine RK.of (RN.ict (cd := .lt) (off := 34) (tgt := 47) (by decide +kernel) (mif_lt hb)) ?_
            exact RK.sub (Jj9 hF) (sub_cons rfl (sub_cons rfl (sub_cons rfl (sub_cons rfl (sub_cons rfl sub_nil)))))
          · refine RK.of (RN.icf (cd := .lt) (off := 34) (tgt := 47) (by decide +kernel) (mif_ltn hb)) ?_
            refine RK.of (RN.blk (ops := [(16, .iload_n 2), (17, .bipush 60)]) (pc' := 19) (lv' := [(0, .inr (.inr 0)), (1, .inl a1), (2, .inl a2), (3, .inl a3), (4, .inl a4)]) (st' := [.inl 60, .inl a2]) (h' := h) (cs := []) (by decide +kernel) rfl trivial) ?_
            rcases it_of hF with ⟨hb, hF⟩ | ⟨hb, hF⟩
            · refine RK.of (RN.ict (cd := .gt) (off := 28) (tgt := 47) (by decide +kernel) (mif_gt hb)) ?_
              exact RK.sub (Jj9 hF) (sub_cons rfl (sub_cons rfl (sub_cons rfl (sub_cons rfl (sub_cons rfl sub_nil)))))
            · refine RK.of (RN.icf (cd := .gt) (off := 28) (tgt := 47) (by decide +kernel) (mif_gtn hb)) ?_
              refine RK.of (RN.blk (ops := [(22, .iload_n 3)]) (pc' := 23) (lv' := [(0, .inr (.inr 0)), (1, .inl a1), (2, .inl a2), (3, .inl a3), (4, .inl a4)]) (st' := [.inl a3]) (h' := h) (cs := []) (by decide +kernel) rfl trivial) ?_
              rcases it_of hF with ⟨hb, hF⟩ | ⟨hb, hF⟩
              · refine RK.of (RN.ift (cd := .lt) (off := 24) (tgt := 47) (by decide +kernel) (mif_lt hb)) ?_
                exact RK.sub (Jj9 hF) (sub_cons rfl (sub_cons rfl (sub_cons rfl (sub_cons rfl (sub_cons rfl sub_nil)))))
              · refine RK.of (RN.iff (cd := .lt) (off := 24) (tgt := 47) (by decide +kernel) (mif_ltn hb)) ?_
                refine RK.of (RN.blk (ops := [(26, .iload_n 3), (27, .bipush 100)]) (pc' := 29) (lv' := [(0, .inr (.inr 0)), (1, .inl a1), (2, .inl a2), (3, .inl a3), (4, .inl a4)]) (st' := [.inl 100, .inl a3]) (h' := h) (cs := []) (by decide +kernel) rfl trivial) ?_
                rcases it_of hF with ⟨hb, hF⟩ | ⟨hb, hF⟩
                · refine RK.of (RN.ict (cd := .gt) (off := 18) (tgt := 47) (by decide +kernel) (mif_gt hb)) ?_
                  exact RK.sub (Jj9 hF) (sub_cons rfl (sub_cons rfl (sub_cons rfl (sub_cons rfl (sub_cons rfl sub_nil)))))
                · refine RK.of (RN.icf (cd := .gt) (off := 18) (tgt := 47) (by decide +kernel) (mif_gtn hb)) ?_
                  refine RK.of (RN.blk (ops := [(32, .iload 4)]) (pc' := 34) (lv' := [(0, .inr (.inr 0)), (1, .inl a1), (2, .inl a2), (3, .inl a3), (4, .inl a4)]) (st' := [.inl a4]) (h' := h) (cs := []) (by decide +kernel) rfl trivial) ?_
                  rcases it_of hF with ⟨hb, hF⟩ | ⟨hb, hF⟩
                  · refine RK.of (RN.ift (cd := .lt) (off := 13) (tgt := 47) (by decide +kernel) (mif_lt hb)) ?_
                    exact RK.sub (Jj9 hF) (sub_cons rfl (sub_cons rfl (sub_cons rfl (sub_cons rfl (sub_cons rfl sub_nil)))))
                  · refine RK.of (RN.iff (cd := .lt) (off := 13) (tgt := 47) (by decide +kernel) (mif_ltn hb)) ?_
                    refine RK.of (RN.blk (ops := [(37, .iload 4), (39, .iconst 1)]) (pc' := 40) (lv' := [(0, .inr (.inr 0)), (1, .inl a1), (2, .inl a2), (3, .inl a3), (4, .inl a4)]) (st' := [.inl 1, .inl a4]) (h' := h) (cs := []) (by decide +kernel) rfl trivial) ?_
                    rcases it_of hF with ⟨hb, hF⟩ | ⟨hb, hF⟩
                    · refine RK.of (RN.ict (cd := .gt) (off := 7) (tgt := 47) (by decide +kernel) (mif_gt hb)) ?_
                      exact RK.sub (Jj9 hF) (sub_cons rfl (sub_cons rfl (sub_cons rfl (sub_cons rfl (sub_cons rfl sub_nil)))))
                    · refine RK.of (RN.icf (cd := .gt) (off := 7) (tgt := 47) (by decide +kernel) (mif_gtn hb)) ?_
                      refine RK.of (RN.blk (ops := [(43, .iconst 1)]) (pc' := 44) (lv' := [(0, .inr (.inr 0)), (1, .inl a1), (2, .inl a2), (3, .inl a3), (4, .inl a4)]) (st' := [.inl 1]) (h' := h) (cs := []) (by decide +kernel) rfl trivial) ?_
                      refine RK.of (RN.goto (off := 4) (tgt := 48) (by decide +kernel)) ?_
                      exact RK.sub (Jj1 _ hF) (sub_cons rfl (sub_cons rfl (sub_cons rfl (sub_cons rfl (sub_cons rfl sub_nil)))))
end Gc
