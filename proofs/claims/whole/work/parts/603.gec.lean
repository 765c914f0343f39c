/-! METHODS AS FUNCTIONS, references resolved (by program): X3_takeEntry, X9_byteAt, X9_takeWord, X3_takeKind, X10_queue, X3_takeLetter, X3_takeRoom, X8_lay, X3_takeShape, X3_tooMany, X3_takeClause, X9_rewind, X9_takeByte, X9_takeSemicolon, X3_parse, X4_drop, X5_join -/
section Gc
variable {xs : Int → Int} {L : Int}
noncomputable def GX3_takeEntry (h : MH) : Option (Int × MH) :=
  (bd (GX9_takeNumber 0 (m_rd h 4 1) h) (fun x2 h1 =>
   (if x2 = (-1) then
    some (0, h1)
   else
    (bd (GX8_prefixesOf 4 x2 h1) (fun x4 h3 =>
     (bd (GX9_takeNumber 0 (m_w32 (x4 - 1)) h3) (fun x6 h5 =>
      (if x6 = (-1) then
       some (0, h5)
      else
       (bd (GX9_takeNumber 0 (m_w32 ((m_rd h5 4 2) - 1)) h5) (fun x8 h7 =>
        (if x8 = (-1) then
         some (0, h7)
        else
         (bd (GX4_put 8 x2 x6 x8 h7) (fun x10 h9 =>
          some (1, h9))))))))))))))
theorem DX3_takeEntry {d : Nat} {h : MH} {r : Int × MH} (hL : LR h) (hF : GX3_takeEntry h = some r) : RN xs L iX3_takeEntry (d + 2) 0 (lvE 0 [.inr (.inr 3)]) [] h (RIo r) ∧ LR r.2 ∧ KD h r.2 := by
  unfold GX3_takeEntry at hF
  have hK : KD h h := KD.rf
  show RK xs L iX3_takeEntry (d + 2) 0 (lvE 0 [.inr (.inr 3)]) [] h (RIo r) h r.2
  refine RK.of (RN.blk (ops := [(0, .aload_n 0)]) (pc' := 1) (lv' := [(0, .inr (.inr 3))]) (st' := [.inr (.inr 3)]) (h' := h) (cs := []) (by decide +kernel) rfl trivial) ?_
  refine RK.of (RN.gr (i := 25) (ci := 3) (k := 0) (fn := true) (v := 1) (by decide +kernel) rfl (TO.gk (o_3 hL)) (hL.fo (v := 1) 0 9 (o_3 hL) rfl (by decide) rfl).1) ?_
  refine RK.of (RN.blk (ops := [(4, .iconst 0), (5, .aload_n 0)]) (pc' := 6) (lv' := [(0, .inr (.inr 3))]) (st' := [.inr (.inr 3), .inl 0, .inr (.inr 1)]) (h' := h) (cs := []) (by decide +kernel) rfl trivial) ?_
  refine RK.of (RN.gr (i := 12) (ci := 3) (k := 1) (fn := true) (v := 4) (by decide +kernel) rfl (TO.gk (o_3 hL)) (hL.fo (v := 4) 1 8 (o_3 hL) rfl (by decide) rfl).1) ?_
  refine RK.of (RN.blk (ops := [(9, .getfield 118)]) (pc' := 12) (lv' := [(0, .inr (.inr 3))]) (st' := [.inl (m_rd h 4 1), .inl 0, .inr (.inr 1)]) (h' := h) (cs := [GK h 4 8]) (by decide +kernel) rfl ⟨(o_4 hL).gk, trivial⟩) ?_
  obtain ⟨x2, h1, hG, hF⟩ := bd_of hF
  have hq := rcv_ok (as := [.inl 0, .inl (m_rd h 4 1)]) (TO.gk (o_1 hL))
  obtain ⟨hN, hL, hQ⟩ := DX9_takeNumber (d := d) hL  hG
  refine RK.of (RN.cv (i := 101) (k := 96) (q2 := iX9_takeNumber) (as := [.inr (.inr 1), .inl 0, .inl (m_rd h 4 1)]) (r := []) (v := some (.inl x2)) (h1 := h1) (by decide +kernel) rfl rfl rfl rfl rfl hq hN) ?_
  have hK := hK.tr hQ
  refine RK.of (RN.blk (ops := [(15, .istore_n 1), (16, .iload_n 1), (17, .iconst (-1))]) (pc' := 18) (lv' := [(1, .inl x2), (0, .inr (.inr 3))]) (st' := [.inl (-1), .inl x2]) (h' := h1) (cs := []) (by decide +kernel) rfl trivial) ?_
  rcases it_of hF with ⟨hb, hF⟩ | ⟨hb, hF⟩
  · refine RK.of (RN.icf (cd := .ne) (off := 5) (tgt := 23) (by decide +kernel) (mif_nen hb)) ?_
    refine RK.of (RN.blk (ops := [(21, .iconst 0)]) (pc' := 22) (lv' := [(1, .inl x2), (0, .inr (.inr 3))]) (st' := [.inl 0]) (h' := h1) (cs := []) (by decide +kernel) rfl trivial) ?_
    exact RK.zR (by decide +kernel) rfl (Or.inl rfl) hL hK hF
  · refine RK.of (RN.ict (cd := .ne) (off := 5) (tgt := 23) (by decide +kernel) (mif_ne hb)) ?_
    refine RK.of (RN.blk (ops := [(23, .aload_n 0)]) (pc' := 24) (lv' := [(1, .inl x2), (0, .inr (.inr 3))]) (st' := [.inr (.inr 3)]) (h' := h1) (cs := []) (by decide +kernel) rfl trivial) ?_
    refine RK.of (RN.gr (i := 25) (ci := 3) (k := 0) (fn := true) (v := 1) (by decide +kernel) rfl (TO.gk (o_3 hL)) (hL.fo (v := 1) 0 9 (o_3 hL) rfl (by decide) rfl).1) ?_
    refine RK.of (RN.blk (ops := [(27, .iconst 0), (28, .aload_n 0)]) (pc' := 29) (lv' := [(1, .inl x2), (0, .inr (.inr 3))]) (st' := [.inr (.inr 3), .inl 0, .inr (.inr 1)]) (h' := h1) (cs := []) (by decide +kernel) rfl trivial) ?_
    refine RK.of (RN.gr (i := 12) (ci := 3) (k := 1) (fn := true) (v := 4) (by decide +kernel) rfl (TO.gk (o_3 hL)) (hL.fo (v := 4) 1 8 (o_3 hL) rfl (by decide) rfl).1) ?_
    refine RK.of (RN.blk (ops := [(32, .iload_n 1)]) (pc' := 33) (lv' := [(1, .inl x2), (0, .inr (.inr 3))]) (st' := [.inl x2, .inr (.inr 4), .inl 0, .inr (.inr 1)]) (h' := h1) (cs := []) (by decide +kernel) rfl trivial) ?_
    obtain ⟨x4, h3, hG, hF⟩ := bd_of hF
    have hq := rcv_ok (as := [.inl x2]) (TO.gk (o_4 hL))
    obtain ⟨hN, hL, hQ⟩ := DX8_prefixesOf (d := d + 1) hL (o_4 hL) hG
    refine RK.of (RN.cv (i := 121) (k := 84) (q2 := iX8_prefixesOf) (as := [.inr (.inr 4), .inl x2]) (r := [.inl 0, .inr (.inr 1)]) (v := some (.inl x4)) (h1 := h3) (by decide +kernel) rfl rfl rfl rfl rfl hq hN) ?_
    have hK := hK.tr hQ
    refine RK.of (RN.blk (ops := [(36, .iconst 1), (37, .isub)]) (pc' := 38) (lv' := [(1, .inl x2), (0, .inr (.inr 3))]) (st' := [.inl (m_w32 (x4 - 1)), .inl 0, .inr (.inr 1)]) (h' := h3) (cs := []) (by decide +kernel) rfl trivial) ?_
    obtain ⟨x6, h5, hG, hF⟩ := bd_of hF
    have hq := rcv_ok (as := [.inl 0, .inl (m_w32 (x4 - 1))]) (TO.gk (o_1 hL))
    obtain ⟨hN, hL, hQ⟩ := DX9_takeNumber (d := d) hL  hG
    refine RK.of (RN.cv (i := 101) (k := 96) (q2 := iX9_takeNumber) (as := [.inr (.inr 1), .inl 0, .inl (m_w32 (x4 - 1))]) (r := []) (v := some (.inl x6)) (h1 := h5) (by decide +kernel) rfl rfl rfl rfl rfl hq hN) ?_
    have hK := hK.tr hQ
    refine RK.of (RN.blk (ops := [(41, .istore_n 2), (42, .iload_n 2), (43, .iconst (-1))]) (pc' := 44) (lv' := [(2, .inl x6), (1, .inl x2), (0, .inr (.inr 3))]) (st' := [.inl (-1), .inl x6]) (h' := h5) (cs := []) (by decide +kernel) rfl trivial) ?_
    rcases it_of hF with ⟨hb, hF⟩ | ⟨hb, hF⟩
    · refine RK.of (RN.icf (cd := .ne) (off := 5) (tgt := 49) (by decide +kernel) (mif_nen hb)) ?_
      refine RK.of (RN.blk (ops := [(47, .iconst 0)]) (pc' := 48) (lv' := [(2, .inl x6), (1, .inl x2), (0, .inr (.inr 3))]) (st' := [.inl 0]) (h' := h5) (cs := []) (by decide +kernel) rfl trivial) ?_
      exact RK.zR (by decide +kernel) rfl (Or.inl rfl) hL hK hF
    · refine RK.of (RN.ict (cd := .ne) (off := 5) (tgt := 49) (by decide +kernel) (mif_ne hb)) ?_
      refine RK.of (RN.blk (ops := [(49, .aload_n 0)]) (pc' := 50) (lv' := [(2, .inl x6), (1, .inl x2), (0, .inr (.inr 3))]) (st' := [.inr (.inr 3)]) (h' := h5) (cs := []) (by decide +kernel) rfl trivial) ?_
      refine RK.of (RN.gr (i := 25) (ci := 3) (k := 0) (fn := true) (v := 1) (by decide +kernel) rfl (TO.gk (o_3 hL)) (hL.fo (v := 1) 0 9 (o_3 hL) rfl (by decide) rfl).1) ?_
      refine RK.of (RN.blk (ops := [(53, .iconst 0), (54, .aload_n 0)]) (pc' := 55) (lv' := [(2, .inl x6), (1, .inl x2), (0, .inr (.inr 3))]) (st' := [.inr (.inr 3), .inl 0, .inr (.inr 1)]) (h' := h5) (cs := []) (by decide +kernel) rfl trivial) ?_
      refine RK.of (RN.gr (i := 12) (ci := 3) (k := 1) (fn := true) (v := 4) (by decide +kernel) rfl (TO.gk (o_3 hL)) (hL.fo (v := 4) 1 8 (o_3 hL) rfl (by decide) rfl).1) ?_
      refine RK.of (RN.blk (ops := [(58, .getfield 109), (61, .iconst 1), (62, .isub)]) (pc' := 63) (lv' := [(2, .inl x6), (1, .inl x2), (0, .inr (.inr 3))]) (st' := [.inl (m_w32 ((m_rd h5 4 2) - 1)), .inl 0, .inr (.inr 1)]) (h' := h5) (cs := [GK h5 4 8]) (by decide +kernel) rfl ⟨(o_4 hL).gk, trivial⟩) ?_
      obtain ⟨x8, h7, hG, hF⟩ := bd_of hF
      have hq := rcv_ok (as := [.inl 0, .inl (m_w32 ((m_rd h5 4 2) - 1))]) (TO.gk (o_1 hL))
      obtain ⟨hN, hL, hQ⟩ := DX9_takeNumber (d := d) hL  hG
      refine RK.of (RN.cv (i := 101) (k := 96) (q2 := iX9_takeNumber) (as := [.inr (.inr 1), .inl 0, .inl (m_w32 ((m_rd h5 4 2) - 1))]) (r := []) (v := some (.inl x8)) (h1 := h7) (by decide +kernel) rfl rfl rfl rfl rfl hq hN) ?_
      have hK := hK.tr hQ
      refine RK.of (RN.blk (ops := [(66, .istore_n 3), (67, .iload_n 3), (68, .iconst (-1))]) (pc' := 69) (lv' := [(3, .inl x8), (2, .inl x6), (1, .inl x2), (0, .inr (.inr 3))]) (st' := [.inl (-1), .inl x8]) (h' := h7) (cs := []) (by decide +kernel) rfl trivial) ?_
      rcases it_of hF with ⟨hb, hF⟩ | ⟨hb, hF⟩
      · refine RK.of (RN.icf (cd := .ne) (off := 5) (tgt := 74) (by decide +kernel) (mif_nen hb)) ?_
        refine RK.of (RN.blk (ops := [(72, .iconst 0)]) (pc' := 73) (lv' := [(3, .inl x8), (2, .inl x6), (1, .inl x2), (0, .inr (.inr 3))]) (st' := [.inl 0]) (h' := h7) (cs := []) (by decide +kernel) rfl trivial) ?_
        exact RK.zR (by decide +kernel) rfl (Or.inl rfl) hL hK hF
      · refine RK.of (RN.ict (cd := .ne) (off := 5) (tgt := 74) (by decide +kernel) (mif_ne hb)) ?_
        refine RK.of (RN.blk (ops := [(74, .aload_n 0)]) (pc' := 75) (lv' := [(3, .inl x8), (2, .inl x6), (1, .inl x2), (0, .inr (.inr 3))]) (st' := [.inr (.inr 3)]) (h' := h7) (cs := []) (by decide +kernel) rfl trivial) ?_
        refine RK.of (RN.gr (i := 21) (ci := 3) (k := 2) (fn := true) (v := 7) (by decide +kernel) rfl (TO.gk (o_3 hL)) (hL.fo (v := 7) 2 10 (o_3 hL) rfl (by decide) rfl).1) ?_
        refine RK.of (RN.gr (i := 90) (ci := 10) (k := 0) (fn := true) (v := 8) (by decide +kernel) rfl (TO.gk (o_7 hL)) (hL.fo (v := 8) 0 4 (o_7 hL) rfl (by decide) rfl).1) ?_
        refine RK.of (RN.blk (ops := [(81, .iload_n 1), (82, .iload_n 2), (83, .iload_n 3)]) (pc' := 84) (lv' := [(3, .inl x8), (2, .inl x6), (1, .inl x2), (0, .inr (.inr 3))]) (st' := [.inl x8, .inl x6, .inl x2, .inr (.inr 8)]) (h' := h7) (cs := []) (by decide +kernel) rfl trivial) ?_
        obtain ⟨x10, h9, hG, hF⟩ := bd_of hF
        have hq := rcv_ok (as := [.inl x2, .inl x6, .inl x8]) (TO.gk (o_8 hL))
        obtain ⟨hN, hL, hQ⟩ := DX4_put (d := d) hL (o_8 hL) hG
        refine RK.of (RN.cv (i := 125) (k := 49) (q2 := iX4_put) (as := [.inr (.inr 8), .inl x2, .inl x6, .inl x8]) (r := []) (v := some (.inl x10)) (h1 := h9) (by decide +kernel) rfl rfl rfl rfl rfl hq hN) ?_
        have hK := hK.tr hQ
        refine RK.of (RN.blk (ops := [(87, .pop), (88, .iconst 1)]) (pc' := 89) (lv' := [(3, .inl x8), (2, .inl x6), (1, .inl x2), (0, .inr (.inr 3))]) (st' := [.inl 1]) (h' := h9) (cs := []) (by decide +kernel) rfl trivial) ?_
        exact RK.zR (by decide +kernel) rfl (Or.inr rfl) hL hK hF
noncomputable def GX9_byteAt (a1 : Int) (h : MH) : Option (Int × MH) :=
  (if a1 < 0 then
   some ((-1), h)
  else
   (if a1 < (m_rd h 1 1) then
    gd [IB a1 400] (
     some ((m_rd h 2 a1), h))
   else
    some ((-1), h)))
theorem DX9_byteAt {d : Nat} {a1 : Int} {h : MH} {r : Int × MH} (hL : LR h) (hF : GX9_byteAt a1 h = some r) : RN xs L iX9_byteAt (d) 0 (lvE 0 [.inr (.inr 1), .inl a1]) [] h (RIo r) ∧ LR r.2 ∧ KD h r.2 := by
  unfold GX9_byteAt at hF
  have hK : KD h h := KD.rf
  show RK xs L iX9_byteAt (d) 0 (lvE 0 [.inr (.inr 1), .inl a1]) [] h (RIo r) h r.2
  refine RK.of (RN.blk (ops := [(0, .iload_n 1)]) (pc' := 1) (lv' := [(0, .inr (.inr 1)), (1, .inl a1)]) (st' := [.inl a1]) (h' := h) (cs := []) (by decide +kernel) rfl trivial) ?_
  rcases it_of hF with ⟨hb, hF⟩ | ⟨hb, hF⟩
  · refine RK.of (RN.ift (cd := .lt) (off := 20) (tgt := 21) (by decide +kernel) (mif_lt hb)) ?_
    refine RK.of (RN.blk (ops := [(21, .iconst (-1))]) (pc' := 22) (lv' := [(0, .inr (.inr 1)), (1, .inl a1)]) (st' := [.inl (-1)]) (h' := h) (cs := []) (by decide +kernel) rfl trivial) ?_
    exact RK.iR (by decide +kernel) rfl hL hK hF
  · refine RK.of (RN.iff (cd := .lt) (off := 20) (tgt := 21) (by decide +kernel) (mif_ltn hb)) ?_
    refine RK.of (RN.blk (ops := [(4, .iload_n 1), (5, .aload_n 0), (6, .getfield 15)]) (pc' := 9) (lv' := [(0, .inr (.inr 1)), (1, .inl a1)]) (st' := [.inl (m_rd h 1 1), .inl a1]) (h' := h) (cs := [GK h 1 9]) (by decide +kernel) rfl ⟨(o_1 hL).gk, trivial⟩) ?_
    rcases it_of hF with ⟨hb, hF⟩ | ⟨hb, hF⟩
    · refine RK.of (RN.icf (cd := .ge) (off := 12) (tgt := 21) (by decide +kernel) (mif_gen hb)) ?_
      refine RK.of (RN.blk (ops := [(12, .aload_n 0)]) (pc' := 13) (lv' := [(0, .inr (.inr 1)), (1, .inl a1)]) (st' := [.inr (.inr 1)]) (h' := h) (cs := []) (by decide +kernel) rfl trivial) ?_
      refine RK.of (RN.gr (i := 9) (ci := 9) (k := 0) (fn := true) (v := 2) (by decide +kernel) rfl (TO.gk (o_1 hL)) (hL.fa (v := 2) 0 1 400 (o_1 hL) rfl (by decide) rfl (by decide)).1) ?_
      obtain ⟨hc, hF⟩ := gd_of hF
      refine RK.of (RN.blk (ops := [(16, .iload_n 1), (17, .iaload)]) (pc' := 18) (lv' := [(0, .inr (.inr 1)), (1, .inl a1)]) (st' := [.inl (m_rd h 2 a1)]) (h' := h) (cs := [GI h 2 1 a1]) (by decide +kernel) rfl ⟨(a_2 hL).gi hc.1.1 hc.1.2, trivial⟩) ?_
      refine RK.of (RN.goto (off := 4) (tgt := 22) (by decide +kernel)) ?_
      exact RK.iR (by decide +kernel) rfl hL hK hF
    · refine RK.of (RN.ict (cd := .ge) (off := 12) (tgt := 21) (by decide +kernel) (mif_ge hb)) ?_
      refine RK.of (RN.blk (ops := [(21, .iconst (-1))]) (pc' := 22) (lv' := [(0, .inr (.inr 1)), (1, .inl a1)]) (st' := [.inl (-1)]) (h' := h) (cs := []) (by decide +kernel) rfl trivial) ?_
      exact RK.iR (by decide +kernel) rfl hL hK hF
noncomputable def GX9_takeWord_L7 (u1 : Int) (K0 : MH → Option (Int × MH)) (K1 : MH → Option (Int × MH)) : Nat → Int → MH → Option (Int × MH)
  | 0, _, _ => none
  | f + 1, v2, h =>
    gd [GX u1] (
     (if v2 < (t_len u1) then
      (bd (GX9_byteAt (m_w32 ((m_rd h 1 2) + v2)) h) (fun x2 h1 =>
       gd [GY u1 v2] (
        (if x2 = (t_chr u1 v2) then
         GX9_takeWord_L7 u1 K0 K1 f (m_w32 (v2 + 1)) h1
        else
         K0 h1))))
     else
      K1 h))
theorem DX9_takeWord_L7 {d : Nat} {u1 : Int} {K0 : MH → Option (Int × MH)} {K1 : MH → Option (Int × MH)} {r : Int × MH} {h0 hB : MH} (hB0 : KD h0 hB) (hK0 : ∀ (h : MH), LR h → KD hB h → K0 h = some r → RK xs L iX9_takeWord (d + 6) 33 [] [] h (RIo r) h0 r.2) (hK1 : ∀ (h : MH), LR h → KD hB h → K1 h = some r → RK xs L iX9_takeWord (d + 6) 41 [(0, .inr (.inr 1)), (1, .inr (.inr u1))] [] h (RIo r) h0 r.2) : ∀ (f : Nat) (v2 : Int) (h : MH), LR h → KD hB h → GX9_takeWord_L7 u1 K0 K1 f v2 h = some r → RK xs L iX9_takeWord (d + 6) 7 [(0, .inr (.inr 1)), (1, .inr (.inr u1)), (2, .inl v2)] [] h (RIo r) h0 r.2 := by
  intro f
  induction f with
  | zero =>
    intro v2 h hL hJ hF
    cases hF
  | succ f ih =>
    intro v2 h hL hJ hF
    unfold GX9_takeWord_L7 at hF
    have hK := hB0.tr hJ
    refine RK.of (RN.blk (ops := [(7, .iload_n 2), (8, .aload_n 1)]) (pc' := 9) (lv' := [(0, .inr (.inr 1)), (1, .inr (.inr u1)), (2, .inl v2)]) (st' := [.inr (.inr u1), .inl v2]) (h' := h) (cs := []) (by decide +kernel) rfl trivial) ?_
    obtain ⟨hc, hF⟩ := gd_of hF
    refine RK.of (RN.sl (i := 33) (by decide +kernel) rfl rfl hc.1) ?_
    rcases it_of hF with ⟨hb, hF⟩ | ⟨hb, hF⟩
    · refine RK.of (RN.icf (cd := .ge) (off := 29) (tgt := 41) (by decide +kernel) (mif_gen hb)) ?_
      refine RK.of (RN.blk (ops := [(15, .aload_n 0), (16, .aload_n 0), (17, .getfield 19), (20, .iload_n 2), (21, .iadd)]) (pc' := 22) (lv' := [(0, .inr (.inr 1)), (1, .inr (.inr u1)), (2, .inl v2)]) (st' := [.inl (m_w32 ((m_rd h 1 2) + v2)), .inr (.inr 1)]) (h' := h) (cs := [GK h 1 9]) (by decide +kernel) rfl ⟨(o_1 hL).gk, trivial⟩) ?_
      obtain ⟨x2, h1, hG, hF⟩ := bd_of hF
      have hq := rcv_ok (as := [.inl (m_w32 ((m_rd h 1 2) + v2))]) (TO.gk (o_1 hL))
      obtain ⟨hN, hL, hQ⟩ := DX9_byteAt (d := d + 5) hL  hG
      refine RK.of (RN.cv (i := 38) (k := 92) (q2 := iX9_byteAt) (as := [.inr (.inr 1), .inl (m_w32 ((m_rd h 1 2) + v2))]) (r := []) (v := some (.inl x2)) (h1 := h1) (by decide +kernel) rfl rfl rfl rfl rfl hq hN) ?_
      have hK := hK.tr hQ
      have hJ := hJ.tr hQ
      refine RK.of (RN.blk (ops := [(25, .aload_n 1), (26, .iload_n 2)]) (pc' := 27) (lv' := [(0, .inr (.inr 1)), (1, .inr (.inr u1)), (2, .inl v2)]) (st' := [.inl v2, .inr (.inr u1), .inl x2]) (h' := h1) (cs := []) (by decide +kernel) rfl trivial) ?_
      obtain ⟨hc, hF⟩ := gd_of hF
      refine RK.of (RN.sc (i := 42) (by decide +kernel) rfl rfl hc.1) ?_
      rcases it_of hF with ⟨hb, hF⟩ | ⟨hb, hF⟩
      · refine RK.of (RN.ict (cd := .eq) (off := 5) (tgt := 35) (by decide +kernel) (mif_eq hb)) ?_
        refine RK.of (RN.blk (ops := [(35, .iinc 2 1)]) (pc' := 38) (lv' := [(2, .inl (m_w32 (v2 + 1))), (0, .inr (.inr 1)), (1, .inr (.inr u1))]) (st' := []) (h' := h1) (cs := []) (by decide +kernel) rfl trivial) ?_
        refine RK.of (RN.goto (off := -31) (tgt := 7) (by decide +kernel)) ?_
        exact RK.sub (ih _ _ hL hJ hF) (sub_cons rfl (sub_cons rfl (sub_cons rfl sub_nil)))
      · refine RK.of (RN.icf (cd := .eq) (off := 5) (tgt := 35) (by decide +kernel) (mif_eqn hb)) ?_
        exact RK.sub (hK0 _ hL hJ hF) sub_nil
    · refine RK.of (RN.ict (cd := .ge) (off := 29) (tgt := 41) (by decide +kernel) (mif_ge hb)) ?_
      exact RK.sub (hK1 _ hL hJ hF) (sub_cons rfl (sub_cons rfl sub_nil))
noncomputable def GX9_takeWord (a1 : Int) (h : MH) : Option (Int × MH) :=
  (bd (GX9_next h) (fun x2 h1 =>
   GX9_takeWord_L7 a1 (fun h3 =>
    some (0, h3)) (fun h4 =>
    gd [GX a1] (
     (bd (GX9_byteAt (m_w32 ((m_rd h4 1 2) + (t_len a1))) h4) (fun x6 h5 =>
      jn (
       gd [GX a1] (
        some (1, (m_wr h5 1 2 (m_w32 ((m_rd h5 1 2) + (t_len a1))))))) (fun j7 =>
       (if x6 < 97 then
        j7
       else
        (if 122 < x6 then
         j7
        else
         some (0, h5)))))))) FU 0 h1))
theorem DX9_takeWord {d : Nat} {a1 : Int} {h : MH} {r : Int × MH} (hL : LR h) (hF : GX9_takeWord a1 h = some r) : RN xs L iX9_takeWord (d + 6) 0 (lvE 0 [.inr (.inr 1), .inr (.inr a1)]) [] h (RIo r) ∧ LR r.2 ∧ KD h r.2 := by
  unfold GX9_takeWord at hF
  have hK : KD h h := KD.rf
  show RK xs L iX9_takeWord (d + 6) 0 (lvE 0 [.inr (.inr 1), .inr (.inr a1)]) [] h (RIo r) h r.2
  refine RK.of (RN.blk (ops := [(0, .aload_n 0)]) (pc' := 1) (lv' := [(0, .inr (.inr 1)), (1, .inr (.inr a1))]) (st' := [.inr (.inr 1)]) (h' := h) (cs := []) (by decide +kernel) rfl trivial) ?_
  obtain ⟨x2, h1, hG, hF⟩ := bd_of hF
  have hq := rcv_ok (as := []) (TO.gk (o_1 hL))
  obtain ⟨hN, hL, hQ⟩ := DX9_next (d := d + 5) hL  hG
  refine RK.of (RN.cv (i := 25) (k := 93) (q2 := iX9_next) (as := [.inr (.inr 1)]) (r := []) (v := some (.inl x2)) (h1 := h1) (by decide +kernel) rfl rfl rfl rfl rfl hq hN) ?_
  have hK := hK.tr hQ
  refine RK.of (RN.blk (ops := [(4, .pop), (5, .iconst 0), (6, .istore_n 2)]) (pc' := 7) (lv' := [(2, .inl 0), (0, .inr (.inr 1)), (1, .inr (.inr a1))]) (st' := []) (h' := h1) (cs := []) (by decide +kernel) rfl trivial) ?_
  refine RK.sub (DX9_takeWord_L7 hK ?_ ?_ _ _ _ hL KD.rf hF) (sub_cons rfl (sub_cons rfl (sub_cons rfl sub_nil)))
  · intro h3 hL hq hF
    have hK := hK.tr hq
    refine RK.of (RN.blk (ops := [(33, .iconst 0)]) (pc' := 34) (lv' := []) (st' := [.inl 0]) (h' := h3) (cs := []) (by decide +kernel) rfl trivial) ?_
    exact RK.zR (by decide +kernel) rfl (Or.inl rfl) hL hK hF
  · intro h4 hL hq hF
    have hK := hK.tr hq
    refine RK.of (RN.blk (ops := [(41, .aload_n 0), (42, .aload_n 0), (43, .getfield 19), (46, .aload_n 1)]) (pc' := 47) (lv' := [(0, .inr (.inr 1)), (1, .inr (.inr a1))]) (st' := [.inr (.inr a1), .inl (m_rd h4 1 2), .inr (.inr 1)]) (h' := h4) (cs := [GK h4 1 9]) (by decide +kernel) rfl ⟨(o_1 hL).gk, trivial⟩) ?_
    obtain ⟨hc, hF⟩ := gd_of hF
    refine RK.of (RN.sl (i := 33) (by decide +kernel) rfl rfl hc.1) ?_
    refine RK.of (RN.blk (ops := [(50, .iadd)]) (pc' := 51) (lv' := [(0, .inr (.inr 1)), (1, .inr (.inr a1))]) (st' := [.inl (m_w32 ((m_rd h4 1 2) + (t_len a1))), .inr (.inr 1)]) (h' := h4) (cs := []) (by decide +kernel) rfl trivial) ?_
    obtain ⟨x6, h5, hG, hF⟩ := bd_of hF
    have hq := rcv_ok (as := [.inl (m_w32 ((m_rd h4 1 2) + (t_len a1)))]) (TO.gk (o_1 hL))
    obtain ⟨hN, hL, hQ⟩ := DX9_byteAt (d := d + 5) hL  hG
    refine RK.of (RN.cv (i := 38) (k := 92) (q2 := iX9_byteAt) (as := [.inr (.inr 1), .inl (m_w32 ((m_rd h4 1 2) + (t_len a1)))]) (r := []) (v := some (.inl x6)) (h1 := h5) (by decide +kernel) rfl rfl rfl rfl rfl hq hN) ?_
    have hK := hK.tr hQ
    refine RK.of (RN.blk (ops := [(54, .istore_n 2), (55, .iload_n 2), (56, .bipush 97)]) (pc' := 58) (lv' := [(2, .inl x6), (0, .inr (.inr 1)), (1, .inr (.inr a1))]) (st' := [.inl 97, .inl x6]) (h' := h5) (cs := []) (by decide +kernel) rfl trivial) ?_
    refine jn_use (fun j7 => j7 = some r → RK xs L iX9_takeWord (d + 6) 69 [(0, .inr (.inr 1)), (1, .inr (.inr a1))] [] h5 (RIo r) h r.2) ?_ ?_ hF
    · intro  hF
      refine RK.of (RN.blk (ops := [(69, .aload_n 0), (70, .dup), (71, .getfield 19), (74, .aload_n 1)]) (pc' := 75) (lv' := [(0, .inr (.inr 1)), (1, .inr (.inr a1))]) (st' := [.inr (.inr a1), .inl (m_rd h5 1 2), .inr (.inr 1)]) (h' := h5) (cs := [GK h5 1 9]) (by decide +kernel) rfl ⟨(o_1 hL).gk, trivial⟩) ?_
      obtain ⟨hc, hF⟩ := gd_of hF
      refine RK.of (RN.sl (i := 33) (by decide +kernel) rfl rfl hc.1) ?_
      refine RK.of (RN.blk (ops := [(78, .iadd), (79, .putfield 19)]) (pc' := 82) (lv' := [(0, .inr (.inr 1)), (1, .inr (.inr a1))]) (st' := []) (h' := (m_wr h5 1 2 (m_w32 ((m_rd h5 1 2) + (t_len a1))))) (cs := [GK h5 1 9]) (by decide +kernel) rfl ⟨(o_1 hL).gk, trivial⟩) ?_
      have hL : LR (m_wr h5 1 2 (m_w32 ((m_rd h5 1 2) + (t_len a1)))) := LR.wf (k := 2) hL (o_1 hL) rfl
      have hK := hK.tr (KD.wr : KD h5 (m_wr h5 1 2 (m_w32 ((m_rd h5 1 2) + (t_len a1)))))
      refine RK.of (RN.blk (ops := [(82, .iconst 1)]) (pc' := 83) (lv' := [(0, .inr (.inr 1)), (1, .inr (.inr a1))]) (st' := [.inl 1]) (h' := (m_wr h5 1 2 (m_w32 ((m_rd h5 1 2) + (t_len a1))))) (cs := []) (by decide +kernel) rfl trivial) ?_
      exact RK.zR (by decide +kernel) rfl (Or.inr rfl) hL hK hF
    · intro j7 Jj7 hF
      rcases it_of hF with ⟨hb, hF⟩ | ⟨hb, hF⟩
      · refine RK.of (RN.ict (cd := .lt) (off := 11) (tgt := 69) (by decide +kernel) (mif_lt hb)) ?_
        exact RK.sub (Jj7 hF) (sub_cons rfl (sub_cons rfl sub_nil))
      · refine RK.of (RN.icf (cd := .lt) (off := 11) (tgt := 69) (by decide +kernel) (mif_ltn hb)) ?_
        refine RK.of (RN.blk (ops := [(61, .iload_n 2), (62, .bipush 122)]) (pc' := 64) (lv' := [(2, .inl x6), (0, .inr (.inr 1)), (1, .inr (.inr a1))]) (st' := [.inl 122, .inl x6]) (h' := h5) (cs := []) (by decide +kernel) rfl trivial) ?_
        rcases it_of hF with ⟨hb, hF⟩ | ⟨hb, hF⟩
        · refine RK.of (RN.ict (cd := .gt) (off := 5) (tgt := 69) (by decide +kernel) (mif_gt hb)) ?_
          exact RK.sub (Jj7 hF) (sub_cons rfl (sub_cons rfl sub_nil))
        · refine RK.of (RN.icf (cd := .gt) (off := 5) (tgt := 69) (by decide +kernel) (mif_gtn hb)) ?_
          refine RK.of (RN.blk (ops := [(67, .iconst 0)]) (pc' := 68) (lv' := [(2, .inl x6), (0, .inr (.inr 1)), (1, .inr (.inr a1))]) (st' := [.inl 0]) (h' := h5) (cs := []) (by decide +kernel) rfl trivial) ?_
          exact RK.zR (by decide +kernel) rfl (Or.inl rfl) hL hK hF
noncomputable def GX3_takeKind (h : MH) : Option (Int × MH) :=
  (bd (GX9_takeWord (-10) h) (fun x2 h1 =>
   (if x2 = 0 then
    (bd (GX9_takeWord (-11) h1) (fun x4 h3 =>
     (if x4 = 0 then
      (bd (GX9_takeWord (-12) h3) (fun x6 h5 =>
       (if x6 = 0 then
        (bd (GX9_takeWord (-13) h5) (fun x8 h7 =>
         (if x8 = 0 then
          some (0, h7)
         else
          some (4, h7))))
       else
        some (3, h5))))
     else
      some (2, h3))))
   else
    some (1, h1))))
theorem DX3_takeKind {d : Nat} {h : MH} {r : Int × MH} (hL : LR h) (hF : GX3_takeKind h = some r) : RN xs L iX3_takeKind (d + 7) 0 (lvE 0 [.inr (.inr 3)]) [] h (RIo r) ∧ LR r.2 ∧ KD h r.2 := by
  unfold GX3_takeKind at hF
  have hK : KD h h := KD.rf
  show RK xs L iX3_takeKind (d + 7) 0 (lvE 0 [.inr (.inr 3)]) [] h (RIo r) h r.2
  refine RK.of (RN.blk (ops := [(0, .aload_n 0)]) (pc' := 1) (lv' := [(0, .inr (.inr 3))]) (st' := [.inr (.inr 3)]) (h' := h) (cs := []) (by decide +kernel) rfl trivial) ?_
  refine RK.of (RN.gr (i := 25) (ci := 3) (k := 0) (fn := true) (v := 1) (by decide +kernel) rfl (TO.gk (o_3 hL)) (hL.fo (v := 1) 0 9 (o_3 hL) rfl (by decide) rfl).1) ?_
  refine RK.of (RN.blk (ops := [(4, .ldc 78)]) (pc' := 6) (lv' := [(0, .inr (.inr 3))]) (st' := [.inr (.inr (-10)), .inr (.inr 1)]) (h' := h) (cs := []) (by decide +kernel) rfl trivial) ?_
  obtain ⟨x2, h1, hG, hF⟩ := bd_of hF
  have hq := rcv_ok (as := [.inr (.inr (-10))]) (TO.gk (o_1 hL))
  obtain ⟨hN, hL, hQ⟩ := DX9_takeWord (d := d) hL  hG
  refine RK.of (RN.cv (i := 80) (k := 95) (q2 := iX9_takeWord) (as := [.inr (.inr 1), .inr (.inr (-10))]) (r := []) (v := some (.inl x2)) (h1 := h1) (by decide +kernel) rfl rfl rfl rfl rfl hq hN) ?_
  have hK := hK.tr hQ
  rcases it_of hF with ⟨hb, hF⟩ | ⟨hb, hF⟩
  · refine RK.of (RN.ift (cd := .eq) (off := 5) (tgt := 14) (by decide +kernel) (mif_eq hb)) ?_
    refine RK.of (RN.blk (ops := [(14, .aload_n 0)]) (pc' := 15) (lv' := [(0, .inr (.inr 3))]) (st' := [.inr (.inr 3)]) (h' := h1) (cs := []) (by decide +kernel) rfl trivial) ?_
    refine RK.of (RN.gr (i := 25) (ci := 3) (k := 0) (fn := true) (v := 1) (by decide +kernel) rfl (TO.gk (o_3 hL)) (hL.fo (v := 1) 0 9 (o_3 hL) rfl (by decide) rfl).1) ?_
    refine RK.of (RN.blk (ops := [(18, .ldc 84)]) (pc' := 20) (lv' := [(0, .inr (.inr 3))]) (st' := [.inr (.inr (-11)), .inr (.inr 1)]) (h' := h1) (cs := []) (by decide +kernel) rfl trivial) ?_
    obtain ⟨x4, h3, hG, hF⟩ := bd_of hF
    have hq := rcv_ok (as := [.inr (.inr (-11))]) (TO.gk (o_1 hL))
    obtain ⟨hN, hL, hQ⟩ := DX9_takeWord (d := d) hL  hG
    refine RK.of (RN.cv (i := 80) (k := 95) (q2 := iX9_takeWord) (as := [.inr (.inr 1), .inr (.inr (-11))]) (r := []) (v := some (.inl x4)) (h1 := h3) (by decide +kernel) rfl rfl rfl rfl rfl hq hN) ?_
    have hK := hK.tr hQ
    rcases it_of hF with ⟨hb, hF⟩ | ⟨hb, hF⟩
    · refine RK.of (RN.ift (cd := .eq) (off := 5) (tgt := 28) (by decide +kernel) (mif_eq hb)) ?_
      refine RK.of (RN.blk (ops := [(28, .aload_n 0)]) (pc' := 29) (lv' := [(0, .inr (.inr 3))]) (st' := [.inr (.inr 3)]) (h' := h3) (cs := []) (by decide +kernel) rfl trivial) ?_
      refine RK.of (RN.gr (i := 25) (ci := 3) (k := 0) (fn := true) (v := 1) (by decide +kernel) rfl (TO.gk (o_3 hL)) (hL.fo (v := 1) 0 9 (o_3 hL) rfl (by decide) rfl).1) ?_
      refine RK.of (RN.blk (ops := [(32, .ldc 86)]) (pc' := 34) (lv' := [(0, .inr (.inr 3))]) (st' := [.inr (.inr (-12)), .inr (.inr 1)]) (h' := h3) (cs := []) (by decide +kernel) rfl trivial) ?_
      obtain ⟨x6, h5, hG, hF⟩ := bd_of hF
      have hq := rcv_ok (as := [.inr (.inr (-12))]) (TO.gk (o_1 hL))
      obtain ⟨hN, hL, hQ⟩ := DX9_takeWord (d := d) hL  hG
      refine RK.of (RN.cv (i := 80) (k := 95) (q2 := iX9_takeWord) (as := [.inr (.inr 1), .inr (.inr (-12))]) (r := []) (v := some (.inl x6)) (h1 := h5) (by decide +kernel) rfl rfl rfl rfl rfl hq hN) ?_
      have hK := hK.tr hQ
      rcases it_of hF with ⟨hb, hF⟩ | ⟨hb, hF⟩
      · refine RK.of (RN.ift (cd := .eq) (off := 5) (tgt := 42) (by decide +kernel) (mif_eq hb)) ?_
        refine RK.of (RN.blk (ops := [(42, .aload_n 0)]) (pc' := 43) (lv' := [(0, .inr (.inr 3))]) (st' := [.inr (.inr 3)]) (h' := h5) (cs := []) (by decide +kernel) rfl trivial) ?_
        refine RK.of (RN.gr (i := 25) (ci := 3) (k := 0) (fn := true) (v := 1) (by decide +kernel) rfl (TO.gk (o_3 hL)) (hL.fo (v := 1) 0 9 (o_3 hL) rfl (by decide) rfl).1) ?_
        refine RK.of (RN.blk (ops := [(46, .ldc 88)]) (pc' := 48) (lv' := [(0, .inr (.inr 3))]) (st' := [.inr (.inr (-13)), .inr (.inr 1)]) (h' := h5) (cs := []) (by decide +kernel) rfl trivial) ?_
        obtain ⟨x8, h7, hG, hF⟩ := bd_of hF
        have hq := rcv_ok (as := [.inr (.inr (-13))]) (TO.gk (o_1 hL))
        obtain ⟨hN, hL, hQ⟩ := DX9_takeWord (d := d) hL  hG
        refine RK.of (RN.cv (i := 80) (k := 95) (q2 := iX9_takeWord) (as := [.inr (.inr 1), .inr (.inr (-13))]) (r := []) (v := some (.inl x8)) (h1 := h7) (by decide +kernel) rfl rfl rfl rfl rfl hq hN) ?_
        have hK := hK.tr hQ
        rcases it_of hF with ⟨hb, hF⟩ | ⟨hb, hF⟩
        · refine RK.of (RN.ift (cd := .eq) (off := 7) (tgt := 58) (by decide +kernel) (mif_eq hb)) ?_
          refine RK.of (RN.blk (ops := [(58, .iconst 0)]) (pc' := 59) (lv' := [(0, .inr (.inr 3))]) (st' := [.inl 0]) (h' := h7) (cs := []) (by decide +kernel) rfl trivial) ?_
          exact RK.iR (by decide +kernel) rfl hL hK hF
        · refine RK.of (RN.iff (cd := .eq) (off := 7) (tgt := 58) (by decide +kernel) (mif_eqn hb)) ?_
          refine RK.of (RN.blk (ops := [(54, .iconst 4)]) (pc' := 55) (lv' := [(0, .inr (.inr 3))]) (st' := [.inl 4]) (h' := h7) (cs := []) (by decide +kernel) rfl trivial) ?_
          refine RK.of (RN.goto (off := 4) (tgt := 59) (by decide +kernel)) ?_
          exact RK.iR (by decide +kernel) rfl hL hK hF
      · refine RK.of (RN.iff (cd := .eq) (off := 5) (tgt := 42) (by decide +kernel) (mif_eqn hb)) ?_
        refine RK.of (RN.blk (ops := [(40, .iconst 3)]) (pc' := 41) (lv' := [(0, .inr (.inr 3))]) (st' := [.inl 3]) (h' := h5) (cs := []) (by decide +kernel) rfl trivial) ?_
        exact RK.iR (by decide +kernel) rfl hL hK hF
    · refine RK.of (RN.iff (cd := .eq) (off := 5) (tgt := 28) (by decide +kernel) (mif_eqn hb)) ?_
      refine RK.of (RN.blk (ops := [(26, .iconst 2)]) (pc' := 27) (lv' := [(0, .inr (.inr 3))]) (st' := [.inl 2]) (h' := h3) (cs := []) (by decide +kernel) rfl trivial) ?_
      exact RK.iR (by decide +kernel) rfl hL hK hF
  · refine RK.of (RN.iff (cd := .eq) (off := 5) (tgt := 14) (by decide +kernel) (mif_eqn hb)) ?_
    refine RK.of (RN.blk (ops := [(12, .iconst 1)]) (pc' := 13) (lv' := [(0, .inr (.inr 3))]) (st' := [.inl 1]) (h' := h1) (cs := []) (by decide +kernel) rfl trivial) ?_
    exact RK.iR (by decide +kernel) rfl hL hK hF
noncomputable def GX10_queue (t : Int) (a1 : Int) (h : MH) : Option (MH) :=
  (if (m_rd h t 1) < 20 then
   gd [IB (m_rd h t 1) 20] (
    some (m_wr (m_wr h (t + 5) (m_rd h t 1) a1) t 1 (m_w32 ((m_rd (m_wr h (t + 5) (m_rd h t 1) a1) t 1) + 1))))
  else
   some h)
theorem DX10_queue {d : Nat} {t : Int} {a1 : Int} {h : MH} {r : MH} (hL : LR h) (k0_t : TO h t 10) (hF : GX10_queue t a1 h = some r) : RN xs L iX10_queue (d) 0 (lvE 0 [.inr (.inr t), .inl a1]) [] h (RVo r) ∧ LR r ∧ KD h r := by
  unfold GX10_queue at hF
  have hK : KD h h := KD.rf
  have k_t := k0_t
  show RK xs L iX10_queue (d) 0 (lvE 0 [.inr (.inr t), .inl a1]) [] h (RVo r) h r
  refine RK.of (RN.blk (ops := [(0, .aload_n 0), (1, .getfield 32), (4, .bipush 20)]) (pc' := 6) (lv' := [(0, .inr (.inr t)), (1, .inl a1)]) (st' := [.inl 20, .inl (m_rd h t 1)]) (h' := h) (cs := [GK h t 10]) (by decide +kernel) rfl ⟨k_t.gk, trivial⟩) ?_
  rcases it_of hF with ⟨hb, hF⟩ | ⟨hb, hF⟩
  · refine RK.of (RN.icf (cd := .ge) (off := 23) (tgt := 29) (by decide +kernel) (mif_gen hb)) ?_
    refine RK.of (RN.blk (ops := [(9, .aload_n 0)]) (pc' := 10) (lv' := [(0, .inr (.inr t)), (1, .inl a1)]) (st' := [.inr (.inr t)]) (h' := h) (cs := []) (by decide +kernel) rfl trivial) ?_
    refine RK.of (RN.gr (i := 18) (ci := 10) (k := 2) (fn := true) (v := (t + 5)) (by decide +kernel) rfl (TO.gk k_t) (hL.fa (v := (t + 5)) 2 1 20 k_t rfl rfl rfl (by decide)).1) ?_
    obtain ⟨hc, hF⟩ := gd_of hF
    refine RK.of (RN.blk (ops := [(13, .aload_n 0), (14, .getfield 32), (17, .iload_n 1), (18, .iastore)]) (pc' := 19) (lv' := [(0, .inr (.inr t)), (1, .inl a1)]) (st' := []) (h' := (m_wr h (t + 5) (m_rd h t 1) a1)) (cs := [GK h t 10, GI h (t + 5) 1 (m_rd h t 1)]) (by decide +kernel) rfl ⟨k_t.gk, (hL.fa 2 1 20 k_t rfl rfl rfl (by decide)).2.gi hc.1.1 hc.1.2, trivial⟩) ?_
    have hL : LR (m_wr h (t + 5) (m_rd h t 1) a1) := hL.wa (TA.le5 (hL.fa 2 1 20 k_t rfl rfl rfl (by decide)).2 (by decide))
    have k_t := (KD.wr : KD h (m_wr h (t + 5) (m_rd h t 1) a1)).to k_t
    have hK := hK.tr (KD.wr : KD h (m_wr h (t + 5) (m_rd h t 1) a1))
    refine RK.of (RN.blk (ops := [(19, .aload_n 0), (20, .dup), (21, .getfield 32), (24, .iconst 1), (25, .iadd), (26, .putfield 32)]) (pc' := 29) (lv' := [(0, .inr (.inr t)), (1, .inl a1)]) (st' := []) (h' := (m_wr (m_wr h (t + 5) (m_rd h t 1) a1) t 1 (m_w32 ((m_rd (m_wr h (t + 5) (m_rd h t 1) a1) t 1) + 1)))) (cs := [GK (m_wr h (t + 5) (m_rd h t 1) a1) t 10, GK (m_wr h (t + 5) (m_rd h t 1) a1) t 10]) (by decide +kernel) rfl ⟨k_t.gk, k_t.gk, trivial⟩) ?_
    have hL : LR (m_wr (m_wr h (t + 5) (m_rd h t 1) a1) t 1 (m_w32 ((m_rd (m_wr h (t + 5) (m_rd h t 1) a1) t 1) + 1))) := LR.wf (k := 1) hL k_t rfl
    have k_t := (KD.wr : KD (m_wr h (t + 5) (m_rd h t 1) a1) (m_wr (m_wr h (t + 5) (m_rd h t 1) a1) t 1 (m_w32 ((m_rd (m_wr h (t + 5) (m_rd h t 1) a1) t 1) + 1)))).to k_t
    have hK := hK.tr (KD.wr : KD (m_wr h (t + 5) (m_rd h t 1) a1) (m_wr (m_wr h (t + 5) (m_rd h t 1) a1) t 1 (m_w32 ((m_rd (m_wr h (t + 5) (m_rd h t 1) a1) t 1) + 1))))
    exact RK.vR (by decide +kernel) rfl hL hK hF
  · refine RK.of (RN.ict (cd := .ge) (off := 23) (tgt := 29) (by decide +kernel) (mif_ge hb)) ?_
    exact RK.vR (by decide +kernel) rfl hL hK hF
noncomputable def GX3_takeLetter (h : MH) : Option (Int × MH) :=
  (bd (GX9_takeNumber 0 (m_w32 ((m_rd h 4 3) - 1)) h) (fun x2 h1 =>
   (if x2 = (-1) then
    some (0, h1)
   else
    (bv (GX10_queue 7 x2 h1) (fun h3 =>
     some (1, h3))))))
theorem DX3_takeLetter {d : Nat} {h : MH} {r : Int × MH} (hL : LR h) (hF : GX3_takeLetter h = some r) : RN xs L iX3_takeLetter (d + 2) 0 (lvE 0 [.inr (.inr 3)]) [] h (RIo r) ∧ LR r.2 ∧ KD h r.2 := by
  unfold GX3_takeLetter at hF
  have hK : KD h h := KD.rf
  show RK xs L iX3_takeLetter (d + 2) 0 (lvE 0 [.inr (.inr 3)]) [] h (RIo r) h r.2
  refine RK.of (RN.blk (ops := [(0, .aload_n 0)]) (pc' := 1) (lv' := [(0, .inr (.inr 3))]) (st' := [.inr (.inr 3)]) (h' := h) (cs := []) (by decide +kernel) rfl trivial) ?_
  refine RK.of (RN.gr (i := 25) (ci := 3) (k := 0) (fn := true) (v := 1) (by decide +kernel) rfl (TO.gk (o_3 hL)) (hL.fo (v := 1) 0 9 (o_3 hL) rfl (by decide) rfl).1) ?_
  refine RK.of (RN.blk (ops := [(4, .iconst 0), (5, .aload_n 0)]) (pc' := 6) (lv' := [(0, .inr (.inr 3))]) (st' := [.inr (.inr 3), .inl 0, .inr (.inr 1)]) (h' := h) (cs := []) (by decide +kernel) rfl trivial) ?_
  refine RK.of (RN.gr (i := 12) (ci := 3) (k := 1) (fn := true) (v := 4) (by decide +kernel) rfl (TO.gk (o_3 hL)) (hL.fo (v := 4) 1 8 (o_3 hL) rfl (by decide) rfl).1) ?_
  refine RK.of (RN.blk (ops := [(9, .getfield 129), (12, .iconst 1), (13, .isub)]) (pc' := 14) (lv' := [(0, .inr (.inr 3))]) (st' := [.inl (m_w32 ((m_rd h 4 3) - 1)), .inl 0, .inr (.inr 1)]) (h' := h) (cs := [GK h 4 8]) (by decide +kernel) rfl ⟨(o_4 hL).gk, trivial⟩) ?_
  obtain ⟨x2, h1, hG, hF⟩ := bd_of hF
  have hq := rcv_ok (as := [.inl 0, .inl (m_w32 ((m_rd h 4 3) - 1))]) (TO.gk (o_1 hL))
  obtain ⟨hN, hL, hQ⟩ := DX9_takeNumber (d := d) hL  hG
  refine RK.of (RN.cv (i := 101) (k := 96) (q2 := iX9_takeNumber) (as := [.inr (.inr 1), .inl 0, .inl (m_w32 ((m_rd h 4 3) - 1))]) (r := []) (v := some (.inl x2)) (h1 := h1) (by decide +kernel) rfl rfl rfl rfl rfl hq hN) ?_
  have hK := hK.tr hQ
  refine RK.of (RN.blk (ops := [(17, .istore_n 1), (18, .iload_n 1), (19, .iconst (-1))]) (pc' := 20) (lv' := [(1, .inl x2), (0, .inr (.inr 3))]) (st' := [.inl (-1), .inl x2]) (h' := h1) (cs := []) (by decide +kernel) rfl trivial) ?_
  rcases it_of hF with ⟨hb, hF⟩ | ⟨hb, hF⟩
  · refine RK.of (RN.icf (cd := .ne) (off := 5) (tgt := 25) (by decide +kernel) (mif_nen hb)) ?_
    refine RK.of (RN.blk (ops := [(23, .iconst 0)]) (pc' := 24) (lv' := [(1, .inl x2), (0, .inr (.inr 3))]) (st' := [.inl 0]) (h' := h1) (cs := []) (by decide +kernel) rfl trivial) ?_
    exact RK.zR (by decide +kernel) rfl (Or.inl rfl) hL hK hF
  · refine RK.of (RN.ict (cd := .ne) (off := 5) (tgt := 25) (by decide +kernel) (mif_ne hb)) ?_
    refine RK.of (RN.blk (ops := [(25, .aload_n 0)]) (pc' := 26) (lv' := [(1, .inl x2), (0, .inr (.inr 3))]) (st' := [.inr (.inr 3)]) (h' := h1) (cs := []) (by decide +kernel) rfl trivial) ?_
    refine RK.of (RN.gr (i := 21) (ci := 3) (k := 2) (fn := true) (v := 7) (by decide +kernel) rfl (TO.gk (o_3 hL)) (hL.fo (v := 7) 2 10 (o_3 hL) rfl (by decide) rfl).1) ?_
    refine RK.of (RN.blk (ops := [(29, .iload_n 1)]) (pc' := 30) (lv' := [(1, .inl x2), (0, .inr (.inr 3))]) (st' := [.inl x2, .inr (.inr 7)]) (h' := h1) (cs := []) (by decide +kernel) rfl trivial) ?_
    obtain ⟨h3, hG, hF⟩ := bv_of hF
    have hq := rcv_ok (as := [.inl x2]) (TO.gk (o_7 hL))
    obtain ⟨hN, hL, hQ⟩ := DX10_queue (d := d + 1) hL (o_7 hL) hG
    refine RK.of (RN.cv (i := 132) (k := 102) (q2 := iX10_queue) (as := [.inr (.inr 7), .inl x2]) (r := []) (v := none) (h1 := h3) (by decide +kernel) rfl rfl rfl rfl rfl hq hN) ?_
    have hK := hK.tr hQ
    refine RK.of (RN.blk (ops := [(33, .iconst 1)]) (pc' := 34) (lv' := [(1, .inl x2), (0, .inr (.inr 3))]) (st' := [.inl 1]) (h' := h3) (cs := []) (by decide +kernel) rfl trivial) ?_
    exact RK.zR (by decide +kernel) rfl (Or.inr rfl) hL hK hF
noncomputable def GX3_takeRoom (h : MH) : Option (Int × MH) :=
  (bd (GX9_takeNumber 0 (m_w32 ((m_rd h 4 2) - 1)) h) (fun x2 h1 =>
   (bd (GX8_hasHole 4 x2 h1) (fun x4 h3 =>
    (if x4 = 0 then
     some (0, h3)
    else
     (bd (GX9_takeNumber 1 20 h3) (fun x6 h5 =>
      (if x6 = (-1) then
       some (0, h5)
      else
       gd [IB x2 6] (
        some (1, (m_wr h5 6 x2 x6)))))))))))
theorem DX3_takeRoom {d : Nat} {h : MH} {r : Int × MH} (hL : LR h) (hF : GX3_takeRoom h = some r) : RN xs L iX3_takeRoom (d + 2) 0 (lvE 0 [.inr (.inr 3)]) [] h (RIo r) ∧ LR r.2 ∧ KD h r.2 := by
  unfold GX3_takeRoom at hF
  have hK : KD h h := KD.rf
  show RK xs L iX3_takeRoom (d + 2) 0 (lvE 0 [.inr (.inr 3)]) [] h (RIo r) h r.2
  refine RK.of (RN.blk (ops := [(0, .aload_n 0)]) (pc' := 1) (lv' := [(0, .inr (.inr 3))]) (st' := [.inr (.inr 3)]) (h' := h) (cs := []) (by decide +kernel) rfl trivial) ?_
  refine RK.of (RN.gr (i := 25) (ci := 3) (k := 0) (fn := true) (v := 1) (by decide +kernel) rfl (TO.gk (o_3 hL)) (hL.fo (v := 1) 0 9 (o_3 hL) rfl (by decide) rfl).1) ?_
  refine RK.of (RN.blk (ops := [(4, .iconst 0), (5, .aload_n 0)]) (pc' := 6) (lv' := [(0, .inr (.inr 3))]) (st' := [.inr (.inr 3), .inl 0, .inr (.inr 1)]) (h' := h) (cs := []) (by decide +kernel) rfl trivial) ?_
  refine RK.of (RN.gr (i := 12) (ci := 3) (k := 1) (fn := true) (v := 4) (by decide +kernel) rfl (TO.gk (o_3 hL)) (hL.fo (v := 4) 1 8 (o_3 hL) rfl (by decide) rfl).1) ?_
  refine RK.of (RN.blk (ops := [(9, .getfield 109), (12, .iconst 1), (13, .isub)]) (pc' := 14) (lv' := [(0, .inr (.inr 3))]) (st' := [.inl (m_w32 ((m_rd h 4 2) - 1)), .inl 0, .inr (.inr 1)]) (h' := h) (cs := [GK h 4 8]) (by decide +kernel) rfl ⟨(o_4 hL).gk, trivial⟩) ?_
  obtain ⟨x2, h1, hG, hF⟩ := bd_of hF
  have hq := rcv_ok (as := [.inl 0, .inl (m_w32 ((m_rd h 4 2) - 1))]) (TO.gk (o_1 hL))
  obtain ⟨hN, hL, hQ⟩ := DX9_takeNumber (d := d) hL  hG
  refine RK.of (RN.cv (i := 101) (k := 96) (q2 := iX9_takeNumber) (as := [.inr (.inr 1), .inl 0, .inl (m_w32 ((m_rd h 4 2) - 1))]) (r := []) (v := some (.inl x2)) (h1 := h1) (by decide +kernel) rfl rfl rfl rfl rfl hq hN) ?_
  have hK := hK.tr hQ
  refine RK.of (RN.blk (ops := [(17, .istore_n 1), (18, .aload_n 0)]) (pc' := 19) (lv' := [(1, .inl x2), (0, .inr (.inr 3))]) (st' := [.inr (.inr 3)]) (h' := h1) (cs := []) (by decide +kernel) rfl trivial) ?_
  refine RK.of (RN.gr (i := 12) (ci := 3) (k := 1) (fn := true) (v := 4) (by decide +kernel) rfl (TO.gk (o_3 hL)) (hL.fo (v := 4) 1 8 (o_3 hL) rfl (by decide) rfl).1) ?_
  refine RK.of (RN.blk (ops := [(22, .iload_n 1)]) (pc' := 23) (lv' := [(1, .inl x2), (0, .inr (.inr 3))]) (st' := [.inl x2, .inr (.inr 4)]) (h' := h1) (cs := []) (by decide +kernel) rfl trivial) ?_
  obtain ⟨x4, h3, hG, hF⟩ := bd_of hF
  have hq := rcv_ok (as := [.inl x2]) (TO.gk (o_4 hL))
  obtain ⟨hN, hL, hQ⟩ := DX8_hasHole (d := d + 1) hL (o_4 hL) hG
  refine RK.of (RN.cv (i := 112) (k := 81) (q2 := iX8_hasHole) (as := [.inr (.inr 4), .inl x2]) (r := []) (v := some (.inl x4)) (h1 := h3) (by decide +kernel) rfl rfl rfl rfl rfl hq hN) ?_
  have hK := hK.tr hQ
  rcases it_of hF with ⟨hb, hF⟩ | ⟨hb, hF⟩
  · refine RK.of (RN.iff (cd := .ne) (off := 5) (tgt := 31) (by decide +kernel) (mif_nen hb)) ?_
    refine RK.of (RN.blk (ops := [(29, .iconst 0)]) (pc' := 30) (lv' := [(1, .inl x2), (0, .inr (.inr 3))]) (st' := [.inl 0]) (h' := h3) (cs := []) (by decide +kernel) rfl trivial) ?_
    exact RK.zR (by decide +kernel) rfl (Or.inl rfl) hL hK hF
  · refine RK.of (RN.ift (cd := .ne) (off := 5) (tgt := 31) (by decide +kernel) (mif_ne hb)) ?_
    refine RK.of (RN.blk (ops := [(31, .aload_n 0)]) (pc' := 32) (lv' := [(1, .inl x2), (0, .inr (.inr 3))]) (st' := [.inr (.inr 3)]) (h' := h3) (cs := []) (by decide +kernel) rfl trivial) ?_
    refine RK.of (RN.gr (i := 25) (ci := 3) (k := 0) (fn := true) (v := 1) (by decide +kernel) rfl (TO.gk (o_3 hL)) (hL.fo (v := 1) 0 9 (o_3 hL) rfl (by decide) rfl).1) ?_
    refine RK.of (RN.blk (ops := [(35, .iconst 1), (36, .bipush 20)]) (pc' := 38) (lv' := [(1, .inl x2), (0, .inr (.inr 3))]) (st' := [.inl 20, .inl 1, .inr (.inr 1)]) (h' := h3) (cs := []) (by decide +kernel) rfl trivial) ?_
    obtain ⟨x6, h5, hG, hF⟩ := bd_of hF
    have hq := rcv_ok (as := [.inl 1, .inl 20]) (TO.gk (o_1 hL))
    obtain ⟨hN, hL, hQ⟩ := DX9_takeNumber (d := d) hL  hG
    refine RK.of (RN.cv (i := 101) (k := 96) (q2 := iX9_takeNumber) (as := [.inr (.inr 1), .inl 1, .inl 20]) (r := []) (v := some (.inl x6)) (h1 := h5) (by decide +kernel) rfl rfl rfl rfl rfl hq hN) ?_
    have hK := hK.tr hQ
    refine RK.of (RN.blk (ops := [(41, .istore_n 2), (42, .iload_n 2), (43, .iconst (-1))]) (pc' := 44) (lv' := [(2, .inl x6), (1, .inl x2), (0, .inr (.inr 3))]) (st' := [.inl (-1), .inl x6]) (h' := h5) (cs := []) (by decide +kernel) rfl trivial) ?_
    rcases it_of hF with ⟨hb, hF⟩ | ⟨hb, hF⟩
    · refine RK.of (RN.icf (cd := .ne) (off := 5) (tgt := 49) (by decide +kernel) (mif_nen hb)) ?_
      refine RK.of (RN.blk (ops := [(47, .iconst 0)]) (pc' := 48) (lv' := [(2, .inl x6), (1, .inl x2), (0, .inr (.inr 3))]) (st' := [.inl 0]) (h' := h5) (cs := []) (by decide +kernel) rfl trivial) ?_
      exact RK.zR (by decide +kernel) rfl (Or.inl rfl) hL hK hF
    · refine RK.of (RN.ict (cd := .ne) (off := 5) (tgt := 49) (by decide +kernel) (mif_ne hb)) ?_
      refine RK.of (RN.blk (ops := [(49, .aload_n 0)]) (pc' := 50) (lv' := [(2, .inl x6), (1, .inl x2), (0, .inr (.inr 3))]) (st' := [.inr (.inr 3)]) (h' := h5) (cs := []) (by decide +kernel) rfl trivial) ?_
      refine RK.of (RN.gr (i := 12) (ci := 3) (k := 1) (fn := true) (v := 4) (by decide +kernel) rfl (TO.gk (o_3 hL)) (hL.fo (v := 4) 1 8 (o_3 hL) rfl (by decide) rfl).1) ?_
      refine RK.of (RN.gr (i := 115) (ci := 8) (k := 5) (fn := true) (v := 6) (by decide +kernel) rfl (TO.gk (o_4 hL)) (hL.fa (v := 6) 5 1 6 (o_4 hL) rfl (by decide) rfl (by decide)).1) ?_
      obtain ⟨hc, hF⟩ := gd_of hF
      refine RK.of (RN.blk (ops := [(56, .iload_n 1), (57, .iload_n 2), (58, .iastore)]) (pc' := 59) (lv' := [(2, .inl x6), (1, .inl x2), (0, .inr (.inr 3))]) (st' := []) (h' := (m_wr h5 6 x2 x6)) (cs := [GI h5 6 1 x2]) (by decide +kernel) rfl ⟨(a_6 hL).gi hc.1.1 hc.1.2, trivial⟩) ?_
      have hL : LR (m_wr h5 6 x2 x6) := hL.wa (TA.le5 (a_6 hL) (by decide))
      have hK := hK.tr (KD.wr : KD h5 (m_wr h5 6 x2 x6))
      refine RK.of (RN.blk (ops := [(59, .iconst 1)]) (pc' := 60) (lv' := [(2, .inl x6), (1, .inl x2), (0, .inr (.inr 3))]) (st' := [.inl 1]) (h' := (m_wr h5 6 x2 x6)) (cs := []) (by decide +kernel) rfl trivial) ?_
      exact RK.zR (by decide +kernel) rfl (Or.inr rfl) hL hK hF
noncomputable def GX8_lay_L25 (u0 : Int) (K0 : MH → Option (MH)) : Nat → Int → MH → Option (MH)
  | 0, _, _ => none
  | f + 1, v4, h =>
    (if 4 < v4 then
     K0 h
    else
     gd [IB (m_w32 (v4 - 1)) 5, IB v4 5] (
      hl (m_wr h (u0 + 1) v4 (m_w32 ((m_rd h (u0 + 1) (m_w32 (v4 - 1))) * (m_rd h u0 0)))) (fun h1 =>
       GX8_lay_L25 u0 K0 f (m_w32 (v4 + 1)) h1)))
theorem DX8_lay_L25 {d : Nat} {u0 : Int} {K0 : MH → Option (MH)} {r : MH} {h0 hB : MH} (hB0 : KD h0 hB) (k0_u0 : TO hB u0 8) (hK0 : ∀ (h : MH), LR h → KD hB h → K0 h = some r → RK xs L iX8_lay (d + 1) 58 [(0, .inr (.inr u0))] [] h (RVo r) h0 r) : ∀ (f : Nat) (v4 : Int) (h : MH), LR h → KD hB h → GX8_lay_L25 u0 K0 f v4 h = some r → RK xs L iX8_lay (d + 1) 25 [(0, .inr (.inr u0)), (4, .inl v4)] [] h (RVo r) h0 r := by
  intro f
  induction f with
  | zero =>
    intro v4 h hL hJ hF
    cases hF
  | succ f ih =>
    intro v4 h hL hJ hF
    unfold GX8_lay_L25 at hF
    have hK := hB0.tr hJ
    have k_u0 := hJ.to k0_u0
    refine RK.of (RN.blk (ops := [(25, .iload 4), (27, .iconst 4)]) (pc' := 28) (lv' := [(0, .inr (.inr u0)), (4, .inl v4)]) (st' := [.inl 4, .inl v4]) (h' := h) (cs := []) (by decide +kernel) rfl trivial) ?_
    rcases it_of hF with ⟨hb, hF⟩ | ⟨hb, hF⟩
    · refine RK.of (RN.ict (cd := .gt) (off := 30) (tgt := 58) (by decide +kernel) (mif_gt hb)) ?_
      exact RK.sub (hK0 _ hL hJ hF) (sub_cons rfl sub_nil)
    · refine RK.of (RN.icf (cd := .gt) (off := 30) (tgt := 58) (by decide +kernel) (mif_gtn hb)) ?_
      refine RK.of (RN.blk (ops := [(31, .aload_n 0)]) (pc' := 32) (lv' := [(0, .inr (.inr u0)), (4, .inl v4)]) (st' := [.inr (.inr u0)]) (h' := h) (cs := []) (by decide +kernel) rfl trivial) ?_
      refine RK.of (RN.gr (i := 9) (ci := 8) (k := 4) (fn := true) (v := (u0 + 1)) (by decide +kernel) rfl (TO.gk k_u0) (hL.fa (v := (u0 + 1)) 4 1 5 k_u0 rfl rfl rfl (by decide)).1) ?_
      refine RK.of (RN.blk (ops := [(35, .iload 4), (37, .aload_n 0)]) (pc' := 38) (lv' := [(0, .inr (.inr u0)), (4, .inl v4)]) (st' := [.inr (.inr u0), .inl v4, .inr (.inr (u0 + 1))]) (h' := h) (cs := []) (by decide +kernel) rfl trivial) ?_
      refine RK.of (RN.gr (i := 9) (ci := 8) (k := 4) (fn := true) (v := (u0 + 1)) (by decide +kernel) rfl (TO.gk k_u0) (hL.fa (v := (u0 + 1)) 4 1 5 k_u0 rfl rfl rfl (by decide)).1) ?_
      obtain ⟨hc, hF⟩ := gd_of hF
      refine RK.of (RN.blk (ops := [(41, .iload 4), (43, .iconst 1), (44, .isub), (45, .iaload), (46, .aload_n 0), (47, .getfield 18), (50, .imul), (51, .iastore)]) (pc' := 52) (lv' := [(0, .inr (.inr u0)), (4, .inl v4)]) (st' := []) (h' := (m_wr h (u0 + 1) v4 (m_w32 ((m_rd h (u0 + 1) (m_w32 (v4 - 1))) * (m_rd h u0 0))))) (cs := [GI h (u0 + 1) 1 (m_w32 (v4 - 1)), GK h u0 8, GI h (u0 + 1) 1 v4]) (by decide +kernel) rfl ⟨(hL.fa 4 1 5 k_u0 rfl rfl rfl (by decide)).2.gi hc.1.1 hc.1.2, k_u0.gk, (hL.fa 4 1 5 k_u0 rfl rfl rfl (by decide)).2.gi hc.2.1.1 hc.2.1.2, trivial⟩) ?_
      have hL : LR (m_wr h (u0 + 1) v4 (m_w32 ((m_rd h (u0 + 1) (m_w32 (v4 - 1))) * (m_rd h u0 0)))) := hL.wa (TA.le5 (hL.fa 4 1 5 k_u0 rfl rfl rfl (by decide)).2 (by decide))
      have k_u0 := (KD.wr : KD h (m_wr h (u0 + 1) v4 (m_w32 ((m_rd h (u0 + 1) (m_w32 (v4 - 1))) * (m_rd h u0 0))))).to k_u0
      have hK := hK.tr (KD.wr : KD h (m_wr h (u0 + 1) v4 (m_w32 ((m_rd h (u0 + 1) (m_w32 (v4 - 1))) * (m_rd h u0 0)))))
      have hJ := hJ.tr (KD.wr : KD h (m_wr h (u0 + 1) v4 (m_w32 ((m_rd h (u0 + 1) (m_w32 (v4 - 1))) * (m_rd h u0 0)))))
      obtain ⟨h1, he, hF⟩ := hl_of hF
      refine RK.of (RN.hl he) ?_
      rw [← he] at hL hK hJ k_u0
      refine RK.of (RN.blk (ops := [(52, .iinc 4 1)]) (pc' := 55) (lv' := [(4, .inl (m_w32 (v4 + 1))), (0, .inr (.inr u0))]) (st' := []) (h' := h1) (cs := []) (by decide +kernel) rfl trivial) ?_
      refine RK.of (RN.goto (off := -30) (tgt := 25) (by decide +kernel)) ?_
      exact RK.sub (ih _ _ hL hJ hF) (sub_cons rfl (sub_cons rfl sub_nil))
noncomputable def GX8_lay_L73 (u0 : Int) (K0 : MH → Option (MH)) : Nat → Int → MH → Option (MH)
  | 0, _, _ => none
  | f + 1, v4, h =>
    (if v4 < 6 then
     gd [IB v4 6] (
      GX8_lay_L73 u0 K0 f (m_w32 (v4 + 1)) (m_wr h (u0 + 2) v4 5))
    else
     K0 h)
theorem DX8_lay_L73 {d : Nat} {u0 : Int} {K0 : MH → Option (MH)} {r : MH} {h0 hB : MH} (hB0 : KD h0 hB) (k0_u0 : TO hB u0 8) (hK0 : ∀ (h : MH), LR h → KD hB h → K0 h = some r → RK xs L iX8_lay (d + 1) 94 [] [] h (RVo r) h0 r) : ∀ (f : Nat) (v4 : Int) (h : MH), LR h → KD hB h → GX8_lay_L73 u0 K0 f v4 h = some r → RK xs L iX8_lay (d + 1) 73 [(0, .inr (.inr u0)), (4, .inl v4)] [] h (RVo r) h0 r := by
  intro f
  induction f with
  | zero =>
    intro v4 h hL hJ hF
    cases hF
  | succ f ih =>
    intro v4 h hL hJ hF
    unfold GX8_lay_L73 at hF
    have hK := hB0.tr hJ
    have k_u0 := hJ.to k0_u0
    refine RK.of (RN.blk (ops := [(73, .iload 4), (75, .bipush 6)]) (pc' := 77) (lv' := [(0, .inr (.inr u0)), (4, .inl v4)]) (st' := [.inl 6, .inl v4]) (h' := h) (cs := []) (by decide +kernel) rfl trivial) ?_
    rcases it_of hF with ⟨hb, hF⟩ | ⟨hb, hF⟩
    · refine RK.of (RN.icf (cd := .ge) (off := 17) (tgt := 94) (by decide +kernel) (mif_gen hb)) ?_
      refine RK.of (RN.blk (ops := [(80, .aload_n 0)]) (pc' := 81) (lv' := [(0, .inr (.inr u0)), (4, .inl v4)]) (st' := [.inr (.inr u0)]) (h' := h) (cs := []) (by decide +kernel) rfl trivial) ?_
      refine RK.of (RN.gr (i := 15) (ci := 8) (k := 5) (fn := true) (v := (u0 + 2)) (by decide +kernel) rfl (TO.gk k_u0) (hL.fa (v := (u0 + 2)) 5 1 6 k_u0 rfl rfl rfl (by decide)).1) ?_
      obtain ⟨hc, hF⟩ := gd_of hF
      refine RK.of (RN.blk (ops := [(84, .iload 4), (86, .iconst 5), (87, .iastore)]) (pc' := 88) (lv' := [(0, .inr (.inr u0)), (4, .inl v4)]) (st' := []) (h' := (m_wr h (u0 + 2) v4 5)) (cs := [GI h (u0 + 2) 1 v4]) (by decide +kernel) rfl ⟨(hL.fa 5 1 6 k_u0 rfl rfl rfl (by decide)).2.gi hc.1.1 hc.1.2, trivial⟩) ?_
      have hL : LR (m_wr h (u0 + 2) v4 5) := hL.wa (TA.le5 (hL.fa 5 1 6 k_u0 rfl rfl rfl (by decide)).2 (by decide))
      have k_u0 := (KD.wr : KD h (m_wr h (u0 + 2) v4 5)).to k_u0
      have hK := hK.tr (KD.wr : KD h (m_wr h (u0 + 2) v4 5))
      have hJ := hJ.tr (KD.wr : KD h (m_wr h (u0 + 2) v4 5))
      refine RK.of (RN.blk (ops := [(88, .iinc 4 1)]) (pc' := 91) (lv' := [(4, .inl (m_w32 (v4 + 1))), (0, .inr (.inr u0))]) (st' := []) (h' := (m_wr h (u0 + 2) v4 5)) (cs := []) (by decide +kernel) rfl trivial) ?_
      refine RK.of (RN.goto (off := -18) (tgt := 73) (by decide +kernel)) ?_
      exact RK.sub (ih _ _ hL hJ hF) (sub_cons rfl (sub_cons rfl sub_nil))
    · refine RK.of (RN.ict (cd := .ge) (off := 17) (tgt := 94) (by decide +kernel) (mif_ge hb)) ?_
      exact RK.sub (hK0 _ hL hJ hF) sub_nil
noncomputable def GX8_lay (t : Int) (a1 : Int) (a2 : Int) (a3 : Int) (h : MH) : Option (MH) :=
  GX8_lay_L25 t (fun h1 =>
   (bd (GX8_prefixesOf t (m_rd h1 t 1) h1) (fun x3 h2 =>
    GX8_lay_L73 t (fun h4 =>
     some h4) FU 0 (m_wr h2 t 3 x3)))) FU 1 (m_wr (m_wr (m_wr (m_wr h t 0 a1) t 1 a2) t 2 a3) (t + 1) 0 1)
theorem DX8_lay {d : Nat} {t : Int} {a1 : Int} {a2 : Int} {a3 : Int} {h : MH} {r : MH} (hL : LR h) (k0_t : TO h t 8) (hF : GX8_lay t a1 a2 a3 h = some r) : RN xs L iX8_lay (d + 1) 0 (lvE 0 [.inr (.inr t), .inl a1, .inl a2, .inl a3]) [] h (RVo r) ∧ LR r ∧ KD h r := by
  unfold GX8_lay at hF
  have hK : KD h h := KD.rf
  have k_t := k0_t
  show RK xs L iX8_lay (d + 1) 0 (lvE 0 [.inr (.inr t), .inl a1, .inl a2, .inl a3]) [] h (RVo r) h r
  refine RK.of (RN.blk (ops := [(0, .aload_n 0), (1, .iload_n 1), (2, .putfield 18)]) (pc' := 5) (lv' := [(0, .inr (.inr t)), (1, .inl a1), (2, .inl a2), (3, .inl a3)]) (st' := []) (h' := (m_wr h t 0 a1)) (cs := [GK h t 8]) (by decide +kernel) rfl ⟨k_t.gk, trivial⟩) ?_
  have hL : LR (m_wr h t 0 a1) := LR.wf (k := 0) hL k_t rfl
  have k_t := (KD.wr : KD h (m_wr h t 0 a1)).to k_t
  have hK := hK.tr (KD.wr : KD h (m_wr h t 0 a1))
  refine RK.of (RN.blk (ops := [(5, .aload_n 0), (6, .iload_n 2), (7, .putfield 22)]) (pc' := 10) (lv' := [(0, .inr (.inr t)), (1, .inl a1), (2, .inl a2), (3, .inl a3)]) (st' := []) (h' := (m_wr (m_wr h t 0 a1) t 1 a2)) (cs := [GK (m_wr h t 0 a1) t 8]) (by decide +kernel) rfl ⟨k_t.gk, trivial⟩) ?_
  have hL : LR (m_wr (m_wr h t 0 a1) t 1 a2) := LR.wf (k := 1) hL k_t rfl
  have k_t := (KD.wr : KD (m_wr h t 0 a1) (m_wr (m_wr h t 0 a1) t 1 a2)).to k_t
  have hK := hK.tr (KD.wr : KD (m_wr h t 0 a1) (m_wr (m_wr h t 0 a1) t 1 a2))
  refine RK.of (RN.blk (ops := [(10, .aload_n 0), (11, .iload_n 3), (12, .putfield 25)]) (pc' := 15) (lv' := [(0, .inr (.inr t)), (1, .inl a1), (2, .inl a2), (3, .inl a3)]) (st' := []) (h' := (m_wr (m_wr (m_wr h t 0 a1) t 1 a2) t 2 a3)) (cs := [GK (m_wr (m_wr h t 0 a1) t 1 a2) t 8]) (by decide +kernel) rfl ⟨k_t.gk, trivial⟩) ?_
  have hL : LR (m_wr (m_wr (m_wr h t 0 a1) t 1 a2) t 2 a3) := LR.wf (k := 2) hL k_t rfl
  have k_t := (KD.wr : KD (m_wr (m_wr h t 0 a1) t 1 a2) (m_wr (m_wr (m_wr h t 0 a1) t 1 a2) t 2 a3)).to k_t
  have hK := hK.tr (KD.wr : KD (m_wr (m_wr h t 0 a1) t 1 a2) (m_wr (m_wr (m_wr h t 0 a1) t 1 a2) t 2 a3))
  refine RK.of (RN.blk (ops := [(15, .aload_n 0)]) (pc' := 16) (lv' := [(0, .inr (.inr t)), (1, .inl a1), (2, .inl a2), (3, .inl a3)]) (st' := [.inr (.inr t)]) (h' := (m_wr (m_wr (m_wr h t 0 a1) t 1 a2) t 2 a3)) (cs := []) (by decide +kernel) rfl trivial) ?_
  refine RK.of (RN.gr (i := 9) (ci := 8) (k := 4) (fn := true) (v := (t + 1)) (by decide +kernel) rfl (TO.gk k_t) (hL.fa (v := (t + 1)) 4 1 5 k_t rfl rfl rfl (by decide)).1) ?_
  refine RK.of (RN.blk (ops := [(19, .iconst 0), (20, .iconst 1), (21, .iastore)]) (pc' := 22) (lv' := [(0, .inr (.inr t)), (1, .inl a1), (2, .inl a2), (3, .inl a3)]) (st' := []) (h' := (m_wr (m_wr (m_wr (m_wr h t 0 a1) t 1 a2) t 2 a3) (t + 1) 0 1)) (cs := [GI (m_wr (m_wr (m_wr h t 0 a1) t 1 a2) t 2 a3) (t + 1) 1 0]) (by decide +kernel) rfl ⟨(hL.fa 4 1 5 k_t rfl rfl rfl (by decide)).2.gi (by decide) (by decide), trivial⟩) ?_
  have hL : LR (m_wr (m_wr (m_wr (m_wr h t 0 a1) t 1 a2) t 2 a3) (t + 1) 0 1) := hL.wa (TA.le5 (hL.fa 4 1 5 k_t rfl rfl rfl (by decide)).2 (by decide))
  have k_t := (KD.wr : KD (m_wr (m_wr (m_wr h t 0 a1) t 1 a2) t 2 a3) (m_wr (m_wr (m_wr (m_wr h t 0 a1) t 1 a2) t 2 a3) (t + 1) 0 1)).to k_t
  have hK := hK.tr (KD.wr : KD (m_wr (m_wr (m_wr h t 0 a1) t 1 a2) t 2 a3) (m_wr (m_wr (m_wr (m_wr h t 0 a1) t 1 a2) t 2 a3) (t + 1) 0 1))
  refine RK.of (RN.blk (ops := [(22, .iconst 1), (23, .istore 4)]) (pc' := 25) (lv' := [(4, .inl 1), (0, .inr (.inr t)), (1, .inl a1), (2, .inl a2), (3, .inl a3)]) (st' := []) (h' := (m_wr (m_wr (m_wr (m_wr h t 0 a1) t 1 a2) t 2 a3) (t + 1) 0 1)) (cs := []) (by decide +kernel) rfl trivial) ?_
  refine RK.sub (DX8_lay_L25 hK k_t ?_ _ _ _ hL KD.rf hF) (sub_cons rfl (sub_cons rfl sub_nil))
  · intro h1 hL hq hF
    have k_t := hq.to k_t
    have hK := hK.tr hq
    refine RK.of (RN.blk (ops := [(58, .aload_n 0), (59, .aload_n 0), (60, .aload_n 0), (61, .getfield 22)]) (pc' := 64) (lv' := [(0, .inr (.inr t))]) (st' := [.inl (m_rd h1 t 1), .inr (.inr t), .inr (.inr t)]) (h' := h1) (cs := [GK h1 t 8]) (by decide +kernel) rfl ⟨k_t.gk, trivial⟩) ?_
    obtain ⟨x3, h2, hG, hF⟩ := bd_of hF
    have hq := rcv_ok (as := [.inl (m_rd h1 t 1)]) (TO.gk k_t)
    obtain ⟨hN, hL, hQ⟩ := DX8_prefixesOf (d := d) hL k_t hG
    refine RK.of (RN.cv (i := 28) (k := 84) (q2 := iX8_prefixesOf) (as := [.inr (.inr t), .inl (m_rd h1 t 1)]) (r := [.inr (.inr t)]) (v := some (.inl x3)) (h1 := h2) (by decide +kernel) rfl rfl rfl rfl rfl hq hN) ?_
    have k_t := hQ.to k_t
    have hK := hK.tr hQ
    refine RK.of (RN.blk (ops := [(67, .putfield 32)]) (pc' := 70) (lv' := [(0, .inr (.inr t))]) (st' := []) (h' := (m_wr h2 t 3 x3)) (cs := [GK h2 t 8]) (by decide +kernel) rfl ⟨k_t.gk, trivial⟩) ?_
    have hL : LR (m_wr h2 t 3 x3) := LR.wf (k := 3) hL k_t rfl
    have k_t := (KD.wr : KD h2 (m_wr h2 t 3 x3)).to k_t
    have hK := hK.tr (KD.wr : KD h2 (m_wr h2 t 3 x3))
    refine RK.of (RN.blk (ops := [(70, .iconst 0), (71, .istore 4)]) (pc' := 73) (lv' := [(4, .inl 0), (0, .inr (.inr t))]) (st' := []) (h' := (m_wr h2 t 3 x3)) (cs := []) (by decide +kernel) rfl trivial) ?_
    refine RK.sub (DX8_lay_L73 hK k_t ?_ _ _ _ hL KD.rf hF) (sub_cons rfl (sub_cons rfl sub_nil))
    · intro h4 hL hq hF
      have k_t := hq.to k_t
      have hK := hK.tr hq
      exact RK.vR (by decide +kernel) rfl hL hK hF
noncomputable def GX3_takeShape (h : MH) : Option (Int × MH) :=
  (bd (GX9_takeNumber 2 4 h) (fun x2 h1 =>
   (if x2 = (-1) then
    some (0, h1)
   else
    (bd (GX9_takeNumber 1 4 h1) (fun x4 h3 =>
     (if x4 = (-1) then
      some (0, h3)
     else
      (bd (GX9_takeNumber 1 6 h3) (fun x6 h5 =>
       (if x6 = (-1) then
        some (0, h5)
       else
        (bv (GX8_lay 4 x2 x4 x6 h5) (fun h7 =>
         some (1, h7))))))))))))
theorem DX3_takeShape {d : Nat} {h : MH} {r : Int × MH} (hL : LR h) (hF : GX3_takeShape h = some r) : RN xs L iX3_takeShape (d + 2) 0 (lvE 0 [.inr (.inr 3)]) [] h (RIo r) ∧ LR r.2 ∧ KD h r.2 := by
  unfold GX3_takeShape at hF
  have hK : KD h h := KD.rf
  show RK xs L iX3_takeShape (d + 2) 0 (lvE 0 [.inr (.inr 3)]) [] h (RIo r) h r.2
  refine RK.of (RN.blk (ops := [(0, .aload_n 0)]) (pc' := 1) (lv' := [(0, .inr (.inr 3))]) (st' := [.inr (.inr 3)]) (h' := h) (cs := []) (by decide +kernel) rfl trivial) ?_
  refine RK.of (RN.gr (i := 25) (ci := 3) (k := 0) (fn := true) (v := 1) (by decide +kernel) rfl (TO.gk (o_3 hL)) (hL.fo (v := 1) 0 9 (o_3 hL) rfl (by decide) rfl).1) ?_
  refine RK.of (RN.blk (ops := [(4, .iconst 2), (5, .iconst 4)]) (pc' := 6) (lv' := [(0, .inr (.inr 3))]) (st' := [.inl 4, .inl 2, .inr (.inr 1)]) (h' := h) (cs := []) (by decide +kernel) rfl trivial) ?_
  obtain ⟨x2, h1, hG, hF⟩ := bd_of hF
  have hq := rcv_ok (as := [.inl 2, .inl 4]) (TO.gk (o_1 hL))
  obtain ⟨hN, hL, hQ⟩ := DX9_takeNumber (d := d) hL  hG
  refine RK.of (RN.cv (i := 101) (k := 96) (q2 := iX9_takeNumber) (as := [.inr (.inr 1), .inl 2, .inl 4]) (r := []) (v := some (.inl x2)) (h1 := h1) (by decide +kernel) rfl rfl rfl rfl rfl hq hN) ?_
  have hK := hK.tr hQ
  refine RK.of (RN.blk (ops := [(9, .istore_n 1), (10, .iload_n 1), (11, .iconst (-1))]) (pc' := 12) (lv' := [(1, .inl x2), (0, .inr (.inr 3))]) (st' := [.inl (-1), .inl x2]) (h' := h1) (cs := []) (by decide +kernel) rfl trivial) ?_
  rcases it_of hF with ⟨hb, hF⟩ | ⟨hb, hF⟩
  · refine RK.of (RN.icf (cd := .ne) (off := 5) (tgt := 17) (by decide +kernel) (mif_nen hb)) ?_
    refine RK.of (RN.blk (ops := [(15, .iconst 0)]) (pc' := 16) (lv' := [(1, .inl x2), (0, .inr (.inr 3))]) (st' := [.inl 0]) (h' := h1) (cs := []) (by decide +kernel) rfl trivial) ?_
    exact RK.zR (by decide +kernel) rfl (Or.inl rfl) hL hK hF
  · refine RK.of (RN.ict (cd := .ne) (off := 5) (tgt := 17) (by decide +kernel) (mif_ne hb)) ?_
    refine RK.of (RN.blk (ops := [(17, .aload_n 0)]) (pc' := 18) (lv' := [(1, .inl x2), (0, .inr (.inr 3))]) (st' := [.inr (.inr 3)]) (h' := h1) (cs := []) (by decide +kernel) rfl trivial) ?_
    refine RK.of (RN.gr (i := 25) (ci := 3) (k := 0) (fn := true) (v := 1) (by decide +kernel) rfl (TO.gk (o_3 hL)) (hL.fo (v := 1) 0 9 (o_3 hL) rfl (by decide) rfl).1) ?_
    refine RK.of (RN.blk (ops := [(21, .iconst 1), (22, .iconst 4)]) (pc' := 23) (lv' := [(1, .inl x2), (0, .inr (.inr 3))]) (st' := [.inl 4, .inl 1, .inr (.inr 1)]) (h' := h1) (cs := []) (by decide +kernel) rfl trivial) ?_
    obtain ⟨x4, h3, hG, hF⟩ := bd_of hF
    have hq := rcv_ok (as := [.inl 1, .inl 4]) (TO.gk (o_1 hL))
    obtain ⟨hN, hL, hQ⟩ := DX9_takeNumber (d := d) hL  hG
    refine RK.of (RN.cv (i := 101) (k := 96) (q2 := iX9_takeNumber) (as := [.inr (.inr 1), .inl 1, .inl 4]) (r := []) (v := some (.inl x4)) (h1 := h3) (by decide +kernel) rfl rfl rfl rfl rfl hq hN) ?_
    have hK := hK.tr hQ
    refine RK.of (RN.blk (ops := [(26, .istore_n 2), (27, .iload_n 2), (28, .iconst (-1))]) (pc' := 29) (lv' := [(2, .inl x4), (1, .inl x2), (0, .inr (.inr 3))]) (st' := [.inl (-1), .inl x4]) (h' := h3) (cs := []) (by decide +kernel) rfl trivial) ?_
    rcases it_of hF with ⟨hb, hF⟩ | ⟨hb, hF⟩
    · refine RK.of (RN.icf (cd := .ne) (off := 5) (tgt := 34) (by decide +kernel) (mif_nen hb)) ?_
      refine RK.of (RN.blk (ops := [(32, .iconst 0)]) (pc' := 33) (lv' := [(2, .inl x4), (1, .inl x2), (0, .inr (.inr 3))]) (st' := [.inl 0]) (h' := h3) (cs := []) (by decide +kernel) rfl trivial) ?_
      exact RK.zR (by decide +kernel) rfl (Or.inl rfl) hL hK hF
    · refine RK.of (RN.ict (cd := .ne) (off := 5) (tgt := 34) (by decide +kernel) (mif_ne hb)) ?_
      refine RK.of (RN.blk (ops := [(34, .aload_n 0)]) (pc' := 35) (lv' := [(2, .inl x4), (1, .inl x2), (0, .inr (.inr 3))]) (st' := [.inr (.inr 3)]) (h' := h3) (cs := []) (by decide +kernel) rfl trivial) ?_
      refine RK.of (RN.gr (i := 25) (ci := 3) (k := 0) (fn := true) (v := 1) (by decide +kernel) rfl (TO.gk (o_3 hL)) (hL.fo (v := 1) 0 9 (o_3 hL) rfl (by decide) rfl).1) ?_
      refine RK.of (RN.blk (ops := [(38, .iconst 1), (39, .bipush 6)]) (pc' := 41) (lv' := [(2, .inl x4), (1, .inl x2), (0, .inr (.inr 3))]) (st' := [.inl 6, .inl 1, .inr (.inr 1)]) (h' := h3) (cs := []) (by decide +kernel) rfl trivial) ?_
      obtain ⟨x6, h5, hG, hF⟩ := bd_of hF
      have hq := rcv_ok (as := [.inl 1, .inl 6]) (TO.gk (o_1 hL))
      obtain ⟨hN, hL, hQ⟩ := DX9_takeNumber (d := d) hL  hG
      refine RK.of (RN.cv (i := 101) (k := 96) (q2 := iX9_takeNumber) (as := [.inr (.inr 1), .inl 1, .inl 6]) (r := []) (v := some (.inl x6)) (h1 := h5) (by decide +kernel) rfl rfl rfl rfl rfl hq hN) ?_
      have hK := hK.tr hQ
      refine RK.of (RN.blk (ops := [(44, .istore_n 3), (45, .iload_n 3), (46, .iconst (-1))]) (pc' := 47) (lv' := [(3, .inl x6), (2, .inl x4), (1, .inl x2), (0, .inr (.inr 3))]) (st' := [.inl (-1), .inl x6]) (h' := h5) (cs := []) (by decide +kernel) rfl trivial) ?_
      rcases it_of hF with ⟨hb, hF⟩ | ⟨hb, hF⟩
      · refine RK.of (RN.icf (cd := .ne) (off := 5) (tgt := 52) (by decide +kernel) (mif_nen hb)) ?_
        refine RK.of (RN.blk (ops := [(50, .iconst 0)]) (pc' := 51) (lv' := [(3, .inl x6), (2, .inl x4), (1, .inl x2), (0, .inr (.inr 3))]) (st' := [.inl 0]) (h' := h5) (cs := []) (by decide +kernel) rfl trivial) ?_
        exact RK.zR (by decide +kernel) rfl (Or.inl rfl) hL hK hF
      · refine RK.of (RN.ict (cd := .ne) (off := 5) (tgt := 52) (by decide +kernel) (mif_ne hb)) ?_
        refine RK.of (RN.blk (ops := [(52, .aload_n 0)]) (pc' := 53) (lv' := [(3, .inl x6), (2, .inl x4), (1, .inl x2), (0, .inr (.inr 3))]) (st' := [.inr (.inr 3)]) (h' := h5) (cs := []) (by decide +kernel) rfl trivial) ?_
        refine RK.of (RN.gr (i := 12) (ci := 3) (k := 1) (fn := true) (v := 4) (by decide +kernel) rfl (TO.gk (o_3 hL)) (hL.fo (v := 4) 1 8 (o_3 hL) rfl (by decide) rfl).1) ?_
        refine RK.of (RN.blk (ops := [(56, .iload_n 1), (57, .iload_n 2), (58, .iload_n 3)]) (pc' := 59) (lv' := [(3, .inl x6), (2, .inl x4), (1, .inl x2), (0, .inr (.inr 3))]) (st' := [.inl x6, .inl x4, .inl x2, .inr (.inr 4)]) (h' := h5) (cs := []) (by decide +kernel) rfl trivial) ?_
        obtain ⟨h7, hG, hF⟩ := bv_of hF
        have hq := rcv_ok (as := [.inl x2, .inl x4, .inl x6]) (TO.gk (o_4 hL))
        obtain ⟨hN, hL, hQ⟩ := DX8_lay (d := d) hL (o_4 hL) hG
        refine RK.of (RN.cv (i := 105) (k := 79) (q2 := iX8_lay) (as := [.inr (.inr 4), .inl x2, .inl x4, .inl x6]) (r := []) (v := none) (h1 := h7) (by decide +kernel) rfl rfl rfl rfl rfl hq hN) ?_
        have hK := hK.tr hQ
        refine RK.of (RN.blk (ops := [(62, .iconst 1)]) (pc' := 63) (lv' := [(3, .inl x6), (2, .inl x4), (1, .inl x2), (0, .inr (.inr 3))]) (st' := [.inl 1]) (h' := h7) (cs := []) (by decide +kernel) rfl trivial) ?_
        exact RK.zR (by decide +kernel) rfl (Or.inr rfl) hL hK hF
noncomputable def GX3_tooMany (a1 : Int) (a2 : Int) (h : MH) : Option (Int × MH) :=
  (if a1 < 40 then
   jn (fun (s2 : Int) =>
    jn (fun (s4 : Int) =>
     (if s2 = s4 then
      jn (
       (if a2 = 4 then
        (if (m_rd h 7 1) < 12 then
         some (0, h)
        else
         some (1, h))
       else
        some (0, h))) (fun j5 =>
       (if a2 = 3 then
        (if (m_rd h 8 0) < 12 then
         j5
        else
         some (1, h))
       else
        j5))
     else
      some (1, h))) (fun j3 =>
     (if a2 = 1 then
      j3 1
     else
      j3 0))) (fun j1 =>
    (if a1 = 0 then
     j1 1
    else
     j1 0))
  else
   some (1, h))
theorem DX3_tooMany {d : Nat} {a1 : Int} {a2 : Int} {h : MH} {r : Int × MH} (hL : LR h) (hF : GX3_tooMany a1 a2 h = some r) : RN xs L iX3_tooMany (d) 0 (lvE 0 [.inr (.inr 3), .inl a1, .inl a2]) [] h (RIo r) ∧ LR r.2 ∧ KD h r.2 := by
  unfold GX3_tooMany at hF
  have hK : KD h h := KD.rf
  show RK xs L iX3_tooMany (d) 0 (lvE 0 [.inr (.inr 3), .inl a1, .inl a2]) [] h (RIo r) h r.2
  refine RK.of (RN.blk (ops := [(0, .iload_n 1), (1, .bipush 40)]) (pc' := 3) (lv' := [(0, .inr (.inr 3)), (1, .inl a1), (2, .inl a2)]) (st' := [.inl 40, .inl a1]) (h' := h) (cs := []) (by decide +kernel) rfl trivial) ?_
  rcases it_of hF with ⟨hb, hF⟩ | ⟨hb, hF⟩
  · refine RK.of (RN.icf (cd := .ge) (off := 62) (tgt := 65) (by decide +kernel) (mif_gen hb)) ?_
    refine RK.of (RN.blk (ops := [(6, .iload_n 1)]) (pc' := 7) (lv' := [(0, .inr (.inr 3)), (1, .inl a1), (2, .inl a2)]) (st' := [.inl a1]) (h' := h) (cs := []) (by decide +kernel) rfl trivial) ?_
    refine jn_use (fun j1 => ∀ (s2 : Int), j1 s2 = some r → RK xs L iX3_tooMany (d) 15 [(0, .inr (.inr 3)), (2, .inl a2)] [.inl s2] h (RIo r) h r.2) ?_ ?_ hF
    · intro s2 hF
      refine RK.of (RN.blk (ops := [(15, .iload_n 2), (16, .iconst 1)]) (pc' := 17) (lv' := [(0, .inr (.inr 3)), (2, .inl a2)]) (st' := [.inl 1, .inl a2, .inl s2]) (h' := h) (cs := []) (by decide +kernel) rfl trivial) ?_
      refine jn_use (fun j3 => ∀ (s4 : Int), j3 s4 = some r → RK xs L iX3_tooMany (d) 25 [(0, .inr (.inr 3)), (2, .inl a2)] [.inl s4, .inl s2] h (RIo r) h r.2) ?_ ?_ hF
      · intro s4 hF
        rcases it_of hF with ⟨hb, hF⟩ | ⟨hb, hF⟩
        · refine RK.of (RN.icf (cd := .ne) (off := 40) (tgt := 65) (by decide +kernel) (mif_nen hb)) ?_
          refine RK.of (RN.blk (ops := [(28, .iload_n 2), (29, .iconst 3)]) (pc' := 30) (lv' := [(0, .inr (.inr 3)), (2, .inl a2)]) (st' := [.inl 3, .inl a2]) (h' := h) (cs := []) (by decide +kernel) rfl trivial) ?_
          refine jn_use (fun j5 => j5 = some r → RK xs L iX3_tooMany (d) 48 [(0, .inr (.inr 3)), (2, .inl a2)] [] h (RIo r) h r.2) ?_ ?_ hF
          · intro  hF
            refine RK.of (RN.blk (ops := [(48, .iload_n 2), (49, .iconst 4)]) (pc' := 50) (lv' := [(0, .inr (.inr 3)), (2, .inl a2)]) (st' := [.inl 4, .inl a2]) (h' := h) (cs := []) (by decide +kernel) rfl trivial) ?_
            rcases it_of hF with ⟨hb, hF⟩ | ⟨hb, hF⟩
            · refine RK.of (RN.icf (cd := .ne) (off := 19) (tgt := 69) (by decide +kernel) (mif_nen hb)) ?_
              refine RK.of (RN.blk (ops := [(53, .aload_n 0)]) (pc' := 54) (lv' := [(0, .inr (.inr 3)), (2, .inl a2)]) (st' := [.inr (.inr 3)]) (h' := h) (cs := []) (by decide +kernel) rfl trivial) ?_
              refine RK.of (RN.gr (i := 21) (ci := 3) (k := 2) (fn := true) (v := 7) (by decide +kernel) rfl (TO.gk (o_3 hL)) (hL.fo (v := 7) 2 10 (o_3 hL) rfl (by decide) rfl).1) ?_
              refine RK.of (RN.blk (ops := [(57, .getfield 98), (60, .bipush 12)]) (pc' := 62) (lv' := [(0, .inr (.inr 3)), (2, .inl a2)]) (st' := [.inl 12, .inl (m_rd h 7 1)]) (h' := h) (cs := [GK h 7 10]) (by decide +kernel) rfl ⟨(o_7 hL).gk, trivial⟩) ?_
              rcases it_of hF with ⟨hb, hF⟩ | ⟨hb, hF⟩
              · refine RK.of (RN.ict (cd := .lt) (off := 7) (tgt := 69) (by decide +kernel) (mif_lt hb)) ?_
                refine RK.of (RN.blk (ops := [(69, .iconst 0)]) (pc' := 70) (lv' := [(0, .inr (.inr 3)), (2, .inl a2)]) (st' := [.inl 0]) (h' := h) (cs := []) (by decide +kernel) rfl trivial) ?_
                exact RK.zR (by decide +kernel) rfl (Or.inl rfl) hL hK hF
              · refine RK.of (RN.icf (cd := .lt) (off := 7) (tgt := 69) (by decide +kernel) (mif_ltn hb)) ?_
                refine RK.of (RN.blk (ops := [(65, .iconst 1)]) (pc' := 66) (lv' := [(0, .inr (.inr 3)), (2, .inl a2)]) (st' := [.inl 1]) (h' := h) (cs := []) (by decide +kernel) rfl trivial) ?_
                refine RK.of (RN.goto (off := 4) (tgt := 70) (by decide +kernel)) ?_
                exact RK.zR (by decide +kernel) rfl (Or.inr rfl) hL hK hF
            · refine RK.of (RN.ict (cd := .ne) (off := 19) (tgt := 69) (by decide +kernel) (mif_ne hb)) ?_
              refine RK.of (RN.blk (ops := [(69, .iconst 0)]) (pc' := 70) (lv' := [(0, .inr (.inr 3)), (2, .inl a2)]) (st' := [.inl 0]) (h' := h) (cs := []) (by decide +kernel) rfl trivial) ?_
              exact RK.zR (by decide +kernel) rfl (Or.inl rfl) hL hK hF
          · intro j5 Jj5 hF
            rcases it_of hF with ⟨hb, hF⟩ | ⟨hb, hF⟩
            · refine RK.of (RN.icf (cd := .ne) (off := 18) (tgt := 48) (by decide +kernel) (mif_nen hb)) ?_
              refine RK.of (RN.blk (ops := [(33, .aload_n 0)]) (pc' := 34) (lv' := [(0, .inr (.inr 3)), (2, .inl a2)]) (st' := [.inr (.inr 3)]) (h' := h) (cs := []) (by decide +kernel) rfl trivial) ?_
              refine RK.of (RN.gr (i := 21) (ci := 3) (k := 2) (fn := true) (v := 7) (by decide +kernel) rfl (TO.gk (o_3 hL)) (hL.fo (v := 7) 2 10 (o_3 hL) rfl (by decide) rfl).1) ?_
              refine RK.of (RN.gr (i := 90) (ci := 10) (k := 0) (fn := true) (v := 8) (by decide +kernel) rfl (TO.gk (o_7 hL)) (hL.fo (v := 8) 0 4 (o_7 hL) rfl (by decide) rfl).1) ?_
              refine RK.of (RN.blk (ops := [(40, .getfield 93), (43, .bipush 12)]) (pc' := 45) (lv' := [(0, .inr (.inr 3)), (2, .inl a2)]) (st' := [.inl 12, .inl (m_rd h 8 0)]) (h' := h) (cs := [GK h 8 4]) (by decide +kernel) rfl ⟨(o_8 hL).gk, trivial⟩) ?_
              rcases it_of hF with ⟨hb, hF⟩ | ⟨hb, hF⟩
              · refine RK.of (RN.icf (cd := .ge) (off := 20) (tgt := 65) (by decide +kernel) (mif_gen hb)) ?_
                exact RK.sub (Jj5 hF) (sub_cons rfl (sub_cons rfl sub_nil))
              · refine RK.of (RN.ict (cd := .ge) (off := 20) (tgt := 65) (by decide +kernel) (mif_ge hb)) ?_
                refine RK.of (RN.blk (ops := [(65, .iconst 1)]) (pc' := 66) (lv' := [(0, .inr (.inr 3)), (2, .inl a2)]) (st' := [.inl 1]) (h' := h) (cs := []) (by decide +kernel) rfl trivial) ?_
                refine RK.of (RN.goto (off := 4) (tgt := 70) (by decide +kernel)) ?_
                exact RK.zR (by decide +kernel) rfl (Or.inr rfl) hL hK hF
            · refine RK.of (RN.ict (cd := .ne) (off := 18) (tgt := 48) (by decide +kernel) (mif_ne hb)) ?_
              exact RK.sub (Jj5 hF) (sub_cons rfl (sub_cons rfl sub_nil))
        · refine RK.of (RN.ict (cd := .ne) (off := 40) (tgt := 65) (by decide +kernel) (mif_ne hb)) ?_
          refine RK.of (RN.blk (ops := [(65, .iconst 1)]) (pc' := 66) (lv' := [(0, .inr (.inr 3)), (2, .inl a2)]) (st' := [.inl 1]) (h' := h) (cs := []) (by decide +kernel) rfl trivial) ?_
          refine RK.of (RN.goto (off := 4) (tgt := 70) (by decide +kernel)) ?_
          exact RK.zR (by decide +kernel) rfl (Or.inr rfl) hL hK hF
      · intro j3 Jj3 hF
        rcases it_of hF with ⟨hb, hF⟩ | ⟨hb, hF⟩
        · refine RK.of (RN.icf (cd := .ne) (off := 7) (tgt := 24) (by decide +kernel) (mif_nen hb)) ?_
          refine RK.of (RN.blk (ops := [(20, .iconst 1)]) (pc' := 21) (lv' := [(0, .inr (.inr 3)), (2, .inl a2)]) (st' := [.inl 1, .inl s2]) (h' := h) (cs := []) (by decide +kernel) rfl trivial) ?_
          refine RK.of (RN.goto (off := 4) (tgt := 25) (by decide +kernel)) ?_
          exact RK.sub (Jj3 _ hF) (sub_cons rfl (sub_cons rfl sub_nil))
        · refine RK.of (RN.ict (cd := .ne) (off := 7) (tgt := 24) (by decide +kernel) (mif_ne hb)) ?_
          refine RK.of (RN.blk (ops := [(24, .iconst 0)]) (pc' := 25) (lv' := [(0, .inr (.inr 3)), (2, .inl a2)]) (st' := [.inl 0, .inl s2]) (h' := h) (cs := []) (by decide +kernel) rfl trivial) ?_
          exact RK.sub (Jj3 _ hF) (sub_cons rfl (sub_cons rfl sub_nil))
    · intro j1 Jj1 hF
      rcases it_of hF with ⟨hb, hF⟩ | ⟨hb, hF⟩
      · refine RK.of (RN.iff (cd := .ne) (off := 7) (tgt := 14) (by decide +kernel) (mif_nen hb)) ?_
        refine RK.of (RN.blk (ops := [(10, .iconst 1)]) (pc' := 11) (lv' := [(0, .inr (.inr 3)), (1, .inl a1), (2, .inl a2)]) (st' := [.inl 1]) (h' := h) (cs := []) (by decide +kernel) rfl trivial) ?_
        refine RK.of (RN.goto (off := 4) (tgt := 15) (by decide +kernel)) ?_
        exact RK.sub (Jj1 _ hF) (sub_cons rfl (sub_cons rfl sub_nil))
      · refine RK.of (RN.ift (cd := .ne) (off := 7) (tgt := 14) (by decide +kernel) (mif_ne hb)) ?_
        refine RK.of (RN.blk (ops := [(14, .iconst 0)]) (pc' := 15) (lv' := [(0, .inr (.inr 3)), (1, .inl a1), (2, .inl a2)]) (st' := [.inl 0]) (h' := h) (cs := []) (by decide +kernel) rfl trivial) ?_
        exact RK.sub (Jj1 _ hF) (sub_cons rfl (sub_cons rfl sub_nil))
  · refine RK.of (RN.ict (cd := .ge) (off := 62) (tgt := 65) (by decide +kernel) (mif_ge hb)) ?_
    refine RK.of (RN.blk (ops := [(65, .iconst 1)]) (pc' := 66) (lv' := [(0, .inr (.inr 3)), (1, .inl a1), (2, .inl a2)]) (st' := [.inl 1]) (h' := h) (cs := []) (by decide +kernel) rfl trivial) ?_
    refine RK.of (RN.goto (off := 4) (tgt := 70) (by decide +kernel)) ?_
    exact RK.zR (by decide +kernel) rfl (Or.inr rfl) hL hK hF
noncomputable def GX3_takeClause (a1 : Int) (h : MH) : Option (Int × MH) :=
  (bd (GX9_next h) (fun x2 h1 =>
   (bd (GX3_takeKind h1) (fun x4 h3 =>
    (if x4 = 0 then
     (bd (GX9_fail (m_rd h1 1 2) 0 h3) (fun x18 h17 =>
      gd [GT x18] (some (x18, h17))))
    else
     (bd (GX3_tooMany a1 x4 h3) (fun x6 h5 =>
      (if x6 = 0 then
       (if x4 = 1 then
        (bd (GX3_takeShape h5) (fun x8 h7 =>
         gd [GT x8] (some (x8, h7))))
       else
       (if x4 = 2 then
        (bd (GX3_takeRoom h5) (fun x10 h9 =>
         gd [GT x10] (some (x10, h9))))
       else
       (if x4 = 3 then
        (bd (GX3_takeEntry h5) (fun x12 h11 =>
         gd [GT x12] (some (x12, h11))))
       else
        (bd (GX3_takeLetter h5) (fun x14 h13 =>
         gd [GT x14] (some (x14, h13)))))))
      else
       (bd (GX9_fail (m_rd h1 1 2) 4 h5) (fun x16 h15 =>
        gd [GT x16] (some (x16, h15))))))))))))
theorem DX3_takeClause {d : Nat} {a1 : Int} {h : MH} {r : Int × MH} (hL : LR h) (hF : GX3_takeClause a1 h = some r) : RN xs L iX3_takeClause (d + 8) 0 (lvE 0 [.inr (.inr 3), .inl a1]) [] h (RIo r) ∧ LR r.2 ∧ KD h r.2 := by
  unfold GX3_takeClause at hF
  have hK : KD h h := KD.rf
  show RK xs L iX3_takeClause (d + 8) 0 (lvE 0 [.inr (.inr 3), .inl a1]) [] h (RIo r) h r.2
  refine RK.of (RN.blk (ops := [(0, .aload_n 0)]) (pc' := 1) (lv' := [(0, .inr (.inr 3)), (1, .inl a1)]) (st' := [.inr (.inr 3)]) (h' := h) (cs := []) (by decide +kernel) rfl trivial) ?_
  refine RK.of (RN.gr (i := 25) (ci := 3) (k := 0) (fn := true) (v := 1) (by decide +kernel) rfl (TO.gk (o_3 hL)) (hL.fo (v := 1) 0 9 (o_3 hL) rfl (by decide) rfl).1) ?_
  obtain ⟨x2, h1, hG, hF⟩ := bd_of hF
  have hq := rcv_ok (as := []) (TO.gk (o_1 hL))
  obtain ⟨hN, hL, hQ⟩ := DX9_next (d := d + 7) hL  hG
  refine RK.of (RN.cv (i := 49) (k := 93) (q2 := iX9_next) (as := [.inr (.inr 1)]) (r := []) (v := some (.inl x2)) (h1 := h1) (by decide +kernel) rfl rfl rfl rfl rfl hq hN) ?_
  have hK := hK.tr hQ
  refine RK.of (RN.blk (ops := [(7, .pop), (8, .aload_n 0)]) (pc' := 9) (lv' := [(0, .inr (.inr 3)), (1, .inl a1)]) (st' := [.inr (.inr 3)]) (h' := h1) (cs := []) (by decide +kernel) rfl trivial) ?_
  refine RK.of (RN.gr (i := 25) (ci := 3) (k := 0) (fn := true) (v := 1) (by decide +kernel) rfl (TO.gk (o_3 hL)) (hL.fo (v := 1) 0 9 (o_3 hL) rfl (by decide) rfl).1) ?_
  refine RK.of (RN.blk (ops := [(12, .getfield 53), (15, .istore_n 2), (16, .aload_n 0)]) (pc' := 17) (lv' := [(2, .inl (m_rd h1 1 2)), (0, .inr (.inr 3)), (1, .inl a1)]) (st' := [.inr (.inr 3)]) (h' := h1) (cs := [GK h1 1 9]) (by decide +kernel) rfl ⟨(o_1 hL).gk, trivial⟩) ?_
  obtain ⟨x4, h3, hG, hF⟩ := bd_of hF
  have hq := rcv_ok (as := []) (TO.gk (o_3 hL))
  obtain ⟨hN, hL, hQ⟩ := DX3_takeKind (d := d) hL  hG
  refine RK.of (RN.cv (i := 56) (k := 38) (q2 := iX3_takeKind) (as := [.inr (.inr 3)]) (r := []) (v := some (.inl x4)) (h1 := h3) (by decide +kernel) rfl rfl rfl rfl rfl hq hN) ?_
  have hK := hK.tr hQ
  refine RK.of (RN.blk (ops := [(20, .istore_n 3), (21, .iload_n 3)]) (pc' := 22) (lv' := [(3, .inl x4), (2, .inl (m_rd h1 1 2)), (0, .inr (.inr 3)), (1, .inl a1)]) (st' := [.inl x4]) (h' := h3) (cs := []) (by decide +kernel) rfl trivial) ?_
  rcases it_of hF with ⟨hb, hF⟩ | ⟨hb, hF⟩
  · refine RK.of (RN.iff (cd := .ne) (off := 13) (tgt := 35) (by decide +kernel) (mif_nen hb)) ?_
    refine RK.of (RN.blk (ops := [(25, .aload_n 0)]) (pc' := 26) (lv' := [(3, .inl x4), (2, .inl (m_rd h1 1 2)), (0, .inr (.inr 3)), (1, .inl a1)]) (st' := [.inr (.inr 3)]) (h' := h3) (cs := []) (by decide +kernel) rfl trivial) ?_
    refine RK.of (RN.gr (i := 25) (ci := 3) (k := 0) (fn := true) (v := 1) (by decide +kernel) rfl (TO.gk (o_3 hL)) (hL.fo (v := 1) 0 9 (o_3 hL) rfl (by decide) rfl).1) ?_
    refine RK.of (RN.blk (ops := [(29, .iload_n 2), (30, .iconst 0)]) (pc' := 31) (lv' := [(3, .inl x4), (2, .inl (m_rd h1 1 2)), (0, .inr (.inr 3)), (1, .inl a1)]) (st' := [.inl 0, .inl (m_rd h1 1 2), .inr (.inr 1)]) (h' := h3) (cs := []) (by decide +kernel) rfl trivial) ?_
    obtain ⟨x18, h17, hG, hF⟩ := bd_of hF
    have hq := rcv_ok (as := [.inl (m_rd h1 1 2), .inl 0]) (TO.gk (o_1 hL))
    obtain ⟨hN, hL, hQ⟩ := DX9_fail (d := d + 7) hL  hG
    refine RK.of (RN.cv (i := 59) (k := 91) (q2 := iX9_fail) (as := [.inr (.inr 1), .inl (m_rd h1 1 2), .inl 0]) (r := []) (v := some (.inl x18)) (h1 := h17) (by decide +kernel) rfl rfl rfl rfl rfl hq hN) ?_
    have hK := hK.tr hQ
    obtain ⟨hc, hF⟩ := gd_of hF
    exact RK.zR (by decide +kernel) rfl hc.1 hL hK hF
  · refine RK.of (RN.ift (cd := .ne) (off := 13) (tgt := 35) (by decide +kernel) (mif_ne hb)) ?_
    refine RK.of (RN.blk (ops := [(35, .aload_n 0), (36, .iload_n 1), (37, .iload_n 3)]) (pc' := 38) (lv' := [(3, .inl x4), (2, .inl (m_rd h1 1 2)), (0, .inr (.inr 3)), (1, .inl a1)]) (st' := [.inl x4, .inl a1, .inr (.inr 3)]) (h' := h3) (cs := []) (by decide +kernel) rfl trivial) ?_
    obtain ⟨x6, h5, hG, hF⟩ := bd_of hF
    have hq := rcv_ok (as := [.inl a1, .inl x4]) (TO.gk (o_3 hL))
    obtain ⟨hN, hL, hQ⟩ := DX3_tooMany (d := d + 7) hL  hG
    refine RK.of (RN.cv (i := 63) (k := 39) (q2 := iX3_tooMany) (as := [.inr (.inr 3), .inl a1, .inl x4]) (r := []) (v := some (.inl x6)) (h1 := h5) (by decide +kernel) rfl rfl rfl rfl rfl hq hN) ?_
    have hK := hK.tr hQ
    rcases it_of hF with ⟨hb, hF⟩ | ⟨hb, hF⟩
    · refine RK.of (RN.ift (cd := .eq) (off := 13) (tgt := 54) (by decide +kernel) (mif_eq hb)) ?_
      refine RK.of (RN.blk (ops := [(54, .iload_n 3)]) (pc' := 55) (lv' := [(3, .inl x4), (2, .inl (m_rd h1 1 2)), (0, .inr (.inr 3)), (1, .inl a1)]) (st' := [.inl x4]) (h' := h5) (cs := []) (by decide +kernel) rfl trivial) ?_
      rcases it_of hF with ⟨hb0, hF⟩ | ⟨hb0, hF⟩
      · refine RK.of (fun k9 => RN.tsw (dflt := 40) (lo := 1) (hi := 3) (offs := #[25, 30, 35]) (by decide +kernel) (RN.sth hb0 (tgt := 80) rfl k9)) ?_
        refine RK.of (RN.blk (ops := [(80, .aload_n 0)]) (pc' := 81) (lv' := [(3, .inl x4), (2, .inl (m_rd h1 1 2)), (0, .inr (.inr 3)), (1, .inl a1)]) (st' := [.inr (.inr 3)]) (h' := h5) (cs := []) (by decide +kernel) rfl trivial) ?_
        obtain ⟨x8, h7, hG, hF⟩ := bd_of hF
        have hq := rcv_ok (as := []) (TO.gk (o_3 hL))
        obtain ⟨hN, hL, hQ⟩ := DX3_takeShape (d := d + 5) hL  hG
        refine RK.of (RN.cv (i := 66) (k := 40) (q2 := iX3_takeShape) (as := [.inr (.inr 3)]) (r := []) (v := some (.inl x8)) (h1 := h7) (by decide +kernel) rfl rfl rfl rfl rfl hq hN) ?_
        have hK := hK.tr hQ
        obtain ⟨hc, hF⟩ := gd_of hF
        exact RK.zR (by decide +kernel) rfl hc.1 hL hK hF
      rcases it_of hF with ⟨hb1, hF⟩ | ⟨hb1, hF⟩
      · refine RK.of (fun k9 => RN.tsw (dflt := 40) (lo := 1) (hi := 3) (offs := #[25, 30, 35]) (by decide +kernel) (RN.stm hb0 (RN.sth hb1 (tgt := 85) rfl k9))) ?_
        refine RK.of (RN.blk (ops := [(85, .aload_n 0)]) (pc' := 86) (lv' := [(3, .inl x4), (2, .inl (m_rd h1 1 2)), (0, .inr (.inr 3)), (1, .inl a1)]) (st' := [.inr (.inr 3)]) (h' := h5) (cs := []) (by decide +kernel) rfl trivial) ?_
        obtain ⟨x10, h9, hG, hF⟩ := bd_of hF
        have hq := rcv_ok (as := []) (TO.gk (o_3 hL))
        obtain ⟨hN, hL, hQ⟩ := DX3_takeRoom (d := d + 5) hL  hG
        refine RK.of (RN.cv (i := 69) (k := 41) (q2 := iX3_takeRoom) (as := [.inr (.inr 3)]) (r := []) (v := some (.inl x10)) (h1 := h9) (by decide +kernel) rfl rfl rfl rfl rfl hq hN) ?_
        have hK := hK.tr hQ
        obtain ⟨hc, hF⟩ := gd_of hF
        exact RK.zR (by decide +kernel) rfl hc.1 hL hK hF
      rcases it_of hF with ⟨hb2, hF⟩ | ⟨hb2, hF⟩
      · refine RK.of (fun k9 => RN.tsw (dflt := 40) (lo := 1) (hi := 3) (offs := #[25, 30, 35]) (by decide +kernel) (RN.stm hb0 (RN.stm hb1 (RN.sth hb2 (tgt := 90) rfl k9)))) ?_
        refine RK.of (RN.blk (ops := [(90, .aload_n 0)]) (pc' := 91) (lv' := [(3, .inl x4), (2, .inl (m_rd h1 1 2)), (0, .inr (.inr 3)), (1, .inl a1)]) (st' := [.inr (.inr 3)]) (h' := h5) (cs := []) (by decide +kernel) rfl trivial) ?_
        obtain ⟨x12, h11, hG, hF⟩ := bd_of hF
        have hq := rcv_ok (as := []) (TO.gk (o_3 hL))
        obtain ⟨hN, hL, hQ⟩ := DX3_takeEntry (d := d + 5) hL  hG
        refine RK.of (RN.cv (i := 72) (k := 42) (q2 := iX3_takeEntry) (as := [.inr (.inr 3)]) (r := []) (v := some (.inl x12)) (h1 := h11) (by decide +kernel) rfl rfl rfl rfl rfl hq hN) ?_
        have hK := hK.tr hQ
        obtain ⟨hc, hF⟩ := gd_of hF
        exact RK.zR (by decide +kernel) rfl hc.1 hL hK hF
      refine RK.of (fun k9 => RN.tsw (dflt := 40) (lo := 1) (hi := 3) (offs := #[25, 30, 35]) (by decide +kernel) (RN.stm hb0 (RN.stm hb1 (RN.stm hb2 (RN.std (tgt := 95) rfl k9))))) ?_
      refine RK.of (RN.blk (ops := [(95, .aload_n 0)]) (pc' := 96) (lv' := [(3, .inl x4), (2, .inl (m_rd h1 1 2)), (0, .inr (.inr 3)), (1, .inl a1)]) (st' := [.inr (.inr 3)]) (h' := h5) (cs := []) (by decide +kernel) rfl trivial) ?_
      obtain ⟨x14, h13, hG, hF⟩ := bd_of hF
      have hq := rcv_ok (as := []) (TO.gk (o_3 hL))
      obtain ⟨hN, hL, hQ⟩ := DX3_takeLetter (d := d + 5) hL  hG
      refine RK.of (RN.cv (i := 75) (k := 43) (q2 := iX3_takeLetter) (as := [.inr (.inr 3)]) (r := []) (v := some (.inl x14)) (h1 := h13) (by decide +kernel) rfl rfl rfl rfl rfl hq hN) ?_
      have hK := hK.tr hQ
      obtain ⟨hc, hF⟩ := gd_of hF
      exact RK.zR (by decide +kernel) rfl hc.1 hL hK hF
    · refine RK.of (RN.iff (cd := .eq) (off := 13) (tgt := 54) (by decide +kernel) (mif_eqn hb)) ?_
      refine RK.of (RN.blk (ops := [(44, .aload_n 0)]) (pc' := 45) (lv' := [(3, .inl x4), (2, .inl (m_rd h1 1 2)), (0, .inr (.inr 3)), (1, .inl a1)]) (st' := [.inr (.inr 3)]) (h' := h5) (cs := []) (by decide +kernel) rfl trivial) ?_
      refine RK.of (RN.gr (i := 25) (ci := 3) (k := 0) (fn := true) (v := 1) (by decide +kernel) rfl (TO.gk (o_3 hL)) (hL.fo (v := 1) 0 9 (o_3 hL) rfl (by decide) rfl).1) ?_
      refine RK.of (RN.blk (ops := [(48, .iload_n 2), (49, .iconst 4)]) (pc' := 50) (lv' := [(3, .inl x4), (2, .inl (m_rd h1 1 2)), (0, .inr (.inr 3)), (1, .inl a1)]) (st' := [.inl 4, .inl (m_rd h1 1 2), .inr (.inr 1)]) (h' := h5) (cs := []) (by decide +kernel) rfl trivial) ?_
      obtain ⟨x16, h15, hG, hF⟩ := bd_of hF
      have hq := rcv_ok (as := [.inl (m_rd h1 1 2), .inl 4]) (TO.gk (o_1 hL))
      obtain ⟨hN, hL, hQ⟩ := DX9_fail (d := d + 7) hL  hG
      refine RK.of (RN.cv (i := 59) (k := 91) (q2 := iX9_fail) (as := [.inr (.inr 1), .inl (m_rd h1 1 2), .inl 4]) (r := []) (v := some (.inl x16)) (h1 := h15) (by decide +kernel) rfl rfl rfl rfl rfl hq hN) ?_
      have hK := hK.tr hQ
      obtain ⟨hc, hF⟩ := gd_of hF
      exact RK.zR (by decide +kernel) rfl hc.1 hL hK hF
noncomputable def GX9_rewind (h : MH) : Option (MH) :=
  some (m_wr (m_wr h 1 2 0) 1 3 0)
theorem DX9_rewind {d : Nat} {h : MH} {r : MH} (hL : LR h) (hF : GX9_rewind h = some r) : RN xs L iX9_rewind (d) 0 (lvE 0 [.inr (.inr 1)]) [] h (RVo r) ∧ LR r ∧ KD h r := by
  unfold GX9_rewind at hF
  have hK : KD h h := KD.rf
  show RK xs L iX9_rewind (d) 0 (lvE 0 [.inr (.inr 1)]) [] h (RVo r) h r
  refine RK.of (RN.blk (ops := [(0, .aload_n 0), (1, .iconst 0), (2, .putfield 19)]) (pc' := 5) (lv' := [(0, .inr (.inr 1))]) (st' := []) (h' := (m_wr h 1 2 0)) (cs := [GK h 1 9]) (by decide +kernel) rfl ⟨(o_1 hL).gk, trivial⟩) ?_
  have hL : LR (m_wr h 1 2 0) := LR.wf (k := 2) hL (o_1 hL) rfl
  have hK := hK.tr (KD.wr : KD h (m_wr h 1 2 0))
  refine RK.of (RN.blk (ops := [(5, .aload_n 0), (6, .iconst 0), (7, .putfield 22)]) (pc' := 10) (lv' := [(0, .inr (.inr 1))]) (st' := []) (h' := (m_wr (m_wr h 1 2 0) 1 3 0)) (cs := [GK (m_wr h 1 2 0) 1 9]) (by decide +kernel) rfl ⟨(o_1 hL).gk, trivial⟩) ?_
  have hL : LR (m_wr (m_wr h 1 2 0) 1 3 0) := LR.wf (k := 3) hL (o_1 hL) rfl
  have hK := hK.tr (KD.wr : KD (m_wr h 1 2 0) (m_wr (m_wr h 1 2 0) 1 3 0))
  exact RK.vR (by decide +kernel) rfl hL hK hF
noncomputable def GX9_takeByte (a1 : Int) (h : MH) : Option (Int × MH) :=
  (bd (GX9_next h) (fun x2 h1 =>
   (if x2 = a1 then
    some (1, (m_wr h1 1 2 (m_w32 ((m_rd h1 1 2) + 1))))
   else
    (bd (GX9_fail (m_rd h1 1 2) 0 h1) (fun x4 h3 =>
     gd [GT x4] (some (x4, h3)))))))
theorem DX9_takeByte {d : Nat} {a1 : Int} {h : MH} {r : Int × MH} (hL : LR h) (hF : GX9_takeByte a1 h = some r) : RN xs L iX9_takeByte (d + 1) 0 (lvE 0 [.inr (.inr 1), .inl a1]) [] h (RIo r) ∧ LR r.2 ∧ KD h r.2 := by
  unfold GX9_takeByte at hF
  have hK : KD h h := KD.rf
  show RK xs L iX9_takeByte (d + 1) 0 (lvE 0 [.inr (.inr 1), .inl a1]) [] h (RIo r) h r.2
  refine RK.of (RN.blk (ops := [(0, .aload_n 0)]) (pc' := 1) (lv' := [(0, .inr (.inr 1)), (1, .inl a1)]) (st' := [.inr (.inr 1)]) (h' := h) (cs := []) (by decide +kernel) rfl trivial) ?_
  obtain ⟨x2, h1, hG, hF⟩ := bd_of hF
  have hq := rcv_ok (as := []) (TO.gk (o_1 hL))
  obtain ⟨hN, hL, hQ⟩ := DX9_next (d := d) hL  hG
  refine RK.of (RN.cv (i := 25) (k := 93) (q2 := iX9_next) (as := [.inr (.inr 1)]) (r := []) (v := some (.inl x2)) (h1 := h1) (by decide +kernel) rfl rfl rfl rfl rfl hq hN) ?_
  have hK := hK.tr hQ
  refine RK.of (RN.blk (ops := [(4, .iload_n 1)]) (pc' := 5) (lv' := [(0, .inr (.inr 1)), (1, .inl a1)]) (st' := [.inl a1, .inl x2]) (h' := h1) (cs := []) (by decide +kernel) rfl trivial) ?_
  rcases it_of hF with ⟨hb, hF⟩ | ⟨hb, hF⟩
  · refine RK.of (RN.ict (cd := .eq) (off := 13) (tgt := 18) (by decide +kernel) (mif_eq hb)) ?_
    refine RK.of (RN.blk (ops := [(18, .aload_n 0), (19, .dup), (20, .getfield 19), (23, .iconst 1), (24, .iadd), (25, .putfield 19)]) (pc' := 28) (lv' := [(0, .inr (.inr 1)), (1, .inl a1)]) (st' := []) (h' := (m_wr h1 1 2 (m_w32 ((m_rd h1 1 2) + 1)))) (cs := [GK h1 1 9, GK h1 1 9]) (by decide +kernel) rfl ⟨(o_1 hL).gk, (o_1 hL).gk, trivial⟩) ?_
    have hL : LR (m_wr h1 1 2 (m_w32 ((m_rd h1 1 2) + 1))) := LR.wf (k := 2) hL (o_1 hL) rfl
    have hK := hK.tr (KD.wr : KD h1 (m_wr h1 1 2 (m_w32 ((m_rd h1 1 2) + 1))))
    refine RK.of (RN.blk (ops := [(28, .iconst 1)]) (pc' := 29) (lv' := [(0, .inr (.inr 1)), (1, .inl a1)]) (st' := [.inl 1]) (h' := (m_wr h1 1 2 (m_w32 ((m_rd h1 1 2) + 1)))) (cs := []) (by decide +kernel) rfl trivial) ?_
    exact RK.zR (by decide +kernel) rfl (Or.inr rfl) hL hK hF
  · refine RK.of (RN.icf (cd := .eq) (off := 13) (tgt := 18) (by decide +kernel) (mif_eqn hb)) ?_
    refine RK.of (RN.blk (ops := [(8, .aload_n 0), (9, .aload_n 0), (10, .getfield 19), (13, .iconst 0)]) (pc' := 14) (lv' := [(0, .inr (.inr 1)), (1, .inl a1)]) (st' := [.inl 0, .inl (m_rd h1 1 2), .inr (.inr 1)]) (h' := h1) (cs := [GK h1 1 9]) (by decide +kernel) rfl ⟨(o_1 hL).gk, trivial⟩) ?_
    obtain ⟨x4, h3, hG, hF⟩ := bd_of hF
    have hq := rcv_ok (as := [.inl (m_rd h1 1 2), .inl 0]) (TO.gk (o_1 hL))
    obtain ⟨hN, hL, hQ⟩ := DX9_fail (d := d) hL  hG
    refine RK.of (RN.cv (i := 29) (k := 91) (q2 := iX9_fail) (as := [.inr (.inr 1), .inl (m_rd h1 1 2), .inl 0]) (r := []) (v := some (.inl x4)) (h1 := h3) (by decide +kernel) rfl rfl rfl rfl rfl hq hN) ?_
    have hK := hK.tr hQ
    obtain ⟨hc, hF⟩ := gd_of hF
    exact RK.zR (by decide +kernel) rfl hc.1 hL hK hF
noncomputable def GX9_takeSemicolon (h : MH) : Option (Int × MH) :=
  (bd (GX9_next h) (fun x2 h1 =>
   (if x2 = (-1) then
    some (0, h1)
   else
    (bd (GX9_takeByte 59 h1) (fun x4 h3 =>
     (if x4 = 0 then
      some (0, h3)
     else
      some (1, h3)))))))
theorem DX9_takeSemicolon {d : Nat} {h : MH} {r : Int × MH} (hL : LR h) (hF : GX9_takeSemicolon h = some r) : RN xs L iX9_takeSemicolon (d + 2) 0 (lvE 0 [.inr (.inr 1)]) [] h (RIo r) ∧ LR r.2 ∧ KD h r.2 := by
  unfold GX9_takeSemicolon at hF
  have hK : KD h h := KD.rf
  show RK xs L iX9_takeSemicolon (d + 2) 0 (lvE 0 [.inr (.inr 1)]) [] h (RIo r) h r.2
  refine RK.of (RN.blk (ops := [(0, .aload_n 0)]) (pc' := 1) (lv' := [(0, .inr (.inr 1))]) (st' := [.inr (.inr 1)]) (h' := h) (cs := []) (by decide +kernel) rfl trivial) ?_
  obtain ⟨x2, h1, hG, hF⟩ := bd_of hF
  have hq := rcv_ok (as := []) (TO.gk (o_1 hL))
  obtain ⟨hN, hL, hQ⟩ := DX9_next (d := d + 1) hL  hG
  refine RK.of (RN.cv (i := 25) (k := 93) (q2 := iX9_next) (as := [.inr (.inr 1)]) (r := []) (v := some (.inl x2)) (h1 := h1) (by decide +kernel) rfl rfl rfl rfl rfl hq hN) ?_
  have hK := hK.tr hQ
  refine RK.of (RN.blk (ops := [(4, .iconst (-1))]) (pc' := 5) (lv' := [(0, .inr (.inr 1))]) (st' := [.inl (-1), .inl x2]) (h' := h1) (cs := []) (by decide +kernel) rfl trivial) ?_
  rcases it_of hF with ⟨hb, hF⟩ | ⟨hb, hF⟩
  · refine RK.of (RN.ict (cd := .eq) (off := 16) (tgt := 21) (by decide +kernel) (mif_eq hb)) ?_
    refine RK.of (RN.blk (ops := [(21, .iconst 0)]) (pc' := 22) (lv' := [(0, .inr (.inr 1))]) (st' := [.inl 0]) (h' := h1) (cs := []) (by decide +kernel) rfl trivial) ?_
    exact RK.zR (by decide +kernel) rfl (Or.inl rfl) hL hK hF
  · refine RK.of (RN.icf (cd := .eq) (off := 16) (tgt := 21) (by decide +kernel) (mif_eqn hb)) ?_
    refine RK.of (RN.blk (ops := [(8, .aload_n 0), (9, .bipush 59)]) (pc' := 11) (lv' := [(0, .inr (.inr 1))]) (st' := [.inl 59, .inr (.inr 1)]) (h' := h1) (cs := []) (by decide +kernel) rfl trivial) ?_
    obtain ⟨x4, h3, hG, hF⟩ := bd_of hF
    have hq := rcv_ok (as := [.inl 59]) (TO.gk (o_1 hL))
    obtain ⟨hN, hL, hQ⟩ := DX9_takeByte (d := d) hL  hG
    refine RK.of (RN.cv (i := 50) (k := 94) (q2 := iX9_takeByte) (as := [.inr (.inr 1), .inl 59]) (r := []) (v := some (.inl x4)) (h1 := h3) (by decide +kernel) rfl rfl rfl rfl rfl hq hN) ?_
    have hK := hK.tr hQ
    rcases it_of hF with ⟨hb, hF⟩ | ⟨hb, hF⟩
    · refine RK.of (RN.ift (cd := .eq) (off := 7) (tgt := 21) (by decide +kernel) (mif_eq hb)) ?_
      refine RK.of (RN.blk (ops := [(21, .iconst 0)]) (pc' := 22) (lv' := [(0, .inr (.inr 1))]) (st' := [.inl 0]) (h' := h3) (cs := []) (by decide +kernel) rfl trivial) ?_
      exact RK.zR (by decide +kernel) rfl (Or.inl rfl) hL hK hF
    · refine RK.of (RN.iff (cd := .eq) (off := 7) (tgt := 21) (by decide +kernel) (mif_eqn hb)) ?_
      refine RK.of (RN.blk (ops := [(17, .iconst 1)]) (pc' := 18) (lv' := [(0, .inr (.inr 1))]) (st' := [.inl 1]) (h' := h3) (cs := []) (by decide +kernel) rfl trivial) ?_
      refine RK.of (RN.goto (off := 4) (tgt := 22) (by decide +kernel)) ?_
      exact RK.zR (by decide +kernel) rfl (Or.inr rfl) hL hK hF
noncomputable def GX3_parse_L18 (K0 : MH → Option (Int × MH)) : Nat → Int → Int → MH → Option (Int × MH)
  | 0, _, _, _ => none
  | f + 1, v1, v2, h =>
    (if 40 < v2 then
     K0 h
    else
     (if v1 = 0 then
      K0 h
     else
      (bd (GX3_takeClause v2 h) (fun x2 h1 =>
       (if x2 = 0 then
        GX3_parse_L18 K0 f 0 (m_w32 (v2 + 1)) h1
       else
        (bd (GX9_takeSemicolon h1) (fun x4 h3 =>
         (if x4 = 0 then
          GX3_parse_L18 K0 f 0 (m_w32 (v2 + 1)) h3
         else
          GX3_parse_L18 K0 f 1 (m_w32 (v2 + 1)) h3))))))))
theorem DX3_parse_L18 {d : Nat} {K0 : MH → Option (Int × MH)} {r : Int × MH} {h0 hB : MH} (hB0 : KD h0 hB) (hK0 : ∀ (h : MH), LR h → KD hB h → K0 h = some r → RK xs L iX3_parse (d + 9) 58 [(0, .inr (.inr 3))] [] h (RIo r) h0 r.2) : ∀ (f : Nat) (v1 : Int) (v2 : Int) (h : MH), LR h → KD hB h → GX3_parse_L18 K0 f v1 v2 h = some r → RK xs L iX3_parse (d + 9) 18 [(0, .inr (.inr 3)), (1, .inl v1), (2, .inl v2)] [] h (RIo r) h0 r.2 := by
  intro f
  induction f with
  | zero =>
    intro v1 v2 h hL hJ hF
    cases hF
  | succ f ih =>
    intro v1 v2 h hL hJ hF
    unfold GX3_parse_L18 at hF
    have hK := hB0.tr hJ
    refine RK.of (RN.blk (ops := [(18, .iload_n 2), (19, .bipush 40)]) (pc' := 21) (lv' := [(0, .inr (.inr 3)), (1, .inl v1), (2, .inl v2)]) (st' := [.inl 40, .inl v2]) (h' := h) (cs := []) (by decide +kernel) rfl trivial) ?_
    rcases it_of hF with ⟨hb, hF⟩ | ⟨hb, hF⟩
    · refine RK.of (RN.ict (cd := .gt) (off := 37) (tgt := 58) (by decide +kernel) (mif_gt hb)) ?_
      exact RK.sub (hK0 _ hL hJ hF) (sub_cons rfl sub_nil)
    · refine RK.of (RN.icf (cd := .gt) (off := 37) (tgt := 58) (by decide +kernel) (mif_gtn hb)) ?_
      refine RK.of (RN.blk (ops := [(24, .iload_n 1)]) (pc' := 25) (lv' := [(0, .inr (.inr 3)), (1, .inl v1), (2, .inl v2)]) (st' := [.inl v1]) (h' := h) (cs := []) (by decide +kernel) rfl trivial) ?_
      rcases it_of hF with ⟨hb, hF⟩ | ⟨hb, hF⟩
      · refine RK.of (RN.ift (cd := .eq) (off := 33) (tgt := 58) (by decide +kernel) (mif_eq hb)) ?_
        exact RK.sub (hK0 _ hL hJ hF) (sub_cons rfl sub_nil)
      · refine RK.of (RN.iff (cd := .eq) (off := 33) (tgt := 58) (by decide +kernel) (mif_eqn hb)) ?_
        refine RK.of (RN.blk (ops := [(28, .aload_n 0), (29, .iload_n 2)]) (pc' := 30) (lv' := [(0, .inr (.inr 3)), (1, .inl v1), (2, .inl v2)]) (st' := [.inl v2, .inr (.inr 3)]) (h' := h) (cs := []) (by decide +kernel) rfl trivial) ?_
        obtain ⟨x2, h1, hG, hF⟩ := bd_of hF
        have hq := rcv_ok (as := [.inl v2]) (TO.gk (o_3 hL))
        obtain ⟨hN, hL, hQ⟩ := DX3_takeClause (d := d) hL  hG
        refine RK.of (RN.cv (i := 37) (k := 37) (q2 := iX3_takeClause) (as := [.inr (.inr 3), .inl v2]) (r := []) (v := some (.inl x2)) (h1 := h1) (by decide +kernel) rfl rfl rfl rfl rfl hq hN) ?_
        have hK := hK.tr hQ
        have hJ := hJ.tr hQ
        rcases it_of hF with ⟨hb, hF⟩ | ⟨hb, hF⟩
        · refine RK.of (RN.ift (cd := .eq) (off := 17) (tgt := 50) (by decide +kernel) (mif_eq hb)) ?_
          refine RK.of (RN.blk (ops := [(50, .iconst 0)]) (pc' := 51) (lv' := [(0, .inr (.inr 3)), (1, .inl v1), (2, .inl v2)]) (st' := [.inl 0]) (h' := h1) (cs := []) (by decide +kernel) rfl trivial) ?_
          refine RK.of (RN.blk (ops := [(51, .istore_n 1), (52, .iinc 2 1)]) (pc' := 55) (lv' := [(2, .inl (m_w32 (v2 + 1))), (1, .inl 0), (0, .inr (.inr 3))]) (st' := []) (h' := h1) (cs := []) (by decide +kernel) rfl trivial) ?_
          refine RK.of (RN.goto (off := -37) (tgt := 18) (by decide +kernel)) ?_
          exact RK.sub (ih _ _ _ hL hJ hF) (sub_cons rfl (sub_cons rfl (sub_cons rfl sub_nil)))
        · refine RK.of (RN.iff (cd := .eq) (off := 17) (tgt := 50) (by decide +kernel) (mif_eqn hb)) ?_
          refine RK.of (RN.blk (ops := [(36, .aload_n 0)]) (pc' := 37) (lv' := [(0, .inr (.inr 3)), (1, .inl v1), (2, .inl v2)]) (st' := [.inr (.inr 3)]) (h' := h1) (cs := []) (by decide +kernel) rfl trivial) ?_
          refine RK.of (RN.gr (i := 25) (ci := 3) (k := 0) (fn := true) (v := 1) (by decide +kernel) rfl (TO.gk (o_3 hL)) (hL.fo (v := 1) 0 9 (o_3 hL) rfl (by decide) rfl).1) ?_
          obtain ⟨x4, h3, hG, hF⟩ := bd_of hF
          have hq := rcv_ok (as := []) (TO.gk (o_1 hL))
          obtain ⟨hN, hL, hQ⟩ := DX9_takeSemicolon (d := d + 6) hL  hG
          refine RK.of (RN.cv (i := 41) (k := 97) (q2 := iX9_takeSemicolon) (as := [.inr (.inr 1)]) (r := []) (v := some (.inl x4)) (h1 := h3) (by decide +kernel) rfl rfl rfl rfl rfl hq hN) ?_
          have hK := hK.tr hQ
          have hJ := hJ.tr hQ
          rcases it_of hF with ⟨hb, hF⟩ | ⟨hb, hF⟩
          · refine RK.of (RN.ift (cd := .eq) (off := 7) (tgt := 50) (by decide +kernel) (mif_eq hb)) ?_
            refine RK.of (RN.blk (ops := [(50, .iconst 0)]) (pc' := 51) (lv' := [(0, .inr (.inr 3)), (1, .inl v1), (2, .inl v2)]) (st' := [.inl 0]) (h' := h3) (cs := []) (by decide +kernel) rfl trivial) ?_
            refine RK.of (RN.blk (ops := [(51, .istore_n 1), (52, .iinc 2 1)]) (pc' := 55) (lv' := [(2, .inl (m_w32 (v2 + 1))), (1, .inl 0), (0, .inr (.inr 3))]) (st' := []) (h' := h3) (cs := []) (by decide +kernel) rfl trivial) ?_
            refine RK.of (RN.goto (off := -37) (tgt := 18) (by decide +kernel)) ?_
            exact RK.sub (ih _ _ _ hL hJ hF) (sub_cons rfl (sub_cons rfl (sub_cons rfl sub_nil)))
          · refine RK.of (RN.iff (cd := .eq) (off := 7) (tgt := 50) (by decide +kernel) (mif_eqn hb)) ?_
            refine RK.of (RN.blk (ops := [(46, .iconst 1)]) (pc' := 47) (lv' := [(0, .inr (.inr 3)), (1, .inl v1), (2, .inl v2)]) (st' := [.inl 1]) (h' := h3) (cs := []) (by decide +kernel) rfl trivial) ?_
            refine RK.of (RN.goto (off := 4) (tgt := 51) (by decide +kernel)) ?_
            refine RK.of (RN.blk (ops := [(51, .istore_n 1), (52, .iinc 2 1)]) (pc' := 55) (lv' := [(2, .inl (m_w32 (v2 + 1))), (1, .inl 1), (0, .inr (.inr 3))]) (st' := []) (h' := h3) (cs := []) (by decide +kernel) rfl trivial) ?_
            refine RK.of (RN.goto (off := -37) (tgt := 18) (by decide +kernel)) ?_
            exact RK.sub (ih _ _ _ hL hJ hF) (sub_cons rfl (sub_cons rfl (sub_cons rfl sub_nil)))
noncomputable def GX3_parse (h : MH) : Option (Int × MH) :=
  (bv (GX9_rewind h) (fun h1 =>
   (bv (GX10_clear 7 h1) (fun h2 =>
    GX3_parse_L18 (fun h3 =>
     some ((m_rd h3 1 3), h3)) FU 1 0 h2))))
theorem DX3_parse {d : Nat} {h : MH} {r : Int × MH} (hL : LR h) (hF : GX3_parse h = some r) : RN xs L iX3_parse (d + 9) 0 (lvE 0 [.inr (.inr 3)]) [] h (RIo r) ∧ LR r.2 ∧ KD h r.2 := by
  unfold GX3_parse at hF
  have hK : KD h h := KD.rf
  show RK xs L iX3_parse (d + 9) 0 (lvE 0 [.inr (.inr 3)]) [] h (RIo r) h r.2
  refine RK.of (RN.blk (ops := [(0, .aload_n 0)]) (pc' := 1) (lv' := [(0, .inr (.inr 3))]) (st' := [.inr (.inr 3)]) (h' := h) (cs := []) (by decide +kernel) rfl trivial) ?_
  refine RK.of (RN.gr (i := 25) (ci := 3) (k := 0) (fn := true) (v := 1) (by decide +kernel) rfl (TO.gk (o_3 hL)) (hL.fo (v := 1) 0 9 (o_3 hL) rfl (by decide) rfl).1) ?_
  obtain ⟨h1, hG, hF⟩ := bv_of hF
  have hq := rcv_ok (as := []) (TO.gk (o_1 hL))
  obtain ⟨hN, hL, hQ⟩ := DX9_rewind (d := d + 8) hL  hG
  refine RK.of (RN.cv (i := 29) (k := 90) (q2 := iX9_rewind) (as := [.inr (.inr 1)]) (r := []) (v := none) (h1 := h1) (by decide +kernel) rfl rfl rfl rfl rfl hq hN) ?_
  have hK := hK.tr hQ
  refine RK.of (RN.blk (ops := [(7, .aload_n 0)]) (pc' := 8) (lv' := [(0, .inr (.inr 3))]) (st' := [.inr (.inr 3)]) (h' := h1) (cs := []) (by decide +kernel) rfl trivial) ?_
  refine RK.of (RN.gr (i := 21) (ci := 3) (k := 2) (fn := true) (v := 7) (by decide +kernel) rfl (TO.gk (o_3 hL)) (hL.fo (v := 7) 2 10 (o_3 hL) rfl (by decide) rfl).1) ?_
  obtain ⟨h2, hG, hF⟩ := bv_of hF
  have hq := rcv_ok (as := []) (TO.gk (o_7 hL))
  obtain ⟨hN, hL, hQ⟩ := DX10_clear (d := d + 8) hL (o_7 hL) hG
  refine RK.of (RN.cv (i := 34) (k := 100) (q2 := iX10_clear) (as := [.inr (.inr 7)]) (r := []) (v := none) (h1 := h2) (by decide +kernel) rfl rfl rfl rfl rfl hq hN) ?_
  have hK := hK.tr hQ
  refine RK.of (RN.blk (ops := [(14, .iconst 1), (15, .istore_n 1), (16, .iconst 0), (17, .istore_n 2)]) (pc' := 18) (lv' := [(2, .inl 0), (1, .inl 1), (0, .inr (.inr 3))]) (st' := []) (h' := h2) (cs := []) (by decide +kernel) rfl trivial) ?_
  refine RK.sub (DX3_parse_L18 hK ?_ _ _ _ _ hL KD.rf hF) (sub_cons rfl (sub_cons rfl (sub_cons rfl sub_nil)))
  · intro h3 hL hq hF
    have hK := hK.tr hq
    refine RK.of (RN.blk (ops := [(58, .aload_n 0)]) (pc' := 59) (lv' := [(0, .inr (.inr 3))]) (st' := [.inr (.inr 3)]) (h' := h3) (cs := []) (by decide +kernel) rfl trivial) ?_
    refine RK.of (RN.gr (i := 25) (ci := 3) (k := 0) (fn := true) (v := 1) (by decide +kernel) rfl (TO.gk (o_3 hL)) (hL.fo (v := 1) 0 9 (o_3 hL) rfl (by decide) rfl).1) ?_
    refine RK.of (RN.blk (ops := [(62, .getfield 45)]) (pc' := 65) (lv' := [(0, .inr (.inr 3))]) (st' := [.inl (m_rd h3 1 3)]) (h' := h3) (cs := [GK h3 1 9]) (by decide +kernel) rfl ⟨(o_1 hL).gk, trivial⟩) ?_
    exact RK.iR (by decide +kernel) rfl hL hK hF
noncomputable def GX4_drop_L21 (u0 : Int) (K0 : MH → Option (MH)) : Nat → Int → MH → Option (MH)
  | 0, _, _ => none
  | f + 1, v2, h =>
    (if v2 < (m_rd h u0 0) then
     gd [IB (m_w32 (v2 + 1)) 12, IB v2 12] (
      gd [IB (m_w32 (v2 + 1)) 12, IB v2 12] (
       hl (m_wr (m_wr h (u0 + 1) v2 (m_rd h (u0 + 1) (m_w32 (v2 + 1)))) (u0 + 2) v2 (m_rd (m_wr h (u0 + 1) v2 (m_rd h (u0 + 1) (m_w32 (v2 + 1)))) (u0 + 2) (m_w32 (v2 + 1)))) (fun h1 =>
        gd [IB (m_w32 (v2 + 1)) 12, IB v2 12] (
         GX4_drop_L21 u0 K0 f (m_w32 (v2 + 1)) (m_wr h1 (u0 + 3) v2 (m_rd h1 (u0 + 3) (m_w32 (v2 + 1))))))))
    else
     K0 h)
theorem DX4_drop_L21 {d : Nat} {u0 : Int} {K0 : MH → Option (MH)} {r : MH} {h0 hB : MH} (hB0 : KD h0 hB) (k0_u0 : TO hB u0 4) (hK0 : ∀ (h : MH), LR h → KD hB h → K0 h = some r → RK xs L iX4_drop (d + 1) 77 [] [] h (RVo r) h0 r) : ∀ (f : Nat) (v2 : Int) (h : MH), LR h → KD hB h → GX4_drop_L21 u0 K0 f v2 h = some r → RK xs L iX4_drop (d + 1) 21 [(0, .inr (.inr u0)), (2, .inl v2)] [] h (RVo r) h0 r := by
  intro f
  induction f with
  | zero =>
    intro v2 h hL hJ hF
    cases hF
  | succ f ih =>
    intro v2 h hL hJ hF
    unfold GX4_drop_L21 at hF
    have hK := hB0.tr hJ
    have k_u0 := hJ.to k0_u0
    refine RK.of (RN.blk (ops := [(21, .iload_n 2), (22, .aload_n 0), (23, .getfield 21)]) (pc' := 26) (lv' := [(0, .inr (.inr u0)), (2, .inl v2)]) (st' := [.inl (m_rd h u0 0), .inl v2]) (h' := h) (cs := [GK h u0 4]) (by decide +kernel) rfl ⟨k_u0.gk, trivial⟩) ?_
    rcases it_of hF with ⟨hb, hF⟩ | ⟨hb, hF⟩
    · refine RK.of (RN.icf (cd := .ge) (off := 51) (tgt := 77) (by decide +kernel) (mif_gen hb)) ?_
      refine RK.of (RN.blk (ops := [(29, .aload_n 0)]) (pc' := 30) (lv' := [(0, .inr (.inr u0)), (2, .inl v2)]) (st' := [.inr (.inr u0)]) (h' := h) (cs := []) (by decide +kernel) rfl trivial) ?_
      refine RK.of (RN.gr (i := 9) (ci := 4) (k := 1) (fn := true) (v := (u0 + 1)) (by decide +kernel) rfl (TO.gk k_u0) (hL.fa (v := (u0 + 1)) 1 1 12 k_u0 rfl rfl rfl (by decide)).1) ?_
      refine RK.of (RN.blk (ops := [(33, .iload_n 2), (34, .aload_n 0)]) (pc' := 35) (lv' := [(0, .inr (.inr u0)), (2, .inl v2)]) (st' := [.inr (.inr u0), .inl v2, .inr (.inr (u0 + 1))]) (h' := h) (cs := []) (by decide +kernel) rfl trivial) ?_
      refine RK.of (RN.gr (i := 9) (ci := 4) (k := 1) (fn := true) (v := (u0 + 1)) (by decide +kernel) rfl (TO.gk k_u0) (hL.fa (v := (u0 + 1)) 1 1 12 k_u0 rfl rfl rfl (by decide)).1) ?_
      obtain ⟨hc, hF⟩ := gd_of hF
      refine RK.of (RN.blk (ops := [(38, .iload_n 2), (39, .iconst 1), (40, .iadd), (41, .iaload), (42, .iastore)]) (pc' := 43) (lv' := [(0, .inr (.inr u0)), (2, .inl v2)]) (st' := []) (h' := (m_wr h (u0 + 1) v2 (m_rd h (u0 + 1) (m_w32 (v2 + 1))))) (cs := [GI h (u0 + 1) 1 (m_w32 (v2 + 1)), GI h (u0 + 1) 1 v2]) (by decide +kernel) rfl ⟨(hL.fa 1 1 12 k_u0 rfl rfl rfl (by decide)).2.gi hc.1.1 hc.1.2, (hL.fa 1 1 12 k_u0 rfl rfl rfl (by decide)).2.gi hc.2.1.1 hc.2.1.2, trivial⟩) ?_
      have hL : LR (m_wr h (u0 + 1) v2 (m_rd h (u0 + 1) (m_w32 (v2 + 1)))) := hL.wa (TA.le5 (hL.fa 1 1 12 k_u0 rfl rfl rfl (by decide)).2 (by decide))
      have k_u0 := (KD.wr : KD h (m_wr h (u0 + 1) v2 (m_rd h (u0 + 1) (m_w32 (v2 + 1))))).to k_u0
      have hK := hK.tr (KD.wr : KD h (m_wr h (u0 + 1) v2 (m_rd h (u0 + 1) (m_w32 (v2 + 1)))))
      have hJ := hJ.tr (KD.wr : KD h (m_wr h (u0 + 1) v2 (m_rd h (u0 + 1) (m_w32 (v2 + 1)))))
      refine RK.of (RN.blk (ops := [(43, .aload_n 0)]) (pc' := 44) (lv' := [(0, .inr (.inr u0)), (2, .inl v2)]) (st' := [.inr (.inr u0)]) (h' := (m_wr h (u0 + 1) v2 (m_rd h (u0 + 1) (m_w32 (v2 + 1))))) (cs := []) (by decide +kernel) rfl trivial) ?_
      refine RK.of (RN.gr (i := 15) (ci := 4) (k := 2) (fn := true) (v := (u0 + 2)) (by decide +kernel) rfl (TO.gk k_u0) (hL.fa (v := (u0 + 2)) 2 1 12 k_u0 rfl rfl rfl (by decide)).1) ?_
      refine RK.of (RN.blk (ops := [(47, .iload_n 2), (48, .aload_n 0)]) (pc' := 49) (lv' := [(0, .inr (.inr u0)), (2, .inl v2)]) (st' := [.inr (.inr u0), .inl v2, .inr (.inr (u0 + 2))]) (h' := (m_wr h (u0 + 1) v2 (m_rd h (u0 + 1) (m_w32 (v2 + 1))))) (cs := []) (by decide +kernel) rfl trivial) ?_
      refine RK.of (RN.gr (i := 15) (ci := 4) (k := 2) (fn := true) (v := (u0 + 2)) (by decide +kernel) rfl (TO.gk k_u0) (hL.fa (v := (u0 + 2)) 2 1 12 k_u0 rfl rfl rfl (by decide)).1) ?_
      obtain ⟨hc, hF⟩ := gd_of hF
      refine RK.of (RN.blk (ops := [(52, .iload_n 2), (53, .iconst 1), (54, .iadd), (55, .iaload), (56, .iastore)]) (pc' := 57) (lv' := [(0, .inr (.inr u0)), (2, .inl v2)]) (st' := []) (h' := (m_wr (m_wr h (u0 + 1) v2 (m_rd h (u0 + 1) (m_w32 (v2 + 1)))) (u0 + 2) v2 (m_rd (m_wr h (u0 + 1) v2 (m_rd h (u0 + 1) (m_w32 (v2 + 1)))) (u0 + 2) (m_w32 (v2 + 1))))) (cs := [GI (m_wr h (u0 + 1) v2 (m_rd h (u0 + 1) (m_w32 (v2 + 1)))) (u0 + 2) 1 (m_w32 (v2 + 1)), GI (m_wr h (u0 + 1) v2 (m_rd h (u0 + 1) (m_w32 (v2 + 1)))) (u0 + 2) 1 v2]) (by decide +kernel) rfl ⟨(hL.fa 2 1 12 k_u0 rfl rfl rfl (by decide)).2.gi hc.1.1 hc.1.2, (hL.fa 2 1 12 k_u0 rfl rfl rfl (by decide)).2.gi hc.2.1.1 hc.2.1.2, trivial⟩) ?_
      have hL : LR (m_wr (m_wr h (u0 + 1) v2 (m_rd h (u0 + 1) (m_w32 (v2 + 1)))) (u0 + 2) v2 (m_rd (m_wr h (u0 + 1) v2 (m_rd h (u0 + 1) (m_w32 (v2 + 1)))) (u0 + 2) (m_w32 (v2 + 1)))) := hL.wa (TA.le5 (hL.fa 2 1 12 k_u0 rfl rfl rfl (by decide)).2 (by decide))
      have k_u0 := (KD.wr : KD (m_wr h (u0 + 1) v2 (m_rd h (u0 + 1) (m_w32 (v2 + 1)))) (m_wr (m_wr h (u0 + 1) v2 (m_rd h (u0 + 1) (m_w32 (v2 + 1)))) (u0 + 2) v2 (m_rd (m_wr h (u0 + 1) v2 (m_rd h (u0 + 1) (m_w32 (v2 + 1)))) (u0 + 2) (m_w32 (v2 + 1))))).to k_u0
      have hK := hK.tr (KD.wr : KD (m_wr h (u0 + 1) v2 (m_rd h (u0 + 1) (m_w32 (v2 + 1)))) (m_wr (m_wr h (u0 + 1) v2 (m_rd h (u0 + 1) (m_w32 (v2 + 1)))) (u0 + 2) v2 (m_rd (m_wr h (u0 + 1) v2 (m_rd h (u0 + 1) (m_w32 (v2 + 1)))) (u0 + 2) (m_w32 (v2 + 1)))))
      have hJ := hJ.tr (KD.wr : KD (m_wr h (u0 + 1) v2 (m_rd h (u0 + 1) (m_w32 (v2 + 1)))) (m_wr (m_wr h (u0 + 1) v2 (m_rd h (u0 + 1) (m_w32 (v2 + 1)))) (u0 + 2) v2 (m_rd (m_wr h (u0 + 1) v2 (m_rd h (u0 + 1) (m_w32 (v2 + 1)))) (u0 + 2) (m_w32 (v2 + 1)))))
      obtain ⟨h1, he, hF⟩ := hl_of hF
      refine RK.of (RN.hl he) ?_
      rw [← he] at hL hK hJ k_u0
      refine RK.of (RN.blk (ops := [(57, .aload_n 0)]) (pc' := 58) (lv' := [(0, .inr (.inr u0)), (2, .inl v2)]) (st' := [.inr (.inr u0)]) (h' := h1) (cs := []) (by decide +kernel) rfl trivial) ?_
      refine RK.of (RN.gr (i := 18) (ci := 4) (k := 3) (fn := true) (v := (u0 + 3)) (by decide +kernel) rfl (TO.gk k_u0) (hL.fa (v := (u0 + 3)) 3 1 12 k_u0 rfl rfl rfl (by decide)).1) ?_
      refine RK.of (RN.blk (ops := [(61, .iload_n 2), (62, .aload_n 0)]) (pc' := 63) (lv' := [(0, .inr (.inr u0)), (2, .inl v2)]) (st' := [.inr (.inr u0), .inl v2, .inr (.inr (u0 + 3))]) (h' := h1) (cs := []) (by decide +kernel) rfl trivial) ?_
      refine RK.of (RN.gr (i := 18) (ci := 4) (k := 3) (fn := true) (v := (u0 + 3)) (by decide +kernel) rfl (TO.gk k_u0) (hL.fa (v := (u0 + 3)) 3 1 12 k_u0 rfl rfl rfl (by decide)).1) ?_
      obtain ⟨hc, hF⟩ := gd_of hF
      refine RK.of (RN.blk (ops := [(66, .iload_n 2), (67, .iconst 1), (68, .iadd), (69, .iaload), (70, .iastore)]) (pc' := 71) (lv' := [(0, .inr (.inr u0)), (2, .inl v2)]) (st' := []) (h' := (m_wr h1 (u0 + 3) v2 (m_rd h1 (u0 + 3) (m_w32 (v2 + 1))))) (cs := [GI h1 (u0 + 3) 1 (m_w32 (v2 + 1)), GI h1 (u0 + 3) 1 v2]) (by decide +kernel) rfl ⟨(hL.fa 3 1 12 k_u0 rfl rfl rfl (by decide)).2.gi hc.1.1 hc.1.2, (hL.fa 3 1 12 k_u0 rfl rfl rfl (by decide)).2.gi hc.2.1.1 hc.2.1.2, trivial⟩) ?_
      have hL : LR (m_wr h1 (u0 + 3) v2 (m_rd h1 (u0 + 3) (m_w32 (v2 + 1)))) := hL.wa (TA.le5 (hL.fa 3 1 12 k_u0 rfl rfl rfl (by decide)).2 (by decide))
      have k_u0 := (KD.wr : KD h1 (m_wr h1 (u0 + 3) v2 (m_rd h1 (u0 + 3) (m_w32 (v2 + 1))))).to k_u0
      have hK := hK.tr (KD.wr : KD h1 (m_wr h1 (u0 + 3) v2 (m_rd h1 (u0 + 3) (m_w32 (v2 + 1)))))
      have hJ := hJ.tr (KD.wr : KD h1 (m_wr h1 (u0 + 3) v2 (m_rd h1 (u0 + 3) (m_w32 (v2 + 1)))))
      refine RK.of (RN.blk (ops := [(71, .iinc 2 1)]) (pc' := 74) (lv' := [(2, .inl (m_w32 (v2 + 1))), (0, .inr (.inr u0))]) (st' := []) (h' := (m_wr h1 (u0 + 3) v2 (m_rd h1 (u0 + 3) (m_w32 (v2 + 1))))) (cs := []) (by decide +kernel) rfl trivial) ?_
      refine RK.of (RN.goto (off := -53) (tgt := 21) (by decide +kernel)) ?_
      exact RK.sub (ih _ _ hL hJ hF) (sub_cons rfl (sub_cons rfl sub_nil))
    · refine RK.of (RN.ict (cd := .ge) (off := 51) (tgt := 77) (by decide +kernel) (mif_ge hb)) ?_
      exact RK.sub (hK0 _ hL hJ hF) sub_nil
noncomputable def GX4_drop (t : Int) (a1 : Int) (h : MH) : Option (MH) :=
  (bd (GX4_has t a1 h) (fun x2 h1 =>
   (if x2 = 0 then
    some h1
   else
    GX4_drop_L21 t (fun h3 =>
     some h3) FU a1 (m_wr h1 t 0 (m_w32 ((m_rd h1 t 0) - 1))))))
theorem DX4_drop {d : Nat} {t : Int} {a1 : Int} {h : MH} {r : MH} (hL : LR h) (k0_t : TO h t 4) (hF : GX4_drop t a1 h = some r) : RN xs L iX4_drop (d + 1) 0 (lvE 0 [.inr (.inr t), .inl a1]) [] h (RVo r) ∧ LR r ∧ KD h r := by
  unfold GX4_drop at hF
  have hK : KD h h := KD.rf
  have k_t := k0_t
  show RK xs L iX4_drop (d + 1) 0 (lvE 0 [.inr (.inr t), .inl a1]) [] h (RVo r) h r
  refine RK.of (RN.blk (ops := [(0, .aload_n 0), (1, .iload_n 1)]) (pc' := 2) (lv' := [(0, .inr (.inr t)), (1, .inl a1)]) (st' := [.inl a1, .inr (.inr t)]) (h' := h) (cs := []) (by decide +kernel) rfl trivial) ?_
  obtain ⟨x2, h1, hG, hF⟩ := bd_of hF
  have hq := rcv_ok (as := [.inl a1]) (TO.gk k_t)
  obtain ⟨hN, hL, hQ⟩ := DX4_has (d := d) hL k_t hG
  refine RK.of (RN.cv (i := 35) (k := 46) (q2 := iX4_has) (as := [.inr (.inr t), .inl a1]) (r := []) (v := some (.inl x2)) (h1 := h1) (by decide +kernel) rfl rfl rfl rfl rfl hq hN) ?_
  have k_t := hQ.to k_t
  have hK := hK.tr hQ
  rcases it_of hF with ⟨hb, hF⟩ | ⟨hb, hF⟩
  · refine RK.of (RN.iff (cd := .ne) (off := 4) (tgt := 9) (by decide +kernel) (mif_nen hb)) ?_
    exact RK.vR (by decide +kernel) rfl hL hK hF
  · refine RK.of (RN.ift (cd := .ne) (off := 4) (tgt := 9) (by decide +kernel) (mif_ne hb)) ?_
    refine RK.of (RN.blk (ops := [(9, .aload_n 0), (10, .dup), (11, .getfield 21), (14, .iconst 1), (15, .isub), (16, .putfield 21)]) (pc' := 19) (lv' := [(0, .inr (.inr t)), (1, .inl a1)]) (st' := []) (h' := (m_wr h1 t 0 (m_w32 ((m_rd h1 t 0) - 1)))) (cs := [GK h1 t 4, GK h1 t 4]) (by decide +kernel) rfl ⟨k_t.gk, k_t.gk, trivial⟩) ?_
    have hL : LR (m_wr h1 t 0 (m_w32 ((m_rd h1 t 0) - 1))) := LR.wf (k := 0) hL k_t rfl
    have k_t := (KD.wr : KD h1 (m_wr h1 t 0 (m_w32 ((m_rd h1 t 0) - 1)))).to k_t
    have hK := hK.tr (KD.wr : KD h1 (m_wr h1 t 0 (m_w32 ((m_rd h1 t 0) - 1))))
    refine RK.of (RN.blk (ops := [(19, .iload_n 1), (20, .istore_n 2)]) (pc' := 21) (lv' := [(2, .inl a1), (0, .inr (.inr t)), (1, .inl a1)]) (st' := []) (h' := (m_wr h1 t 0 (m_w32 ((m_rd h1 t 0) - 1)))) (cs := []) (by decide +kernel) rfl trivial) ?_
    refine RK.sub (DX4_drop_L21 hK k_t ?_ _ _ _ hL KD.rf hF) (sub_cons rfl (sub_cons rfl sub_nil))
    · intro h3 hL hq hF
      have k_t := hq.to k_t
      have hK := hK.tr hq
      exact RK.vR (by decide +kernel) rfl hL hK hF
noncomputable def GX5_join (a1 : Int) (a2 : Int) (a3 : Int) (h : MH) : Option (Int × MH) :=
  (if a1 = (-30) then
   some ((m_land a2 a3), h)
  else
  (if a1 = (-29) then
   (if 0 < (m_lcmp a2 a3) then
    some (1, h)
   else
    some (0, h))
  else
  (if a1 = (-28) then
   (if (m_lcmp a2 a3) < 0 then
    some (0, h)
   else
    some (1, h))
  else
  (if a1 = (-27) then
   (if (m_lcmp a2 a3) = 0 then
    some (1, h)
   else
    some (0, h))
  else
  (if a1 = (-26) then
   (if 0 < (m_lcmp a2 a3) then
    some (0, h)
   else
    some (1, h))
  else
  (if a1 = (-25) then
   (if (m_lcmp a2 a3) < 0 then
    some (1, h)
   else
    some (0, h))
  else
  (if a1 = (-24) then
   (if (m_lcmp a3 0) = 0 then
    some (0, h)
   else
    gd [(a3 : Int) ≠ 0] (
     some ((Int.tmod a2 a3), h)))
  else
  (if a1 = (-23) then
   (if (m_lcmp a3 0) = 0 then
    some (0, h)
   else
    gd [(a3 : Int) ≠ 0] (
     some ((m_w64 (Int.tdiv a2 a3)), h)))
  else
  (if a1 = (-22) then
   some ((m_w64 (a2 * a3)), h)
  else
  (if a1 = (-21) then
   some ((m_w64 (a2 - a3)), h)
  else
  (if a1 = (-20) then
   some ((m_w64 (a2 + a3)), h)
  else
   some ((m_lor a2 a3), h))))))))))))
theorem DX5_join {d : Nat} {a1 : Int} {a2 : Int} {a3 : Int} {h : MH} {r : Int × MH} (hL : LR h) (hF : GX5_join a1 a2 a3 h = some r) : RN xs L iX5_join (d) 0 (lvE 0 [.inl a1, .inr (.inl a2), .inr (.inl a3)]) [] h (RJo r) ∧ LR r.2 ∧ KD h r.2 := by
  unfold GX5_join at hF
  have hK : KD h h := KD.rf
  show RK xs L iX5_join (d) 0 (lvE 0 [.inl a1, .inr (.inl a2), .inr (.inl a3)]) [] h (RJo r) h r.2
  refine RK.of (RN.blk (ops := [(0, .iload_n 0)]) (pc' := 1) (lv' := [(0, .inl a1), (1, .inr (.inl a2)), (3, .inr (.inl a3))]) (st' := [.inl a1]) (h' := h) (cs := []) (by decide +kernel) rfl trivial) ?_
  rcases it_of hF with ⟨hb0, hF⟩ | ⟨hb0, hF⟩
  · refine RK.of (fun k9 => RN.tsw (dflt := 163) (lo := -30) (hi := -20) (offs := #[159, 147, 135, 123, 111, 99, 85, 71, 67, 63, 59]) (by decide +kernel) (RN.sth hb0 (tgt := 160) rfl k9)) ?_
    refine RK.of (RN.blk (ops := [(160, .lload_n 1), (161, .lload_n 3), (162, .land)]) (pc' := 163) (lv' := [(0, .inl a1), (1, .inr (.inl a2)), (3, .inr (.inl a3))]) (st' := [.inr (.inl (m_land a2 a3))]) (h' := h) (cs := []) (by decide +kernel) rfl trivial) ?_
    exact RK.lR (by decide +kernel) rfl hL hK hF
  rcases it_of hF with ⟨hb1, hF⟩ | ⟨hb1, hF⟩
  · refine RK.of (fun k9 => RN.tsw (dflt := 163) (lo := -30) (hi := -20) (offs := #[159, 147, 135, 123, 111, 99, 85, 71, 67, 63, 59]) (by decide +kernel) (RN.stm hb0 (RN.sth hb1 (tgt := 148) rfl k9))) ?_
    refine RK.of (RN.blk (ops := [(148, .lload_n 1), (149, .lload_n 3), (150, .lcmp)]) (pc' := 151) (lv' := [(0, .inl a1), (1, .inr (.inl a2)), (3, .inr (.inl a3))]) (st' := [.inl (m_lcmp a2 a3)]) (h' := h) (cs := []) (by decide +kernel) rfl trivial) ?_
    rcases it_of hF with ⟨hb, hF⟩ | ⟨hb, hF⟩
    · refine RK.of (RN.iff (cd := .le) (off := 7) (tgt := 158) (by decide +kernel) (mif_len hb)) ?_
      refine RK.of (RN.blk (ops := [(154, .lconst 1)]) (pc' := 155) (lv' := [(0, .inl a1), (1, .inr (.inl a2)), (3, .inr (.inl a3))]) (st' := [.inr (.inl 1)]) (h' := h) (cs := []) (by decide +kernel) rfl trivial) ?_
      refine RK.of (RN.goto (off := 4) (tgt := 159) (by decide +kernel)) ?_
      exact RK.lR (by decide +kernel) rfl hL hK hF
    · refine RK.of (RN.ift (cd := .le) (off := 7) (tgt := 158) (by decide +kernel) (mif_le hb)) ?_
      refine RK.of (RN.blk (ops := [(158, .lconst 0)]) (pc' := 159) (lv' := [(0, .inl a1), (1, .inr (.inl a2)), (3, .inr (.inl a3))]) (st' := [.inr (.inl 0)]) (h' := h) (cs := []) (by decide +kernel) rfl trivial) ?_
      exact RK.lR (by decide +kernel) rfl hL hK hF
  rcases it_of hF with ⟨hb2, hF⟩ | ⟨hb2, hF⟩
  · refine RK.of (fun k9 => RN.tsw (dflt := 163) (lo := -30) (hi := -20) (offs := #[159, 147, 135, 123, 111, 99, 85, 71, 67, 63, 59]) (by decide +kernel) (RN.stm hb0 (RN.stm hb1 (RN.sth hb2 (tgt := 136) rfl k9)))) ?_
    refine RK.of (RN.blk (ops := [(136, .lload_n 1), (137, .lload_n 3), (138, .lcmp)]) (pc' := 139) (lv' := [(0, .inl a1), (1, .inr (.inl a2)), (3, .inr (.inl a3))]) (st' := [.inl (m_lcmp a2 a3)]) (h' := h) (cs := []) (by decide +kernel) rfl trivial) ?_
    rcases it_of hF with ⟨hb, hF⟩ | ⟨hb, hF⟩
    · refine RK.of (RN.ift (cd := .lt) (off := 7) (tgt := 146) (by decide +kernel) (mif_lt hb)) ?_
      refine RK.of (RN.blk (ops := [(146, .lconst 0)]) (pc' := 147) (lv' := [(0, .inl a1), (1, .inr (.inl a2)), (3, .inr (.inl a3))]) (st' := [.inr (.inl 0)]) (h' := h) (cs := []) (by decide +kernel) rfl trivial) ?_
      exact RK.lR (by decide +kernel) rfl hL hK hF
    · refine RK.of (RN.iff (cd := .lt) (off := 7) (tgt := 146) (by decide +kernel) (mif_ltn hb)) ?_
      refine RK.of (RN.blk (ops := [(142, .lconst 1)]) (pc' := 143) (lv' := [(0, .inl a1), (1, .inr (.inl a2)), (3, .inr (.inl a3))]) (st' := [.inr (.inl 1)]) (h' := h) (cs := []) (by decide +kernel) rfl trivial) ?_
      refine RK.of (RN.goto (off := 4) (tgt := 147) (by decide +kernel)) ?_
      exact RK.lR (by decide +kernel) rfl hL hK hF
  rcases it_of hF with ⟨hb3, hF⟩ | ⟨hb3, hF⟩
  · refine RK.of (fun k9 => RN.tsw (dflt := 163) (lo := -30) (hi := -20) (offs := #[159, 147, 135, 123, 111, 99, 85, 71, 67, 63, 59]) (by decide +kernel) (RN.stm hb0 (RN.stm hb1 (RN.stm hb2 (RN.sth hb3 (tgt := 124) rfl k9))))) ?_
    refine RK.of (RN.blk (ops := [(124, .lload_n 1), (125, .lload_n 3), (126, .lcmp)]) (pc' := 127) (lv' := [(0, .inl a1), (1, .inr (.inl a2)), (3, .inr (.inl a3))]) (st' := [.inl (m_lcmp a2 a3)]) (h' := h) (cs := []) (by decide +kernel) rfl trivial) ?_
    rcases it_of hF with ⟨hb, hF⟩ | ⟨hb, hF⟩
    · refine RK.of (RN.iff (cd := .ne) (off := 7) (tgt := 134) (by decide +kernel) (mif_nen hb)) ?_
      refine RK.of (RN.blk (ops := [(130, .lconst 1)]) (pc' := 131) (lv' := [(0, .inl a1), (1, .inr (.inl a2)), (3, .inr (.inl a3))]) (st' := [.inr (.inl 1)]) (h' := h) (cs := []) (by decide +kernel) rfl trivial) ?_
      refine RK.of (RN.goto (off := 4) (tgt := 135) (by decide +kernel)) ?_
      exact RK.lR (by decide +kernel) rfl hL hK hF
    · refine RK.of (RN.ift (cd := .ne) (off := 7) (tgt := 134) (by decide +kernel) (mif_ne hb)) ?_
      refine RK.of (RN.blk (ops := [(134, .lconst 0)]) (pc' := 135) (lv' := [(0, .inl a1), (1, .inr (.inl a2)), (3, .inr (.inl a3))]) (st' := [.inr (.inl 0)]) (h' := h) (cs := []) (by decide +kernel) rfl trivial) ?_
      exact RK.lR (by decide +kernel) rfl hL hK hF
  rcases it_of hF with ⟨hb4, hF⟩ | ⟨hb4, hF⟩
  · refine RK.of (fun k9 => RN.tsw (dflt := 163) (lo := -30) (hi := -20) (offs := #[159, 147, 135, 123, 111, 99, 85, 71, 67, 63, 59]) (by decide +kernel) (RN.stm hb0 (RN.stm hb1 (RN.stm hb2 (RN.stm hb3 (RN.sth hb4 (tgt := 112) rfl k9)))))) ?_
    refine RK.of (RN.blk (ops := [(112, .lload_n 1), (113, .lload_n 3), (114, .lcmp)]) (pc' := 115) (lv' := [(0, .inl a1), (1, .inr (.inl a2)), (3, .inr (.inl a3))]) (st' := [.inl (m_lcmp a2 a3)]) (h' := h) (cs := []) (by decide +kernel) rfl trivial) ?_
    rcases it_of hF with ⟨hb, hF⟩ | ⟨hb, hF⟩
    · refine RK.of (RN.ift (cd := .gt) (off := 7) (tgt := 122) (by decide +kernel) (mif_gt hb)) ?_
      refine RK.of (RN.blk (ops := [(122, .lconst 0)]) (pc' := 123) (lv' := [(0, .inl a1), (1, .inr (.inl a2)), (3, .inr (.inl a3))]) (st' := [.inr (.inl 0)]) (h' := h) (cs := []) (by decide +kernel) rfl trivial) ?_
      exact RK.lR (by decide +kernel) rfl hL hK hF
    · refine RK.of (RN.iff (cd := .gt) (off := 7) (tgt := 122) (by decide +kernel) (mif_gtn hb)) ?_
      refine RK.of (RN.blk (ops := [(118, .lconst 1)]) (pc' := 119) (lv' := [(0, .inl a1), (1, .inr (.inl a2)), (3, .inr (.inl a3))]) (st' := [.inr (.inl 1)]) (h' := h) (cs := []) (by decide +kernel) rfl trivial) ?_
      refine RK.of (RN.goto (off := 4) (tgt := 123) (by decide +kernel)) ?_
      exact RK.lR (by decide +kernel) rfl hL hK hF
  rcases it_of hF with ⟨hb5, hF⟩ | ⟨hb5, hF⟩
  · refine RK.of (fun k9 => RN.tsw (dflt := 163) (lo := -30) (hi := -20) (offs := #[159, 147, 135, 123, 111, 99, 85, 71, 67, 63, 59]) (by decide +kernel) (RN.stm hb0 (RN.stm hb1 (RN.stm hb2 (RN.stm hb3 (RN.stm hb4 (RN.sth hb5 (tgt := 100) rfl k9))))))) ?_
    refine RK.of (RN.blk (ops := [(100, .lload_n 1), (101, .lload_n 3), (102, .lcmp)]) (pc' := 103) (lv' := [(0, .inl a1), (1, .inr (.inl a2)), (3, .inr (.inl a3))]) (st' := [.inl (m_lcmp a2 a3)]) (h' := h) (cs := []) (by decide +kernel) rfl trivial) ?_
    rcases it_of hF with ⟨hb, hF⟩ | ⟨hb, hF⟩
    · refine RK.of (RN.iff (cd := .ge) (off := 7) (tgt := 110) (by decide +kernel) (mif_gen hb)) ?_
      refine RK.of (RN.blk (ops := [(106, .lconst 1)]) (pc' := 107) (lv' := [(0, .inl a1), (1, .inr (.inl a2)), (3, .inr (.inl a3))]) (st' := [.inr (.inl 1)]) (h' := h) (cs := []) (by decide +kernel) rfl trivial) ?_
      refine RK.of (RN.goto (off := 4) (tgt := 111) (by decide +kernel)) ?_
      exact RK.lR (by decide +kernel) rfl hL hK hF
    · refine RK.of (RN.ift (cd := .ge) (off := 7) (tgt := 110) (by decide +kernel) (mif_ge hb)) ?_
      refine RK.of (RN.blk (ops := [(110, .lconst 0)]) (pc' := 111) (lv' := [(0, .inl a1), (1, .inr (.inl a2)), (3, .inr (.inl a3))]) (st' := [.inr (.inl 0)]) (h' := h) (cs := []) (by decide +kernel) rfl trivial) ?_
      exact RK.lR (by decide +kernel) rfl hL hK hF
  rcases it_of hF with ⟨hb6, hF⟩ | ⟨hb6, hF⟩
  · refine RK.of (fun k9 => RN.tsw (dflt := 163) (lo := -30) (hi := -20) (offs := #[159, 147, 135, 123, 111, 99, 85, 71, 67, 63, 59]) (by decide +kernel) (RN.stm hb0 (RN.stm hb1 (RN.stm hb2 (RN.stm hb3 (RN.stm hb4 (RN.stm hb5 (RN.sth hb6 (tgt := 86) rfl k9)))))))) ?_
    refine RK.of (RN.blk (ops := [(86, .lload_n 3), (87, .lconst 0), (88, .lcmp)]) (pc' := 89) (lv' := [(0, .inl a1), (1, .inr (.inl a2)), (3, .inr (.inl a3))]) (st' := [.inl (m_lcmp a3 0)]) (h' := h) (cs := []) (by decide +kernel) rfl trivial) ?_
    rcases it_of hF with ⟨hb, hF⟩ | ⟨hb, hF⟩
    · refine RK.of (RN.iff (cd := .ne) (off := 7) (tgt := 96) (by decide +kernel) (mif_nen hb)) ?_
      refine RK.of (RN.blk (ops := [(92, .lconst 0)]) (pc' := 93) (lv' := [(0, .inl a1), (1, .inr (.inl a2)), (3, .inr (.inl a3))]) (st' := [.inr (.inl 0)]) (h' := h) (cs := []) (by decide +kernel) rfl trivial) ?_
      refine RK.of (RN.goto (off := 6) (tgt := 99) (by decide +kernel)) ?_
      exact RK.lR (by decide +kernel) rfl hL hK hF
    · refine RK.of (RN.ift (cd := .ne) (off := 7) (tgt := 96) (by decide +kernel) (mif_ne hb)) ?_
      obtain ⟨hc, hF⟩ := gd_of hF
      refine RK.of (RN.blk (ops := [(96, .lload_n 1), (97, .lload_n 3), (98, .lrem)]) (pc' := 99) (lv' := [(0, .inl a1), (1, .inr (.inl a2)), (3, .inr (.inl a3))]) (st' := [.inr (.inl (Int.tmod a2 a3))]) (h' := h) (cs := [(a3 : Int) ≠ 0]) (by decide +kernel) rfl ⟨hc.1, trivial⟩) ?_
      exact RK.lR (by decide +kernel) rfl hL hK hF
  rcases it_of hF with ⟨hb7, hF⟩ | ⟨hb7, hF⟩
  · refine RK.of (fun k9 => RN.tsw (dflt := 163) (lo := -30) (hi := -20) (offs := #[159, 147, 135, 123, 111, 99, 85, 71, 67, 63, 59]) (by decide +kernel) (RN.stm hb0 (RN.stm hb1 (RN.stm hb2 (RN.stm hb3 (RN.stm hb4 (RN.stm hb5 (RN.stm hb6 (RN.sth hb7 (tgt := 72) rfl k9))))))))) ?_
    refine RK.of (RN.blk (ops := [(72, .lload_n 3), (73, .lconst 0), (74, .lcmp)]) (pc' := 75) (lv' := [(0, .inl a1), (1, .inr (.inl a2)), (3, .inr (.inl a3))]) (st' := [.inl (m_lcmp a3 0)]) (h' := h) (cs := []) (by decide +kernel) rfl trivial) ?_
    rcases it_of hF with ⟨hb, hF⟩ | ⟨hb, hF⟩
    · refine RK.of (RN.iff (cd := .ne) (off := 7) (tgt := 82) (by decide +kernel) (mif_nen hb)) ?_
      refine RK.of (RN.blk (ops := [(78, .lconst 0)]) (pc' := 79) (lv' := [(0, .inl a1), (1, .inr (.inl a2)), (3, .inr (.inl a3))]) (st' := [.inr (.inl 0)]) (h' := h) (cs := []) (by decide +kernel) rfl trivial) ?_
      refine RK.of (RN.goto (off := 6) (tgt := 85) (by decide +kernel)) ?_
      exact RK.lR (by decide +kernel) rfl hL hK hF
    · refine RK.of (RN.ift (cd := .ne) (off := 7) (tgt := 82) (by decide +kernel) (mif_ne hb)) ?_
      obtain ⟨hc, hF⟩ := gd_of hF
      refine RK.of (RN.blk (ops := [(82, .lload_n 1), (83, .lload_n 3), (84, .ldiv)]) (pc' := 85) (lv' := [(0, .inl a1), (1, .inr (.inl a2)), (3, .inr (.inl a3))]) (st' := [.inr (.inl (m_w64 (Int.tdiv a2 a3)))]) (h' := h) (cs := [(a3 : Int) ≠ 0]) (by decide +kernel) rfl ⟨hc.1, trivial⟩) ?_
      exact RK.lR (by decide +kernel) rfl hL hK hF
  rcases it_of hF with ⟨hb8, hF⟩ | ⟨hb8, hF⟩
  · refine RK.of (fun k9 => RN.tsw (dflt := 163) (lo := -30) (hi := -20) (offs := #[159, 147, 135, 123, 111, 99, 85, 71, 67, 63, 59]) (by decide +kernel) (RN.stm hb0 (RN.stm hb1 (RN.stm hb2 (RN.stm hb3 (RN.stm hb4 (RN.stm hb5 (RN.stm hb6 (RN.stm hb7 (RN.sth hb8 (tgt := 68) rfl k9)))))))))) ?_
    refine RK.of (RN.blk (ops := [(68, .lload_n 1), (69, .lload_n 3), (70, .lmul)]) (pc' := 71) (lv' := [(0, .inl a1), (1, .inr (.inl a2)), (3, .inr (.inl a3))]) (st' := [.inr (.inl (m_w64 (a2 * a3)))]) (h' := h) (cs := []) (by decide +kernel) rfl trivial) ?_
    exact RK.lR (by decide +kernel) rfl hL hK hF
  rcases it_of hF with ⟨hb9, hF⟩ | ⟨hb9, hF⟩
  · refine RK.of (fun k9 => RN.tsw (dflt := 163) (lo := -30) (hi := -20) (offs := #[159, 147, 135, 123, 111, 99, 85, 71, 67, 63, 59]) (by decide +kernel) (RN.stm hb0 (RN.stm hb1 (RN.stm hb2 (RN.stm hb3 (RN.stm hb4 (RN.stm hb5 (RN.stm hb6 (RN.stm hb7 (RN.stm hb8 (RN.sth hb9 (tgt := 64) rfl k9))))))))))) ?_
    refine RK.of (RN.blk (ops := [(64, .lload_n 1), (65, .lload_n 3), (66, .lsub)]) (pc' := 67) (lv' := [(0, .inl a1), (1, .inr (.inl a2)), (3, .inr (.inl a3))]) (st' := [.inr (.inl (m_w64 (a2 - a3)))]) (h' := h) (cs := []) (by decide +kernel) rfl trivial) ?_
    exact RK.lR (by decide +kernel) rfl hL hK hF
  rcases it_of hF with ⟨hb10, hF⟩ | ⟨hb10, hF⟩
  · refine RK.of (fun k9 => RN.tsw (dflt := 163) (lo := -30) (hi := -20) (offs := #[159, 147, 135, 123, 111, 99, 85, 71, 67, 63, 59]) (by decide +kernel) (RN.stm hb0 (RN.stm hb1 (RN.stm hb2 (RN.stm hb3 (RN.stm hb4 (RN.stm hb5 (RN.stm hb6 (RN.stm hb7 (RN.stm hb8 (RN.stm hb9 (RN.sth hb10 (tgt := 60) rfl k9)))))))))))) ?_
    refine RK.of (RN.blk (ops := [(60, .lload_n 1), (61, .lload_n 3), (62, .ladd)]) (pc' := 63) (lv' := [(0, .inl a1), (1, .inr (.inl a2)), (3, .inr (.inl a3))]) (st' := [.inr (.inl (m_w64 (a2 + a3)))]) (h' := h) (cs := []) (by decide +kernel) rfl trivial) ?_
    exact RK.lR (by decide +kernel) rfl hL hK hF
  refine RK.of (fun k9 => RN.tsw (dflt := 163) (lo := -30) (hi := -20) (offs := #[159, 147, 135, 123, 111, 99, 85, 71, 67, 63, 59]) (by decide +kernel) (RN.stm hb0 (RN.stm hb1 (RN.stm hb2 (RN.stm hb3 (RN.stm hb4 (RN.stm hb5 (RN.stm hb6 (RN.stm hb7 (RN.stm hb8 (RN.stm hb9 (RN.stm hb10 (RN.std (tgt := 164) rfl k9))))))))))))) ?_
  refine RK.of (RN.blk (ops := [(164, .lload_n 1), (165, .lload_n 3), (166, .lor)]) (pc' := 167) (lv' := [(0, .inl a1), (1, .inr (.inl a2)), (3, .inr (.inl a3))]) (st' := [.inr (.inl (m_lor a2 a3))]) (h' := h) (cs := []) (by decide +kernel) rfl trivial) ?_
  exact RK.lR (by decide +kernel) rfl hL hK hF
end Gc
