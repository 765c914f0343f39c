/-! METHODS AS FUNCTIONS, references resolved (by program): X12_value, X12_term, X12_sum, X12_compare, X12_fact, X12_isInside, X12_closes, X12_tested, X12_isTakeHere, X12_cellHere -/
section Gc
variable {xs : Int → Int} {L : Int}
noncomputable def GX12_value (h : MH) : Option (Int × MH) :=
  (bd (GX12_see h) (fun x2 h1 =>
   (bd (GX12_isDigit (m_rd h1 334 8) h1) (fun x4 h3 =>
    (if x4 = 0 then
     (bd (GX12_wordHere h3) (fun x6 h5 =>
      (if x6 < 0 then
       (bd (GX12_fails 0 (m_rd h1 334 8) h5) (fun x12 h11 =>
        gd [GT x12] (some (x12, h11))))
      else
       (bd (GX12_makes (m_rd h1 334 8) h5) (fun x8 h7 =>
        (if x8 = 0 then
         some (0, h7)
        else
         (bv (GX12_passWord h7) (fun h9 =>
          (bv (GX12_puts 1 x6 h9) (fun h10 =>
           some (1, h10)))))))))))
    else
     (bd (GX12_numberHere 0 99999 h3) (fun x14 h13 =>
      (if x14 = 0 then
       some (0, h13)
      else
       (bd (GX12_makes (m_rd h1 334 8) h13) (fun x16 h15 =>
        (if x16 = 0 then
         some (0, h15)
        else
         (bv (GX12_puts 0 (m_rd h15 334 10) h15) (fun h17 =>
          some (1, h17))))))))))))))
theorem DX12_value {d : Nat} {h : MH} {r : Int × MH} (hL : LR h) (hF : GX12_value h = some r) : RN xs L iX12_value (d + 3) 0 (lvE 0 [.inr (.inr 334)]) [] h (RIo r) ∧ LR r.2 ∧ KD h r.2 := by
  unfold GX12_value at hF
  have hK : KD h h := KD.rf
  show RK xs L iX12_value (d + 3) 0 (lvE 0 [.inr (.inr 334)]) [] h (RIo r) h r.2
  refine RK.of (RN.blk (ops := [(0, .aload_n 0)]) (pc' := 1) (lv' := [(0, .inr (.inr 334))]) (st' := [.inr (.inr 334)]) (h' := h) (cs := []) (by decide +kernel) rfl trivial) ?_
  obtain ⟨x2, h1, hG, hF⟩ := bd_of hF
  have hq := rcv_ok (as := []) (TO.gk (o_334 hL))
  obtain ⟨hN, hL, hQ⟩ := DX12_see (d := d + 2) hL  hG
  refine RK.of (RN.cv (i := 102) (k := 164) (q2 := iX12_see) (as := [.inr (.inr 334)]) (r := []) (v := some (.inl x2)) (h1 := h1) (by decide +kernel) rfl rfl rfl rfl rfl hq hN) ?_
  have hK := hK.tr hQ
  refine RK.of (RN.blk (ops := [(4, .pop), (5, .aload_n 0), (6, .getfield 99), (9, .istore_n 1), (10, .aload_n 0), (11, .aload_n 0), (12, .getfield 99)]) (pc' := 15) (lv' := [(1, .inl (m_rd h1 334 8)), (0, .inr (.inr 334))]) (st' := [.inl (m_rd h1 334 8), .inr (.inr 334)]) (h' := h1) (cs := [GK h1 334 12, GK h1 334 12]) (by decide +kernel) rfl ⟨(o_334 hL).gk, (o_334 hL).gk, trivial⟩) ?_
  obtain ⟨x4, h3, hG, hF⟩ := bd_of hF
  have hq := rcv_ok (as := [.inl (m_rd h1 334 8)]) (TO.gk (o_334 hL))
  obtain ⟨hN, hL, hQ⟩ := DX12_isDigit (d := d + 2) hL  hG
  refine RK.of (RN.cv (i := 117) (k := 165) (q2 := iX12_isDigit) (as := [.inr (.inr 334), .inl (m_rd h1 334 8)]) (r := []) (v := some (.inl x4)) (h1 := h3) (by decide +kernel) rfl rfl rfl rfl rfl hq hN) ?_
  have hK := hK.tr hQ
  rcases it_of hF with ⟨hb, hF⟩ | ⟨hb, hF⟩
  · refine RK.of (RN.ift (cd := .eq) (off := 34) (tgt := 52) (by decide +kernel) (mif_eq hb)) ?_
    refine RK.of (RN.blk (ops := [(52, .aload_n 0)]) (pc' := 53) (lv' := [(1, .inl (m_rd h1 334 8)), (0, .inr (.inr 334))]) (st' := [.inr (.inr 334)]) (h' := h3) (cs := []) (by decide +kernel) rfl trivial) ?_
    obtain ⟨x6, h5, hG, hF⟩ := bd_of hF
    have hq := rcv_ok (as := []) (TO.gk (o_334 hL))
    obtain ⟨hN, hL, hQ⟩ := DX12_wordHere (d := d) hL  hG
    refine RK.of (RN.cv (i := 180) (k := 171) (q2 := iX12_wordHere) (as := [.inr (.inr 334)]) (r := []) (v := some (.inl x6)) (h1 := h5) (by decide +kernel) rfl rfl rfl rfl rfl hq hN) ?_
    have hK := hK.tr hQ
    refine RK.of (RN.blk (ops := [(56, .istore_n 2), (57, .iload_n 2)]) (pc' := 58) (lv' := [(2, .inl x6), (1, .inl (m_rd h1 334 8)), (0, .inr (.inr 334))]) (st' := [.inl x6]) (h' := h5) (cs := []) (by decide +kernel) rfl trivial) ?_
    rcases it_of hF with ⟨hb, hF⟩ | ⟨hb, hF⟩
    · refine RK.of (RN.iff (cd := .ge) (off := 10) (tgt := 68) (by decide +kernel) (mif_gen hb)) ?_
      refine RK.of (RN.blk (ops := [(61, .aload_n 0), (62, .iconst 0), (63, .iload_n 1)]) (pc' := 64) (lv' := [(2, .inl x6), (1, .inl (m_rd h1 334 8)), (0, .inr (.inr 334))]) (st' := [.inl (m_rd h1 334 8), .inl 0, .inr (.inr 334)]) (h' := h5) (cs := []) (by decide +kernel) rfl trivial) ?_
      obtain ⟨x12, h11, hG, hF⟩ := bd_of hF
      have hq := rcv_ok (as := [.inl 0, .inl (m_rd h1 334 8)]) (TO.gk (o_334 hL))
      obtain ⟨hN, hL, hQ⟩ := DX12_fails (d := d + 2) hL  hG
      refine RK.of (RN.cv (i := 120) (k := 163) (q2 := iX12_fails) (as := [.inr (.inr 334), .inl 0, .inl (m_rd h1 334 8)]) (r := []) (v := some (.inl x12)) (h1 := h11) (by decide +kernel) rfl rfl rfl rfl rfl hq hN) ?_
      have hK := hK.tr hQ
      obtain ⟨hc, hF⟩ := gd_of hF
      exact RK.zR (by decide +kernel) rfl hc.1 hL hK hF
    · refine RK.of (RN.ift (cd := .ge) (off := 10) (tgt := 68) (by decide +kernel) (mif_ge hb)) ?_
      refine RK.of (RN.blk (ops := [(68, .aload_n 0), (69, .iload_n 1)]) (pc' := 70) (lv' := [(2, .inl x6), (1, .inl (m_rd h1 334 8)), (0, .inr (.inr 334))]) (st' := [.inl (m_rd h1 334 8), .inr (.inr 334)]) (h' := h5) (cs := []) (by decide +kernel) rfl trivial) ?_
      obtain ⟨x8, h7, hG, hF⟩ := bd_of hF
      have hq := rcv_ok (as := [.inl (m_rd h1 334 8)]) (TO.gk (o_334 hL))
      obtain ⟨hN, hL, hQ⟩ := DX12_makes (d := d + 1) hL  hG
      refine RK.of (RN.cv (i := 177) (k := 173) (q2 := iX12_makes) (as := [.inr (.inr 334), .inl (m_rd h1 334 8)]) (r := []) (v := some (.inl x8)) (h1 := h7) (by decide +kernel) rfl rfl rfl rfl rfl hq hN) ?_
      have hK := hK.tr hQ
      rcases it_of hF with ⟨hb, hF⟩ | ⟨hb, hF⟩
      · refine RK.of (RN.iff (cd := .ne) (off := 5) (tgt := 78) (by decide +kernel) (mif_nen hb)) ?_
        refine RK.of (RN.blk (ops := [(76, .iconst 0)]) (pc' := 77) (lv' := [(2, .inl x6), (1, .inl (m_rd h1 334 8)), (0, .inr (.inr 334))]) (st' := [.inl 0]) (h' := h7) (cs := []) (by decide +kernel) rfl trivial) ?_
        exact RK.zR (by decide +kernel) rfl (Or.inl rfl) hL hK hF
      · refine RK.of (RN.ift (cd := .ne) (off := 5) (tgt := 78) (by decide +kernel) (mif_ne hb)) ?_
        refine RK.of (RN.blk (ops := [(78, .aload_n 0)]) (pc' := 79) (lv' := [(2, .inl x6), (1, .inl (m_rd h1 334 8)), (0, .inr (.inr 334))]) (st' := [.inr (.inr 334)]) (h' := h7) (cs := []) (by decide +kernel) rfl trivial) ?_
        obtain ⟨h9, hG, hF⟩ := bv_of hF
        have hq := rcv_ok (as := []) (TO.gk (o_334 hL))
        obtain ⟨hN, hL, hQ⟩ := DX12_passWord (d := d + 1) hL  hG
        refine RK.of (RN.cv (i := 114) (k := 168) (q2 := iX12_passWord) (as := [.inr (.inr 334)]) (r := []) (v := none) (h1 := h9) (by decide +kernel) rfl rfl rfl rfl rfl hq hN) ?_
        have hK := hK.tr hQ
        refine RK.of (RN.blk (ops := [(82, .aload_n 0), (83, .iconst 1), (84, .iload_n 2)]) (pc' := 85) (lv' := [(2, .inl x6), (1, .inl (m_rd h1 334 8)), (0, .inr (.inr 334))]) (st' := [.inl x6, .inl 1, .inr (.inr 334)]) (h' := h9) (cs := []) (by decide +kernel) rfl trivial) ?_
        obtain ⟨h10, hG, hF⟩ := bv_of hF
        have hq := rcv_ok (as := [.inl 1, .inl x6]) (TO.gk (o_334 hL))
        obtain ⟨hN, hL, hQ⟩ := DX12_puts (d := d + 2) hL  hG
        refine RK.of (RN.cv (i := 169) (k := 172) (q2 := iX12_puts) (as := [.inr (.inr 334), .inl 1, .inl x6]) (r := []) (v := none) (h1 := h10) (by decide +kernel) rfl rfl rfl rfl rfl hq hN) ?_
        have hK := hK.tr hQ
        refine RK.of (RN.blk (ops := [(88, .iconst 1)]) (pc' := 89) (lv' := [(2, .inl x6), (1, .inl (m_rd h1 334 8)), (0, .inr (.inr 334))]) (st' := [.inl 1]) (h' := h10) (cs := []) (by decide +kernel) rfl trivial) ?_
        exact RK.zR (by decide +kernel) rfl (Or.inr rfl) hL hK hF
  · refine RK.of (RN.iff (cd := .eq) (off := 34) (tgt := 52) (by decide +kernel) (mif_eqn hb)) ?_
    refine RK.of (RN.blk (ops := [(21, .aload_n 0), (22, .iconst 0), (23, .ldc 173)]) (pc' := 25) (lv' := [(1, .inl (m_rd h1 334 8)), (0, .inr (.inr 334))]) (st' := [.inl 99999, .inl 0, .inr (.inr 334)]) (h' := h3) (cs := []) (by decide +kernel) rfl trivial) ?_
    obtain ⟨x14, h13, hG, hF⟩ := bd_of hF
    have hq := rcv_ok (as := [.inl 0, .inl 99999]) (TO.gk (o_334 hL))
    obtain ⟨hN, hL, hQ⟩ := DX12_numberHere (d := d + 1) hL  hG
    refine RK.of (RN.cv (i := 174) (k := 170) (q2 := iX12_numberHere) (as := [.inr (.inr 334), .inl 0, .inl 99999]) (r := []) (v := some (.inl x14)) (h1 := h13) (by decide +kernel) rfl rfl rfl rfl rfl hq hN) ?_
    have hK := hK.tr hQ
    rcases it_of hF with ⟨hb, hF⟩ | ⟨hb, hF⟩
    · refine RK.of (RN.ift (cd := .eq) (off := 11) (tgt := 39) (by decide +kernel) (mif_eq hb)) ?_
      refine RK.of (RN.blk (ops := [(39, .iconst 0)]) (pc' := 40) (lv' := [(1, .inl (m_rd h1 334 8)), (0, .inr (.inr 334))]) (st' := [.inl 0]) (h' := h13) (cs := []) (by decide +kernel) rfl trivial) ?_
      exact RK.zR (by decide +kernel) rfl (Or.inl rfl) hL hK hF
    · refine RK.of (RN.iff (cd := .eq) (off := 11) (tgt := 39) (by decide +kernel) (mif_eqn hb)) ?_
      refine RK.of (RN.blk (ops := [(31, .aload_n 0), (32, .iload_n 1)]) (pc' := 33) (lv' := [(1, .inl (m_rd h1 334 8)), (0, .inr (.inr 334))]) (st' := [.inl (m_rd h1 334 8), .inr (.inr 334)]) (h' := h13) (cs := []) (by decide +kernel) rfl trivial) ?_
      obtain ⟨x16, h15, hG, hF⟩ := bd_of hF
      have hq := rcv_ok (as := [.inl (m_rd h1 334 8)]) (TO.gk (o_334 hL))
      obtain ⟨hN, hL, hQ⟩ := DX12_makes (d := d + 1) hL  hG
      refine RK.of (RN.cv (i := 177) (k := 173) (q2 := iX12_makes) (as := [.inr (.inr 334), .inl (m_rd h1 334 8)]) (r := []) (v := some (.inl x16)) (h1 := h15) (by decide +kernel) rfl rfl rfl rfl rfl hq hN) ?_
      have hK := hK.tr hQ
      rcases it_of hF with ⟨hb, hF⟩ | ⟨hb, hF⟩
      · refine RK.of (RN.iff (cd := .ne) (off := 5) (tgt := 41) (by decide +kernel) (mif_nen hb)) ?_
        refine RK.of (RN.blk (ops := [(39, .iconst 0)]) (pc' := 40) (lv' := [(1, .inl (m_rd h1 334 8)), (0, .inr (.inr 334))]) (st' := [.inl 0]) (h' := h15) (cs := []) (by decide +kernel) rfl trivial) ?_
        exact RK.zR (by decide +kernel) rfl (Or.inl rfl) hL hK hF
      · refine RK.of (RN.ift (cd := .ne) (off := 5) (tgt := 41) (by decide +kernel) (mif_ne hb)) ?_
        refine RK.of (RN.blk (ops := [(41, .aload_n 0), (42, .iconst 0), (43, .aload_n 0), (44, .getfield 124)]) (pc' := 47) (lv' := [(1, .inl (m_rd h1 334 8)), (0, .inr (.inr 334))]) (st' := [.inl (m_rd h15 334 10), .inl 0, .inr (.inr 334)]) (h' := h15) (cs := [GK h15 334 12]) (by decide +kernel) rfl ⟨(o_334 hL).gk, trivial⟩) ?_
        obtain ⟨h17, hG, hF⟩ := bv_of hF
        have hq := rcv_ok (as := [.inl 0, .inl (m_rd h15 334 10)]) (TO.gk (o_334 hL))
        obtain ⟨hN, hL, hQ⟩ := DX12_puts (d := d + 2) hL  hG
        refine RK.of (RN.cv (i := 169) (k := 172) (q2 := iX12_puts) (as := [.inr (.inr 334), .inl 0, .inl (m_rd h15 334 10)]) (r := []) (v := none) (h1 := h17) (by decide +kernel) rfl rfl rfl rfl rfl hq hN) ?_
        have hK := hK.tr hQ
        refine RK.of (RN.blk (ops := [(50, .iconst 1)]) (pc' := 51) (lv' := [(1, .inl (m_rd h1 334 8)), (0, .inr (.inr 334))]) (st' := [.inl 1]) (h' := h17) (cs := []) (by decide +kernel) rfl trivial) ?_
        exact RK.zR (by decide +kernel) rfl (Or.inr rfl) hL hK hF
noncomputable def GX12_term_L9 (K0 : MH → Option (Int × MH)) (K1 : MH → Option (Int × MH)) : Nat → MH → Option (Int × MH)
  | 0, _ => none
  | f + 1, h =>
    (bd (GX12_see h) (fun x2 h1 =>
     jn (fun (h4 : MH) =>
      gd [IB (m_rd h4 334 8) 400] (
       jn (fun (s6 : Int) =>
        (bd (GX12_value (m_wr h4 334 8 (m_w32 ((m_rd h4 334 8) + 1)))) (fun x8 h7 =>
         (if x8 = 0 then
          K0 h7
         else
          (bv (GX12_puts s6 0 h7) (fun h9 =>
           GX12_term_L9 K0 K1 f h9)))))) (fun j5 =>
        (if (m_rd h4 335 (m_rd h4 334 8)) = 42 then
         j5 4
        else
         gd [IB (m_rd h4 334 8) 400] (
          (if (m_rd h4 335 (m_rd h4 334 8)) = 47 then
           j5 5
          else
           j5 14)))))) (fun j3 =>
      (if x2 = 42 then
       j3 h1
      else
       (bd (GX12_see h1) (fun x11 h10 =>
        (if x11 = 47 then
         j3 h10
        else
         (bd (GX12_see h10) (fun x13 h12 =>
          (if x13 = 37 then
           j3 h12
          else
           K1 h12))))))))))
theorem DX12_term_L9 {d : Nat} {K0 : MH → Option (Int × MH)} {K1 : MH → Option (Int × MH)} {r : Int × MH} {h0 hB : MH} (hB0 : KD h0 hB) (hK0 : ∀ (h : MH), LR h → KD hB h → K0 h = some r → RK xs L iX12_term (d + 4) 92 [] [] h (RIo r) h0 r.2) (hK1 : ∀ (h : MH), LR h → KD hB h → K1 h = some r → RK xs L iX12_term (d + 4) 103 [] [] h (RIo r) h0 r.2) : ∀ (f : Nat) (h : MH), LR h → KD hB h → GX12_term_L9 K0 K1 f  h = some r → RK xs L iX12_term (d + 4) 9 [(0, .inr (.inr 334))] [] h (RIo r) h0 r.2 := by
  intro f
  induction f with
  | zero =>
    intro h hL hJ hF
    cases hF
  | succ f ih =>
    intro h hL hJ hF
    unfold GX12_term_L9 at hF
    have hK := hB0.tr hJ
    refine RK.of (RN.blk (ops := [(9, .aload_n 0)]) (pc' := 10) (lv' := [(0, .inr (.inr 334))]) (st' := [.inr (.inr 334)]) (h' := h) (cs := []) (by decide +kernel) rfl trivial) ?_
    obtain ⟨x2, h1, hG, hF⟩ := bd_of hF
    have hq := rcv_ok (as := []) (TO.gk (o_334 hL))
    obtain ⟨hN, hL, hQ⟩ := DX12_see (d := d + 3) hL  hG
    refine RK.of (RN.cv (i := 102) (k := 164) (q2 := iX12_see) (as := [.inr (.inr 334)]) (r := []) (v := some (.inl x2)) (h1 := h1) (by decide +kernel) rfl rfl rfl rfl rfl hq hN) ?_
    have hK := hK.tr hQ
    have hJ := hJ.tr hQ
    refine RK.of (RN.blk (ops := [(13, .bipush 42)]) (pc' := 15) (lv' := [(0, .inr (.inr 334))]) (st' := [.inl 42, .inl x2]) (h' := h1) (cs := []) (by decide +kernel) rfl trivial) ?_
    refine jn_use (fun j3 => ∀ (h4 : MH), LR h4 → KD hB h4 → j3 h4 = some r → RK xs L iX12_term (d + 4) 36 [(0, .inr (.inr 334))] [] h4 (RIo r) h0 r.2) ?_ ?_ hF
    · intro h4 hL hJ hF
      have hK := hB0.tr hJ
      refine RK.of (RN.blk (ops := [(36, .aload_n 0)]) (pc' := 37) (lv' := [(0, .inr (.inr 334))]) (st' := [.inr (.inr 334)]) (h' := h4) (cs := []) (by decide +kernel) rfl trivial) ?_
      refine RK.of (RN.gr (i := 7) (ci := 12) (k := 0) (fn := true) (v := 335) (by decide +kernel) rfl (TO.gk (o_334 hL)) (hL.fa (v := 335) 0 3 400 (o_334 hL) rfl (by decide) rfl (by decide)).1) ?_
      obtain ⟨hc, hF⟩ := gd_of hF
      refine RK.of (RN.blk (ops := [(40, .aload_n 0), (41, .getfield 99), (44, .baload), (45, .bipush 42)]) (pc' := 47) (lv' := [(0, .inr (.inr 334))]) (st' := [.inl 42, .inl (m_rd h4 335 (m_rd h4 334 8))]) (h' := h4) (cs := [GK h4 334 12, GB h4 335 (m_rd h4 334 8)]) (by decide +kernel) rfl ⟨(o_334 hL).gk, (a_335 hL).gb (by decide) hc.1.1 hc.1.2, trivial⟩) ?_
      refine jn_use (fun j5 => ∀ (s6 : Int), j5 s6 = some r → RK xs L iX12_term (d + 4) 74 [(0, .inr (.inr 334))] [.inl s6] h4 (RIo r) h0 r.2) ?_ ?_ hF
      · intro s6 hF
        refine RK.of (RN.blk (ops := [(74, .istore_n 1), (75, .aload_n 0), (76, .dup), (77, .getfield 99), (80, .iconst 1), (81, .iadd), (82, .putfield 99)]) (pc' := 85) (lv' := [(1, .inl s6), (0, .inr (.inr 334))]) (st' := []) (h' := (m_wr h4 334 8 (m_w32 ((m_rd h4 334 8) + 1)))) (cs := [GK h4 334 12, GK h4 334 12]) (by decide +kernel) rfl ⟨(o_334 hL).gk, (o_334 hL).gk, trivial⟩) ?_
        have hL : LR (m_wr h4 334 8 (m_w32 ((m_rd h4 334 8) + 1))) := LR.wf (k := 8) hL (o_334 hL) rfl
        have hK := hK.tr (KD.wr : KD h4 (m_wr h4 334 8 (m_w32 ((m_rd h4 334 8) + 1))))
        have hJ := hJ.tr (KD.wr : KD h4 (m_wr h4 334 8 (m_w32 ((m_rd h4 334 8) + 1))))
        refine RK.of (RN.blk (ops := [(85, .aload_n 0)]) (pc' := 86) (lv' := [(1, .inl s6), (0, .inr (.inr 334))]) (st' := [.inr (.inr 334)]) (h' := (m_wr h4 334 8 (m_w32 ((m_rd h4 334 8) + 1)))) (cs := []) (by decide +kernel) rfl trivial) ?_
        obtain ⟨x8, h7, hG, hF⟩ := bd_of hF
        have hq := rcv_ok (as := []) (TO.gk (o_334 hL))
        obtain ⟨hN, hL, hQ⟩ := DX12_value (d := d) hL  hG
        refine RK.of (RN.cv (i := 183) (k := 177) (q2 := iX12_value) (as := [.inr (.inr 334)]) (r := []) (v := some (.inl x8)) (h1 := h7) (by decide +kernel) rfl rfl rfl rfl rfl hq hN) ?_
        have hK := hK.tr hQ
        have hJ := hJ.tr hQ
        rcases it_of hF with ⟨hb, hF⟩ | ⟨hb, hF⟩
        · refine RK.of (RN.iff (cd := .ne) (off := 5) (tgt := 94) (by decide +kernel) (mif_nen hb)) ?_
          exact RK.sub (hK0 _ hL hJ hF) sub_nil
        · refine RK.of (RN.ift (cd := .ne) (off := 5) (tgt := 94) (by decide +kernel) (mif_ne hb)) ?_
          refine RK.of (RN.blk (ops := [(94, .aload_n 0), (95, .iload_n 1), (96, .iconst 0)]) (pc' := 97) (lv' := [(1, .inl s6), (0, .inr (.inr 334))]) (st' := [.inl 0, .inl s6, .inr (.inr 334)]) (h' := h7) (cs := []) (by decide +kernel) rfl trivial) ?_
          obtain ⟨h9, hG, hF⟩ := bv_of hF
          have hq := rcv_ok (as := [.inl s6, .inl 0]) (TO.gk (o_334 hL))
          obtain ⟨hN, hL, hQ⟩ := DX12_puts (d := d + 3) hL  hG
          refine RK.of (RN.cv (i := 169) (k := 172) (q2 := iX12_puts) (as := [.inr (.inr 334), .inl s6, .inl 0]) (r := []) (v := none) (h1 := h9) (by decide +kernel) rfl rfl rfl rfl rfl hq hN) ?_
          have hK := hK.tr hQ
          have hJ := hJ.tr hQ
          refine RK.of (RN.goto (off := -91) (tgt := 9) (by decide +kernel)) ?_
          exact RK.sub (ih _ hL hJ hF) (sub_cons rfl sub_nil)
      · intro j5 Jj5 hF
        rcases it_of hF with ⟨hb, hF⟩ | ⟨hb, hF⟩
        · refine RK.of (RN.icf (cd := .ne) (off := 7) (tgt := 54) (by decide +kernel) (mif_nen hb)) ?_
          refine RK.of (RN.blk (ops := [(50, .iconst 4)]) (pc' := 51) (lv' := [(0, .inr (.inr 334))]) (st' := [.inl 4]) (h' := h4) (cs := []) (by decide +kernel) rfl trivial) ?_
          refine RK.of (RN.goto (off := 23) (tgt := 74) (by decide +kernel)) ?_
          exact RK.sub (Jj5 _ hF) (sub_cons rfl sub_nil)
        · refine RK.of (RN.ict (cd := .ne) (off := 7) (tgt := 54) (by decide +kernel) (mif_ne hb)) ?_
          refine RK.of (RN.blk (ops := [(54, .aload_n 0)]) (pc' := 55) (lv' := [(0, .inr (.inr 334))]) (st' := [.inr (.inr 334)]) (h' := h4) (cs := []) (by decide +kernel) rfl trivial) ?_
          refine RK.of (RN.gr (i := 7) (ci := 12) (k := 0) (fn := true) (v := 335) (by decide +kernel) rfl (TO.gk (o_334 hL)) (hL.fa (v := 335) 0 3 400 (o_334 hL) rfl (by decide) rfl (by decide)).1) ?_
          obtain ⟨hc, hF⟩ := gd_of hF
          refine RK.of (RN.blk (ops := [(58, .aload_n 0), (59, .getfield 99), (62, .baload), (63, .bipush 47)]) (pc' := 65) (lv' := [(0, .inr (.inr 334))]) (st' := [.inl 47, .inl (m_rd h4 335 (m_rd h4 334 8))]) (h' := h4) (cs := [GK h4 334 12, GB h4 335 (m_rd h4 334 8)]) (by decide +kernel) rfl ⟨(o_334 hL).gk, (a_335 hL).gb (by decide) hc.1.1 hc.1.2, trivial⟩) ?_
          rcases it_of hF with ⟨hb, hF⟩ | ⟨hb, hF⟩
          · refine RK.of (RN.icf (cd := .ne) (off := 7) (tgt := 72) (by decide +kernel) (mif_nen hb)) ?_
            refine RK.of (RN.blk (ops := [(68, .iconst 5)]) (pc' := 69) (lv' := [(0, .inr (.inr 334))]) (st' := [.inl 5]) (h' := h4) (cs := []) (by decide +kernel) rfl trivial) ?_
            refine RK.of (RN.goto (off := 5) (tgt := 74) (by decide +kernel)) ?_
            exact RK.sub (Jj5 _ hF) (sub_cons rfl sub_nil)
          · refine RK.of (RN.ict (cd := .ne) (off := 7) (tgt := 72) (by decide +kernel) (mif_ne hb)) ?_
            refine RK.of (RN.blk (ops := [(72, .bipush 14)]) (pc' := 74) (lv' := [(0, .inr (.inr 334))]) (st' := [.inl 14]) (h' := h4) (cs := []) (by decide +kernel) rfl trivial) ?_
            exact RK.sub (Jj5 _ hF) (sub_cons rfl sub_nil)
    · intro j3 Jj3 hF
      rcases it_of hF with ⟨hb, hF⟩ | ⟨hb, hF⟩
      · refine RK.of (RN.ict (cd := .eq) (off := 21) (tgt := 36) (by decide +kernel) (mif_eq hb)) ?_
        exact RK.sub (Jj3 _ hL hJ hF) (sub_cons rfl sub_nil)
      · refine RK.of (RN.icf (cd := .eq) (off := 21) (tgt := 36) (by decide +kernel) (mif_eqn hb)) ?_
        refine RK.of (RN.blk (ops := [(18, .aload_n 0)]) (pc' := 19) (lv' := [(0, .inr (.inr 334))]) (st' := [.inr (.inr 334)]) (h' := h1) (cs := []) (by decide +kernel) rfl trivial) ?_
        obtain ⟨x11, h10, hG, hF⟩ := bd_of hF
        have hq := rcv_ok (as := []) (TO.gk (o_334 hL))
        obtain ⟨hN, hL, hQ⟩ := DX12_see (d := d + 3) hL  hG
        refine RK.of (RN.cv (i := 102) (k := 164) (q2 := iX12_see) (as := [.inr (.inr 334)]) (r := []) (v := some (.inl x11)) (h1 := h10) (by decide +kernel) rfl rfl rfl rfl rfl hq hN) ?_
        have hK := hK.tr hQ
        have hJ := hJ.tr hQ
        refine RK.of (RN.blk (ops := [(22, .bipush 47)]) (pc' := 24) (lv' := [(0, .inr (.inr 334))]) (st' := [.inl 47, .inl x11]) (h' := h10) (cs := []) (by decide +kernel) rfl trivial) ?_
        rcases it_of hF with ⟨hb, hF⟩ | ⟨hb, hF⟩
        · refine RK.of (RN.ict (cd := .eq) (off := 12) (tgt := 36) (by decide +kernel) (mif_eq hb)) ?_
          exact RK.sub (Jj3 _ hL hJ hF) (sub_cons rfl sub_nil)
        · refine RK.of (RN.icf (cd := .eq) (off := 12) (tgt := 36) (by decide +kernel) (mif_eqn hb)) ?_
          refine RK.of (RN.blk (ops := [(27, .aload_n 0)]) (pc' := 28) (lv' := [(0, .inr (.inr 334))]) (st' := [.inr (.inr 334)]) (h' := h10) (cs := []) (by decide +kernel) rfl trivial) ?_
          obtain ⟨x13, h12, hG, hF⟩ := bd_of hF
          have hq := rcv_ok (as := []) (TO.gk (o_334 hL))
          obtain ⟨hN, hL, hQ⟩ := DX12_see (d := d + 3) hL  hG
          refine RK.of (RN.cv (i := 102) (k := 164) (q2 := iX12_see) (as := [.inr (.inr 334)]) (r := []) (v := some (.inl x13)) (h1 := h12) (by decide +kernel) rfl rfl rfl rfl rfl hq hN) ?_
          have hK := hK.tr hQ
          have hJ := hJ.tr hQ
          refine RK.of (RN.blk (ops := [(31, .bipush 37)]) (pc' := 33) (lv' := [(0, .inr (.inr 334))]) (st' := [.inl 37, .inl x13]) (h' := h12) (cs := []) (by decide +kernel) rfl trivial) ?_
          rcases it_of hF with ⟨hb, hF⟩ | ⟨hb, hF⟩
          · refine RK.of (RN.icf (cd := .ne) (off := 70) (tgt := 103) (by decide +kernel) (mif_nen hb)) ?_
            exact RK.sub (Jj3 _ hL hJ hF) (sub_cons rfl sub_nil)
          · refine RK.of (RN.ict (cd := .ne) (off := 70) (tgt := 103) (by decide +kernel) (mif_ne hb)) ?_
            exact RK.sub (hK1 _ hL hJ hF) sub_nil
noncomputable def GX12_term (h : MH) : Option (Int × MH) :=
  (bd (GX12_value h) (fun x2 h1 =>
   (if x2 = 0 then
    some (0, h1)
   else
    GX12_term_L9 (fun h3 =>
     some (0, h3)) (fun h4 =>
     some (1, h4)) FU h1)))
theorem DX12_term {d : Nat} {h : MH} {r : Int × MH} (hL : LR h) (hF : GX12_term h = some r) : RN xs L iX12_term (d + 4) 0 (lvE 0 [.inr (.inr 334)]) [] h (RIo r) ∧ LR r.2 ∧ KD h r.2 := by
  unfold GX12_term at hF
  have hK : KD h h := KD.rf
  show RK xs L iX12_term (d + 4) 0 (lvE 0 [.inr (.inr 334)]) [] h (RIo r) h r.2
  refine RK.of (RN.blk (ops := [(0, .aload_n 0)]) (pc' := 1) (lv' := [(0, .inr (.inr 334))]) (st' := [.inr (.inr 334)]) (h' := h) (cs := []) (by decide +kernel) rfl trivial) ?_
  obtain ⟨x2, h1, hG, hF⟩ := bd_of hF
  have hq := rcv_ok (as := []) (TO.gk (o_334 hL))
  obtain ⟨hN, hL, hQ⟩ := DX12_value (d := d) hL  hG
  refine RK.of (RN.cv (i := 183) (k := 177) (q2 := iX12_value) (as := [.inr (.inr 334)]) (r := []) (v := some (.inl x2)) (h1 := h1) (by decide +kernel) rfl rfl rfl rfl rfl hq hN) ?_
  have hK := hK.tr hQ
  rcases it_of hF with ⟨hb, hF⟩ | ⟨hb, hF⟩
  · refine RK.of (RN.iff (cd := .ne) (off := 5) (tgt := 9) (by decide +kernel) (mif_nen hb)) ?_
    refine RK.of (RN.blk (ops := [(7, .iconst 0)]) (pc' := 8) (lv' := [(0, .inr (.inr 334))]) (st' := [.inl 0]) (h' := h1) (cs := []) (by decide +kernel) rfl trivial) ?_
    exact RK.zR (by decide +kernel) rfl (Or.inl rfl) hL hK hF
  · refine RK.of (RN.ift (cd := .ne) (off := 5) (tgt := 9) (by decide +kernel) (mif_ne hb)) ?_
    refine RK.sub (DX12_term_L9 hK ?_ ?_ _ _ hL KD.rf hF) (sub_cons rfl sub_nil)
    · intro h3 hL hq hF
      have hK := hK.tr hq
      refine RK.of (RN.blk (ops := [(92, .iconst 0)]) (pc' := 93) (lv' := []) (st' := [.inl 0]) (h' := h3) (cs := []) (by decide +kernel) rfl trivial) ?_
      exact RK.zR (by decide +kernel) rfl (Or.inl rfl) hL hK hF
    · intro h4 hL hq hF
      have hK := hK.tr hq
      refine RK.of (RN.blk (ops := [(103, .iconst 1)]) (pc' := 104) (lv' := []) (st' := [.inl 1]) (h' := h4) (cs := []) (by decide +kernel) rfl trivial) ?_
      exact RK.zR (by decide +kernel) rfl (Or.inr rfl) hL hK hF
noncomputable def GX12_sum_L9 (K0 : MH → Option (Int × MH)) (K1 : MH → Option (Int × MH)) : Nat → MH → Option (Int × MH)
  | 0, _ => none
  | f + 1, h =>
    (bd (GX12_see h) (fun x2 h1 =>
     jn (fun (h4 : MH) =>
      gd [IB (m_rd h4 334 8) 400] (
       jn (fun (s6 : Int) =>
        (bd (GX12_term (m_wr h4 334 8 (m_w32 ((m_rd h4 334 8) + 1)))) (fun x8 h7 =>
         (if x8 = 0 then
          K0 h7
         else
          (bv (GX12_puts s6 0 h7) (fun h9 =>
           GX12_sum_L9 K0 K1 f h9)))))) (fun j5 =>
        (if (m_rd h4 335 (m_rd h4 334 8)) = 43 then
         j5 2
        else
         j5 3)))) (fun j3 =>
      (if x2 = 43 then
       j3 h1
      else
       (bd (GX12_see h1) (fun x11 h10 =>
        (if x11 = 45 then
         j3 h10
        else
         K1 h10)))))))
theorem DX12_sum_L9 {d : Nat} {K0 : MH → Option (Int × MH)} {K1 : MH → Option (Int × MH)} {r : Int × MH} {h0 hB : MH} (hB0 : KD h0 hB) (hK0 : ∀ (h : MH), LR h → KD hB h → K0 h = some r → RK xs L iX12_sum (d + 5) 64 [] [] h (RIo r) h0 r.2) (hK1 : ∀ (h : MH), LR h → KD hB h → K1 h = some r → RK xs L iX12_sum (d + 5) 75 [] [] h (RIo r) h0 r.2) : ∀ (f : Nat) (h : MH), LR h → KD hB h → GX12_sum_L9 K0 K1 f  h = some r → RK xs L iX12_sum (d + 5) 9 [(0, .inr (.inr 334))] [] h (RIo r) h0 r.2 := by
  intro f
  induction f with
  | zero =>
    intro h hL hJ hF
    cases hF
  | succ f ih =>
    intro h hL hJ hF
    unfold GX12_sum_L9 at hF
    have hK := hB0.tr hJ
    refine RK.of (RN.blk (ops := [(9, .aload_n 0)]) (pc' := 10) (lv' := [(0, .inr (.inr 334))]) (st' := [.inr (.inr 334)]) (h' := h) (cs := []) (by decide +kernel) rfl trivial) ?_
    obtain ⟨x2, h1, hG, hF⟩ := bd_of hF
    have hq := rcv_ok (as := []) (TO.gk (o_334 hL))
    obtain ⟨hN, hL, hQ⟩ := DX12_see (d := d + 4) hL  hG
    refine RK.of (RN.cv (i := 102) (k := 164) (q2 := iX12_see) (as := [.inr (.inr 334)]) (r := []) (v := some (.inl x2)) (h1 := h1) (by decide +kernel) rfl rfl rfl rfl rfl hq hN) ?_
    have hK := hK.tr hQ
    have hJ := hJ.tr hQ
    refine RK.of (RN.blk (ops := [(13, .bipush 43)]) (pc' := 15) (lv' := [(0, .inr (.inr 334))]) (st' := [.inl 43, .inl x2]) (h' := h1) (cs := []) (by decide +kernel) rfl trivial) ?_
    refine jn_use (fun j3 => ∀ (h4 : MH), LR h4 → KD hB h4 → j3 h4 = some r → RK xs L iX12_sum (d + 5) 27 [(0, .inr (.inr 334))] [] h4 (RIo r) h0 r.2) ?_ ?_ hF
    · intro h4 hL hJ hF
      have hK := hB0.tr hJ
      refine RK.of (RN.blk (ops := [(27, .aload_n 0)]) (pc' := 28) (lv' := [(0, .inr (.inr 334))]) (st' := [.inr (.inr 334)]) (h' := h4) (cs := []) (by decide +kernel) rfl trivial) ?_
      refine RK.of (RN.gr (i := 7) (ci := 12) (k := 0) (fn := true) (v := 335) (by decide +kernel) rfl (TO.gk (o_334 hL)) (hL.fa (v := 335) 0 3 400 (o_334 hL) rfl (by decide) rfl (by decide)).1) ?_
      obtain ⟨hc, hF⟩ := gd_of hF
      refine RK.of (RN.blk (ops := [(31, .aload_n 0), (32, .getfield 99), (35, .baload), (36, .bipush 43)]) (pc' := 38) (lv' := [(0, .inr (.inr 334))]) (st' := [.inl 43, .inl (m_rd h4 335 (m_rd h4 334 8))]) (h' := h4) (cs := [GK h4 334 12, GB h4 335 (m_rd h4 334 8)]) (by decide +kernel) rfl ⟨(o_334 hL).gk, (a_335 hL).gb (by decide) hc.1.1 hc.1.2, trivial⟩) ?_
      refine jn_use (fun j5 => ∀ (s6 : Int), j5 s6 = some r → RK xs L iX12_sum (d + 5) 46 [(0, .inr (.inr 334))] [.inl s6] h4 (RIo r) h0 r.2) ?_ ?_ hF
      · intro s6 hF
        refine RK.of (RN.blk (ops := [(46, .istore_n 1), (47, .aload_n 0), (48, .dup), (49, .getfield 99), (52, .iconst 1), (53, .iadd), (54, .putfield 99)]) (pc' := 57) (lv' := [(1, .inl s6), (0, .inr (.inr 334))]) (st' := []) (h' := (m_wr h4 334 8 (m_w32 ((m_rd h4 334 8) + 1)))) (cs := [GK h4 334 12, GK h4 334 12]) (by decide +kernel) rfl ⟨(o_334 hL).gk, (o_334 hL).gk, trivial⟩) ?_
        have hL : LR (m_wr h4 334 8 (m_w32 ((m_rd h4 334 8) + 1))) := LR.wf (k := 8) hL (o_334 hL) rfl
        have hK := hK.tr (KD.wr : KD h4 (m_wr h4 334 8 (m_w32 ((m_rd h4 334 8) + 1))))
        have hJ := hJ.tr (KD.wr : KD h4 (m_wr h4 334 8 (m_w32 ((m_rd h4 334 8) + 1))))
        refine RK.of (RN.blk (ops := [(57, .aload_n 0)]) (pc' := 58) (lv' := [(1, .inl s6), (0, .inr (.inr 334))]) (st' := [.inr (.inr 334)]) (h' := (m_wr h4 334 8 (m_w32 ((m_rd h4 334 8) + 1)))) (cs := []) (by decide +kernel) rfl trivial) ?_
        obtain ⟨x8, h7, hG, hF⟩ := bd_of hF
        have hq := rcv_ok (as := []) (TO.gk (o_334 hL))
        obtain ⟨hN, hL, hQ⟩ := DX12_term (d := d) hL  hG
        refine RK.of (RN.cv (i := 187) (k := 178) (q2 := iX12_term) (as := [.inr (.inr 334)]) (r := []) (v := some (.inl x8)) (h1 := h7) (by decide +kernel) rfl rfl rfl rfl rfl hq hN) ?_
        have hK := hK.tr hQ
        have hJ := hJ.tr hQ
        rcases it_of hF with ⟨hb, hF⟩ | ⟨hb, hF⟩
        · refine RK.of (RN.iff (cd := .ne) (off := 5) (tgt := 66) (by decide +kernel) (mif_nen hb)) ?_
          exact RK.sub (hK0 _ hL hJ hF) sub_nil
        · refine RK.of (RN.ift (cd := .ne) (off := 5) (tgt := 66) (by decide +kernel) (mif_ne hb)) ?_
          refine RK.of (RN.blk (ops := [(66, .aload_n 0), (67, .iload_n 1), (68, .iconst 0)]) (pc' := 69) (lv' := [(1, .inl s6), (0, .inr (.inr 334))]) (st' := [.inl 0, .inl s6, .inr (.inr 334)]) (h' := h7) (cs := []) (by decide +kernel) rfl trivial) ?_
          obtain ⟨h9, hG, hF⟩ := bv_of hF
          have hq := rcv_ok (as := [.inl s6, .inl 0]) (TO.gk (o_334 hL))
          obtain ⟨hN, hL, hQ⟩ := DX12_puts (d := d + 4) hL  hG
          refine RK.of (RN.cv (i := 169) (k := 172) (q2 := iX12_puts) (as := [.inr (.inr 334), .inl s6, .inl 0]) (r := []) (v := none) (h1 := h9) (by decide +kernel) rfl rfl rfl rfl rfl hq hN) ?_
          have hK := hK.tr hQ
          have hJ := hJ.tr hQ
          refine RK.of (RN.goto (off := -63) (tgt := 9) (by decide +kernel)) ?_
          exact RK.sub (ih _ hL hJ hF) (sub_cons rfl sub_nil)
      · intro j5 Jj5 hF
        rcases it_of hF with ⟨hb, hF⟩ | ⟨hb, hF⟩
        · refine RK.of (RN.icf (cd := .ne) (off := 7) (tgt := 45) (by decide +kernel) (mif_nen hb)) ?_
          refine RK.of (RN.blk (ops := [(41, .iconst 2)]) (pc' := 42) (lv' := [(0, .inr (.inr 334))]) (st' := [.inl 2]) (h' := h4) (cs := []) (by decide +kernel) rfl trivial) ?_
          refine RK.of (RN.goto (off := 4) (tgt := 46) (by decide +kernel)) ?_
          exact RK.sub (Jj5 _ hF) (sub_cons rfl sub_nil)
        · refine RK.of (RN.ict (cd := .ne) (off := 7) (tgt := 45) (by decide +kernel) (mif_ne hb)) ?_
          refine RK.of (RN.blk (ops := [(45, .iconst 3)]) (pc' := 46) (lv' := [(0, .inr (.inr 334))]) (st' := [.inl 3]) (h' := h4) (cs := []) (by decide +kernel) rfl trivial) ?_
          exact RK.sub (Jj5 _ hF) (sub_cons rfl sub_nil)
    · intro j3 Jj3 hF
      rcases it_of hF with ⟨hb, hF⟩ | ⟨hb, hF⟩
      · refine RK.of (RN.ict (cd := .eq) (off := 12) (tgt := 27) (by decide +kernel) (mif_eq hb)) ?_
        exact RK.sub (Jj3 _ hL hJ hF) (sub_cons rfl sub_nil)
      · refine RK.of (RN.icf (cd := .eq) (off := 12) (tgt := 27) (by decide +kernel) (mif_eqn hb)) ?_
        refine RK.of (RN.blk (ops := [(18, .aload_n 0)]) (pc' := 19) (lv' := [(0, .inr (.inr 334))]) (st' := [.inr (.inr 334)]) (h' := h1) (cs := []) (by decide +kernel) rfl trivial) ?_
        obtain ⟨x11, h10, hG, hF⟩ := bd_of hF
        have hq := rcv_ok (as := []) (TO.gk (o_334 hL))
        obtain ⟨hN, hL, hQ⟩ := DX12_see (d := d + 4) hL  hG
        refine RK.of (RN.cv (i := 102) (k := 164) (q2 := iX12_see) (as := [.inr (.inr 334)]) (r := []) (v := some (.inl x11)) (h1 := h10) (by decide +kernel) rfl rfl rfl rfl rfl hq hN) ?_
        have hK := hK.tr hQ
        have hJ := hJ.tr hQ
        refine RK.of (RN.blk (ops := [(22, .bipush 45)]) (pc' := 24) (lv' := [(0, .inr (.inr 334))]) (st' := [.inl 45, .inl x11]) (h' := h10) (cs := []) (by decide +kernel) rfl trivial) ?_
        rcases it_of hF with ⟨hb, hF⟩ | ⟨hb, hF⟩
        · refine RK.of (RN.icf (cd := .ne) (off := 51) (tgt := 75) (by decide +kernel) (mif_nen hb)) ?_
          exact RK.sub (Jj3 _ hL hJ hF) (sub_cons rfl sub_nil)
        · refine RK.of (RN.ict (cd := .ne) (off := 51) (tgt := 75) (by decide +kernel) (mif_ne hb)) ?_
          exact RK.sub (hK1 _ hL hJ hF) sub_nil
noncomputable def GX12_sum (h : MH) : Option (Int × MH) :=
  (bd (GX12_term h) (fun x2 h1 =>
   (if x2 = 0 then
    some (0, h1)
   else
    GX12_sum_L9 (fun h3 =>
     some (0, h3)) (fun h4 =>
     some (1, h4)) FU h1)))
theorem DX12_sum {d : Nat} {h : MH} {r : Int × MH} (hL : LR h) (hF : GX12_sum h = some r) : RN xs L iX12_sum (d + 5) 0 (lvE 0 [.inr (.inr 334)]) [] h (RIo r) ∧ LR r.2 ∧ KD h r.2 := by
  unfold GX12_sum at hF
  have hK : KD h h := KD.rf
  show RK xs L iX12_sum (d + 5) 0 (lvE 0 [.inr (.inr 334)]) [] h (RIo r) h r.2
  refine RK.of (RN.blk (ops := [(0, .aload_n 0)]) (pc' := 1) (lv' := [(0, .inr (.inr 334))]) (st' := [.inr (.inr 334)]) (h' := h) (cs := []) (by decide +kernel) rfl trivial) ?_
  obtain ⟨x2, h1, hG, hF⟩ := bd_of hF
  have hq := rcv_ok (as := []) (TO.gk (o_334 hL))
  obtain ⟨hN, hL, hQ⟩ := DX12_term (d := d) hL  hG
  refine RK.of (RN.cv (i := 187) (k := 178) (q2 := iX12_term) (as := [.inr (.inr 334)]) (r := []) (v := some (.inl x2)) (h1 := h1) (by decide +kernel) rfl rfl rfl rfl rfl hq hN) ?_
  have hK := hK.tr hQ
  rcases it_of hF with ⟨hb, hF⟩ | ⟨hb, hF⟩
  · refine RK.of (RN.iff (cd := .ne) (off := 5) (tgt := 9) (by decide +kernel) (mif_nen hb)) ?_
    refine RK.of (RN.blk (ops := [(7, .iconst 0)]) (pc' := 8) (lv' := [(0, .inr (.inr 334))]) (st' := [.inl 0]) (h' := h1) (cs := []) (by decide +kernel) rfl trivial) ?_
    exact RK.zR (by decide +kernel) rfl (Or.inl rfl) hL hK hF
  · refine RK.of (RN.ift (cd := .ne) (off := 5) (tgt := 9) (by decide +kernel) (mif_ne hb)) ?_
    refine RK.sub (DX12_sum_L9 hK ?_ ?_ _ _ hL KD.rf hF) (sub_cons rfl sub_nil)
    · intro h3 hL hq hF
      have hK := hK.tr hq
      refine RK.of (RN.blk (ops := [(64, .iconst 0)]) (pc' := 65) (lv' := []) (st' := [.inl 0]) (h' := h3) (cs := []) (by decide +kernel) rfl trivial) ?_
      exact RK.zR (by decide +kernel) rfl (Or.inl rfl) hL hK hF
    · intro h4 hL hq hF
      have hK := hK.tr hq
      refine RK.of (RN.blk (ops := [(75, .iconst 1)]) (pc' := 76) (lv' := []) (st' := [.inl 1]) (h' := h4) (cs := []) (by decide +kernel) rfl trivial) ?_
      exact RK.zR (by decide +kernel) rfl (Or.inr rfl) hL hK hF
noncomputable def GX12_compare (h : MH) : Option (Int × MH) :=
  (bd (GX12_sum h) (fun x2 h1 =>
   (if x2 = 0 then
    some (0, h1)
   else
    (bd (GX12_see h1) (fun x4 h3 =>
     jn (
      jn (fun (s7 : Int) =>
       jn (fun (h9 : MH) =>
        (bd (GX12_makes (m_rd h3 334 8) h9) (fun x11 h10 =>
         (if x11 = 0 then
          some (0, h10)
         else
          jn (fun (s13 : Int) =>
           (bd (GX12_sum h10) (fun x15 h14 =>
            (if x15 = 0 then
             some (0, h14)
            else
             (bv (GX12_puts (m_w32 (6 + s13)) 0 h14) (fun h16 =>
              some (1, h16))))))) (fun j12 =>
           (if x4 = 60 then
            (if s7 = 0 then
             j12 0
            else
             j12 1)
           else
            (if x4 = 61 then
             j12 2
            else
             (if s7 = 0 then
              j12 4
             else
              j12 3)))))))) (fun j8 =>
        (if s7 = 0 then
         j8 (m_wr h3 334 8 (m_w32 ((m_rd h3 334 8) + 1)))
        else
         j8 (m_wr (m_wr h3 334 8 (m_w32 ((m_rd h3 334 8) + 1))) 334 8 (m_w32 ((m_rd (m_wr h3 334 8 (m_w32 ((m_rd h3 334 8) + 1))) 334 8) + 1)))))) (fun j6 =>
       jn (
        j6 0) (fun j17 =>
        (if x4 = 61 then
         j17
        else
         (if (m_rd (m_wr h3 334 8 (m_w32 ((m_rd h3 334 8) + 1))) 334 8) < (m_rd (m_wr h3 334 8 (m_w32 ((m_rd h3 334 8) + 1))) 334 1) then
          gd [IB (m_rd (m_wr h3 334 8 (m_w32 ((m_rd h3 334 8) + 1))) 334 8) 400] (
           (if (m_rd (m_wr h3 334 8 (m_w32 ((m_rd h3 334 8) + 1))) 335 (m_rd (m_wr h3 334 8 (m_w32 ((m_rd h3 334 8) + 1))) 334 8)) = 61 then
            j6 1
           else
            j17))
         else
          j17))))) (fun j5 =>
      (if x4 = 60 then
       j5
      else
       (if x4 = 61 then
        j5
       else
        (if x4 = 62 then
         j5
        else
         (bd (GX12_fails 0 (m_rd h3 334 8) h3) (fun x19 h18 =>
          gd [GT x19] (some (x19, h18)))))))))))))
theorem DX12_compare {d : Nat} {h : MH} {r : Int × MH} (hL : LR h) (hF : GX12_compare h = some r) : RN xs L iX12_compare (d + 6) 0 (lvE 0 [.inr (.inr 334)]) [] h (RIo r) ∧ LR r.2 ∧ KD h r.2 := by
  unfold GX12_compare at hF
  have hK : KD h h := KD.rf
  show RK xs L iX12_compare (d + 6) 0 (lvE 0 [.inr (.inr 334)]) [] h (RIo r) h r.2
  refine RK.of (RN.blk (ops := [(0, .aload_n 0)]) (pc' := 1) (lv' := [(0, .inr (.inr 334))]) (st' := [.inr (.inr 334)]) (h' := h) (cs := []) (by decide +kernel) rfl trivial) ?_
  obtain ⟨x2, h1, hG, hF⟩ := bd_of hF
  have hq := rcv_ok (as := []) (TO.gk (o_334 hL))
  obtain ⟨hN, hL, hQ⟩ := DX12_sum (d := d) hL  hG
  refine RK.of (RN.cv (i := 190) (k := 179) (q2 := iX12_sum) (as := [.inr (.inr 334)]) (r := []) (v := some (.inl x2)) (h1 := h1) (by decide +kernel) rfl rfl rfl rfl rfl hq hN) ?_
  have hK := hK.tr hQ
  rcases it_of hF with ⟨hb, hF⟩ | ⟨hb, hF⟩
  · refine RK.of (RN.iff (cd := .ne) (off := 5) (tgt := 9) (by decide +kernel) (mif_nen hb)) ?_
    refine RK.of (RN.blk (ops := [(7, .iconst 0)]) (pc' := 8) (lv' := [(0, .inr (.inr 334))]) (st' := [.inl 0]) (h' := h1) (cs := []) (by decide +kernel) rfl trivial) ?_
    exact RK.zR (by decide +kernel) rfl (Or.inl rfl) hL hK hF
  · refine RK.of (RN.ift (cd := .ne) (off := 5) (tgt := 9) (by decide +kernel) (mif_ne hb)) ?_
    refine RK.of (RN.blk (ops := [(9, .aload_n 0)]) (pc' := 10) (lv' := [(0, .inr (.inr 334))]) (st' := [.inr (.inr 334)]) (h' := h1) (cs := []) (by decide +kernel) rfl trivial) ?_
    obtain ⟨x4, h3, hG, hF⟩ := bd_of hF
    have hq := rcv_ok (as := []) (TO.gk (o_334 hL))
    obtain ⟨hN, hL, hQ⟩ := DX12_see (d := d + 5) hL  hG
    refine RK.of (RN.cv (i := 102) (k := 164) (q2 := iX12_see) (as := [.inr (.inr 334)]) (r := []) (v := some (.inl x4)) (h1 := h3) (by decide +kernel) rfl rfl rfl rfl rfl hq hN) ?_
    have hK := hK.tr hQ
    refine RK.of (RN.blk (ops := [(13, .istore_n 1), (14, .aload_n 0), (15, .getfield 99), (18, .istore_n 2), (19, .iload_n 1), (20, .bipush 60)]) (pc' := 22) (lv' := [(2, .inl (m_rd h3 334 8)), (1, .inl x4), (0, .inr (.inr 334))]) (st' := [.inl 60, .inl x4]) (h' := h3) (cs := [GK h3 334 12]) (by decide +kernel) rfl ⟨(o_334 hL).gk, trivial⟩) ?_
    refine jn_use (fun j5 => j5 = some r → RK xs L iX12_compare (d + 6) 44 [(0, .inr (.inr 334)), (1, .inl x4), (2, .inl (m_rd h3 334 8))] [] h3 (RIo r) h r.2) ?_ ?_ hF
    · intro  hF
      refine RK.of (RN.blk (ops := [(44, .aload_n 0), (45, .dup), (46, .getfield 99), (49, .iconst 1), (50, .iadd), (51, .putfield 99)]) (pc' := 54) (lv' := [(0, .inr (.inr 334)), (1, .inl x4), (2, .inl (m_rd h3 334 8))]) (st' := []) (h' := (m_wr h3 334 8 (m_w32 ((m_rd h3 334 8) + 1)))) (cs := [GK h3 334 12, GK h3 334 12]) (by decide +kernel) rfl ⟨(o_334 hL).gk, (o_334 hL).gk, trivial⟩) ?_
      have hL : LR (m_wr h3 334 8 (m_w32 ((m_rd h3 334 8) + 1))) := LR.wf (k := 8) hL (o_334 hL) rfl
      have hK := hK.tr (KD.wr : KD h3 (m_wr h3 334 8 (m_w32 ((m_rd h3 334 8) + 1))))
      refine RK.of (RN.blk (ops := [(54, .iload_n 1), (55, .bipush 61)]) (pc' := 57) (lv' := [(0, .inr (.inr 334)), (1, .inl x4), (2, .inl (m_rd h3 334 8))]) (st' := [.inl 61, .inl x4]) (h' := (m_wr h3 334 8 (m_w32 ((m_rd h3 334 8) + 1)))) (cs := []) (by decide +kernel) rfl trivial) ?_
      refine jn_use (fun j6 => ∀ (s7 : Int), j6 s7 = some r → RK xs L iX12_compare (d + 6) 90 [(0, .inr (.inr 334)), (1, .inl x4), (2, .inl (m_rd h3 334 8))] [.inl s7] (m_wr h3 334 8 (m_w32 ((m_rd h3 334 8) + 1))) (RIo r) h r.2) ?_ ?_ hF
      · intro s7 hF
        refine RK.of (RN.blk (ops := [(90, .istore_n 3), (91, .iload_n 3)]) (pc' := 92) (lv' := [(3, .inl s7), (0, .inr (.inr 334)), (1, .inl x4), (2, .inl (m_rd h3 334 8))]) (st' := [.inl s7]) (h' := (m_wr h3 334 8 (m_w32 ((m_rd h3 334 8) + 1)))) (cs := []) (by decide +kernel) rfl trivial) ?_
        refine jn_use (fun j8 => ∀ (h9 : MH), LR h9 → KD h h9 → j8 h9 = some r → RK xs L iX12_compare (d + 6) 105 [(0, .inr (.inr 334)), (1, .inl x4), (2, .inl (m_rd h3 334 8)), (3, .inl s7)] [] h9 (RIo r) h r.2) ?_ ?_ hF
        · intro h9 hL hK hF
          refine RK.of (RN.blk (ops := [(105, .aload_n 0), (106, .iload_n 2)]) (pc' := 107) (lv' := [(0, .inr (.inr 334)), (1, .inl x4), (2, .inl (m_rd h3 334 8)), (3, .inl s7)]) (st' := [.inl (m_rd h3 334 8), .inr (.inr 334)]) (h' := h9) (cs := []) (by decide +kernel) rfl trivial) ?_
          obtain ⟨x11, h10, hG, hF⟩ := bd_of hF
          have hq := rcv_ok (as := [.inl (m_rd h3 334 8)]) (TO.gk (o_334 hL))
          obtain ⟨hN, hL, hQ⟩ := DX12_makes (d := d + 4) hL  hG
          refine RK.of (RN.cv (i := 177) (k := 173) (q2 := iX12_makes) (as := [.inr (.inr 334), .inl (m_rd h3 334 8)]) (r := []) (v := some (.inl x11)) (h1 := h10) (by decide +kernel) rfl rfl rfl rfl rfl hq hN) ?_
          have hK := hK.tr hQ
          rcases it_of hF with ⟨hb, hF⟩ | ⟨hb, hF⟩
          · refine RK.of (RN.iff (cd := .ne) (off := 5) (tgt := 115) (by decide +kernel) (mif_nen hb)) ?_
            refine RK.of (RN.blk (ops := [(113, .iconst 0)]) (pc' := 114) (lv' := [(0, .inr (.inr 334)), (1, .inl x4), (2, .inl (m_rd h3 334 8)), (3, .inl s7)]) (st' := [.inl 0]) (h' := h10) (cs := []) (by decide +kernel) rfl trivial) ?_
            exact RK.zR (by decide +kernel) rfl (Or.inl rfl) hL hK hF
          · refine RK.of (RN.ift (cd := .ne) (off := 5) (tgt := 115) (by decide +kernel) (mif_ne hb)) ?_
            refine RK.of (RN.blk (ops := [(115, .iload_n 1), (116, .bipush 60)]) (pc' := 118) (lv' := [(0, .inr (.inr 334)), (1, .inl x4), (2, .inl (m_rd h3 334 8)), (3, .inl s7)]) (st' := [.inl 60, .inl x4]) (h' := h10) (cs := []) (by decide +kernel) rfl trivial) ?_
            refine jn_use (fun j12 => ∀ (s13 : Int), j12 s13 = some r → RK xs L iX12_compare (d + 6) 152 [(0, .inr (.inr 334))] [.inl s13] h10 (RIo r) h r.2) ?_ ?_ hF
            · intro s13 hF
              refine RK.of (RN.blk (ops := [(152, .istore 4), (154, .aload_n 0)]) (pc' := 155) (lv' := [(4, .inl s13), (0, .inr (.inr 334))]) (st' := [.inr (.inr 334)]) (h' := h10) (cs := []) (by decide +kernel) rfl trivial) ?_
              obtain ⟨x15, h14, hG, hF⟩ := bd_of hF
              have hq := rcv_ok (as := []) (TO.gk (o_334 hL))
              obtain ⟨hN, hL, hQ⟩ := DX12_sum (d := d) hL  hG
              refine RK.of (RN.cv (i := 190) (k := 179) (q2 := iX12_sum) (as := [.inr (.inr 334)]) (r := []) (v := some (.inl x15)) (h1 := h14) (by decide +kernel) rfl rfl rfl rfl rfl hq hN) ?_
              have hK := hK.tr hQ
              rcases it_of hF with ⟨hb, hF⟩ | ⟨hb, hF⟩
              · refine RK.of (RN.iff (cd := .ne) (off := 5) (tgt := 163) (by decide +kernel) (mif_nen hb)) ?_
                refine RK.of (RN.blk (ops := [(161, .iconst 0)]) (pc' := 162) (lv' := [(4, .inl s13), (0, .inr (.inr 334))]) (st' := [.inl 0]) (h' := h14) (cs := []) (by decide +kernel) rfl trivial) ?_
                exact RK.zR (by decide +kernel) rfl (Or.inl rfl) hL hK hF
              · refine RK.of (RN.ift (cd := .ne) (off := 5) (tgt := 163) (by decide +kernel) (mif_ne hb)) ?_
                refine RK.of (RN.blk (ops := [(163, .aload_n 0), (164, .bipush 6), (166, .iload 4), (168, .iadd), (169, .iconst 0)]) (pc' := 170) (lv' := [(4, .inl s13), (0, .inr (.inr 334))]) (st' := [.inl 0, .inl (m_w32 (6 + s13)), .inr (.inr 334)]) (h' := h14) (cs := []) (by decide +kernel) rfl trivial) ?_
                obtain ⟨h16, hG, hF⟩ := bv_of hF
                have hq := rcv_ok (as := [.inl (m_w32 (6 + s13)), .inl 0]) (TO.gk (o_334 hL))
                obtain ⟨hN, hL, hQ⟩ := DX12_puts (d := d + 5) hL  hG
                refine RK.of (RN.cv (i := 169) (k := 172) (q2 := iX12_puts) (as := [.inr (.inr 334), .inl (m_w32 (6 + s13)), .inl 0]) (r := []) (v := none) (h1 := h16) (by decide +kernel) rfl rfl rfl rfl rfl hq hN) ?_
                have hK := hK.tr hQ
                refine RK.of (RN.blk (ops := [(173, .iconst 1)]) (pc' := 174) (lv' := [(4, .inl s13), (0, .inr (.inr 334))]) (st' := [.inl 1]) (h' := h16) (cs := []) (by decide +kernel) rfl trivial) ?_
                exact RK.zR (by decide +kernel) rfl (Or.inr rfl) hL hK hF
            · intro j12 Jj12 hF
              rcases it_of hF with ⟨hb, hF⟩ | ⟨hb, hF⟩
              · refine RK.of (RN.icf (cd := .ne) (off := 15) (tgt := 133) (by decide +kernel) (mif_nen hb)) ?_
                refine RK.of (RN.blk (ops := [(121, .iload_n 3)]) (pc' := 122) (lv' := [(0, .inr (.inr 334)), (1, .inl x4), (2, .inl (m_rd h3 334 8)), (3, .inl s7)]) (st' := [.inl s7]) (h' := h10) (cs := []) (by decide +kernel) rfl trivial) ?_
                rcases it_of hF with ⟨hb, hF⟩ | ⟨hb, hF⟩
                · refine RK.of (RN.ift (cd := .eq) (off := 7) (tgt := 129) (by decide +kernel) (mif_eq hb)) ?_
                  refine RK.of (RN.blk (ops := [(129, .iconst 0)]) (pc' := 130) (lv' := [(0, .inr (.inr 334)), (1, .inl x4), (2, .inl (m_rd h3 334 8)), (3, .inl s7)]) (st' := [.inl 0]) (h' := h10) (cs := []) (by decide +kernel) rfl trivial) ?_
                  refine RK.of (RN.goto (off := 22) (tgt := 152) (by decide +kernel)) ?_
                  exact RK.sub (Jj12 _ hF) (sub_cons rfl sub_nil)
                · refine RK.of (RN.iff (cd := .eq) (off := 7) (tgt := 129) (by decide +kernel) (mif_eqn hb)) ?_
                  refine RK.of (RN.blk (ops := [(125, .iconst 1)]) (pc' := 126) (lv' := [(0, .inr (.inr 334)), (1, .inl x4), (2, .inl (m_rd h3 334 8)), (3, .inl s7)]) (st' := [.inl 1]) (h' := h10) (cs := []) (by decide +kernel) rfl trivial) ?_
                  refine RK.of (RN.goto (off := 26) (tgt := 152) (by decide +kernel)) ?_
                  exact RK.sub (Jj12 _ hF) (sub_cons rfl sub_nil)
              · refine RK.of (RN.ict (cd := .ne) (off := 15) (tgt := 133) (by decide +kernel) (mif_ne hb)) ?_
                refine RK.of (RN.blk (ops := [(133, .iload_n 1), (134, .bipush 61)]) (pc' := 136) (lv' := [(0, .inr (.inr 334)), (1, .inl x4), (2, .inl (m_rd h3 334 8)), (3, .inl s7)]) (st' := [.inl 61, .inl x4]) (h' := h10) (cs := []) (by decide +kernel) rfl trivial) ?_
                rcases it_of hF with ⟨hb, hF⟩ | ⟨hb, hF⟩
                · refine RK.of (RN.icf (cd := .ne) (off := 7) (tgt := 143) (by decide +kernel) (mif_nen hb)) ?_
                  refine RK.of (RN.blk (ops := [(139, .iconst 2)]) (pc' := 140) (lv' := [(0, .inr (.inr 334)), (1, .inl x4), (2, .inl (m_rd h3 334 8)), (3, .inl s7)]) (st' := [.inl 2]) (h' := h10) (cs := []) (by decide +kernel) rfl trivial) ?_
                  refine RK.of (RN.goto (off := 12) (tgt := 152) (by decide +kernel)) ?_
                  exact RK.sub (Jj12 _ hF) (sub_cons rfl sub_nil)
                · refine RK.of (RN.ict (cd := .ne) (off := 7) (tgt := 143) (by decide +kernel) (mif_ne hb)) ?_
                  refine RK.of (RN.blk (ops := [(143, .iload_n 3)]) (pc' := 144) (lv' := [(0, .inr (.inr 334)), (1, .inl x4), (2, .inl (m_rd h3 334 8)), (3, .inl s7)]) (st' := [.inl s7]) (h' := h10) (cs := []) (by decide +kernel) rfl trivial) ?_
                  rcases it_of hF with ⟨hb, hF⟩ | ⟨hb, hF⟩
                  · refine RK.of (RN.ift (cd := .eq) (off := 7) (tgt := 151) (by decide +kernel) (mif_eq hb)) ?_
                    refine RK.of (RN.blk (ops := [(151, .iconst 4)]) (pc' := 152) (lv' := [(0, .inr (.inr 334)), (1, .inl x4), (2, .inl (m_rd h3 334 8)), (3, .inl s7)]) (st' := [.inl 4]) (h' := h10) (cs := []) (by decide +kernel) rfl trivial) ?_
                    exact RK.sub (Jj12 _ hF) (sub_cons rfl sub_nil)
                  · refine RK.of (RN.iff (cd := .eq) (off := 7) (tgt := 151) (by decide +kernel) (mif_eqn hb)) ?_
                    refine RK.of (RN.blk (ops := [(147, .iconst 3)]) (pc' := 148) (lv' := [(0, .inr (.inr 334)), (1, .inl x4), (2, .inl (m_rd h3 334 8)), (3, .inl s7)]) (st' := [.inl 3]) (h' := h10) (cs := []) (by decide +kernel) rfl trivial) ?_
                    refine RK.of (RN.goto (off := 4) (tgt := 152) (by decide +kernel)) ?_
                    exact RK.sub (Jj12 _ hF) (sub_cons rfl sub_nil)
        · intro j8 Jj8 hF
          rcases it_of hF with ⟨hb, hF⟩ | ⟨hb, hF⟩
          · refine RK.of (RN.ift (cd := .eq) (off := 13) (tgt := 105) (by decide +kernel) (mif_eq hb)) ?_
            exact RK.sub (Jj8 _ hL hK hF) (sub_cons rfl (sub_cons rfl (sub_cons rfl (sub_cons rfl sub_nil))))
          · refine RK.of (RN.iff (cd := .eq) (off := 13) (tgt := 105) (by decide +kernel) (mif_eqn hb)) ?_
            refine RK.of (RN.blk (ops := [(95, .aload_n 0), (96, .dup), (97, .getfield 99), (100, .iconst 1), (101, .iadd), (102, .putfield 99)]) (pc' := 105) (lv' := [(3, .inl s7), (0, .inr (.inr 334)), (1, .inl x4), (2, .inl (m_rd h3 334 8))]) (st' := []) (h' := (m_wr (m_wr h3 334 8 (m_w32 ((m_rd h3 334 8) + 1))) 334 8 (m_w32 ((m_rd (m_wr h3 334 8 (m_w32 ((m_rd h3 334 8) + 1))) 334 8) + 1)))) (cs := [GK (m_wr h3 334 8 (m_w32 ((m_rd h3 334 8) + 1))) 334 12, GK (m_wr h3 334 8 (m_w32 ((m_rd h3 334 8) + 1))) 334 12]) (by decide +kernel) rfl ⟨(o_334 hL).gk, (o_334 hL).gk, trivial⟩) ?_
            have hL : LR (m_wr (m_wr h3 334 8 (m_w32 ((m_rd h3 334 8) + 1))) 334 8 (m_w32 ((m_rd (m_wr h3 334 8 (m_w32 ((m_rd h3 334 8) + 1))) 334 8) + 1))) := LR.wf (k := 8) hL (o_334 hL) rfl
            have hK := hK.tr (KD.wr : KD (m_wr h3 334 8 (m_w32 ((m_rd h3 334 8) + 1))) (m_wr (m_wr h3 334 8 (m_w32 ((m_rd h3 334 8) + 1))) 334 8 (m_w32 ((m_rd (m_wr h3 334 8 (m_w32 ((m_rd h3 334 8) + 1))) 334 8) + 1))))
            exact RK.sub (Jj8 _ hL hK hF) (sub_cons rfl (sub_cons rfl (sub_cons rfl (sub_cons rfl sub_nil))))
      · intro j6 Jj6 hF
        refine jn_use (fun j17 => j17 = some r → RK xs L iX12_compare (d + 6) 89 [(0, .inr (.inr 334)), (1, .inl x4), (2, .inl (m_rd h3 334 8))] [] (m_wr h3 334 8 (m_w32 ((m_rd h3 334 8) + 1))) (RIo r) h r.2) ?_ ?_ hF
        · intro  hF
          refine RK.of (RN.blk (ops := [(89, .iconst 0)]) (pc' := 90) (lv' := [(0, .inr (.inr 334)), (1, .inl x4), (2, .inl (m_rd h3 334 8))]) (st' := [.inl 0]) (h' := (m_wr h3 334 8 (m_w32 ((m_rd h3 334 8) + 1)))) (cs := []) (by decide +kernel) rfl trivial) ?_
          exact RK.sub (Jj6 _ hF) (sub_cons rfl (sub_cons rfl (sub_cons rfl sub_nil)))
        · intro j17 Jj17 hF
          rcases it_of hF with ⟨hb, hF⟩ | ⟨hb, hF⟩
          · refine RK.of (RN.ict (cd := .eq) (off := 32) (tgt := 89) (by decide +kernel) (mif_eq hb)) ?_
            exact RK.sub (Jj17 hF) (sub_cons rfl (sub_cons rfl (sub_cons rfl sub_nil)))
          · refine RK.of (RN.icf (cd := .eq) (off := 32) (tgt := 89) (by decide +kernel) (mif_eqn hb)) ?_
            refine RK.of (RN.blk (ops := [(60, .aload_n 0), (61, .getfield 99), (64, .aload_n 0), (65, .getfield 89)]) (pc' := 68) (lv' := [(0, .inr (.inr 334)), (1, .inl x4), (2, .inl (m_rd h3 334 8))]) (st' := [.inl (m_rd (m_wr h3 334 8 (m_w32 ((m_rd h3 334 8) + 1))) 334 1), .inl (m_rd (m_wr h3 334 8 (m_w32 ((m_rd h3 334 8) + 1))) 334 8)]) (h' := (m_wr h3 334 8 (m_w32 ((m_rd h3 334 8) + 1)))) (cs := [GK (m_wr h3 334 8 (m_w32 ((m_rd h3 334 8) + 1))) 334 12, GK (m_wr h3 334 8 (m_w32 ((m_rd h3 334 8) + 1))) 334 12]) (by decide +kernel) rfl ⟨(o_334 hL).gk, (o_334 hL).gk, trivial⟩) ?_
            rcases it_of hF with ⟨hb, hF⟩ | ⟨hb, hF⟩
            · refine RK.of (RN.icf (cd := .ge) (off := 21) (tgt := 89) (by decide +kernel) (mif_gen hb)) ?_
              refine RK.of (RN.blk (ops := [(71, .aload_n 0)]) (pc' := 72) (lv' := [(0, .inr (.inr 334)), (1, .inl x4), (2, .inl (m_rd h3 334 8))]) (st' := [.inr (.inr 334)]) (h' := (m_wr h3 334 8 (m_w32 ((m_rd h3 334 8) + 1)))) (cs := []) (by decide +kernel) rfl trivial) ?_
              refine RK.of (RN.gr (i := 7) (ci := 12) (k := 0) (fn := true) (v := 335) (by decide +kernel) rfl (TO.gk (o_334 hL)) (hL.fa (v := 335) 0 3 400 (o_334 hL) rfl (by decide) rfl (by decide)).1) ?_
              obtain ⟨hc, hF⟩ := gd_of hF
              refine RK.of (RN.blk (ops := [(75, .aload_n 0), (76, .getfield 99), (79, .baload), (80, .bipush 61)]) (pc' := 82) (lv' := [(0, .inr (.inr 334)), (1, .inl x4), (2, .inl (m_rd h3 334 8))]) (st' := [.inl 61, .inl (m_rd (m_wr h3 334 8 (m_w32 ((m_rd h3 334 8) + 1))) 335 (m_rd (m_wr h3 334 8 (m_w32 ((m_rd h3 334 8) + 1))) 334 8))]) (h' := (m_wr h3 334 8 (m_w32 ((m_rd h3 334 8) + 1)))) (cs := [GK (m_wr h3 334 8 (m_w32 ((m_rd h3 334 8) + 1))) 334 12, GB (m_wr h3 334 8 (m_w32 ((m_rd h3 334 8) + 1))) 335 (m_rd (m_wr h3 334 8 (m_w32 ((m_rd h3 334 8) + 1))) 334 8)]) (by decide +kernel) rfl ⟨(o_334 hL).gk, (a_335 hL).gb (by decide) hc.1.1 hc.1.2, trivial⟩) ?_
              rcases it_of hF with ⟨hb, hF⟩ | ⟨hb, hF⟩
              · refine RK.of (RN.icf (cd := .ne) (off := 7) (tgt := 89) (by decide +kernel) (mif_nen hb)) ?_
                refine RK.of (RN.blk (ops := [(85, .iconst 1)]) (pc' := 86) (lv' := [(0, .inr (.inr 334)), (1, .inl x4), (2, .inl (m_rd h3 334 8))]) (st' := [.inl 1]) (h' := (m_wr h3 334 8 (m_w32 ((m_rd h3 334 8) + 1)))) (cs := []) (by decide +kernel) rfl trivial) ?_
                refine RK.of (RN.goto (off := 4) (tgt := 90) (by decide +kernel)) ?_
                exact RK.sub (Jj6 _ hF) (sub_cons rfl (sub_cons rfl (sub_cons rfl sub_nil)))
              · refine RK.of (RN.ict (cd := .ne) (off := 7) (tgt := 89) (by decide +kernel) (mif_ne hb)) ?_
                exact RK.sub (Jj17 hF) (sub_cons rfl (sub_cons rfl (sub_cons rfl sub_nil)))
            · refine RK.of (RN.ict (cd := .ge) (off := 21) (tgt := 89) (by decide +kernel) (mif_ge hb)) ?_
              exact RK.sub (Jj17 hF) (sub_cons rfl (sub_cons rfl (sub_cons rfl sub_nil)))
    · intro j5 Jj5 hF
      rcases it_of hF with ⟨hb, hF⟩ | ⟨hb, hF⟩
      · refine RK.of (RN.ict (cd := .eq) (off := 22) (tgt := 44) (by decide +kernel) (mif_eq hb)) ?_
        exact RK.sub (Jj5 hF) (sub_cons rfl (sub_cons rfl (sub_cons rfl sub_nil)))
      · refine RK.of (RN.icf (cd := .eq) (off := 22) (tgt := 44) (by decide +kernel) (mif_eqn hb)) ?_
        refine RK.of (RN.blk (ops := [(25, .iload_n 1), (26, .bipush 61)]) (pc' := 28) (lv' := [(2, .inl (m_rd h3 334 8)), (1, .inl x4), (0, .inr (.inr 334))]) (st' := [.inl 61, .inl x4]) (h' := h3) (cs := []) (by decide +kernel) rfl trivial) ?_
        rcases it_of hF with ⟨hb, hF⟩ | ⟨hb, hF⟩
        · refine RK.of (RN.ict (cd := .eq) (off := 16) (tgt := 44) (by decide +kernel) (mif_eq hb)) ?_
          exact RK.sub (Jj5 hF) (sub_cons rfl (sub_cons rfl (sub_cons rfl sub_nil)))
        · refine RK.of (RN.icf (cd := .eq) (off := 16) (tgt := 44) (by decide +kernel) (mif_eqn hb)) ?_
          refine RK.of (RN.blk (ops := [(31, .iload_n 1), (32, .bipush 62)]) (pc' := 34) (lv' := [(2, .inl (m_rd h3 334 8)), (1, .inl x4), (0, .inr (.inr 334))]) (st' := [.inl 62, .inl x4]) (h' := h3) (cs := []) (by decide +kernel) rfl trivial) ?_
          rcases it_of hF with ⟨hb, hF⟩ | ⟨hb, hF⟩
          · refine RK.of (RN.ict (cd := .eq) (off := 10) (tgt := 44) (by decide +kernel) (mif_eq hb)) ?_
            exact RK.sub (Jj5 hF) (sub_cons rfl (sub_cons rfl (sub_cons rfl sub_nil)))
          · refine RK.of (RN.icf (cd := .eq) (off := 10) (tgt := 44) (by decide +kernel) (mif_eqn hb)) ?_
            refine RK.of (RN.blk (ops := [(37, .aload_n 0), (38, .iconst 0), (39, .iload_n 2)]) (pc' := 40) (lv' := [(2, .inl (m_rd h3 334 8)), (1, .inl x4), (0, .inr (.inr 334))]) (st' := [.inl (m_rd h3 334 8), .inl 0, .inr (.inr 334)]) (h' := h3) (cs := []) (by decide +kernel) rfl trivial) ?_
            obtain ⟨x19, h18, hG, hF⟩ := bd_of hF
            have hq := rcv_ok (as := [.inl 0, .inl (m_rd h3 334 8)]) (TO.gk (o_334 hL))
            obtain ⟨hN, hL, hQ⟩ := DX12_fails (d := d + 5) hL  hG
            refine RK.of (RN.cv (i := 120) (k := 163) (q2 := iX12_fails) (as := [.inr (.inr 334), .inl 0, .inl (m_rd h3 334 8)]) (r := []) (v := some (.inl x19)) (h1 := h18) (by decide +kernel) rfl rfl rfl rfl rfl hq hN) ?_
            have hK := hK.tr hQ
            obtain ⟨hc, hF⟩ := gd_of hF
            exact RK.zR (by decide +kernel) rfl hc.1 hL hK hF
noncomputable def GX12_fact_L2 (K0 : MH → Option (Int × MH)) (K1 : MH → Option (Int × MH)) (K2 : MH → Option (Int × MH)) : Nat → Int → MH → Option (Int × MH)
  | 0, _, _ => none
  | f + 1, v1, h =>
    (if v1 = 0 then
     K2 h
    else
     (bd (GX12_see h) (fun x2 h1 =>
      (bd (GX12_isWord 7237492 h1) (fun x4 h3 =>
       (if x4 = 0 then
        (if x2 = 91 then
         (bd (GX12_opens 91 h3) (fun x6 h5 =>
          (if x6 = 0 then
           K1 h5
          else
           GX12_fact_L2 K0 K1 K2 f 1 (m_wr h5 334 8 (m_w32 ((m_rd h5 334 8) + 1))))))
        else
         GX12_fact_L2 K0 K1 K2 f 0 h3)
       else
        (bd (GX12_opens 11 h3) (fun x8 h7 =>
         (if x8 = 0 then
          K0 h7
         else
          (bv (GX12_passWord h7) (fun h9 =>
           GX12_fact_L2 K0 K1 K2 f 1 h9)))))))))))
theorem DX12_fact_L2 {d : Nat} {K0 : MH → Option (Int × MH)} {K1 : MH → Option (Int × MH)} {K2 : MH → Option (Int × MH)} {r : Int × MH} {h0 hB : MH} (hB0 : KD h0 hB) (hK0 : ∀ (h : MH), LR h → KD hB h → K0 h = some r → RK xs L iX12_fact (d + 7) 32 [] [] h (RIo r) h0 r.2) (hK1 : ∀ (h : MH), LR h → KD hB h → K1 h = some r → RK xs L iX12_fact (d + 7) 58 [] [] h (RIo r) h0 r.2) (hK2 : ∀ (h : MH), LR h → KD hB h → K2 h = some r → RK xs L iX12_fact (d + 7) 75 [(0, .inr (.inr 334))] [] h (RIo r) h0 r.2) : ∀ (f : Nat) (v1 : Int) (h : MH), LR h → KD hB h → GX12_fact_L2 K0 K1 K2 f v1 h = some r → RK xs L iX12_fact (d + 7) 2 [(0, .inr (.inr 334)), (1, .inl v1)] [] h (RIo r) h0 r.2 := by
  intro f
  induction f with
  | zero =>
    intro v1 h hL hJ hF
    cases hF
  | succ f ih =>
    intro v1 h hL hJ hF
    unfold GX12_fact_L2 at hF
    have hK := hB0.tr hJ
    refine RK.of (RN.blk (ops := [(2, .iload_n 1)]) (pc' := 3) (lv' := [(0, .inr (.inr 334)), (1, .inl v1)]) (st' := [.inl v1]) (h' := h) (cs := []) (by decide +kernel) rfl trivial) ?_
    rcases it_of hF with ⟨hb, hF⟩ | ⟨hb, hF⟩
    · refine RK.of (RN.ift (cd := .eq) (off := 72) (tgt := 75) (by decide +kernel) (mif_eq hb)) ?_
      exact RK.sub (hK2 _ hL hJ hF) (sub_cons rfl sub_nil)
    · refine RK.of (RN.iff (cd := .eq) (off := 72) (tgt := 75) (by decide +kernel) (mif_eqn hb)) ?_
      refine RK.of (RN.blk (ops := [(6, .iconst 0), (7, .istore_n 1), (8, .aload_n 0)]) (pc' := 9) (lv' := [(1, .inl 0), (0, .inr (.inr 334))]) (st' := [.inr (.inr 334)]) (h' := h) (cs := []) (by decide +kernel) rfl trivial) ?_
      obtain ⟨x2, h1, hG, hF⟩ := bd_of hF
      have hq := rcv_ok (as := []) (TO.gk (o_334 hL))
      obtain ⟨hN, hL, hQ⟩ := DX12_see (d := d + 6) hL  hG
      refine RK.of (RN.cv (i := 102) (k := 164) (q2 := iX12_see) (as := [.inr (.inr 334)]) (r := []) (v := some (.inl x2)) (h1 := h1) (by decide +kernel) rfl rfl rfl rfl rfl hq hN) ?_
      have hK := hK.tr hQ
      have hJ := hJ.tr hQ
      refine RK.of (RN.blk (ops := [(12, .istore_n 2), (13, .aload_n 0), (14, .ldc2_w 193)]) (pc' := 17) (lv' := [(2, .inl x2), (1, .inl 0), (0, .inr (.inr 334))]) (st' := [.inr (.inl 7237492), .inr (.inr 334)]) (h' := h1) (cs := []) (by decide +kernel) rfl trivial) ?_
      obtain ⟨x4, h3, hG, hF⟩ := bd_of hF
      have hq := rcv_ok (as := [.inr (.inl 7237492)]) (TO.gk (o_334 hL))
      obtain ⟨hN, hL, hQ⟩ := DX12_isWord (d := d + 5) hL  hG
      refine RK.of (RN.cv (i := 110) (k := 167) (q2 := iX12_isWord) (as := [.inr (.inr 334), .inr (.inl 7237492)]) (r := []) (v := some (.inl x4)) (h1 := h3) (by decide +kernel) rfl rfl rfl rfl rfl hq hN) ?_
      have hK := hK.tr hQ
      have hJ := hJ.tr hQ
      rcases it_of hF with ⟨hb, hF⟩ | ⟨hb, hF⟩
      · refine RK.of (RN.ift (cd := .eq) (off := 23) (tgt := 43) (by decide +kernel) (mif_eq hb)) ?_
        refine RK.of (RN.blk (ops := [(43, .iload_n 2), (44, .bipush 91)]) (pc' := 46) (lv' := [(2, .inl x2), (1, .inl 0), (0, .inr (.inr 334))]) (st' := [.inl 91, .inl x2]) (h' := h3) (cs := []) (by decide +kernel) rfl trivial) ?_
        rcases it_of hF with ⟨hb, hF⟩ | ⟨hb, hF⟩
        · refine RK.of (RN.icf (cd := .ne) (off := 26) (tgt := 72) (by decide +kernel) (mif_nen hb)) ?_
          refine RK.of (RN.blk (ops := [(49, .aload_n 0), (50, .bipush 91)]) (pc' := 52) (lv' := [(2, .inl x2), (1, .inl 0), (0, .inr (.inr 334))]) (st' := [.inl 91, .inr (.inr 334)]) (h' := h3) (cs := []) (by decide +kernel) rfl trivial) ?_
          obtain ⟨x6, h5, hG, hF⟩ := bd_of hF
          have hq := rcv_ok (as := [.inl 91]) (TO.gk (o_334 hL))
          obtain ⟨hN, hL, hQ⟩ := DX12_opens (d := d + 5) hL  hG
          refine RK.of (RN.cv (i := 195) (k := 174) (q2 := iX12_opens) (as := [.inr (.inr 334), .inl 91]) (r := []) (v := some (.inl x6)) (h1 := h5) (by decide +kernel) rfl rfl rfl rfl rfl hq hN) ?_
          have hK := hK.tr hQ
          have hJ := hJ.tr hQ
          rcases it_of hF with ⟨hb, hF⟩ | ⟨hb, hF⟩
          · refine RK.of (RN.iff (cd := .ne) (off := 5) (tgt := 60) (by decide +kernel) (mif_nen hb)) ?_
            exact RK.sub (hK1 _ hL hJ hF) sub_nil
          · refine RK.of (RN.ift (cd := .ne) (off := 5) (tgt := 60) (by decide +kernel) (mif_ne hb)) ?_
            refine RK.of (RN.blk (ops := [(60, .aload_n 0), (61, .dup), (62, .getfield 99), (65, .iconst 1), (66, .iadd), (67, .putfield 99)]) (pc' := 70) (lv' := [(2, .inl x2), (1, .inl 0), (0, .inr (.inr 334))]) (st' := []) (h' := (m_wr h5 334 8 (m_w32 ((m_rd h5 334 8) + 1)))) (cs := [GK h5 334 12, GK h5 334 12]) (by decide +kernel) rfl ⟨(o_334 hL).gk, (o_334 hL).gk, trivial⟩) ?_
            have hL : LR (m_wr h5 334 8 (m_w32 ((m_rd h5 334 8) + 1))) := LR.wf (k := 8) hL (o_334 hL) rfl
            have hK := hK.tr (KD.wr : KD h5 (m_wr h5 334 8 (m_w32 ((m_rd h5 334 8) + 1))))
            have hJ := hJ.tr (KD.wr : KD h5 (m_wr h5 334 8 (m_w32 ((m_rd h5 334 8) + 1))))
            refine RK.of (RN.blk (ops := [(70, .iconst 1), (71, .istore_n 1)]) (pc' := 72) (lv' := [(1, .inl 1), (2, .inl x2), (0, .inr (.inr 334))]) (st' := []) (h' := (m_wr h5 334 8 (m_w32 ((m_rd h5 334 8) + 1)))) (cs := []) (by decide +kernel) rfl trivial) ?_
            refine RK.of (RN.goto (off := -70) (tgt := 2) (by decide +kernel)) ?_
            exact RK.sub (ih _ _ hL hJ hF) (sub_cons rfl (sub_cons rfl sub_nil))
        · refine RK.of (RN.ict (cd := .ne) (off := 26) (tgt := 72) (by decide +kernel) (mif_ne hb)) ?_
          refine RK.of (RN.goto (off := -70) (tgt := 2) (by decide +kernel)) ?_
          exact RK.sub (ih _ _ hL hJ hF) (sub_cons rfl (sub_cons rfl sub_nil))
      · refine RK.of (RN.iff (cd := .eq) (off := 23) (tgt := 43) (by decide +kernel) (mif_eqn hb)) ?_
        refine RK.of (RN.blk (ops := [(23, .aload_n 0), (24, .bipush 11)]) (pc' := 26) (lv' := [(2, .inl x2), (1, .inl 0), (0, .inr (.inr 334))]) (st' := [.inl 11, .inr (.inr 334)]) (h' := h3) (cs := []) (by decide +kernel) rfl trivial) ?_
        obtain ⟨x8, h7, hG, hF⟩ := bd_of hF
        have hq := rcv_ok (as := [.inl 11]) (TO.gk (o_334 hL))
        obtain ⟨hN, hL, hQ⟩ := DX12_opens (d := d + 5) hL  hG
        refine RK.of (RN.cv (i := 195) (k := 174) (q2 := iX12_opens) (as := [.inr (.inr 334), .inl 11]) (r := []) (v := some (.inl x8)) (h1 := h7) (by decide +kernel) rfl rfl rfl rfl rfl hq hN) ?_
        have hK := hK.tr hQ
        have hJ := hJ.tr hQ
        rcases it_of hF with ⟨hb, hF⟩ | ⟨hb, hF⟩
        · refine RK.of (RN.iff (cd := .ne) (off := 5) (tgt := 34) (by decide +kernel) (mif_nen hb)) ?_
          exact RK.sub (hK0 _ hL hJ hF) sub_nil
        · refine RK.of (RN.ift (cd := .ne) (off := 5) (tgt := 34) (by decide +kernel) (mif_ne hb)) ?_
          refine RK.of (RN.blk (ops := [(34, .aload_n 0)]) (pc' := 35) (lv' := [(2, .inl x2), (1, .inl 0), (0, .inr (.inr 334))]) (st' := [.inr (.inr 334)]) (h' := h7) (cs := []) (by decide +kernel) rfl trivial) ?_
          obtain ⟨h9, hG, hF⟩ := bv_of hF
          have hq := rcv_ok (as := []) (TO.gk (o_334 hL))
          obtain ⟨hN, hL, hQ⟩ := DX12_passWord (d := d + 5) hL  hG
          refine RK.of (RN.cv (i := 114) (k := 168) (q2 := iX12_passWord) (as := [.inr (.inr 334)]) (r := []) (v := none) (h1 := h9) (by decide +kernel) rfl rfl rfl rfl rfl hq hN) ?_
          have hK := hK.tr hQ
          have hJ := hJ.tr hQ
          refine RK.of (RN.blk (ops := [(38, .iconst 1), (39, .istore_n 1)]) (pc' := 40) (lv' := [(1, .inl 1), (2, .inl x2), (0, .inr (.inr 334))]) (st' := []) (h' := h9) (cs := []) (by decide +kernel) rfl trivial) ?_
          refine RK.of (RN.goto (off := 32) (tgt := 72) (by decide +kernel)) ?_
          refine RK.of (RN.goto (off := -70) (tgt := 2) (by decide +kernel)) ?_
          exact RK.sub (ih _ _ hL hJ hF) (sub_cons rfl (sub_cons rfl sub_nil))
noncomputable def GX12_fact (h : MH) : Option (Int × MH) :=
  GX12_fact_L2 (fun h1 =>
   some (0, h1)) (fun h2 =>
   some (0, h2)) (fun h3 =>
   (bd (GX12_compare h3) (fun x5 h4 =>
    gd [GT x5] (some (x5, h4))))) FU 1 h
theorem DX12_fact {d : Nat} {h : MH} {r : Int × MH} (hL : LR h) (hF : GX12_fact h = some r) : RN xs L iX12_fact (d + 7) 0 (lvE 0 [.inr (.inr 334)]) [] h (RIo r) ∧ LR r.2 ∧ KD h r.2 := by
  unfold GX12_fact at hF
  have hK : KD h h := KD.rf
  show RK xs L iX12_fact (d + 7) 0 (lvE 0 [.inr (.inr 334)]) [] h (RIo r) h r.2
  refine RK.of (RN.blk (ops := [(0, .iconst 1), (1, .istore_n 1)]) (pc' := 2) (lv' := [(1, .inl 1), (0, .inr (.inr 334))]) (st' := []) (h' := h) (cs := []) (by decide +kernel) rfl trivial) ?_
  refine RK.sub (DX12_fact_L2 hK ?_ ?_ ?_ _ _ _ hL KD.rf hF) (sub_cons rfl (sub_cons rfl sub_nil))
  · intro h1 hL hq hF
    have hK := hK.tr hq
    refine RK.of (RN.blk (ops := [(32, .iconst 0)]) (pc' := 33) (lv' := []) (st' := [.inl 0]) (h' := h1) (cs := []) (by decide +kernel) rfl trivial) ?_
    exact RK.zR (by decide +kernel) rfl (Or.inl rfl) hL hK hF
  · intro h2 hL hq hF
    have hK := hK.tr hq
    refine RK.of (RN.blk (ops := [(58, .iconst 0)]) (pc' := 59) (lv' := []) (st' := [.inl 0]) (h' := h2) (cs := []) (by decide +kernel) rfl trivial) ?_
    exact RK.zR (by decide +kernel) rfl (Or.inl rfl) hL hK hF
  · intro h3 hL hq hF
    have hK := hK.tr hq
    refine RK.of (RN.blk (ops := [(75, .aload_n 0)]) (pc' := 76) (lv' := [(0, .inr (.inr 334))]) (st' := [.inr (.inr 334)]) (h' := h3) (cs := []) (by decide +kernel) rfl trivial) ?_
    obtain ⟨x5, h4, hG, hF⟩ := bd_of hF
    have hq := rcv_ok (as := []) (TO.gk (o_334 hL))
    obtain ⟨hN, hL, hQ⟩ := DX12_compare (d := d) hL  hG
    refine RK.of (RN.cv (i := 198) (k := 180) (q2 := iX12_compare) (as := [.inr (.inr 334)]) (r := []) (v := some (.inl x5)) (h1 := h4) (by decide +kernel) rfl rfl rfl rfl rfl hq hN) ?_
    have hK := hK.tr hQ
    obtain ⟨hc, hF⟩ := gd_of hF
    exact RK.zR (by decide +kernel) rfl hc.1 hL hK hF
noncomputable def GX12_isInside_L2 (K0 : MH → Option (Int × MH)) (K1 : MH → Option (Int × MH)) : Nat → Int → MH → Option (Int × MH)
  | 0, _, _ => none
  | f + 1, v1, h =>
    (if v1 < (m_rd h 334 16) then
     gd [IB v1 400] (
      (if (m_rd h 341 v1) = 91 then
       K0 h
      else
       GX12_isInside_L2 K0 K1 f (m_w32 (v1 + 1)) h))
    else
     K1 h)
theorem DX12_isInside_L2 {d : Nat} {K0 : MH → Option (Int × MH)} {K1 : MH → Option (Int × MH)} {r : Int × MH} {h0 hB : MH} (hB0 : KD h0 hB) (hK0 : ∀ (h : MH), LR h → KD hB h → K0 h = some r → RK xs L iX12_isInside (d) 21 [] [] h (RIo r) h0 r.2) (hK1 : ∀ (h : MH), LR h → KD hB h → K1 h = some r → RK xs L iX12_isInside (d) 29 [] [] h (RIo r) h0 r.2) : ∀ (f : Nat) (v1 : Int) (h : MH), LR h → KD hB h → GX12_isInside_L2 K0 K1 f v1 h = some r → RK xs L iX12_isInside (d) 2 [(0, .inr (.inr 334)), (1, .inl v1)] [] h (RIo r) h0 r.2 := by
  intro f
  induction f with
  | zero =>
    intro v1 h hL hJ hF
    cases hF
  | succ f ih =>
    intro v1 h hL hJ hF
    unfold GX12_isInside_L2 at hF
    have hK := hB0.tr hJ
    refine RK.of (RN.blk (ops := [(2, .iload_n 1), (3, .aload_n 0), (4, .getfield 162)]) (pc' := 7) (lv' := [(0, .inr (.inr 334)), (1, .inl v1)]) (st' := [.inl (m_rd h 334 16), .inl v1]) (h' := h) (cs := [GK h 334 12]) (by decide +kernel) rfl ⟨(o_334 hL).gk, trivial⟩) ?_
    rcases it_of hF with ⟨hb, hF⟩ | ⟨hb, hF⟩
    · refine RK.of (RN.icf (cd := .ge) (off := 22) (tgt := 29) (by decide +kernel) (mif_gen hb)) ?_
      refine RK.of (RN.blk (ops := [(10, .aload_n 0)]) (pc' := 11) (lv' := [(0, .inr (.inr 334)), (1, .inl v1)]) (st' := [.inr (.inr 334)]) (h' := h) (cs := []) (by decide +kernel) rfl trivial) ?_
      refine RK.of (RN.gr (i := 29) (ci := 12) (k := 15) (fn := true) (v := 341) (by decide +kernel) rfl (TO.gk (o_334 hL)) (hL.fa (v := 341) 15 1 400 (o_334 hL) rfl (by decide) rfl (by decide)).1) ?_
      obtain ⟨hc, hF⟩ := gd_of hF
      refine RK.of (RN.blk (ops := [(14, .iload_n 1), (15, .iaload), (16, .bipush 91)]) (pc' := 18) (lv' := [(0, .inr (.inr 334)), (1, .inl v1)]) (st' := [.inl 91, .inl (m_rd h 341 v1)]) (h' := h) (cs := [GI h 341 1 v1]) (by decide +kernel) rfl ⟨(a_341 hL).gi hc.1.1 hc.1.2, trivial⟩) ?_
      rcases it_of hF with ⟨hb, hF⟩ | ⟨hb, hF⟩
      · refine RK.of (RN.icf (cd := .ne) (off := 5) (tgt := 23) (by decide +kernel) (mif_nen hb)) ?_
        exact RK.sub (hK0 _ hL hJ hF) sub_nil
      · refine RK.of (RN.ict (cd := .ne) (off := 5) (tgt := 23) (by decide +kernel) (mif_ne hb)) ?_
        refine RK.of (RN.blk (ops := [(23, .iinc 1 1)]) (pc' := 26) (lv' := [(1, .inl (m_w32 (v1 + 1))), (0, .inr (.inr 334))]) (st' := []) (h' := h) (cs := []) (by decide +kernel) rfl trivial) ?_
        refine RK.of (RN.goto (off := -24) (tgt := 2) (by decide +kernel)) ?_
        exact RK.sub (ih _ _ hL hJ hF) (sub_cons rfl (sub_cons rfl sub_nil))
    · refine RK.of (RN.ict (cd := .ge) (off := 22) (tgt := 29) (by decide +kernel) (mif_ge hb)) ?_
      exact RK.sub (hK1 _ hL hJ hF) sub_nil
noncomputable def GX12_isInside (h : MH) : Option (Int × MH) :=
  GX12_isInside_L2 (fun h1 =>
   some (1, h1)) (fun h2 =>
   some (0, h2)) FU 0 h
theorem DX12_isInside {d : Nat} {h : MH} {r : Int × MH} (hL : LR h) (hF : GX12_isInside h = some r) : RN xs L iX12_isInside (d) 0 (lvE 0 [.inr (.inr 334)]) [] h (RIo r) ∧ LR r.2 ∧ KD h r.2 := by
  unfold GX12_isInside at hF
  have hK : KD h h := KD.rf
  show RK xs L iX12_isInside (d) 0 (lvE 0 [.inr (.inr 334)]) [] h (RIo r) h r.2
  refine RK.of (RN.blk (ops := [(0, .iconst 0), (1, .istore_n 1)]) (pc' := 2) (lv' := [(1, .inl 0), (0, .inr (.inr 334))]) (st' := []) (h' := h) (cs := []) (by decide +kernel) rfl trivial) ?_
  refine RK.sub (DX12_isInside_L2 hK ?_ ?_ _ _ _ hL KD.rf hF) (sub_cons rfl (sub_cons rfl sub_nil))
  · intro h1 hL hq hF
    have hK := hK.tr hq
    refine RK.of (RN.blk (ops := [(21, .iconst 1)]) (pc' := 22) (lv' := []) (st' := [.inl 1]) (h' := h1) (cs := []) (by decide +kernel) rfl trivial) ?_
    exact RK.zR (by decide +kernel) rfl (Or.inr rfl) hL hK hF
  · intro h2 hL hq hF
    have hK := hK.tr hq
    refine RK.of (RN.blk (ops := [(29, .iconst 0)]) (pc' := 30) (lv' := []) (st' := [.inl 0]) (h' := h2) (cs := []) (by decide +kernel) rfl trivial) ?_
    exact RK.zR (by decide +kernel) rfl (Or.inl rfl) hL hK hF
noncomputable def GX12_closes_L5 (K0 : MH → Option (MH)) : Nat → MH → Option (MH)
  | 0, _ => none
  | f + 1, h =>
    (bd (GX12_see h) (fun x2 h1 =>
     (if x2 = 93 then
      (bd (GX12_isInside h1) (fun x4 h3 =>
       (if x4 = 0 then
        K0 h3
       else
        (bv (GX12_layDown 1 h3) (fun h5 =>
         hl (m_wr (m_wr h5 334 16 (m_w32 ((m_rd h5 334 16) - 1))) 334 13 (m_w32 ((m_rd (m_wr h5 334 16 (m_w32 ((m_rd h5 334 16) - 1))) 334 13) - 1))) (fun h6 =>
          (bv (GX12_layDown 3 (m_wr h6 334 8 (m_w32 ((m_rd h6 334 8) + 1)))) (fun h7 =>
           GX12_closes_L5 K0 f h7))))))))
     else
      K0 h1)))
theorem DX12_closes_L5 {d : Nat} {K0 : MH → Option (MH)} {r : MH} {h0 hB : MH} (hB0 : KD h0 hB) (hK0 : ∀ (h : MH), LR h → KD hB h → K0 h = some r → RK xs L iX12_closes (d + 2) 64 [] [] h (RVo r) h0 r) : ∀ (f : Nat) (h : MH), LR h → KD hB h → GX12_closes_L5 K0 f  h = some r → RK xs L iX12_closes (d + 2) 5 [(0, .inr (.inr 334))] [] h (RVo r) h0 r := by
  intro f
  induction f with
  | zero =>
    intro h hL hJ hF
    cases hF
  | succ f ih =>
    intro h hL hJ hF
    unfold GX12_closes_L5 at hF
    have hK := hB0.tr hJ
    refine RK.of (RN.blk (ops := [(5, .aload_n 0)]) (pc' := 6) (lv' := [(0, .inr (.inr 334))]) (st' := [.inr (.inr 334)]) (h' := h) (cs := []) (by decide +kernel) rfl trivial) ?_
    obtain ⟨x2, h1, hG, hF⟩ := bd_of hF
    have hq := rcv_ok (as := []) (TO.gk (o_334 hL))
    obtain ⟨hN, hL, hQ⟩ := DX12_see (d := d + 1) hL  hG
    refine RK.of (RN.cv (i := 102) (k := 164) (q2 := iX12_see) (as := [.inr (.inr 334)]) (r := []) (v := some (.inl x2)) (h1 := h1) (by decide +kernel) rfl rfl rfl rfl rfl hq hN) ?_
    have hK := hK.tr hQ
    have hJ := hJ.tr hQ
    refine RK.of (RN.blk (ops := [(9, .bipush 93)]) (pc' := 11) (lv' := [(0, .inr (.inr 334))]) (st' := [.inl 93, .inl x2]) (h' := h1) (cs := []) (by decide +kernel) rfl trivial) ?_
    rcases it_of hF with ⟨hb, hF⟩ | ⟨hb, hF⟩
    · refine RK.of (RN.icf (cd := .ne) (off := 53) (tgt := 64) (by decide +kernel) (mif_nen hb)) ?_
      refine RK.of (RN.blk (ops := [(14, .aload_n 0)]) (pc' := 15) (lv' := [(0, .inr (.inr 334))]) (st' := [.inr (.inr 334)]) (h' := h1) (cs := []) (by decide +kernel) rfl trivial) ?_
      obtain ⟨x4, h3, hG, hF⟩ := bd_of hF
      have hq := rcv_ok (as := []) (TO.gk (o_334 hL))
      obtain ⟨hN, hL, hQ⟩ := DX12_isInside (d := d + 1) hL  hG
      refine RK.of (RN.cv (i := 204) (k := 182) (q2 := iX12_isInside) (as := [.inr (.inr 334)]) (r := []) (v := some (.inl x4)) (h1 := h3) (by decide +kernel) rfl rfl rfl rfl rfl hq hN) ?_
      have hK := hK.tr hQ
      have hJ := hJ.tr hQ
      rcases it_of hF with ⟨hb, hF⟩ | ⟨hb, hF⟩
      · refine RK.of (RN.ift (cd := .eq) (off := 46) (tgt := 64) (by decide +kernel) (mif_eq hb)) ?_
        exact RK.sub (hK0 _ hL hJ hF) sub_nil
      · refine RK.of (RN.iff (cd := .eq) (off := 46) (tgt := 64) (by decide +kernel) (mif_eqn hb)) ?_
        refine RK.of (RN.blk (ops := [(21, .aload_n 0), (22, .iconst 1)]) (pc' := 23) (lv' := [(0, .inr (.inr 334))]) (st' := [.inl 1, .inr (.inr 334)]) (h' := h3) (cs := []) (by decide +kernel) rfl trivial) ?_
        obtain ⟨h5, hG, hF⟩ := bv_of hF
        have hq := rcv_ok (as := [.inl 1]) (TO.gk (o_334 hL))
        obtain ⟨hN, hL, hQ⟩ := DX12_layDown (d := d) hL  hG
        refine RK.of (RN.cv (i := 201) (k := 176) (q2 := iX12_layDown) (as := [.inr (.inr 334), .inl 1]) (r := []) (v := none) (h1 := h5) (by decide +kernel) rfl rfl rfl rfl rfl hq hN) ?_
        have hK := hK.tr hQ
        have hJ := hJ.tr hQ
        refine RK.of (RN.blk (ops := [(26, .aload_n 0), (27, .dup), (28, .getfield 162), (31, .iconst 1), (32, .isub), (33, .putfield 162)]) (pc' := 36) (lv' := [(0, .inr (.inr 334))]) (st' := []) (h' := (m_wr h5 334 16 (m_w32 ((m_rd h5 334 16) - 1)))) (cs := [GK h5 334 12, GK h5 334 12]) (by decide +kernel) rfl ⟨(o_334 hL).gk, (o_334 hL).gk, trivial⟩) ?_
        have hL : LR (m_wr h5 334 16 (m_w32 ((m_rd h5 334 16) - 1))) := LR.wf (k := 16) hL (o_334 hL) rfl
        have hK := hK.tr (KD.wr : KD h5 (m_wr h5 334 16 (m_w32 ((m_rd h5 334 16) - 1))))
        have hJ := hJ.tr (KD.wr : KD h5 (m_wr h5 334 16 (m_w32 ((m_rd h5 334 16) - 1))))
        refine RK.of (RN.blk (ops := [(36, .aload_n 0), (37, .dup), (38, .getfield 159), (41, .iconst 1), (42, .isub), (43, .putfield 159)]) (pc' := 46) (lv' := [(0, .inr (.inr 334))]) (st' := []) (h' := (m_wr (m_wr h5 334 16 (m_w32 ((m_rd h5 334 16) - 1))) 334 13 (m_w32 ((m_rd (m_wr h5 334 16 (m_w32 ((m_rd h5 334 16) - 1))) 334 13) - 1)))) (cs := [GK (m_wr h5 334 16 (m_w32 ((m_rd h5 334 16) - 1))) 334 12, GK (m_wr h5 334 16 (m_w32 ((m_rd h5 334 16) - 1))) 334 12]) (by decide +kernel) rfl ⟨(o_334 hL).gk, (o_334 hL).gk, trivial⟩) ?_
        have hL : LR (m_wr (m_wr h5 334 16 (m_w32 ((m_rd h5 334 16) - 1))) 334 13 (m_w32 ((m_rd (m_wr h5 334 16 (m_w32 ((m_rd h5 334 16) - 1))) 334 13) - 1))) := LR.wf (k := 13) hL (o_334 hL) rfl
        have hK := hK.tr (KD.wr : KD (m_wr h5 334 16 (m_w32 ((m_rd h5 334 16) - 1))) (m_wr (m_wr h5 334 16 (m_w32 ((m_rd h5 334 16) - 1))) 334 13 (m_w32 ((m_rd (m_wr h5 334 16 (m_w32 ((m_rd h5 334 16) - 1))) 334 13) - 1))))
        have hJ := hJ.tr (KD.wr : KD (m_wr h5 334 16 (m_w32 ((m_rd h5 334 16) - 1))) (m_wr (m_wr h5 334 16 (m_w32 ((m_rd h5 334 16) - 1))) 334 13 (m_w32 ((m_rd (m_wr h5 334 16 (m_w32 ((m_rd h5 334 16) - 1))) 334 13) - 1))))
        obtain ⟨h6, he, hF⟩ := hl_of hF
        refine RK.of (RN.hl he) ?_
        rw [← he] at hL hK hJ
        refine RK.of (RN.blk (ops := [(46, .aload_n 0), (47, .dup), (48, .getfield 99), (51, .iconst 1), (52, .iadd), (53, .putfield 99)]) (pc' := 56) (lv' := [(0, .inr (.inr 334))]) (st' := []) (h' := (m_wr h6 334 8 (m_w32 ((m_rd h6 334 8) + 1)))) (cs := [GK h6 334 12, GK h6 334 12]) (by decide +kernel) rfl ⟨(o_334 hL).gk, (o_334 hL).gk, trivial⟩) ?_
        have hL : LR (m_wr h6 334 8 (m_w32 ((m_rd h6 334 8) + 1))) := LR.wf (k := 8) hL (o_334 hL) rfl
        have hK := hK.tr (KD.wr : KD h6 (m_wr h6 334 8 (m_w32 ((m_rd h6 334 8) + 1))))
        have hJ := hJ.tr (KD.wr : KD h6 (m_wr h6 334 8 (m_w32 ((m_rd h6 334 8) + 1))))
        refine RK.of (RN.blk (ops := [(56, .aload_n 0), (57, .iconst 3)]) (pc' := 58) (lv' := [(0, .inr (.inr 334))]) (st' := [.inl 3, .inr (.inr 334)]) (h' := (m_wr h6 334 8 (m_w32 ((m_rd h6 334 8) + 1)))) (cs := []) (by decide +kernel) rfl trivial) ?_
        obtain ⟨h7, hG, hF⟩ := bv_of hF
        have hq := rcv_ok (as := [.inl 3]) (TO.gk (o_334 hL))
        obtain ⟨hN, hL, hQ⟩ := DX12_layDown (d := d) hL  hG
        refine RK.of (RN.cv (i := 201) (k := 176) (q2 := iX12_layDown) (as := [.inr (.inr 334), .inl 3]) (r := []) (v := none) (h1 := h7) (by decide +kernel) rfl rfl rfl rfl rfl hq hN) ?_
        have hK := hK.tr hQ
        have hJ := hJ.tr hQ
        refine RK.of (RN.goto (off := -56) (tgt := 5) (by decide +kernel)) ?_
        exact RK.sub (ih _ hL hJ hF) (sub_cons rfl sub_nil)
    · refine RK.of (RN.ict (cd := .ne) (off := 53) (tgt := 64) (by decide +kernel) (mif_ne hb)) ?_
      exact RK.sub (hK0 _ hL hJ hF) sub_nil
noncomputable def GX12_closes (h : MH) : Option (MH) :=
  (bv (GX12_layDown 3 h) (fun h1 =>
   GX12_closes_L5 (fun h2 =>
    some h2) FU h1))
theorem DX12_closes {d : Nat} {h : MH} {r : MH} (hL : LR h) (hF : GX12_closes h = some r) : RN xs L iX12_closes (d + 2) 0 (lvE 0 [.inr (.inr 334)]) [] h (RVo r) ∧ LR r ∧ KD h r := by
  unfold GX12_closes at hF
  have hK : KD h h := KD.rf
  show RK xs L iX12_closes (d + 2) 0 (lvE 0 [.inr (.inr 334)]) [] h (RVo r) h r
  refine RK.of (RN.blk (ops := [(0, .aload_n 0), (1, .iconst 3)]) (pc' := 2) (lv' := [(0, .inr (.inr 334))]) (st' := [.inl 3, .inr (.inr 334)]) (h' := h) (cs := []) (by decide +kernel) rfl trivial) ?_
  obtain ⟨h1, hG, hF⟩ := bv_of hF
  have hq := rcv_ok (as := [.inl 3]) (TO.gk (o_334 hL))
  obtain ⟨hN, hL, hQ⟩ := DX12_layDown (d := d) hL  hG
  refine RK.of (RN.cv (i := 201) (k := 176) (q2 := iX12_layDown) (as := [.inr (.inr 334), .inl 3]) (r := []) (v := none) (h1 := h1) (by decide +kernel) rfl rfl rfl rfl rfl hq hN) ?_
  have hK := hK.tr hQ
  refine RK.sub (DX12_closes_L5 hK ?_ _ _ hL KD.rf hF) (sub_cons rfl sub_nil)
  · intro h2 hL hq hF
    have hK := hK.tr hq
    exact RK.vR (by decide +kernel) rfl hL hK hF
noncomputable def GX12_tested_L12 (K0 : MH → Option (Int × MH)) (K1 : MH → Option (Int × MH)) : Nat → Int → MH → Option (Int × MH)
  | 0, _, _ => none
  | f + 1, v1, h =>
    (if v1 = 0 then
     K1 h
    else
     (bd (GX12_fact h) (fun x2 h1 =>
      (if x2 = 0 then
       K0 h1
      else
       (bv (GX12_closes h1) (fun h3 =>
        (bd (GX12_isWord 6385252 h3) (fun x5 h4 =>
         jn (fun (s7 : Int) (h8 : MH) =>
          (if s7 = 0 then
           GX12_tested_L12 K0 K1 f s7 h8
          else
           (bd (GX12_isWord 6385252 h8) (fun x10 h9 =>
            jn (fun (s12 : Int) =>
             (bv (GX12_passWord h9) (fun h13 =>
              (bd (GX12_strength s12 h13) (fun x15 h14 =>
               (bv (GX12_layDown x15 h14) (fun h16 =>
                gd [IB (m_rd h16 334 16) 400] (
                 hl (m_wr (m_wr h16 341 (m_rd h16 334 16) s12) 334 16 (m_w32 ((m_rd (m_wr h16 341 (m_rd h16 334 16) s12) 334 16) + 1))) (fun h17 =>
                  GX12_tested_L12 K0 K1 f s7 h17))))))))) (fun j11 =>
             (if x10 = 0 then
              j11 13
             else
              j11 12)))))) (fun j6 =>
          jn (fun (h19 : MH) =>
           j6 1 h19) (fun j18 =>
           (if x5 = 0 then
            (bd (GX12_isWord 28530 h4) (fun x21 h20 =>
             (if x21 = 0 then
              j6 0 h20
             else
              j18 h20)))
           else
            j18 h4)))))))))))
theorem DX12_tested_L12 {d : Nat} {K0 : MH → Option (Int × MH)} {K1 : MH → Option (Int × MH)} {r : Int × MH} {h0 hB : MH} (hB0 : KD h0 hB) (hK0 : ∀ (h : MH), LR h → KD hB h → K0 h = some r → RK xs L iX12_tested (d + 8) 23 [] [] h (RIo r) h0 r.2) (hK1 : ∀ (h : MH), LR h → KD hB h → K1 h = some r → RK xs L iX12_tested (d + 8) 112 [(0, .inr (.inr 334))] [] h (RIo r) h0 r.2) : ∀ (f : Nat) (v1 : Int) (h : MH), LR h → KD hB h → GX12_tested_L12 K0 K1 f v1 h = some r → RK xs L iX12_tested (d + 8) 12 [(0, .inr (.inr 334)), (1, .inl v1)] [] h (RIo r) h0 r.2 := by
  intro f
  induction f with
  | zero =>
    intro v1 h hL hJ hF
    cases hF
  | succ f ih =>
    intro v1 h hL hJ hF
    unfold GX12_tested_L12 at hF
    have hK := hB0.tr hJ
    refine RK.of (RN.blk (ops := [(12, .iload_n 1)]) (pc' := 13) (lv' := [(0, .inr (.inr 334)), (1, .inl v1)]) (st' := [.inl v1]) (h' := h) (cs := []) (by decide +kernel) rfl trivial) ?_
    rcases it_of hF with ⟨hb, hF⟩ | ⟨hb, hF⟩
    · refine RK.of (RN.ift (cd := .eq) (off := 99) (tgt := 112) (by decide +kernel) (mif_eq hb)) ?_
      exact RK.sub (hK1 _ hL hJ hF) (sub_cons rfl sub_nil)
    · refine RK.of (RN.iff (cd := .eq) (off := 99) (tgt := 112) (by decide +kernel) (mif_eqn hb)) ?_
      refine RK.of (RN.blk (ops := [(16, .aload_n 0)]) (pc' := 17) (lv' := [(0, .inr (.inr 334)), (1, .inl v1)]) (st' := [.inr (.inr 334)]) (h' := h) (cs := []) (by decide +kernel) rfl trivial) ?_
      obtain ⟨x2, h1, hG, hF⟩ := bd_of hF
      have hq := rcv_ok (as := []) (TO.gk (o_334 hL))
      obtain ⟨hN, hL, hQ⟩ := DX12_fact (d := d) hL  hG
      refine RK.of (RN.cv (i := 207) (k := 181) (q2 := iX12_fact) (as := [.inr (.inr 334)]) (r := []) (v := some (.inl x2)) (h1 := h1) (by decide +kernel) rfl rfl rfl rfl rfl hq hN) ?_
      have hK := hK.tr hQ
      have hJ := hJ.tr hQ
      rcases it_of hF with ⟨hb, hF⟩ | ⟨hb, hF⟩
      · refine RK.of (RN.iff (cd := .ne) (off := 5) (tgt := 25) (by decide +kernel) (mif_nen hb)) ?_
        exact RK.sub (hK0 _ hL hJ hF) sub_nil
      · refine RK.of (RN.ift (cd := .ne) (off := 5) (tgt := 25) (by decide +kernel) (mif_ne hb)) ?_
        refine RK.of (RN.blk (ops := [(25, .aload_n 0)]) (pc' := 26) (lv' := [(0, .inr (.inr 334)), (1, .inl v1)]) (st' := [.inr (.inr 334)]) (h' := h1) (cs := []) (by decide +kernel) rfl trivial) ?_
        obtain ⟨h3, hG, hF⟩ := bv_of hF
        have hq := rcv_ok (as := []) (TO.gk (o_334 hL))
        obtain ⟨hN, hL, hQ⟩ := DX12_closes (d := d + 5) hL  hG
        refine RK.of (RN.cv (i := 210) (k := 183) (q2 := iX12_closes) (as := [.inr (.inr 334)]) (r := []) (v := none) (h1 := h3) (by decide +kernel) rfl rfl rfl rfl rfl hq hN) ?_
        have hK := hK.tr hQ
        have hJ := hJ.tr hQ
        refine RK.of (RN.blk (ops := [(29, .aload_n 0), (30, .ldc2_w 213)]) (pc' := 33) (lv' := [(0, .inr (.inr 334)), (1, .inl v1)]) (st' := [.inr (.inl 6385252), .inr (.inr 334)]) (h' := h3) (cs := []) (by decide +kernel) rfl trivial) ?_
        obtain ⟨x5, h4, hG, hF⟩ := bd_of hF
        have hq := rcv_ok (as := [.inr (.inl 6385252)]) (TO.gk (o_334 hL))
        obtain ⟨hN, hL, hQ⟩ := DX12_isWord (d := d + 6) hL  hG
        refine RK.of (RN.cv (i := 110) (k := 167) (q2 := iX12_isWord) (as := [.inr (.inr 334), .inr (.inl 6385252)]) (r := []) (v := some (.inl x5)) (h1 := h4) (by decide +kernel) rfl rfl rfl rfl rfl hq hN) ?_
        have hK := hK.tr hQ
        have hJ := hJ.tr hQ
        refine jn_use (fun j6 => ∀ (s7 : Int) (h8 : MH), LR h8 → KD hB h8 → j6 s7 h8 = some r → RK xs L iX12_tested (d + 8) 54 [(0, .inr (.inr 334))] [.inl s7] h8 (RIo r) h0 r.2) ?_ ?_ hF
        · intro s7 h8 hL hJ hF
          have hK := hB0.tr hJ
          refine RK.of (RN.blk (ops := [(54, .istore_n 1), (55, .iload_n 1)]) (pc' := 56) (lv' := [(1, .inl s7), (0, .inr (.inr 334))]) (st' := [.inl s7]) (h' := h8) (cs := []) (by decide +kernel) rfl trivial) ?_
          rcases it_of hF with ⟨hb, hF⟩ | ⟨hb, hF⟩
          · refine RK.of (RN.ift (cd := .eq) (off := -44) (tgt := 12) (by decide +kernel) (mif_eq hb)) ?_
            exact RK.sub (ih _ _ hL hJ hF) (sub_cons rfl (sub_cons rfl sub_nil))
          · refine RK.of (RN.iff (cd := .eq) (off := -44) (tgt := 12) (by decide +kernel) (mif_eqn hb)) ?_
            refine RK.of (RN.blk (ops := [(59, .aload_n 0), (60, .ldc2_w 213)]) (pc' := 63) (lv' := [(1, .inl s7), (0, .inr (.inr 334))]) (st' := [.inr (.inl 6385252), .inr (.inr 334)]) (h' := h8) (cs := []) (by decide +kernel) rfl trivial) ?_
            obtain ⟨x10, h9, hG, hF⟩ := bd_of hF
            have hq := rcv_ok (as := [.inr (.inl 6385252)]) (TO.gk (o_334 hL))
            obtain ⟨hN, hL, hQ⟩ := DX12_isWord (d := d + 6) hL  hG
            refine RK.of (RN.cv (i := 110) (k := 167) (q2 := iX12_isWord) (as := [.inr (.inr 334), .inr (.inl 6385252)]) (r := []) (v := some (.inl x10)) (h1 := h9) (by decide +kernel) rfl rfl rfl rfl rfl hq hN) ?_
            have hK := hK.tr hQ
            have hJ := hJ.tr hQ
            refine jn_use (fun j11 => ∀ (s12 : Int), j11 s12 = some r → RK xs L iX12_tested (d + 8) 76 [(0, .inr (.inr 334)), (1, .inl s7)] [.inl s12] h9 (RIo r) h0 r.2) ?_ ?_ hF
            · intro s12 hF
              refine RK.of (RN.blk (ops := [(76, .istore_n 2), (77, .aload_n 0)]) (pc' := 78) (lv' := [(2, .inl s12), (0, .inr (.inr 334)), (1, .inl s7)]) (st' := [.inr (.inr 334)]) (h' := h9) (cs := []) (by decide +kernel) rfl trivial) ?_
              obtain ⟨h13, hG, hF⟩ := bv_of hF
              have hq := rcv_ok (as := []) (TO.gk (o_334 hL))
              obtain ⟨hN, hL, hQ⟩ := DX12_passWord (d := d + 6) hL  hG
              refine RK.of (RN.cv (i := 114) (k := 168) (q2 := iX12_passWord) (as := [.inr (.inr 334)]) (r := []) (v := none) (h1 := h13) (by decide +kernel) rfl rfl rfl rfl rfl hq hN) ?_
              have hK := hK.tr hQ
              have hJ := hJ.tr hQ
              refine RK.of (RN.blk (ops := [(81, .aload_n 0), (82, .iload_n 2)]) (pc' := 83) (lv' := [(2, .inl s12), (0, .inr (.inr 334)), (1, .inl s7)]) (st' := [.inl s12, .inr (.inr 334)]) (h' := h13) (cs := []) (by decide +kernel) rfl trivial) ?_
              obtain ⟨x15, h14, hG, hF⟩ := bd_of hF
              obtain ⟨hN, hL, hQ⟩ := DX12_strength (d := d + 7) hL  hG
              refine RK.of (RN.cst (i := 165) (k := 175) (q2 := iX12_strength) (as := [.inl s12]) (r := [.inr (.inr 334)]) (v := some (.inl x15)) (h1 := h14) (by decide +kernel) rfl rfl rfl rfl rfl hN) ?_
              have hK := hK.tr hQ
              have hJ := hJ.tr hQ
              obtain ⟨h16, hG, hF⟩ := bv_of hF
              have hq := rcv_ok (as := [.inl x15]) (TO.gk (o_334 hL))
              obtain ⟨hN, hL, hQ⟩ := DX12_layDown (d := d + 6) hL  hG
              refine RK.of (RN.cv (i := 201) (k := 176) (q2 := iX12_layDown) (as := [.inr (.inr 334), .inl x15]) (r := []) (v := none) (h1 := h16) (by decide +kernel) rfl rfl rfl rfl rfl hq hN) ?_
              have hK := hK.tr hQ
              have hJ := hJ.tr hQ
              refine RK.of (RN.blk (ops := [(89, .aload_n 0)]) (pc' := 90) (lv' := [(2, .inl s12), (0, .inr (.inr 334)), (1, .inl s7)]) (st' := [.inr (.inr 334)]) (h' := h16) (cs := []) (by decide +kernel) rfl trivial) ?_
              refine RK.of (RN.gr (i := 29) (ci := 12) (k := 15) (fn := true) (v := 341) (by decide +kernel) rfl (TO.gk (o_334 hL)) (hL.fa (v := 341) 15 1 400 (o_334 hL) rfl (by decide) rfl (by decide)).1) ?_
              obtain ⟨hc, hF⟩ := gd_of hF
              refine RK.of (RN.blk (ops := [(93, .aload_n 0), (94, .getfield 162), (97, .iload_n 2), (98, .iastore)]) (pc' := 99) (lv' := [(2, .inl s12), (0, .inr (.inr 334)), (1, .inl s7)]) (st' := []) (h' := (m_wr h16 341 (m_rd h16 334 16) s12)) (cs := [GK h16 334 12, GI h16 341 1 (m_rd h16 334 16)]) (by decide +kernel) rfl ⟨(o_334 hL).gk, (a_341 hL).gi hc.1.1 hc.1.2, trivial⟩) ?_
              have hL : LR (m_wr h16 341 (m_rd h16 334 16) s12) := hL.wa (TA.le5 (a_341 hL) (by decide))
              have hK := hK.tr (KD.wr : KD h16 (m_wr h16 341 (m_rd h16 334 16) s12))
              have hJ := hJ.tr (KD.wr : KD h16 (m_wr h16 341 (m_rd h16 334 16) s12))
              refine RK.of (RN.blk (ops := [(99, .aload_n 0), (100, .dup), (101, .getfield 162), (104, .iconst 1), (105, .iadd), (106, .putfield 162)]) (pc' := 109) (lv' := [(2, .inl s12), (0, .inr (.inr 334)), (1, .inl s7)]) (st' := []) (h' := (m_wr (m_wr h16 341 (m_rd h16 334 16) s12) 334 16 (m_w32 ((m_rd (m_wr h16 341 (m_rd h16 334 16) s12) 334 16) + 1)))) (cs := [GK (m_wr h16 341 (m_rd h16 334 16) s12) 334 12, GK (m_wr h16 341 (m_rd h16 334 16) s12) 334 12]) (by decide +kernel) rfl ⟨(o_334 hL).gk, (o_334 hL).gk, trivial⟩) ?_
              have hL : LR (m_wr (m_wr h16 341 (m_rd h16 334 16) s12) 334 16 (m_w32 ((m_rd (m_wr h16 341 (m_rd h16 334 16) s12) 334 16) + 1))) := LR.wf (k := 16) hL (o_334 hL) rfl
              have hK := hK.tr (KD.wr : KD (m_wr h16 341 (m_rd h16 334 16) s12) (m_wr (m_wr h16 341 (m_rd h16 334 16) s12) 334 16 (m_w32 ((m_rd (m_wr h16 341 (m_rd h16 334 16) s12) 334 16) + 1))))
              have hJ := hJ.tr (KD.wr : KD (m_wr h16 341 (m_rd h16 334 16) s12) (m_wr (m_wr h16 341 (m_rd h16 334 16) s12) 334 16 (m_w32 ((m_rd (m_wr h16 341 (m_rd h16 334 16) s12) 334 16) + 1))))
              obtain ⟨h17, he, hF⟩ := hl_of hF
              refine RK.of (RN.hl he) ?_
              rw [← he] at hL hK hJ
              refine RK.of (RN.goto (off := -97) (tgt := 12) (by decide +kernel)) ?_
              exact RK.sub (ih _ _ hL hJ hF) (sub_cons rfl (sub_cons rfl sub_nil))
            · intro j11 Jj11 hF
              rcases it_of hF with ⟨hb, hF⟩ | ⟨hb, hF⟩
              · refine RK.of (RN.ift (cd := .eq) (off := 8) (tgt := 74) (by decide +kernel) (mif_eq hb)) ?_
                refine RK.of (RN.blk (ops := [(74, .bipush 13)]) (pc' := 76) (lv' := [(1, .inl s7), (0, .inr (.inr 334))]) (st' := [.inl 13]) (h' := h9) (cs := []) (by decide +kernel) rfl trivial) ?_
                exact RK.sub (Jj11 _ hF) (sub_cons rfl (sub_cons rfl sub_nil))
              · refine RK.of (RN.iff (cd := .eq) (off := 8) (tgt := 74) (by decide +kernel) (mif_eqn hb)) ?_
                refine RK.of (RN.blk (ops := [(69, .bipush 12)]) (pc' := 71) (lv' := [(1, .inl s7), (0, .inr (.inr 334))]) (st' := [.inl 12]) (h' := h9) (cs := []) (by decide +kernel) rfl trivial) ?_
                refine RK.of (RN.goto (off := 5) (tgt := 76) (by decide +kernel)) ?_
                exact RK.sub (Jj11 _ hF) (sub_cons rfl (sub_cons rfl sub_nil))
        · intro j6 Jj6 hF
          refine jn_use (fun j18 => ∀ (h19 : MH), LR h19 → KD hB h19 → j18 h19 = some r → RK xs L iX12_tested (d + 8) 49 [(0, .inr (.inr 334))] [] h19 (RIo r) h0 r.2) ?_ ?_ hF
          · intro h19 hL hJ hF
            have hK := hB0.tr hJ
            refine RK.of (RN.blk (ops := [(49, .iconst 1)]) (pc' := 50) (lv' := [(0, .inr (.inr 334))]) (st' := [.inl 1]) (h' := h19) (cs := []) (by decide +kernel) rfl trivial) ?_
            refine RK.of (RN.goto (off := 4) (tgt := 54) (by decide +kernel)) ?_
            exact RK.sub (Jj6 _ _ hL hJ hF) (sub_cons rfl sub_nil)
          · intro j18 Jj18 hF
            rcases it_of hF with ⟨hb, hF⟩ | ⟨hb, hF⟩
            · refine RK.of (RN.iff (cd := .ne) (off := 13) (tgt := 49) (by decide +kernel) (mif_nen hb)) ?_
              refine RK.of (RN.blk (ops := [(39, .aload_n 0), (40, .ldc2_w 215)]) (pc' := 43) (lv' := [(0, .inr (.inr 334)), (1, .inl v1)]) (st' := [.inr (.inl 28530), .inr (.inr 334)]) (h' := h4) (cs := []) (by decide +kernel) rfl trivial) ?_
              obtain ⟨x21, h20, hG, hF⟩ := bd_of hF
              have hq := rcv_ok (as := [.inr (.inl 28530)]) (TO.gk (o_334 hL))
              obtain ⟨hN, hL, hQ⟩ := DX12_isWord (d := d + 6) hL  hG
              refine RK.of (RN.cv (i := 110) (k := 167) (q2 := iX12_isWord) (as := [.inr (.inr 334), .inr (.inl 28530)]) (r := []) (v := some (.inl x21)) (h1 := h20) (by decide +kernel) rfl rfl rfl rfl rfl hq hN) ?_
              have hK := hK.tr hQ
              have hJ := hJ.tr hQ
              rcases it_of hF with ⟨hb, hF⟩ | ⟨hb, hF⟩
              · refine RK.of (RN.ift (cd := .eq) (off := 7) (tgt := 53) (by decide +kernel) (mif_eq hb)) ?_
                refine RK.of (RN.blk (ops := [(53, .iconst 0)]) (pc' := 54) (lv' := [(0, .inr (.inr 334)), (1, .inl v1)]) (st' := [.inl 0]) (h' := h20) (cs := []) (by decide +kernel) rfl trivial) ?_
                exact RK.sub (Jj6 _ _ hL hJ hF) (sub_cons rfl sub_nil)
              · refine RK.of (RN.iff (cd := .eq) (off := 7) (tgt := 53) (by decide +kernel) (mif_eqn hb)) ?_
                exact RK.sub (Jj18 _ hL hJ hF) (sub_cons rfl sub_nil)
            · refine RK.of (RN.ift (cd := .ne) (off := 13) (tgt := 49) (by decide +kernel) (mif_ne hb)) ?_
              exact RK.sub (Jj18 _ hL hJ hF) (sub_cons rfl sub_nil)
noncomputable def GX12_tested (h : MH) : Option (Int × MH) :=
  GX12_tested_L12 (fun h1 =>
   some (0, h1)) (fun h2 =>
   (bd (GX12_isInside h2) (fun x4 h3 =>
    (if x4 = 0 then
     (bv (GX12_layDown 1 h3) (fun h5 =>
      some (1, h5)))
    else
     (bd (GX12_see h3) (fun x7 h6 =>
      (bd (GX12_fails 0 (m_rd h6 334 8) h6) (fun x9 h8 =>
       gd [GT x9] (some (x9, h8)))))))))) FU 1 (m_wr (m_wr h 334 16 0) 334 13 0)
theorem DX12_tested {d : Nat} {h : MH} {r : Int × MH} (hL : LR h) (hF : GX12_tested h = some r) : RN xs L iX12_tested (d + 8) 0 (lvE 0 [.inr (.inr 334)]) [] h (RIo r) ∧ LR r.2 ∧ KD h r.2 := by
  unfold GX12_tested at hF
  have hK : KD h h := KD.rf
  show RK xs L iX12_tested (d + 8) 0 (lvE 0 [.inr (.inr 334)]) [] h (RIo r) h r.2
  refine RK.of (RN.blk (ops := [(0, .aload_n 0), (1, .iconst 0), (2, .putfield 162)]) (pc' := 5) (lv' := [(0, .inr (.inr 334))]) (st' := []) (h' := (m_wr h 334 16 0)) (cs := [GK h 334 12]) (by decide +kernel) rfl ⟨(o_334 hL).gk, trivial⟩) ?_
  have hL : LR (m_wr h 334 16 0) := LR.wf (k := 16) hL (o_334 hL) rfl
  have hK := hK.tr (KD.wr : KD h (m_wr h 334 16 0))
  refine RK.of (RN.blk (ops := [(5, .aload_n 0), (6, .iconst 0), (7, .putfield 159)]) (pc' := 10) (lv' := [(0, .inr (.inr 334))]) (st' := []) (h' := (m_wr (m_wr h 334 16 0) 334 13 0)) (cs := [GK (m_wr h 334 16 0) 334 12]) (by decide +kernel) rfl ⟨(o_334 hL).gk, trivial⟩) ?_
  have hL : LR (m_wr (m_wr h 334 16 0) 334 13 0) := LR.wf (k := 13) hL (o_334 hL) rfl
  have hK := hK.tr (KD.wr : KD (m_wr h 334 16 0) (m_wr (m_wr h 334 16 0) 334 13 0))
  refine RK.of (RN.blk (ops := [(10, .iconst 1), (11, .istore_n 1)]) (pc' := 12) (lv' := [(1, .inl 1), (0, .inr (.inr 334))]) (st' := []) (h' := (m_wr (m_wr h 334 16 0) 334 13 0)) (cs := []) (by decide +kernel) rfl trivial) ?_
  refine RK.sub (DX12_tested_L12 hK ?_ ?_ _ _ _ hL KD.rf hF) (sub_cons rfl (sub_cons rfl sub_nil))
  · intro h1 hL hq hF
    have hK := hK.tr hq
    refine RK.of (RN.blk (ops := [(23, .iconst 0)]) (pc' := 24) (lv' := []) (st' := [.inl 0]) (h' := h1) (cs := []) (by decide +kernel) rfl trivial) ?_
    exact RK.zR (by decide +kernel) rfl (Or.inl rfl) hL hK hF
  · intro h2 hL hq hF
    have hK := hK.tr hq
    refine RK.of (RN.blk (ops := [(112, .aload_n 0)]) (pc' := 113) (lv' := [(0, .inr (.inr 334))]) (st' := [.inr (.inr 334)]) (h' := h2) (cs := []) (by decide +kernel) rfl trivial) ?_
    obtain ⟨x4, h3, hG, hF⟩ := bd_of hF
    have hq := rcv_ok (as := []) (TO.gk (o_334 hL))
    obtain ⟨hN, hL, hQ⟩ := DX12_isInside (d := d + 7) hL  hG
    refine RK.of (RN.cv (i := 204) (k := 182) (q2 := iX12_isInside) (as := [.inr (.inr 334)]) (r := []) (v := some (.inl x4)) (h1 := h3) (by decide +kernel) rfl rfl rfl rfl rfl hq hN) ?_
    have hK := hK.tr hQ
    rcases it_of hF with ⟨hb, hF⟩ | ⟨hb, hF⟩
    · refine RK.of (RN.ift (cd := .eq) (off := 18) (tgt := 134) (by decide +kernel) (mif_eq hb)) ?_
      refine RK.of (RN.blk (ops := [(134, .aload_n 0), (135, .iconst 1)]) (pc' := 136) (lv' := [(0, .inr (.inr 334))]) (st' := [.inl 1, .inr (.inr 334)]) (h' := h3) (cs := []) (by decide +kernel) rfl trivial) ?_
      obtain ⟨h5, hG, hF⟩ := bv_of hF
      have hq := rcv_ok (as := [.inl 1]) (TO.gk (o_334 hL))
      obtain ⟨hN, hL, hQ⟩ := DX12_layDown (d := d + 6) hL  hG
      refine RK.of (RN.cv (i := 201) (k := 176) (q2 := iX12_layDown) (as := [.inr (.inr 334), .inl 1]) (r := []) (v := none) (h1 := h5) (by decide +kernel) rfl rfl rfl rfl rfl hq hN) ?_
      have hK := hK.tr hQ
      refine RK.of (RN.blk (ops := [(139, .iconst 1)]) (pc' := 140) (lv' := [(0, .inr (.inr 334))]) (st' := [.inl 1]) (h' := h5) (cs := []) (by decide +kernel) rfl trivial) ?_
      exact RK.zR (by decide +kernel) rfl (Or.inr rfl) hL hK hF
    · refine RK.of (RN.iff (cd := .eq) (off := 18) (tgt := 134) (by decide +kernel) (mif_eqn hb)) ?_
      refine RK.of (RN.blk (ops := [(119, .aload_n 0)]) (pc' := 120) (lv' := [(0, .inr (.inr 334))]) (st' := [.inr (.inr 334)]) (h' := h3) (cs := []) (by decide +kernel) rfl trivial) ?_
      obtain ⟨x7, h6, hG, hF⟩ := bd_of hF
      have hq := rcv_ok (as := []) (TO.gk (o_334 hL))
      obtain ⟨hN, hL, hQ⟩ := DX12_see (d := d + 7) hL  hG
      refine RK.of (RN.cv (i := 102) (k := 164) (q2 := iX12_see) (as := [.inr (.inr 334)]) (r := []) (v := some (.inl x7)) (h1 := h6) (by decide +kernel) rfl rfl rfl rfl rfl hq hN) ?_
      have hK := hK.tr hQ
      refine RK.of (RN.blk (ops := [(123, .pop), (124, .aload_n 0), (125, .iconst 0), (126, .aload_n 0), (127, .getfield 99)]) (pc' := 130) (lv' := [(0, .inr (.inr 334))]) (st' := [.inl (m_rd h6 334 8), .inl 0, .inr (.inr 334)]) (h' := h6) (cs := [GK h6 334 12]) (by decide +kernel) rfl ⟨(o_334 hL).gk, trivial⟩) ?_
      obtain ⟨x9, h8, hG, hF⟩ := bd_of hF
      have hq := rcv_ok (as := [.inl 0, .inl (m_rd h6 334 8)]) (TO.gk (o_334 hL))
      obtain ⟨hN, hL, hQ⟩ := DX12_fails (d := d + 7) hL  hG
      refine RK.of (RN.cv (i := 120) (k := 163) (q2 := iX12_fails) (as := [.inr (.inr 334), .inl 0, .inl (m_rd h6 334 8)]) (r := []) (v := some (.inl x9)) (h1 := h8) (by decide +kernel) rfl rfl rfl rfl rfl hq hN) ?_
      have hK := hK.tr hQ
      obtain ⟨hc, hF⟩ := gd_of hF
      exact RK.zR (by decide +kernel) rfl hc.1 hL hK hF
noncomputable def GX12_isTakeHere (h : MH) : Option (Int × MH) :=
  (bv (GX12_passWord h) (fun h1 =>
   gd [IB (m_rd h1 334 11) 6] (
    gd [IB (m_rd h1 334 11) 7, IB (m_w32 ((m_w32 (48 * (m_rd h1 334 11))) + (m_w32 (4 * (m_rd h1 339 (m_rd h1 334 11)))))) 288] (
     hl (m_wr h1 338 (m_w32 ((m_w32 (48 * (m_rd h1 334 11))) + (m_w32 (4 * (m_rd h1 339 (m_rd h1 334 11)))))) (m_rd h1 337 (m_rd h1 334 11))) (fun h2 =>
      (bd (GX12_sum h2) (fun x4 h3 =>
       (if x4 = 0 then
        some (0, h3)
       else
        gd [IB (m_rd h3 334 11) 7, IB (m_w32 ((m_w32 ((m_w32 (48 * (m_rd h1 334 11))) + (m_w32 (4 * (m_rd h1 339 (m_rd h1 334 11)))))) + 1)) 288] (
         hl (m_wr h3 338 (m_w32 ((m_w32 ((m_w32 (48 * (m_rd h1 334 11))) + (m_w32 (4 * (m_rd h1 339 (m_rd h1 334 11)))))) + 1)) (m_rd h3 337 (m_rd h3 334 11))) (fun h5 =>
          gd [IB (m_w32 ((m_w32 ((m_w32 (48 * (m_rd h1 334 11))) + (m_w32 (4 * (m_rd h1 339 (m_rd h1 334 11)))))) + 2)) 288] (
           hl (m_wr h5 338 (m_w32 ((m_w32 ((m_w32 (48 * (m_rd h1 334 11))) + (m_w32 (4 * (m_rd h1 339 (m_rd h1 334 11)))))) + 2)) (-1)) (fun h6 =>
            (bd (GX12_takesWord 26982 h6) (fun x8 h7 =>
             jn (fun (h10 : MH) =>
              gd [IB (m_rd h10 334 11) 7, IB (m_w32 ((m_w32 ((m_w32 (48 * (m_rd h1 334 11))) + (m_w32 (4 * (m_rd h1 339 (m_rd h1 334 11)))))) + 3)) 288] (
               hl (m_wr h10 338 (m_w32 ((m_w32 ((m_w32 (48 * (m_rd h1 334 11))) + (m_w32 (4 * (m_rd h1 339 (m_rd h1 334 11)))))) + 3)) (m_rd h10 337 (m_rd h10 334 11))) (fun h11 =>
                gd [IB (m_rd h11 334 11) 6] (
                 hl (m_wr h11 339 (m_rd h11 334 11) (m_w32 ((m_rd h11 339 (m_rd h11 334 11)) + 1))) (fun h12 =>
                  some (1, h12)))))) (fun j9 =>
              (if x8 = 0 then
               j9 h7
              else
               gd [IB (m_rd h7 334 11) 7, IB (m_w32 ((m_w32 ((m_w32 (48 * (m_rd h1 334 11))) + (m_w32 (4 * (m_rd h1 339 (m_rd h1 334 11)))))) + 2)) 288] (
                hl (m_wr h7 338 (m_w32 ((m_w32 ((m_w32 (48 * (m_rd h1 334 11))) + (m_w32 (4 * (m_rd h1 339 (m_rd h1 334 11)))))) + 2)) (m_rd h7 337 (m_rd h7 334 11))) (fun h13 =>
                 (bd (GX12_tested h13) (fun x15 h14 =>
                  (if x15 = 0 then
                   some (0, h14)
                  else
                   j9 h14)))))))))))))))))))))
theorem DX12_isTakeHere {d : Nat} {h : MH} {r : Int × MH} (hL : LR h) (hF : GX12_isTakeHere h = some r) : RN xs L iX12_isTakeHere (d + 9) 0 (lvE 0 [.inr (.inr 334)]) [] h (RIo r) ∧ LR r.2 ∧ KD h r.2 := by
  unfold GX12_isTakeHere at hF
  have hK : KD h h := KD.rf
  show RK xs L iX12_isTakeHere (d + 9) 0 (lvE 0 [.inr (.inr 334)]) [] h (RIo r) h r.2
  refine RK.of (RN.blk (ops := [(0, .aload_n 0)]) (pc' := 1) (lv' := [(0, .inr (.inr 334))]) (st' := [.inr (.inr 334)]) (h' := h) (cs := []) (by decide +kernel) rfl trivial) ?_
  obtain ⟨h1, hG, hF⟩ := bv_of hF
  have hq := rcv_ok (as := []) (TO.gk (o_334 hL))
  obtain ⟨hN, hL, hQ⟩ := DX12_passWord (d := d + 7) hL  hG
  refine RK.of (RN.cv (i := 114) (k := 168) (q2 := iX12_passWord) (as := [.inr (.inr 334)]) (r := []) (v := none) (h1 := h1) (by decide +kernel) rfl rfl rfl rfl rfl hq hN) ?_
  have hK := hK.tr hQ
  refine RK.of (RN.blk (ops := [(4, .bipush 48), (6, .aload_n 0), (7, .getfield 153), (10, .imul), (11, .iconst 4), (12, .aload_n 0)]) (pc' := 13) (lv' := [(0, .inr (.inr 334))]) (st' := [.inr (.inr 334), .inl 4, .inl (m_w32 (48 * (m_rd h1 334 11)))]) (h' := h1) (cs := [GK h1 334 12]) (by decide +kernel) rfl ⟨(o_334 hL).gk, trivial⟩) ?_
  refine RK.of (RN.gr (i := 23) (ci := 12) (k := 6) (fn := true) (v := 339) (by decide +kernel) rfl (TO.gk (o_334 hL)) (hL.fa (v := 339) 6 1 6 (o_334 hL) rfl (by decide) rfl (by decide)).1) ?_
  obtain ⟨hc, hF⟩ := gd_of hF
  refine RK.of (RN.blk (ops := [(16, .aload_n 0), (17, .getfield 153), (20, .iaload), (21, .imul), (22, .iadd), (23, .istore_n 1), (24, .aload_n 0)]) (pc' := 25) (lv' := [(1, .inl (m_w32 ((m_w32 (48 * (m_rd h1 334 11))) + (m_w32 (4 * (m_rd h1 339 (m_rd h1 334 11))))))), (0, .inr (.inr 334))]) (st' := [.inr (.inr 334)]) (h' := h1) (cs := [GK h1 334 12, GI h1 339 1 (m_rd h1 334 11)]) (by decide +kernel) rfl ⟨(o_334 hL).gk, (a_339 hL).gi hc.1.1 hc.1.2, trivial⟩) ?_
  refine RK.of (RN.gr (i := 20) (ci := 12) (k := 5) (fn := true) (v := 338) (by decide +kernel) rfl (TO.gk (o_334 hL)) (hL.fa (v := 338) 5 1 288 (o_334 hL) rfl (by decide) rfl (by decide)).1) ?_
  refine RK.of (RN.blk (ops := [(28, .iload_n 1), (29, .aload_n 0)]) (pc' := 30) (lv' := [(1, .inl (m_w32 ((m_w32 (48 * (m_rd h1 334 11))) + (m_w32 (4 * (m_rd h1 339 (m_rd h1 334 11))))))), (0, .inr (.inr 334))]) (st' := [.inr (.inr 334), .inl (m_w32 ((m_w32 (48 * (m_rd h1 334 11))) + (m_w32 (4 * (m_rd h1 339 (m_rd h1 334 11)))))), .inr (.inr 338)]) (h' := h1) (cs := []) (by decide +kernel) rfl trivial) ?_
  refine RK.of (RN.gr (i := 17) (ci := 12) (k := 4) (fn := true) (v := 337) (by decide +kernel) rfl (TO.gk (o_334 hL)) (hL.fa (v := 337) 4 1 7 (o_334 hL) rfl (by decide) rfl (by decide)).1) ?_
  obtain ⟨hc, hF⟩ := gd_of hF
  refine RK.of (RN.blk (ops := [(33, .aload_n 0), (34, .getfield 153), (37, .iaload), (38, .iastore)]) (pc' := 39) (lv' := [(1, .inl (m_w32 ((m_w32 (48 * (m_rd h1 334 11))) + (m_w32 (4 * (m_rd h1 339 (m_rd h1 334 11))))))), (0, .inr (.inr 334))]) (st' := []) (h' := (m_wr h1 338 (m_w32 ((m_w32 (48 * (m_rd h1 334 11))) + (m_w32 (4 * (m_rd h1 339 (m_rd h1 334 11)))))) (m_rd h1 337 (m_rd h1 334 11)))) (cs := [GK h1 334 12, GI h1 337 1 (m_rd h1 334 11), GI h1 338 1 (m_w32 ((m_w32 (48 * (m_rd h1 334 11))) + (m_w32 (4 * (m_rd h1 339 (m_rd h1 334 11))))))]) (by decide +kernel) rfl ⟨(o_334 hL).gk, (a_337 hL).gi hc.1.1 hc.1.2, (a_338 hL).gi hc.2.1.1 hc.2.1.2, trivial⟩) ?_
  have hL : LR (m_wr h1 338 (m_w32 ((m_w32 (48 * (m_rd h1 334 11))) + (m_w32 (4 * (m_rd h1 339 (m_rd h1 334 11)))))) (m_rd h1 337 (m_rd h1 334 11))) := hL.wa (TA.le5 (a_338 hL) (by decide))
  have hK := hK.tr (KD.wr : KD h1 (m_wr h1 338 (m_w32 ((m_w32 (48 * (m_rd h1 334 11))) + (m_w32 (4 * (m_rd h1 339 (m_rd h1 334 11)))))) (m_rd h1 337 (m_rd h1 334 11))))
  obtain ⟨h2, he, hF⟩ := hl_of hF
  refine RK.of (RN.hl he) ?_
  rw [← he] at hL hK
  refine RK.of (RN.blk (ops := [(39, .aload_n 0)]) (pc' := 40) (lv' := [(1, .inl (m_w32 ((m_w32 (48 * (m_rd h1 334 11))) + (m_w32 (4 * (m_rd h1 339 (m_rd h1 334 11))))))), (0, .inr (.inr 334))]) (st' := [.inr (.inr 334)]) (h' := h2) (cs := []) (by decide +kernel) rfl trivial) ?_
  obtain ⟨x4, h3, hG, hF⟩ := bd_of hF
  have hq := rcv_ok (as := []) (TO.gk (o_334 hL))
  obtain ⟨hN, hL, hQ⟩ := DX12_sum (d := d + 3) hL  hG
  refine RK.of (RN.cv (i := 190) (k := 179) (q2 := iX12_sum) (as := [.inr (.inr 334)]) (r := []) (v := some (.inl x4)) (h1 := h3) (by decide +kernel) rfl rfl rfl rfl rfl hq hN) ?_
  have hK := hK.tr hQ
  rcases it_of hF with ⟨hb, hF⟩ | ⟨hb, hF⟩
  · refine RK.of (RN.iff (cd := .ne) (off := 5) (tgt := 48) (by decide +kernel) (mif_nen hb)) ?_
    refine RK.of (RN.blk (ops := [(46, .iconst 0)]) (pc' := 47) (lv' := [(1, .inl (m_w32 ((m_w32 (48 * (m_rd h1 334 11))) + (m_w32 (4 * (m_rd h1 339 (m_rd h1 334 11))))))), (0, .inr (.inr 334))]) (st' := [.inl 0]) (h' := h3) (cs := []) (by decide +kernel) rfl trivial) ?_
    exact RK.zR (by decide +kernel) rfl (Or.inl rfl) hL hK hF
  · refine RK.of (RN.ift (cd := .ne) (off := 5) (tgt := 48) (by decide +kernel) (mif_ne hb)) ?_
    refine RK.of (RN.blk (ops := [(48, .aload_n 0)]) (pc' := 49) (lv' := [(1, .inl (m_w32 ((m_w32 (48 * (m_rd h1 334 11))) + (m_w32 (4 * (m_rd h1 339 (m_rd h1 334 11))))))), (0, .inr (.inr 334))]) (st' := [.inr (.inr 334)]) (h' := h3) (cs := []) (by decide +kernel) rfl trivial) ?_
    refine RK.of (RN.gr (i := 20) (ci := 12) (k := 5) (fn := true) (v := 338) (by decide +kernel) rfl (TO.gk (o_334 hL)) (hL.fa (v := 338) 5 1 288 (o_334 hL) rfl (by decide) rfl (by decide)).1) ?_
    refine RK.of (RN.blk (ops := [(52, .iload_n 1), (53, .iconst 1), (54, .iadd), (55, .aload_n 0)]) (pc' := 56) (lv' := [(1, .inl (m_w32 ((m_w32 (48 * (m_rd h1 334 11))) + (m_w32 (4 * (m_rd h1 339 (m_rd h1 334 11))))))), (0, .inr (.inr 334))]) (st' := [.inr (.inr 334), .inl (m_w32 ((m_w32 ((m_w32 (48 * (m_rd h1 334 11))) + (m_w32 (4 * (m_rd h1 339 (m_rd h1 334 11)))))) + 1)), .inr (.inr 338)]) (h' := h3) (cs := []) (by decide +kernel) rfl trivial) ?_
    refine RK.of (RN.gr (i := 17) (ci := 12) (k := 4) (fn := true) (v := 337) (by decide +kernel) rfl (TO.gk (o_334 hL)) (hL.fa (v := 337) 4 1 7 (o_334 hL) rfl (by decide) rfl (by decide)).1) ?_
    obtain ⟨hc, hF⟩ := gd_of hF
    refine RK.of (RN.blk (ops := [(59, .aload_n 0), (60, .getfield 153), (63, .iaload), (64, .iastore)]) (pc' := 65) (lv' := [(1, .inl (m_w32 ((m_w32 (48 * (m_rd h1 334 11))) + (m_w32 (4 * (m_rd h1 339 (m_rd h1 334 11))))))), (0, .inr (.inr 334))]) (st' := []) (h' := (m_wr h3 338 (m_w32 ((m_w32 ((m_w32 (48 * (m_rd h1 334 11))) + (m_w32 (4 * (m_rd h1 339 (m_rd h1 334 11)))))) + 1)) (m_rd h3 337 (m_rd h3 334 11)))) (cs := [GK h3 334 12, GI h3 337 1 (m_rd h3 334 11), GI h3 338 1 (m_w32 ((m_w32 ((m_w32 (48 * (m_rd h1 334 11))) + (m_w32 (4 * (m_rd h1 339 (m_rd h1 334 11)))))) + 1))]) (by decide +kernel) rfl ⟨(o_334 hL).gk, (a_337 hL).gi hc.1.1 hc.1.2, (a_338 hL).gi hc.2.1.1 hc.2.1.2, trivial⟩) ?_
    have hL : LR (m_wr h3 338 (m_w32 ((m_w32 ((m_w32 (48 * (m_rd h1 334 11))) + (m_w32 (4 * (m_rd h1 339 (m_rd h1 334 11)))))) + 1)) (m_rd h3 337 (m_rd h3 334 11))) := hL.wa (TA.le5 (a_338 hL) (by decide))
    have hK := hK.tr (KD.wr : KD h3 (m_wr h3 338 (m_w32 ((m_w32 ((m_w32 (48 * (m_rd h1 334 11))) + (m_w32 (4 * (m_rd h1 339 (m_rd h1 334 11)))))) + 1)) (m_rd h3 337 (m_rd h3 334 11))))
    obtain ⟨h5, he, hF⟩ := hl_of hF
    refine RK.of (RN.hl he) ?_
    rw [← he] at hL hK
    refine RK.of (RN.blk (ops := [(65, .aload_n 0)]) (pc' := 66) (lv' := [(1, .inl (m_w32 ((m_w32 (48 * (m_rd h1 334 11))) + (m_w32 (4 * (m_rd h1 339 (m_rd h1 334 11))))))), (0, .inr (.inr 334))]) (st' := [.inr (.inr 334)]) (h' := h5) (cs := []) (by decide +kernel) rfl trivial) ?_
    refine RK.of (RN.gr (i := 20) (ci := 12) (k := 5) (fn := true) (v := 338) (by decide +kernel) rfl (TO.gk (o_334 hL)) (hL.fa (v := 338) 5 1 288 (o_334 hL) rfl (by decide) rfl (by decide)).1) ?_
    obtain ⟨hc, hF⟩ := gd_of hF
    refine RK.of (RN.blk (ops := [(69, .iload_n 1), (70, .iconst 2), (71, .iadd), (72, .iconst (-1)), (73, .iastore)]) (pc' := 74) (lv' := [(1, .inl (m_w32 ((m_w32 (48 * (m_rd h1 334 11))) + (m_w32 (4 * (m_rd h1 339 (m_rd h1 334 11))))))), (0, .inr (.inr 334))]) (st' := []) (h' := (m_wr h5 338 (m_w32 ((m_w32 ((m_w32 (48 * (m_rd h1 334 11))) + (m_w32 (4 * (m_rd h1 339 (m_rd h1 334 11)))))) + 2)) (-1))) (cs := [GI h5 338 1 (m_w32 ((m_w32 ((m_w32 (48 * (m_rd h1 334 11))) + (m_w32 (4 * (m_rd h1 339 (m_rd h1 334 11)))))) + 2))]) (by decide +kernel) rfl ⟨(a_338 hL).gi hc.1.1 hc.1.2, trivial⟩) ?_
    have hL : LR (m_wr h5 338 (m_w32 ((m_w32 ((m_w32 (48 * (m_rd h1 334 11))) + (m_w32 (4 * (m_rd h1 339 (m_rd h1 334 11)))))) + 2)) (-1)) := hL.wa (TA.le5 (a_338 hL) (by decide))
    have hK := hK.tr (KD.wr : KD h5 (m_wr h5 338 (m_w32 ((m_w32 ((m_w32 (48 * (m_rd h1 334 11))) + (m_w32 (4 * (m_rd h1 339 (m_rd h1 334 11)))))) + 2)) (-1)))
    obtain ⟨h6, he, hF⟩ := hl_of hF
    refine RK.of (RN.hl he) ?_
    rw [← he] at hL hK
    refine RK.of (RN.blk (ops := [(74, .aload_n 0), (75, .ldc2_w 217)]) (pc' := 78) (lv' := [(1, .inl (m_w32 ((m_w32 (48 * (m_rd h1 334 11))) + (m_w32 (4 * (m_rd h1 339 (m_rd h1 334 11))))))), (0, .inr (.inr 334))]) (st' := [.inr (.inl 26982), .inr (.inr 334)]) (h' := h6) (cs := []) (by decide +kernel) rfl trivial) ?_
    obtain ⟨x8, h7, hG, hF⟩ := bd_of hF
    have hq := rcv_ok (as := [.inr (.inl 26982)]) (TO.gk (o_334 hL))
    obtain ⟨hN, hL, hQ⟩ := DX12_takesWord (d := d + 6) hL  hG
    refine RK.of (RN.cv (i := 219) (k := 169) (q2 := iX12_takesWord) (as := [.inr (.inr 334), .inr (.inl 26982)]) (r := []) (v := some (.inl x8)) (h1 := h7) (by decide +kernel) rfl rfl rfl rfl rfl hq hN) ?_
    have hK := hK.tr hQ
    refine jn_use (fun j9 => ∀ (h10 : MH), LR h10 → KD h h10 → j9 h10 = some r → RK xs L iX12_isTakeHere (d + 9) 110 [(0, .inr (.inr 334)), (1, .inl (m_w32 ((m_w32 (48 * (m_rd h1 334 11))) + (m_w32 (4 * (m_rd h1 339 (m_rd h1 334 11)))))))] [] h10 (RIo r) h r.2) ?_ ?_ hF
    · intro h10 hL hK hF
      refine RK.of (RN.blk (ops := [(110, .aload_n 0)]) (pc' := 111) (lv' := [(0, .inr (.inr 334)), (1, .inl (m_w32 ((m_w32 (48 * (m_rd h1 334 11))) + (m_w32 (4 * (m_rd h1 339 (m_rd h1 334 11)))))))]) (st' := [.inr (.inr 334)]) (h' := h10) (cs := []) (by decide +kernel) rfl trivial) ?_
      refine RK.of (RN.gr (i := 20) (ci := 12) (k := 5) (fn := true) (v := 338) (by decide +kernel) rfl (TO.gk (o_334 hL)) (hL.fa (v := 338) 5 1 288 (o_334 hL) rfl (by decide) rfl (by decide)).1) ?_
      refine RK.of (RN.blk (ops := [(114, .iload_n 1), (115, .iconst 3), (116, .iadd), (117, .aload_n 0)]) (pc' := 118) (lv' := [(0, .inr (.inr 334)), (1, .inl (m_w32 ((m_w32 (48 * (m_rd h1 334 11))) + (m_w32 (4 * (m_rd h1 339 (m_rd h1 334 11)))))))]) (st' := [.inr (.inr 334), .inl (m_w32 ((m_w32 ((m_w32 (48 * (m_rd h1 334 11))) + (m_w32 (4 * (m_rd h1 339 (m_rd h1 334 11)))))) + 3)), .inr (.inr 338)]) (h' := h10) (cs := []) (by decide +kernel) rfl trivial) ?_
      refine RK.of (RN.gr (i := 17) (ci := 12) (k := 4) (fn := true) (v := 337) (by decide +kernel) rfl (TO.gk (o_334 hL)) (hL.fa (v := 337) 4 1 7 (o_334 hL) rfl (by decide) rfl (by decide)).1) ?_
      obtain ⟨hc, hF⟩ := gd_of hF
      refine RK.of (RN.blk (ops := [(121, .aload_n 0), (122, .getfield 153), (125, .iaload), (126, .iastore)]) (pc' := 127) (lv' := [(0, .inr (.inr 334)), (1, .inl (m_w32 ((m_w32 (48 * (m_rd h1 334 11))) + (m_w32 (4 * (m_rd h1 339 (m_rd h1 334 11)))))))]) (st' := []) (h' := (m_wr h10 338 (m_w32 ((m_w32 ((m_w32 (48 * (m_rd h1 334 11))) + (m_w32 (4 * (m_rd h1 339 (m_rd h1 334 11)))))) + 3)) (m_rd h10 337 (m_rd h10 334 11)))) (cs := [GK h10 334 12, GI h10 337 1 (m_rd h10 334 11), GI h10 338 1 (m_w32 ((m_w32 ((m_w32 (48 * (m_rd h1 334 11))) + (m_w32 (4 * (m_rd h1 339 (m_rd h1 334 11)))))) + 3))]) (by decide +kernel) rfl ⟨(o_334 hL).gk, (a_337 hL).gi hc.1.1 hc.1.2, (a_338 hL).gi hc.2.1.1 hc.2.1.2, trivial⟩) ?_
      have hL : LR (m_wr h10 338 (m_w32 ((m_w32 ((m_w32 (48 * (m_rd h1 334 11))) + (m_w32 (4 * (m_rd h1 339 (m_rd h1 334 11)))))) + 3)) (m_rd h10 337 (m_rd h10 334 11))) := hL.wa (TA.le5 (a_338 hL) (by decide))
      have hK := hK.tr (KD.wr : KD h10 (m_wr h10 338 (m_w32 ((m_w32 ((m_w32 (48 * (m_rd h1 334 11))) + (m_w32 (4 * (m_rd h1 339 (m_rd h1 334 11)))))) + 3)) (m_rd h10 337 (m_rd h10 334 11))))
      obtain ⟨h11, he, hF⟩ := hl_of hF
      refine RK.of (RN.hl he) ?_
      rw [← he] at hL hK
      refine RK.of (RN.blk (ops := [(127, .aload_n 0)]) (pc' := 128) (lv' := [(0, .inr (.inr 334)), (1, .inl (m_w32 ((m_w32 (48 * (m_rd h1 334 11))) + (m_w32 (4 * (m_rd h1 339 (m_rd h1 334 11)))))))]) (st' := [.inr (.inr 334)]) (h' := h11) (cs := []) (by decide +kernel) rfl trivial) ?_
      refine RK.of (RN.gr (i := 23) (ci := 12) (k := 6) (fn := true) (v := 339) (by decide +kernel) rfl (TO.gk (o_334 hL)) (hL.fa (v := 339) 6 1 6 (o_334 hL) rfl (by decide) rfl (by decide)).1) ?_
      obtain ⟨hc, hF⟩ := gd_of hF
      refine RK.of (RN.blk (ops := [(131, .aload_n 0), (132, .getfield 153), (135, .dup2), (136, .iaload), (137, .iconst 1), (138, .iadd), (139, .iastore)]) (pc' := 140) (lv' := [(0, .inr (.inr 334)), (1, .inl (m_w32 ((m_w32 (48 * (m_rd h1 334 11))) + (m_w32 (4 * (m_rd h1 339 (m_rd h1 334 11)))))))]) (st' := []) (h' := (m_wr h11 339 (m_rd h11 334 11) (m_w32 ((m_rd h11 339 (m_rd h11 334 11)) + 1)))) (cs := [GK h11 334 12, GI h11 339 1 (m_rd h11 334 11), GI h11 339 1 (m_rd h11 334 11)]) (by decide +kernel) rfl ⟨(o_334 hL).gk, (a_339 hL).gi hc.1.1 hc.1.2, (a_339 hL).gi hc.1.1 hc.1.2, trivial⟩) ?_
      have hL : LR (m_wr h11 339 (m_rd h11 334 11) (m_w32 ((m_rd h11 339 (m_rd h11 334 11)) + 1))) := hL.wa (TA.le5 (a_339 hL) (by decide))
      have hK := hK.tr (KD.wr : KD h11 (m_wr h11 339 (m_rd h11 334 11) (m_w32 ((m_rd h11 339 (m_rd h11 334 11)) + 1))))
      obtain ⟨h12, he, hF⟩ := hl_of hF
      refine RK.of (RN.hl he) ?_
      rw [← he] at hL hK
      refine RK.of (RN.blk (ops := [(140, .iconst 1)]) (pc' := 141) (lv' := [(0, .inr (.inr 334)), (1, .inl (m_w32 ((m_w32 (48 * (m_rd h1 334 11))) + (m_w32 (4 * (m_rd h1 339 (m_rd h1 334 11)))))))]) (st' := [.inl 1]) (h' := h12) (cs := []) (by decide +kernel) rfl trivial) ?_
      exact RK.zR (by decide +kernel) rfl (Or.inr rfl) hL hK hF
    · intro j9 Jj9 hF
      rcases it_of hF with ⟨hb, hF⟩ | ⟨hb, hF⟩
      · refine RK.of (RN.ift (cd := .eq) (off := 29) (tgt := 110) (by decide +kernel) (mif_eq hb)) ?_
        exact RK.sub (Jj9 _ hL hK hF) (sub_cons rfl (sub_cons rfl sub_nil))
      · refine RK.of (RN.iff (cd := .eq) (off := 29) (tgt := 110) (by decide +kernel) (mif_eqn hb)) ?_
        refine RK.of (RN.blk (ops := [(84, .aload_n 0)]) (pc' := 85) (lv' := [(1, .inl (m_w32 ((m_w32 (48 * (m_rd h1 334 11))) + (m_w32 (4 * (m_rd h1 339 (m_rd h1 334 11))))))), (0, .inr (.inr 334))]) (st' := [.inr (.inr 334)]) (h' := h7) (cs := []) (by decide +kernel) rfl trivial) ?_
        refine RK.of (RN.gr (i := 20) (ci := 12) (k := 5) (fn := true) (v := 338) (by decide +kernel) rfl (TO.gk (o_334 hL)) (hL.fa (v := 338) 5 1 288 (o_334 hL) rfl (by decide) rfl (by decide)).1) ?_
        refine RK.of (RN.blk (ops := [(88, .iload_n 1), (89, .iconst 2), (90, .iadd), (91, .aload_n 0)]) (pc' := 92) (lv' := [(1, .inl (m_w32 ((m_w32 (48 * (m_rd h1 334 11))) + (m_w32 (4 * (m_rd h1 339 (m_rd h1 334 11))))))), (0, .inr (.inr 334))]) (st' := [.inr (.inr 334), .inl (m_w32 ((m_w32 ((m_w32 (48 * (m_rd h1 334 11))) + (m_w32 (4 * (m_rd h1 339 (m_rd h1 334 11)))))) + 2)), .inr (.inr 338)]) (h' := h7) (cs := []) (by decide +kernel) rfl trivial) ?_
        refine RK.of (RN.gr (i := 17) (ci := 12) (k := 4) (fn := true) (v := 337) (by decide +kernel) rfl (TO.gk (o_334 hL)) (hL.fa (v := 337) 4 1 7 (o_334 hL) rfl (by decide) rfl (by decide)).1) ?_
        obtain ⟨hc, hF⟩ := gd_of hF
        refine RK.of (RN.blk (ops := [(95, .aload_n 0), (96, .getfield 153), (99, .iaload), (100, .iastore)]) (pc' := 101) (lv' := [(1, .inl (m_w32 ((m_w32 (48 * (m_rd h1 334 11))) + (m_w32 (4 * (m_rd h1 339 (m_rd h1 334 11))))))), (0, .inr (.inr 334))]) (st' := []) (h' := (m_wr h7 338 (m_w32 ((m_w32 ((m_w32 (48 * (m_rd h1 334 11))) + (m_w32 (4 * (m_rd h1 339 (m_rd h1 334 11)))))) + 2)) (m_rd h7 337 (m_rd h7 334 11)))) (cs := [GK h7 334 12, GI h7 337 1 (m_rd h7 334 11), GI h7 338 1 (m_w32 ((m_w32 ((m_w32 (48 * (m_rd h1 334 11))) + (m_w32 (4 * (m_rd h1 339 (m_rd h1 334 11)))))) + 2))]) (by decide +kernel) rfl ⟨(o_334 hL).gk, (a_337 hL).gi hc.1.1 hc.1.2, (a_338 hL).gi hc.2.1.1 hc.2.1.2, trivial⟩) ?_
        have hL : LR (m_wr h7 338 (m_w32 ((m_w32 ((m_w32 (48 * (m_rd h1 334 11))) + (m_w32 (4 * (m_rd h1 339 (m_rd h1 334 11)))))) + 2)) (m_rd h7 337 (m_rd h7 334 11))) := hL.wa (TA.le5 (a_338 hL) (by decide))
        have hK := hK.tr (KD.wr : KD h7 (m_wr h7 338 (m_w32 ((m_w32 ((m_w32 (48 * (m_rd h1 334 11))) + (m_w32 (4 * (m_rd h1 339 (m_rd h1 334 11)))))) + 2)) (m_rd h7 337 (m_rd h7 334 11))))
        obtain ⟨h13, he, hF⟩ := hl_of hF
        refine RK.of (RN.hl he) ?_
        rw [← he] at hL hK
        refine RK.of (RN.blk (ops := [(101, .aload_n 0)]) (pc' := 102) (lv' := [(1, .inl (m_w32 ((m_w32 (48 * (m_rd h1 334 11))) + (m_w32 (4 * (m_rd h1 339 (m_rd h1 334 11))))))), (0, .inr (.inr 334))]) (st' := [.inr (.inr 334)]) (h' := h13) (cs := []) (by decide +kernel) rfl trivial) ?_
        obtain ⟨x15, h14, hG, hF⟩ := bd_of hF
        have hq := rcv_ok (as := []) (TO.gk (o_334 hL))
        obtain ⟨hN, hL, hQ⟩ := DX12_tested (d := d) hL  hG
        refine RK.of (RN.cv (i := 222) (k := 184) (q2 := iX12_tested) (as := [.inr (.inr 334)]) (r := []) (v := some (.inl x15)) (h1 := h14) (by decide +kernel) rfl rfl rfl rfl rfl hq hN) ?_
        have hK := hK.tr hQ
        rcases it_of hF with ⟨hb, hF⟩ | ⟨hb, hF⟩
        · refine RK.of (RN.iff (cd := .ne) (off := 5) (tgt := 110) (by decide +kernel) (mif_nen hb)) ?_
          refine RK.of (RN.blk (ops := [(108, .iconst 0)]) (pc' := 109) (lv' := [(1, .inl (m_w32 ((m_w32 (48 * (m_rd h1 334 11))) + (m_w32 (4 * (m_rd h1 339 (m_rd h1 334 11))))))), (0, .inr (.inr 334))]) (st' := [.inl 0]) (h' := h14) (cs := []) (by decide +kernel) rfl trivial) ?_
          exact RK.zR (by decide +kernel) rfl (Or.inl rfl) hL hK hF
        · refine RK.of (RN.ift (cd := .ne) (off := 5) (tgt := 110) (by decide +kernel) (mif_ne hb)) ?_
          exact RK.sub (Jj9 _ hL hK hF) (sub_cons rfl (sub_cons rfl sub_nil))
noncomputable def GX12_cellHere (a1 : Int) (a2 : Int) (a3 : Int) (h : MH) : Option (Int × MH) :=
  (bd (GX12_numberHere a2 a3 h) (fun x2 h1 =>
   (if x2 = 0 then
    some (0, h1)
   else
    gd [IB a1 136] (
     some (1, (m_wr h1 340 a1 (m_rd h1 334 10)))))))
theorem DX12_cellHere {d : Nat} {a1 : Int} {a2 : Int} {a3 : Int} {h : MH} {r : Int × MH} (hL : LR h) (hF : GX12_cellHere a1 a2 a3 h = some r) : RN xs L iX12_cellHere (d + 2) 0 (lvE 0 [.inr (.inr 334), .inl a1, .inl a2, .inl a3]) [] h (RIo r) ∧ LR r.2 ∧ KD h r.2 := by
  unfold GX12_cellHere at hF
  have hK : KD h h := KD.rf
  show RK xs L iX12_cellHere (d + 2) 0 (lvE 0 [.inr (.inr 334), .inl a1, .inl a2, .inl a3]) [] h (RIo r) h r.2
  refine RK.of (RN.blk (ops := [(0, .aload_n 0), (1, .iload_n 2), (2, .iload_n 3)]) (pc' := 3) (lv' := [(0, .inr (.inr 334)), (1, .inl a1), (2, .inl a2), (3, .inl a3)]) (st' := [.inl a3, .inl a2, .inr (.inr 334)]) (h' := h) (cs := []) (by decide +kernel) rfl trivial) ?_
  obtain ⟨x2, h1, hG, hF⟩ := bd_of hF
  have hq := rcv_ok (as := [.inl a2, .inl a3]) (TO.gk (o_334 hL))
  obtain ⟨hN, hL, hQ⟩ := DX12_numberHere (d := d) hL  hG
  refine RK.of (RN.cv (i := 174) (k := 170) (q2 := iX12_numberHere) (as := [.inr (.inr 334), .inl a2, .inl a3]) (r := []) (v := some (.inl x2)) (h1 := h1) (by decide +kernel) rfl rfl rfl rfl rfl hq hN) ?_
  have hK := hK.tr hQ
  rcases it_of hF with ⟨hb, hF⟩ | ⟨hb, hF⟩
  · refine RK.of (RN.iff (cd := .ne) (off := 5) (tgt := 11) (by decide +kernel) (mif_nen hb)) ?_
    refine RK.of (RN.blk (ops := [(9, .iconst 0)]) (pc' := 10) (lv' := [(0, .inr (.inr 334)), (1, .inl a1), (2, .inl a2), (3, .inl a3)]) (st' := [.inl 0]) (h' := h1) (cs := []) (by decide +kernel) rfl trivial) ?_
    exact RK.zR (by decide +kernel) rfl (Or.inl rfl) hL hK hF
  · refine RK.of (RN.ift (cd := .ne) (off := 5) (tgt := 11) (by decide +kernel) (mif_ne hb)) ?_
    refine RK.of (RN.blk (ops := [(11, .aload_n 0)]) (pc' := 12) (lv' := [(0, .inr (.inr 334)), (1, .inl a1), (2, .inl a2), (3, .inl a3)]) (st' := [.inr (.inr 334)]) (h' := h1) (cs := []) (by decide +kernel) rfl trivial) ?_
    refine RK.of (RN.gr (i := 26) (ci := 12) (k := 7) (fn := true) (v := 340) (by decide +kernel) rfl (TO.gk (o_334 hL)) (hL.fa (v := 340) 7 1 136 (o_334 hL) rfl (by decide) rfl (by decide)).1) ?_
    obtain ⟨hc, hF⟩ := gd_of hF
    refine RK.of (RN.blk (ops := [(15, .iload_n 1), (16, .aload_n 0), (17, .getfield 124), (20, .iastore)]) (pc' := 21) (lv' := [(0, .inr (.inr 334)), (1, .inl a1), (2, .inl a2), (3, .inl a3)]) (st' := []) (h' := (m_wr h1 340 a1 (m_rd h1 334 10))) (cs := [GK h1 334 12, GI h1 340 1 a1]) (by decide +kernel) rfl ⟨(o_334 hL).gk, (a_340 hL).gi hc.1.1 hc.1.2, trivial⟩) ?_
    have hL : LR (m_wr h1 340 a1 (m_rd h1 334 10)) := hL.wa (TA.le5 (a_340 hL) (by decide))
    have hK := hK.tr (KD.wr : KD h1 (m_wr h1 340 a1 (m_rd h1 334 10)))
    refine RK.of (RN.blk (ops := [(21, .iconst 1)]) (pc' := 22) (lv' := [(0, .inr (.inr 334)), (1, .inl a1), (2, .inl a2), (3, .inl a3)]) (st' := [.inl 1]) (h' := (m_wr h1 340 a1 (m_rd h1 334 10))) (cs := []) (by decide +kernel) rfl trivial) ?_
    exact RK.zR (by decide +kernel) rfl (Or.inr rfl) hL hK hF
end Gc
