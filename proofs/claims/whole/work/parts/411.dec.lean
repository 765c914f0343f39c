/-! METHODS AS FUNCTIONS, and their certificates (by program): X12_sum, X12_compare, X12_fact, X12_isInside, X12_closes, X12_tested, X12_isTakeHere, X12_cellHere, X12_isFrameHere, X12_isRoomHere, X12_isPlanHere -/
section Dc
variable {xs : Int → Int} {L : Int}
noncomputable def FX12_sum_L9 (u0 : Int) (K0 : MH → Option (Int × MH)) (K1 : MH → Option (Int × MH)) : Nat → MH → Option (Int × MH)
  | 0, _ => none
  | f + 1, h =>
    gd [GK h u0 12] (bd (FX12_see u0 h) (fun x2 h1 =>
     jn (fun (h4 : MH) =>
      gd [GK h4 u0 12, GK h4 u0 12, GB h4 (m_rd h4 u0 0) (m_rd h4 u0 8)] (
       jn (fun (s6 : Int) =>
        gd [GK h4 u0 12, GK h4 u0 12] (
         gd [GK h4 u0 12] (bd (FX12_term u0 (m_wr h4 u0 8 (m_w32 ((m_rd h4 u0 8) + 1)))) (fun x8 h7 =>
          (if x8 = 0 then
           K0 h7
          else
           gd [GK h7 u0 12] (bv (FX12_puts u0 s6 0 h7) (fun h9 =>
            FX12_sum_L9 u0 K0 K1 f h9))))))) (fun j5 =>
        (if (m_rd h4 (m_rd h4 u0 0) (m_rd h4 u0 8)) = 43 then
         j5 2
        else
         j5 3)))) (fun j3 =>
      (if x2 = 43 then
       j3 h1
      else
       gd [GK h1 u0 12] (bd (FX12_see u0 h1) (fun x11 h10 =>
        (if x11 = 45 then
         j3 h10
        else
         K1 h10)))))))
theorem CX12_sum_L9 {d : Nat} {u0 : Int} {K0 : MH → Option (Int × MH)} {K1 : MH → Option (Int × MH)} {r : Int × MH} (hK0 : ∀ (h : MH), K0 h = some r → RN xs L iX12_sum (d + 5) 64 [] [] h (RIo r)) (hK1 : ∀ (h : MH), K1 h = some r → RN xs L iX12_sum (d + 5) 75 [] [] h (RIo r)) : ∀ (f : Nat) (h : MH), FX12_sum_L9 u0 K0 K1 f  h = some r → RN xs L iX12_sum (d + 5) 9 [(0, .inr (.inr u0))] [] h (RIo r) := by
  intro f
  induction f with
  | zero =>
    intro h hF
    cases hF
  | succ f ih =>
    intro h hF
    unfold FX12_sum_L9 at hF
    refine RN.blk (ops := [(9, .aload_n 0)]) (pc' := 10) (lv' := [(0, .inr (.inr u0))]) (st' := [.inr (.inr u0)]) (h' := h) (cs := []) (by decide +kernel) rfl trivial ?_
    obtain ⟨hc, hF⟩ := gd_of hF
    obtain ⟨x2, h1, hG, hF⟩ := bd_of hF
    refine RN.cv (i := 102) (k := 164) (q2 := iX12_see) (as := [.inr (.inr u0)]) (r := []) (v := some (.inl x2)) (h1 := h1) (by decide +kernel) rfl rfl rfl rfl rfl (rcv_ok hc.1) (CX12_see (d := d + 4) hG) ?_
    refine RN.blk (ops := [(13, .bipush 43)]) (pc' := 15) (lv' := [(0, .inr (.inr u0))]) (st' := [.inl 43, .inl x2]) (h' := h1) (cs := []) (by decide +kernel) rfl trivial ?_
    refine jn_use (fun j3 => ∀ (h4 : MH), j3 h4 = some r → RN xs L iX12_sum (d + 5) 27 [(0, .inr (.inr u0))] [] h4 (RIo r)) ?_ ?_ hF
    · intro h4 hF
      obtain ⟨hc, hF⟩ := gd_of hF
      refine RN.blk (ops := [(27, .aload_n 0), (28, .getfield 7), (31, .aload_n 0), (32, .getfield 99), (35, .baload), (36, .bipush 43)]) (pc' := 38) (lv' := [(0, .inr (.inr u0))]) (st' := [.inl 43, .inl (m_rd h4 (m_rd h4 u0 0) (m_rd h4 u0 8))]) (h' := h4) (cs := [GK h4 u0 12, GK h4 u0 12, GB h4 (m_rd h4 u0 0) (m_rd h4 u0 8)]) (by decide +kernel) rfl hc ?_
      refine jn_use (fun j5 => ∀ (s6 : Int), j5 s6 = some r → RN xs L iX12_sum (d + 5) 46 [(0, .inr (.inr u0))] [.inl s6] h4 (RIo r)) ?_ ?_ hF
      · intro s6 hF
        obtain ⟨hc, hF⟩ := gd_of hF
        refine RN.blk (ops := [(46, .istore_n 1), (47, .aload_n 0), (48, .dup), (49, .getfield 99), (52, .iconst 1), (53, .iadd), (54, .putfield 99), (57, .aload_n 0)]) (pc' := 58) (lv' := [(1, .inl s6), (0, .inr (.inr u0))]) (st' := [.inr (.inr u0)]) (h' := (m_wr h4 u0 8 (m_w32 ((m_rd h4 u0 8) + 1)))) (cs := [GK h4 u0 12, GK h4 u0 12]) (by decide +kernel) rfl hc ?_
        obtain ⟨hc, hF⟩ := gd_of hF
        obtain ⟨x8, h7, hG, hF⟩ := bd_of hF
        refine RN.cv (i := 187) (k := 178) (q2 := iX12_term) (as := [.inr (.inr u0)]) (r := []) (v := some (.inl x8)) (h1 := h7) (by decide +kernel) rfl rfl rfl rfl rfl (rcv_ok hc.1) (CX12_term (d := d) hG) ?_
        rcases it_of hF with ⟨hb, hF⟩ | ⟨hb, hF⟩
        · refine RN.iff (cd := .ne) (off := 5) (tgt := 66) (by decide +kernel) (mif_nen hb) ?_
          exact RN.sub (hK0 _ hF) sub_nil
        · refine RN.ift (cd := .ne) (off := 5) (tgt := 66) (by decide +kernel) (mif_ne hb) ?_
          refine RN.blk (ops := [(66, .aload_n 0), (67, .iload_n 1), (68, .iconst 0)]) (pc' := 69) (lv' := [(1, .inl s6), (0, .inr (.inr u0))]) (st' := [.inl 0, .inl s6, .inr (.inr u0)]) (h' := h7) (cs := []) (by decide +kernel) rfl trivial ?_
          obtain ⟨hc, hF⟩ := gd_of hF
          obtain ⟨h9, hG, hF⟩ := bv_of hF
          refine RN.cv (i := 169) (k := 172) (q2 := iX12_puts) (as := [.inr (.inr u0), .inl s6, .inl 0]) (r := []) (v := none) (h1 := h9) (by decide +kernel) rfl rfl rfl rfl rfl (rcv_ok hc.1) (CX12_puts (d := d + 4) hG) ?_
          refine RN.goto (off := -63) (tgt := 9) (by decide +kernel) ?_
          exact RN.sub (ih _ hF) (sub_cons rfl sub_nil)
      · intro j5 Jj5 hF
        rcases it_of hF with ⟨hb, hF⟩ | ⟨hb, hF⟩
        · refine RN.icf (cd := .ne) (off := 7) (tgt := 45) (by decide +kernel) (mif_nen hb) ?_
          refine RN.blk (ops := [(41, .iconst 2)]) (pc' := 42) (lv' := [(0, .inr (.inr u0))]) (st' := [.inl 2]) (h' := h4) (cs := []) (by decide +kernel) rfl trivial ?_
          refine RN.goto (off := 4) (tgt := 46) (by decide +kernel) ?_
          exact RN.sub (Jj5 _ hF) (sub_cons rfl sub_nil)
        · refine RN.ict (cd := .ne) (off := 7) (tgt := 45) (by decide +kernel) (mif_ne hb) ?_
          refine RN.blk (ops := [(45, .iconst 3)]) (pc' := 46) (lv' := [(0, .inr (.inr u0))]) (st' := [.inl 3]) (h' := h4) (cs := []) (by decide +kernel) rfl trivial ?_
          exact RN.sub (Jj5 _ hF) (sub_cons rfl sub_nil)
    · intro j3 Jj3 hF
      rcases it_of hF with ⟨hb, hF⟩ | ⟨hb, hF⟩
      · refine RN.ict (cd := .eq) (off := 12) (tgt := 27) (by decide +kernel) (mif_eq hb) ?_
        exact RN.sub (Jj3 _ hF) (sub_cons rfl sub_nil)
      · refine RN.icf (cd := .eq) (off := 12) (tgt := 27) (by decide +kernel) (mif_eqn hb) ?_
        refine RN.blk (ops := [(18, .aload_n 0)]) (pc' := 19) (lv' := [(0, .inr (.inr u0))]) (st' := [.inr (.inr u0)]) (h' := h1) (cs := []) (by decide +kernel) rfl trivial ?_
        obtain ⟨hc, hF⟩ := gd_of hF
        obtain ⟨x11, h10, hG, hF⟩ := bd_of hF
        refine RN.cv (i := 102) (k := 164) (q2 := iX12_see) (as := [.inr (.inr u0)]) (r := []) (v := some (.inl x11)) (h1 := h10) (by decide +kernel) rfl rfl rfl rfl rfl (rcv_ok hc.1) (CX12_see (d := d + 4) hG) ?_
        refine RN.blk (ops := [(22, .bipush 45)]) (pc' := 24) (lv' := [(0, .inr (.inr u0))]) (st' := [.inl 45, .inl x11]) (h' := h10) (cs := []) (by decide +kernel) rfl trivial ?_
        rcases it_of hF with ⟨hb, hF⟩ | ⟨hb, hF⟩
        · refine RN.icf (cd := .ne) (off := 51) (tgt := 75) (by decide +kernel) (mif_nen hb) ?_
          exact RN.sub (Jj3 _ hF) (sub_cons rfl sub_nil)
        · refine RN.ict (cd := .ne) (off := 51) (tgt := 75) (by decide +kernel) (mif_ne hb) ?_
          exact RN.sub (hK1 _ hF) sub_nil
noncomputable def FX12_sum (t : Int) (h : MH) : Option (Int × MH) :=
  gd [GK h t 12] (bd (FX12_term t h) (fun x2 h1 =>
   (if x2 = 0 then
    some (0, h1)
   else
    FX12_sum_L9 t (fun h3 =>
     some (0, h3)) (fun h4 =>
     some (1, h4)) FU h1)))
theorem CX12_sum {d : Nat} {t : Int} {h : MH} {r : Int × MH} (hF : FX12_sum t h = some r) : RN xs L iX12_sum (d + 5) 0 (lvE 0 [.inr (.inr t)]) [] h (RIo r) := by
  unfold FX12_sum at hF
  refine RN.blk (ops := [(0, .aload_n 0)]) (pc' := 1) (lv' := [(0, .inr (.inr t))]) (st' := [.inr (.inr t)]) (h' := h) (cs := []) (by decide +kernel) rfl trivial ?_
  obtain ⟨hc, hF⟩ := gd_of hF
  obtain ⟨x2, h1, hG, hF⟩ := bd_of hF
  refine RN.cv (i := 187) (k := 178) (q2 := iX12_term) (as := [.inr (.inr t)]) (r := []) (v := some (.inl x2)) (h1 := h1) (by decide +kernel) rfl rfl rfl rfl rfl (rcv_ok hc.1) (CX12_term (d := d) hG) ?_
  rcases it_of hF with ⟨hb, hF⟩ | ⟨hb, hF⟩
  · refine RN.iff (cd := .ne) (off := 5) (tgt := 9) (by decide +kernel) (mif_nen hb) ?_
    refine RN.blk (ops := [(7, .iconst 0)]) (pc' := 8) (lv' := [(0, .inr (.inr t))]) (st' := [.inl 0]) (h' := h1) (cs := []) (by decide +kernel) rfl trivial ?_
    exact RN.zR (by decide +kernel) rfl (Or.inl rfl) hF
  · refine RN.ift (cd := .ne) (off := 5) (tgt := 9) (by decide +kernel) (mif_ne hb) ?_
    refine RN.sub (CX12_sum_L9 ?_ ?_ _ _ hF) (sub_cons rfl sub_nil)
    · intro h3 hF
      refine RN.blk (ops := [(64, .iconst 0)]) (pc' := 65) (lv' := []) (st' := [.inl 0]) (h' := h3) (cs := []) (by decide +kernel) rfl trivial ?_
      exact RN.zR (by decide +kernel) rfl (Or.inl rfl) hF
    · intro h4 hF
      refine RN.blk (ops := [(75, .iconst 1)]) (pc' := 76) (lv' := []) (st' := [.inl 1]) (h' := h4) (cs := []) (by decide +kernel) rfl trivial ?_
      exact RN.zR (by decide +kernel) rfl (Or.inr rfl) hF
noncomputable def FX12_compare (t : Int) (h : MH) : Option (Int × MH) :=
  gd [GK h t 12] (bd (FX12_sum t h) (fun x2 h1 =>
   (if x2 = 0 then
    some (0, h1)
   else
    gd [GK h1 t 12] (bd (FX12_see t h1) (fun x4 h3 =>
     gd [GK h3 t 12] (
      jn (
       gd [GK h3 t 12, GK h3 t 12] (
        jn (fun (s7 : Int) =>
         jn (fun (h9 : MH) =>
          gd [GK h9 t 12] (bd (FX12_makes t (m_rd h3 t 8) h9) (fun x11 h10 =>
           (if x11 = 0 then
            some (0, h10)
           else
            jn (fun (s13 : Int) =>
             gd [GK h10 t 12] (bd (FX12_sum t h10) (fun x15 h14 =>
              (if x15 = 0 then
               some (0, h14)
              else
               gd [GK h14 t 12] (bv (FX12_puts t (m_w32 (6 + s13)) 0 h14) (fun h16 =>
                some (1, h16))))))) (fun j12 =>
             (if x4 = 60 then
              (if s7 = 0 then
               j12 0
              else
               j12 1)
             else
              (if x4 = 61 then
               j12 2
              else
               (if s7 = 0 then
                j12 4
               else
                j12 3)))))))) (fun j8 =>
          (if s7 = 0 then
           j8 (m_wr h3 t 8 (m_w32 ((m_rd h3 t 8) + 1)))
          else
           gd [GK h3 t 12, GK h3 t 12] (
            j8 (m_wr (m_wr h3 t 8 (m_w32 ((m_rd h3 t 8) + 1))) t 8 (m_w32 ((m_rd (m_wr h3 t 8 (m_w32 ((m_rd h3 t 8) + 1))) t 8) + 1))))))) (fun j6 =>
         jn (
          j6 0) (fun j17 =>
          (if x4 = 61 then
           j17
          else
           gd [GK h3 t 12, GK h3 t 12] (
            (if (m_rd (m_wr h3 t 8 (m_w32 ((m_rd h3 t 8) + 1))) t 8) < (m_rd (m_wr h3 t 8 (m_w32 ((m_rd h3 t 8) + 1))) t 1) then
             gd [GK h3 t 12, GK h3 t 12, GB h3 (m_rd (m_wr h3 t 8 (m_w32 ((m_rd h3 t 8) + 1))) t 0) (m_rd (m_wr h3 t 8 (m_w32 ((m_rd h3 t 8) + 1))) t 8)] (
              (if (m_rd (m_wr h3 t 8 (m_w32 ((m_rd h3 t 8) + 1))) (m_rd (m_wr h3 t 8 (m_w32 ((m_rd h3 t 8) + 1))) t 0) (m_rd (m_wr h3 t 8 (m_w32 ((m_rd h3 t 8) + 1))) t 8)) = 61 then
               j6 1
              else
               j17))
            else
             j17))))))) (fun j5 =>
       (if x4 = 60 then
        j5
       else
        (if x4 = 61 then
         j5
        else
         (if x4 = 62 then
          j5
         else
          gd [GK h3 t 12] (bd (FX12_fails t 0 (m_rd h3 t 8) h3) (fun x19 h18 =>
           gd [GT x19] (some (x19, h18))))))))))))))
theorem CX12_compare {d : Nat} {t : Int} {h : MH} {r : Int × MH} (hF : FX12_compare t h = some r) : RN xs L iX12_compare (d + 6) 0 (lvE 0 [.inr (.inr t)]) [] h (RIo r) := by
  unfold FX12_compare at hF
  refine RN.blk (ops := [(0, .aload_n 0)]) (pc' := 1) (lv' := [(0, .inr (.inr t))]) (st' := [.inr (.inr t)]) (h' := h) (cs := []) (by decide +kernel) rfl trivial ?_
  obtain ⟨hc, hF⟩ := gd_of hF
  obtain ⟨x2, h1, hG, hF⟩ := bd_of hF
  refine RN.cv (i := 190) (k := 179) (q2 := iX12_sum) (as := [.inr (.inr t)]) (r := []) (v := some (.inl x2)) (h1 := h1) (by decide +kernel) rfl rfl rfl rfl rfl (rcv_ok hc.1) (CX12_sum (d := d) hG) ?_
  rcases it_of hF with ⟨hb, hF⟩ | ⟨hb, hF⟩
  · refine RN.iff (cd := .ne) (off := 5) (tgt := 9) (by decide +kernel) (mif_nen hb) ?_
    refine RN.blk (ops := [(7, .iconst 0)]) (pc' := 8) (lv' := [(0, .inr (.inr t))]) (st' := [.inl 0]) (h' := h1) (cs := []) (by decide +kernel) rfl trivial ?_
    exact RN.zR (by decide +kernel) rfl (Or.inl rfl) hF
  · refine RN.ift (cd := .ne) (off := 5) (tgt := 9) (by decide +kernel) (mif_ne hb) ?_
    refine RN.blk (ops := [(9, .aload_n 0)]) (pc' := 10) (lv' := [(0, .inr (.inr t))]) (st' := [.inr (.inr t)]) (h' := h1) (cs := []) (by decide +kernel) rfl trivial ?_
    obtain ⟨hc, hF⟩ := gd_of hF
    obtain ⟨x4, h3, hG, hF⟩ := bd_of hF
    refine RN.cv (i := 102) (k := 164) (q2 := iX12_see) (as := [.inr (.inr t)]) (r := []) (v := some (.inl x4)) (h1 := h3) (by decide +kernel) rfl rfl rfl rfl rfl (rcv_ok hc.1) (CX12_see (d := d + 5) hG) ?_
    obtain ⟨hc, hF⟩ := gd_of hF
    refine RN.blk (ops := [(13, .istore_n 1), (14, .aload_n 0), (15, .getfield 99), (18, .istore_n 2), (19, .iload_n 1), (20, .bipush 60)]) (pc' := 22) (lv' := [(2, .inl (m_rd h3 t 8)), (1, .inl x4), (0, .inr (.inr t))]) (st' := [.inl 60, .inl x4]) (h' := h3) (cs := [GK h3 t 12]) (by decide +kernel) rfl hc ?_
    refine jn_use (fun j5 => j5 = some r → RN xs L iX12_compare (d + 6) 44 [(0, .inr (.inr t)), (1, .inl x4), (2, .inl (m_rd h3 t 8))] [] h3 (RIo r)) ?_ ?_ hF
    · intro  hF
      obtain ⟨hc, hF⟩ := gd_of hF
      refine RN.blk (ops := [(44, .aload_n 0), (45, .dup), (46, .getfield 99), (49, .iconst 1), (50, .iadd), (51, .putfield 99), (54, .iload_n 1), (55, .bipush 61)]) (pc' := 57) (lv' := [(0, .inr (.inr t)), (1, .inl x4), (2, .inl (m_rd h3 t 8))]) (st' := [.inl 61, .inl x4]) (h' := (m_wr h3 t 8 (m_w32 ((m_rd h3 t 8) + 1)))) (cs := [GK h3 t 12, GK h3 t 12]) (by decide +kernel) rfl hc ?_
      refine jn_use (fun j6 => ∀ (s7 : Int), j6 s7 = some r → RN xs L iX12_compare (d + 6) 90 [(0, .inr (.inr t)), (1, .inl x4), (2, .inl (m_rd h3 t 8))] [.inl s7] (m_wr h3 t 8 (m_w32 ((m_rd h3 t 8) + 1))) (RIo r)) ?_ ?_ hF
      · intro s7 hF
        refine RN.blk (ops := [(90, .istore_n 3), (91, .iload_n 3)]) (pc' := 92) (lv' := [(3, .inl s7), (0, .inr (.inr t)), (1, .inl x4), (2, .inl (m_rd h3 t 8))]) (st' := [.inl s7]) (h' := (m_wr h3 t 8 (m_w32 ((m_rd h3 t 8) + 1)))) (cs := []) (by decide +kernel) rfl trivial ?_
        refine jn_use (fun j8 => ∀ (h9 : MH), j8 h9 = some r → RN xs L iX12_compare (d + 6) 105 [(0, .inr (.inr t)), (1, .inl x4), (2, .inl (m_rd h3 t 8)), (3, .inl s7)] [] h9 (RIo r)) ?_ ?_ hF
        · intro h9 hF
          refine RN.blk (ops := [(105, .aload_n 0), (106, .iload_n 2)]) (pc' := 107) (lv' := [(0, .inr (.inr t)), (1, .inl x4), (2, .inl (m_rd h3 t 8)), (3, .inl s7)]) (st' := [.inl (m_rd h3 t 8), .inr (.inr t)]) (h' := h9) (cs := []) (by decide +kernel) rfl trivial ?_
          obtain ⟨hc, hF⟩ := gd_of hF
          obtain ⟨x11, h10, hG, hF⟩ := bd_of hF
          refine RN.cv (i := 177) (k := 173) (q2 := iX12_makes) (as := [.inr (.inr t), .inl (m_rd h3 t 8)]) (r := []) (v := some (.inl x11)) (h1 := h10) (by decide +kernel) rfl rfl rfl rfl rfl (rcv_ok hc.1) (CX12_makes (d := d + 4) hG) ?_
          rcases it_of hF with ⟨hb, hF⟩ | ⟨hb, hF⟩
          · refine RN.iff (cd := .ne) (off := 5) (tgt := 115) (by decide +kernel) (mif_nen hb) ?_
            refine RN.blk (ops := [(113, .iconst 0)]) (pc' := 114) (lv' := [(0, .inr (.inr t)), (1, .inl x4), (2, .inl (m_rd h3 t 8)), (3, .inl s7)]) (st' := [.inl 0]) (h' := h10) (cs := []) (by decide +kernel) rfl trivial ?_
            exact RN.zR (by decide +kernel) rfl (Or.inl rfl) hF
          · refine RN.ift (cd := .ne) (off := 5) (tgt := 115) (by decide +kernel) (mif_ne hb) ?_
            refine RN.blk (ops := [(115, .iload_n 1), (116, .bipush 60)]) (pc' := 118) (lv' := [(0, .inr (.inr t)), (1, .inl x4), (2, .inl (m_rd h3 t 8)), (3, .inl s7)]) (st' := [.inl 60, .inl x4]) (h' := h10) (cs := []) (by decide +kernel) rfl trivial ?_
            refine jn_use (fun j12 => ∀ (s13 : Int), j12 s13 = some r → RN xs L iX12_compare (d + 6) 152 [(0, .inr (.inr t))] [.inl s13] h10 (RIo r)) ?_ ?_ hF
            · intro s13 hF
              refine RN.blk (ops := [(152, .istore 4), (154, .aload_n 0)]) (pc' := 155) (lv' := [(4, .inl s13), (0, .inr (.inr t))]) (st' := [.inr (.inr t)]) (h' := h10) (cs := []) (by decide +kernel) rfl trivial ?_
              obtain ⟨hc, hF⟩ := gd_of hF
              obtain ⟨x15, h14, hG, hF⟩ := bd_of hF
              refine RN.cv (i := 190) (k := 179) (q2 := iX12_sum) (as := [.inr (.inr t)]) (r := []) (v := some (.inl x15)) (h1 := h14) (by decide +kernel) rfl rfl rfl rfl rfl (rcv_ok hc.1) (CX12_sum (d := d) hG) ?_
              rcases it_of hF with ⟨hb, hF⟩ | ⟨hb, hF⟩
              · refine RN.iff (cd := .ne) (off := 5) (tgt := 163) (by decide +kernel) (mif_nen hb) ?_
                refine RN.blk (ops := [(161, .iconst 0)]) (pc' := 162) (lv' := [(4, .inl s13), (0, .inr (.inr t))]) (st' := [.inl 0]) (h' := h14) (cs := []) (by decide +kernel) rfl trivial ?_
                exact RN.zR (by decide +kernel) rfl (Or.inl rfl) hF
              · refine RN.ift (cd := .ne) (off := 5) (tgt := 163) (by decide +kernel) (mif_ne hb) ?_
                refine RN.blk (ops := [(163, .aload_n 0), (164, .bipush 6), (166, .iload 4), (168, .iadd), (169, .iconst 0)]) (pc' := 170) (lv' := [(4, .inl s13), (0, .inr (.inr t))]) (st' := [.inl 0, .inl (m_w32 (6 + s13)), .inr (.inr t)]) (h' := h14) (cs := []) (by decide +kernel) rfl trivial ?_
                obtain ⟨hc, hF⟩ := gd_of hF
                obtain ⟨h16, hG, hF⟩ := bv_of hF
                refine RN.cv (i := 169) (k := 172) (q2 := iX12_puts) (as := [.inr (.inr t), .inl (m_w32 (6 + s13)), .inl 0]) (r := []) (v := none) (h1 := h16) (by decide +kernel) rfl rfl rfl rfl rfl (rcv_ok hc.1) (CX12_puts (d := d + 5) hG) ?_
                refine RN.blk (ops := [(173, .iconst 1)]) (pc' := 174) (lv' := [(4, .inl s13), (0, .inr (.inr t))]) (st' := [.inl 1]) (h' := h16) (cs := []) (by decide +kernel) rfl trivial ?_
                exact RN.zR (by decide +kernel) rfl (Or.inr rfl) hF
            · intro j12 Jj12 hF
              rcases it_of hF with ⟨hb, hF⟩ | ⟨hb, hF⟩
              · refine RN.icf (cd := .ne) (off := 15) (tgt := 133) (by decide +kernel) (mif_nen hb) ?_
                refine RN.blk (ops := [(121, .iload_n 3)]) (pc' := 122) (lv' := [(0, .inr (.inr t)), (1, .inl x4), (2, .inl (m_rd h3 t 8)), (3, .inl s7)]) (st' := [.inl s7]) (h' := h10) (cs := []) (by decide +kernel) rfl trivial ?_
                rcases it_of hF with ⟨hb, hF⟩ | ⟨hb, hF⟩
                · refine RN.ift (cd := .eq) (off := 7) (tgt := 129) (by decide +kernel) (mif_eq hb) ?_
                  refine RN.blk (ops := [(129, .iconst 0)]) (pc' := 130) (lv' := [(0, .inr (.inr t)), (1, .inl x4), (2, .inl (m_rd h3 t 8)), (3, .inl s7)]) (st' := [.inl 0]) (h' := h10) (cs := []) (by decide +kernel) rfl trivial ?_
                  refine RN.goto (off := 22) (tgt := 152) (by decide +kernel) ?_
                  exact RN.sub (Jj12 _ hF) (sub_cons rfl sub_nil)
                · refine RN.iff (cd := .eq) (off := 7) (tgt := 129) (by decide +kernel) (mif_eqn hb) ?_
                  refine RN.blk (ops := [(125, .iconst 1)]) (pc' := 126) (lv' := [(0, .inr (.inr t)), (1, .inl x4), (2, .inl (m_rd h3 t 8)), (3, .inl s7)]) (st' := [.inl 1]) (h' := h10) (cs := []) (by decide +kernel) rfl trivial ?_
                  refine RN.goto (off := 26) (tgt := 152) (by decide +kernel) ?_
                  exact RN.sub (Jj12 _ hF) (sub_cons rfl sub_nil)
              · refine RN.ict (cd := .ne) (off := 15) (tgt := 133) (by decide +kernel) (mif_ne hb) ?_
                refine RN.blk (ops := [(133, .iload_n 1), (134, .bipush 61)]) (pc' := 136) (lv' := [(0, .inr (.inr t)), (1, .inl x4), (2, .inl (m_rd h3 t 8)), (3, .inl s7)]) (st' := [.inl 61, .inl x4]) (h' := h10) (cs := []) (by decide +kernel) rfl trivial ?_
                rcases it_of hF with ⟨hb, hF⟩ | ⟨hb, hF⟩
                · refine RN.icf (cd := .ne) (off := 7) (tgt := 143) (by decide +kernel) (mif_nen hb) ?_
                  refine RN.blk (ops := [(139, .iconst 2)]) (pc' := 140) (lv' := [(0, .inr (.inr t)), (1, .inl x4), (2, .inl (m_rd h3 t 8)), (3, .inl s7)]) (st' := [.inl 2]) (h' := h10) (cs := []) (by decide +kernel) rfl trivial ?_
                  refine RN.goto (off := 12) (tgt := 152) (by decide +kernel) ?_
                  exact RN.sub (Jj12 _ hF) (sub_cons rfl sub_nil)
                · refine RN.ict (cd := .ne) (off := 7) (tgt := 143) (by decide +kernel) (mif_ne hb) ?_
                  refine RN.blk (ops := [(143, .iload_n 3)]) (pc' := 144) (lv' := [(0, .inr (.inr t)), (1, .inl x4), (2, .inl (m_rd h3 t 8)), (3, .inl s7)]) (st' := [.inl s7]) (h' := h10) (cs := []) (by decide +kernel) rfl trivial ?_
                  rcases it_of hF with ⟨hb, hF⟩ | ⟨hb, hF⟩
                  · refine RN.ift (cd := .eq) (off := 7) (tgt := 151) (by decide +kernel) (mif_eq hb) ?_
                    refine RN.blk (ops := [(151, .iconst 4)]) (pc' := 152) (lv' := [(0, .inr (.inr t)), (1, .inl x4), (2, .inl (m_rd h3 t 8)), (3, .inl s7)]) (st' := [.inl 4]) (h' := h10) (cs := []) (by decide +kernel) rfl trivial ?_
                    exact RN.sub (Jj12 _ hF) (sub_cons rfl sub_nil)
                  · refine RN.iff (cd := .eq) (off := 7) (tgt := 151) (by decide +kernel) (mif_eqn hb) ?_
                    refine RN.blk (ops := [(147, .iconst 3)]) (pc' := 148) (lv' := [(0, .inr (.inr t)), (1, .inl x4), (2, .inl (m_rd h3 t 8)), (3, .inl s7)]) (st' := [.inl 3]) (h' := h10) (cs := []) (by decide +kernel) rfl trivial ?_
                    refine RN.goto (off := 4) (tgt := 152) (by decide +kernel) ?_
                    exact RN.sub (Jj12 _ hF) (sub_cons rfl sub_nil)
        · intro j8 Jj8 hF
          rcases it_of hF with ⟨hb, hF⟩ | ⟨hb, hF⟩
          · refine RN.ift (cd := .eq) (off := 13) (tgt := 105) (by decide +kernel) (mif_eq hb) ?_
            exact RN.sub (Jj8 _ hF) (sub_cons rfl (sub_cons rfl (sub_cons rfl (sub_cons rfl sub_nil))))
          · refine RN.iff (cd := .eq) (off := 13) (tgt := 105) (by decide +kernel) (mif_eqn hb) ?_
            obtain ⟨hc, hF⟩ := gd_of hF
            refine RN.blk (ops := [(95, .aload_n 0), (96, .dup), (97, .getfield 99), (100, .iconst 1), (101, .iadd), (102, .putfield 99)]) (pc' := 105) (lv' := [(3, .inl s7), (0, .inr (.inr t)), (1, .inl x4), (2, .inl (m_rd h3 t 8))]) (st' := []) (h' := (m_wr (m_wr h3 t 8 (m_w32 ((m_rd h3 t 8) + 1))) t 8 (m_w32 ((m_rd (m_wr h3 t 8 (m_w32 ((m_rd h3 t 8) + 1))) t 8) + 1)))) (cs := [GK h3 t 12, GK h3 t 12]) (by decide +kernel) rfl hc ?_
            exact RN.sub (Jj8 _ hF) (sub_cons rfl (sub_cons rfl (sub_cons rfl (sub_cons rfl sub_nil))))
      · intro j6 Jj6 hF
        refine jn_use (fun j17 => j17 = some r → RN xs L iX12_compare (d + 6) 89 [(0, .inr (.inr t)), (1, .inl x4), (2, .inl (m_rd h3 t 8))] [] (m_wr h3 t 8 (m_w32 ((m_rd h3 t 8) + 1))) (RIo r)) ?_ ?_ hF
        · intro  hF
          refine RN.blk (ops := [(89, .iconst 0)]) (pc' := 90) (lv' := [(0, .inr (.inr t)), (1, .inl x4), (2, .inl (m_rd h3 t 8))]) (st' := [.inl 0]) (h' := (m_wr h3 t 8 (m_w32 ((m_rd h3 t 8) + 1)))) (cs := []) (by decide +kernel) rfl trivial ?_
          exact RN.sub (Jj6 _ hF) (sub_cons rfl (sub_cons rfl (sub_cons rfl sub_nil)))
        · intro j17 Jj17 hF
          rcases it_of hF with ⟨hb, hF⟩ | ⟨hb, hF⟩
          · refine RN.ict (cd := .eq) (off := 32) (tgt := 89) (by decide +kernel) (mif_eq hb) ?_
            exact RN.sub (Jj17 hF) (sub_cons rfl (sub_cons rfl (sub_cons rfl sub_nil)))
          · refine RN.icf (cd := .eq) (off := 32) (tgt := 89) (by decide +kernel) (mif_eqn hb) ?_
            obtain ⟨hc, hF⟩ := gd_of hF
            refine RN.blk (ops := [(60, .aload_n 0), (61, .getfield 99), (64, .aload_n 0), (65, .getfield 89)]) (pc' := 68) (lv' := [(0, .inr (.inr t)), (1, .inl x4), (2, .inl (m_rd h3 t 8))]) (st' := [.inl (m_rd (m_wr h3 t 8 (m_w32 ((m_rd h3 t 8) + 1))) t 1), .inl (m_rd (m_wr h3 t 8 (m_w32 ((m_rd h3 t 8) + 1))) t 8)]) (h' := (m_wr h3 t 8 (m_w32 ((m_rd h3 t 8) + 1)))) (cs := [GK h3 t 12, GK h3 t 12]) (by decide +kernel) rfl hc ?_
            rcases it_of hF with ⟨hb, hF⟩ | ⟨hb, hF⟩
            · refine RN.icf (cd := .ge) (off := 21) (tgt := 89) (by decide +kernel) (mif_gen hb) ?_
              obtain ⟨hc, hF⟩ := gd_of hF
              refine RN.blk (ops := [(71, .aload_n 0), (72, .getfield 7), (75, .aload_n 0), (76, .getfield 99), (79, .baload), (80, .bipush 61)]) (pc' := 82) (lv' := [(0, .inr (.inr t)), (1, .inl x4), (2, .inl (m_rd h3 t 8))]) (st' := [.inl 61, .inl (m_rd (m_wr h3 t 8 (m_w32 ((m_rd h3 t 8) + 1))) (m_rd (m_wr h3 t 8 (m_w32 ((m_rd h3 t 8) + 1))) t 0) (m_rd (m_wr h3 t 8 (m_w32 ((m_rd h3 t 8) + 1))) t 8))]) (h' := (m_wr h3 t 8 (m_w32 ((m_rd h3 t 8) + 1)))) (cs := [GK h3 t 12, GK h3 t 12, GB h3 (m_rd (m_wr h3 t 8 (m_w32 ((m_rd h3 t 8) + 1))) t 0) (m_rd (m_wr h3 t 8 (m_w32 ((m_rd h3 t 8) + 1))) t 8)]) (by decide +kernel) rfl hc ?_
              rcases it_of hF with ⟨hb, hF⟩ | ⟨hb, hF⟩
              · refine RN.icf (cd := .ne) (off := 7) (tgt := 89) (by decide +kernel) (mif_nen hb) ?_
                refine RN.blk (ops := [(85, .iconst 1)]) (pc' := 86) (lv' := [(0, .inr (.inr t)), (1, .inl x4), (2, .inl (m_rd h3 t 8))]) (st' := [.inl 1]) (h' := (m_wr h3 t 8 (m_w32 ((m_rd h3 t 8) + 1)))) (cs := []) (by decide +kernel) rfl trivial ?_
                refine RN.goto (off := 4) (tgt := 90) (by decide +kernel) ?_
                exact RN.sub (Jj6 _ hF) (sub_cons rfl (sub_cons rfl (sub_cons rfl sub_nil)))
              · refine RN.ict (cd := .ne) (off := 7) (tgt := 89) (by decide +kernel) (mif_ne hb) ?_
                exact RN.sub (Jj17 hF) (sub_cons rfl (sub_cons rfl (sub_cons rfl sub_nil)))
            · refine RN.ict (cd := .ge) (off := 21) (tgt := 89) (by decide +kernel) (mif_ge hb) ?_
              exact RN.sub (Jj17 hF) (sub_cons rfl (sub_cons rfl (sub_cons rfl sub_nil)))
    · intro j5 Jj5 hF
      rcases it_of hF with ⟨hb, hF⟩ | ⟨hb, hF⟩
      · refine RN.ict (cd := .eq) (off := 22) (tgt := 44) (by decide +kernel) (mif_eq hb) ?_
        exact RN.sub (Jj5 hF) (sub_cons rfl (sub_cons rfl (sub_cons rfl sub_nil)))
      · refine RN.icf (cd := .eq) (off := 22) (tgt := 44) (by decide +kernel) (mif_eqn hb) ?_
        refine RN.blk (ops := [(25, .iload_n 1), (26, .bipush 61)]) (pc' := 28) (lv' := [(2, .inl (m_rd h3 t 8)), (1, .inl x4), (0, .inr (.inr t))]) (st' := [.inl 61, .inl x4]) (h' := h3) (cs := []) (by decide +kernel) rfl trivial ?_
        rcases it_of hF with ⟨hb, hF⟩ | ⟨hb, hF⟩
        · refine RN.ict (cd := .eq) (off := 16) (tgt := 44) (by decide +kernel) (mif_eq hb) ?_
          exact RN.sub (Jj5 hF) (sub_cons rfl (sub_cons rfl (sub_cons rfl sub_nil)))
        · refine RN.icf (cd := .eq) (off := 16) (tgt := 44) (by decide +kernel) (mif_eqn hb) ?_
          refine RN.blk (ops := [(31, .iload_n 1), (32, .bipush 62)]) (pc' := 34) (lv' := [(2, .inl (m_rd h3 t 8)), (1, .inl x4), (0, .inr (.inr t))]) (st' := [.inl 62, .inl x4]) (h' := h3) (cs := []) (by decide +kernel) rfl trivial ?_
          rcases it_of hF with ⟨hb, hF⟩ | ⟨hb, hF⟩
          · refine RN.ict (cd := .eq) (off := 10) (tgt := 44) (by decide +kernel) (mif_eq hb) ?_
            exact RN.sub (Jj5 hF) (sub_cons rfl (sub_cons rfl (sub_cons rfl sub_nil)))
          · refine RN.icf (cd := .eq) (off := 10) (tgt := 44) (by decide +kernel) (mif_eqn hb) ?_
            refine RN.blk (ops := [(37, .aload_n 0), (38, .iconst 0), (39, .iload_n 2)]) (pc' := 40) (lv' := [(2, .inl (m_rd h3 t 8)), (1, .inl x4), (0, .inr (.inr t))]) (st' := [.inl (m_rd h3 t 8), .inl 0, .inr (.inr t)]) (h' := h3) (cs := []) (by decide +kernel) rfl trivial ?_
            obtain ⟨hc, hF⟩ := gd_of hF
            obtain ⟨x19, h18, hG, hF⟩ := bd_of hF
            refine RN.cv (i := 120) (k := 163) (q2 := iX12_fails) (as := [.inr (.inr t), .inl 0, .inl (m_rd h3 t 8)]) (r := []) (v := some (.inl x19)) (h1 := h18) (by decide +kernel) rfl rfl rfl rfl rfl (rcv_ok hc.1) (CX12_fails (d := d + 5) hG) ?_
            obtain ⟨hc, hF⟩ := gd_of hF
            exact RN.zR (by decide +kernel) rfl hc.1 hF
noncomputable def FX12_fact_L2 (u0 : Int) (K0 : MH → Option (Int × MH)) (K1 : MH → Option (Int × MH)) (K2 : MH → Option (Int × MH)) : Nat → Int → MH → Option (Int × MH)
  | 0, _, _ => none
  | f + 1, v1, h =>
    (if v1 = 0 then
     K2 h
    else
     gd [GK h u0 12] (bd (FX12_see u0 h) (fun x2 h1 =>
      gd [GK h1 u0 12] (bd (FX12_isWord u0 7237492 h1) (fun x4 h3 =>
       (if x4 = 0 then
        (if x2 = 91 then
         gd [GK h3 u0 12] (bd (FX12_opens u0 91 h3) (fun x6 h5 =>
          (if x6 = 0 then
           K1 h5
          else
           gd [GK h5 u0 12, GK h5 u0 12] (
            FX12_fact_L2 u0 K0 K1 K2 f 1 (m_wr h5 u0 8 (m_w32 ((m_rd h5 u0 8) + 1)))))))
        else
         FX12_fact_L2 u0 K0 K1 K2 f 0 h3)
       else
        gd [GK h3 u0 12] (bd (FX12_opens u0 11 h3) (fun x8 h7 =>
         (if x8 = 0 then
          K0 h7
         else
          gd [GK h7 u0 12] (bv (FX12_passWord u0 h7) (fun h9 =>
           FX12_fact_L2 u0 K0 K1 K2 f 1 h9)))))))))))
theorem CX12_fact_L2 {d : Nat} {u0 : Int} {K0 : MH → Option (Int × MH)} {K1 : MH → Option (Int × MH)} {K2 : MH → Option (Int × MH)} {r : Int × MH} (hK0 : ∀ (h : MH), K0 h = some r → RN xs L iX12_fact (d + 7) 32 [] [] h (RIo r)) (hK1 : ∀ (h : MH), K1 h = some r → RN xs L iX12_fact (d + 7) 58 [] [] h (RIo r)) (hK2 : ∀ (h : MH), K2 h = some r → RN xs L iX12_fact (d + 7) 75 [(0, .inr (.inr u0))] [] h (RIo r)) : ∀ (f : Nat) (v1 : Int) (h : MH), FX12_fact_L2 u0 K0 K1 K2 f v1 h = some r → RN xs L iX12_fact (d + 7) 2 [(0, .inr (.inr u0)), (1, .inl v1)] [] h (RIo r) := by
  intro f
  induction f with
  | zero =>
    intro v1 h hF
    cases hF
  | succ f ih =>
    intro v1 h hF
    unfold FX12_fact_L2 at hF
    refine RN.blk (ops := [(2, .iload_n 1)]) (pc' := 3) (lv' := [(0, .inr (.inr u0)), (1, .inl v1)]) (st' := [.inl v1]) (h' := h) (cs := []) (by decide +kernel) rfl trivial ?_
    rcases it_of hF with ⟨hb, hF⟩ | ⟨hb, hF⟩
    · refine RN.ift (cd := .eq) (off := 72) (tgt := 75) (by decide +kernel) (mif_eq hb) ?_
      exact RN.sub (hK2 _ hF) (sub_cons rfl sub_nil)
    · refine RN.iff (cd := .eq) (off := 72) (tgt := 75) (by decide +kernel) (mif_eqn hb) ?_
      refine RN.blk (ops := [(6, .iconst 0), (7, .istore_n 1), (8, .aload_n 0)]) (pc' := 9) (lv' := [(1, .inl 0), (0, .inr (.inr u0))]) (st' := [.inr (.inr u0)]) (h' := h) (cs := []) (by decide +kernel) rfl trivial ?_
      obtain ⟨hc, hF⟩ := gd_of hF
      obtain ⟨x2, h1, hG, hF⟩ := bd_of hF
      refine RN.cv (i := 102) (k := 164) (q2 := iX12_see) (as := [.inr (.inr u0)]) (r := []) (v := some (.inl x2)) (h1 := h1) (by decide +kernel) rfl rfl rfl rfl rfl (rcv_ok hc.1) (CX12_see (d := d + 6) hG) ?_
      refine RN.blk (ops := [(12, .istore_n 2), (13, .aload_n 0), (14, .ldc2_w 193)]) (pc' := 17) (lv' := [(2, .inl x2), (1, .inl 0), (0, .inr (.inr u0))]) (st' := [.inr (.inl 7237492), .inr (.inr u0)]) (h' := h1) (cs := []) (by decide +kernel) rfl trivial ?_
      obtain ⟨hc, hF⟩ := gd_of hF
      obtain ⟨x4, h3, hG, hF⟩ := bd_of hF
      refine RN.cv (i := 110) (k := 167) (q2 := iX12_isWord) (as := [.inr (.inr u0), .inr (.inl 7237492)]) (r := []) (v := some (.inl x4)) (h1 := h3) (by decide +kernel) rfl rfl rfl rfl rfl (rcv_ok hc.1) (CX12_isWord (d := d + 5) hG) ?_
      rcases it_of hF with ⟨hb, hF⟩ | ⟨hb, hF⟩
      · refine RN.ift (cd := .eq) (off := 23) (tgt := 43) (by decide +kernel) (mif_eq hb) ?_
        refine RN.blk (ops := [(43, .iload_n 2), (44, .bipush 91)]) (pc' := 46) (lv' := [(2, .inl x2), (1, .inl 0), (0, .inr (.inr u0))]) (st' := [.inl 91, .inl x2]) (h' := h3) (cs := []) (by decide +kernel) rfl trivial ?_
        rcases it_of hF with ⟨hb, hF⟩ | ⟨hb, hF⟩
        · refine RN.icf (cd := .ne) (off := 26) (tgt := 72) (by decide +kernel) (mif_nen hb) ?_
          refine RN.blk (ops := [(49, .aload_n 0), (50, .bipush 91)]) (pc' := 52) (lv' := [(2, .inl x2), (1, .inl 0), (0, .inr (.inr u0))]) (st' := [.inl 91, .inr (.inr u0)]) (h' := h3) (cs := []) (by decide +kernel) rfl trivial ?_
          obtain ⟨hc, hF⟩ := gd_of hF
          obtain ⟨x6, h5, hG, hF⟩ := bd_of hF
          refine RN.cv (i := 195) (k := 174) (q2 := iX12_opens) (as := [.inr (.inr u0), .inl 91]) (r := []) (v := some (.inl x6)) (h1 := h5) (by decide +kernel) rfl rfl rfl rfl rfl (rcv_ok hc.1) (CX12_opens (d := d + 5) hG) ?_
          rcases it_of hF with ⟨hb, hF⟩ | ⟨hb, hF⟩
          · refine RN.iff (cd := .ne) (off := 5) (tgt := 60) (by decide +kernel) (mif_nen hb) ?_
            exact RN.sub (hK1 _ hF) sub_nil
          · refine RN.ift (cd := .ne) (off := 5) (tgt := 60) (by decide +kernel) (mif_ne hb) ?_
            obtain ⟨hc, hF⟩ := gd_of hF
            refine RN.blk (ops := [(60, .aload_n 0), (61, .dup), (62, .getfield 99), (65, .iconst 1), (66, .iadd), (67, .putfield 99), (70, .iconst 1), (71, .istore_n 1)]) (pc' := 72) (lv' := [(1, .inl 1), (2, .inl x2), (0, .inr (.inr u0))]) (st' := []) (h' := (m_wr h5 u0 8 (m_w32 ((m_rd h5 u0 8) + 1)))) (cs := [GK h5 u0 12, GK h5 u0 12]) (by decide +kernel) rfl hc ?_
            refine RN.goto (off := -70) (tgt := 2) (by decide +kernel) ?_
            exact RN.sub (ih _ _ hF) (sub_cons rfl (sub_cons rfl sub_nil))
        · refine RN.ict (cd := .ne) (off := 26) (tgt := 72) (by decide +kernel) (mif_ne hb) ?_
          refine RN.goto (off := -70) (tgt := 2) (by decide +kernel) ?_
          exact RN.sub (ih _ _ hF) (sub_cons rfl (sub_cons rfl sub_nil))
      · refine RN.iff (cd := .eq) (off := 23) (tgt := 43) (by decide +kernel) (mif_eqn hb) ?_
        refine RN.blk (ops := [(23, .aload_n 0), (24, .bipush 11)]) (pc' := 26) (lv' := [(2, .inl x2), (1, .inl 0), (0, .inr (.inr u0))]) (st' := [.inl 11, .inr (.inr u0)]) (h' := h3) (cs := []) (by decide +kernel) rfl trivial ?_
        obtain ⟨hc, hF⟩ := gd_of hF
        obtain ⟨x8, h7, hG, hF⟩ := bd_of hF
        refine RN.cv (i := 195) (k := 174) (q2 := iX12_opens) (as := [.inr (.inr u0), .inl 11]) (r := []) (v := some (.inl x8)) (h1 := h7) (by decide +kernel) rfl rfl rfl rfl rfl (rcv_ok hc.1) (CX12_opens (d := d + 5) hG) ?_
        rcases it_of hF with ⟨hb, hF⟩ | ⟨hb, hF⟩
        · refine RN.iff (cd := .ne) (off := 5) (tgt := 34) (by decide +kernel) (mif_nen hb) ?_
          exact RN.sub (hK0 _ hF) sub_nil
        · refine RN.ift (cd := .ne) (off := 5) (tgt := 34) (by decide +kernel) (mif_ne hb) ?_
          refine RN.blk (ops := [(34, .aload_n 0)]) (pc' := 35) (lv' := [(2, .inl x2), (1, .inl 0), (0, .inr (.inr u0))]) (st' := [.inr (.inr u0)]) (h' := h7) (cs := []) (by decide +kernel) rfl trivial ?_
          obtain ⟨hc, hF⟩ := gd_of hF
          obtain ⟨h9, hG, hF⟩ := bv_of hF
          refine RN.cv (i := 114) (k := 168) (q2 := iX12_passWord) (as := [.inr (.inr u0)]) (r := []) (v := none) (h1 := h9) (by decide +kernel) rfl rfl rfl rfl rfl (rcv_ok hc.1) (CX12_passWord (d := d + 5) hG) ?_
          refine RN.blk (ops := [(38, .iconst 1), (39, .istore_n 1)]) (pc' := 40) (lv' := [(1, .inl 1), (2, .inl x2), (0, .inr (.inr u0))]) (st' := []) (h' := h9) (cs := []) (by decide +kernel) rfl trivial ?_
          refine RN.goto (off := 32) (tgt := 72) (by decide +kernel) ?_
          refine RN.goto (off := -70) (tgt := 2) (by decide +kernel) ?_
          exact RN.sub (ih _ _ hF) (sub_cons rfl (sub_cons rfl sub_nil))
noncomputable def FX12_fact (t : Int) (h : MH) : Option (Int × MH) :=
  FX12_fact_L2 t (fun h1 =>
   some (0, h1)) (fun h2 =>
   some (0, h2)) (fun h3 =>
   gd [GK h3 t 12] (bd (FX12_compare t h3) (fun x5 h4 =>
    gd [GT x5] (some (x5, h4))))) FU 1 h
theorem CX12_fact {d : Nat} {t : Int} {h : MH} {r : Int × MH} (hF : FX12_fact t h = some r) : RN xs L iX12_fact (d + 7) 0 (lvE 0 [.inr (.inr t)]) [] h (RIo r) := by
  unfold FX12_fact at hF
  refine RN.blk (ops := [(0, .iconst 1), (1, .istore_n 1)]) (pc' := 2) (lv' := [(1, .inl 1), (0, .inr (.inr t))]) (st' := []) (h' := h) (cs := []) (by decide +kernel) rfl trivial ?_
  refine RN.sub (CX12_fact_L2 ?_ ?_ ?_ _ _ _ hF) (sub_cons rfl (sub_cons rfl sub_nil))
  · intro h1 hF
    refine RN.blk (ops := [(32, .iconst 0)]) (pc' := 33) (lv' := []) (st' := [.inl 0]) (h' := h1) (cs := []) (by decide +kernel) rfl trivial ?_
    exact RN.zR (by decide +kernel) rfl (Or.inl rfl) hF
  · intro h2 hF
    refine RN.blk (ops := [(58, .iconst 0)]) (pc' := 59) (lv' := []) (st' := [.inl 0]) (h' := h2) (cs := []) (by decide +kernel) rfl trivial ?_
    exact RN.zR (by decide +kernel) rfl (Or.inl rfl) hF
  · intro h3 hF
    refine RN.blk (ops := [(75, .aload_n 0)]) (pc' := 76) (lv' := [(0, .inr (.inr t))]) (st' := [.inr (.inr t)]) (h' := h3) (cs := []) (by decide +kernel) rfl trivial ?_
    obtain ⟨hc, hF⟩ := gd_of hF
    obtain ⟨x5, h4, hG, hF⟩ := bd_of hF
    refine RN.cv (i := 198) (k := 180) (q2 := iX12_compare) (as := [.inr (.inr t)]) (r := []) (v := some (.inl x5)) (h1 := h4) (by decide +kernel) rfl rfl rfl rfl rfl (rcv_ok hc.1) (CX12_compare (d := d) hG) ?_
    obtain ⟨hc, hF⟩ := gd_of hF
    exact RN.zR (by decide +kernel) rfl hc.1 hF
noncomputable def FX12_isInside_L2 (u0 : Int) (K0 : MH → Option (Int × MH)) (K1 : MH → Option (Int × MH)) : Nat → Int → MH → Option (Int × MH)
  | 0, _, _ => none
  | f + 1, v1, h =>
    gd [GK h u0 12] (
     (if v1 < (m_rd h u0 16) then
      gd [GK h u0 12, GI h (m_rd h u0 15) 1 v1] (
       (if (m_rd h (m_rd h u0 15) v1) = 91 then
        K0 h
       else
        FX12_isInside_L2 u0 K0 K1 f (m_w32 (v1 + 1)) h))
     else
      K1 h))
theorem CX12_isInside_L2 {d : Nat} {u0 : Int} {K0 : MH → Option (Int × MH)} {K1 : MH → Option (Int × MH)} {r : Int × MH} (hK0 : ∀ (h : MH), K0 h = some r → RN xs L iX12_isInside (d) 21 [] [] h (RIo r)) (hK1 : ∀ (h : MH), K1 h = some r → RN xs L iX12_isInside (d) 29 [] [] h (RIo r)) : ∀ (f : Nat) (v1 : Int) (h : MH), FX12_isInside_L2 u0 K0 K1 f v1 h = some r → RN xs L iX12_isInside (d) 2 [(0, .inr (.inr u0)), (1, .inl v1)] [] h (RIo r) := by
  intro f
  induction f with
  | zero =>
    intro v1 h hF
    cases hF
  | succ f ih =>
    intro v1 h hF
    unfold FX12_isInside_L2 at hF
    obtain ⟨hc, hF⟩ := gd_of hF
    refine RN.blk (ops := [(2, .iload_n 1), (3, .aload_n 0), (4, .getfield 162)]) (pc' := 7) (lv' := [(0, .inr (.inr u0)), (1, .inl v1)]) (st' := [.inl (m_rd h u0 16), .inl v1]) (h' := h) (cs := [GK h u0 12]) (by decide +kernel) rfl hc ?_
    rcases it_of hF with ⟨hb, hF⟩ | ⟨hb, hF⟩
    · refine RN.icf (cd := .ge) (off := 22) (tgt := 29) (by decide +kernel) (mif_gen hb) ?_
      obtain ⟨hc, hF⟩ := gd_of hF
      refine RN.blk (ops := [(10, .aload_n 0), (11, .getfield 29), (14, .iload_n 1), (15, .iaload), (16, .bipush 91)]) (pc' := 18) (lv' := [(0, .inr (.inr u0)), (1, .inl v1)]) (st' := [.inl 91, .inl (m_rd h (m_rd h u0 15) v1)]) (h' := h) (cs := [GK h u0 12, GI h (m_rd h u0 15) 1 v1]) (by decide +kernel) rfl hc ?_
      rcases it_of hF with ⟨hb, hF⟩ | ⟨hb, hF⟩
      · refine RN.icf (cd := .ne) (off := 5) (tgt := 23) (by decide +kernel) (mif_nen hb) ?_
        exact RN.sub (hK0 _ hF) sub_nil
      · refine RN.ict (cd := .ne) (off := 5) (tgt := 23) (by decide +kernel) (mif_ne hb) ?_
        refine RN.blk (ops := [(23, .iinc 1 1)]) (pc' := 26) (lv' := [(1, .inl (m_w32 (v1 + 1))), (0, .inr (.inr u0))]) (st' := []) (h' := h) (cs := []) (by decide +kernel) rfl trivial ?_
        refine RN.goto (off := -24) (tgt := 2) (by decide +kernel) ?_
        exact RN.sub (ih _ _ hF) (sub_cons rfl (sub_cons rfl sub_nil))
    · refine RN.ict (cd := .ge) (off := 22) (tgt := 29) (by decide +kernel) (mif_ge hb) ?_
      exact RN.sub (hK1 _ hF) sub_nil
noncomputable def FX12_isInside (t : Int) (h : MH) : Option (Int × MH) :=
  FX12_isInside_L2 t (fun h1 =>
   some (1, h1)) (fun h2 =>
   some (0, h2)) FU 0 h
theorem CX12_isInside {d : Nat} {t : Int} {h : MH} {r : Int × MH} (hF : FX12_isInside t h = some r) : RN xs L iX12_isInside (d) 0 (lvE 0 [.inr (.inr t)]) [] h (RIo r) := by
  unfold FX12_isInside at hF
  refine RN.blk (ops := [(0, .iconst 0), (1, .istore_n 1)]) (pc' := 2) (lv' := [(1, .inl 0), (0, .inr (.inr t))]) (st' := []) (h' := h) (cs := []) (by decide +kernel) rfl trivial ?_
  refine RN.sub (CX12_isInside_L2 ?_ ?_ _ _ _ hF) (sub_cons rfl (sub_cons rfl sub_nil))
  · intro h1 hF
    refine RN.blk (ops := [(21, .iconst 1)]) (pc' := 22) (lv' := []) (st' := [.inl 1]) (h' := h1) (cs := []) (by decide +kernel) rfl trivial ?_
    exact RN.zR (by decide +kernel) rfl (Or.inr rfl) hF
  · intro h2 hF
    refine RN.blk (ops := [(29, .iconst 0)]) (pc' := 30) (lv' := []) (st' := [.inl 0]) (h' := h2) (cs := []) (by decide +kernel) rfl trivial ?_
    exact RN.zR (by decide +kernel) rfl (Or.inl rfl) hF
noncomputable def FX12_closes_L5 (u0 : Int) (K0 : MH → Option (MH)) : Nat → MH → Option (MH)
  | 0, _ => none
  | f + 1, h =>
    gd [GK h u0 12] (bd (FX12_see u0 h) (fun x2 h1 =>
     (if x2 = 93 then
      gd [GK h1 u0 12] (bd (FX12_isInside u0 h1) (fun x4 h3 =>
       (if x4 = 0 then
        K0 h3
       else
        gd [GK h3 u0 12] (bv (FX12_layDown u0 1 h3) (fun h5 =>
         gd [GK h5 u0 12, GK h5 u0 12, GK h5 u0 12, GK h5 u0 12] (
          hl (m_wr (m_wr h5 u0 16 (m_w32 ((m_rd h5 u0 16) - 1))) u0 13 (m_w32 ((m_rd (m_wr h5 u0 16 (m_w32 ((m_rd h5 u0 16) - 1))) u0 13) - 1))) (fun h6 =>
           gd [GK h6 u0 12, GK h6 u0 12] (
            gd [GK h6 u0 12] (bv (FX12_layDown u0 3 (m_wr h6 u0 8 (m_w32 ((m_rd h6 u0 8) + 1)))) (fun h7 =>
             FX12_closes_L5 u0 K0 f h7))))))))))
     else
      K0 h1)))
theorem CX12_closes_L5 {d : Nat} {u0 : Int} {K0 : MH → Option (MH)} {r : MH} (hK0 : ∀ (h : MH), K0 h = some r → RN xs L iX12_closes (d + 2) 64 [] [] h (RVo r)) : ∀ (f : Nat) (h : MH), FX12_closes_L5 u0 K0 f  h = some r → RN xs L iX12_closes (d + 2) 5 [(0, .inr (.inr u0))] [] h (RVo r) := by
  intro f
  induction f with
  | zero =>
    intro h hF
    cases hF
  | succ f ih =>
    intro h hF
    unfold FX12_closes_L5 at hF
    refine RN.blk (ops := [(5, .aload_n 0)]) (pc' := 6) (lv' := [(0, .inr (.inr u0))]) (st' := [.inr (.inr u0)]) (h' := h) (cs := []) (by decide +kernel) rfl trivial ?_
    obtain ⟨hc, hF⟩ := gd_of hF
    obtain ⟨x2, h1, hG, hF⟩ := bd_of hF
    refine RN.cv (i := 102) (k := 164) (q2 := iX12_see) (as := [.inr (.inr u0)]) (r := []) (v := some (.inl x2)) (h1 := h1) (by decide +kernel) rfl rfl rfl rfl rfl (rcv_ok hc.1) (CX12_see (d := d + 1) hG) ?_
    refine RN.blk (ops := [(9, .bipush 93)]) (pc' := 11) (lv' := [(0, .inr (.inr u0))]) (st' := [.inl 93, .inl x2]) (h' := h1) (cs := []) (by decide +kernel) rfl trivial ?_
    rcases it_of hF with ⟨hb, hF⟩ | ⟨hb, hF⟩
    · refine RN.icf (cd := .ne) (off := 53) (tgt := 64) (by decide +kernel) (mif_nen hb) ?_
      refine RN.blk (ops := [(14, .aload_n 0)]) (pc' := 15) (lv' := [(0, .inr (.inr u0))]) (st' := [.inr (.inr u0)]) (h' := h1) (cs := []) (by decide +kernel) rfl trivial ?_
      obtain ⟨hc, hF⟩ := gd_of hF
      obtain ⟨x4, h3, hG, hF⟩ := bd_of hF
      refine RN.cv (i := 204) (k := 182) (q2 := iX12_isInside) (as := [.inr (.inr u0)]) (r := []) (v := some (.inl x4)) (h1 := h3) (by decide +kernel) rfl rfl rfl rfl rfl (rcv_ok hc.1) (CX12_isInside (d := d + 1) hG) ?_
      rcases it_of hF with ⟨hb, hF⟩ | ⟨hb, hF⟩
      · refine RN.ift (cd := .eq) (off := 46) (tgt := 64) (by decide +kernel) (mif_eq hb) ?_
        exact RN.sub (hK0 _ hF) sub_nil
      · refine RN.iff (cd := .eq) (off := 46) (tgt := 64) (by decide +kernel) (mif_eqn hb) ?_
        refine RN.blk (ops := [(21, .aload_n 0), (22, .iconst 1)]) (pc' := 23) (lv' := [(0, .inr (.inr u0))]) (st' := [.inl 1, .inr (.inr u0)]) (h' := h3) (cs := []) (by decide +kernel) rfl trivial ?_
        obtain ⟨hc, hF⟩ := gd_of hF
        obtain ⟨h5, hG, hF⟩ := bv_of hF
        refine RN.cv (i := 201) (k := 176) (q2 := iX12_layDown) (as := [.inr (.inr u0), .inl 1]) (r := []) (v := none) (h1 := h5) (by decide +kernel) rfl rfl rfl rfl rfl (rcv_ok hc.1) (CX12_layDown (d := d) hG) ?_
        obtain ⟨hc, hF⟩ := gd_of hF
        refine RN.blk (ops := [(26, .aload_n 0), (27, .dup), (28, .getfield 162), (31, .iconst 1), (32, .isub), (33, .putfield 162), (36, .aload_n 0), (37, .dup), (38, .getfield 159), (41, .iconst 1), (42, .isub), (43, .putfield 159)]) (pc' := 46) (lv' := [(0, .inr (.inr u0))]) (st' := []) (h' := (m_wr (m_wr h5 u0 16 (m_w32 ((m_rd h5 u0 16) - 1))) u0 13 (m_w32 ((m_rd (m_wr h5 u0 16 (m_w32 ((m_rd h5 u0 16) - 1))) u0 13) - 1)))) (cs := [GK h5 u0 12, GK h5 u0 12, GK h5 u0 12, GK h5 u0 12]) (by decide +kernel) rfl hc ?_
        obtain ⟨h6, he, hF⟩ := hl_of hF
        refine RN.hl he ?_
        obtain ⟨hc, hF⟩ := gd_of hF
        refine RN.blk (ops := [(46, .aload_n 0), (47, .dup), (48, .getfield 99), (51, .iconst 1), (52, .iadd), (53, .putfield 99), (56, .aload_n 0), (57, .iconst 3)]) (pc' := 58) (lv' := [(0, .inr (.inr u0))]) (st' := [.inl 3, .inr (.inr u0)]) (h' := (m_wr h6 u0 8 (m_w32 ((m_rd h6 u0 8) + 1)))) (cs := [GK h6 u0 12, GK h6 u0 12]) (by decide +kernel) rfl hc ?_
        obtain ⟨hc, hF⟩ := gd_of hF
        obtain ⟨h7, hG, hF⟩ := bv_of hF
        refine RN.cv (i := 201) (k := 176) (q2 := iX12_layDown) (as := [.inr (.inr u0), .inl 3]) (r := []) (v := none) (h1 := h7) (by decide +kernel) rfl rfl rfl rfl rfl (rcv_ok hc.1) (CX12_layDown (d := d) hG) ?_
        refine RN.goto (off := -56) (tgt := 5) (by decide +kernel) ?_
        exact RN.sub (ih _ hF) (sub_cons rfl sub_nil)
    · refine RN.ict (cd := .ne) (off := 53) (tgt := 64) (by decide +kernel) (mif_ne hb) ?_
      exact RN.sub (hK0 _ hF) sub_nil
noncomputable def FX12_closes (t : Int) (h : MH) : Option (MH) :=
  gd [GK h t 12] (bv (FX12_layDown t 3 h) (fun h1 =>
   FX12_closes_L5 t (fun h2 =>
    some h2) FU h1))
theorem CX12_closes {d : Nat} {t : Int} {h : MH} {r : MH} (hF : FX12_closes t h = some r) : RN xs L iX12_closes (d + 2) 0 (lvE 0 [.inr (.inr t)]) [] h (RVo r) := by
  unfold FX12_closes at hF
  refine RN.blk (ops := [(0, .aload_n 0), (1, .iconst 3)]) (pc' := 2) (lv' := [(0, .inr (.inr t))]) (st' := [.inl 3, .inr (.inr t)]) (h' := h) (cs := []) (by decide +kernel) rfl trivial ?_
  obtain ⟨hc, hF⟩ := gd_of hF
  obtain ⟨h1, hG, hF⟩ := bv_of hF
  refine RN.cv (i := 201) (k := 176) (q2 := iX12_layDown) (as := [.inr (.inr t), .inl 3]) (r := []) (v := none) (h1 := h1) (by decide +kernel) rfl rfl rfl rfl rfl (rcv_ok hc.1) (CX12_layDown (d := d) hG) ?_
  refine RN.sub (CX12_closes_L5 ?_ _ _ hF) (sub_cons rfl sub_nil)
  · intro h2 hF
    exact RN.vR (by decide +kernel) rfl hF
noncomputable def FX12_tested_L12 (u0 : Int) (K0 : MH → Option (Int × MH)) (K1 : MH → Option (Int × MH)) : Nat → Int → MH → Option (Int × MH)
  | 0, _, _ => none
  | f + 1, v1, h =>
    (if v1 = 0 then
     K1 h
    else
     gd [GK h u0 12] (bd (FX12_fact u0 h) (fun x2 h1 =>
      (if x2 = 0 then
       K0 h1
      else
       gd [GK h1 u0 12] (bv (FX12_closes u0 h1) (fun h3 =>
        gd [GK h3 u0 12] (bd (FX12_isWord u0 6385252 h3) (fun x5 h4 =>
         jn (fun (s7 : Int) (h8 : MH) =>
          (if s7 = 0 then
           FX12_tested_L12 u0 K0 K1 f s7 h8
          else
           gd [GK h8 u0 12] (bd (FX12_isWord u0 6385252 h8) (fun x10 h9 =>
            jn (fun (s12 : Int) =>
             gd [GK h9 u0 12] (bv (FX12_passWord u0 h9) (fun h13 =>
              (bd (FX12_strength s12 h13) (fun x15 h14 =>
               gd [GK h14 u0 12] (bv (FX12_layDown u0 x15 h14) (fun h16 =>
                gd [GK h16 u0 12, GK h16 u0 12, GI h16 (m_rd h16 u0 15) 1 (m_rd h16 u0 16), GK h16 u0 12, GK h16 u0 12] (
                 hl (m_wr (m_wr h16 (m_rd h16 u0 15) (m_rd h16 u0 16) s12) u0 16 (m_w32 ((m_rd (m_wr h16 (m_rd h16 u0 15) (m_rd h16 u0 16) s12) u0 16) + 1))) (fun h17 =>
                  FX12_tested_L12 u0 K0 K1 f s7 h17))))))))) (fun j11 =>
             (if x10 = 0 then
              j11 13
             else
              j11 12)))))) (fun j6 =>
          jn (fun (h19 : MH) =>
           j6 1 h19) (fun j18 =>
           (if x5 = 0 then
            gd [GK h4 u0 12] (bd (FX12_isWord u0 28530 h4) (fun x21 h20 =>
             (if x21 = 0 then
              j6 0 h20
             else
              j18 h20)))
           else
            j18 h4)))))))))))
theorem CX12_tested_L12 {d : Nat} {u0 : Int} {K0 : MH → Option (Int × MH)} {K1 : MH → Option (Int × MH)} {r : Int × MH} (hK0 : ∀ (h : MH), K0 h = some r → RN xs L iX12_tested (d + 8) 23 [] [] h (RIo r)) (hK1 : ∀ (h : MH), K1 h = some r → RN xs L iX12_tested (d + 8) 112 [(0, .inr (.inr u0))] [] h (RIo r)) : ∀ (f : Nat) (v1 : Int) (h : MH), FX12_tested_L12 u0 K0 K1 f v1 h = some r → RN xs L iX12_tested (d + 8) 12 [(0, .inr (.inr u0)), (1, .inl v1)] [] h (RIo r) := by
  intro f
  induction f with
  | zero =>
    intro v1 h hF
    cases hF
  | succ f ih =>
    intro v1 h hF
    unfold FX12_tested_L12 at hF
    refine RN.blk (ops := [(12, .iload_n 1)]) (pc' := 13) (lv' := [(0, .inr (.inr u0)), (1, .inl v1)]) (st' := [.inl v1]) (h' := h) (cs := []) (by decide +kernel) rfl trivial ?_
    rcases it_of hF with ⟨hb, hF⟩ | ⟨hb, hF⟩
    · refine RN.ift (cd := .eq) (off := 99) (tgt := 112) (by decide +kernel) (mif_eq hb) ?_
      exact RN.sub (hK1 _ hF) (sub_cons rfl sub_nil)
    · refine RN.iff (cd := .eq) (off := 99) (tgt := 112) (by decide +kernel) (mif_eqn hb) ?_
      refine RN.blk (ops := [(16, .aload_n 0)]) (pc' := 17) (lv' := [(0, .inr (.inr u0)), (1, .inl v1)]) (st' := [.inr (.inr u0)]) (h' := h) (cs := []) (by decide +kernel) rfl trivial ?_
      obtain ⟨hc, hF⟩ := gd_of hF
      obtain ⟨x2, h1, hG, hF⟩ := bd_of hF
      refine RN.cv (i := 207) (k := 181) (q2 := iX12_fact) (as := [.inr (.inr u0)]) (r := []) (v := some (.inl x2)) (h1 := h1) (by decide +kernel) rfl rfl rfl rfl rfl (rcv_ok hc.1) (CX12_fact (d := d) hG) ?_
      rcases it_of hF with ⟨hb, hF⟩ | ⟨hb, hF⟩
      · refine RN.iff (cd := .ne) (off := 5) (tgt := 25) (by decide +kernel) (mif_nen hb) ?_
        exact RN.sub (hK0 _ hF) sub_nil
      · refine RN.ift (cd := .ne) (off := 5) (tgt := 25) (by decide +kernel) (mif_ne hb) ?_
        refine RN.blk (ops := [(25, .aload_n 0)]) (pc' := 26) (lv' := [(0, .inr (.inr u0)), (1, .inl v1)]) (st' := [.inr (.inr u0)]) (h' := h1) (cs := []) (by decide +kernel) rfl trivial ?_
        obtain ⟨hc, hF⟩ := gd_of hF
        obtain ⟨h3, hG, hF⟩ := bv_of hF
        refine RN.cv (i := 210) (k := 183) (q2 := iX12_closes) (as := [.inr (.inr u0)]) (r := []) (v := none) (h1 := h3) (by decide +kernel) rfl rfl rfl rfl rfl (rcv_ok hc.1) (CX12_closes (d := d + 5) hG) ?_
        refine RN.blk (ops := [(29, .aload_n 0), (30, .ldc2_w 213)]) (pc' := 33) (lv' := [(0, .inr (.inr u0)), (1, .inl v1)]) (st' := [.inr (.inl 6385252), .inr (.inr u0)]) (h' := h3) (cs := []) (by decide +kernel) rfl trivial ?_
        obtain ⟨hc, hF⟩ := gd_of hF
        obtain ⟨x5, h4, hG, hF⟩ := bd_of hF
        refine RN.cv (i := 110) (k := 167) (q2 := iX12_isWord) (as := [.inr (.inr u0), .inr (.inl 6385252)]) (r := []) (v := some (.inl x5)) (h1 := h4) (by decide +kernel) rfl rfl rfl rfl rfl (rcv_ok hc.1) (CX12_isWord (d := d + 6) hG) ?_
        refine jn_use (fun j6 => ∀ (s7 : Int) (h8 : MH), j6 s7 h8 = some r → RN xs L iX12_tested (d + 8) 54 [(0, .inr (.inr u0))] [.inl s7] h8 (RIo r)) ?_ ?_ hF
        · intro s7 h8 hF
          refine RN.blk (ops := [(54, .istore_n 1), (55, .iload_n 1)]) (pc' := 56) (lv' := [(1, .inl s7), (0, .inr (.inr u0))]) (st' := [.inl s7]) (h' := h8) (cs := []) (by decide +kernel) rfl trivial ?_
          rcases it_of hF with ⟨hb, hF⟩ | ⟨hb, hF⟩
          · refine RN.ift (cd := .eq) (off := -44) (tgt := 12) (by decide +kernel) (mif_eq hb) ?_
            exact RN.sub (ih _ _ hF) (sub_cons rfl (sub_cons rfl sub_nil))
          · refine RN.iff (cd := .eq) (off := -44) (tgt := 12) (by decide +kernel) (mif_eqn hb) ?_
            refine RN.blk (ops := [(59, .aload_n 0), (60, .ldc2_w 213)]) (pc' := 63) (lv' := [(1, .inl s7), (0, .inr (.inr u0))]) (st' := [.inr (.inl 6385252), .inr (.inr u0)]) (h' := h8) (cs := []) (by decide +kernel) rfl trivial ?_
            obtain ⟨hc, hF⟩ := gd_of hF
            obtain ⟨x10, h9, hG, hF⟩ := bd_of hF
            refine RN.cv (i := 110) (k := 167) (q2 := iX12_isWord) (as := [.inr (.inr u0), .inr (.inl 6385252)]) (r := []) (v := some (.inl x10)) (h1 := h9) (by decide +kernel) rfl rfl rfl rfl rfl (rcv_ok hc.1) (CX12_isWord (d := d + 6) hG) ?_
            refine jn_use (fun j11 => ∀ (s12 : Int), j11 s12 = some r → RN xs L iX12_tested (d + 8) 76 [(0, .inr (.inr u0)), (1, .inl s7)] [.inl s12] h9 (RIo r)) ?_ ?_ hF
            · intro s12 hF
              refine RN.blk (ops := [(76, .istore_n 2), (77, .aload_n 0)]) (pc' := 78) (lv' := [(2, .inl s12), (0, .inr (.inr u0)), (1, .inl s7)]) (st' := [.inr (.inr u0)]) (h' := h9) (cs := []) (by decide +kernel) rfl trivial ?_
              obtain ⟨hc, hF⟩ := gd_of hF
              obtain ⟨h13, hG, hF⟩ := bv_of hF
              refine RN.cv (i := 114) (k := 168) (q2 := iX12_passWord) (as := [.inr (.inr u0)]) (r := []) (v := none) (h1 := h13) (by decide +kernel) rfl rfl rfl rfl rfl (rcv_ok hc.1) (CX12_passWord (d := d + 6) hG) ?_
              refine RN.blk (ops := [(81, .aload_n 0), (82, .iload_n 2)]) (pc' := 83) (lv' := [(2, .inl s12), (0, .inr (.inr u0)), (1, .inl s7)]) (st' := [.inl s12, .inr (.inr u0)]) (h' := h13) (cs := []) (by decide +kernel) rfl trivial ?_
              obtain ⟨x15, h14, hG, hF⟩ := bd_of hF
              refine RN.cst (i := 165) (k := 175) (q2 := iX12_strength) (as := [.inl s12]) (r := [.inr (.inr u0)]) (v := some (.inl x15)) (h1 := h14) (by decide +kernel) rfl rfl rfl rfl rfl (CX12_strength (d := d + 7) hG) ?_
              obtain ⟨hc, hF⟩ := gd_of hF
              obtain ⟨h16, hG, hF⟩ := bv_of hF
              refine RN.cv (i := 201) (k := 176) (q2 := iX12_layDown) (as := [.inr (.inr u0), .inl x15]) (r := []) (v := none) (h1 := h16) (by decide +kernel) rfl rfl rfl rfl rfl (rcv_ok hc.1) (CX12_layDown (d := d + 6) hG) ?_
              obtain ⟨hc, hF⟩ := gd_of hF
              refine RN.blk (ops := [(89, .aload_n 0), (90, .getfield 29), (93, .aload_n 0), (94, .getfield 162), (97, .iload_n 2), (98, .iastore), (99, .aload_n 0), (100, .dup), (101, .getfield 162), (104, .iconst 1), (105, .iadd), (106, .putfield 162)]) (pc' := 109) (lv' := [(2, .inl s12), (0, .inr (.inr u0)), (1, .inl s7)]) (st' := []) (h' := (m_wr (m_wr h16 (m_rd h16 u0 15) (m_rd h16 u0 16) s12) u0 16 (m_w32 ((m_rd (m_wr h16 (m_rd h16 u0 15) (m_rd h16 u0 16) s12) u0 16) + 1)))) (cs := [GK h16 u0 12, GK h16 u0 12, GI h16 (m_rd h16 u0 15) 1 (m_rd h16 u0 16), GK h16 u0 12, GK h16 u0 12]) (by decide +kernel) rfl hc ?_
              obtain ⟨h17, he, hF⟩ := hl_of hF
              refine RN.hl he ?_
              refine RN.goto (off := -97) (tgt := 12) (by decide +kernel) ?_
              exact RN.sub (ih _ _ hF) (sub_cons rfl (sub_cons rfl sub_nil))
            · intro j11 Jj11 hF
              rcases it_of hF with ⟨hb, hF⟩ | ⟨hb, hF⟩
              · refine RN.ift (cd := .eq) (off := 8) (tgt := 74) (by decide +kernel) (mif_eq hb) ?_
                refine RN.blk (ops := [(74, .bipush 13)]) (pc' := 76) (lv' := [(1, .inl s7), (0, .inr (.inr u0))]) (st' := [.inl 13]) (h' := h9) (cs := []) (by decide +kernel) rfl trivial ?_
                exact RN.sub (Jj11 _ hF) (sub_cons rfl (sub_cons rfl sub_nil))
              · refine RN.iff (cd := .eq) (off := 8) (tgt := 74) (by decide +kernel) (mif_eqn hb) ?_
                refine RN.blk (ops := [(69, .bipush 12)]) (pc' := 71) (lv' := [(1, .inl s7), (0, .inr (.inr u0))]) (st' := [.inl 12]) (h' := h9) (cs := []) (by decide +kernel) rfl trivial ?_
                refine RN.goto (off := 5) (tgt := 76) (by decide +kernel) ?_
                exact RN.sub (Jj11 _ hF) (sub_cons rfl (sub_cons rfl sub_nil))
        · intro j6 Jj6 hF
          refine jn_use (fun j18 => ∀ (h19 : MH), j18 h19 = some r → RN xs L iX12_tested (d + 8) 49 [(0, .inr (.inr u0))] [] h19 (RIo r)) ?_ ?_ hF
          · intro h19 hF
            refine RN.blk (ops := [(49, .iconst 1)]) (pc' := 50) (lv' := [(0, .inr (.inr u0))]) (st' := [.inl 1]) (h' := h19) (cs := []) (by decide +kernel) rfl trivial ?_
            refine RN.goto (off := 4) (tgt := 54) (by decide +kernel) ?_
            exact RN.sub (Jj6 _ _ hF) (sub_cons rfl sub_nil)
          · intro j18 Jj18 hF
            rcases it_of hF with ⟨hb, hF⟩ | ⟨hb, hF⟩
            · refine RN.iff (cd := .ne) (off := 13) (tgt := 49) (by decide +kernel) (mif_nen hb) ?_
              refine RN.blk (ops := [(39, .aload_n 0), (40, .ldc2_w 215)]) (pc' := 43) (lv' := [(0, .inr (.inr u0)), (1, .inl v1)]) (st' := [.inr (.inl 28530), .inr (.inr u0)]) (h' := h4) (cs := []) (by decide +kernel) rfl trivial ?_
              obtain ⟨hc, hF⟩ := gd_of hF
              obtain ⟨x21, h20, hG, hF⟩ := bd_of hF
              refine RN.cv (i := 110) (k := 167) (q2 := iX12_isWord) (as := [.inr (.inr u0), .inr (.inl 28530)]) (r := []) (v := some (.inl x21)) (h1 := h20) (by decide +kernel) rfl rfl rfl rfl rfl (rcv_ok hc.1) (CX12_isWord (d := d + 6) hG) ?_
              rcases it_of hF with ⟨hb, hF⟩ | ⟨hb, hF⟩
              · refine RN.ift (cd := .eq) (off := 7) (tgt := 53) (by decide +kernel) (mif_eq hb) ?_
                refine RN.blk (ops := [(53, .iconst 0)]) (pc' := 54) (lv' := [(0, .inr (.inr u0)), (1, .inl v1)]) (st' := [.inl 0]) (h' := h20) (cs := []) (by decide +kernel) rfl trivial ?_
                exact RN.sub (Jj6 _ _ hF) (sub_cons rfl sub_nil)
              · refine RN.iff (cd := .eq) (off := 7) (tgt := 53) (by decide +kernel) (mif_eqn hb) ?_
                exact RN.sub (Jj18 _ hF) (sub_cons rfl sub_nil)
            · refine RN.ift (cd := .ne) (off := 13) (tgt := 49) (by decide +kernel) (mif_ne hb) ?_
              exact RN.sub (Jj18 _ hF) (sub_cons rfl sub_nil)
noncomputable def FX12_tested (t : Int) (h : MH) : Option (Int × MH) :=
  gd [GK h t 12, GK h t 12] (
   FX12_tested_L12 t (fun h1 =>
    some (0, h1)) (fun h2 =>
    gd [GK h2 t 12] (bd (FX12_isInside t h2) (fun x4 h3 =>
     (if x4 = 0 then
      gd [GK h3 t 12] (bv (FX12_layDown t 1 h3) (fun h5 =>
       some (1, h5)))
     else
      gd [GK h3 t 12] (bd (FX12_see t h3) (fun x7 h6 =>
       gd [GK h6 t 12] (
        gd [GK h6 t 12] (bd (FX12_fails t 0 (m_rd h6 t 8) h6) (fun x9 h8 =>
         gd [GT x9] (some (x9, h8))))))))))) FU 1 (m_wr (m_wr h t 16 0) t 13 0))
theorem CX12_tested {d : Nat} {t : Int} {h : MH} {r : Int × MH} (hF : FX12_tested t h = some r) : RN xs L iX12_tested (d + 8) 0 (lvE 0 [.inr (.inr t)]) [] h (RIo r) := by
  unfold FX12_tested at hF
  obtain ⟨hc, hF⟩ := gd_of hF
  refine RN.blk (ops := [(0, .aload_n 0), (1, .iconst 0), (2, .putfield 162), (5, .aload_n 0), (6, .iconst 0), (7, .putfield 159), (10, .iconst 1), (11, .istore_n 1)]) (pc' := 12) (lv' := [(1, .inl 1), (0, .inr (.inr t))]) (st' := []) (h' := (m_wr (m_wr h t 16 0) t 13 0)) (cs := [GK h t 12, GK h t 12]) (by decide +kernel) rfl hc ?_
  refine RN.sub (CX12_tested_L12 ?_ ?_ _ _ _ hF) (sub_cons rfl (sub_cons rfl sub_nil))
  · intro h1 hF
    refine RN.blk (ops := [(23, .iconst 0)]) (pc' := 24) (lv' := []) (st' := [.inl 0]) (h' := h1) (cs := []) (by decide +kernel) rfl trivial ?_
    exact RN.zR (by decide +kernel) rfl (Or.inl rfl) hF
  · intro h2 hF
    refine RN.blk (ops := [(112, .aload_n 0)]) (pc' := 113) (lv' := [(0, .inr (.inr t))]) (st' := [.inr (.inr t)]) (h' := h2) (cs := []) (by decide +kernel) rfl trivial ?_
    obtain ⟨hc, hF⟩ := gd_of hF
    obtain ⟨x4, h3, hG, hF⟩ := bd_of hF
    refine RN.cv (i := 204) (k := 182) (q2 := iX12_isInside) (as := [.inr (.inr t)]) (r := []) (v := some (.inl x4)) (h1 := h3) (by decide +kernel) rfl rfl rfl rfl rfl (rcv_ok hc.1) (CX12_isInside (d := d + 7) hG) ?_
    rcases it_of hF with ⟨hb, hF⟩ | ⟨hb, hF⟩
    · refine RN.ift (cd := .eq) (off := 18) (tgt := 134) (by decide +kernel) (mif_eq hb) ?_
      refine RN.blk (ops := [(134, .aload_n 0), (135, .iconst 1)]) (pc' := 136) (lv' := [(0, .inr (.inr t))]) (st' := [.inl 1, .inr (.inr t)]) (h' := h3) (cs := []) (by decide +kernel) rfl trivial ?_
      obtain ⟨hc, hF⟩ := gd_of hF
      obtain ⟨h5, hG, hF⟩ := bv_of hF
      refine RN.cv (i := 201) (k := 176) (q2 := iX12_layDown) (as := [.inr (.inr t), .inl 1]) (r := []) (v := none) (h1 := h5) (by decide +kernel) rfl rfl rfl rfl rfl (rcv_ok hc.1) (CX12_layDown (d := d + 6) hG) ?_
      refine RN.blk (ops := [(139, .iconst 1)]) (pc' := 140) (lv' := [(0, .inr (.inr t))]) (st' := [.inl 1]) (h' := h5) (cs := []) (by decide +kernel) rfl trivial ?_
      exact RN.zR (by decide +kernel) rfl (Or.inr rfl) hF
    · refine RN.iff (cd := .eq) (off := 18) (tgt := 134) (by decide +kernel) (mif_eqn hb) ?_
      refine RN.blk (ops := [(119, .aload_n 0)]) (pc' := 120) (lv' := [(0, .inr (.inr t))]) (st' := [.inr (.inr t)]) (h' := h3) (cs := []) (by decide +kernel) rfl trivial ?_
      obtain ⟨hc, hF⟩ := gd_of hF
      obtain ⟨x7, h6, hG, hF⟩ := bd_of hF
      refine RN.cv (i := 102) (k := 164) (q2 := iX12_see) (as := [.inr (.inr t)]) (r := []) (v := some (.inl x7)) (h1 := h6) (by decide +kernel) rfl rfl rfl rfl rfl (rcv_ok hc.1) (CX12_see (d := d + 7) hG) ?_
      obtain ⟨hc, hF⟩ := gd_of hF
      refine RN.blk (ops := [(123, .pop), (124, .aload_n 0), (125, .iconst 0), (126, .aload_n 0), (127, .getfield 99)]) (pc' := 130) (lv' := [(0, .inr (.inr t))]) (st' := [.inl (m_rd h6 t 8), .inl 0, .inr (.inr t)]) (h' := h6) (cs := [GK h6 t 12]) (by decide +kernel) rfl hc ?_
      obtain ⟨hc, hF⟩ := gd_of hF
      obtain ⟨x9, h8, hG, hF⟩ := bd_of hF
      refine RN.cv (i := 120) (k := 163) (q2 := iX12_fails) (as := [.inr (.inr t), .inl 0, .inl (m_rd h6 t 8)]) (r := []) (v := some (.inl x9)) (h1 := h8) (by decide +kernel) rfl rfl rfl rfl rfl (rcv_ok hc.1) (CX12_fails (d := d + 7) hG) ?_
      obtain ⟨hc, hF⟩ := gd_of hF
      exact RN.zR (by decide +kernel) rfl hc.1 hF
noncomputable def FX12_isTakeHere (t : Int) (h : MH) : Option (Int × MH) :=
  gd [GK h t 12] (bv (FX12_passWord t h) (fun h1 =>
   gd [GK h1 t 12, GK h1 t 12, GK h1 t 12, GI h1 (m_rd h1 t 6) 1 (m_rd h1 t 11), GK h1 t 12, GK h1 t 12, GK h1 t 12, GI h1 (m_rd h1 t 4) 1 (m_rd h1 t 11), GI h1 (m_rd h1 t 5) 1 (m_w32 ((m_w32 (48 * (m_rd h1 t 11))) + (m_w32 (4 * (m_rd h1 (m_rd h1 t 6) (m_rd h1 t 11))))))] (
    hl (m_wr h1 (m_rd h1 t 5) (m_w32 ((m_w32 (48 * (m_rd h1 t 11))) + (m_w32 (4 * (m_rd h1 (m_rd h1 t 6) (m_rd h1 t 11)))))) (m_rd h1 (m_rd h1 t 4) (m_rd h1 t 11))) (fun h2 =>
     gd [GK h2 t 12] (bd (FX12_sum t h2) (fun x4 h3 =>
      (if x4 = 0 then
       some (0, h3)
      else
       gd [GK h3 t 12, GK h3 t 12, GK h3 t 12, GI h3 (m_rd h3 t 4) 1 (m_rd h3 t 11), GI h3 (m_rd h3 t 5) 1 (m_w32 ((m_w32 ((m_w32 (48 * (m_rd h1 t 11))) + (m_w32 (4 * (m_rd h1 (m_rd h1 t 6) (m_rd h1 t 11)))))) + 1))] (
        hl (m_wr h3 (m_rd h3 t 5) (m_w32 ((m_w32 ((m_w32 (48 * (m_rd h1 t 11))) + (m_w32 (4 * (m_rd h1 (m_rd h1 t 6) (m_rd h1 t 11)))))) + 1)) (m_rd h3 (m_rd h3 t 4) (m_rd h3 t 11))) (fun h5 =>
         gd [GK h5 t 12, GI h5 (m_rd h5 t 5) 1 (m_w32 ((m_w32 ((m_w32 (48 * (m_rd h1 t 11))) + (m_w32 (4 * (m_rd h1 (m_rd h1 t 6) (m_rd h1 t 11)))))) + 2))] (
          hl (m_wr h5 (m_rd h5 t 5) (m_w32 ((m_w32 ((m_w32 (48 * (m_rd h1 t 11))) + (m_w32 (4 * (m_rd h1 (m_rd h1 t 6) (m_rd h1 t 11)))))) + 2)) (-1)) (fun h6 =>
           gd [GK h6 t 12] (bd (FX12_takesWord t 26982 h6) (fun x8 h7 =>
            jn (fun (h10 : MH) =>
             gd [GK h10 t 12, GK h10 t 12, GK h10 t 12, GI h10 (m_rd h10 t 4) 1 (m_rd h10 t 11), GI h10 (m_rd h10 t 5) 1 (m_w32 ((m_w32 ((m_w32 (48 * (m_rd h1 t 11))) + (m_w32 (4 * (m_rd h1 (m_rd h1 t 6) (m_rd h1 t 11)))))) + 3))] (
              hl (m_wr h10 (m_rd h10 t 5) (m_w32 ((m_w32 ((m_w32 (48 * (m_rd h1 t 11))) + (m_w32 (4 * (m_rd h1 (m_rd h1 t 6) (m_rd h1 t 11)))))) + 3)) (m_rd h10 (m_rd h10 t 4) (m_rd h10 t 11))) (fun h11 =>
               gd [GK h11 t 12, GK h11 t 12, GI h11 (m_rd h11 t 6) 1 (m_rd h11 t 11), GI h11 (m_rd h11 t 6) 1 (m_rd h11 t 11)] (
                hl (m_wr h11 (m_rd h11 t 6) (m_rd h11 t 11) (m_w32 ((m_rd h11 (m_rd h11 t 6) (m_rd h11 t 11)) + 1))) (fun h12 =>
                 some (1, h12)))))) (fun j9 =>
             (if x8 = 0 then
              j9 h7
             else
              gd [GK h7 t 12, GK h7 t 12, GK h7 t 12, GI h7 (m_rd h7 t 4) 1 (m_rd h7 t 11), GI h7 (m_rd h7 t 5) 1 (m_w32 ((m_w32 ((m_w32 (48 * (m_rd h1 t 11))) + (m_w32 (4 * (m_rd h1 (m_rd h1 t 6) (m_rd h1 t 11)))))) + 2))] (
               hl (m_wr h7 (m_rd h7 t 5) (m_w32 ((m_w32 ((m_w32 (48 * (m_rd h1 t 11))) + (m_w32 (4 * (m_rd h1 (m_rd h1 t 6) (m_rd h1 t 11)))))) + 2)) (m_rd h7 (m_rd h7 t 4) (m_rd h7 t 11))) (fun h13 =>
                gd [GK h13 t 12] (bd (FX12_tested t h13) (fun x15 h14 =>
                 (if x15 = 0 then
                  some (0, h14)
                 else
                  j9 h14))))))))))))))))))))
theorem CX12_isTakeHere {d : Nat} {t : Int} {h : MH} {r : Int × MH} (hF : FX12_isTakeHere t h = some r) : RN xs L iX12_isTakeHere (d + 9) 0 (lvE 0 [.inr (.inr t)]) [] h (RIo r) := by
  unfold FX12_isTakeHere at hF
  refine RN.blk (ops := [(0, .aload_n 0)]) (pc' := 1) (lv' := [(0, .inr (.inr t))]) (st' := [.inr (.inr t)]) (h' := h) (cs := []) (by decide +kernel) rfl trivial ?_
  obtain ⟨hc, hF⟩ := gd_of hF
  obtain ⟨h1, hG, hF⟩ := bv_of hF
  refine RN.cv (i := 114) (k := 168) (q2 := iX12_passWord) (as := [.inr (.inr t)]) (r := []) (v := none) (h1 := h1) (by decide +kernel) rfl rfl rfl rfl rfl (rcv_ok hc.1) (CX12_passWord (d := d + 7) hG) ?_
  obtain ⟨hc, hF⟩ := gd_of hF
  refine RN.blk (ops := [(4, .bipush 48), (6, .aload_n 0), (7, .getfield 153), (10, .imul), (11, .iconst 4), (12, .aload_n 0), (13, .getfield 23), (16, .aload_n 0), (17, .getfield 153), (20, .iaload), (21, .imul), (22, .iadd), (23, .istore_n 1), (24, .aload_n 0), (25, .getfield 20), (28, .iload_n 1), (29, .aload_n 0), (30, .getfield 17), (33, .aload_n 0), (34, .getfield 153), (37, .iaload), (38, .iastore)]) (pc' := 39) (lv' := [(1, .inl (m_w32 ((m_w32 (48 * (m_rd h1 t 11))) + (m_w32 (4 * (m_rd h1 (m_rd h1 t 6) (m_rd h1 t 11))))))), (0, .inr (.inr t))]) (st' := []) (h' := (m_wr h1 (m_rd h1 t 5) (m_w32 ((m_w32 (48 * (m_rd h1 t 11))) + (m_w32 (4 * (m_rd h1 (m_rd h1 t 6) (m_rd h1 t 11)))))) (m_rd h1 (m_rd h1 t 4) (m_rd h1 t 11)))) (cs := [GK h1 t 12, GK h1 t 12, GK h1 t 12, GI h1 (m_rd h1 t 6) 1 (m_rd h1 t 11), GK h1 t 12, GK h1 t 12, GK h1 t 12, GI h1 (m_rd h1 t 4) 1 (m_rd h1 t 11), GI h1 (m_rd h1 t 5) 1 (m_w32 ((m_w32 (48 * (m_rd h1 t 11))) + (m_w32 (4 * (m_rd h1 (m_rd h1 t 6) (m_rd h1 t 11))))))]) (by decide +kernel) rfl hc ?_
  obtain ⟨h2, he, hF⟩ := hl_of hF
  refine RN.hl he ?_
  refine RN.blk (ops := [(39, .aload_n 0)]) (pc' := 40) (lv' := [(1, .inl (m_w32 ((m_w32 (48 * (m_rd h1 t 11))) + (m_w32 (4 * (m_rd h1 (m_rd h1 t 6) (m_rd h1 t 11))))))), (0, .inr (.inr t))]) (st' := [.inr (.inr t)]) (h' := h2) (cs := []) (by decide +kernel) rfl trivial ?_
  obtain ⟨hc, hF⟩ := gd_of hF
  obtain ⟨x4, h3, hG, hF⟩ := bd_of hF
  refine RN.cv (i := 190) (k := 179) (q2 := iX12_sum) (as := [.inr (.inr t)]) (r := []) (v := some (.inl x4)) (h1 := h3) (by decide +kernel) rfl rfl rfl rfl rfl (rcv_ok hc.1) (CX12_sum (d := d + 3) hG) ?_
  rcases it_of hF with ⟨hb, hF⟩ | ⟨hb, hF⟩
  · refine RN.iff (cd := .ne) (off := 5) (tgt := 48) (by decide +kernel) (mif_nen hb) ?_
    refine RN.blk (ops := [(46, .iconst 0)]) (pc' := 47) (lv' := [(1, .inl (m_w32 ((m_w32 (48 * (m_rd h1 t 11))) + (m_w32 (4 * (m_rd h1 (m_rd h1 t 6) (m_rd h1 t 11))))))), (0, .inr (.inr t))]) (st' := [.inl 0]) (h' := h3) (cs := []) (by decide +kernel) rfl trivial ?_
    exact RN.zR (by decide +kernel) rfl (Or.inl rfl) hF
  · refine RN.ift (cd := .ne) (off := 5) (tgt := 48) (by decide +kernel) (mif_ne hb) ?_
    obtain ⟨hc, hF⟩ := gd_of hF
    refine RN.blk (ops := [(48, .aload_n 0), (49, .getfield 20), (52, .iload_n 1), (53, .iconst 1), (54, .iadd), (55, .aload_n 0), (56, .getfield 17), (59, .aload_n 0), (60, .getfield 153), (63, .iaload), (64, .iastore)]) (pc' := 65) (lv' := [(1, .inl (m_w32 ((m_w32 (48 * (m_rd h1 t 11))) + (m_w32 (4 * (m_rd h1 (m_rd h1 t 6) (m_rd h1 t 11))))))), (0, .inr (.inr t))]) (st' := []) (h' := (m_wr h3 (m_rd h3 t 5) (m_w32 ((m_w32 ((m_w32 (48 * (m_rd h1 t 11))) + (m_w32 (4 * (m_rd h1 (m_rd h1 t 6) (m_rd h1 t 11)))))) + 1)) (m_rd h3 (m_rd h3 t 4) (m_rd h3 t 11)))) (cs := [GK h3 t 12, GK h3 t 12, GK h3 t 12, GI h3 (m_rd h3 t 4) 1 (m_rd h3 t 11), GI h3 (m_rd h3 t 5) 1 (m_w32 ((m_w32 ((m_w32 (48 * (m_rd h1 t 11))) + (m_w32 (4 * (m_rd h1 (m_rd h1 t 6) (m_rd h1 t 11)))))) + 1))]) (by decide +kernel) rfl hc ?_
    obtain ⟨h5, he, hF⟩ := hl_of hF
    refine RN.hl he ?_
    obtain ⟨hc, hF⟩ := gd_of hF
    refine RN.blk (ops := [(65, .aload_n 0), (66, .getfield 20), (69, .iload_n 1), (70, .iconst 2), (71, .iadd), (72, .iconst (-1)), (73, .iastore)]) (pc' := 74) (lv' := [(1, .inl (m_w32 ((m_w32 (48 * (m_rd h1 t 11))) + (m_w32 (4 * (m_rd h1 (m_rd h1 t 6) (m_rd h1 t 11))))))), (0, .inr (.inr t))]) (st' := []) (h' := (m_wr h5 (m_rd h5 t 5) (m_w32 ((m_w32 ((m_w32 (48 * (m_rd h1 t 11))) + (m_w32 (4 * (m_rd h1 (m_rd h1 t 6) (m_rd h1 t 11)))))) + 2)) (-1))) (cs := [GK h5 t 12, GI h5 (m_rd h5 t 5) 1 (m_w32 ((m_w32 ((m_w32 (48 * (m_rd h1 t 11))) + (m_w32 (4 * (m_rd h1 (m_rd h1 t 6) (m_rd h1 t 11)))))) + 2))]) (by decide +kernel) rfl hc ?_
    obtain ⟨h6, he, hF⟩ := hl_of hF
    refine RN.hl he ?_
    refine RN.blk (ops := [(74, .aload_n 0), (75, .ldc2_w 217)]) (pc' := 78) (lv' := [(1, .inl (m_w32 ((m_w32 (48 * (m_rd h1 t 11))) + (m_w32 (4 * (m_rd h1 (m_rd h1 t 6) (m_rd h1 t 11))))))), (0, .inr (.inr t))]) (st' := [.inr (.inl 26982), .inr (.inr t)]) (h' := h6) (cs := []) (by decide +kernel) rfl trivial ?_
    obtain ⟨hc, hF⟩ := gd_of hF
    obtain ⟨x8, h7, hG, hF⟩ := bd_of hF
    refine RN.cv (i := 219) (k := 169) (q2 := iX12_takesWord) (as := [.inr (.inr t), .inr (.inl 26982)]) (r := []) (v := some (.inl x8)) (h1 := h7) (by decide +kernel) rfl rfl rfl rfl rfl (rcv_ok hc.1) (CX12_takesWord (d := d + 6) hG) ?_
    refine jn_use (fun j9 => ∀ (h10 : MH), j9 h10 = some r → RN xs L iX12_isTakeHere (d + 9) 110 [(0, .inr (.inr t)), (1, .inl (m_w32 ((m_w32 (48 * (m_rd h1 t 11))) + (m_w32 (4 * (m_rd h1 (m_rd h1 t 6) (m_rd h1 t 11)))))))] [] h10 (RIo r)) ?_ ?_ hF
    · intro h10 hF
      obtain ⟨hc, hF⟩ := gd_of hF
      refine RN.blk (ops := [(110, .aload_n 0), (111, .getfield 20), (114, .iload_n 1), (115, .iconst 3), (116, .iadd), (117, .aload_n 0), (118, .getfield 17), (121, .aload_n 0), (122, .getfield 153), (125, .iaload), (126, .iastore)]) (pc' := 127) (lv' := [(0, .inr (.inr t)), (1, .inl (m_w32 ((m_w32 (48 * (m_rd h1 t 11))) + (m_w32 (4 * (m_rd h1 (m_rd h1 t 6) (m_rd h1 t 11)))))))]) (st' := []) (h' := (m_wr h10 (m_rd h10 t 5) (m_w32 ((m_w32 ((m_w32 (48 * (m_rd h1 t 11))) + (m_w32 (4 * (m_rd h1 (m_rd h1 t 6) (m_rd h1 t 11)))))) + 3)) (m_rd h10 (m_rd h10 t 4) (m_rd h10 t 11)))) (cs := [GK h10 t 12, GK h10 t 12, GK h10 t 12, GI h10 (m_rd h10 t 4) 1 (m_rd h10 t 11), GI h10 (m_rd h10 t 5) 1 (m_w32 ((m_w32 ((m_w32 (48 * (m_rd h1 t 11))) + (m_w32 (4 * (m_rd h1 (m_rd h1 t 6) (m_rd h1 t 11)))))) + 3))]) (by decide +kernel) rfl hc ?_
      obtain ⟨h11, he, hF⟩ := hl_of hF
      refine RN.hl he ?_
      obtain ⟨hc, hF⟩ := gd_of hF
      refine RN.blk (ops := [(127, .aload_n 0), (128, .getfield 23), (131, .aload_n 0), (132, .getfield 153), (135, .dup2), (136, .iaload), (137, .iconst 1), (138, .iadd), (139, .iastore)]) (pc' := 140) (lv' := [(0, .inr (.inr t)), (1, .inl (m_w32 ((m_w32 (48 * (m_rd h1 t 11))) + (m_w32 (4 * (m_rd h1 (m_rd h1 t 6) (m_rd h1 t 11)))))))]) (st' := []) (h' := (m_wr h11 (m_rd h11 t 6) (m_rd h11 t 11) (m_w32 ((m_rd h11 (m_rd h11 t 6) (m_rd h11 t 11)) + 1)))) (cs := [GK h11 t 12, GK h11 t 12, GI h11 (m_rd h11 t 6) 1 (m_rd h11 t 11), GI h11 (m_rd h11 t 6) 1 (m_rd h11 t 11)]) (by decide +kernel) rfl hc ?_
      obtain ⟨h12, he, hF⟩ := hl_of hF
      refine RN.hl he ?_
      refine RN.blk (ops := [(140, .iconst 1)]) (pc' := 141) (lv' := [(0, .inr (.inr t)), (1, .inl (m_w32 ((m_w32 (48 * (m_rd h1 t 11))) + (m_w32 (4 * (m_rd h1 (m_rd h1 t 6) (m_rd h1 t 11)))))))]) (st' := [.inl 1]) (h' := h12) (cs := []) (by decide +kernel) rfl trivial ?_
      exact RN.zR (by decide +kernel) rfl (Or.inr rfl) hF
    · intro j9 Jj9 hF
      rcases it_of hF with ⟨hb, hF⟩ | ⟨hb, hF⟩
      · refine RN.ift (cd := .eq) (off := 29) (tgt := 110) (by decide +kernel) (mif_eq hb) ?_
        exact RN.sub (Jj9 _ hF) (sub_cons rfl (sub_cons rfl sub_nil))
      · refine RN.iff (cd := .eq) (off := 29) (tgt := 110) (by decide +kernel) (mif_eqn hb) ?_
        obtain ⟨hc, hF⟩ := gd_of hF
        refine RN.blk (ops := [(84, .aload_n 0), (85, .getfield 20), (88, .iload_n 1), (89, .iconst 2), (90, .iadd), (91, .aload_n 0), (92, .getfield 17), (95, .aload_n 0), (96, .getfield 153), (99, .iaload), (100, .iastore)]) (pc' := 101) (lv' := [(1, .inl (m_w32 ((m_w32 (48 * (m_rd h1 t 11))) + (m_w32 (4 * (m_rd h1 (m_rd h1 t 6) (m_rd h1 t 11))))))), (0, .inr (.inr t))]) (st' := []) (h' := (m_wr h7 (m_rd h7 t 5) (m_w32 ((m_w32 ((m_w32 (48 * (m_rd h1 t 11))) + (m_w32 (4 * (m_rd h1 (m_rd h1 t 6) (m_rd h1 t 11)))))) + 2)) (m_rd h7 (m_rd h7 t 4) (m_rd h7 t 11)))) (cs := [GK h7 t 12, GK h7 t 12, GK h7 t 12, GI h7 (m_rd h7 t 4) 1 (m_rd h7 t 11), GI h7 (m_rd h7 t 5) 1 (m_w32 ((m_w32 ((m_w32 (48 * (m_rd h1 t 11))) + (m_w32 (4 * (m_rd h1 (m_rd h1 t 6) (m_rd h1 t 11)))))) + 2))]) (by decide +kernel) rfl hc ?_
        obtain ⟨h13, he, hF⟩ := hl_of hF
        refine RN.hl he ?_
        refine RN.blk (ops := [(101, .aload_n 0)]) (pc' := 102) (lv' := [(1, .inl (m_w32 ((m_w32 (48 * (m_rd h1 t 11))) + (m_w32 (4 * (m_rd h1 (m_rd h1 t 6) (m_rd h1 t 11))))))), (0, .inr (.inr t))]) (st' := [.inr (.inr t)]) (h' := h13) (cs := []) (by decide +kernel) rfl trivial ?_
        obtain ⟨hc, hF⟩ := gd_of hF
        obtain ⟨x15, h14, hG, hF⟩ := bd_of hF
        refine RN.cv (i := 222) (k := 184) (q2 := iX12_tested) (as := [.inr (.inr t)]) (r := []) (v := some (.inl x15)) (h1 := h14) (by decide +kernel) rfl rfl rfl rfl rfl (rcv_ok hc.1) (CX12_tested (d := d) hG) ?_
        rcases it_of hF with ⟨hb, hF⟩ | ⟨hb, hF⟩
        · refine RN.iff (cd := .ne) (off := 5) (tgt := 110) (by decide +kernel) (mif_nen hb) ?_
          refine RN.blk (ops := [(108, .iconst 0)]) (pc' := 109) (lv' := [(1, .inl (m_w32 ((m_w32 (48 * (m_rd h1 t 11))) + (m_w32 (4 * (m_rd h1 (m_rd h1 t 6) (m_rd h1 t 11))))))), (0, .inr (.inr t))]) (st' := [.inl 0]) (h' := h14) (cs := []) (by decide +kernel) rfl trivial ?_
          exact RN.zR (by decide +kernel) rfl (Or.inl rfl) hF
        · refine RN.ift (cd := .ne) (off := 5) (tgt := 110) (by decide +kernel) (mif_ne hb) ?_
          exact RN.sub (Jj9 _ hF) (sub_cons rfl (sub_cons rfl sub_nil))
noncomputable def FX12_cellHere (t : Int) (a1 : Int) (a2 : Int) (a3 : Int) (h : MH) : Option (Int × MH) :=
  gd [GK h t 12] (bd (FX12_numberHere t a2 a3 h) (fun x2 h1 =>
   (if x2 = 0 then
    some (0, h1)
   else
    gd [GK h1 t 12, GK h1 t 12, GI h1 (m_rd h1 t 7) 1 a1] (
     some (1, (m_wr h1 (m_rd h1 t 7) a1 (m_rd h1 t 10)))))))
theorem CX12_cellHere {d : Nat} {t : Int} {a1 : Int} {a2 : Int} {a3 : Int} {h : MH} {r : Int × MH} (hF : FX12_cellHere t a1 a2 a3 h = some r) : RN xs L iX12_cellHere (d + 2) 0 (lvE 0 [.inr (.inr t), .inl a1, .inl a2, .inl a3]) [] h (RIo r) := by
  unfold FX12_cellHere at hF
  refine RN.blk (ops := [(0, .aload_n 0), (1, .iload_n 2), (2, .iload_n 3)]) (pc' := 3) (lv' := [(0, .inr (.inr t)), (1, .inl a1), (2, .inl a2), (3, .inl a3)]) (st' := [.inl a3, .inl a2, .inr (.inr t)]) (h' := h) (cs := []) (by decide +kernel) rfl trivial ?_
  obtain ⟨hc, hF⟩ := gd_of hF
  obtain ⟨x2, h1, hG, hF⟩ := bd_of hF
  refine RN.cv (i := 174) (k := 170) (q2 := iX12_numberHere) (as := [.inr (.inr t), .inl a2, .inl a3]) (r := []) (v := some (.inl x2)) (h1 := h1) (by decide +kernel) rfl rfl rfl rfl rfl (rcv_ok hc.1) (CX12_numberHere (d := d) hG) ?_
  rcases it_of hF with ⟨hb, hF⟩ | ⟨hb, hF⟩
  · refine RN.iff (cd := .ne) (off := 5) (tgt := 11) (by decide +kernel) (mif_nen hb) ?_
    refine RN.blk (ops := [(9, .iconst 0)]) (pc' := 10) (lv' := [(0, .inr (.inr t)), (1, .inl a1), (2, .inl a2), (3, .inl a3)]) (st' := [.inl 0]) (h' := h1) (cs := []) (by decide +kernel) rfl trivial ?_
    exact RN.zR (by decide +kernel) rfl (Or.inl rfl) hF
  · refine RN.ift (cd := .ne) (off := 5) (tgt := 11) (by decide +kernel) (mif_ne hb) ?_
    obtain ⟨hc, hF⟩ := gd_of hF
    refine RN.blk (ops := [(11, .aload_n 0), (12, .getfield 26), (15, .iload_n 1), (16, .aload_n 0), (17, .getfield 124), (20, .iastore), (21, .iconst 1)]) (pc' := 22) (lv' := [(0, .inr (.inr t)), (1, .inl a1), (2, .inl a2), (3, .inl a3)]) (st' := [.inl 1]) (h' := (m_wr h1 (m_rd h1 t 7) a1 (m_rd h1 t 10))) (cs := [GK h1 t 12, GK h1 t 12, GI h1 (m_rd h1 t 7) 1 a1]) (by decide +kernel) rfl hc ?_
    exact RN.zR (by decide +kernel) rfl (Or.inr rfl) hF
noncomputable def FX12_isFrameHere_L55 (u0 : Int) (K0 : MH → Option (Int × MH)) : Nat → Int → MH → Option (Int × MH)
  | 0, _, _ => none
  | f + 1, v2, h =>
    (if v2 < 6 then
     gd [GK h u0 12, GI h (m_rd h u0 7) 1 (m_w32 (82 + v2))] (
      FX12_isFrameHere_L55 u0 K0 f (m_w32 (v2 + 1)) (m_wr h (m_rd h u0 7) (m_w32 (82 + v2)) 5))
    else
     K0 h)
theorem CX12_isFrameHere_L55 {d : Nat} {u0 : Int} {K0 : MH → Option (Int × MH)} {r : Int × MH} (hK0 : ∀ (h : MH), K0 h = some r → RN xs L iX12_isFrameHere (d + 3) 77 [(0, .inr (.inr u0))] [] h (RIo r)) : ∀ (f : Nat) (v2 : Int) (h : MH), FX12_isFrameHere_L55 u0 K0 f v2 h = some r → RN xs L iX12_isFrameHere (d + 3) 55 [(0, .inr (.inr u0)), (2, .inl v2)] [] h (RIo r) := by
  intro f
  induction f with
  | zero =>
    intro v2 h hF
    cases hF
  | succ f ih =>
    intro v2 h hF
    unfold FX12_isFrameHere_L55 at hF
    refine RN.blk (ops := [(55, .iload_n 2), (56, .bipush 6)]) (pc' := 58) (lv' := [(0, .inr (.inr u0)), (2, .inl v2)]) (st' := [.inl 6, .inl v2]) (h' := h) (cs := []) (by decide +kernel) rfl trivial ?_
    rcases it_of hF with ⟨hb, hF⟩ | ⟨hb, hF⟩
    · refine RN.icf (cd := .ge) (off := 19) (tgt := 77) (by decide +kernel) (mif_gen hb) ?_
      obtain ⟨hc, hF⟩ := gd_of hF
      refine RN.blk (ops := [(61, .aload_n 0), (62, .getfield 26), (65, .bipush 82), (67, .iload_n 2), (68, .iadd), (69, .iconst 5), (70, .iastore), (71, .iinc 2 1)]) (pc' := 74) (lv' := [(2, .inl (m_w32 (v2 + 1))), (0, .inr (.inr u0))]) (st' := []) (h' := (m_wr h (m_rd h u0 7) (m_w32 (82 + v2)) 5)) (cs := [GK h u0 12, GI h (m_rd h u0 7) 1 (m_w32 (82 + v2))]) (by decide +kernel) rfl hc ?_
      refine RN.goto (off := -19) (tgt := 55) (by decide +kernel) ?_
      exact RN.sub (ih _ _ hF) (sub_cons rfl (sub_cons rfl sub_nil))
    · refine RN.ict (cd := .ge) (off := 19) (tgt := 77) (by decide +kernel) (mif_ge hb) ?_
      exact RN.sub (hK0 _ hF) (sub_cons rfl sub_nil)
noncomputable def FX12_isFrameHere (t : Int) (a1 : Int) (h : MH) : Option (Int × MH) :=
  gd [GK h t 12, GI h (m_rd h t 7) 1 0] (
   (if 0 < (m_rd h (m_rd h t 7) 0) then
    gd [GK h t 12] (bd (FX12_fails t 4 a1 h) (fun x10 h9 =>
     gd [GT x10] (some (x10, h9))))
   else
    gd [GK h t 12] (bv (FX12_passWord t h) (fun h1 =>
     gd [GK h1 t 12] (bd (FX12_cellHere t 1 2 4 h1) (fun x3 h2 =>
      (if x3 = 0 then
       some (0, h2)
      else
       gd [GK h2 t 12] (bd (FX12_cellHere t 2 1 4 h2) (fun x5 h4 =>
        (if x5 = 0 then
         some (0, h4)
        else
         gd [GK h4 t 12] (bd (FX12_cellHere t 3 1 6 h4) (fun x7 h6 =>
          (if x7 = 0 then
           some (0, h6)
          else
           FX12_isFrameHere_L55 t (fun h8 =>
            gd [GK h8 t 12, GI h8 (m_rd h8 t 7) 1 0] (
             some (1, (m_wr h8 (m_rd h8 t 7) 0 1)))) FU 0 h6)))))))))))))
theorem CX12_isFrameHere {d : Nat} {t : Int} {a1 : Int} {h : MH} {r : Int × MH} (hF : FX12_isFrameHere t a1 h = some r) : RN xs L iX12_isFrameHere (d + 3) 0 (lvE 0 [.inr (.inr t), .inl a1]) [] h (RIo r) := by
  unfold FX12_isFrameHere at hF
  obtain ⟨hc, hF⟩ := gd_of hF
  refine RN.blk (ops := [(0, .aload_n 0), (1, .getfield 26), (4, .iconst 0), (5, .iaload)]) (pc' := 6) (lv' := [(0, .inr (.inr t)), (1, .inl a1)]) (st' := [.inl (m_rd h (m_rd h t 7) 0)]) (h' := h) (cs := [GK h t 12, GI h (m_rd h t 7) 1 0]) (by decide +kernel) rfl hc ?_
  rcases it_of hF with ⟨hb, hF⟩ | ⟨hb, hF⟩
  · refine RN.iff (cd := .le) (off := 10) (tgt := 16) (by decide +kernel) (mif_len hb) ?_
    refine RN.blk (ops := [(9, .aload_n 0), (10, .iconst 4), (11, .iload_n 1)]) (pc' := 12) (lv' := [(0, .inr (.inr t)), (1, .inl a1)]) (st' := [.inl a1, .inl 4, .inr (.inr t)]) (h' := h) (cs := []) (by decide +kernel) rfl trivial ?_
    obtain ⟨hc, hF⟩ := gd_of hF
    obtain ⟨x10, h9, hG, hF⟩ := bd_of hF
    refine RN.cv (i := 120) (k := 163) (q2 := iX12_fails) (as := [.inr (.inr t), .inl 4, .inl a1]) (r := []) (v := some (.inl x10)) (h1 := h9) (by decide +kernel) rfl rfl rfl rfl rfl (rcv_ok hc.1) (CX12_fails (d := d + 2) hG) ?_
    obtain ⟨hc, hF⟩ := gd_of hF
    exact RN.zR (by decide +kernel) rfl hc.1 hF
  · refine RN.ift (cd := .le) (off := 10) (tgt := 16) (by decide +kernel) (mif_le hb) ?_
    refine RN.blk (ops := [(16, .aload_n 0)]) (pc' := 17) (lv' := [(0, .inr (.inr t)), (1, .inl a1)]) (st' := [.inr (.inr t)]) (h' := h) (cs := []) (by decide +kernel) rfl trivial ?_
    obtain ⟨hc, hF⟩ := gd_of hF
    obtain ⟨h1, hG, hF⟩ := bv_of hF
    refine RN.cv (i := 114) (k := 168) (q2 := iX12_passWord) (as := [.inr (.inr t)]) (r := []) (v := none) (h1 := h1) (by decide +kernel) rfl rfl rfl rfl rfl (rcv_ok hc.1) (CX12_passWord (d := d + 1) hG) ?_
    refine RN.blk (ops := [(20, .aload_n 0), (21, .iconst 1), (22, .iconst 2), (23, .iconst 4)]) (pc' := 24) (lv' := [(0, .inr (.inr t)), (1, .inl a1)]) (st' := [.inl 4, .inl 2, .inl 1, .inr (.inr t)]) (h' := h1) (cs := []) (by decide +kernel) rfl trivial ?_
    obtain ⟨hc, hF⟩ := gd_of hF
    obtain ⟨x3, h2, hG, hF⟩ := bd_of hF
    refine RN.cv (i := 225) (k := 186) (q2 := iX12_cellHere) (as := [.inr (.inr t), .inl 1, .inl 2, .inl 4]) (r := []) (v := some (.inl x3)) (h1 := h2) (by decide +kernel) rfl rfl rfl rfl rfl (rcv_ok hc.1) (CX12_cellHere (d := d) hG) ?_
    rcases it_of hF with ⟨hb, hF⟩ | ⟨hb, hF⟩
    · refine RN.ift (cd := .eq) (off := 24) (tgt := 51) (by decide +kernel) (mif_eq hb) ?_
      refine RN.blk (ops := [(51, .iconst 0)]) (pc' := 52) (lv' := [(0, .inr (.inr t)), (1, .inl a1)]) (st' := [.inl 0]) (h' := h2) (cs := []) (by decide +kernel) rfl trivial ?_
      exact RN.zR (by decide +kernel) rfl (Or.inl rfl) hF
    · refine RN.iff (cd := .eq) (off := 24) (tgt := 51) (by decide +kernel) (mif_eqn hb) ?_
      refine RN.blk (ops := [(30, .aload_n 0), (31, .iconst 2), (32, .iconst 1), (33, .iconst 4)]) (pc' := 34) (lv' := [(0, .inr (.inr t)), (1, .inl a1)]) (st' := [.inl 4, .inl 1, .inl 2, .inr (.inr t)]) (h' := h2) (cs := []) (by decide +kernel) rfl trivial ?_
      obtain ⟨hc, hF⟩ := gd_of hF
      obtain ⟨x5, h4, hG, hF⟩ := bd_of hF
      refine RN.cv (i := 225) (k := 186) (q2 := iX12_cellHere) (as := [.inr (.inr t), .inl 2, .inl 1, .inl 4]) (r := []) (v := some (.inl x5)) (h1 := h4) (by decide +kernel) rfl rfl rfl rfl rfl (rcv_ok hc.1) (CX12_cellHere (d := d) hG) ?_
      rcases it_of hF with ⟨hb, hF⟩ | ⟨hb, hF⟩
      · refine RN.ift (cd := .eq) (off := 14) (tgt := 51) (by decide +kernel) (mif_eq hb) ?_
        refine RN.blk (ops := [(51, .iconst 0)]) (pc' := 52) (lv' := [(0, .inr (.inr t)), (1, .inl a1)]) (st' := [.inl 0]) (h' := h4) (cs := []) (by decide +kernel) rfl trivial ?_
        exact RN.zR (by decide +kernel) rfl (Or.inl rfl) hF
      · refine RN.iff (cd := .eq) (off := 14) (tgt := 51) (by decide +kernel) (mif_eqn hb) ?_
        refine RN.blk (ops := [(40, .aload_n 0), (41, .iconst 3), (42, .iconst 1), (43, .bipush 6)]) (pc' := 45) (lv' := [(0, .inr (.inr t)), (1, .inl a1)]) (st' := [.inl 6, .inl 1, .inl 3, .inr (.inr t)]) (h' := h4) (cs := []) (by decide +kernel) rfl trivial ?_
        obtain ⟨hc, hF⟩ := gd_of hF
        obtain ⟨x7, h6, hG, hF⟩ := bd_of hF
        refine RN.cv (i := 225) (k := 186) (q2 := iX12_cellHere) (as := [.inr (.inr t), .inl 3, .inl 1, .inl 6]) (r := []) (v := some (.inl x7)) (h1 := h6) (by decide +kernel) rfl rfl rfl rfl rfl (rcv_ok hc.1) (CX12_cellHere (d := d) hG) ?_
        rcases it_of hF with ⟨hb, hF⟩ | ⟨hb, hF⟩
        · refine RN.iff (cd := .ne) (off := 5) (tgt := 53) (by decide +kernel) (mif_nen hb) ?_
          refine RN.blk (ops := [(51, .iconst 0)]) (pc' := 52) (lv' := [(0, .inr (.inr t)), (1, .inl a1)]) (st' := [.inl 0]) (h' := h6) (cs := []) (by decide +kernel) rfl trivial ?_
          exact RN.zR (by decide +kernel) rfl (Or.inl rfl) hF
        · refine RN.ift (cd := .ne) (off := 5) (tgt := 53) (by decide +kernel) (mif_ne hb) ?_
          refine RN.blk (ops := [(53, .iconst 0), (54, .istore_n 2)]) (pc' := 55) (lv' := [(2, .inl 0), (0, .inr (.inr t)), (1, .inl a1)]) (st' := []) (h' := h6) (cs := []) (by decide +kernel) rfl trivial ?_
          refine RN.sub (CX12_isFrameHere_L55 ?_ _ _ _ hF) (sub_cons rfl (sub_cons rfl sub_nil))
          · intro h8 hF
            obtain ⟨hc, hF⟩ := gd_of hF
            refine RN.blk (ops := [(77, .aload_n 0), (78, .getfield 26), (81, .iconst 0), (82, .iconst 1), (83, .iastore), (84, .iconst 1)]) (pc' := 85) (lv' := [(0, .inr (.inr t))]) (st' := [.inl 1]) (h' := (m_wr h8 (m_rd h8 t 7) 0 1)) (cs := [GK h8 t 12, GI h8 (m_rd h8 t 7) 1 0]) (by decide +kernel) rfl hc ?_
            exact RN.zR (by decide +kernel) rfl (Or.inr rfl) hF
noncomputable def FX12_isRoomHere (t : Int) (h : MH) : Option (Int × MH) :=
  gd [GK h t 12] (bv (FX12_passWord t h) (fun h1 =>
   gd [GK h1 t 12, GI h1 (m_rd h1 t 7) 1 3] (
    gd [GK h1 t 12] (bd (FX12_numberHere t 0 (m_w32 ((m_rd h1 (m_rd h1 t 7) 3) - 1)) h1) (fun x3 h2 =>
     (if x3 = 0 then
      some (0, h2)
     else
      gd [GK h2 t 12] (
       gd [GK h2 t 12] (bd (FX12_cellHere t (m_w32 (82 + (m_rd h2 t 10))) 1 20 h2) (fun x5 h4 =>
        gd [GT x5] (some (x5, h4)))))))))))
theorem CX12_isRoomHere {d : Nat} {t : Int} {h : MH} {r : Int × MH} (hF : FX12_isRoomHere t h = some r) : RN xs L iX12_isRoomHere (d + 3) 0 (lvE 0 [.inr (.inr t)]) [] h (RIo r) := by
  unfold FX12_isRoomHere at hF
  refine RN.blk (ops := [(0, .aload_n 0)]) (pc' := 1) (lv' := [(0, .inr (.inr t))]) (st' := [.inr (.inr t)]) (h' := h) (cs := []) (by decide +kernel) rfl trivial ?_
  obtain ⟨hc, hF⟩ := gd_of hF
  obtain ⟨h1, hG, hF⟩ := bv_of hF
  refine RN.cv (i := 114) (k := 168) (q2 := iX12_passWord) (as := [.inr (.inr t)]) (r := []) (v := none) (h1 := h1) (by decide +kernel) rfl rfl rfl rfl rfl (rcv_ok hc.1) (CX12_passWord (d := d + 1) hG) ?_
  obtain ⟨hc, hF⟩ := gd_of hF
  refine RN.blk (ops := [(4, .aload_n 0), (5, .iconst 0), (6, .aload_n 0), (7, .getfield 26), (10, .iconst 3), (11, .iaload), (12, .iconst 1), (13, .isub)]) (pc' := 14) (lv' := [(0, .inr (.inr t))]) (st' := [.inl (m_w32 ((m_rd h1 (m_rd h1 t 7) 3) - 1)), .inl 0, .inr (.inr t)]) (h' := h1) (cs := [GK h1 t 12, GI h1 (m_rd h1 t 7) 1 3]) (by decide +kernel) rfl hc ?_
  obtain ⟨hc, hF⟩ := gd_of hF
  obtain ⟨x3, h2, hG, hF⟩ := bd_of hF
  refine RN.cv (i := 174) (k := 170) (q2 := iX12_numberHere) (as := [.inr (.inr t), .inl 0, .inl (m_w32 ((m_rd h1 (m_rd h1 t 7) 3) - 1))]) (r := []) (v := some (.inl x3)) (h1 := h2) (by decide +kernel) rfl rfl rfl rfl rfl (rcv_ok hc.1) (CX12_numberHere (d := d + 1) hG) ?_
  rcases it_of hF with ⟨hb, hF⟩ | ⟨hb, hF⟩
  · refine RN.iff (cd := .ne) (off := 5) (tgt := 22) (by decide +kernel) (mif_nen hb) ?_
    refine RN.blk (ops := [(20, .iconst 0)]) (pc' := 21) (lv' := [(0, .inr (.inr t))]) (st' := [.inl 0]) (h' := h2) (cs := []) (by decide +kernel) rfl trivial ?_
    exact RN.zR (by decide +kernel) rfl (Or.inl rfl) hF
  · refine RN.ift (cd := .ne) (off := 5) (tgt := 22) (by decide +kernel) (mif_ne hb) ?_
    obtain ⟨hc, hF⟩ := gd_of hF
    refine RN.blk (ops := [(22, .aload_n 0), (23, .getfield 124), (26, .istore_n 1), (27, .aload_n 0), (28, .bipush 82), (30, .iload_n 1), (31, .iadd), (32, .iconst 1), (33, .bipush 20)]) (pc' := 35) (lv' := [(1, .inl (m_rd h2 t 10)), (0, .inr (.inr t))]) (st' := [.inl 20, .inl 1, .inl (m_w32 (82 + (m_rd h2 t 10))), .inr (.inr t)]) (h' := h2) (cs := [GK h2 t 12]) (by decide +kernel) rfl hc ?_
    obtain ⟨hc, hF⟩ := gd_of hF
    obtain ⟨x5, h4, hG, hF⟩ := bd_of hF
    refine RN.cv (i := 225) (k := 186) (q2 := iX12_cellHere) (as := [.inr (.inr t), .inl (m_w32 (82 + (m_rd h2 t 10))), .inl 1, .inl 20]) (r := []) (v := some (.inl x5)) (h1 := h4) (by decide +kernel) rfl rfl rfl rfl rfl (rcv_ok hc.1) (CX12_cellHere (d := d) hG) ?_
    obtain ⟨hc, hF⟩ := gd_of hF
    exact RN.zR (by decide +kernel) rfl hc.1 hF
noncomputable def FX12_isPlanHere_L91 (u0 : Int) (u2 : Int) (u3 : Int) (K0 : Int → MH → Option (Int × MH)) : Nat → Int → MH → Option (Int × MH)
  | 0, _, _ => none
  | f + 1, v4, h =>
    gd [GK h u0 12, GI h (m_rd h u0 7) 1 4] (
     (if v4 < (m_rd h (m_rd h u0 7) 4) then
      gd [GK h u0 12, GI h (m_rd h u0 7) 1 (m_w32 (88 + (m_w32 (3 * v4))))] (
       (if (m_rd h (m_rd h u0 7) (m_w32 (88 + (m_w32 (3 * v4))))) = u2 then
        gd [GK h u0 12, GI h (m_rd h u0 7) 1 (m_w32 ((m_w32 (88 + (m_w32 (3 * v4)))) + 1))] (
         (if (m_rd h (m_rd h u0 7) (m_w32 ((m_w32 (88 + (m_w32 (3 * v4)))) + 1))) = u3 then
          K0 v4 h
         else
          FX12_isPlanHere_L91 u0 u2 u3 K0 f (m_w32 (v4 + 1)) h))
       else
        FX12_isPlanHere_L91 u0 u2 u3 K0 f (m_w32 (v4 + 1)) h))
     else
      K0 v4 h))
theorem CX12_isPlanHere_L91 {d : Nat} {u0 : Int} {u2 : Int} {u3 : Int} {K0 : Int → MH → Option (Int × MH)} {r : Int × MH} (hK0 : ∀ (w4 : Int) (h : MH), K0 w4 h = some r → RN xs L iX12_isPlanHere (d + 2) 142 [(0, .inr (.inr u0)), (2, .inl u2), (3, .inl u3), (4, .inl w4)] [] h (RIo r)) : ∀ (f : Nat) (v4 : Int) (h : MH), FX12_isPlanHere_L91 u0 u2 u3 K0 f v4 h = some r → RN xs L iX12_isPlanHere (d + 2) 91 [(0, .inr (.inr u0)), (2, .inl u2), (3, .inl u3), (4, .inl v4)] [] h (RIo r) := by
  intro f
  induction f with
  | zero =>
    intro v4 h hF
    cases hF
  | succ f ih =>
    intro v4 h hF
    unfold FX12_isPlanHere_L91 at hF
    obtain ⟨hc, hF⟩ := gd_of hF
    refine RN.blk (ops := [(91, .iload 4), (93, .aload_n 0), (94, .getfield 26), (97, .iconst 4), (98, .iaload)]) (pc' := 99) (lv' := [(0, .inr (.inr u0)), (2, .inl u2), (3, .inl u3), (4, .inl v4)]) (st' := [.inl (m_rd h (m_rd h u0 7) 4), .inl v4]) (h' := h) (cs := [GK h u0 12, GI h (m_rd h u0 7) 1 4]) (by decide +kernel) rfl hc ?_
    rcases it_of hF with ⟨hb, hF⟩ | ⟨hb, hF⟩
    · refine RN.icf (cd := .ge) (off := 43) (tgt := 142) (by decide +kernel) (mif_gen hb) ?_
      obtain ⟨hc, hF⟩ := gd_of hF
      refine RN.blk (ops := [(102, .aload_n 0), (103, .getfield 26), (106, .bipush 88), (108, .iconst 3), (109, .iload 4), (111, .imul), (112, .iadd), (113, .iaload), (114, .iload_n 2)]) (pc' := 115) (lv' := [(0, .inr (.inr u0)), (2, .inl u2), (3, .inl u3), (4, .inl v4)]) (st' := [.inl u2, .inl (m_rd h (m_rd h u0 7) (m_w32 (88 + (m_w32 (3 * v4)))))]) (h' := h) (cs := [GK h u0 12, GI h (m_rd h u0 7) 1 (m_w32 (88 + (m_w32 (3 * v4))))]) (by decide +kernel) rfl hc ?_
      rcases it_of hF with ⟨hb, hF⟩ | ⟨hb, hF⟩
      · refine RN.icf (cd := .ne) (off := 21) (tgt := 136) (by decide +kernel) (mif_nen hb) ?_
        obtain ⟨hc, hF⟩ := gd_of hF
        refine RN.blk (ops := [(118, .aload_n 0), (119, .getfield 26), (122, .bipush 88), (124, .iconst 3), (125, .iload 4), (127, .imul), (128, .iadd), (129, .iconst 1), (130, .iadd), (131, .iaload), (132, .iload_n 3)]) (pc' := 133) (lv' := [(0, .inr (.inr u0)), (2, .inl u2), (3, .inl u3), (4, .inl v4)]) (st' := [.inl u3, .inl (m_rd h (m_rd h u0 7) (m_w32 ((m_w32 (88 + (m_w32 (3 * v4)))) + 1)))]) (h' := h) (cs := [GK h u0 12, GI h (m_rd h u0 7) 1 (m_w32 ((m_w32 (88 + (m_w32 (3 * v4)))) + 1))]) (by decide +kernel) rfl hc ?_
        rcases it_of hF with ⟨hb, hF⟩ | ⟨hb, hF⟩
        · refine RN.ict (cd := .eq) (off := 9) (tgt := 142) (by decide +kernel) (mif_eq hb) ?_
          exact RN.sub (hK0 _ _ hF) (sub_cons rfl (sub_cons rfl (sub_cons rfl (sub_cons rfl sub_nil))))
        · refine RN.icf (cd := .eq) (off := 9) (tgt := 142) (by decide +kernel) (mif_eqn hb) ?_
          refine RN.blk (ops := [(136, .iinc 4 1)]) (pc' := 139) (lv' := [(4, .inl (m_w32 (v4 + 1))), (0, .inr (.inr u0)), (2, .inl u2), (3, .inl u3)]) (st' := []) (h' := h) (cs := []) (by decide +kernel) rfl trivial ?_
          refine RN.goto (off := -48) (tgt := 91) (by decide +kernel) ?_
          exact RN.sub (ih _ _ hF) (sub_cons rfl (sub_cons rfl (sub_cons rfl (sub_cons rfl sub_nil))))
      · refine RN.ict (cd := .ne) (off := 21) (tgt := 136) (by decide +kernel) (mif_ne hb) ?_
        refine RN.blk (ops := [(136, .iinc 4 1)]) (pc' := 139) (lv' := [(4, .inl (m_w32 (v4 + 1))), (0, .inr (.inr u0)), (2, .inl u2), (3, .inl u3)]) (st' := []) (h' := h) (cs := []) (by decide +kernel) rfl trivial ?_
        refine RN.goto (off := -48) (tgt := 91) (by decide +kernel) ?_
        exact RN.sub (ih _ _ hF) (sub_cons rfl (sub_cons rfl (sub_cons rfl (sub_cons rfl sub_nil))))
    · refine RN.ict (cd := .ge) (off := 43) (tgt := 142) (by decide +kernel) (mif_ge hb) ?_
      exact RN.sub (hK0 _ _ hF) (sub_cons rfl (sub_cons rfl (sub_cons rfl (sub_cons rfl sub_nil))))
noncomputable def FX12_isPlanHere (t : Int) (a1 : Int) (h : MH) : Option (Int × MH) :=
  gd [GK h t 12, GI h (m_rd h t 7) 1 4] (
   (if (m_rd h (m_rd h t 7) 4) = 12 then
    gd [GK h t 12] (bd (FX12_fails t 4 a1 h) (fun x18 h17 =>
     gd [GT x18] (some (x18, h17))))
   else
    gd [GK h t 12] (bv (FX12_passWord t h) (fun h1 =>
     gd [GK h1 t 12, GI h1 (m_rd h1 t 7) 1 2] (
      gd [GK h1 t 12] (bd (FX12_numberHere t 0 (m_rd h1 (m_rd h1 t 7) 2) h1) (fun x3 h2 =>
       (if x3 = 0 then
        some (0, h2)
       else
        gd [GK h2 t 12, GK h2 t 12, GI h2 (m_rd h2 t 7) 1 1] (
         (bd (FX12_power (m_rd h2 (m_rd h2 t 7) 1) (m_rd h2 t 10) h2) (fun x5 h4 =>
          gd [GK h4 t 12] (bd (FX12_numberHere t 0 (m_w32 (x5 - 1)) h4) (fun x7 h6 =>
           (if x7 = 0 then
            some (0, h6)
           else
            gd [GK h6 t 12, GK h6 t 12, GI h6 (m_rd h6 t 7) 1 3] (
             gd [GK h6 t 12] (bd (FX12_numberHere t 0 (m_w32 ((m_rd h6 (m_rd h6 t 7) 3) - 1)) h6) (fun x9 h8 =>
              (if x9 = 0 then
               some (0, h8)
              else
               FX12_isPlanHere_L91 t (m_rd h2 t 10) (m_rd h6 t 10) (fun w10 h11 =>
                gd [GK h11 t 12, GI h11 (m_rd h11 t 7) 1 4] (
                 jn (fun (h13 : MH) =>
                  gd [GK h13 t 12, GI h13 (m_rd h13 t 7) 1 (m_w32 (88 + (m_w32 (3 * w10))))] (
                   hl (m_wr h13 (m_rd h13 t 7) (m_w32 (88 + (m_w32 (3 * w10)))) (m_rd h2 t 10)) (fun h14 =>
                    gd [GK h14 t 12, GI h14 (m_rd h14 t 7) 1 (m_w32 ((m_w32 (88 + (m_w32 (3 * w10)))) + 1))] (
                     hl (m_wr h14 (m_rd h14 t 7) (m_w32 ((m_w32 (88 + (m_w32 (3 * w10)))) + 1)) (m_rd h6 t 10)) (fun h15 =>
                      gd [GK h15 t 12, GK h15 t 12, GI h15 (m_rd h15 t 7) 1 (m_w32 ((m_w32 (88 + (m_w32 (3 * w10)))) + 2))] (
                       hl (m_wr h15 (m_rd h15 t 7) (m_w32 ((m_w32 (88 + (m_w32 (3 * w10)))) + 2)) (m_rd h15 t 10)) (fun h16 =>
                        some (1, h16)))))))) (fun j12 =>
                  (if w10 = (m_rd h11 (m_rd h11 t 7) 4) then
                   gd [GK h11 t 12, GI h11 (m_rd h11 t 7) 1 4, GI h11 (m_rd h11 t 7) 1 4] (
                    j12 (m_wr h11 (m_rd h11 t 7) 4 (m_w32 ((m_rd h11 (m_rd h11 t 7) 4) + 1))))
                  else
                   j12 h11)))) FU 0 h8))))))))))))))))))
theorem CX12_isPlanHere {d : Nat} {t : Int} {a1 : Int} {h : MH} {r : Int × MH} (hF : FX12_isPlanHere t a1 h = some r) : RN xs L iX12_isPlanHere (d + 2) 0 (lvE 0 [.inr (.inr t), .inl a1]) [] h (RIo r) := by
  unfold FX12_isPlanHere at hF
  obtain ⟨hc, hF⟩ := gd_of hF
  refine RN.blk (ops := [(0, .aload_n 0), (1, .getfield 26), (4, .iconst 4), (5, .iaload), (6, .bipush 12)]) (pc' := 8) (lv' := [(0, .inr (.inr t)), (1, .inl a1)]) (st' := [.inl 12, .inl (m_rd h (m_rd h t 7) 4)]) (h' := h) (cs := [GK h t 12, GI h (m_rd h t 7) 1 4]) (by decide +kernel) rfl hc ?_
  rcases it_of hF with ⟨hb, hF⟩ | ⟨hb, hF⟩
  · refine RN.icf (cd := .ne) (off := 10) (tgt := 18) (by decide +kernel) (mif_nen hb) ?_
    refine RN.blk (ops := [(11, .aload_n 0), (12, .iconst 4), (13, .iload_n 1)]) (pc' := 14) (lv' := [(0, .inr (.inr t)), (1, .inl a1)]) (st' := [.inl a1, .inl 4, .inr (.inr t)]) (h' := h) (cs := []) (by decide +kernel) rfl trivial ?_
    obtain ⟨hc, hF⟩ := gd_of hF
    obtain ⟨x18, h17, hG, hF⟩ := bd_of hF
    refine RN.cv (i := 120) (k := 163) (q2 := iX12_fails) (as := [.inr (.inr t), .inl 4, .inl a1]) (r := []) (v := some (.inl x18)) (h1 := h17) (by decide +kernel) rfl rfl rfl rfl rfl (rcv_ok hc.1) (CX12_fails (d := d + 1) hG) ?_
    obtain ⟨hc, hF⟩ := gd_of hF
    exact RN.zR (by decide +kernel) rfl hc.1 hF
  · refine RN.ict (cd := .ne) (off := 10) (tgt := 18) (by decide +kernel) (mif_ne hb) ?_
    refine RN.blk (ops := [(18, .aload_n 0)]) (pc' := 19) (lv' := [(0, .inr (.inr t)), (1, .inl a1)]) (st' := [.inr (.inr t)]) (h' := h) (cs := []) (by decide +kernel) rfl trivial ?_
    obtain ⟨hc, hF⟩ := gd_of hF
    obtain ⟨h1, hG, hF⟩ := bv_of hF
    refine RN.cv (i := 114) (k := 168) (q2 := iX12_passWord) (as := [.inr (.inr t)]) (r := []) (v := none) (h1 := h1) (by decide +kernel) rfl rfl rfl rfl rfl (rcv_ok hc.1) (CX12_passWord (d := d) hG) ?_
    obtain ⟨hc, hF⟩ := gd_of hF
    refine RN.blk (ops := [(22, .aload_n 0), (23, .iconst 0), (24, .aload_n 0), (25, .getfield 26), (28, .iconst 2), (29, .iaload)]) (pc' := 30) (lv' := [(0, .inr (.inr t)), (1, .inl a1)]) (st' := [.inl (m_rd h1 (m_rd h1 t 7) 2), .inl 0, .inr (.inr t)]) (h' := h1) (cs := [GK h1 t 12, GI h1 (m_rd h1 t 7) 1 2]) (by decide +kernel) rfl hc ?_
    obtain ⟨hc, hF⟩ := gd_of hF
    obtain ⟨x3, h2, hG, hF⟩ := bd_of hF
    refine RN.cv (i := 174) (k := 170) (q2 := iX12_numberHere) (as := [.inr (.inr t), .inl 0, .inl (m_rd h1 (m_rd h1 t 7) 2)]) (r := []) (v := some (.inl x3)) (h1 := h2) (by decide +kernel) rfl rfl rfl rfl rfl (rcv_ok hc.1) (CX12_numberHere (d := d) hG) ?_
    rcases it_of hF with ⟨hb, hF⟩ | ⟨hb, hF⟩
    · refine RN.iff (cd := .ne) (off := 5) (tgt := 38) (by decide +kernel) (mif_nen hb) ?_
      refine RN.blk (ops := [(36, .iconst 0)]) (pc' := 37) (lv' := [(0, .inr (.inr t)), (1, .inl a1)]) (st' := [.inl 0]) (h' := h2) (cs := []) (by decide +kernel) rfl trivial ?_
      exact RN.zR (by decide +kernel) rfl (Or.inl rfl) hF
    · refine RN.ift (cd := .ne) (off := 5) (tgt := 38) (by decide +kernel) (mif_ne hb) ?_
      obtain ⟨hc, hF⟩ := gd_of hF
      refine RN.blk (ops := [(38, .aload_n 0), (39, .getfield 124), (42, .istore_n 2), (43, .aload_n 0), (44, .iconst 0), (45, .aload_n 0), (46, .getfield 26), (49, .iconst 1), (50, .iaload), (51, .iload_n 2)]) (pc' := 52) (lv' := [(2, .inl (m_rd h2 t 10)), (0, .inr (.inr t)), (1, .inl a1)]) (st' := [.inl (m_rd h2 t 10), .inl (m_rd h2 (m_rd h2 t 7) 1), .inl 0, .inr (.inr t)]) (h' := h2) (cs := [GK h2 t 12, GK h2 t 12, GI h2 (m_rd h2 t 7) 1 1]) (by decide +kernel) rfl hc ?_
      obtain ⟨x5, h4, hG, hF⟩ := bd_of hF
      refine RN.cst (i := 229) (k := 159) (q2 := iX12_power) (as := [.inl (m_rd h2 (m_rd h2 t 7) 1), .inl (m_rd h2 t 10)]) (r := [.inl 0, .inr (.inr t)]) (v := some (.inl x5)) (h1 := h4) (by decide +kernel) rfl rfl rfl rfl rfl (CX12_power (d := d + 1) hG) ?_
      refine RN.blk (ops := [(55, .iconst 1), (56, .isub)]) (pc' := 57) (lv' := [(2, .inl (m_rd h2 t 10)), (0, .inr (.inr t)), (1, .inl a1)]) (st' := [.inl (m_w32 (x5 - 1)), .inl 0, .inr (.inr t)]) (h' := h4) (cs := []) (by decide +kernel) rfl trivial ?_
      obtain ⟨hc, hF⟩ := gd_of hF
      obtain ⟨x7, h6, hG, hF⟩ := bd_of hF
      refine RN.cv (i := 174) (k := 170) (q2 := iX12_numberHere) (as := [.inr (.inr t), .inl 0, .inl (m_w32 (x5 - 1))]) (r := []) (v := some (.inl x7)) (h1 := h6) (by decide +kernel) rfl rfl rfl rfl rfl (rcv_ok hc.1) (CX12_numberHere (d := d) hG) ?_
      rcases it_of hF with ⟨hb, hF⟩ | ⟨hb, hF⟩
      · refine RN.iff (cd := .ne) (off := 5) (tgt := 65) (by decide +kernel) (mif_nen hb) ?_
        refine RN.blk (ops := [(63, .iconst 0)]) (pc' := 64) (lv' := [(2, .inl (m_rd h2 t 10)), (0, .inr (.inr t)), (1, .inl a1)]) (st' := [.inl 0]) (h' := h6) (cs := []) (by decide +kernel) rfl trivial ?_
        exact RN.zR (by decide +kernel) rfl (Or.inl rfl) hF
      · refine RN.ift (cd := .ne) (off := 5) (tgt := 65) (by decide +kernel) (mif_ne hb) ?_
        obtain ⟨hc, hF⟩ := gd_of hF
        refine RN.blk (ops := [(65, .aload_n 0), (66, .getfield 124), (69, .istore_n 3), (70, .aload_n 0), (71, .iconst 0), (72, .aload_n 0), (73, .getfield 26), (76, .iconst 3), (77, .iaload), (78, .iconst 1), (79, .isub)]) (pc' := 80) (lv' := [(3, .inl (m_rd h6 t 10)), (2, .inl (m_rd h2 t 10)), (0, .inr (.inr t)), (1, .inl a1)]) (st' := [.inl (m_w32 ((m_rd h6 (m_rd h6 t 7) 3) - 1)), .inl 0, .inr (.inr t)]) (h' := h6) (cs := [GK h6 t 12, GK h6 t 12, GI h6 (m_rd h6 t 7) 1 3]) (by decide +kernel) rfl hc ?_
        obtain ⟨hc, hF⟩ := gd_of hF
        obtain ⟨x9, h8, hG, hF⟩ := bd_of hF
        refine RN.cv (i := 174) (k := 170) (q2 := iX12_numberHere) (as := [.inr (.inr t), .inl 0, .inl (m_w32 ((m_rd h6 (m_rd h6 t 7) 3) - 1))]) (r := []) (v := some (.inl x9)) (h1 := h8) (by decide +kernel) rfl rfl rfl rfl rfl (rcv_ok hc.1) (CX12_numberHere (d := d) hG) ?_
        rcases it_of hF with ⟨hb, hF⟩ | ⟨hb, hF⟩
        · refine RN.iff (cd := .ne) (off := 5) (tgt := 88) (by decide +kernel) (mif_nen hb) ?_
          refine RN.blk (ops := [(86, .iconst 0)]) (pc' := 87) (lv' := [(3, .inl (m_rd h6 t 10)), (2, .inl (m_rd h2 t 10)), (0, .inr (.inr t)), (1, .inl a1)]) (st' := [.inl 0]) (h' := h8) (cs := []) (by decide +kernel) rfl trivial ?_
          exact RN.zR (by decide +kernel) rfl (Or.inl rfl) hF
        · refine RN.ift (cd := .ne) (off := 5) (tgt := 88) (by decide +kernel) (mif_ne hb) ?_
          refine RN.blk (ops := [(88, .iconst 0), (89, .istore 4)]) (pc' := 91) (lv' := [(4, .inl 0), (3, .inl (m_rd h6 t 10)), (2, .inl (m_rd h2 t 10)), (0, .inr (.inr t)), (1, .inl a1)]) (st' := []) (h' := h8) (cs := []) (by decide +kernel) rfl trivial ?_
          refine RN.sub (CX12_isPlanHere_L91 ?_ _ _ _ hF) (sub_cons rfl (sub_cons rfl (sub_cons rfl (sub_cons rfl sub_nil))))
          · intro w10 h11 hF
            obtain ⟨hc, hF⟩ := gd_of hF
            refine RN.blk (ops := [(142, .iload 4), (144, .aload_n 0), (145, .getfield 26), (148, .iconst 4), (149, .iaload)]) (pc' := 150) (lv' := [(0, .inr (.inr t)), (2, .inl (m_rd h2 t 10)), (3, .inl (m_rd h6 t 10)), (4, .inl w10)]) (st' := [.inl (m_rd h11 (m_rd h11 t 7) 4), .inl w10]) (h' := h11) (cs := [GK h11 t 12, GI h11 (m_rd h11 t 7) 1 4]) (by decide +kernel) rfl hc ?_
            refine jn_use (fun j12 => ∀ (h13 : MH), j12 h13 = some r → RN xs L iX12_isPlanHere (d + 2) 163 [(0, .inr (.inr t)), (2, .inl (m_rd h2 t 10)), (3, .inl (m_rd h6 t 10)), (4, .inl w10)] [] h13 (RIo r)) ?_ ?_ hF
            · intro h13 hF
              obtain ⟨hc, hF⟩ := gd_of hF
              refine RN.blk (ops := [(163, .aload_n 0), (164, .getfield 26), (167, .bipush 88), (169, .iconst 3), (170, .iload 4), (172, .imul), (173, .iadd), (174, .iload_n 2), (175, .iastore)]) (pc' := 176) (lv' := [(0, .inr (.inr t)), (2, .inl (m_rd h2 t 10)), (3, .inl (m_rd h6 t 10)), (4, .inl w10)]) (st' := []) (h' := (m_wr h13 (m_rd h13 t 7) (m_w32 (88 + (m_w32 (3 * w10)))) (m_rd h2 t 10))) (cs := [GK h13 t 12, GI h13 (m_rd h13 t 7) 1 (m_w32 (88 + (m_w32 (3 * w10))))]) (by decide +kernel) rfl hc ?_
              obtain ⟨h14, he, hF⟩ := hl_of hF
              refine RN.hl he ?_
              obtain ⟨hc, hF⟩ := gd_of hF
              refine RN.blk (ops := [(176, .aload_n 0), (177, .getfield 26), (180, .bipush 88), (182, .iconst 3), (183, .iload 4), (185, .imul), (186, .iadd), (187, .iconst 1), (188, .iadd), (189, .iload_n 3), (190, .iastore)]) (pc' := 191) (lv' := [(0, .inr (.inr t)), (2, .inl (m_rd h2 t 10)), (3, .inl (m_rd h6 t 10)), (4, .inl w10)]) (st' := []) (h' := (m_wr h14 (m_rd h14 t 7) (m_w32 ((m_w32 (88 + (m_w32 (3 * w10)))) + 1)) (m_rd h6 t 10))) (cs := [GK h14 t 12, GI h14 (m_rd h14 t 7) 1 (m_w32 ((m_w32 (88 + (m_w32 (3 * w10)))) + 1))]) (by decide +kernel) rfl hc ?_
              obtain ⟨h15, he, hF⟩ := hl_of hF
              refine RN.hl he ?_
              obtain ⟨hc, hF⟩ := gd_of hF
              refine RN.blk (ops := [(191, .aload_n 0), (192, .getfield 26), (195, .bipush 88), (197, .iconst 3), (198, .iload 4), (200, .imul), (201, .iadd), (202, .iconst 2), (203, .iadd), (204, .aload_n 0), (205, .getfield 124), (208, .iastore)]) (pc' := 209) (lv' := [(0, .inr (.inr t)), (2, .inl (m_rd h2 t 10)), (3, .inl (m_rd h6 t 10)), (4, .inl w10)]) (st' := []) (h' := (m_wr h15 (m_rd h15 t 7) (m_w32 ((m_w32 (88 + (m_w32 (3 * w10)))) + 2)) (m_rd h15 t 10))) (cs := [GK h15 t 12, GK h15 t 12, GI h15 (m_rd h15 t 7) 1 (m_w32 ((m_w32 (88 + (m_w32 (3 * w10)))) + 2))]) (by decide +kernel) rfl hc ?_
              obtain ⟨h16, he, hF⟩ := hl_of hF
              refine RN.hl he ?_
              refine RN.blk (ops := [(209, .iconst 1)]) (pc' := 210) (lv' := [(0, .inr (.inr t)), (2, .inl (m_rd h2 t 10)), (3, .inl (m_rd h6 t 10)), (4, .inl w10)]) (st' := [.inl 1]) (h' := h16) (cs := []) (by decide +kernel) rfl trivial ?_
              exact RN.zR (by decide +kernel) rfl (Or.inr rfl) hF
            · intro j12 Jj12 hF
              rcases it_of hF with ⟨hb, hF⟩ | ⟨hb, hF⟩
              · refine RN.icf (cd := .ne) (off := 13) (tgt := 163) (by decide +kernel) (mif_nen hb) ?_
                obtain ⟨hc, hF⟩ := gd_of hF
                refine RN.blk (ops := [(153, .aload_n 0), (154, .getfield 26), (157, .iconst 4), (158, .dup2), (159, .iaload), (160, .iconst 1), (161, .iadd), (162, .iastore)]) (pc' := 163) (lv' := [(0, .inr (.inr t)), (2, .inl (m_rd h2 t 10)), (3, .inl (m_rd h6 t 10)), (4, .inl w10)]) (st' := []) (h' := (m_wr h11 (m_rd h11 t 7) 4 (m_w32 ((m_rd h11 (m_rd h11 t 7) 4) + 1)))) (cs := [GK h11 t 12, GI h11 (m_rd h11 t 7) 1 4, GI h11 (m_rd h11 t 7) 1 4]) (by decide +kernel) rfl hc ?_
                exact RN.sub (Jj12 _ hF) (sub_cons rfl (sub_cons rfl (sub_cons rfl (sub_cons rfl sub_nil))))
              · refine RN.ict (cd := .ne) (off := 13) (tgt := 163) (by decide +kernel) (mif_ne hb) ?_
                exact RN.sub (Jj12 _ hF) (sub_cons rfl (sub_cons rfl (sub_cons rfl (sub_cons rfl sub_nil))))
end Dc
