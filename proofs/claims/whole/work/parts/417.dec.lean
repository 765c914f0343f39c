/-! METHODS AS FUNCTIONS, and their certificates (by program): X12_isTiedIn, X12_enough, X12_pence, X12_note, X12_areNotesSo, X12_areAllSo, X12_fillsFits, X12_ruled, X12_alikeAt, X12_look -/
section Dc
variable {xs : Int → Int} {L : Int}
noncomputable def FX12_isTiedIn_L5 (u0 : Int) (u1 : Int) (u2 : Int) (K0 : Int → MH → Option (Int × MH)) : Nat → Int → Int → MH → Option (Int × MH)
  | 0, _, _, _ => none
  | f + 1, v3, v4, h =>
    (if v4 < u2 then
     gd [GK h u0 12] (bd (FX12_passes u0 h) (fun x2 h1 =>
      (if v3 = 0 then
       gd [GK h1 u0 12] (
        (if (m_rd h1 u0 23) = u1 then
         FX12_isTiedIn_L5 u0 u1 u2 K0 f 1 (m_w32 (v4 + 1)) h1
        else
         FX12_isTiedIn_L5 u0 u1 u2 K0 f 0 (m_w32 (v4 + 1)) h1))
      else
       FX12_isTiedIn_L5 u0 u1 u2 K0 f 1 (m_w32 (v4 + 1)) h1)))
    else
     K0 v3 h)
theorem CX12_isTiedIn_L5 {d : Nat} {u0 : Int} {u1 : Int} {u2 : Int} {K0 : Int → MH → Option (Int × MH)} {r : Int × MH} (hK0 : ∀ (w3 : Int) (h : MH), K0 w3 h = some r → RN xs L iX12_isTiedIn (d + 7) 40 [(0, .inr (.inr u0)), (3, .inl w3)] [] h (RIo r)) : ∀ (f : Nat) (v3 : Int) (v4 : Int) (h : MH), FX12_isTiedIn_L5 u0 u1 u2 K0 f v3 v4 h = some r → RN xs L iX12_isTiedIn (d + 7) 5 [(0, .inr (.inr u0)), (1, .inl u1), (2, .inl u2), (3, .inl v3), (4, .inl v4)] [] h (RIo r) := by
  intro f
  induction f with
  | zero =>
    intro v3 v4 h hF
    cases hF
  | succ f ih =>
    intro v3 v4 h hF
    unfold FX12_isTiedIn_L5 at hF
    refine RN.blk (ops := [(5, .iload 4), (7, .iload_n 2)]) (pc' := 8) (lv' := [(0, .inr (.inr u0)), (1, .inl u1), (2, .inl u2), (3, .inl v3), (4, .inl v4)]) (st' := [.inl u2, .inl v4]) (h' := h) (cs := []) (by decide +kernel) rfl trivial ?_
    rcases it_of hF with ⟨hb, hF⟩ | ⟨hb, hF⟩
    · refine RN.icf (cd := .ge) (off := 32) (tgt := 40) (by decide +kernel) (mif_gen hb) ?_
      refine RN.blk (ops := [(11, .aload_n 0)]) (pc' := 12) (lv' := [(0, .inr (.inr u0)), (1, .inl u1), (2, .inl u2), (3, .inl v3), (4, .inl v4)]) (st' := [.inr (.inr u0)]) (h' := h) (cs := []) (by decide +kernel) rfl trivial ?_
      obtain ⟨hc, hF⟩ := gd_of hF
      obtain ⟨x2, h1, hG, hF⟩ := bd_of hF
      refine RN.cv (i := 350) (k := 222) (q2 := iX12_passes) (as := [.inr (.inr u0)]) (r := []) (v := some (.inl x2)) (h1 := h1) (by decide +kernel) rfl rfl rfl rfl rfl (rcv_ok hc.1) (CX12_passes (d := d) hG) ?_
      refine RN.blk (ops := [(15, .pop), (16, .iload_n 3)]) (pc' := 17) (lv' := [(0, .inr (.inr u0)), (1, .inl u1), (2, .inl u2), (3, .inl v3), (4, .inl v4)]) (st' := [.inl v3]) (h' := h1) (cs := []) (by decide +kernel) rfl trivial ?_
      rcases it_of hF with ⟨hb, hF⟩ | ⟨hb, hF⟩
      · refine RN.iff (cd := .ne) (off := 11) (tgt := 28) (by decide +kernel) (mif_nen hb) ?_
        obtain ⟨hc, hF⟩ := gd_of hF
        refine RN.blk (ops := [(20, .aload_n 0), (21, .getfield 335), (24, .iload_n 1)]) (pc' := 25) (lv' := [(0, .inr (.inr u0)), (1, .inl u1), (2, .inl u2), (3, .inl v3), (4, .inl v4)]) (st' := [.inl u1, .inl (m_rd h1 u0 23)]) (h' := h1) (cs := [GK h1 u0 12]) (by decide +kernel) rfl hc ?_
        rcases it_of hF with ⟨hb, hF⟩ | ⟨hb, hF⟩
        · refine RN.icf (cd := .ne) (off := 7) (tgt := 32) (by decide +kernel) (mif_nen hb) ?_
          refine RN.blk (ops := [(28, .iconst 1)]) (pc' := 29) (lv' := [(0, .inr (.inr u0)), (1, .inl u1), (2, .inl u2), (3, .inl v3), (4, .inl v4)]) (st' := [.inl 1]) (h' := h1) (cs := []) (by decide +kernel) rfl trivial ?_
          refine RN.goto (off := 4) (tgt := 33) (by decide +kernel) ?_
          refine RN.blk (ops := [(33, .istore_n 3), (34, .iinc 4 1)]) (pc' := 37) (lv' := [(4, .inl (m_w32 (v4 + 1))), (3, .inl 1), (0, .inr (.inr u0)), (1, .inl u1), (2, .inl u2)]) (st' := []) (h' := h1) (cs := []) (by decide +kernel) rfl trivial ?_
          refine RN.goto (off := -32) (tgt := 5) (by decide +kernel) ?_
          exact RN.sub (ih _ _ _ hF) (sub_cons rfl (sub_cons rfl (sub_cons rfl (sub_cons rfl (sub_cons rfl sub_nil)))))
        · refine RN.ict (cd := .ne) (off := 7) (tgt := 32) (by decide +kernel) (mif_ne hb) ?_
          refine RN.blk (ops := [(32, .iconst 0)]) (pc' := 33) (lv' := [(0, .inr (.inr u0)), (1, .inl u1), (2, .inl u2), (3, .inl v3), (4, .inl v4)]) (st' := [.inl 0]) (h' := h1) (cs := []) (by decide +kernel) rfl trivial ?_
          refine RN.blk (ops := [(33, .istore_n 3), (34, .iinc 4 1)]) (pc' := 37) (lv' := [(4, .inl (m_w32 (v4 + 1))), (3, .inl 0), (0, .inr (.inr u0)), (1, .inl u1), (2, .inl u2)]) (st' := []) (h' := h1) (cs := []) (by decide +kernel) rfl trivial ?_
          refine RN.goto (off := -32) (tgt := 5) (by decide +kernel) ?_
          exact RN.sub (ih _ _ _ hF) (sub_cons rfl (sub_cons rfl (sub_cons rfl (sub_cons rfl (sub_cons rfl sub_nil)))))
      · refine RN.ift (cd := .ne) (off := 11) (tgt := 28) (by decide +kernel) (mif_ne hb) ?_
        refine RN.blk (ops := [(28, .iconst 1)]) (pc' := 29) (lv' := [(0, .inr (.inr u0)), (1, .inl u1), (2, .inl u2), (3, .inl v3), (4, .inl v4)]) (st' := [.inl 1]) (h' := h1) (cs := []) (by decide +kernel) rfl trivial ?_
        refine RN.goto (off := 4) (tgt := 33) (by decide +kernel) ?_
        refine RN.blk (ops := [(33, .istore_n 3), (34, .iinc 4 1)]) (pc' := 37) (lv' := [(4, .inl (m_w32 (v4 + 1))), (3, .inl 1), (0, .inr (.inr u0)), (1, .inl u1), (2, .inl u2)]) (st' := []) (h' := h1) (cs := []) (by decide +kernel) rfl trivial ?_
        refine RN.goto (off := -32) (tgt := 5) (by decide +kernel) ?_
        exact RN.sub (ih _ _ _ hF) (sub_cons rfl (sub_cons rfl (sub_cons rfl (sub_cons rfl (sub_cons rfl sub_nil)))))
    · refine RN.ict (cd := .ge) (off := 32) (tgt := 40) (by decide +kernel) (mif_ge hb) ?_
      exact RN.sub (hK0 _ _ hF) (sub_cons rfl (sub_cons rfl sub_nil))
noncomputable def FX12_isTiedIn (t : Int) (a1 : Int) (a2 : Int) (h : MH) : Option (Int × MH) :=
  FX12_isTiedIn_L5 t a1 a2 (fun w1 h2 =>
   gd [GK h2 t 12] (bv (FX12_laysBack t h2) (fun h3 =>
    gd [GT w1] (some (w1, h3))))) FU 0 0 h
theorem CX12_isTiedIn {d : Nat} {t : Int} {a1 : Int} {a2 : Int} {h : MH} {r : Int × MH} (hF : FX12_isTiedIn t a1 a2 h = some r) : RN xs L iX12_isTiedIn (d + 7) 0 (lvE 0 [.inr (.inr t), .inl a1, .inl a2]) [] h (RIo r) := by
  unfold FX12_isTiedIn at hF
  refine RN.blk (ops := [(0, .iconst 0), (1, .istore_n 3), (2, .iconst 0), (3, .istore 4)]) (pc' := 5) (lv' := [(4, .inl 0), (3, .inl 0), (0, .inr (.inr t)), (1, .inl a1), (2, .inl a2)]) (st' := []) (h' := h) (cs := []) (by decide +kernel) rfl trivial ?_
  refine RN.sub (CX12_isTiedIn_L5 ?_ _ _ _ _ hF) (sub_cons rfl (sub_cons rfl (sub_cons rfl (sub_cons rfl (sub_cons rfl sub_nil)))))
  · intro w1 h2 hF
    refine RN.blk (ops := [(40, .aload_n 0)]) (pc' := 41) (lv' := [(0, .inr (.inr t)), (3, .inl w1)]) (st' := [.inr (.inr t)]) (h' := h2) (cs := []) (by decide +kernel) rfl trivial ?_
    obtain ⟨hc, hF⟩ := gd_of hF
    obtain ⟨h3, hG, hF⟩ := bv_of hF
    refine RN.cv (i := 414) (k := 254) (q2 := iX12_laysBack) (as := [.inr (.inr t)]) (r := []) (v := none) (h1 := h3) (by decide +kernel) rfl rfl rfl rfl rfl (rcv_ok hc.1) (CX12_laysBack (d := d + 6) hG) ?_
    refine RN.blk (ops := [(44, .iload_n 3)]) (pc' := 45) (lv' := [(0, .inr (.inr t)), (3, .inl w1)]) (st' := [.inl w1]) (h' := h3) (cs := []) (by decide +kernel) rfl trivial ?_
    obtain ⟨hc, hF⟩ := gd_of hF
    exact RN.zR (by decide +kernel) rfl hc.1 hF
noncomputable def FX12_enough_L43 (u0 : Int) (u1 : Int) (u2 : Int) (u3 : Int) (K0 : Int → MH → Option (Int × MH)) : Nat → Int → Int → MH → Option (Int × MH)
  | 0, _, _, _ => none
  | f + 1, v4, v5, h =>
    (if 20 < v5 then
     K0 v4 h
    else
     (if v4 < 0 then
      gd [GK h u0 12, GI h (m_rd h u0 20) 1 (m_w32 (82 + u1))] (
       gd [GK h u0 12] (bd (FX12_isTiedIn u0 u1 u2 (m_wr h (m_rd h u0 20) (m_w32 (82 + u1)) v5)) (fun x2 h1 =>
        (if x2 = 0 then
         FX12_enough_L43 u0 u1 u2 u3 K0 f v5 (m_w32 (v5 + 1)) h1
        else
         FX12_enough_L43 u0 u1 u2 u3 K0 f v4 (m_w32 (v5 + 1)) h1))))
     else
      K0 v4 h))
theorem CX12_enough_L43 {d : Nat} {u0 : Int} {u1 : Int} {u2 : Int} {u3 : Int} {K0 : Int → MH → Option (Int × MH)} {r : Int × MH} (hK0 : ∀ (w4 : Int) (h : MH), K0 w4 h = some r → RN xs L iX12_enough (d + 8) 85 [(0, .inr (.inr u0)), (1, .inl u1), (3, .inl u3), (4, .inl w4)] [] h (RIo r)) : ∀ (f : Nat) (v4 : Int) (v5 : Int) (h : MH), FX12_enough_L43 u0 u1 u2 u3 K0 f v4 v5 h = some r → RN xs L iX12_enough (d + 8) 43 [(0, .inr (.inr u0)), (1, .inl u1), (2, .inl u2), (3, .inl u3), (4, .inl v4), (5, .inl v5)] [] h (RIo r) := by
  intro f
  induction f with
  | zero =>
    intro v4 v5 h hF
    cases hF
  | succ f ih =>
    intro v4 v5 h hF
    unfold FX12_enough_L43 at hF
    refine RN.blk (ops := [(43, .iload 5), (45, .bipush 20)]) (pc' := 47) (lv' := [(0, .inr (.inr u0)), (1, .inl u1), (2, .inl u2), (3, .inl u3), (4, .inl v4), (5, .inl v5)]) (st' := [.inl 20, .inl v5]) (h' := h) (cs := []) (by decide +kernel) rfl trivial ?_
    rcases it_of hF with ⟨hb, hF⟩ | ⟨hb, hF⟩
    · refine RN.ict (cd := .gt) (off := 38) (tgt := 85) (by decide +kernel) (mif_gt hb) ?_
      exact RN.sub (hK0 _ _ hF) (sub_cons rfl (sub_cons rfl (sub_cons rfl (sub_cons rfl sub_nil))))
    · refine RN.icf (cd := .gt) (off := 38) (tgt := 85) (by decide +kernel) (mif_gtn hb) ?_
      refine RN.blk (ops := [(50, .iload 4)]) (pc' := 52) (lv' := [(0, .inr (.inr u0)), (1, .inl u1), (2, .inl u2), (3, .inl u3), (4, .inl v4), (5, .inl v5)]) (st' := [.inl v4]) (h' := h) (cs := []) (by decide +kernel) rfl trivial ?_
      rcases it_of hF with ⟨hb, hF⟩ | ⟨hb, hF⟩
      · refine RN.iff (cd := .ge) (off := 33) (tgt := 85) (by decide +kernel) (mif_gen hb) ?_
        obtain ⟨hc, hF⟩ := gd_of hF
        refine RN.blk (ops := [(55, .aload_n 0), (56, .getfield 39), (59, .bipush 82), (61, .iload_n 1), (62, .iadd), (63, .iload 5), (65, .iastore), (66, .aload_n 0), (67, .iload_n 1), (68, .iload_n 2)]) (pc' := 69) (lv' := [(0, .inr (.inr u0)), (1, .inl u1), (2, .inl u2), (3, .inl u3), (4, .inl v4), (5, .inl v5)]) (st' := [.inl u2, .inl u1, .inr (.inr u0)]) (h' := (m_wr h (m_rd h u0 20) (m_w32 (82 + u1)) v5)) (cs := [GK h u0 12, GI h (m_rd h u0 20) 1 (m_w32 (82 + u1))]) (by decide +kernel) rfl hc ?_
        obtain ⟨hc, hF⟩ := gd_of hF
        obtain ⟨x2, h1, hG, hF⟩ := bd_of hF
        refine RN.cv (i := 441) (k := 263) (q2 := iX12_isTiedIn) (as := [.inr (.inr u0), .inl u1, .inl u2]) (r := []) (v := some (.inl x2)) (h1 := h1) (by decide +kernel) rfl rfl rfl rfl rfl (rcv_ok hc.1) (CX12_isTiedIn (d := d) hG) ?_
        rcases it_of hF with ⟨hb, hF⟩ | ⟨hb, hF⟩
        · refine RN.iff (cd := .ne) (off := 7) (tgt := 79) (by decide +kernel) (mif_nen hb) ?_
          refine RN.blk (ops := [(75, .iload 5), (77, .istore 4)]) (pc' := 79) (lv' := [(4, .inl v5), (0, .inr (.inr u0)), (1, .inl u1), (2, .inl u2), (3, .inl u3), (5, .inl v5)]) (st' := []) (h' := h1) (cs := []) (by decide +kernel) rfl trivial ?_
          refine RN.blk (ops := [(79, .iinc 5 1)]) (pc' := 82) (lv' := [(5, .inl (m_w32 (v5 + 1))), (4, .inl v5), (0, .inr (.inr u0)), (1, .inl u1), (2, .inl u2), (3, .inl u3)]) (st' := []) (h' := h1) (cs := []) (by decide +kernel) rfl trivial ?_
          refine RN.goto (off := -39) (tgt := 43) (by decide +kernel) ?_
          exact RN.sub (ih _ _ _ hF) (sub_cons rfl (sub_cons rfl (sub_cons rfl (sub_cons rfl (sub_cons rfl (sub_cons rfl sub_nil))))))
        · refine RN.ift (cd := .ne) (off := 7) (tgt := 79) (by decide +kernel) (mif_ne hb) ?_
          refine RN.blk (ops := [(79, .iinc 5 1)]) (pc' := 82) (lv' := [(5, .inl (m_w32 (v5 + 1))), (0, .inr (.inr u0)), (1, .inl u1), (2, .inl u2), (3, .inl u3), (4, .inl v4)]) (st' := []) (h' := h1) (cs := []) (by decide +kernel) rfl trivial ?_
          refine RN.goto (off := -39) (tgt := 43) (by decide +kernel) ?_
          exact RN.sub (ih _ _ _ hF) (sub_cons rfl (sub_cons rfl (sub_cons rfl (sub_cons rfl (sub_cons rfl (sub_cons rfl sub_nil))))))
      · refine RN.ift (cd := .ge) (off := 33) (tgt := 85) (by decide +kernel) (mif_ge hb) ?_
        exact RN.sub (hK0 _ _ hF) (sub_cons rfl (sub_cons rfl (sub_cons rfl (sub_cons rfl sub_nil))))
noncomputable def FX12_enough (t : Int) (a1 : Int) (a2 : Int) (h : MH) : Option (Int × MH) :=
  gd [GK h t 12] (bd (FX12_isHole t a1 h) (fun x2 h1 =>
   (if x2 = 0 then
    some ((-1), h1)
   else
    (bd (FX12_in a2 1 40 h1) (fun x4 h3 =>
     (if x4 = 0 then
      some ((-1), h3)
     else
      gd [GK h3 t 12, GI h3 (m_rd h3 t 20) 1 (m_w32 (82 + a1))] (
       gd [GK h3 t 12] (bv (FX12_keeps t h3) (fun h5 =>
        FX12_enough_L43 t a1 a2 (m_rd h3 (m_rd h3 t 20) (m_w32 (82 + a1))) (fun w6 h7 =>
         gd [GK h7 t 12, GI h7 (m_rd h7 t 20) 1 (m_w32 (82 + a1))] (
          hl (m_wr h7 (m_rd h7 t 20) (m_w32 (82 + a1)) (m_rd h3 (m_rd h3 t 20) (m_w32 (82 + a1)))) (fun h8 =>
           some (w6, h8)))) FU (-2) 1 h5)))))))))
theorem CX12_enough {d : Nat} {t : Int} {a1 : Int} {a2 : Int} {h : MH} {r : Int × MH} (hF : FX12_enough t a1 a2 h = some r) : RN xs L iX12_enough (d + 8) 0 (lvE 0 [.inr (.inr t), .inl a1, .inl a2]) [] h (RIo r) := by
  unfold FX12_enough at hF
  refine RN.blk (ops := [(0, .aload_n 0), (1, .iload_n 1)]) (pc' := 2) (lv' := [(0, .inr (.inr t)), (1, .inl a1), (2, .inl a2)]) (st' := [.inl a1, .inr (.inr t)]) (h' := h) (cs := []) (by decide +kernel) rfl trivial ?_
  obtain ⟨hc, hF⟩ := gd_of hF
  obtain ⟨x2, h1, hG, hF⟩ := bd_of hF
  refine RN.cv (i := 310) (k := 204) (q2 := iX12_isHole) (as := [.inr (.inr t), .inl a1]) (r := []) (v := some (.inl x2)) (h1 := h1) (by decide +kernel) rfl rfl rfl rfl rfl (rcv_ok hc.1) (CX12_isHole (d := d + 7) hG) ?_
  rcases it_of hF with ⟨hb, hF⟩ | ⟨hb, hF⟩
  · refine RN.ift (cd := .eq) (off := 15) (tgt := 20) (by decide +kernel) (mif_eq hb) ?_
    refine RN.blk (ops := [(20, .iconst (-1))]) (pc' := 21) (lv' := [(0, .inr (.inr t)), (1, .inl a1), (2, .inl a2)]) (st' := [.inl (-1)]) (h' := h1) (cs := []) (by decide +kernel) rfl trivial ?_
    exact RN.iR (by decide +kernel) rfl hF
  · refine RN.iff (cd := .eq) (off := 15) (tgt := 20) (by decide +kernel) (mif_eqn hb) ?_
    refine RN.blk (ops := [(8, .iload_n 2), (9, .i2l), (10, .lconst 1), (11, .ldc2_w 439)]) (pc' := 14) (lv' := [(0, .inr (.inr t)), (1, .inl a1), (2, .inl a2)]) (st' := [.inr (.inl 40), .inr (.inl 1), .inr (.inl a2)]) (h' := h1) (cs := []) (by decide +kernel) rfl trivial ?_
    obtain ⟨x4, h3, hG, hF⟩ := bd_of hF
    refine RN.cst (i := 127) (k := 156) (q2 := iX12_in) (as := [.inr (.inl a2), .inr (.inl 1), .inr (.inl 40)]) (r := []) (v := some (.inl x4)) (h1 := h3) (by decide +kernel) rfl rfl rfl rfl rfl (CX12_in (d := d + 7) hG) ?_
    rcases it_of hF with ⟨hb, hF⟩ | ⟨hb, hF⟩
    · refine RN.iff (cd := .ne) (off := 5) (tgt := 22) (by decide +kernel) (mif_nen hb) ?_
      refine RN.blk (ops := [(20, .iconst (-1))]) (pc' := 21) (lv' := [(0, .inr (.inr t)), (1, .inl a1), (2, .inl a2)]) (st' := [.inl (-1)]) (h' := h3) (cs := []) (by decide +kernel) rfl trivial ?_
      exact RN.iR (by decide +kernel) rfl hF
    · refine RN.ift (cd := .ne) (off := 5) (tgt := 22) (by decide +kernel) (mif_ne hb) ?_
      obtain ⟨hc, hF⟩ := gd_of hF
      refine RN.blk (ops := [(22, .aload_n 0), (23, .getfield 39), (26, .bipush 82), (28, .iload_n 1), (29, .iadd), (30, .iaload), (31, .istore_n 3), (32, .bipush (-2)), (34, .istore 4), (36, .aload_n 0)]) (pc' := 37) (lv' := [(4, .inl (-2)), (3, .inl (m_rd h3 (m_rd h3 t 20) (m_w32 (82 + a1)))), (0, .inr (.inr t)), (1, .inl a1), (2, .inl a2)]) (st' := [.inr (.inr t)]) (h' := h3) (cs := [GK h3 t 12, GI h3 (m_rd h3 t 20) 1 (m_w32 (82 + a1))]) (by decide +kernel) rfl hc ?_
      obtain ⟨hc, hF⟩ := gd_of hF
      obtain ⟨h5, hG, hF⟩ := bv_of hF
      refine RN.cv (i := 422) (k := 253) (q2 := iX12_keeps) (as := [.inr (.inr t)]) (r := []) (v := none) (h1 := h5) (by decide +kernel) rfl rfl rfl rfl rfl (rcv_ok hc.1) (CX12_keeps (d := d + 7) hG) ?_
      refine RN.blk (ops := [(40, .iconst 1), (41, .istore 5)]) (pc' := 43) (lv' := [(5, .inl 1), (4, .inl (-2)), (3, .inl (m_rd h3 (m_rd h3 t 20) (m_w32 (82 + a1)))), (0, .inr (.inr t)), (1, .inl a1), (2, .inl a2)]) (st' := []) (h' := h5) (cs := []) (by decide +kernel) rfl trivial ?_
      refine RN.sub (CX12_enough_L43 ?_ _ _ _ _ hF) (sub_cons rfl (sub_cons rfl (sub_cons rfl (sub_cons rfl (sub_cons rfl (sub_cons rfl sub_nil))))))
      · intro w6 h7 hF
        obtain ⟨hc, hF⟩ := gd_of hF
        refine RN.blk (ops := [(85, .aload_n 0), (86, .getfield 39), (89, .bipush 82), (91, .iload_n 1), (92, .iadd), (93, .iload_n 3), (94, .iastore)]) (pc' := 95) (lv' := [(0, .inr (.inr t)), (1, .inl a1), (3, .inl (m_rd h3 (m_rd h3 t 20) (m_w32 (82 + a1)))), (4, .inl w6)]) (st' := []) (h' := (m_wr h7 (m_rd h7 t 20) (m_w32 (82 + a1)) (m_rd h3 (m_rd h3 t 20) (m_w32 (82 + a1))))) (cs := [GK h7 t 12, GI h7 (m_rd h7 t 20) 1 (m_w32 (82 + a1))]) (by decide +kernel) rfl hc ?_
        obtain ⟨h8, he, hF⟩ := hl_of hF
        refine RN.hl he ?_
        refine RN.blk (ops := [(95, .iload 4)]) (pc' := 97) (lv' := [(0, .inr (.inr t)), (1, .inl a1), (3, .inl (m_rd h3 (m_rd h3 t 20) (m_w32 (82 + a1)))), (4, .inl w6)]) (st' := [.inl w6]) (h' := h8) (cs := []) (by decide +kernel) rfl trivial ?_
        exact RN.iR (by decide +kernel) rfl hF
noncomputable def FX12_pence_L57 (u0 : Int) (u1 : Int) (u2 : Int) (u3 : Int) (u4 : Int) (K0 : Int → Int → MH → Option (Int × MH)) : Nat → Int → Int → Int → MH → Option (Int × MH)
  | 0, _, _, _, _ => none
  | f + 1, v5, v6, v7, h =>
    gd [GK h u0 12, GI h (m_rd h u0 20) 1 3] (
     (if v7 < (m_rd h (m_rd h u0 20) 3) then
      gd [GK h u0 12, GI h (m_rd h u0 20) 1 (m_w32 (20 + v7)), (u3 : Int) ≠ 0, (u3 : Int) ≠ 0, (u3 : Int) ≠ 0] (
       (if (Int.tmod u4 u3) < (Int.tmod (m_w32 (u1 * (m_rd h (m_rd h u0 20) (m_w32 (20 + v7))))) u3) then
        FX12_pence_L57 u0 u1 u2 u3 u4 K0 f (m_w32 (v5 - (m_w32 (Int.tdiv (m_w32 (u1 * (m_rd h (m_rd h u0 20) (m_w32 (20 + v7))))) u3)))) (m_w32 (v6 + 1)) (m_w32 (v7 + 1)) h
       else
        gd [(u3 : Int) ≠ 0, (u3 : Int) ≠ 0] (
         (if (Int.tmod (m_w32 (u1 * (m_rd h (m_rd h u0 20) (m_w32 (20 + v7))))) u3) = (Int.tmod u4 u3) then
          (if v7 < u2 then
           FX12_pence_L57 u0 u1 u2 u3 u4 K0 f (m_w32 (v5 - (m_w32 (Int.tdiv (m_w32 (u1 * (m_rd h (m_rd h u0 20) (m_w32 (20 + v7))))) u3)))) (m_w32 (v6 + 1)) (m_w32 (v7 + 1)) h
          else
           FX12_pence_L57 u0 u1 u2 u3 u4 K0 f (m_w32 (v5 - (m_w32 (Int.tdiv (m_w32 (u1 * (m_rd h (m_rd h u0 20) (m_w32 (20 + v7))))) u3)))) (m_w32 (v6 + 0)) (m_w32 (v7 + 1)) h)
         else
          FX12_pence_L57 u0 u1 u2 u3 u4 K0 f (m_w32 (v5 - (m_w32 (Int.tdiv (m_w32 (u1 * (m_rd h (m_rd h u0 20) (m_w32 (20 + v7))))) u3)))) (m_w32 (v6 + 0)) (m_w32 (v7 + 1)) h))))
     else
      K0 v5 v6 h))
theorem CX12_pence_L57 {d : Nat} {u0 : Int} {u1 : Int} {u2 : Int} {u3 : Int} {u4 : Int} {K0 : Int → Int → MH → Option (Int × MH)} {r : Int × MH} (hK0 : ∀ (w5 : Int) (w6 : Int) (h : MH), K0 w5 w6 h = some r → RN xs L iX12_pence (d + 1) 135 [(3, .inl u3), (4, .inl u4), (5, .inl w5), (6, .inl w6)] [] h (RIo r)) : ∀ (f : Nat) (v5 : Int) (v6 : Int) (v7 : Int) (h : MH), FX12_pence_L57 u0 u1 u2 u3 u4 K0 f v5 v6 v7 h = some r → RN xs L iX12_pence (d + 1) 57 [(0, .inr (.inr u0)), (1, .inl u1), (2, .inl u2), (3, .inl u3), (4, .inl u4), (5, .inl v5), (6, .inl v6), (7, .inl v7)] [] h (RIo r) := by
  intro f
  induction f with
  | zero =>
    intro v5 v6 v7 h hF
    cases hF
  | succ f ih =>
    intro v5 v6 v7 h hF
    unfold FX12_pence_L57 at hF
    obtain ⟨hc, hF⟩ := gd_of hF
    refine RN.blk (ops := [(57, .iload 7), (59, .aload_n 0), (60, .getfield 39), (63, .iconst 3), (64, .iaload)]) (pc' := 65) (lv' := [(0, .inr (.inr u0)), (1, .inl u1), (2, .inl u2), (3, .inl u3), (4, .inl u4), (5, .inl v5), (6, .inl v6), (7, .inl v7)]) (st' := [.inl (m_rd h (m_rd h u0 20) 3), .inl v7]) (h' := h) (cs := [GK h u0 12, GI h (m_rd h u0 20) 1 3]) (by decide +kernel) rfl hc ?_
    rcases it_of hF with ⟨hb, hF⟩ | ⟨hb, hF⟩
    · refine RN.icf (cd := .ge) (off := 70) (tgt := 135) (by decide +kernel) (mif_gen hb) ?_
      obtain ⟨hc, hF⟩ := gd_of hF
      refine RN.blk (ops := [(68, .iload_n 1), (69, .aload_n 0), (70, .getfield 39), (73, .bipush 20), (75, .iload 7), (77, .iadd), (78, .iaload), (79, .imul), (80, .istore 8), (82, .iload 5), (84, .iload 8), (86, .iload_n 3), (87, .idiv), (88, .isub), (89, .istore 5), (91, .iload 6), (93, .iload 8), (95, .iload_n 3), (96, .irem), (97, .iload 4), (99, .iload_n 3), (100, .irem)]) (pc' := 101) (lv' := [(5, .inl (m_w32 (v5 - (m_w32 (Int.tdiv (m_w32 (u1 * (m_rd h (m_rd h u0 20) (m_w32 (20 + v7))))) u3))))), (8, .inl (m_w32 (u1 * (m_rd h (m_rd h u0 20) (m_w32 (20 + v7)))))), (0, .inr (.inr u0)), (1, .inl u1), (2, .inl u2), (3, .inl u3), (4, .inl u4), (6, .inl v6), (7, .inl v7)]) (st' := [.inl (Int.tmod u4 u3), .inl (Int.tmod (m_w32 (u1 * (m_rd h (m_rd h u0 20) (m_w32 (20 + v7))))) u3), .inl v6]) (h' := h) (cs := [GK h u0 12, GI h (m_rd h u0 20) 1 (m_w32 (20 + v7)), (u3 : Int) ≠ 0, (u3 : Int) ≠ 0, (u3 : Int) ≠ 0]) (by decide +kernel) rfl hc ?_
      rcases it_of hF with ⟨hb, hF⟩ | ⟨hb, hF⟩
      · refine RN.ict (cd := .gt) (off := 20) (tgt := 121) (by decide +kernel) (mif_gt hb) ?_
        refine RN.blk (ops := [(121, .iconst 1)]) (pc' := 122) (lv' := [(5, .inl (m_w32 (v5 - (m_w32 (Int.tdiv (m_w32 (u1 * (m_rd h (m_rd h u0 20) (m_w32 (20 + v7))))) u3))))), (8, .inl (m_w32 (u1 * (m_rd h (m_rd h u0 20) (m_w32 (20 + v7)))))), (0, .inr (.inr u0)), (1, .inl u1), (2, .inl u2), (3, .inl u3), (4, .inl u4), (6, .inl v6), (7, .inl v7)]) (st' := [.inl 1, .inl v6]) (h' := h) (cs := []) (by decide +kernel) rfl trivial ?_
        refine RN.goto (off := 4) (tgt := 126) (by decide +kernel) ?_
        refine RN.blk (ops := [(126, .iadd), (127, .istore 6), (129, .iinc 7 1)]) (pc' := 132) (lv' := [(7, .inl (m_w32 (v7 + 1))), (6, .inl (m_w32 (v6 + 1))), (5, .inl (m_w32 (v5 - (m_w32 (Int.tdiv (m_w32 (u1 * (m_rd h (m_rd h u0 20) (m_w32 (20 + v7))))) u3))))), (8, .inl (m_w32 (u1 * (m_rd h (m_rd h u0 20) (m_w32 (20 + v7)))))), (0, .inr (.inr u0)), (1, .inl u1), (2, .inl u2), (3, .inl u3), (4, .inl u4)]) (st' := []) (h' := h) (cs := []) (by decide +kernel) rfl trivial ?_
        refine RN.goto (off := -75) (tgt := 57) (by decide +kernel) ?_
        exact RN.sub (ih _ _ _ _ hF) (sub_cons rfl (sub_cons rfl (sub_cons rfl (sub_cons rfl (sub_cons rfl (sub_cons rfl (sub_cons rfl (sub_cons rfl sub_nil))))))))
      · refine RN.icf (cd := .gt) (off := 20) (tgt := 121) (by decide +kernel) (mif_gtn hb) ?_
        obtain ⟨hc, hF⟩ := gd_of hF
        refine RN.blk (ops := [(104, .iload 8), (106, .iload_n 3), (107, .irem), (108, .iload 4), (110, .iload_n 3), (111, .irem)]) (pc' := 112) (lv' := [(5, .inl (m_w32 (v5 - (m_w32 (Int.tdiv (m_w32 (u1 * (m_rd h (m_rd h u0 20) (m_w32 (20 + v7))))) u3))))), (8, .inl (m_w32 (u1 * (m_rd h (m_rd h u0 20) (m_w32 (20 + v7)))))), (0, .inr (.inr u0)), (1, .inl u1), (2, .inl u2), (3, .inl u3), (4, .inl u4), (6, .inl v6), (7, .inl v7)]) (st' := [.inl (Int.tmod u4 u3), .inl (Int.tmod (m_w32 (u1 * (m_rd h (m_rd h u0 20) (m_w32 (20 + v7))))) u3), .inl v6]) (h' := h) (cs := [(u3 : Int) ≠ 0, (u3 : Int) ≠ 0]) (by decide +kernel) rfl hc ?_
        rcases it_of hF with ⟨hb, hF⟩ | ⟨hb, hF⟩
        · refine RN.icf (cd := .ne) (off := 13) (tgt := 125) (by decide +kernel) (mif_nen hb) ?_
          refine RN.blk (ops := [(115, .iload 7), (117, .iload_n 2)]) (pc' := 118) (lv' := [(5, .inl (m_w32 (v5 - (m_w32 (Int.tdiv (m_w32 (u1 * (m_rd h (m_rd h u0 20) (m_w32 (20 + v7))))) u3))))), (8, .inl (m_w32 (u1 * (m_rd h (m_rd h u0 20) (m_w32 (20 + v7)))))), (0, .inr (.inr u0)), (1, .inl u1), (2, .inl u2), (3, .inl u3), (4, .inl u4), (6, .inl v6), (7, .inl v7)]) (st' := [.inl u2, .inl v7, .inl v6]) (h' := h) (cs := []) (by decide +kernel) rfl trivial ?_
          rcases it_of hF with ⟨hb, hF⟩ | ⟨hb, hF⟩
          · refine RN.icf (cd := .ge) (off := 7) (tgt := 125) (by decide +kernel) (mif_gen hb) ?_
            refine RN.blk (ops := [(121, .iconst 1)]) (pc' := 122) (lv' := [(5, .inl (m_w32 (v5 - (m_w32 (Int.tdiv (m_w32 (u1 * (m_rd h (m_rd h u0 20) (m_w32 (20 + v7))))) u3))))), (8, .inl (m_w32 (u1 * (m_rd h (m_rd h u0 20) (m_w32 (20 + v7)))))), (0, .inr (.inr u0)), (1, .inl u1), (2, .inl u2), (3, .inl u3), (4, .inl u4), (6, .inl v6), (7, .inl v7)]) (st' := [.inl 1, .inl v6]) (h' := h) (cs := []) (by decide +kernel) rfl trivial ?_
            refine RN.goto (off := 4) (tgt := 126) (by decide +kernel) ?_
            refine RN.blk (ops := [(126, .iadd), (127, .istore 6), (129, .iinc 7 1)]) (pc' := 132) (lv' := [(7, .inl (m_w32 (v7 + 1))), (6, .inl (m_w32 (v6 + 1))), (5, .inl (m_w32 (v5 - (m_w32 (Int.tdiv (m_w32 (u1 * (m_rd h (m_rd h u0 20) (m_w32 (20 + v7))))) u3))))), (8, .inl (m_w32 (u1 * (m_rd h (m_rd h u0 20) (m_w32 (20 + v7)))))), (0, .inr (.inr u0)), (1, .inl u1), (2, .inl u2), (3, .inl u3), (4, .inl u4)]) (st' := []) (h' := h) (cs := []) (by decide +kernel) rfl trivial ?_
            refine RN.goto (off := -75) (tgt := 57) (by decide +kernel) ?_
            exact RN.sub (ih _ _ _ _ hF) (sub_cons rfl (sub_cons rfl (sub_cons rfl (sub_cons rfl (sub_cons rfl (sub_cons rfl (sub_cons rfl (sub_cons rfl sub_nil))))))))
          · refine RN.ict (cd := .ge) (off := 7) (tgt := 125) (by decide +kernel) (mif_ge hb) ?_
            refine RN.blk (ops := [(125, .iconst 0)]) (pc' := 126) (lv' := [(5, .inl (m_w32 (v5 - (m_w32 (Int.tdiv (m_w32 (u1 * (m_rd h (m_rd h u0 20) (m_w32 (20 + v7))))) u3))))), (8, .inl (m_w32 (u1 * (m_rd h (m_rd h u0 20) (m_w32 (20 + v7)))))), (0, .inr (.inr u0)), (1, .inl u1), (2, .inl u2), (3, .inl u3), (4, .inl u4), (6, .inl v6), (7, .inl v7)]) (st' := [.inl 0, .inl v6]) (h' := h) (cs := []) (by decide +kernel) rfl trivial ?_
            refine RN.blk (ops := [(126, .iadd), (127, .istore 6), (129, .iinc 7 1)]) (pc' := 132) (lv' := [(7, .inl (m_w32 (v7 + 1))), (6, .inl (m_w32 (v6 + 0))), (5, .inl (m_w32 (v5 - (m_w32 (Int.tdiv (m_w32 (u1 * (m_rd h (m_rd h u0 20) (m_w32 (20 + v7))))) u3))))), (8, .inl (m_w32 (u1 * (m_rd h (m_rd h u0 20) (m_w32 (20 + v7)))))), (0, .inr (.inr u0)), (1, .inl u1), (2, .inl u2), (3, .inl u3), (4, .inl u4)]) (st' := []) (h' := h) (cs := []) (by decide +kernel) rfl trivial ?_
            refine RN.goto (off := -75) (tgt := 57) (by decide +kernel) ?_
            exact RN.sub (ih _ _ _ _ hF) (sub_cons rfl (sub_cons rfl (sub_cons rfl (sub_cons rfl (sub_cons rfl (sub_cons rfl (sub_cons rfl (sub_cons rfl sub_nil))))))))
        · refine RN.ict (cd := .ne) (off := 13) (tgt := 125) (by decide +kernel) (mif_ne hb) ?_
          refine RN.blk (ops := [(125, .iconst 0)]) (pc' := 126) (lv' := [(5, .inl (m_w32 (v5 - (m_w32 (Int.tdiv (m_w32 (u1 * (m_rd h (m_rd h u0 20) (m_w32 (20 + v7))))) u3))))), (8, .inl (m_w32 (u1 * (m_rd h (m_rd h u0 20) (m_w32 (20 + v7)))))), (0, .inr (.inr u0)), (1, .inl u1), (2, .inl u2), (3, .inl u3), (4, .inl u4), (6, .inl v6), (7, .inl v7)]) (st' := [.inl 0, .inl v6]) (h' := h) (cs := []) (by decide +kernel) rfl trivial ?_
          refine RN.blk (ops := [(126, .iadd), (127, .istore 6), (129, .iinc 7 1)]) (pc' := 132) (lv' := [(7, .inl (m_w32 (v7 + 1))), (6, .inl (m_w32 (v6 + 0))), (5, .inl (m_w32 (v5 - (m_w32 (Int.tdiv (m_w32 (u1 * (m_rd h (m_rd h u0 20) (m_w32 (20 + v7))))) u3))))), (8, .inl (m_w32 (u1 * (m_rd h (m_rd h u0 20) (m_w32 (20 + v7)))))), (0, .inr (.inr u0)), (1, .inl u1), (2, .inl u2), (3, .inl u3), (4, .inl u4)]) (st' := []) (h' := h) (cs := []) (by decide +kernel) rfl trivial ?_
          refine RN.goto (off := -75) (tgt := 57) (by decide +kernel) ?_
          exact RN.sub (ih _ _ _ _ hF) (sub_cons rfl (sub_cons rfl (sub_cons rfl (sub_cons rfl (sub_cons rfl (sub_cons rfl (sub_cons rfl (sub_cons rfl sub_nil))))))))
    · refine RN.ict (cd := .ge) (off := 70) (tgt := 135) (by decide +kernel) (mif_ge hb) ?_
      exact RN.sub (hK0 _ _ _ hF) (sub_cons rfl (sub_cons rfl (sub_cons rfl (sub_cons rfl sub_nil))))
noncomputable def FX12_pence (t : Int) (a1 : Int) (a2 : Int) (h : MH) : Option (Int × MH) :=
  gd [GK h t 12] (bd (FX12_isHole t a2 h) (fun x2 h1 =>
   (if x2 = 0 then
    some ((-1), h1)
   else
    (bd (FX12_in a1 0 9999 h1) (fun x4 h3 =>
     (if x4 = 0 then
      some ((-1), h3)
     else
      gd [GK h3 t 12] (bd (FX12_sumOver t 20 h3) (fun x6 h5 =>
       (if x6 = 0 then
        some (0, h5)
       else
        gd [GK h5 t 12, GI h5 (m_rd h5 t 20) 1 (m_w32 (20 + a2))] (
         FX12_pence_L57 t a1 a2 x6 (m_w32 (a1 * (m_rd h5 (m_rd h5 t 20) (m_w32 (20 + a2))))) (fun w7 w8 h9 =>
          gd [(x6 : Int) ≠ 0] (
           (if w8 < w7 then
            some ((m_w32 ((m_w32 (Int.tdiv (m_w32 (a1 * (m_rd h5 (m_rd h5 t 20) (m_w32 (20 + a2))))) x6)) + 1)), h9)
           else
            some ((m_w32 ((m_w32 (Int.tdiv (m_w32 (a1 * (m_rd h5 (m_rd h5 t 20) (m_w32 (20 + a2))))) x6)) + 0)), h9)))) FU a1 0 0 h5))))))))))
theorem CX12_pence {d : Nat} {t : Int} {a1 : Int} {a2 : Int} {h : MH} {r : Int × MH} (hF : FX12_pence t a1 a2 h = some r) : RN xs L iX12_pence (d + 1) 0 (lvE 0 [.inr (.inr t), .inl a1, .inl a2]) [] h (RIo r) := by
  unfold FX12_pence at hF
  refine RN.blk (ops := [(0, .aload_n 0), (1, .iload_n 2)]) (pc' := 2) (lv' := [(0, .inr (.inr t)), (1, .inl a1), (2, .inl a2)]) (st' := [.inl a2, .inr (.inr t)]) (h' := h) (cs := []) (by decide +kernel) rfl trivial ?_
  obtain ⟨hc, hF⟩ := gd_of hF
  obtain ⟨x2, h1, hG, hF⟩ := bd_of hF
  refine RN.cv (i := 310) (k := 204) (q2 := iX12_isHole) (as := [.inr (.inr t), .inl a2]) (r := []) (v := some (.inl x2)) (h1 := h1) (by decide +kernel) rfl rfl rfl rfl rfl (rcv_ok hc.1) (CX12_isHole (d := d) hG) ?_
  rcases it_of hF with ⟨hb, hF⟩ | ⟨hb, hF⟩
  · refine RN.ift (cd := .eq) (off := 15) (tgt := 20) (by decide +kernel) (mif_eq hb) ?_
    refine RN.blk (ops := [(20, .iconst (-1))]) (pc' := 21) (lv' := [(0, .inr (.inr t)), (1, .inl a1), (2, .inl a2)]) (st' := [.inl (-1)]) (h' := h1) (cs := []) (by decide +kernel) rfl trivial ?_
    exact RN.iR (by decide +kernel) rfl hF
  · refine RN.iff (cd := .eq) (off := 15) (tgt := 20) (by decide +kernel) (mif_eqn hb) ?_
    refine RN.blk (ops := [(8, .iload_n 1), (9, .i2l), (10, .lconst 0), (11, .ldc2_w 444)]) (pc' := 14) (lv' := [(0, .inr (.inr t)), (1, .inl a1), (2, .inl a2)]) (st' := [.inr (.inl 9999), .inr (.inl 0), .inr (.inl a1)]) (h' := h1) (cs := []) (by decide +kernel) rfl trivial ?_
    obtain ⟨x4, h3, hG, hF⟩ := bd_of hF
    refine RN.cst (i := 127) (k := 156) (q2 := iX12_in) (as := [.inr (.inl a1), .inr (.inl 0), .inr (.inl 9999)]) (r := []) (v := some (.inl x4)) (h1 := h3) (by decide +kernel) rfl rfl rfl rfl rfl (CX12_in (d := d) hG) ?_
    rcases it_of hF with ⟨hb, hF⟩ | ⟨hb, hF⟩
    · refine RN.iff (cd := .ne) (off := 5) (tgt := 22) (by decide +kernel) (mif_nen hb) ?_
      refine RN.blk (ops := [(20, .iconst (-1))]) (pc' := 21) (lv' := [(0, .inr (.inr t)), (1, .inl a1), (2, .inl a2)]) (st' := [.inl (-1)]) (h' := h3) (cs := []) (by decide +kernel) rfl trivial ?_
      exact RN.iR (by decide +kernel) rfl hF
    · refine RN.ift (cd := .ne) (off := 5) (tgt := 22) (by decide +kernel) (mif_ne hb) ?_
      refine RN.blk (ops := [(22, .aload_n 0), (23, .bipush 20)]) (pc' := 25) (lv' := [(0, .inr (.inr t)), (1, .inl a1), (2, .inl a2)]) (st' := [.inl 20, .inr (.inr t)]) (h' := h3) (cs := []) (by decide +kernel) rfl trivial ?_
      obtain ⟨hc, hF⟩ := gd_of hF
      obtain ⟨x6, h5, hG, hF⟩ := bd_of hF
      refine RN.cv (i := 325) (k := 210) (q2 := iX12_sumOver) (as := [.inr (.inr t), .inl 20]) (r := []) (v := some (.inl x6)) (h1 := h5) (by decide +kernel) rfl rfl rfl rfl rfl (rcv_ok hc.1) (CX12_sumOver (d := d) hG) ?_
      refine RN.blk (ops := [(28, .istore_n 3), (29, .iload_n 3)]) (pc' := 30) (lv' := [(3, .inl x6), (0, .inr (.inr t)), (1, .inl a1), (2, .inl a2)]) (st' := [.inl x6]) (h' := h5) (cs := []) (by decide +kernel) rfl trivial ?_
      rcases it_of hF with ⟨hb, hF⟩ | ⟨hb, hF⟩
      · refine RN.iff (cd := .ne) (off := 5) (tgt := 35) (by decide +kernel) (mif_nen hb) ?_
        refine RN.blk (ops := [(33, .iconst 0)]) (pc' := 34) (lv' := [(3, .inl x6), (0, .inr (.inr t)), (1, .inl a1), (2, .inl a2)]) (st' := [.inl 0]) (h' := h5) (cs := []) (by decide +kernel) rfl trivial ?_
        exact RN.iR (by decide +kernel) rfl hF
      · refine RN.ift (cd := .ne) (off := 5) (tgt := 35) (by decide +kernel) (mif_ne hb) ?_
        obtain ⟨hc, hF⟩ := gd_of hF
        refine RN.blk (ops := [(35, .iload_n 1), (36, .aload_n 0), (37, .getfield 39), (40, .bipush 20), (42, .iload_n 2), (43, .iadd), (44, .iaload), (45, .imul), (46, .istore 4), (48, .iload_n 1), (49, .istore 5), (51, .iconst 0), (52, .istore 6), (54, .iconst 0), (55, .istore 7)]) (pc' := 57) (lv' := [(7, .inl 0), (6, .inl 0), (5, .inl a1), (4, .inl (m_w32 (a1 * (m_rd h5 (m_rd h5 t 20) (m_w32 (20 + a2)))))), (3, .inl x6), (0, .inr (.inr t)), (1, .inl a1), (2, .inl a2)]) (st' := []) (h' := h5) (cs := [GK h5 t 12, GI h5 (m_rd h5 t 20) 1 (m_w32 (20 + a2))]) (by decide +kernel) rfl hc ?_
        refine RN.sub (CX12_pence_L57 ?_ _ _ _ _ _ hF) (sub_cons rfl (sub_cons rfl (sub_cons rfl (sub_cons rfl (sub_cons rfl (sub_cons rfl (sub_cons rfl (sub_cons rfl sub_nil))))))))
        · intro w7 w8 h9 hF
          obtain ⟨hc, hF⟩ := gd_of hF
          refine RN.blk (ops := [(135, .iload 4), (137, .iload_n 3), (138, .idiv), (139, .iload 6), (141, .iload 5)]) (pc' := 143) (lv' := [(3, .inl x6), (4, .inl (m_w32 (a1 * (m_rd h5 (m_rd h5 t 20) (m_w32 (20 + a2)))))), (5, .inl w7), (6, .inl w8)]) (st' := [.inl w7, .inl w8, .inl (m_w32 (Int.tdiv (m_w32 (a1 * (m_rd h5 (m_rd h5 t 20) (m_w32 (20 + a2))))) x6))]) (h' := h9) (cs := [(x6 : Int) ≠ 0]) (by decide +kernel) rfl hc ?_
          rcases it_of hF with ⟨hb, hF⟩ | ⟨hb, hF⟩
          · refine RN.icf (cd := .ge) (off := 7) (tgt := 150) (by decide +kernel) (mif_gen hb) ?_
            refine RN.blk (ops := [(146, .iconst 1)]) (pc' := 147) (lv' := [(3, .inl x6), (4, .inl (m_w32 (a1 * (m_rd h5 (m_rd h5 t 20) (m_w32 (20 + a2)))))), (5, .inl w7), (6, .inl w8)]) (st' := [.inl 1, .inl (m_w32 (Int.tdiv (m_w32 (a1 * (m_rd h5 (m_rd h5 t 20) (m_w32 (20 + a2))))) x6))]) (h' := h9) (cs := []) (by decide +kernel) rfl trivial ?_
            refine RN.goto (off := 4) (tgt := 151) (by decide +kernel) ?_
            refine RN.blk (ops := [(151, .iadd)]) (pc' := 152) (lv' := [(3, .inl x6), (4, .inl (m_w32 (a1 * (m_rd h5 (m_rd h5 t 20) (m_w32 (20 + a2)))))), (5, .inl w7), (6, .inl w8)]) (st' := [.inl (m_w32 ((m_w32 (Int.tdiv (m_w32 (a1 * (m_rd h5 (m_rd h5 t 20) (m_w32 (20 + a2))))) x6)) + 1))]) (h' := h9) (cs := []) (by decide +kernel) rfl trivial ?_
            exact RN.iR (by decide +kernel) rfl hF
          · refine RN.ict (cd := .ge) (off := 7) (tgt := 150) (by decide +kernel) (mif_ge hb) ?_
            refine RN.blk (ops := [(150, .iconst 0)]) (pc' := 151) (lv' := [(3, .inl x6), (4, .inl (m_w32 (a1 * (m_rd h5 (m_rd h5 t 20) (m_w32 (20 + a2)))))), (5, .inl w7), (6, .inl w8)]) (st' := [.inl 0, .inl (m_w32 (Int.tdiv (m_w32 (a1 * (m_rd h5 (m_rd h5 t 20) (m_w32 (20 + a2))))) x6))]) (h' := h9) (cs := []) (by decide +kernel) rfl trivial ?_
            refine RN.blk (ops := [(151, .iadd)]) (pc' := 152) (lv' := [(3, .inl x6), (4, .inl (m_w32 (a1 * (m_rd h5 (m_rd h5 t 20) (m_w32 (20 + a2)))))), (5, .inl w7), (6, .inl w8)]) (st' := [.inl (m_w32 ((m_w32 (Int.tdiv (m_w32 (a1 * (m_rd h5 (m_rd h5 t 20) (m_w32 (20 + a2))))) x6)) + 0))]) (h' := h9) (cs := []) (by decide +kernel) rfl trivial ?_
            exact RN.iR (by decide +kernel) rfl hF
noncomputable def FX12_note (t : Int) (a1 : Int) (a2 : Int) (a3 : Int) (h : MH) : Option (Int × MH) :=
  (if a1 = (-1) then
   gd [GK h t 12, GI h (m_rd h t 20) 1 166] (
    some (0, (m_wr h (m_rd h t 20) 166 0)))
  else
   (bd (FX12_in a1 0 60 h) (fun x2 h1 =>
    (if x2 = 0 then
     some ((-2), h1)
    else
     gd [GK h1 t 12] (bd (FX12_isHole t a2 h1) (fun x4 h3 =>
      (if x4 = 0 then
       some ((-2), h3)
      else
       (bd (FX12_in a3 0 20 h3) (fun x6 h5 =>
        (if x6 = 0 then
         some ((-2), h5)
        else
         gd [GK h5 t 12, GI h5 (m_rd h5 t 20) 1 166] (
          (if (m_rd h5 (m_rd h5 t 20) 166) = 10 then
           some ((-2), h5)
          else
           gd [GK h5 t 12, GI h5 (m_rd h5 t 20) 1 166, GK h5 t 12, GI h5 (m_rd h5 t 20) 1 (m_w32 (136 + (m_w32 (3 * (m_rd h5 (m_rd h5 t 20) 166)))))] (
            hl (m_wr h5 (m_rd h5 t 20) (m_w32 (136 + (m_w32 (3 * (m_rd h5 (m_rd h5 t 20) 166))))) a1) (fun h7 =>
             gd [GK h7 t 12, GI h7 (m_rd h7 t 20) 1 (m_w32 ((m_w32 (136 + (m_w32 (3 * (m_rd h5 (m_rd h5 t 20) 166))))) + 1))] (
              hl (m_wr h7 (m_rd h7 t 20) (m_w32 ((m_w32 (136 + (m_w32 (3 * (m_rd h5 (m_rd h5 t 20) 166))))) + 1)) a2) (fun h8 =>
               gd [GK h8 t 12, GI h8 (m_rd h8 t 20) 1 (m_w32 ((m_w32 (136 + (m_w32 (3 * (m_rd h5 (m_rd h5 t 20) 166))))) + 2))] (
                hl (m_wr h8 (m_rd h8 t 20) (m_w32 ((m_w32 (136 + (m_w32 (3 * (m_rd h5 (m_rd h5 t 20) 166))))) + 2)) a3) (fun h9 =>
                 gd [GK h9 t 12, GI h9 (m_rd h9 t 20) 1 166, GI h9 (m_rd h9 t 20) 1 166] (
                  hl (m_wr h9 (m_rd h9 t 20) 166 (m_w32 ((m_rd h9 (m_rd h9 t 20) 166) + 1))) (fun h10 =>
                   gd [GK h10 t 12, GI h10 (m_rd h10 t 20) 1 166] (
                    some ((m_rd h10 (m_rd h10 t 20) 166), h10))))))))))))))))))))))
theorem CX12_note {d : Nat} {t : Int} {a1 : Int} {a2 : Int} {a3 : Int} {h : MH} {r : Int × MH} (hF : FX12_note t a1 a2 a3 h = some r) : RN xs L iX12_note (d + 1) 0 (lvE 0 [.inr (.inr t), .inl a1, .inl a2, .inl a3]) [] h (RIo r) := by
  unfold FX12_note at hF
  refine RN.blk (ops := [(0, .iload_n 1), (1, .iconst (-1))]) (pc' := 2) (lv' := [(0, .inr (.inr t)), (1, .inl a1), (2, .inl a2), (3, .inl a3)]) (st' := [.inl (-1), .inl a1]) (h' := h) (cs := []) (by decide +kernel) rfl trivial ?_
  rcases it_of hF with ⟨hb, hF⟩ | ⟨hb, hF⟩
  · refine RN.icf (cd := .ne) (off := 14) (tgt := 16) (by decide +kernel) (mif_nen hb) ?_
    obtain ⟨hc, hF⟩ := gd_of hF
    refine RN.blk (ops := [(5, .aload_n 0), (6, .getfield 39), (9, .sipush 166), (12, .iconst 0), (13, .iastore), (14, .iconst 0)]) (pc' := 15) (lv' := [(0, .inr (.inr t)), (1, .inl a1), (2, .inl a2), (3, .inl a3)]) (st' := [.inl 0]) (h' := (m_wr h (m_rd h t 20) 166 0)) (cs := [GK h t 12, GI h (m_rd h t 20) 1 166]) (by decide +kernel) rfl hc ?_
    exact RN.iR (by decide +kernel) rfl hF
  · refine RN.ict (cd := .ne) (off := 14) (tgt := 16) (by decide +kernel) (mif_ne hb) ?_
    refine RN.blk (ops := [(16, .iload_n 1), (17, .i2l), (18, .lconst 0), (19, .ldc2_w 446)]) (pc' := 22) (lv' := [(0, .inr (.inr t)), (1, .inl a1), (2, .inl a2), (3, .inl a3)]) (st' := [.inr (.inl 60), .inr (.inl 0), .inr (.inl a1)]) (h' := h) (cs := []) (by decide +kernel) rfl trivial ?_
    obtain ⟨x2, h1, hG, hF⟩ := bd_of hF
    refine RN.cst (i := 127) (k := 156) (q2 := iX12_in) (as := [.inr (.inl a1), .inr (.inl 0), .inr (.inl 60)]) (r := []) (v := some (.inl x2)) (h1 := h1) (by decide +kernel) rfl rfl rfl rfl rfl (CX12_in (d := d) hG) ?_
    rcases it_of hF with ⟨hb, hF⟩ | ⟨hb, hF⟩
    · refine RN.ift (cd := .eq) (off := 36) (tgt := 61) (by decide +kernel) (mif_eq hb) ?_
      refine RN.blk (ops := [(61, .bipush (-2))]) (pc' := 63) (lv' := [(0, .inr (.inr t)), (1, .inl a1), (2, .inl a2), (3, .inl a3)]) (st' := [.inl (-2)]) (h' := h1) (cs := []) (by decide +kernel) rfl trivial ?_
      exact RN.iR (by decide +kernel) rfl hF
    · refine RN.iff (cd := .eq) (off := 36) (tgt := 61) (by decide +kernel) (mif_eqn hb) ?_
      refine RN.blk (ops := [(28, .aload_n 0), (29, .iload_n 2)]) (pc' := 30) (lv' := [(0, .inr (.inr t)), (1, .inl a1), (2, .inl a2), (3, .inl a3)]) (st' := [.inl a2, .inr (.inr t)]) (h' := h1) (cs := []) (by decide +kernel) rfl trivial ?_
      obtain ⟨hc, hF⟩ := gd_of hF
      obtain ⟨x4, h3, hG, hF⟩ := bd_of hF
      refine RN.cv (i := 310) (k := 204) (q2 := iX12_isHole) (as := [.inr (.inr t), .inl a2]) (r := []) (v := some (.inl x4)) (h1 := h3) (by decide +kernel) rfl rfl rfl rfl rfl (rcv_ok hc.1) (CX12_isHole (d := d) hG) ?_
      rcases it_of hF with ⟨hb, hF⟩ | ⟨hb, hF⟩
      · refine RN.ift (cd := .eq) (off := 28) (tgt := 61) (by decide +kernel) (mif_eq hb) ?_
        refine RN.blk (ops := [(61, .bipush (-2))]) (pc' := 63) (lv' := [(0, .inr (.inr t)), (1, .inl a1), (2, .inl a2), (3, .inl a3)]) (st' := [.inl (-2)]) (h' := h3) (cs := []) (by decide +kernel) rfl trivial ?_
        exact RN.iR (by decide +kernel) rfl hF
      · refine RN.iff (cd := .eq) (off := 28) (tgt := 61) (by decide +kernel) (mif_eqn hb) ?_
        refine RN.blk (ops := [(36, .iload_n 3), (37, .i2l), (38, .lconst 0), (39, .ldc2_w 448)]) (pc' := 42) (lv' := [(0, .inr (.inr t)), (1, .inl a1), (2, .inl a2), (3, .inl a3)]) (st' := [.inr (.inl 20), .inr (.inl 0), .inr (.inl a3)]) (h' := h3) (cs := []) (by decide +kernel) rfl trivial ?_
        obtain ⟨x6, h5, hG, hF⟩ := bd_of hF
        refine RN.cst (i := 127) (k := 156) (q2 := iX12_in) (as := [.inr (.inl a3), .inr (.inl 0), .inr (.inl 20)]) (r := []) (v := some (.inl x6)) (h1 := h5) (by decide +kernel) rfl rfl rfl rfl rfl (CX12_in (d := d) hG) ?_
        rcases it_of hF with ⟨hb, hF⟩ | ⟨hb, hF⟩
        · refine RN.ift (cd := .eq) (off := 16) (tgt := 61) (by decide +kernel) (mif_eq hb) ?_
          refine RN.blk (ops := [(61, .bipush (-2))]) (pc' := 63) (lv' := [(0, .inr (.inr t)), (1, .inl a1), (2, .inl a2), (3, .inl a3)]) (st' := [.inl (-2)]) (h' := h5) (cs := []) (by decide +kernel) rfl trivial ?_
          exact RN.iR (by decide +kernel) rfl hF
        · refine RN.iff (cd := .eq) (off := 16) (tgt := 61) (by decide +kernel) (mif_eqn hb) ?_
          obtain ⟨hc, hF⟩ := gd_of hF
          refine RN.blk (ops := [(48, .aload_n 0), (49, .getfield 39), (52, .sipush 166), (55, .iaload), (56, .bipush 10)]) (pc' := 58) (lv' := [(0, .inr (.inr t)), (1, .inl a1), (2, .inl a2), (3, .inl a3)]) (st' := [.inl 10, .inl (m_rd h5 (m_rd h5 t 20) 166)]) (h' := h5) (cs := [GK h5 t 12, GI h5 (m_rd h5 t 20) 1 166]) (by decide +kernel) rfl hc ?_
          rcases it_of hF with ⟨hb, hF⟩ | ⟨hb, hF⟩
          · refine RN.icf (cd := .ne) (off := 6) (tgt := 64) (by decide +kernel) (mif_nen hb) ?_
            refine RN.blk (ops := [(61, .bipush (-2))]) (pc' := 63) (lv' := [(0, .inr (.inr t)), (1, .inl a1), (2, .inl a2), (3, .inl a3)]) (st' := [.inl (-2)]) (h' := h5) (cs := []) (by decide +kernel) rfl trivial ?_
            exact RN.iR (by decide +kernel) rfl hF
          · refine RN.ict (cd := .ne) (off := 6) (tgt := 64) (by decide +kernel) (mif_ne hb) ?_
            obtain ⟨hc, hF⟩ := gd_of hF
            refine RN.blk (ops := [(64, .sipush 136), (67, .iconst 3), (68, .aload_n 0), (69, .getfield 39), (72, .sipush 166), (75, .iaload), (76, .imul), (77, .iadd), (78, .istore 4), (80, .aload_n 0), (81, .getfield 39), (84, .iload 4), (86, .iload_n 1), (87, .iastore)]) (pc' := 88) (lv' := [(4, .inl (m_w32 (136 + (m_w32 (3 * (m_rd h5 (m_rd h5 t 20) 166)))))), (0, .inr (.inr t)), (1, .inl a1), (2, .inl a2), (3, .inl a3)]) (st' := []) (h' := (m_wr h5 (m_rd h5 t 20) (m_w32 (136 + (m_w32 (3 * (m_rd h5 (m_rd h5 t 20) 166))))) a1)) (cs := [GK h5 t 12, GI h5 (m_rd h5 t 20) 1 166, GK h5 t 12, GI h5 (m_rd h5 t 20) 1 (m_w32 (136 + (m_w32 (3 * (m_rd h5 (m_rd h5 t 20) 166)))))]) (by decide +kernel) rfl hc ?_
            obtain ⟨h7, he, hF⟩ := hl_of hF
            refine RN.hl he ?_
            obtain ⟨hc, hF⟩ := gd_of hF
            refine RN.blk (ops := [(88, .aload_n 0), (89, .getfield 39), (92, .iload 4), (94, .iconst 1), (95, .iadd), (96, .iload_n 2), (97, .iastore)]) (pc' := 98) (lv' := [(4, .inl (m_w32 (136 + (m_w32 (3 * (m_rd h5 (m_rd h5 t 20) 166)))))), (0, .inr (.inr t)), (1, .inl a1), (2, .inl a2), (3, .inl a3)]) (st' := []) (h' := (m_wr h7 (m_rd h7 t 20) (m_w32 ((m_w32 (136 + (m_w32 (3 * (m_rd h5 (m_rd h5 t 20) 166))))) + 1)) a2)) (cs := [GK h7 t 12, GI h7 (m_rd h7 t 20) 1 (m_w32 ((m_w32 (136 + (m_w32 (3 * (m_rd h5 (m_rd h5 t 20) 166))))) + 1))]) (by decide +kernel) rfl hc ?_
            obtain ⟨h8, he, hF⟩ := hl_of hF
            refine RN.hl he ?_
            obtain ⟨hc, hF⟩ := gd_of hF
            refine RN.blk (ops := [(98, .aload_n 0), (99, .getfield 39), (102, .iload 4), (104, .iconst 2), (105, .iadd), (106, .iload_n 3), (107, .iastore)]) (pc' := 108) (lv' := [(4, .inl (m_w32 (136 + (m_w32 (3 * (m_rd h5 (m_rd h5 t 20) 166)))))), (0, .inr (.inr t)), (1, .inl a1), (2, .inl a2), (3, .inl a3)]) (st' := []) (h' := (m_wr h8 (m_rd h8 t 20) (m_w32 ((m_w32 (136 + (m_w32 (3 * (m_rd h5 (m_rd h5 t 20) 166))))) + 2)) a3)) (cs := [GK h8 t 12, GI h8 (m_rd h8 t 20) 1 (m_w32 ((m_w32 (136 + (m_w32 (3 * (m_rd h5 (m_rd h5 t 20) 166))))) + 2))]) (by decide +kernel) rfl hc ?_
            obtain ⟨h9, he, hF⟩ := hl_of hF
            refine RN.hl he ?_
            obtain ⟨hc, hF⟩ := gd_of hF
            refine RN.blk (ops := [(108, .aload_n 0), (109, .getfield 39), (112, .sipush 166), (115, .dup2), (116, .iaload), (117, .iconst 1), (118, .iadd), (119, .iastore)]) (pc' := 120) (lv' := [(4, .inl (m_w32 (136 + (m_w32 (3 * (m_rd h5 (m_rd h5 t 20) 166)))))), (0, .inr (.inr t)), (1, .inl a1), (2, .inl a2), (3, .inl a3)]) (st' := []) (h' := (m_wr h9 (m_rd h9 t 20) 166 (m_w32 ((m_rd h9 (m_rd h9 t 20) 166) + 1)))) (cs := [GK h9 t 12, GI h9 (m_rd h9 t 20) 1 166, GI h9 (m_rd h9 t 20) 1 166]) (by decide +kernel) rfl hc ?_
            obtain ⟨h10, he, hF⟩ := hl_of hF
            refine RN.hl he ?_
            obtain ⟨hc, hF⟩ := gd_of hF
            refine RN.blk (ops := [(120, .aload_n 0), (121, .getfield 39), (124, .sipush 166), (127, .iaload)]) (pc' := 128) (lv' := [(4, .inl (m_w32 (136 + (m_w32 (3 * (m_rd h5 (m_rd h5 t 20) 166)))))), (0, .inr (.inr t)), (1, .inl a1), (2, .inl a2), (3, .inl a3)]) (st' := [.inl (m_rd h10 (m_rd h10 t 20) 166)]) (h' := h10) (cs := [GK h10 t 12, GI h10 (m_rd h10 t 20) 1 166]) (by decide +kernel) rfl hc ?_
            exact RN.iR (by decide +kernel) rfl hF
noncomputable def FX12_areNotesSo_L2 (u0 : Int) (u1 : Int) (K0 : MH → Option (Int × MH)) (K1 : MH → Option (Int × MH)) : Nat → Int → MH → Option (Int × MH)
  | 0, _, _ => none
  | f + 1, v2, h =>
    gd [GK h u0 12, GI h (m_rd h u0 20) 1 166] (
     (if v2 < (m_w32 (3 * (m_rd h (m_rd h u0 20) 166))) then
      gd [GK h u0 12, GI h (m_rd h u0 20) 1 (m_w32 (136 + v2))] (
       (if (m_rd h (m_rd h u0 20) (m_w32 (136 + v2))) = u1 then
        gd [GK h u0 12, GK h u0 12, GI h (m_rd h u0 20) 1 (m_w32 ((m_w32 (136 + v2)) + 1)), GI h (m_rd h u0 20) 1 (m_w32 (14 + (m_rd h (m_rd h u0 20) (m_w32 ((m_w32 (136 + v2)) + 1))))), GK h u0 12, GI h (m_rd h u0 20) 1 (m_w32 ((m_w32 (136 + v2)) + 2))] (
         (if (m_rd h (m_rd h u0 20) (m_w32 (14 + (m_rd h (m_rd h u0 20) (m_w32 ((m_w32 (136 + v2)) + 1)))))) = (m_rd h (m_rd h u0 20) (m_w32 ((m_w32 (136 + v2)) + 2))) then
          FX12_areNotesSo_L2 u0 u1 K0 K1 f (m_w32 (v2 + 3)) h
         else
          K0 h))
       else
        FX12_areNotesSo_L2 u0 u1 K0 K1 f (m_w32 (v2 + 3)) h))
     else
      K1 h))
theorem CX12_areNotesSo_L2 {d : Nat} {u0 : Int} {u1 : Int} {K0 : MH → Option (Int × MH)} {K1 : MH → Option (Int × MH)} {r : Int × MH} (hK0 : ∀ (h : MH), K0 h = some r → RN xs L iX12_areNotesSo (d) 65 [] [] h (RIo r)) (hK1 : ∀ (h : MH), K1 h = some r → RN xs L iX12_areNotesSo (d) 73 [] [] h (RIo r)) : ∀ (f : Nat) (v2 : Int) (h : MH), FX12_areNotesSo_L2 u0 u1 K0 K1 f v2 h = some r → RN xs L iX12_areNotesSo (d) 2 [(0, .inr (.inr u0)), (1, .inl u1), (2, .inl v2)] [] h (RIo r) := by
  intro f
  induction f with
  | zero =>
    intro v2 h hF
    cases hF
  | succ f ih =>
    intro v2 h hF
    unfold FX12_areNotesSo_L2 at hF
    obtain ⟨hc, hF⟩ := gd_of hF
    refine RN.blk (ops := [(2, .iload_n 2), (3, .iconst 3), (4, .aload_n 0), (5, .getfield 39), (8, .sipush 166), (11, .iaload), (12, .imul)]) (pc' := 13) (lv' := [(0, .inr (.inr u0)), (1, .inl u1), (2, .inl v2)]) (st' := [.inl (m_w32 (3 * (m_rd h (m_rd h u0 20) 166))), .inl v2]) (h' := h) (cs := [GK h u0 12, GI h (m_rd h u0 20) 1 166]) (by decide +kernel) rfl hc ?_
    rcases it_of hF with ⟨hb, hF⟩ | ⟨hb, hF⟩
    · refine RN.icf (cd := .ge) (off := 60) (tgt := 73) (by decide +kernel) (mif_gen hb) ?_
      obtain ⟨hc, hF⟩ := gd_of hF
      refine RN.blk (ops := [(16, .aload_n 0), (17, .getfield 39), (20, .sipush 136), (23, .iload_n 2), (24, .iadd), (25, .iaload), (26, .iload_n 1)]) (pc' := 27) (lv' := [(0, .inr (.inr u0)), (1, .inl u1), (2, .inl v2)]) (st' := [.inl u1, .inl (m_rd h (m_rd h u0 20) (m_w32 (136 + v2)))]) (h' := h) (cs := [GK h u0 12, GI h (m_rd h u0 20) 1 (m_w32 (136 + v2))]) (by decide +kernel) rfl hc ?_
      rcases it_of hF with ⟨hb, hF⟩ | ⟨hb, hF⟩
      · refine RN.icf (cd := .ne) (off := 40) (tgt := 67) (by decide +kernel) (mif_nen hb) ?_
        obtain ⟨hc, hF⟩ := gd_of hF
        refine RN.blk (ops := [(30, .aload_n 0), (31, .getfield 39), (34, .bipush 14), (36, .aload_n 0), (37, .getfield 39), (40, .sipush 136), (43, .iload_n 2), (44, .iadd), (45, .iconst 1), (46, .iadd), (47, .iaload), (48, .iadd), (49, .iaload), (50, .aload_n 0), (51, .getfield 39), (54, .sipush 136), (57, .iload_n 2), (58, .iadd), (59, .iconst 2), (60, .iadd), (61, .iaload)]) (pc' := 62) (lv' := [(0, .inr (.inr u0)), (1, .inl u1), (2, .inl v2)]) (st' := [.inl (m_rd h (m_rd h u0 20) (m_w32 ((m_w32 (136 + v2)) + 2))), .inl (m_rd h (m_rd h u0 20) (m_w32 (14 + (m_rd h (m_rd h u0 20) (m_w32 ((m_w32 (136 + v2)) + 1))))))]) (h' := h) (cs := [GK h u0 12, GK h u0 12, GI h (m_rd h u0 20) 1 (m_w32 ((m_w32 (136 + v2)) + 1)), GI h (m_rd h u0 20) 1 (m_w32 (14 + (m_rd h (m_rd h u0 20) (m_w32 ((m_w32 (136 + v2)) + 1))))), GK h u0 12, GI h (m_rd h u0 20) 1 (m_w32 ((m_w32 (136 + v2)) + 2))]) (by decide +kernel) rfl hc ?_
        rcases it_of hF with ⟨hb, hF⟩ | ⟨hb, hF⟩
        · refine RN.ict (cd := .eq) (off := 5) (tgt := 67) (by decide +kernel) (mif_eq hb) ?_
          refine RN.blk (ops := [(67, .iinc 2 3)]) (pc' := 70) (lv' := [(2, .inl (m_w32 (v2 + 3))), (0, .inr (.inr u0)), (1, .inl u1)]) (st' := []) (h' := h) (cs := []) (by decide +kernel) rfl trivial ?_
          refine RN.goto (off := -68) (tgt := 2) (by decide +kernel) ?_
          exact RN.sub (ih _ _ hF) (sub_cons rfl (sub_cons rfl (sub_cons rfl sub_nil)))
        · refine RN.icf (cd := .eq) (off := 5) (tgt := 67) (by decide +kernel) (mif_eqn hb) ?_
          exact RN.sub (hK0 _ hF) sub_nil
      · refine RN.ict (cd := .ne) (off := 40) (tgt := 67) (by decide +kernel) (mif_ne hb) ?_
        refine RN.blk (ops := [(67, .iinc 2 3)]) (pc' := 70) (lv' := [(2, .inl (m_w32 (v2 + 3))), (0, .inr (.inr u0)), (1, .inl u1)]) (st' := []) (h' := h) (cs := []) (by decide +kernel) rfl trivial ?_
        refine RN.goto (off := -68) (tgt := 2) (by decide +kernel) ?_
        exact RN.sub (ih _ _ hF) (sub_cons rfl (sub_cons rfl (sub_cons rfl sub_nil)))
    · refine RN.ict (cd := .ge) (off := 60) (tgt := 73) (by decide +kernel) (mif_ge hb) ?_
      exact RN.sub (hK1 _ hF) sub_nil
noncomputable def FX12_areNotesSo (t : Int) (a1 : Int) (h : MH) : Option (Int × MH) :=
  FX12_areNotesSo_L2 t a1 (fun h1 =>
   some (0, h1)) (fun h2 =>
   some (1, h2)) FU 0 h
theorem CX12_areNotesSo {d : Nat} {t : Int} {a1 : Int} {h : MH} {r : Int × MH} (hF : FX12_areNotesSo t a1 h = some r) : RN xs L iX12_areNotesSo (d) 0 (lvE 0 [.inr (.inr t), .inl a1]) [] h (RIo r) := by
  unfold FX12_areNotesSo at hF
  refine RN.blk (ops := [(0, .iconst 0), (1, .istore_n 2)]) (pc' := 2) (lv' := [(2, .inl 0), (0, .inr (.inr t)), (1, .inl a1)]) (st' := []) (h' := h) (cs := []) (by decide +kernel) rfl trivial ?_
  refine RN.sub (CX12_areNotesSo_L2 ?_ ?_ _ _ _ hF) (sub_cons rfl (sub_cons rfl (sub_cons rfl sub_nil)))
  · intro h1 hF
    refine RN.blk (ops := [(65, .iconst 0)]) (pc' := 66) (lv' := []) (st' := [.inl 0]) (h' := h1) (cs := []) (by decide +kernel) rfl trivial ?_
    exact RN.zR (by decide +kernel) rfl (Or.inl rfl) hF
  · intro h2 hF
    refine RN.blk (ops := [(73, .iconst 1)]) (pc' := 74) (lv' := []) (st' := [.inl 1]) (h' := h2) (cs := []) (by decide +kernel) rfl trivial ?_
    exact RN.zR (by decide +kernel) rfl (Or.inr rfl) hF
noncomputable def FX12_areAllSo_L39 (u0 : Int) (u1 : Int) (u2 : Int) (u3 : Int) (u4 : Int) (K0 : MH → Option (Int × MH)) : Nat → Int → MH → Option (Int × MH)
  | 0, _, _ => none
  | f + 1, v5, h =>
    gd [GK h u0 12, GI h (m_rd h u0 20) 1 3] (
     (if v5 < (m_rd h (m_rd h u0 20) 3) then
      (if u4 = u2 then
       gd [GK h u0 12, GK h u0 12, GI h (m_rd h u0 20) 1 (m_w32 (14 + v5)), GI h (m_rd h u0 35) 1 (m_w32 ((m_w32 (6 * u1)) + v5))] (
        hl (m_wr h (m_rd h u0 35) (m_w32 ((m_w32 (6 * u1)) + v5)) (m_rd h (m_rd h u0 20) (m_w32 (14 + v5)))) (fun h1 =>
         FX12_areAllSo_L39 u0 u1 u2 u3 u4 K0 f (m_w32 (v5 + 1)) h1))
      else
       K0 h)
     else
      K0 h))
theorem CX12_areAllSo_L39 {d : Nat} {u0 : Int} {u1 : Int} {u2 : Int} {u3 : Int} {u4 : Int} {K0 : MH → Option (Int × MH)} {r : Int × MH} (hK0 : ∀ (h : MH), K0 h = some r → RN xs L iX12_areAllSo (d + 7) 84 [(0, .inr (.inr u0)), (1, .inl u1), (2, .inl u2), (3, .inl u3), (4, .inl u4)] [] h (RIo r)) : ∀ (f : Nat) (v5 : Int) (h : MH), FX12_areAllSo_L39 u0 u1 u2 u3 u4 K0 f v5 h = some r → RN xs L iX12_areAllSo (d + 7) 39 [(0, .inr (.inr u0)), (1, .inl u1), (2, .inl u2), (3, .inl u3), (4, .inl u4), (5, .inl v5)] [] h (RIo r) := by
  intro f
  induction f with
  | zero =>
    intro v5 h hF
    cases hF
  | succ f ih =>
    intro v5 h hF
    unfold FX12_areAllSo_L39 at hF
    obtain ⟨hc, hF⟩ := gd_of hF
    refine RN.blk (ops := [(39, .iload 5), (41, .aload_n 0), (42, .getfield 39), (45, .iconst 3), (46, .iaload)]) (pc' := 47) (lv' := [(0, .inr (.inr u0)), (1, .inl u1), (2, .inl u2), (3, .inl u3), (4, .inl u4), (5, .inl v5)]) (st' := [.inl (m_rd h (m_rd h u0 20) 3), .inl v5]) (h' := h) (cs := [GK h u0 12, GI h (m_rd h u0 20) 1 3]) (by decide +kernel) rfl hc ?_
    rcases it_of hF with ⟨hb, hF⟩ | ⟨hb, hF⟩
    · refine RN.icf (cd := .ge) (off := 37) (tgt := 84) (by decide +kernel) (mif_gen hb) ?_
      refine RN.blk (ops := [(50, .iload 4), (52, .iload_n 2)]) (pc' := 53) (lv' := [(0, .inr (.inr u0)), (1, .inl u1), (2, .inl u2), (3, .inl u3), (4, .inl u4), (5, .inl v5)]) (st' := [.inl u2, .inl u4]) (h' := h) (cs := []) (by decide +kernel) rfl trivial ?_
      rcases it_of hF with ⟨hb, hF⟩ | ⟨hb, hF⟩
      · refine RN.icf (cd := .ne) (off := 31) (tgt := 84) (by decide +kernel) (mif_nen hb) ?_
        obtain ⟨hc, hF⟩ := gd_of hF
        refine RN.blk (ops := [(56, .aload_n 0), (57, .getfield 71), (60, .bipush 6), (62, .iload_n 1), (63, .imul), (64, .iload 5), (66, .iadd), (67, .aload_n 0), (68, .getfield 39), (71, .bipush 14), (73, .iload 5), (75, .iadd), (76, .iaload), (77, .iastore)]) (pc' := 78) (lv' := [(0, .inr (.inr u0)), (1, .inl u1), (2, .inl u2), (3, .inl u3), (4, .inl u4), (5, .inl v5)]) (st' := []) (h' := (m_wr h (m_rd h u0 35) (m_w32 ((m_w32 (6 * u1)) + v5)) (m_rd h (m_rd h u0 20) (m_w32 (14 + v5))))) (cs := [GK h u0 12, GK h u0 12, GI h (m_rd h u0 20) 1 (m_w32 (14 + v5)), GI h (m_rd h u0 35) 1 (m_w32 ((m_w32 (6 * u1)) + v5))]) (by decide +kernel) rfl hc ?_
        obtain ⟨h1, he, hF⟩ := hl_of hF
        refine RN.hl he ?_
        refine RN.blk (ops := [(78, .iinc 5 1)]) (pc' := 81) (lv' := [(5, .inl (m_w32 (v5 + 1))), (0, .inr (.inr u0)), (1, .inl u1), (2, .inl u2), (3, .inl u3), (4, .inl u4)]) (st' := []) (h' := h1) (cs := []) (by decide +kernel) rfl trivial ?_
        refine RN.goto (off := -42) (tgt := 39) (by decide +kernel) ?_
        exact RN.sub (ih _ _ hF) (sub_cons rfl (sub_cons rfl (sub_cons rfl (sub_cons rfl (sub_cons rfl (sub_cons rfl sub_nil))))))
      · refine RN.ict (cd := .ne) (off := 31) (tgt := 84) (by decide +kernel) (mif_ne hb) ?_
        exact RN.sub (hK0 _ hF) (sub_cons rfl (sub_cons rfl (sub_cons rfl (sub_cons rfl (sub_cons rfl sub_nil)))))
    · refine RN.ict (cd := .ge) (off := 37) (tgt := 84) (by decide +kernel) (mif_ge hb) ?_
      exact RN.sub (hK0 _ hF) (sub_cons rfl (sub_cons rfl (sub_cons rfl (sub_cons rfl (sub_cons rfl sub_nil)))))
noncomputable def FX12_areAllSo_L5 (u0 : Int) (u1 : Int) (u2 : Int) (K0 : Int → MH → Option (Int × MH)) : Nat → Int → Int → MH → Option (Int × MH)
  | 0, _, _, _ => none
  | f + 1, v3, v4, h =>
    (if 60 < v4 then
     K0 v3 h
    else
     gd [GK h u0 12] (bd (FX12_passes u0 h) (fun x2 h1 =>
      jn (fun (s4 : Int) (h5 : MH) =>
       FX12_areAllSo_L39 u0 u1 u2 s4 v4 (fun h6 =>
        FX12_areAllSo_L5 u0 u1 u2 K0 f s4 (m_w32 (v4 + 1)) h6) FU 0 h5) (fun j3 =>
       jn (fun (h8 : MH) =>
        j3 0 h8) (fun j7 =>
        (if v3 = 0 then
         j7 h1
        else
         gd [GK h1 u0 12] (bd (FX12_areNotesSo u0 v4 h1) (fun x10 h9 =>
          (if x10 = 0 then
           j7 h9
          else
           j3 1 h9)))))))))
theorem CX12_areAllSo_L5 {d : Nat} {u0 : Int} {u1 : Int} {u2 : Int} {K0 : Int → MH → Option (Int × MH)} {r : Int × MH} (hK0 : ∀ (w3 : Int) (h : MH), K0 w3 h = some r → RN xs L iX12_areAllSo (d + 7) 90 [(3, .inl w3)] [] h (RIo r)) : ∀ (f : Nat) (v3 : Int) (v4 : Int) (h : MH), FX12_areAllSo_L5 u0 u1 u2 K0 f v3 v4 h = some r → RN xs L iX12_areAllSo (d + 7) 5 [(0, .inr (.inr u0)), (1, .inl u1), (2, .inl u2), (3, .inl v3), (4, .inl v4)] [] h (RIo r) := by
  intro f
  induction f with
  | zero =>
    intro v3 v4 h hF
    cases hF
  | succ f ih =>
    intro v3 v4 h hF
    unfold FX12_areAllSo_L5 at hF
    refine RN.blk (ops := [(5, .iload 4), (7, .bipush 60)]) (pc' := 9) (lv' := [(0, .inr (.inr u0)), (1, .inl u1), (2, .inl u2), (3, .inl v3), (4, .inl v4)]) (st' := [.inl 60, .inl v4]) (h' := h) (cs := []) (by decide +kernel) rfl trivial ?_
    rcases it_of hF with ⟨hb, hF⟩ | ⟨hb, hF⟩
    · refine RN.ict (cd := .gt) (off := 81) (tgt := 90) (by decide +kernel) (mif_gt hb) ?_
      exact RN.sub (hK0 _ _ hF) (sub_cons rfl sub_nil)
    · refine RN.icf (cd := .gt) (off := 81) (tgt := 90) (by decide +kernel) (mif_gtn hb) ?_
      refine RN.blk (ops := [(12, .aload_n 0)]) (pc' := 13) (lv' := [(0, .inr (.inr u0)), (1, .inl u1), (2, .inl u2), (3, .inl v3), (4, .inl v4)]) (st' := [.inr (.inr u0)]) (h' := h) (cs := []) (by decide +kernel) rfl trivial ?_
      obtain ⟨hc, hF⟩ := gd_of hF
      obtain ⟨x2, h1, hG, hF⟩ := bd_of hF
      refine RN.cv (i := 350) (k := 222) (q2 := iX12_passes) (as := [.inr (.inr u0)]) (r := []) (v := some (.inl x2)) (h1 := h1) (by decide +kernel) rfl rfl rfl rfl rfl (rcv_ok hc.1) (CX12_passes (d := d) hG) ?_
      refine RN.blk (ops := [(16, .pop), (17, .iload_n 3)]) (pc' := 18) (lv' := [(0, .inr (.inr u0)), (1, .inl u1), (2, .inl u2), (3, .inl v3), (4, .inl v4)]) (st' := [.inl v3]) (h' := h1) (cs := []) (by decide +kernel) rfl trivial ?_
      refine jn_use (fun j3 => ∀ (s4 : Int) (h5 : MH), j3 s4 h5 = some r → RN xs L iX12_areAllSo (d + 7) 35 [(0, .inr (.inr u0)), (1, .inl u1), (2, .inl u2), (4, .inl v4)] [.inl s4] h5 (RIo r)) ?_ ?_ hF
      · intro s4 h5 hF
        refine RN.blk (ops := [(35, .istore_n 3), (36, .iconst 0), (37, .istore 5)]) (pc' := 39) (lv' := [(5, .inl 0), (3, .inl s4), (0, .inr (.inr u0)), (1, .inl u1), (2, .inl u2), (4, .inl v4)]) (st' := []) (h' := h5) (cs := []) (by decide +kernel) rfl trivial ?_
        refine RN.sub (CX12_areAllSo_L39 ?_ _ _ _ hF) (sub_cons rfl (sub_cons rfl (sub_cons rfl (sub_cons rfl (sub_cons rfl (sub_cons rfl sub_nil))))))
        · intro h6 hF
          refine RN.blk (ops := [(84, .iinc 4 1)]) (pc' := 87) (lv' := [(4, .inl (m_w32 (v4 + 1))), (0, .inr (.inr u0)), (1, .inl u1), (2, .inl u2), (3, .inl s4)]) (st' := []) (h' := h6) (cs := []) (by decide +kernel) rfl trivial ?_
          refine RN.goto (off := -82) (tgt := 5) (by decide +kernel) ?_
          exact RN.sub (ih _ _ _ hF) (sub_cons rfl (sub_cons rfl (sub_cons rfl (sub_cons rfl (sub_cons rfl sub_nil)))))
      · intro j3 Jj3 hF
        refine jn_use (fun j7 => ∀ (h8 : MH), j7 h8 = some r → RN xs L iX12_areAllSo (d + 7) 34 [(0, .inr (.inr u0)), (1, .inl u1), (2, .inl u2), (4, .inl v4)] [] h8 (RIo r)) ?_ ?_ hF
        · intro h8 hF
          refine RN.blk (ops := [(34, .iconst 0)]) (pc' := 35) (lv' := [(0, .inr (.inr u0)), (1, .inl u1), (2, .inl u2), (4, .inl v4)]) (st' := [.inl 0]) (h' := h8) (cs := []) (by decide +kernel) rfl trivial ?_
          exact RN.sub (Jj3 _ _ hF) (sub_cons rfl (sub_cons rfl (sub_cons rfl (sub_cons rfl sub_nil))))
        · intro j7 Jj7 hF
          rcases it_of hF with ⟨hb, hF⟩ | ⟨hb, hF⟩
          · refine RN.ift (cd := .eq) (off := 16) (tgt := 34) (by decide +kernel) (mif_eq hb) ?_
            exact RN.sub (Jj7 _ hF) (sub_cons rfl (sub_cons rfl (sub_cons rfl (sub_cons rfl sub_nil))))
          · refine RN.iff (cd := .eq) (off := 16) (tgt := 34) (by decide +kernel) (mif_eqn hb) ?_
            refine RN.blk (ops := [(21, .aload_n 0), (22, .iload 4)]) (pc' := 24) (lv' := [(0, .inr (.inr u0)), (1, .inl u1), (2, .inl u2), (3, .inl v3), (4, .inl v4)]) (st' := [.inl v4, .inr (.inr u0)]) (h' := h1) (cs := []) (by decide +kernel) rfl trivial ?_
            obtain ⟨hc, hF⟩ := gd_of hF
            obtain ⟨x10, h9, hG, hF⟩ := bd_of hF
            refine RN.cv (i := 450) (k := 267) (q2 := iX12_areNotesSo) (as := [.inr (.inr u0), .inl v4]) (r := []) (v := some (.inl x10)) (h1 := h9) (by decide +kernel) rfl rfl rfl rfl rfl (rcv_ok hc.1) (CX12_areNotesSo (d := d + 6) hG) ?_
            rcases it_of hF with ⟨hb, hF⟩ | ⟨hb, hF⟩
            · refine RN.ift (cd := .eq) (off := 7) (tgt := 34) (by decide +kernel) (mif_eq hb) ?_
              exact RN.sub (Jj7 _ hF) (sub_cons rfl (sub_cons rfl (sub_cons rfl (sub_cons rfl sub_nil))))
            · refine RN.iff (cd := .eq) (off := 7) (tgt := 34) (by decide +kernel) (mif_eqn hb) ?_
              refine RN.blk (ops := [(30, .iconst 1)]) (pc' := 31) (lv' := [(0, .inr (.inr u0)), (1, .inl u1), (2, .inl u2), (3, .inl v3), (4, .inl v4)]) (st' := [.inl 1]) (h' := h9) (cs := []) (by decide +kernel) rfl trivial ?_
              refine RN.goto (off := 4) (tgt := 35) (by decide +kernel) ?_
              exact RN.sub (Jj3 _ _ hF) (sub_cons rfl (sub_cons rfl (sub_cons rfl (sub_cons rfl sub_nil))))
noncomputable def FX12_areAllSo (t : Int) (a1 : Int) (a2 : Int) (h : MH) : Option (Int × MH) :=
  FX12_areAllSo_L5 t a1 a2 (fun w1 h2 =>
   gd [GT w1] (some (w1, h2))) FU 1 0 h
theorem CX12_areAllSo {d : Nat} {t : Int} {a1 : Int} {a2 : Int} {h : MH} {r : Int × MH} (hF : FX12_areAllSo t a1 a2 h = some r) : RN xs L iX12_areAllSo (d + 7) 0 (lvE 0 [.inr (.inr t), .inl a1, .inl a2]) [] h (RIo r) := by
  unfold FX12_areAllSo at hF
  refine RN.blk (ops := [(0, .iconst 1), (1, .istore_n 3), (2, .iconst 0), (3, .istore 4)]) (pc' := 5) (lv' := [(4, .inl 0), (3, .inl 1), (0, .inr (.inr t)), (1, .inl a1), (2, .inl a2)]) (st' := []) (h' := h) (cs := []) (by decide +kernel) rfl trivial ?_
  refine RN.sub (CX12_areAllSo_L5 ?_ _ _ _ _ hF) (sub_cons rfl (sub_cons rfl (sub_cons rfl (sub_cons rfl (sub_cons rfl sub_nil)))))
  · intro w1 h2 hF
    refine RN.blk (ops := [(90, .iload_n 3)]) (pc' := 91) (lv' := [(3, .inl w1)]) (st' := [.inl w1]) (h' := h2) (cs := []) (by decide +kernel) rfl trivial ?_
    obtain ⟨hc, hF⟩ := gd_of hF
    exact RN.zR (by decide +kernel) rfl hc.1 hF
noncomputable def FX12_fillsFits_L11 (u0 : Int) (u1 : Int) (u2 : Int) (K0 : MH → Option (MH)) : Nat → Int → MH → Option (MH)
  | 0, _, _ => none
  | f + 1, v3, h =>
    gd [GK h u0 12] (
     (if (m_rd h u0 2) < v3 then
      K0 h
     else
      gd [GK h u0 12] (
       gd [GK h u0 12] (bv (FX12_begins u0 (m_wr h u0 21 (m_w32 (v3 - 1)))) (fun h1 =>
        gd [GK h1 u0 12] (
         gd [GK h1 u0 12] (bd (FX12_areAllSo u0 v3 u1 h1) (fun x3 h2 =>
          gd [GB h2 (m_rd h1 u0 34) v3] (
           FX12_fillsFits_L11 u0 u1 u2 K0 f (m_w32 (v3 + 1)) (m_wr h2 (m_rd h1 u0 34) v3 (m_bst h2 (m_rd h1 u0 34) x3)))))))))))
theorem CX12_fillsFits_L11 {d : Nat} {u0 : Int} {u1 : Int} {u2 : Int} {K0 : MH → Option (MH)} {r : MH} (hK0 : ∀ (h : MH), K0 h = some r → RN xs L iX12_fillsFits (d + 8) 48 [(0, .inr (.inr u0)), (2, .inl u2)] [] h (RVo r)) : ∀ (f : Nat) (v3 : Int) (h : MH), FX12_fillsFits_L11 u0 u1 u2 K0 f v3 h = some r → RN xs L iX12_fillsFits (d + 8) 11 [(0, .inr (.inr u0)), (1, .inl u1), (2, .inl u2), (3, .inl v3)] [] h (RVo r) := by
  intro f
  induction f with
  | zero =>
    intro v3 h hF
    cases hF
  | succ f ih =>
    intro v3 h hF
    unfold FX12_fillsFits_L11 at hF
    obtain ⟨hc, hF⟩ := gd_of hF
    refine RN.blk (ops := [(11, .iload_n 3), (12, .aload_n 0), (13, .getfield 268)]) (pc' := 16) (lv' := [(0, .inr (.inr u0)), (1, .inl u1), (2, .inl u2), (3, .inl v3)]) (st' := [.inl (m_rd h u0 2), .inl v3]) (h' := h) (cs := [GK h u0 12]) (by decide +kernel) rfl hc ?_
    rcases it_of hF with ⟨hb, hF⟩ | ⟨hb, hF⟩
    · refine RN.ict (cd := .gt) (off := 32) (tgt := 48) (by decide +kernel) (mif_gt hb) ?_
      exact RN.sub (hK0 _ hF) (sub_cons rfl (sub_cons rfl sub_nil))
    · refine RN.icf (cd := .gt) (off := 32) (tgt := 48) (by decide +kernel) (mif_gtn hb) ?_
      obtain ⟨hc, hF⟩ := gd_of hF
      refine RN.blk (ops := [(19, .aload_n 0), (20, .iload_n 3), (21, .iconst 1), (22, .isub), (23, .putfield 42), (26, .aload_n 0)]) (pc' := 27) (lv' := [(0, .inr (.inr u0)), (1, .inl u1), (2, .inl u2), (3, .inl v3)]) (st' := [.inr (.inr u0)]) (h' := (m_wr h u0 21 (m_w32 (v3 - 1)))) (cs := [GK h u0 12]) (by decide +kernel) rfl hc ?_
      obtain ⟨hc, hF⟩ := gd_of hF
      obtain ⟨h1, hG, hF⟩ := bv_of hF
      refine RN.cv (i := 274) (k := 211) (q2 := iX12_begins) (as := [.inr (.inr u0)]) (r := []) (v := none) (h1 := h1) (by decide +kernel) rfl rfl rfl rfl rfl (rcv_ok hc.1) (CX12_begins (d := d + 7) hG) ?_
      obtain ⟨hc, hF⟩ := gd_of hF
      refine RN.blk (ops := [(30, .aload_n 0), (31, .getfield 67), (34, .iload_n 3), (35, .aload_n 0), (36, .iload_n 3), (37, .iload_n 1)]) (pc' := 38) (lv' := [(0, .inr (.inr u0)), (1, .inl u1), (2, .inl u2), (3, .inl v3)]) (st' := [.inl u1, .inl v3, .inr (.inr u0), .inl v3, .inr (.inr (m_rd h1 u0 34))]) (h' := h1) (cs := [GK h1 u0 12]) (by decide +kernel) rfl hc ?_
      obtain ⟨hc, hF⟩ := gd_of hF
      obtain ⟨x3, h2, hG, hF⟩ := bd_of hF
      refine RN.cv (i := 453) (k := 268) (q2 := iX12_areAllSo) (as := [.inr (.inr u0), .inl v3, .inl u1]) (r := [.inl v3, .inr (.inr (m_rd h1 u0 34))]) (v := some (.inl x3)) (h1 := h2) (by decide +kernel) rfl rfl rfl rfl rfl (rcv_ok hc.1) (CX12_areAllSo (d := d) hG) ?_
      obtain ⟨hc, hF⟩ := gd_of hF
      refine RN.blk (ops := [(41, .bastore), (42, .iinc 3 1)]) (pc' := 45) (lv' := [(3, .inl (m_w32 (v3 + 1))), (0, .inr (.inr u0)), (1, .inl u1), (2, .inl u2)]) (st' := []) (h' := (m_wr h2 (m_rd h1 u0 34) v3 (m_bst h2 (m_rd h1 u0 34) x3))) (cs := [GB h2 (m_rd h1 u0 34) v3]) (by decide +kernel) rfl hc ?_
      refine RN.goto (off := -34) (tgt := 11) (by decide +kernel) ?_
      exact RN.sub (ih _ _ hF) (sub_cons rfl (sub_cons rfl (sub_cons rfl (sub_cons rfl sub_nil))))
noncomputable def FX12_fillsFits (t : Int) (a1 : Int) (h : MH) : Option (MH) :=
  gd [GK h t 12] (
   gd [GK h t 12] (bv (FX12_keeps t h) (fun h1 =>
    FX12_fillsFits_L11 t a1 (m_rd h t 21) (fun h2 =>
     gd [GK h2 t 12] (
      gd [GK h2 t 12] (bv (FX12_laysBack t (m_wr h2 t 21 (m_rd h t 21))) (fun h3 =>
       some h3)))) FU 0 h1)))
theorem CX12_fillsFits {d : Nat} {t : Int} {a1 : Int} {h : MH} {r : MH} (hF : FX12_fillsFits t a1 h = some r) : RN xs L iX12_fillsFits (d + 8) 0 (lvE 0 [.inr (.inr t), .inl a1]) [] h (RVo r) := by
  unfold FX12_fillsFits at hF
  obtain ⟨hc, hF⟩ := gd_of hF
  refine RN.blk (ops := [(0, .aload_n 0), (1, .getfield 42), (4, .istore_n 2), (5, .aload_n 0)]) (pc' := 6) (lv' := [(2, .inl (m_rd h t 21)), (0, .inr (.inr t)), (1, .inl a1)]) (st' := [.inr (.inr t)]) (h' := h) (cs := [GK h t 12]) (by decide +kernel) rfl hc ?_
  obtain ⟨hc, hF⟩ := gd_of hF
  obtain ⟨h1, hG, hF⟩ := bv_of hF
  refine RN.cv (i := 422) (k := 253) (q2 := iX12_keeps) (as := [.inr (.inr t)]) (r := []) (v := none) (h1 := h1) (by decide +kernel) rfl rfl rfl rfl rfl (rcv_ok hc.1) (CX12_keeps (d := d + 7) hG) ?_
  refine RN.blk (ops := [(9, .iconst 0), (10, .istore_n 3)]) (pc' := 11) (lv' := [(3, .inl 0), (2, .inl (m_rd h t 21)), (0, .inr (.inr t)), (1, .inl a1)]) (st' := []) (h' := h1) (cs := []) (by decide +kernel) rfl trivial ?_
  refine RN.sub (CX12_fillsFits_L11 ?_ _ _ _ hF) (sub_cons rfl (sub_cons rfl (sub_cons rfl (sub_cons rfl sub_nil))))
  · intro h2 hF
    obtain ⟨hc, hF⟩ := gd_of hF
    refine RN.blk (ops := [(48, .aload_n 0), (49, .iload_n 2), (50, .putfield 42), (53, .aload_n 0)]) (pc' := 54) (lv' := [(0, .inr (.inr t)), (2, .inl (m_rd h t 21))]) (st' := [.inr (.inr t)]) (h' := (m_wr h2 t 21 (m_rd h t 21))) (cs := [GK h2 t 12]) (by decide +kernel) rfl hc ?_
    obtain ⟨hc, hF⟩ := gd_of hF
    obtain ⟨h3, hG, hF⟩ := bv_of hF
    refine RN.cv (i := 414) (k := 254) (q2 := iX12_laysBack) (as := [.inr (.inr t)]) (r := []) (v := none) (h1 := h3) (by decide +kernel) rfl rfl rfl rfl rfl (rcv_ok hc.1) (CX12_laysBack (d := d + 7) hG) ?_
    exact RN.vR (by decide +kernel) rfl hF
noncomputable def FX12_ruled_L36 (u0 : Int) (u1 : Int) (K0 : Int → Int → MH → Option (Int × MH)) : Nat → Int → Int → Int → MH → Option (Int × MH)
  | 0, _, _, _, _ => none
  | f + 1, v2, v3, v4, h =>
    (if v4 < 0 then
     K0 v2 v3 h
    else
     gd [GK h u0 12, GB h (m_rd h u0 34) v4] (
      (if (m_rd h (m_rd h u0 34) v4) = 0 then
       FX12_ruled_L36 u0 u1 K0 f v2 v3 (m_w32 (v4 + (-1))) h
      else
       FX12_ruled_L36 u0 u1 K0 f (m_w32 (v2 + 1)) (m_w32 (v4 - 1)) (m_w32 (v4 + (-1))) h)))
theorem CX12_ruled_L36 {d : Nat} {u0 : Int} {u1 : Int} {K0 : Int → Int → MH → Option (Int × MH)} {r : Int × MH} (hK0 : ∀ (w2 : Int) (w3 : Int) (h : MH), K0 w2 w3 h = some r → RN xs L iX12_ruled (d + 9) 68 [(1, .inl u1), (2, .inl w2), (3, .inl w3)] [] h (RIo r)) : ∀ (f : Nat) (v2 : Int) (v3 : Int) (v4 : Int) (h : MH), FX12_ruled_L36 u0 u1 K0 f v2 v3 v4 h = some r → RN xs L iX12_ruled (d + 9) 36 [(0, .inr (.inr u0)), (1, .inl u1), (2, .inl v2), (3, .inl v3), (4, .inl v4)] [] h (RIo r) := by
  intro f
  induction f with
  | zero =>
    intro v2 v3 v4 h hF
    cases hF
  | succ f ih =>
    intro v2 v3 v4 h hF
    unfold FX12_ruled_L36 at hF
    refine RN.blk (ops := [(36, .iload 4)]) (pc' := 38) (lv' := [(0, .inr (.inr u0)), (1, .inl u1), (2, .inl v2), (3, .inl v3), (4, .inl v4)]) (st' := [.inl v4]) (h' := h) (cs := []) (by decide +kernel) rfl trivial ?_
    rcases it_of hF with ⟨hb, hF⟩ | ⟨hb, hF⟩
    · refine RN.ift (cd := .lt) (off := 30) (tgt := 68) (by decide +kernel) (mif_lt hb) ?_
      exact RN.sub (hK0 _ _ _ hF) (sub_cons rfl (sub_cons rfl (sub_cons rfl sub_nil)))
    · refine RN.iff (cd := .lt) (off := 30) (tgt := 68) (by decide +kernel) (mif_ltn hb) ?_
      obtain ⟨hc, hF⟩ := gd_of hF
      refine RN.blk (ops := [(41, .aload_n 0), (42, .getfield 67), (45, .iload 4), (47, .baload)]) (pc' := 48) (lv' := [(0, .inr (.inr u0)), (1, .inl u1), (2, .inl v2), (3, .inl v3), (4, .inl v4)]) (st' := [.inl (m_rd h (m_rd h u0 34) v4)]) (h' := h) (cs := [GK h u0 12, GB h (m_rd h u0 34) v4]) (by decide +kernel) rfl hc ?_
      rcases it_of hF with ⟨hb, hF⟩ | ⟨hb, hF⟩
      · refine RN.iff (cd := .ne) (off := 6) (tgt := 54) (by decide +kernel) (mif_nen hb) ?_
        refine RN.goto (off := 11) (tgt := 62) (by decide +kernel) ?_
        refine RN.blk (ops := [(62, .iinc 4 (-1))]) (pc' := 65) (lv' := [(4, .inl (m_w32 (v4 + (-1)))), (0, .inr (.inr u0)), (1, .inl u1), (2, .inl v2), (3, .inl v3)]) (st' := []) (h' := h) (cs := []) (by decide +kernel) rfl trivial ?_
        refine RN.goto (off := -29) (tgt := 36) (by decide +kernel) ?_
        exact RN.sub (ih _ _ _ _ hF) (sub_cons rfl (sub_cons rfl (sub_cons rfl (sub_cons rfl (sub_cons rfl sub_nil)))))
      · refine RN.ift (cd := .ne) (off := 6) (tgt := 54) (by decide +kernel) (mif_ne hb) ?_
        refine RN.blk (ops := [(54, .iload 4), (56, .iconst 1), (57, .isub), (58, .istore_n 3), (59, .iinc 2 1)]) (pc' := 62) (lv' := [(2, .inl (m_w32 (v2 + 1))), (3, .inl (m_w32 (v4 - 1))), (0, .inr (.inr u0)), (1, .inl u1), (4, .inl v4)]) (st' := []) (h' := h) (cs := []) (by decide +kernel) rfl trivial ?_
        refine RN.blk (ops := [(62, .iinc 4 (-1))]) (pc' := 65) (lv' := [(4, .inl (m_w32 (v4 + (-1)))), (2, .inl (m_w32 (v2 + 1))), (3, .inl (m_w32 (v4 - 1))), (0, .inr (.inr u0)), (1, .inl u1)]) (st' := []) (h' := h) (cs := []) (by decide +kernel) rfl trivial ?_
        refine RN.goto (off := -29) (tgt := 36) (by decide +kernel) ?_
        exact RN.sub (ih _ _ _ _ hF) (sub_cons rfl (sub_cons rfl (sub_cons rfl (sub_cons rfl (sub_cons rfl sub_nil)))))
noncomputable def FX12_ruled (t : Int) (a1 : Int) (h : MH) : Option (Int × MH) :=
  gd [GK h t 12] (bd (FX12_isFrame t h) (fun x2 h1 =>
   (if x2 = 0 then
    some ((-3), h1)
   else
    (bd (FX12_in a1 0 1 h1) (fun x4 h3 =>
     (if x4 = 0 then
      some ((-3), h3)
     else
      gd [GK h3 t 12] (bv (FX12_fillsFits t 0 h3) (fun h5 =>
       gd [GK h5 t 12] (
        FX12_ruled_L36 t a1 (fun w6 w7 h8 =>
         (if a1 = 0 then
          some (w6, h8)
         else
          some (w7, h8))) FU 0 (-2) (m_rd h5 t 2) h5)))))))))
theorem CX12_ruled {d : Nat} {t : Int} {a1 : Int} {h : MH} {r : Int × MH} (hF : FX12_ruled t a1 h = some r) : RN xs L iX12_ruled (d + 9) 0 (lvE 0 [.inr (.inr t), .inl a1]) [] h (RIo r) := by
  unfold FX12_ruled at hF
  refine RN.blk (ops := [(0, .aload_n 0)]) (pc' := 1) (lv' := [(0, .inr (.inr t)), (1, .inl a1)]) (st' := [.inr (.inr t)]) (h' := h) (cs := []) (by decide +kernel) rfl trivial ?_
  obtain ⟨hc, hF⟩ := gd_of hF
  obtain ⟨x2, h1, hG, hF⟩ := bd_of hF
  refine RN.cv (i := 295) (k := 202) (q2 := iX12_isFrame) (as := [.inr (.inr t)]) (r := []) (v := some (.inl x2)) (h1 := h1) (by decide +kernel) rfl rfl rfl rfl rfl (rcv_ok hc.1) (CX12_isFrame (d := d + 8) hG) ?_
  rcases it_of hF with ⟨hb, hF⟩ | ⟨hb, hF⟩
  · refine RN.ift (cd := .eq) (off := 13) (tgt := 17) (by decide +kernel) (mif_eq hb) ?_
    refine RN.blk (ops := [(17, .bipush (-3))]) (pc' := 19) (lv' := [(0, .inr (.inr t)), (1, .inl a1)]) (st' := [.inl (-3)]) (h' := h1) (cs := []) (by decide +kernel) rfl trivial ?_
    exact RN.iR (by decide +kernel) rfl hF
  · refine RN.iff (cd := .eq) (off := 13) (tgt := 17) (by decide +kernel) (mif_eqn hb) ?_
    refine RN.blk (ops := [(7, .iload_n 1), (8, .i2l), (9, .lconst 0), (10, .lconst 1)]) (pc' := 11) (lv' := [(0, .inr (.inr t)), (1, .inl a1)]) (st' := [.inr (.inl 1), .inr (.inl 0), .inr (.inl a1)]) (h' := h1) (cs := []) (by decide +kernel) rfl trivial ?_
    obtain ⟨x4, h3, hG, hF⟩ := bd_of hF
    refine RN.cst (i := 127) (k := 156) (q2 := iX12_in) (as := [.inr (.inl a1), .inr (.inl 0), .inr (.inl 1)]) (r := []) (v := some (.inl x4)) (h1 := h3) (by decide +kernel) rfl rfl rfl rfl rfl (CX12_in (d := d + 8) hG) ?_
    rcases it_of hF with ⟨hb, hF⟩ | ⟨hb, hF⟩
    · refine RN.iff (cd := .ne) (off := 6) (tgt := 20) (by decide +kernel) (mif_nen hb) ?_
      refine RN.blk (ops := [(17, .bipush (-3))]) (pc' := 19) (lv' := [(0, .inr (.inr t)), (1, .inl a1)]) (st' := [.inl (-3)]) (h' := h3) (cs := []) (by decide +kernel) rfl trivial ?_
      exact RN.iR (by decide +kernel) rfl hF
    · refine RN.ift (cd := .ne) (off := 6) (tgt := 20) (by decide +kernel) (mif_ne hb) ?_
      refine RN.blk (ops := [(20, .aload_n 0), (21, .iconst 0)]) (pc' := 22) (lv' := [(0, .inr (.inr t)), (1, .inl a1)]) (st' := [.inl 0, .inr (.inr t)]) (h' := h3) (cs := []) (by decide +kernel) rfl trivial ?_
      obtain ⟨hc, hF⟩ := gd_of hF
      obtain ⟨h5, hG, hF⟩ := bv_of hF
      refine RN.cv (i := 456) (k := 269) (q2 := iX12_fillsFits) (as := [.inr (.inr t), .inl 0]) (r := []) (v := none) (h1 := h5) (by decide +kernel) rfl rfl rfl rfl rfl (rcv_ok hc.1) (CX12_fillsFits (d := d) hG) ?_
      obtain ⟨hc, hF⟩ := gd_of hF
      refine RN.blk (ops := [(25, .iconst 0), (26, .istore_n 2), (27, .bipush (-2)), (29, .istore_n 3), (30, .aload_n 0), (31, .getfield 268), (34, .istore 4)]) (pc' := 36) (lv' := [(4, .inl (m_rd h5 t 2)), (3, .inl (-2)), (2, .inl 0), (0, .inr (.inr t)), (1, .inl a1)]) (st' := []) (h' := h5) (cs := [GK h5 t 12]) (by decide +kernel) rfl hc ?_
      refine RN.sub (CX12_ruled_L36 ?_ _ _ _ _ _ hF) (sub_cons rfl (sub_cons rfl (sub_cons rfl (sub_cons rfl (sub_cons rfl sub_nil)))))
      · intro w6 w7 h8 hF
        refine RN.blk (ops := [(68, .iload_n 1)]) (pc' := 69) (lv' := [(1, .inl a1), (2, .inl w6), (3, .inl w7)]) (st' := [.inl a1]) (h' := h8) (cs := []) (by decide +kernel) rfl trivial ?_
        rcases it_of hF with ⟨hb, hF⟩ | ⟨hb, hF⟩
        · refine RN.iff (cd := .ne) (off := 7) (tgt := 76) (by decide +kernel) (mif_nen hb) ?_
          refine RN.blk (ops := [(72, .iload_n 2)]) (pc' := 73) (lv' := [(1, .inl a1), (2, .inl w6), (3, .inl w7)]) (st' := [.inl w6]) (h' := h8) (cs := []) (by decide +kernel) rfl trivial ?_
          refine RN.goto (off := 4) (tgt := 77) (by decide +kernel) ?_
          exact RN.iR (by decide +kernel) rfl hF
        · refine RN.ift (cd := .ne) (off := 7) (tgt := 76) (by decide +kernel) (mif_ne hb) ?_
          refine RN.blk (ops := [(76, .iload_n 3)]) (pc' := 77) (lv' := [(1, .inl a1), (2, .inl w6), (3, .inl w7)]) (st' := [.inl w7]) (h' := h8) (cs := []) (by decide +kernel) rfl trivial ?_
          exact RN.iR (by decide +kernel) rfl hF
noncomputable def FX12_alikeAt_L18 (u0 : Int) (u1 : Int) (u2 : Int) (u3 : Int) (K0 : Int → MH → Option (Int × MH)) : Nat → Int → Int → MH → Option (Int × MH)
  | 0, _, _, _ => none
  | f + 1, v4, v5, h =>
    gd [GK h u0 12] (
     (if (m_rd h u0 2) < v5 then
      K0 v4 h
     else
      gd [GK h u0 12, GB h (m_rd h u0 34) u3] (
       (if (m_rd h (m_rd h u0 34) u3) = 0 then
        K0 v4 h
       else
        gd [GK h u0 12, GB h (m_rd h u0 34) v5] (
         (if (m_rd h (m_rd h u0 34) v5) = 0 then
          FX12_alikeAt_L18 u0 u1 u2 u3 K0 f (m_w32 (v4 + 0)) (m_w32 (v5 + 1)) h
         else
          gd [GK h u0 12, GI h (m_rd h u0 35) 1 (m_w32 ((m_w32 (6 * u3)) + u1)), GK h u0 12, GI h (m_rd h u0 35) 1 (m_w32 ((m_w32 (6 * v5)) + u1))] (
           (if (m_rd h (m_rd h u0 35) (m_w32 ((m_w32 (6 * u3)) + u1))) = (m_rd h (m_rd h u0 35) (m_w32 ((m_w32 (6 * v5)) + u1))) then
            FX12_alikeAt_L18 u0 u1 u2 u3 K0 f (m_w32 (v4 + 1)) (m_w32 (v5 + 1)) h
           else
            FX12_alikeAt_L18 u0 u1 u2 u3 K0 f (m_w32 (v4 + 0)) (m_w32 (v5 + 1)) h))))))))
theorem CX12_alikeAt_L18 {d : Nat} {u0 : Int} {u1 : Int} {u2 : Int} {u3 : Int} {K0 : Int → MH → Option (Int × MH)} {r : Int × MH} (hK0 : ∀ (w4 : Int) (h : MH), K0 w4 h = some r → RN xs L iX12_alikeAt (d) 88 [(0, .inr (.inr u0)), (1, .inl u1), (2, .inl u2), (3, .inl u3), (4, .inl w4)] [] h (RIo r)) : ∀ (f : Nat) (v4 : Int) (v5 : Int) (h : MH), FX12_alikeAt_L18 u0 u1 u2 u3 K0 f v4 v5 h = some r → RN xs L iX12_alikeAt (d) 18 [(0, .inr (.inr u0)), (1, .inl u1), (2, .inl u2), (3, .inl u3), (4, .inl v4), (5, .inl v5)] [] h (RIo r) := by
  intro f
  induction f with
  | zero =>
    intro v4 v5 h hF
    cases hF
  | succ f ih =>
    intro v4 v5 h hF
    unfold FX12_alikeAt_L18 at hF
    obtain ⟨hc, hF⟩ := gd_of hF
    refine RN.blk (ops := [(18, .iload 5), (20, .aload_n 0), (21, .getfield 268)]) (pc' := 24) (lv' := [(0, .inr (.inr u0)), (1, .inl u1), (2, .inl u2), (3, .inl u3), (4, .inl v4), (5, .inl v5)]) (st' := [.inl (m_rd h u0 2), .inl v5]) (h' := h) (cs := [GK h u0 12]) (by decide +kernel) rfl hc ?_
    rcases it_of hF with ⟨hb, hF⟩ | ⟨hb, hF⟩
    · refine RN.ict (cd := .gt) (off := 64) (tgt := 88) (by decide +kernel) (mif_gt hb) ?_
      exact RN.sub (hK0 _ _ hF) (sub_cons rfl (sub_cons rfl (sub_cons rfl (sub_cons rfl (sub_cons rfl sub_nil)))))
    · refine RN.icf (cd := .gt) (off := 64) (tgt := 88) (by decide +kernel) (mif_gtn hb) ?_
      obtain ⟨hc, hF⟩ := gd_of hF
      refine RN.blk (ops := [(27, .aload_n 0), (28, .getfield 67), (31, .iload_n 3), (32, .baload)]) (pc' := 33) (lv' := [(0, .inr (.inr u0)), (1, .inl u1), (2, .inl u2), (3, .inl u3), (4, .inl v4), (5, .inl v5)]) (st' := [.inl (m_rd h (m_rd h u0 34) u3)]) (h' := h) (cs := [GK h u0 12, GB h (m_rd h u0 34) u3]) (by decide +kernel) rfl hc ?_
      rcases it_of hF with ⟨hb, hF⟩ | ⟨hb, hF⟩
      · refine RN.ift (cd := .eq) (off := 55) (tgt := 88) (by decide +kernel) (mif_eq hb) ?_
        exact RN.sub (hK0 _ _ hF) (sub_cons rfl (sub_cons rfl (sub_cons rfl (sub_cons rfl (sub_cons rfl sub_nil)))))
      · refine RN.iff (cd := .eq) (off := 55) (tgt := 88) (by decide +kernel) (mif_eqn hb) ?_
        obtain ⟨hc, hF⟩ := gd_of hF
        refine RN.blk (ops := [(36, .iload 4), (38, .aload_n 0), (39, .getfield 67), (42, .iload 5), (44, .baload)]) (pc' := 45) (lv' := [(0, .inr (.inr u0)), (1, .inl u1), (2, .inl u2), (3, .inl u3), (4, .inl v4), (5, .inl v5)]) (st' := [.inl (m_rd h (m_rd h u0 34) v5), .inl v4]) (h' := h) (cs := [GK h u0 12, GB h (m_rd h u0 34) v5]) (by decide +kernel) rfl hc ?_
        rcases it_of hF with ⟨hb, hF⟩ | ⟨hb, hF⟩
        · refine RN.ift (cd := .eq) (off := 33) (tgt := 78) (by decide +kernel) (mif_eq hb) ?_
          refine RN.blk (ops := [(78, .iconst 0)]) (pc' := 79) (lv' := [(0, .inr (.inr u0)), (1, .inl u1), (2, .inl u2), (3, .inl u3), (4, .inl v4), (5, .inl v5)]) (st' := [.inl 0, .inl v4]) (h' := h) (cs := []) (by decide +kernel) rfl trivial ?_
          refine RN.blk (ops := [(79, .iadd), (80, .istore 4), (82, .iinc 5 1)]) (pc' := 85) (lv' := [(5, .inl (m_w32 (v5 + 1))), (4, .inl (m_w32 (v4 + 0))), (0, .inr (.inr u0)), (1, .inl u1), (2, .inl u2), (3, .inl u3)]) (st' := []) (h' := h) (cs := []) (by decide +kernel) rfl trivial ?_
          refine RN.goto (off := -67) (tgt := 18) (by decide +kernel) ?_
          exact RN.sub (ih _ _ _ hF) (sub_cons rfl (sub_cons rfl (sub_cons rfl (sub_cons rfl (sub_cons rfl (sub_cons rfl sub_nil))))))
        · refine RN.iff (cd := .eq) (off := 33) (tgt := 78) (by decide +kernel) (mif_eqn hb) ?_
          obtain ⟨hc, hF⟩ := gd_of hF
          refine RN.blk (ops := [(48, .aload_n 0), (49, .getfield 71), (52, .bipush 6), (54, .iload_n 3), (55, .imul), (56, .iload_n 1), (57, .iadd), (58, .iaload), (59, .aload_n 0), (60, .getfield 71), (63, .bipush 6), (65, .iload 5), (67, .imul), (68, .iload_n 1), (69, .iadd), (70, .iaload)]) (pc' := 71) (lv' := [(0, .inr (.inr u0)), (1, .inl u1), (2, .inl u2), (3, .inl u3), (4, .inl v4), (5, .inl v5)]) (st' := [.inl (m_rd h (m_rd h u0 35) (m_w32 ((m_w32 (6 * v5)) + u1))), .inl (m_rd h (m_rd h u0 35) (m_w32 ((m_w32 (6 * u3)) + u1))), .inl v4]) (h' := h) (cs := [GK h u0 12, GI h (m_rd h u0 35) 1 (m_w32 ((m_w32 (6 * u3)) + u1)), GK h u0 12, GI h (m_rd h u0 35) 1 (m_w32 ((m_w32 (6 * v5)) + u1))]) (by decide +kernel) rfl hc ?_
          rcases it_of hF with ⟨hb, hF⟩ | ⟨hb, hF⟩
          · refine RN.icf (cd := .ne) (off := 7) (tgt := 78) (by decide +kernel) (mif_nen hb) ?_
            refine RN.blk (ops := [(74, .iconst 1)]) (pc' := 75) (lv' := [(0, .inr (.inr u0)), (1, .inl u1), (2, .inl u2), (3, .inl u3), (4, .inl v4), (5, .inl v5)]) (st' := [.inl 1, .inl v4]) (h' := h) (cs := []) (by decide +kernel) rfl trivial ?_
            refine RN.goto (off := 4) (tgt := 79) (by decide +kernel) ?_
            refine RN.blk (ops := [(79, .iadd), (80, .istore 4), (82, .iinc 5 1)]) (pc' := 85) (lv' := [(5, .inl (m_w32 (v5 + 1))), (4, .inl (m_w32 (v4 + 1))), (0, .inr (.inr u0)), (1, .inl u1), (2, .inl u2), (3, .inl u3)]) (st' := []) (h' := h) (cs := []) (by decide +kernel) rfl trivial ?_
            refine RN.goto (off := -67) (tgt := 18) (by decide +kernel) ?_
            exact RN.sub (ih _ _ _ hF) (sub_cons rfl (sub_cons rfl (sub_cons rfl (sub_cons rfl (sub_cons rfl (sub_cons rfl sub_nil))))))
          · refine RN.ict (cd := .ne) (off := 7) (tgt := 78) (by decide +kernel) (mif_ne hb) ?_
            refine RN.blk (ops := [(78, .iconst 0)]) (pc' := 79) (lv' := [(0, .inr (.inr u0)), (1, .inl u1), (2, .inl u2), (3, .inl u3), (4, .inl v4), (5, .inl v5)]) (st' := [.inl 0, .inl v4]) (h' := h) (cs := []) (by decide +kernel) rfl trivial ?_
            refine RN.blk (ops := [(79, .iadd), (80, .istore 4), (82, .iinc 5 1)]) (pc' := 85) (lv' := [(5, .inl (m_w32 (v5 + 1))), (4, .inl (m_w32 (v4 + 0))), (0, .inr (.inr u0)), (1, .inl u1), (2, .inl u2), (3, .inl u3)]) (st' := []) (h' := h) (cs := []) (by decide +kernel) rfl trivial ?_
            refine RN.goto (off := -67) (tgt := 18) (by decide +kernel) ?_
            exact RN.sub (ih _ _ _ hF) (sub_cons rfl (sub_cons rfl (sub_cons rfl (sub_cons rfl (sub_cons rfl (sub_cons rfl sub_nil))))))
noncomputable def FX12_alikeAt_L4 (u0 : Int) (u1 : Int) (K0 : Int → MH → Option (Int × MH)) : Nat → Int → Int → MH → Option (Int × MH)
  | 0, _, _, _ => none
  | f + 1, v2, v3, h =>
    gd [GK h u0 12] (
     (if (m_rd h u0 2) < v3 then
      K0 v2 h
     else
      FX12_alikeAt_L18 u0 u1 v2 v3 (fun w1 h2 =>
       (if v2 < w1 then
        FX12_alikeAt_L4 u0 u1 K0 f w1 (m_w32 (v3 + 1)) h2
       else
        FX12_alikeAt_L4 u0 u1 K0 f v2 (m_w32 (v3 + 1)) h2)) FU 0 0 h))
theorem CX12_alikeAt_L4 {d : Nat} {u0 : Int} {u1 : Int} {K0 : Int → MH → Option (Int × MH)} {r : Int × MH} (hK0 : ∀ (w2 : Int) (h : MH), K0 w2 h = some r → RN xs L iX12_alikeAt (d) 107 [(2, .inl w2)] [] h (RIo r)) : ∀ (f : Nat) (v2 : Int) (v3 : Int) (h : MH), FX12_alikeAt_L4 u0 u1 K0 f v2 v3 h = some r → RN xs L iX12_alikeAt (d) 4 [(0, .inr (.inr u0)), (1, .inl u1), (2, .inl v2), (3, .inl v3)] [] h (RIo r) := by
  intro f
  induction f with
  | zero =>
    intro v2 v3 h hF
    cases hF
  | succ f ih =>
    intro v2 v3 h hF
    unfold FX12_alikeAt_L4 at hF
    obtain ⟨hc, hF⟩ := gd_of hF
    refine RN.blk (ops := [(4, .iload_n 3), (5, .aload_n 0), (6, .getfield 268)]) (pc' := 9) (lv' := [(0, .inr (.inr u0)), (1, .inl u1), (2, .inl v2), (3, .inl v3)]) (st' := [.inl (m_rd h u0 2), .inl v3]) (h' := h) (cs := [GK h u0 12]) (by decide +kernel) rfl hc ?_
    rcases it_of hF with ⟨hb, hF⟩ | ⟨hb, hF⟩
    · refine RN.ict (cd := .gt) (off := 98) (tgt := 107) (by decide +kernel) (mif_gt hb) ?_
      exact RN.sub (hK0 _ _ hF) (sub_cons rfl sub_nil)
    · refine RN.icf (cd := .gt) (off := 98) (tgt := 107) (by decide +kernel) (mif_gtn hb) ?_
      refine RN.blk (ops := [(12, .iconst 0), (13, .istore 4), (15, .iconst 0), (16, .istore 5)]) (pc' := 18) (lv' := [(5, .inl 0), (4, .inl 0), (0, .inr (.inr u0)), (1, .inl u1), (2, .inl v2), (3, .inl v3)]) (st' := []) (h' := h) (cs := []) (by decide +kernel) rfl trivial ?_
      refine RN.sub (CX12_alikeAt_L18 ?_ _ _ _ _ hF) (sub_cons rfl (sub_cons rfl (sub_cons rfl (sub_cons rfl (sub_cons rfl (sub_cons rfl sub_nil))))))
      · intro w1 h2 hF
        refine RN.blk (ops := [(88, .iload 4), (90, .iload_n 2)]) (pc' := 91) (lv' := [(0, .inr (.inr u0)), (1, .inl u1), (2, .inl v2), (3, .inl v3), (4, .inl w1)]) (st' := [.inl v2, .inl w1]) (h' := h2) (cs := []) (by decide +kernel) rfl trivial ?_
        rcases it_of hF with ⟨hb, hF⟩ | ⟨hb, hF⟩
        · refine RN.icf (cd := .le) (off := 8) (tgt := 99) (by decide +kernel) (mif_len hb) ?_
          refine RN.blk (ops := [(94, .iload 4)]) (pc' := 96) (lv' := [(0, .inr (.inr u0)), (1, .inl u1), (2, .inl v2), (3, .inl v3), (4, .inl w1)]) (st' := [.inl w1]) (h' := h2) (cs := []) (by decide +kernel) rfl trivial ?_
          refine RN.goto (off := 4) (tgt := 100) (by decide +kernel) ?_
          refine RN.blk (ops := [(100, .istore_n 2), (101, .iinc 3 1)]) (pc' := 104) (lv' := [(3, .inl (m_w32 (v3 + 1))), (2, .inl w1), (0, .inr (.inr u0)), (1, .inl u1), (4, .inl w1)]) (st' := []) (h' := h2) (cs := []) (by decide +kernel) rfl trivial ?_
          refine RN.goto (off := -100) (tgt := 4) (by decide +kernel) ?_
          exact RN.sub (ih _ _ _ hF) (sub_cons rfl (sub_cons rfl (sub_cons rfl (sub_cons rfl sub_nil))))
        · refine RN.ict (cd := .le) (off := 8) (tgt := 99) (by decide +kernel) (mif_le hb) ?_
          refine RN.blk (ops := [(99, .iload_n 2)]) (pc' := 100) (lv' := [(0, .inr (.inr u0)), (1, .inl u1), (2, .inl v2), (3, .inl v3), (4, .inl w1)]) (st' := [.inl v2]) (h' := h2) (cs := []) (by decide +kernel) rfl trivial ?_
          refine RN.blk (ops := [(100, .istore_n 2), (101, .iinc 3 1)]) (pc' := 104) (lv' := [(3, .inl (m_w32 (v3 + 1))), (2, .inl v2), (0, .inr (.inr u0)), (1, .inl u1), (4, .inl w1)]) (st' := []) (h' := h2) (cs := []) (by decide +kernel) rfl trivial ?_
          refine RN.goto (off := -100) (tgt := 4) (by decide +kernel) ?_
          exact RN.sub (ih _ _ _ hF) (sub_cons rfl (sub_cons rfl (sub_cons rfl (sub_cons rfl sub_nil))))
noncomputable def FX12_alikeAt (t : Int) (a1 : Int) (h : MH) : Option (Int × MH) :=
  FX12_alikeAt_L4 t a1 (fun w1 h2 =>
   some (w1, h2)) FU 0 0 h
theorem CX12_alikeAt {d : Nat} {t : Int} {a1 : Int} {h : MH} {r : Int × MH} (hF : FX12_alikeAt t a1 h = some r) : RN xs L iX12_alikeAt (d) 0 (lvE 0 [.inr (.inr t), .inl a1]) [] h (RIo r) := by
  unfold FX12_alikeAt at hF
  refine RN.blk (ops := [(0, .iconst 0), (1, .istore_n 2), (2, .iconst 0), (3, .istore_n 3)]) (pc' := 4) (lv' := [(3, .inl 0), (2, .inl 0), (0, .inr (.inr t)), (1, .inl a1)]) (st' := []) (h' := h) (cs := []) (by decide +kernel) rfl trivial ?_
  refine RN.sub (CX12_alikeAt_L4 ?_ _ _ _ _ hF) (sub_cons rfl (sub_cons rfl (sub_cons rfl (sub_cons rfl sub_nil))))
  · intro w1 h2 hF
    refine RN.blk (ops := [(107, .iload_n 2)]) (pc' := 108) (lv' := [(2, .inl w1)]) (st' := [.inl w1]) (h' := h2) (cs := []) (by decide +kernel) rfl trivial ?_
    exact RN.iR (by decide +kernel) rfl hF
noncomputable def FX12_look_L46 (u0 : Int) (u2 : Int) (K0 : Int → Int → MH → Option (Int × MH)) : Nat → Int → Int → Int → MH → Option (Int × MH)
  | 0, _, _, _, _ => none
  | f + 1, v3, v4, v5, h =>
    gd [GK h u0 12, GI h (m_rd h u0 20) 1 3] (
     (if v5 < (m_rd h (m_rd h u0 20) 3) then
      gd [GK h u0 12] (bd (FX12_alikeAt u0 v5 h) (fun x2 h1 =>
       (if x2 = 0 then
        FX12_look_L46 u0 u2 K0 f v3 v4 (m_w32 (v5 + 1)) h1
       else
        (if v3 < 0 then
         FX12_look_L46 u0 u2 K0 f v5 x2 (m_w32 (v5 + 1)) h1
        else
         (if x2 < v4 then
          FX12_look_L46 u0 u2 K0 f v5 x2 (m_w32 (v5 + 1)) h1
         else
          FX12_look_L46 u0 u2 K0 f v3 v4 (m_w32 (v5 + 1)) h1)))))
     else
      K0 v3 v4 h))
theorem CX12_look_L46 {d : Nat} {u0 : Int} {u2 : Int} {K0 : Int → Int → MH → Option (Int × MH)} {r : Int × MH} (hK0 : ∀ (w3 : Int) (w4 : Int) (h : MH), K0 w3 w4 h = some r → RN xs L iX12_look (d + 9) 97 [(2, .inl u2), (3, .inl w3), (4, .inl w4)] [] h (RIo r)) : ∀ (f : Nat) (v3 : Int) (v4 : Int) (v5 : Int) (h : MH), FX12_look_L46 u0 u2 K0 f v3 v4 v5 h = some r → RN xs L iX12_look (d + 9) 46 [(0, .inr (.inr u0)), (2, .inl u2), (3, .inl v3), (4, .inl v4), (5, .inl v5)] [] h (RIo r) := by
  intro f
  induction f with
  | zero =>
    intro v3 v4 v5 h hF
    cases hF
  | succ f ih =>
    intro v3 v4 v5 h hF
    unfold FX12_look_L46 at hF
    obtain ⟨hc, hF⟩ := gd_of hF
    refine RN.blk (ops := [(46, .iload 5), (48, .aload_n 0), (49, .getfield 39), (52, .iconst 3), (53, .iaload)]) (pc' := 54) (lv' := [(0, .inr (.inr u0)), (2, .inl u2), (3, .inl v3), (4, .inl v4), (5, .inl v5)]) (st' := [.inl (m_rd h (m_rd h u0 20) 3), .inl v5]) (h' := h) (cs := [GK h u0 12, GI h (m_rd h u0 20) 1 3]) (by decide +kernel) rfl hc ?_
    rcases it_of hF with ⟨hb, hF⟩ | ⟨hb, hF⟩
    · refine RN.icf (cd := .ge) (off := 43) (tgt := 97) (by decide +kernel) (mif_gen hb) ?_
      refine RN.blk (ops := [(57, .aload_n 0), (58, .iload 5)]) (pc' := 60) (lv' := [(0, .inr (.inr u0)), (2, .inl u2), (3, .inl v3), (4, .inl v4), (5, .inl v5)]) (st' := [.inl v5, .inr (.inr u0)]) (h' := h) (cs := []) (by decide +kernel) rfl trivial ?_
      obtain ⟨hc, hF⟩ := gd_of hF
      obtain ⟨x2, h1, hG, hF⟩ := bd_of hF
      refine RN.cv (i := 459) (k := 271) (q2 := iX12_alikeAt) (as := [.inr (.inr u0), .inl v5]) (r := []) (v := some (.inl x2)) (h1 := h1) (by decide +kernel) rfl rfl rfl rfl rfl (rcv_ok hc.1) (CX12_alikeAt (d := d + 8) hG) ?_
      refine RN.blk (ops := [(63, .istore 6), (65, .iload 6)]) (pc' := 67) (lv' := [(6, .inl x2), (0, .inr (.inr u0)), (2, .inl u2), (3, .inl v3), (4, .inl v4), (5, .inl v5)]) (st' := [.inl x2]) (h' := h1) (cs := []) (by decide +kernel) rfl trivial ?_
      rcases it_of hF with ⟨hb, hF⟩ | ⟨hb, hF⟩
      · refine RN.ift (cd := .eq) (off := 24) (tgt := 91) (by decide +kernel) (mif_eq hb) ?_
        refine RN.blk (ops := [(91, .iinc 5 1)]) (pc' := 94) (lv' := [(5, .inl (m_w32 (v5 + 1))), (6, .inl x2), (0, .inr (.inr u0)), (2, .inl u2), (3, .inl v3), (4, .inl v4)]) (st' := []) (h' := h1) (cs := []) (by decide +kernel) rfl trivial ?_
        refine RN.goto (off := -48) (tgt := 46) (by decide +kernel) ?_
        exact RN.sub (ih _ _ _ _ hF) (sub_cons rfl (sub_cons rfl (sub_cons rfl (sub_cons rfl (sub_cons rfl sub_nil)))))
      · refine RN.iff (cd := .eq) (off := 24) (tgt := 91) (by decide +kernel) (mif_eqn hb) ?_
        refine RN.blk (ops := [(70, .iload_n 3)]) (pc' := 71) (lv' := [(6, .inl x2), (0, .inr (.inr u0)), (2, .inl u2), (3, .inl v3), (4, .inl v4), (5, .inl v5)]) (st' := [.inl v3]) (h' := h1) (cs := []) (by decide +kernel) rfl trivial ?_
        rcases it_of hF with ⟨hb, hF⟩ | ⟨hb, hF⟩
        · refine RN.ift (cd := .lt) (off := 13) (tgt := 84) (by decide +kernel) (mif_lt hb) ?_
          refine RN.blk (ops := [(84, .iload 5), (86, .istore_n 3), (87, .iload 6), (89, .istore 4)]) (pc' := 91) (lv' := [(4, .inl x2), (3, .inl v5), (6, .inl x2), (0, .inr (.inr u0)), (2, .inl u2), (5, .inl v5)]) (st' := []) (h' := h1) (cs := []) (by decide +kernel) rfl trivial ?_
          refine RN.blk (ops := [(91, .iinc 5 1)]) (pc' := 94) (lv' := [(5, .inl (m_w32 (v5 + 1))), (4, .inl x2), (3, .inl v5), (6, .inl x2), (0, .inr (.inr u0)), (2, .inl u2)]) (st' := []) (h' := h1) (cs := []) (by decide +kernel) rfl trivial ?_
          refine RN.goto (off := -48) (tgt := 46) (by decide +kernel) ?_
          exact RN.sub (ih _ _ _ _ hF) (sub_cons rfl (sub_cons rfl (sub_cons rfl (sub_cons rfl (sub_cons rfl sub_nil)))))
        · refine RN.iff (cd := .lt) (off := 13) (tgt := 84) (by decide +kernel) (mif_ltn hb) ?_
          refine RN.blk (ops := [(74, .iload 6), (76, .iload 4)]) (pc' := 78) (lv' := [(6, .inl x2), (0, .inr (.inr u0)), (2, .inl u2), (3, .inl v3), (4, .inl v4), (5, .inl v5)]) (st' := [.inl v4, .inl x2]) (h' := h1) (cs := []) (by decide +kernel) rfl trivial ?_
          rcases it_of hF with ⟨hb, hF⟩ | ⟨hb, hF⟩
          · refine RN.ict (cd := .lt) (off := 6) (tgt := 84) (by decide +kernel) (mif_lt hb) ?_
            refine RN.blk (ops := [(84, .iload 5), (86, .istore_n 3), (87, .iload 6), (89, .istore 4)]) (pc' := 91) (lv' := [(4, .inl x2), (3, .inl v5), (6, .inl x2), (0, .inr (.inr u0)), (2, .inl u2), (5, .inl v5)]) (st' := []) (h' := h1) (cs := []) (by decide +kernel) rfl trivial ?_
            refine RN.blk (ops := [(91, .iinc 5 1)]) (pc' := 94) (lv' := [(5, .inl (m_w32 (v5 + 1))), (4, .inl x2), (3, .inl v5), (6, .inl x2), (0, .inr (.inr u0)), (2, .inl u2)]) (st' := []) (h' := h1) (cs := []) (by decide +kernel) rfl trivial ?_
            refine RN.goto (off := -48) (tgt := 46) (by decide +kernel) ?_
            exact RN.sub (ih _ _ _ _ hF) (sub_cons rfl (sub_cons rfl (sub_cons rfl (sub_cons rfl (sub_cons rfl sub_nil)))))
          · refine RN.icf (cd := .lt) (off := 6) (tgt := 84) (by decide +kernel) (mif_ltn hb) ?_
            refine RN.goto (off := 10) (tgt := 91) (by decide +kernel) ?_
            refine RN.blk (ops := [(91, .iinc 5 1)]) (pc' := 94) (lv' := [(5, .inl (m_w32 (v5 + 1))), (6, .inl x2), (0, .inr (.inr u0)), (2, .inl u2), (3, .inl v3), (4, .inl v4)]) (st' := []) (h' := h1) (cs := []) (by decide +kernel) rfl trivial ?_
            refine RN.goto (off := -48) (tgt := 46) (by decide +kernel) ?_
            exact RN.sub (ih _ _ _ _ hF) (sub_cons rfl (sub_cons rfl (sub_cons rfl (sub_cons rfl (sub_cons rfl sub_nil)))))
    · refine RN.ict (cd := .ge) (off := 43) (tgt := 97) (by decide +kernel) (mif_ge hb) ?_
      exact RN.sub (hK0 _ _ _ hF) (sub_cons rfl (sub_cons rfl (sub_cons rfl sub_nil)))
noncomputable def FX12_look (t : Int) (a1 : Int) (a2 : Int) (h : MH) : Option (Int × MH) :=
  gd [GK h t 12] (bd (FX12_isFrame t h) (fun x2 h1 =>
   (if x2 = 0 then
    some ((-1), h1)
   else
    (bd (FX12_in a1 0 60 h1) (fun x4 h3 =>
     (if x4 = 0 then
      some ((-1), h3)
     else
      (bd (FX12_in a2 0 1 h3) (fun x6 h5 =>
       (if x6 = 0 then
        some ((-1), h5)
       else
        gd [GK h5 t 12] (bv (FX12_fillsFits t a1 h5) (fun h7 =>
         FX12_look_L46 t a2 (fun w8 w9 h10 =>
          (if a2 = 0 then
           some (w8, h10)
          else
           some (w9, h10))) FU (-2) (-2) 0 h7)))))))))))
theorem CX12_look {d : Nat} {t : Int} {a1 : Int} {a2 : Int} {h : MH} {r : Int × MH} (hF : FX12_look t a1 a2 h = some r) : RN xs L iX12_look (d + 9) 0 (lvE 0 [.inr (.inr t), .inl a1, .inl a2]) [] h (RIo r) := by
  unfold FX12_look at hF
  refine RN.blk (ops := [(0, .aload_n 0)]) (pc' := 1) (lv' := [(0, .inr (.inr t)), (1, .inl a1), (2, .inl a2)]) (st' := [.inr (.inr t)]) (h' := h) (cs := []) (by decide +kernel) rfl trivial ?_
  obtain ⟨hc, hF⟩ := gd_of hF
  obtain ⟨x2, h1, hG, hF⟩ := bd_of hF
  refine RN.cv (i := 295) (k := 202) (q2 := iX12_isFrame) (as := [.inr (.inr t)]) (r := []) (v := some (.inl x2)) (h1 := h1) (by decide +kernel) rfl rfl rfl rfl rfl (rcv_ok hc.1) (CX12_isFrame (d := d + 8) hG) ?_
  rcases it_of hF with ⟨hb, hF⟩ | ⟨hb, hF⟩
  · refine RN.ift (cd := .eq) (off := 25) (tgt := 29) (by decide +kernel) (mif_eq hb) ?_
    refine RN.blk (ops := [(29, .iconst (-1))]) (pc' := 30) (lv' := [(0, .inr (.inr t)), (1, .inl a1), (2, .inl a2)]) (st' := [.inl (-1)]) (h' := h1) (cs := []) (by decide +kernel) rfl trivial ?_
    exact RN.iR (by decide +kernel) rfl hF
  · refine RN.iff (cd := .eq) (off := 25) (tgt := 29) (by decide +kernel) (mif_eqn hb) ?_
    refine RN.blk (ops := [(7, .iload_n 1), (8, .i2l), (9, .lconst 0), (10, .ldc2_w 446)]) (pc' := 13) (lv' := [(0, .inr (.inr t)), (1, .inl a1), (2, .inl a2)]) (st' := [.inr (.inl 60), .inr (.inl 0), .inr (.inl a1)]) (h' := h1) (cs := []) (by decide +kernel) rfl trivial ?_
    obtain ⟨x4, h3, hG, hF⟩ := bd_of hF
    refine RN.cst (i := 127) (k := 156) (q2 := iX12_in) (as := [.inr (.inl a1), .inr (.inl 0), .inr (.inl 60)]) (r := []) (v := some (.inl x4)) (h1 := h3) (by decide +kernel) rfl rfl rfl rfl rfl (CX12_in (d := d + 8) hG) ?_
    rcases it_of hF with ⟨hb, hF⟩ | ⟨hb, hF⟩
    · refine RN.ift (cd := .eq) (off := 13) (tgt := 29) (by decide +kernel) (mif_eq hb) ?_
      refine RN.blk (ops := [(29, .iconst (-1))]) (pc' := 30) (lv' := [(0, .inr (.inr t)), (1, .inl a1), (2, .inl a2)]) (st' := [.inl (-1)]) (h' := h3) (cs := []) (by decide +kernel) rfl trivial ?_
      exact RN.iR (by decide +kernel) rfl hF
    · refine RN.iff (cd := .eq) (off := 13) (tgt := 29) (by decide +kernel) (mif_eqn hb) ?_
      refine RN.blk (ops := [(19, .iload_n 2), (20, .i2l), (21, .lconst 0), (22, .lconst 1)]) (pc' := 23) (lv' := [(0, .inr (.inr t)), (1, .inl a1), (2, .inl a2)]) (st' := [.inr (.inl 1), .inr (.inl 0), .inr (.inl a2)]) (h' := h3) (cs := []) (by decide +kernel) rfl trivial ?_
      obtain ⟨x6, h5, hG, hF⟩ := bd_of hF
      refine RN.cst (i := 127) (k := 156) (q2 := iX12_in) (as := [.inr (.inl a2), .inr (.inl 0), .inr (.inl 1)]) (r := []) (v := some (.inl x6)) (h1 := h5) (by decide +kernel) rfl rfl rfl rfl rfl (CX12_in (d := d + 8) hG) ?_
      rcases it_of hF with ⟨hb, hF⟩ | ⟨hb, hF⟩
      · refine RN.iff (cd := .ne) (off := 5) (tgt := 31) (by decide +kernel) (mif_nen hb) ?_
        refine RN.blk (ops := [(29, .iconst (-1))]) (pc' := 30) (lv' := [(0, .inr (.inr t)), (1, .inl a1), (2, .inl a2)]) (st' := [.inl (-1)]) (h' := h5) (cs := []) (by decide +kernel) rfl trivial ?_
        exact RN.iR (by decide +kernel) rfl hF
      · refine RN.ift (cd := .ne) (off := 5) (tgt := 31) (by decide +kernel) (mif_ne hb) ?_
        refine RN.blk (ops := [(31, .aload_n 0), (32, .iload_n 1)]) (pc' := 33) (lv' := [(0, .inr (.inr t)), (1, .inl a1), (2, .inl a2)]) (st' := [.inl a1, .inr (.inr t)]) (h' := h5) (cs := []) (by decide +kernel) rfl trivial ?_
        obtain ⟨hc, hF⟩ := gd_of hF
        obtain ⟨h7, hG, hF⟩ := bv_of hF
        refine RN.cv (i := 456) (k := 269) (q2 := iX12_fillsFits) (as := [.inr (.inr t), .inl a1]) (r := []) (v := none) (h1 := h7) (by decide +kernel) rfl rfl rfl rfl rfl (rcv_ok hc.1) (CX12_fillsFits (d := d) hG) ?_
        refine RN.blk (ops := [(36, .bipush (-2)), (38, .istore_n 3), (39, .bipush (-2)), (41, .istore 4), (43, .iconst 0), (44, .istore 5)]) (pc' := 46) (lv' := [(5, .inl 0), (4, .inl (-2)), (3, .inl (-2)), (0, .inr (.inr t)), (1, .inl a1), (2, .inl a2)]) (st' := []) (h' := h7) (cs := []) (by decide +kernel) rfl trivial ?_
        refine RN.sub (CX12_look_L46 ?_ _ _ _ _ _ hF) (sub_cons rfl (sub_cons rfl (sub_cons rfl (sub_cons rfl (sub_cons rfl sub_nil)))))
        · intro w8 w9 h10 hF
          refine RN.blk (ops := [(97, .iload_n 2)]) (pc' := 98) (lv' := [(2, .inl a2), (3, .inl w8), (4, .inl w9)]) (st' := [.inl a2]) (h' := h10) (cs := []) (by decide +kernel) rfl trivial ?_
          rcases it_of hF with ⟨hb, hF⟩ | ⟨hb, hF⟩
          · refine RN.iff (cd := .ne) (off := 7) (tgt := 105) (by decide +kernel) (mif_nen hb) ?_
            refine RN.blk (ops := [(101, .iload_n 3)]) (pc' := 102) (lv' := [(2, .inl a2), (3, .inl w8), (4, .inl w9)]) (st' := [.inl w8]) (h' := h10) (cs := []) (by decide +kernel) rfl trivial ?_
            refine RN.goto (off := 5) (tgt := 107) (by decide +kernel) ?_
            exact RN.iR (by decide +kernel) rfl hF
          · refine RN.ift (cd := .ne) (off := 7) (tgt := 105) (by decide +kernel) (mif_ne hb) ?_
            refine RN.blk (ops := [(105, .iload 4)]) (pc' := 107) (lv' := [(2, .inl a2), (3, .inl w8), (4, .inl w9)]) (st' := [.inl w9]) (h' := h10) (cs := []) (by decide +kernel) rfl trivial ?_
            exact RN.iR (by decide +kernel) rfl hF
end Dc
