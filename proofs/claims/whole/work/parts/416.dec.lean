/-! METHODS AS FUNCTIONS, and their certificates (by program): X12_least, X12_keeps, X12_laysBack, X12_sortsAll, X12_triesEntry, X12_one, X12_changes, X12_change, X12_ahead, X12_sorted, X12_tied -/
section Dc
variable {xs : Int → Int} {L : Int}
noncomputable def FX12_least_L22 (u0 : Int) (K0 : MH → Option (Int × MH)) : Nat → Int → MH → Option (Int × MH)
  | 0, _, _ => none
  | f + 1, v1, h =>
    (if v1 < 0 then
     K0 h
    else
     gd [GK h u0 12] (bv (FX12_needsOf u0 v1 h) (fun h1 =>
      FX12_least_L22 u0 K0 f (m_w32 (v1 + (-1))) h1)))
theorem CX12_least_L22 {d : Nat} {u0 : Int} {K0 : MH → Option (Int × MH)} {r : Int × MH} (hK0 : ∀ (h : MH), K0 h = some r → RN xs L iX12_least (d + 5) 37 [(0, .inr (.inr u0))] [] h (RIo r)) : ∀ (f : Nat) (v1 : Int) (h : MH), FX12_least_L22 u0 K0 f v1 h = some r → RN xs L iX12_least (d + 5) 22 [(0, .inr (.inr u0)), (1, .inl v1)] [] h (RIo r) := by
  intro f
  induction f with
  | zero =>
    intro v1 h hF
    cases hF
  | succ f ih =>
    intro v1 h hF
    unfold FX12_least_L22 at hF
    refine RN.blk (ops := [(22, .iload_n 1)]) (pc' := 23) (lv' := [(0, .inr (.inr u0)), (1, .inl v1)]) (st' := [.inl v1]) (h' := h) (cs := []) (by decide +kernel) rfl trivial ?_
    rcases it_of hF with ⟨hb, hF⟩ | ⟨hb, hF⟩
    · refine RN.ift (cd := .lt) (off := 14) (tgt := 37) (by decide +kernel) (mif_lt hb) ?_
      exact RN.sub (hK0 _ hF) (sub_cons rfl sub_nil)
    · refine RN.iff (cd := .lt) (off := 14) (tgt := 37) (by decide +kernel) (mif_ltn hb) ?_
      refine RN.blk (ops := [(26, .aload_n 0), (27, .iload_n 1)]) (pc' := 28) (lv' := [(0, .inr (.inr u0)), (1, .inl v1)]) (st' := [.inl v1, .inr (.inr u0)]) (h' := h) (cs := []) (by decide +kernel) rfl trivial ?_
      obtain ⟨hc, hF⟩ := gd_of hF
      obtain ⟨h1, hG, hF⟩ := bv_of hF
      refine RN.cv (i := 405) (k := 251) (q2 := iX12_needsOf) (as := [.inr (.inr u0), .inl v1]) (r := []) (v := none) (h1 := h1) (by decide +kernel) rfl rfl rfl rfl rfl (rcv_ok hc.1) (CX12_needsOf (d := d + 3) hG) ?_
      refine RN.blk (ops := [(31, .iinc 1 (-1))]) (pc' := 34) (lv' := [(1, .inl (m_w32 (v1 + (-1)))), (0, .inr (.inr u0))]) (st' := []) (h' := h1) (cs := []) (by decide +kernel) rfl trivial ?_
      refine RN.goto (off := -12) (tgt := 22) (by decide +kernel) ?_
      exact RN.sub (ih _ _ hF) (sub_cons rfl (sub_cons rfl sub_nil))
noncomputable def FX12_least (t : Int) (h : MH) : Option (Int × MH) :=
  gd [GK h t 12] (bd (FX12_isFrame t h) (fun x2 h1 =>
   (if x2 = 0 then
    some ((-1), h1)
   else
    gd [GK h1 t 12] (bv (FX12_needsOfCodes t h1) (fun h3 =>
     gd [GK h3 t 12, GI h3 (m_rd h3 t 20) 1 2] (
      FX12_least_L22 t (fun h4 =>
       gd [GK h4 t 12, GI h4 (m_rd h4 t 28) 1 6] (
        some ((m_rd h4 (m_rd h4 t 28) 6), h4))) FU (m_w32 ((m_rd h3 (m_rd h3 t 20) 2) - 1)) h3))))))
theorem CX12_least {d : Nat} {t : Int} {h : MH} {r : Int × MH} (hF : FX12_least t h = some r) : RN xs L iX12_least (d + 5) 0 (lvE 0 [.inr (.inr t)]) [] h (RIo r) := by
  unfold FX12_least at hF
  refine RN.blk (ops := [(0, .aload_n 0)]) (pc' := 1) (lv' := [(0, .inr (.inr t))]) (st' := [.inr (.inr t)]) (h' := h) (cs := []) (by decide +kernel) rfl trivial ?_
  obtain ⟨hc, hF⟩ := gd_of hF
  obtain ⟨x2, h1, hG, hF⟩ := bd_of hF
  refine RN.cv (i := 295) (k := 202) (q2 := iX12_isFrame) (as := [.inr (.inr t)]) (r := []) (v := some (.inl x2)) (h1 := h1) (by decide +kernel) rfl rfl rfl rfl rfl (rcv_ok hc.1) (CX12_isFrame (d := d + 4) hG) ?_
  rcases it_of hF with ⟨hb, hF⟩ | ⟨hb, hF⟩
  · refine RN.iff (cd := .ne) (off := 5) (tgt := 9) (by decide +kernel) (mif_nen hb) ?_
    refine RN.blk (ops := [(7, .iconst (-1))]) (pc' := 8) (lv' := [(0, .inr (.inr t))]) (st' := [.inl (-1)]) (h' := h1) (cs := []) (by decide +kernel) rfl trivial ?_
    exact RN.iR (by decide +kernel) rfl hF
  · refine RN.ift (cd := .ne) (off := 5) (tgt := 9) (by decide +kernel) (mif_ne hb) ?_
    refine RN.blk (ops := [(9, .aload_n 0)]) (pc' := 10) (lv' := [(0, .inr (.inr t))]) (st' := [.inr (.inr t)]) (h' := h1) (cs := []) (by decide +kernel) rfl trivial ?_
    obtain ⟨hc, hF⟩ := gd_of hF
    obtain ⟨h3, hG, hF⟩ := bv_of hF
    refine RN.cv (i := 402) (k := 249) (q2 := iX12_needsOfCodes) (as := [.inr (.inr t)]) (r := []) (v := none) (h1 := h3) (by decide +kernel) rfl rfl rfl rfl rfl (rcv_ok hc.1) (CX12_needsOfCodes (d := d) hG) ?_
    obtain ⟨hc, hF⟩ := gd_of hF
    refine RN.blk (ops := [(13, .aload_n 0), (14, .getfield 39), (17, .iconst 2), (18, .iaload), (19, .iconst 1), (20, .isub), (21, .istore_n 1)]) (pc' := 22) (lv' := [(1, .inl (m_w32 ((m_rd h3 (m_rd h3 t 20) 2) - 1))), (0, .inr (.inr t))]) (st' := []) (h' := h3) (cs := [GK h3 t 12, GI h3 (m_rd h3 t 20) 1 2]) (by decide +kernel) rfl hc ?_
    refine RN.sub (CX12_least_L22 ?_ _ _ _ hF) (sub_cons rfl (sub_cons rfl sub_nil))
    · intro h4 hF
      obtain ⟨hc, hF⟩ := gd_of hF
      refine RN.blk (ops := [(37, .aload_n 0), (38, .getfield 55), (41, .bipush 6), (43, .iaload)]) (pc' := 44) (lv' := [(0, .inr (.inr t))]) (st' := [.inl (m_rd h4 (m_rd h4 t 28) 6)]) (h' := h4) (cs := [GK h4 t 12, GI h4 (m_rd h4 t 28) 1 6]) (by decide +kernel) rfl hc ?_
      exact RN.iR (by decide +kernel) rfl hF
noncomputable def FX12_keeps_L2 (u0 : Int) (K0 : MH → Option (MH)) : Nat → Int → MH → Option (MH)
  | 0, _, _ => none
  | f + 1, v1, h =>
    (if v1 < 72 then
     gd [GK h u0 12, GK h u0 12, GI h (m_rd h u0 20) 1 (m_w32 (10 + v1)), GI h (m_rd h u0 30) 1 v1] (
      FX12_keeps_L2 u0 K0 f (m_w32 (v1 + 1)) (m_wr h (m_rd h u0 30) v1 (m_rd h (m_rd h u0 20) (m_w32 (10 + v1)))))
    else
     K0 h)
theorem CX12_keeps_L2 {d : Nat} {u0 : Int} {K0 : MH → Option (MH)} {r : MH} (hK0 : ∀ (h : MH), K0 h = some r → RN xs L iX12_keeps (d) 29 [] [] h (RVo r)) : ∀ (f : Nat) (v1 : Int) (h : MH), FX12_keeps_L2 u0 K0 f v1 h = some r → RN xs L iX12_keeps (d) 2 [(0, .inr (.inr u0)), (1, .inl v1)] [] h (RVo r) := by
  intro f
  induction f with
  | zero =>
    intro v1 h hF
    cases hF
  | succ f ih =>
    intro v1 h hF
    unfold FX12_keeps_L2 at hF
    refine RN.blk (ops := [(2, .iload_n 1), (3, .bipush 72)]) (pc' := 5) (lv' := [(0, .inr (.inr u0)), (1, .inl v1)]) (st' := [.inl 72, .inl v1]) (h' := h) (cs := []) (by decide +kernel) rfl trivial ?_
    rcases it_of hF with ⟨hb, hF⟩ | ⟨hb, hF⟩
    · refine RN.icf (cd := .ge) (off := 24) (tgt := 29) (by decide +kernel) (mif_gen hb) ?_
      obtain ⟨hc, hF⟩ := gd_of hF
      refine RN.blk (ops := [(8, .aload_n 0), (9, .getfield 61), (12, .iload_n 1), (13, .aload_n 0), (14, .getfield 39), (17, .bipush 10), (19, .iload_n 1), (20, .iadd), (21, .iaload), (22, .iastore), (23, .iinc 1 1)]) (pc' := 26) (lv' := [(1, .inl (m_w32 (v1 + 1))), (0, .inr (.inr u0))]) (st' := []) (h' := (m_wr h (m_rd h u0 30) v1 (m_rd h (m_rd h u0 20) (m_w32 (10 + v1))))) (cs := [GK h u0 12, GK h u0 12, GI h (m_rd h u0 20) 1 (m_w32 (10 + v1)), GI h (m_rd h u0 30) 1 v1]) (by decide +kernel) rfl hc ?_
      refine RN.goto (off := -24) (tgt := 2) (by decide +kernel) ?_
      exact RN.sub (ih _ _ hF) (sub_cons rfl (sub_cons rfl sub_nil))
    · refine RN.ict (cd := .ge) (off := 24) (tgt := 29) (by decide +kernel) (mif_ge hb) ?_
      exact RN.sub (hK0 _ hF) sub_nil
noncomputable def FX12_keeps (t : Int) (h : MH) : Option (MH) :=
  FX12_keeps_L2 t (fun h1 =>
   some h1) FU 0 h
theorem CX12_keeps {d : Nat} {t : Int} {h : MH} {r : MH} (hF : FX12_keeps t h = some r) : RN xs L iX12_keeps (d) 0 (lvE 0 [.inr (.inr t)]) [] h (RVo r) := by
  unfold FX12_keeps at hF
  refine RN.blk (ops := [(0, .iconst 0), (1, .istore_n 1)]) (pc' := 2) (lv' := [(1, .inl 0), (0, .inr (.inr t))]) (st' := []) (h' := h) (cs := []) (by decide +kernel) rfl trivial ?_
  refine RN.sub (CX12_keeps_L2 ?_ _ _ _ hF) (sub_cons rfl (sub_cons rfl sub_nil))
  · intro h1 hF
    exact RN.vR (by decide +kernel) rfl hF
noncomputable def FX12_laysBack_L2 (u0 : Int) (K0 : MH → Option (MH)) : Nat → Int → MH → Option (MH)
  | 0, _, _ => none
  | f + 1, v1, h =>
    (if v1 < 72 then
     gd [GK h u0 12, GK h u0 12, GI h (m_rd h u0 30) 1 v1, GI h (m_rd h u0 20) 1 (m_w32 (10 + v1))] (
      FX12_laysBack_L2 u0 K0 f (m_w32 (v1 + 1)) (m_wr h (m_rd h u0 20) (m_w32 (10 + v1)) (m_rd h (m_rd h u0 30) v1)))
    else
     K0 h)
theorem CX12_laysBack_L2 {d : Nat} {u0 : Int} {K0 : MH → Option (MH)} {r : MH} (hK0 : ∀ (h : MH), K0 h = some r → RN xs L iX12_laysBack (d) 29 [] [] h (RVo r)) : ∀ (f : Nat) (v1 : Int) (h : MH), FX12_laysBack_L2 u0 K0 f v1 h = some r → RN xs L iX12_laysBack (d) 2 [(0, .inr (.inr u0)), (1, .inl v1)] [] h (RVo r) := by
  intro f
  induction f with
  | zero =>
    intro v1 h hF
    cases hF
  | succ f ih =>
    intro v1 h hF
    unfold FX12_laysBack_L2 at hF
    refine RN.blk (ops := [(2, .iload_n 1), (3, .bipush 72)]) (pc' := 5) (lv' := [(0, .inr (.inr u0)), (1, .inl v1)]) (st' := [.inl 72, .inl v1]) (h' := h) (cs := []) (by decide +kernel) rfl trivial ?_
    rcases it_of hF with ⟨hb, hF⟩ | ⟨hb, hF⟩
    · refine RN.icf (cd := .ge) (off := 24) (tgt := 29) (by decide +kernel) (mif_gen hb) ?_
      obtain ⟨hc, hF⟩ := gd_of hF
      refine RN.blk (ops := [(8, .aload_n 0), (9, .getfield 39), (12, .bipush 10), (14, .iload_n 1), (15, .iadd), (16, .aload_n 0), (17, .getfield 61), (20, .iload_n 1), (21, .iaload), (22, .iastore), (23, .iinc 1 1)]) (pc' := 26) (lv' := [(1, .inl (m_w32 (v1 + 1))), (0, .inr (.inr u0))]) (st' := []) (h' := (m_wr h (m_rd h u0 20) (m_w32 (10 + v1)) (m_rd h (m_rd h u0 30) v1))) (cs := [GK h u0 12, GK h u0 12, GI h (m_rd h u0 30) 1 v1, GI h (m_rd h u0 20) 1 (m_w32 (10 + v1))]) (by decide +kernel) rfl hc ?_
      refine RN.goto (off := -24) (tgt := 2) (by decide +kernel) ?_
      exact RN.sub (ih _ _ hF) (sub_cons rfl (sub_cons rfl sub_nil))
    · refine RN.ict (cd := .ge) (off := 24) (tgt := 29) (by decide +kernel) (mif_ge hb) ?_
      exact RN.sub (hK0 _ hF) sub_nil
noncomputable def FX12_laysBack (t : Int) (h : MH) : Option (MH) :=
  FX12_laysBack_L2 t (fun h1 =>
   some h1) FU 0 h
theorem CX12_laysBack {d : Nat} {t : Int} {h : MH} {r : MH} (hF : FX12_laysBack t h = some r) : RN xs L iX12_laysBack (d) 0 (lvE 0 [.inr (.inr t)]) [] h (RVo r) := by
  unfold FX12_laysBack at hF
  refine RN.blk (ops := [(0, .iconst 0), (1, .istore_n 1)]) (pc' := 2) (lv' := [(1, .inl 0), (0, .inr (.inr t))]) (st' := []) (h' := h) (cs := []) (by decide +kernel) rfl trivial ?_
  refine RN.sub (CX12_laysBack_L2 ?_ _ _ _ hF) (sub_cons rfl (sub_cons rfl sub_nil))
  · intro h1 hF
    exact RN.vR (by decide +kernel) rfl hF
noncomputable def FX12_sortsAll_L18 (u0 : Int) (K0 : MH → Option (MH)) : Nat → Int → MH → Option (MH)
  | 0, _, _ => none
  | f + 1, v1, h =>
    gd [GK h u0 12, GI h (m_rd h u0 20) 1 12] (
     (if v1 < (m_rd h (m_rd h u0 20) 12) then
      gd [GK h u0 12, GI h (m_rd h u0 20) 1 (m_w32 (26 + v1))] (
       gd [GK h u0 12] (bv (FX12_sorts u0 (m_rd h (m_rd h u0 20) (m_w32 (26 + v1))) h) (fun h1 =>
        gd [GK h1 u0 12, GK h1 u0 12] (
         (if (m_rd h1 u0 23) < 0 then
          gd [GK h1 u0 12] (
           FX12_sortsAll_L18 u0 K0 f (m_w32 (v1 + 1)) (m_wr h1 u0 32 (m_w32 ((m_rd h1 u0 32) + 0))))
         else
          gd [GK h1 u0 12] (
           FX12_sortsAll_L18 u0 K0 f (m_w32 (v1 + 1)) (m_wr h1 u0 32 (m_w32 ((m_rd h1 u0 32) + 1)))))))))
     else
      K0 h))
theorem CX12_sortsAll_L18 {d : Nat} {u0 : Int} {K0 : MH → Option (MH)} {r : MH} (hK0 : ∀ (h : MH), K0 h = some r → RN xs L iX12_sortsAll (d + 5) 69 [(0, .inr (.inr u0))] [] h (RVo r)) : ∀ (f : Nat) (v1 : Int) (h : MH), FX12_sortsAll_L18 u0 K0 f v1 h = some r → RN xs L iX12_sortsAll (d + 5) 18 [(0, .inr (.inr u0)), (1, .inl v1)] [] h (RVo r) := by
  intro f
  induction f with
  | zero =>
    intro v1 h hF
    cases hF
  | succ f ih =>
    intro v1 h hF
    unfold FX12_sortsAll_L18 at hF
    obtain ⟨hc, hF⟩ := gd_of hF
    refine RN.blk (ops := [(18, .iload_n 1), (19, .aload_n 0), (20, .getfield 39), (23, .bipush 12), (25, .iaload)]) (pc' := 26) (lv' := [(0, .inr (.inr u0)), (1, .inl v1)]) (st' := [.inl (m_rd h (m_rd h u0 20) 12), .inl v1]) (h' := h) (cs := [GK h u0 12, GI h (m_rd h u0 20) 1 12]) (by decide +kernel) rfl hc ?_
    rcases it_of hF with ⟨hb, hF⟩ | ⟨hb, hF⟩
    · refine RN.icf (cd := .ge) (off := 43) (tgt := 69) (by decide +kernel) (mif_gen hb) ?_
      obtain ⟨hc, hF⟩ := gd_of hF
      refine RN.blk (ops := [(29, .aload_n 0), (30, .aload_n 0), (31, .getfield 39), (34, .bipush 26), (36, .iload_n 1), (37, .iadd), (38, .iaload)]) (pc' := 39) (lv' := [(0, .inr (.inr u0)), (1, .inl v1)]) (st' := [.inl (m_rd h (m_rd h u0 20) (m_w32 (26 + v1))), .inr (.inr u0)]) (h' := h) (cs := [GK h u0 12, GI h (m_rd h u0 20) 1 (m_w32 (26 + v1))]) (by decide +kernel) rfl hc ?_
      obtain ⟨hc, hF⟩ := gd_of hF
      obtain ⟨h1, hG, hF⟩ := bv_of hF
      refine RN.cv (i := 347) (k := 220) (q2 := iX12_sorts) (as := [.inr (.inr u0), .inl (m_rd h (m_rd h u0 20) (m_w32 (26 + v1)))]) (r := []) (v := none) (h1 := h1) (by decide +kernel) rfl rfl rfl rfl rfl (rcv_ok hc.1) (CX12_sorts (d := d) hG) ?_
      obtain ⟨hc, hF⟩ := gd_of hF
      refine RN.blk (ops := [(42, .aload_n 0), (43, .dup), (44, .getfield 408), (47, .aload_n 0), (48, .getfield 335)]) (pc' := 51) (lv' := [(0, .inr (.inr u0)), (1, .inl v1)]) (st' := [.inl (m_rd h1 u0 23), .inl (m_rd h1 u0 32), .inr (.inr u0)]) (h' := h1) (cs := [GK h1 u0 12, GK h1 u0 12]) (by decide +kernel) rfl hc ?_
      rcases it_of hF with ⟨hb, hF⟩ | ⟨hb, hF⟩
      · refine RN.ift (cd := .lt) (off := 7) (tgt := 58) (by decide +kernel) (mif_lt hb) ?_
        refine RN.blk (ops := [(58, .iconst 0)]) (pc' := 59) (lv' := [(0, .inr (.inr u0)), (1, .inl v1)]) (st' := [.inl 0, .inl (m_rd h1 u0 32), .inr (.inr u0)]) (h' := h1) (cs := []) (by decide +kernel) rfl trivial ?_
        obtain ⟨hc, hF⟩ := gd_of hF
        refine RN.blk (ops := [(59, .iadd), (60, .putfield 408), (63, .iinc 1 1)]) (pc' := 66) (lv' := [(1, .inl (m_w32 (v1 + 1))), (0, .inr (.inr u0))]) (st' := []) (h' := (m_wr h1 u0 32 (m_w32 ((m_rd h1 u0 32) + 0)))) (cs := [GK h1 u0 12]) (by decide +kernel) rfl hc ?_
        refine RN.goto (off := -48) (tgt := 18) (by decide +kernel) ?_
        exact RN.sub (ih _ _ hF) (sub_cons rfl (sub_cons rfl sub_nil))
      · refine RN.iff (cd := .lt) (off := 7) (tgt := 58) (by decide +kernel) (mif_ltn hb) ?_
        refine RN.blk (ops := [(54, .iconst 1)]) (pc' := 55) (lv' := [(0, .inr (.inr u0)), (1, .inl v1)]) (st' := [.inl 1, .inl (m_rd h1 u0 32), .inr (.inr u0)]) (h' := h1) (cs := []) (by decide +kernel) rfl trivial ?_
        refine RN.goto (off := 4) (tgt := 59) (by decide +kernel) ?_
        obtain ⟨hc, hF⟩ := gd_of hF
        refine RN.blk (ops := [(59, .iadd), (60, .putfield 408), (63, .iinc 1 1)]) (pc' := 66) (lv' := [(1, .inl (m_w32 (v1 + 1))), (0, .inr (.inr u0))]) (st' := []) (h' := (m_wr h1 u0 32 (m_w32 ((m_rd h1 u0 32) + 1)))) (cs := [GK h1 u0 12]) (by decide +kernel) rfl hc ?_
        refine RN.goto (off := -48) (tgt := 18) (by decide +kernel) ?_
        exact RN.sub (ih _ _ hF) (sub_cons rfl (sub_cons rfl sub_nil))
    · refine RN.ict (cd := .ge) (off := 43) (tgt := 69) (by decide +kernel) (mif_ge hb) ?_
      exact RN.sub (hK0 _ hF) (sub_cons rfl sub_nil)
noncomputable def FX12_sortsAll (t : Int) (h : MH) : Option (MH) :=
  gd [GK h t 12, GK h t 12, GI h (m_rd (m_wr h t 32 0) t 20) 1 11, GK h t 12] (
   hl (m_wr (m_wr h t 32 0) t 31 (m_rd (m_wr h t 32 0) (m_rd (m_wr h t 32 0) t 20) 11)) (fun h1 =>
    FX12_sortsAll_L18 t (fun h2 =>
     gd [GK h2 t 12, GI h2 (m_rd h2 t 20) 1 11, GK h2 t 12, GK h2 t 12] (
      gd [GK h2 t 12] (bv (FX12_laysBack t (m_wr h2 t 31 (m_w32 ((m_rd h2 (m_rd h2 t 20) 11) - (m_rd h2 t 31))))) (fun h3 =>
       some h3)))) FU 0 h1))
theorem CX12_sortsAll {d : Nat} {t : Int} {h : MH} {r : MH} (hF : FX12_sortsAll t h = some r) : RN xs L iX12_sortsAll (d + 5) 0 (lvE 0 [.inr (.inr t)]) [] h (RVo r) := by
  unfold FX12_sortsAll at hF
  obtain ⟨hc, hF⟩ := gd_of hF
  refine RN.blk (ops := [(0, .aload_n 0), (1, .iconst 0), (2, .putfield 408), (5, .aload_n 0), (6, .aload_n 0), (7, .getfield 39), (10, .bipush 11), (12, .iaload), (13, .putfield 411)]) (pc' := 16) (lv' := [(0, .inr (.inr t))]) (st' := []) (h' := (m_wr (m_wr h t 32 0) t 31 (m_rd (m_wr h t 32 0) (m_rd (m_wr h t 32 0) t 20) 11))) (cs := [GK h t 12, GK h t 12, GI h (m_rd (m_wr h t 32 0) t 20) 1 11, GK h t 12]) (by decide +kernel) rfl hc ?_
  obtain ⟨h1, he, hF⟩ := hl_of hF
  refine RN.hl he ?_
  refine RN.blk (ops := [(16, .iconst 0), (17, .istore_n 1)]) (pc' := 18) (lv' := [(1, .inl 0), (0, .inr (.inr t))]) (st' := []) (h' := h1) (cs := []) (by decide +kernel) rfl trivial ?_
  refine RN.sub (CX12_sortsAll_L18 ?_ _ _ _ hF) (sub_cons rfl (sub_cons rfl sub_nil))
  · intro h2 hF
    obtain ⟨hc, hF⟩ := gd_of hF
    refine RN.blk (ops := [(69, .aload_n 0), (70, .aload_n 0), (71, .getfield 39), (74, .bipush 11), (76, .iaload), (77, .aload_n 0), (78, .getfield 411), (81, .isub), (82, .putfield 411), (85, .aload_n 0)]) (pc' := 86) (lv' := [(0, .inr (.inr t))]) (st' := [.inr (.inr t)]) (h' := (m_wr h2 t 31 (m_w32 ((m_rd h2 (m_rd h2 t 20) 11) - (m_rd h2 t 31))))) (cs := [GK h2 t 12, GI h2 (m_rd h2 t 20) 1 11, GK h2 t 12, GK h2 t 12]) (by decide +kernel) rfl hc ?_
    obtain ⟨hc, hF⟩ := gd_of hF
    obtain ⟨h3, hG, hF⟩ := bv_of hF
    refine RN.cv (i := 414) (k := 254) (q2 := iX12_laysBack) (as := [.inr (.inr t)]) (r := []) (v := none) (h1 := h3) (by decide +kernel) rfl rfl rfl rfl rfl (rcv_ok hc.1) (CX12_laysBack (d := d + 4) hG) ?_
    exact RN.vR (by decide +kernel) rfl hF
noncomputable def FX12_triesEntry (t : Int) (a1 : Int) (a2 : Int) (a3 : Int) (h : MH) : Option (MH) :=
  gd [GK h t 12] (bd (FX12_canEnter t a1 a2 a3 h) (fun x2 h1 =>
   (if x2 = 0 then
    some h1
   else
    gd [GK h1 t 12] (bd (FX12_enters t a1 a2 a3 h1) (fun x4 h3 =>
     gd [GK h3 t 12] (bv (FX12_sortsAll t h3) (fun h5 =>
      gd [GK h5 t 12, GK h5 t 12, GI h5 (m_rd h5 t 33) 1 0] (
       (if (m_rd h5 (m_rd h5 t 33) 0) < (m_rd h5 t 31) then
        some h5
       else
        gd [GK h5 t 12, GK h5 t 12, GI h5 (m_rd h5 t 33) 1 0] (
         jn (
          gd [GK h5 t 12, GK h5 t 12, GI h5 (m_rd h5 t 33) 1 0, GK h5 t 12, GK h5 t 12, GI h5 (m_rd (m_wr h5 (m_rd h5 t 33) 0 (m_rd h5 t 31)) t 33) 1 1] (
           hl (m_wr (m_wr h5 (m_rd h5 t 33) 0 (m_rd h5 t 31)) (m_rd (m_wr h5 (m_rd h5 t 33) 0 (m_rd h5 t 31)) t 33) 1 (m_rd (m_wr h5 (m_rd h5 t 33) 0 (m_rd h5 t 31)) t 32)) (fun h7 =>
            gd [GK h7 t 12, GI h7 (m_rd h7 t 33) 1 2, GK h7 t 12, GI h7 (m_rd (m_wr h7 (m_rd h7 t 33) 2 a1) t 33) 1 3] (
             hl (m_wr (m_wr h7 (m_rd h7 t 33) 2 a1) (m_rd (m_wr h7 (m_rd h7 t 33) 2 a1) t 33) 3 a2) (fun h8 =>
              gd [GK h8 t 12, GI h8 (m_rd h8 t 33) 1 4] (
               some (m_wr h8 (m_rd h8 t 33) 4 a3))))))) (fun j6 =>
          (if (m_rd h5 t 31) = (m_rd h5 (m_rd h5 t 33) 0) then
           gd [GK h5 t 12, GK h5 t 12, GI h5 (m_rd h5 t 33) 1 1] (
            (if (m_rd h5 t 32) < (m_rd h5 (m_rd h5 t 33) 1) then
             j6
            else
             some h5))
          else
           j6))))))))))))
theorem CX12_triesEntry {d : Nat} {t : Int} {a1 : Int} {a2 : Int} {a3 : Int} {h : MH} {r : MH} (hF : FX12_triesEntry t a1 a2 a3 h = some r) : RN xs L iX12_triesEntry (d + 6) 0 (lvE 0 [.inr (.inr t), .inl a1, .inl a2, .inl a3]) [] h (RVo r) := by
  unfold FX12_triesEntry at hF
  refine RN.blk (ops := [(0, .aload_n 0), (1, .iload_n 1), (2, .iload_n 2), (3, .iload_n 3)]) (pc' := 4) (lv' := [(0, .inr (.inr t)), (1, .inl a1), (2, .inl a2), (3, .inl a3)]) (st' := [.inl a3, .inl a2, .inl a1, .inr (.inr t)]) (h' := h) (cs := []) (by decide +kernel) rfl trivial ?_
  obtain ⟨hc, hF⟩ := gd_of hF
  obtain ⟨x2, h1, hG, hF⟩ := bd_of hF
  refine RN.cv (i := 365) (k := 231) (q2 := iX12_canEnter) (as := [.inr (.inr t), .inl a1, .inl a2, .inl a3]) (r := []) (v := some (.inl x2)) (h1 := h1) (by decide +kernel) rfl rfl rfl rfl rfl (rcv_ok hc.1) (CX12_canEnter (d := d + 4) hG) ?_
  rcases it_of hF with ⟨hb, hF⟩ | ⟨hb, hF⟩
  · refine RN.iff (cd := .ne) (off := 4) (tgt := 11) (by decide +kernel) (mif_nen hb) ?_
    exact RN.vR (by decide +kernel) rfl hF
  · refine RN.ift (cd := .ne) (off := 4) (tgt := 11) (by decide +kernel) (mif_ne hb) ?_
    refine RN.blk (ops := [(11, .aload_n 0), (12, .iload_n 1), (13, .iload_n 2), (14, .iload_n 3)]) (pc' := 15) (lv' := [(0, .inr (.inr t)), (1, .inl a1), (2, .inl a2), (3, .inl a3)]) (st' := [.inl a3, .inl a2, .inl a1, .inr (.inr t)]) (h' := h1) (cs := []) (by decide +kernel) rfl trivial ?_
    obtain ⟨hc, hF⟩ := gd_of hF
    obtain ⟨x4, h3, hG, hF⟩ := bd_of hF
    refine RN.cv (i := 368) (k := 232) (q2 := iX12_enters) (as := [.inr (.inr t), .inl a1, .inl a2, .inl a3]) (r := []) (v := some (.inl x4)) (h1 := h3) (by decide +kernel) rfl rfl rfl rfl rfl (rcv_ok hc.1) (CX12_enters (d := d + 4) hG) ?_
    refine RN.blk (ops := [(18, .pop), (19, .aload_n 0)]) (pc' := 20) (lv' := [(0, .inr (.inr t)), (1, .inl a1), (2, .inl a2), (3, .inl a3)]) (st' := [.inr (.inr t)]) (h' := h3) (cs := []) (by decide +kernel) rfl trivial ?_
    obtain ⟨hc, hF⟩ := gd_of hF
    obtain ⟨h5, hG, hF⟩ := bv_of hF
    refine RN.cv (i := 417) (k := 255) (q2 := iX12_sortsAll) (as := [.inr (.inr t)]) (r := []) (v := none) (h1 := h5) (by decide +kernel) rfl rfl rfl rfl rfl (rcv_ok hc.1) (CX12_sortsAll (d := d) hG) ?_
    obtain ⟨hc, hF⟩ := gd_of hF
    refine RN.blk (ops := [(23, .aload_n 0), (24, .getfield 411), (27, .aload_n 0), (28, .getfield 64), (31, .iconst 0), (32, .iaload)]) (pc' := 33) (lv' := [(0, .inr (.inr t)), (1, .inl a1), (2, .inl a2), (3, .inl a3)]) (st' := [.inl (m_rd h5 (m_rd h5 t 33) 0), .inl (m_rd h5 t 31)]) (h' := h5) (cs := [GK h5 t 12, GK h5 t 12, GI h5 (m_rd h5 t 33) 1 0]) (by decide +kernel) rfl hc ?_
    rcases it_of hF with ⟨hb, hF⟩ | ⟨hb, hF⟩
    · refine RN.ict (cd := .gt) (off := 29) (tgt := 62) (by decide +kernel) (mif_gt hb) ?_
      exact RN.vR (by decide +kernel) rfl hF
    · refine RN.icf (cd := .gt) (off := 29) (tgt := 62) (by decide +kernel) (mif_gtn hb) ?_
      obtain ⟨hc, hF⟩ := gd_of hF
      refine RN.blk (ops := [(36, .aload_n 0), (37, .getfield 411), (40, .aload_n 0), (41, .getfield 64), (44, .iconst 0), (45, .iaload)]) (pc' := 46) (lv' := [(0, .inr (.inr t)), (1, .inl a1), (2, .inl a2), (3, .inl a3)]) (st' := [.inl (m_rd h5 (m_rd h5 t 33) 0), .inl (m_rd h5 t 31)]) (h' := h5) (cs := [GK h5 t 12, GK h5 t 12, GI h5 (m_rd h5 t 33) 1 0]) (by decide +kernel) rfl hc ?_
      refine jn_use (fun j6 => j6 = some r → RN xs L iX12_triesEntry (d + 6) 63 [(0, .inr (.inr t)), (1, .inl a1), (2, .inl a2), (3, .inl a3)] [] h5 (RVo r)) ?_ ?_ hF
      · intro  hF
        obtain ⟨hc, hF⟩ := gd_of hF
        refine RN.blk (ops := [(63, .aload_n 0), (64, .getfield 64), (67, .iconst 0), (68, .aload_n 0), (69, .getfield 411), (72, .iastore), (73, .aload_n 0), (74, .getfield 64), (77, .iconst 1), (78, .aload_n 0), (79, .getfield 408), (82, .iastore)]) (pc' := 83) (lv' := [(0, .inr (.inr t)), (1, .inl a1), (2, .inl a2), (3, .inl a3)]) (st' := []) (h' := (m_wr (m_wr h5 (m_rd h5 t 33) 0 (m_rd h5 t 31)) (m_rd (m_wr h5 (m_rd h5 t 33) 0 (m_rd h5 t 31)) t 33) 1 (m_rd (m_wr h5 (m_rd h5 t 33) 0 (m_rd h5 t 31)) t 32))) (cs := [GK h5 t 12, GK h5 t 12, GI h5 (m_rd h5 t 33) 1 0, GK h5 t 12, GK h5 t 12, GI h5 (m_rd (m_wr h5 (m_rd h5 t 33) 0 (m_rd h5 t 31)) t 33) 1 1]) (by decide +kernel) rfl hc ?_
        obtain ⟨h7, he, hF⟩ := hl_of hF
        refine RN.hl he ?_
        obtain ⟨hc, hF⟩ := gd_of hF
        refine RN.blk (ops := [(83, .aload_n 0), (84, .getfield 64), (87, .iconst 2), (88, .iload_n 1), (89, .iastore), (90, .aload_n 0), (91, .getfield 64), (94, .iconst 3), (95, .iload_n 2), (96, .iastore)]) (pc' := 97) (lv' := [(0, .inr (.inr t)), (1, .inl a1), (2, .inl a2), (3, .inl a3)]) (st' := []) (h' := (m_wr (m_wr h7 (m_rd h7 t 33) 2 a1) (m_rd (m_wr h7 (m_rd h7 t 33) 2 a1) t 33) 3 a2)) (cs := [GK h7 t 12, GI h7 (m_rd h7 t 33) 1 2, GK h7 t 12, GI h7 (m_rd (m_wr h7 (m_rd h7 t 33) 2 a1) t 33) 1 3]) (by decide +kernel) rfl hc ?_
        obtain ⟨h8, he, hF⟩ := hl_of hF
        refine RN.hl he ?_
        obtain ⟨hc, hF⟩ := gd_of hF
        refine RN.blk (ops := [(97, .aload_n 0), (98, .getfield 64), (101, .iconst 4), (102, .iload_n 3), (103, .iastore)]) (pc' := 104) (lv' := [(0, .inr (.inr t)), (1, .inl a1), (2, .inl a2), (3, .inl a3)]) (st' := []) (h' := (m_wr h8 (m_rd h8 t 33) 4 a3)) (cs := [GK h8 t 12, GI h8 (m_rd h8 t 33) 1 4]) (by decide +kernel) rfl hc ?_
        exact RN.vR (by decide +kernel) rfl hF
      · intro j6 Jj6 hF
        rcases it_of hF with ⟨hb, hF⟩ | ⟨hb, hF⟩
        · refine RN.icf (cd := .ne) (off := 17) (tgt := 63) (by decide +kernel) (mif_nen hb) ?_
          obtain ⟨hc, hF⟩ := gd_of hF
          refine RN.blk (ops := [(49, .aload_n 0), (50, .getfield 408), (53, .aload_n 0), (54, .getfield 64), (57, .iconst 1), (58, .iaload)]) (pc' := 59) (lv' := [(0, .inr (.inr t)), (1, .inl a1), (2, .inl a2), (3, .inl a3)]) (st' := [.inl (m_rd h5 (m_rd h5 t 33) 1), .inl (m_rd h5 t 32)]) (h' := h5) (cs := [GK h5 t 12, GK h5 t 12, GI h5 (m_rd h5 t 33) 1 1]) (by decide +kernel) rfl hc ?_
          rcases it_of hF with ⟨hb, hF⟩ | ⟨hb, hF⟩
          · refine RN.ict (cd := .lt) (off := 4) (tgt := 63) (by decide +kernel) (mif_lt hb) ?_
            exact RN.sub (Jj6 hF) (sub_cons rfl (sub_cons rfl (sub_cons rfl (sub_cons rfl sub_nil))))
          · refine RN.icf (cd := .lt) (off := 4) (tgt := 63) (by decide +kernel) (mif_ltn hb) ?_
            exact RN.vR (by decide +kernel) rfl hF
        · refine RN.ict (cd := .ne) (off := 17) (tgt := 63) (by decide +kernel) (mif_ne hb) ?_
          exact RN.sub (Jj6 hF) (sub_cons rfl (sub_cons rfl (sub_cons rfl (sub_cons rfl sub_nil))))
noncomputable def FX12_one_L52 (u0 : Int) (u1 : Int) (K0 : MH → Option (Int × MH)) : Nat → Int → MH → Option (Int × MH)
  | 0, _, _ => none
  | f + 1, v2, h =>
    (if v2 < 5 then
     gd [GK h u0 12, GI h (m_rd h u0 33) 1 v2] (
      FX12_one_L52 u0 u1 K0 f (m_w32 (v2 + 1)) (m_wr h (m_rd h u0 33) v2 (-1)))
    else
     K0 h)
theorem CX12_one_L52 {d : Nat} {u0 : Int} {u1 : Int} {K0 : MH → Option (Int × MH)} {r : Int × MH} (hK0 : ∀ (h : MH), K0 h = some r → RN xs L iX12_one (d + 7) 70 [(0, .inr (.inr u0)), (1, .inl u1)] [] h (RIo r)) : ∀ (f : Nat) (v2 : Int) (h : MH), FX12_one_L52 u0 u1 K0 f v2 h = some r → RN xs L iX12_one (d + 7) 52 [(0, .inr (.inr u0)), (1, .inl u1), (2, .inl v2)] [] h (RIo r) := by
  intro f
  induction f with
  | zero =>
    intro v2 h hF
    cases hF
  | succ f ih =>
    intro v2 h hF
    unfold FX12_one_L52 at hF
    refine RN.blk (ops := [(52, .iload_n 2), (53, .iconst 5)]) (pc' := 54) (lv' := [(0, .inr (.inr u0)), (1, .inl u1), (2, .inl v2)]) (st' := [.inl 5, .inl v2]) (h' := h) (cs := []) (by decide +kernel) rfl trivial ?_
    rcases it_of hF with ⟨hb, hF⟩ | ⟨hb, hF⟩
    · refine RN.icf (cd := .ge) (off := 16) (tgt := 70) (by decide +kernel) (mif_gen hb) ?_
      obtain ⟨hc, hF⟩ := gd_of hF
      refine RN.blk (ops := [(57, .aload_n 0), (58, .getfield 64), (61, .iload_n 2), (62, .iconst (-1)), (63, .iastore), (64, .iinc 2 1)]) (pc' := 67) (lv' := [(2, .inl (m_w32 (v2 + 1))), (0, .inr (.inr u0)), (1, .inl u1)]) (st' := []) (h' := (m_wr h (m_rd h u0 33) v2 (-1))) (cs := [GK h u0 12, GI h (m_rd h u0 33) 1 v2]) (by decide +kernel) rfl hc ?_
      refine RN.goto (off := -15) (tgt := 52) (by decide +kernel) ?_
      exact RN.sub (ih _ _ hF) (sub_cons rfl (sub_cons rfl (sub_cons rfl sub_nil)))
    · refine RN.ict (cd := .ge) (off := 16) (tgt := 70) (by decide +kernel) (mif_ge hb) ?_
      exact RN.sub (hK0 _ hF) (sub_cons rfl (sub_cons rfl sub_nil))
noncomputable def FX12_one_L101 (u0 : Int) (u1 : Int) (u2 : Int) (u3 : Int) (K0 : MH → Option (Int × MH)) : Nat → Int → MH → Option (Int × MH)
  | 0, _, _ => none
  | f + 1, v4, h =>
    gd [GK h u0 12, GI h (m_rd h u0 20) 1 3] (
     (if v4 < (m_rd h (m_rd h u0 20) 3) then
      gd [GK h u0 12] (bv (FX12_triesEntry u0 u2 u3 v4 h) (fun h1 =>
       FX12_one_L101 u0 u1 u2 u3 K0 f (m_w32 (v4 + 1)) h1))
     else
      K0 h))
theorem CX12_one_L101 {d : Nat} {u0 : Int} {u1 : Int} {u2 : Int} {u3 : Int} {K0 : MH → Option (Int × MH)} {r : Int × MH} (hK0 : ∀ (h : MH), K0 h = some r → RN xs L iX12_one (d + 7) 126 [(0, .inr (.inr u0)), (1, .inl u1), (2, .inl u2), (3, .inl u3)] [] h (RIo r)) : ∀ (f : Nat) (v4 : Int) (h : MH), FX12_one_L101 u0 u1 u2 u3 K0 f v4 h = some r → RN xs L iX12_one (d + 7) 101 [(0, .inr (.inr u0)), (1, .inl u1), (2, .inl u2), (3, .inl u3), (4, .inl v4)] [] h (RIo r) := by
  intro f
  induction f with
  | zero =>
    intro v4 h hF
    cases hF
  | succ f ih =>
    intro v4 h hF
    unfold FX12_one_L101 at hF
    obtain ⟨hc, hF⟩ := gd_of hF
    refine RN.blk (ops := [(101, .iload 4), (103, .aload_n 0), (104, .getfield 39), (107, .iconst 3), (108, .iaload)]) (pc' := 109) (lv' := [(0, .inr (.inr u0)), (1, .inl u1), (2, .inl u2), (3, .inl u3), (4, .inl v4)]) (st' := [.inl (m_rd h (m_rd h u0 20) 3), .inl v4]) (h' := h) (cs := [GK h u0 12, GI h (m_rd h u0 20) 1 3]) (by decide +kernel) rfl hc ?_
    rcases it_of hF with ⟨hb, hF⟩ | ⟨hb, hF⟩
    · refine RN.icf (cd := .ge) (off := 17) (tgt := 126) (by decide +kernel) (mif_gen hb) ?_
      refine RN.blk (ops := [(112, .aload_n 0), (113, .iload_n 2), (114, .iload_n 3), (115, .iload 4)]) (pc' := 117) (lv' := [(0, .inr (.inr u0)), (1, .inl u1), (2, .inl u2), (3, .inl u3), (4, .inl v4)]) (st' := [.inl v4, .inl u3, .inl u2, .inr (.inr u0)]) (h' := h) (cs := []) (by decide +kernel) rfl trivial ?_
      obtain ⟨hc, hF⟩ := gd_of hF
      obtain ⟨h1, hG, hF⟩ := bv_of hF
      refine RN.cv (i := 425) (k := 256) (q2 := iX12_triesEntry) (as := [.inr (.inr u0), .inl u2, .inl u3, .inl v4]) (r := []) (v := none) (h1 := h1) (by decide +kernel) rfl rfl rfl rfl rfl (rcv_ok hc.1) (CX12_triesEntry (d := d) hG) ?_
      refine RN.blk (ops := [(120, .iinc 4 1)]) (pc' := 123) (lv' := [(4, .inl (m_w32 (v4 + 1))), (0, .inr (.inr u0)), (1, .inl u1), (2, .inl u2), (3, .inl u3)]) (st' := []) (h' := h1) (cs := []) (by decide +kernel) rfl trivial ?_
      refine RN.goto (off := -22) (tgt := 101) (by decide +kernel) ?_
      exact RN.sub (ih _ _ hF) (sub_cons rfl (sub_cons rfl (sub_cons rfl (sub_cons rfl (sub_cons rfl sub_nil)))))
    · refine RN.ict (cd := .ge) (off := 17) (tgt := 126) (by decide +kernel) (mif_ge hb) ?_
      exact RN.sub (hK0 _ hF) (sub_cons rfl (sub_cons rfl (sub_cons rfl (sub_cons rfl sub_nil))))
noncomputable def FX12_one_L84 (u0 : Int) (u1 : Int) (u2 : Int) (K0 : MH → Option (Int × MH)) : Nat → Int → MH → Option (Int × MH)
  | 0, _, _ => none
  | f + 1, v3, h =>
    gd [GK h u0 12, GI h (m_rd h u0 20) 1 1] (
     (bd (FX12_power (m_rd h (m_rd h u0 20) 1) u2 h) (fun x2 h1 =>
      (if v3 < x2 then
       FX12_one_L101 u0 u1 u2 v3 (fun h3 =>
        FX12_one_L84 u0 u1 u2 K0 f (m_w32 (v3 + 1)) h3) FU 0 h1
      else
       K0 h1))))
theorem CX12_one_L84 {d : Nat} {u0 : Int} {u1 : Int} {u2 : Int} {K0 : MH → Option (Int × MH)} {r : Int × MH} (hK0 : ∀ (h : MH), K0 h = some r → RN xs L iX12_one (d + 7) 132 [(0, .inr (.inr u0)), (1, .inl u1), (2, .inl u2)] [] h (RIo r)) : ∀ (f : Nat) (v3 : Int) (h : MH), FX12_one_L84 u0 u1 u2 K0 f v3 h = some r → RN xs L iX12_one (d + 7) 84 [(0, .inr (.inr u0)), (1, .inl u1), (2, .inl u2), (3, .inl v3)] [] h (RIo r) := by
  intro f
  induction f with
  | zero =>
    intro v3 h hF
    cases hF
  | succ f ih =>
    intro v3 h hF
    unfold FX12_one_L84 at hF
    obtain ⟨hc, hF⟩ := gd_of hF
    refine RN.blk (ops := [(84, .iload_n 3), (85, .aload_n 0), (86, .getfield 39), (89, .iconst 1), (90, .iaload), (91, .iload_n 2)]) (pc' := 92) (lv' := [(0, .inr (.inr u0)), (1, .inl u1), (2, .inl u2), (3, .inl v3)]) (st' := [.inl u2, .inl (m_rd h (m_rd h u0 20) 1), .inl v3]) (h' := h) (cs := [GK h u0 12, GI h (m_rd h u0 20) 1 1]) (by decide +kernel) rfl hc ?_
    obtain ⟨x2, h1, hG, hF⟩ := bd_of hF
    refine RN.cst (i := 229) (k := 159) (q2 := iX12_power) (as := [.inl (m_rd h (m_rd h u0 20) 1), .inl u2]) (r := [.inl v3]) (v := some (.inl x2)) (h1 := h1) (by decide +kernel) rfl rfl rfl rfl rfl (CX12_power (d := d + 6) hG) ?_
    rcases it_of hF with ⟨hb, hF⟩ | ⟨hb, hF⟩
    · refine RN.icf (cd := .ge) (off := 37) (tgt := 132) (by decide +kernel) (mif_gen hb) ?_
      refine RN.blk (ops := [(98, .iconst 0), (99, .istore 4)]) (pc' := 101) (lv' := [(4, .inl 0), (0, .inr (.inr u0)), (1, .inl u1), (2, .inl u2), (3, .inl v3)]) (st' := []) (h' := h1) (cs := []) (by decide +kernel) rfl trivial ?_
      refine RN.sub (CX12_one_L101 ?_ _ _ _ hF) (sub_cons rfl (sub_cons rfl (sub_cons rfl (sub_cons rfl (sub_cons rfl sub_nil)))))
      · intro h3 hF
        refine RN.blk (ops := [(126, .iinc 3 1)]) (pc' := 129) (lv' := [(3, .inl (m_w32 (v3 + 1))), (0, .inr (.inr u0)), (1, .inl u1), (2, .inl u2)]) (st' := []) (h' := h3) (cs := []) (by decide +kernel) rfl trivial ?_
        refine RN.goto (off := -45) (tgt := 84) (by decide +kernel) ?_
        exact RN.sub (ih _ _ hF) (sub_cons rfl (sub_cons rfl (sub_cons rfl (sub_cons rfl sub_nil))))
    · refine RN.ict (cd := .ge) (off := 37) (tgt := 132) (by decide +kernel) (mif_ge hb) ?_
      exact RN.sub (hK0 _ hF) (sub_cons rfl (sub_cons rfl (sub_cons rfl sub_nil)))
noncomputable def FX12_one_L72 (u0 : Int) (u1 : Int) (K0 : MH → Option (Int × MH)) : Nat → Int → MH → Option (Int × MH)
  | 0, _, _ => none
  | f + 1, v2, h =>
    gd [GK h u0 12, GI h (m_rd h u0 20) 1 2] (
     (if (m_rd h (m_rd h u0 20) 2) < v2 then
      K0 h
     else
      FX12_one_L84 u0 u1 v2 (fun h1 =>
       FX12_one_L72 u0 u1 K0 f (m_w32 (v2 + 1)) h1) FU 0 h))
theorem CX12_one_L72 {d : Nat} {u0 : Int} {u1 : Int} {K0 : MH → Option (Int × MH)} {r : Int × MH} (hK0 : ∀ (h : MH), K0 h = some r → RN xs L iX12_one (d + 7) 138 [(0, .inr (.inr u0)), (1, .inl u1)] [] h (RIo r)) : ∀ (f : Nat) (v2 : Int) (h : MH), FX12_one_L72 u0 u1 K0 f v2 h = some r → RN xs L iX12_one (d + 7) 72 [(0, .inr (.inr u0)), (1, .inl u1), (2, .inl v2)] [] h (RIo r) := by
  intro f
  induction f with
  | zero =>
    intro v2 h hF
    cases hF
  | succ f ih =>
    intro v2 h hF
    unfold FX12_one_L72 at hF
    obtain ⟨hc, hF⟩ := gd_of hF
    refine RN.blk (ops := [(72, .iload_n 2), (73, .aload_n 0), (74, .getfield 39), (77, .iconst 2), (78, .iaload)]) (pc' := 79) (lv' := [(0, .inr (.inr u0)), (1, .inl u1), (2, .inl v2)]) (st' := [.inl (m_rd h (m_rd h u0 20) 2), .inl v2]) (h' := h) (cs := [GK h u0 12, GI h (m_rd h u0 20) 1 2]) (by decide +kernel) rfl hc ?_
    rcases it_of hF with ⟨hb, hF⟩ | ⟨hb, hF⟩
    · refine RN.ict (cd := .gt) (off := 59) (tgt := 138) (by decide +kernel) (mif_gt hb) ?_
      exact RN.sub (hK0 _ hF) (sub_cons rfl (sub_cons rfl sub_nil))
    · refine RN.icf (cd := .gt) (off := 59) (tgt := 138) (by decide +kernel) (mif_gtn hb) ?_
      refine RN.blk (ops := [(82, .iconst 0), (83, .istore_n 3)]) (pc' := 84) (lv' := [(3, .inl 0), (0, .inr (.inr u0)), (1, .inl u1), (2, .inl v2)]) (st' := []) (h' := h) (cs := []) (by decide +kernel) rfl trivial ?_
      refine RN.sub (CX12_one_L84 ?_ _ _ _ hF) (sub_cons rfl (sub_cons rfl (sub_cons rfl (sub_cons rfl sub_nil))))
      · intro h1 hF
        refine RN.blk (ops := [(132, .iinc 2 1)]) (pc' := 135) (lv' := [(2, .inl (m_w32 (v2 + 1))), (0, .inr (.inr u0)), (1, .inl u1)]) (st' := []) (h' := h1) (cs := []) (by decide +kernel) rfl trivial ?_
        refine RN.goto (off := -63) (tgt := 72) (by decide +kernel) ?_
        exact RN.sub (ih _ _ hF) (sub_cons rfl (sub_cons rfl (sub_cons rfl sub_nil)))
noncomputable def FX12_one (t : Int) (a1 : Int) (h : MH) : Option (Int × MH) :=
  gd [GK h t 12] (bd (FX12_isFrame t h) (fun x2 h1 =>
   (if x2 = 0 then
    some ((-2), h1)
   else
    (bd (FX12_in a1 0 4 h1) (fun x4 h3 =>
     (if x4 = 0 then
      some ((-2), h3)
     else
      gd [GK h3 t 12] (bv (FX12_keeps t h3) (fun h5 =>
       gd [GK h5 t 12] (bv (FX12_sortsAll t h5) (fun h6 =>
        gd [GK h6 t 12, GK h6 t 12, GI h6 (m_rd h6 t 33) 1 0, GK h6 t 12, GK h6 t 12, GI h6 (m_rd (m_wr h6 (m_rd h6 t 33) 0 (m_rd h6 t 31)) t 33) 1 1] (
         hl (m_wr (m_wr h6 (m_rd h6 t 33) 0 (m_rd h6 t 31)) (m_rd (m_wr h6 (m_rd h6 t 33) 0 (m_rd h6 t 31)) t 33) 1 (m_rd (m_wr h6 (m_rd h6 t 33) 0 (m_rd h6 t 31)) t 32)) (fun h7 =>
          FX12_one_L52 t a1 (fun h8 =>
           FX12_one_L72 t a1 (fun h9 =>
            gd [GK h9 t 12, GI h9 (m_rd h9 t 33) 1 a1] (
             some ((m_rd h9 (m_rd h9 t 33) a1), h9))) FU 0 h8) FU 2 h7))))))))))))
theorem CX12_one {d : Nat} {t : Int} {a1 : Int} {h : MH} {r : Int × MH} (hF : FX12_one t a1 h = some r) : RN xs L iX12_one (d + 7) 0 (lvE 0 [.inr (.inr t), .inl a1]) [] h (RIo r) := by
  unfold FX12_one at hF
  refine RN.blk (ops := [(0, .aload_n 0)]) (pc' := 1) (lv' := [(0, .inr (.inr t)), (1, .inl a1)]) (st' := [.inr (.inr t)]) (h' := h) (cs := []) (by decide +kernel) rfl trivial ?_
  obtain ⟨hc, hF⟩ := gd_of hF
  obtain ⟨x2, h1, hG, hF⟩ := bd_of hF
  refine RN.cv (i := 295) (k := 202) (q2 := iX12_isFrame) (as := [.inr (.inr t)]) (r := []) (v := some (.inl x2)) (h1 := h1) (by decide +kernel) rfl rfl rfl rfl rfl (rcv_ok hc.1) (CX12_isFrame (d := d + 6) hG) ?_
  rcases it_of hF with ⟨hb, hF⟩ | ⟨hb, hF⟩
  · refine RN.ift (cd := .eq) (off := 15) (tgt := 19) (by decide +kernel) (mif_eq hb) ?_
    refine RN.blk (ops := [(19, .bipush (-2))]) (pc' := 21) (lv' := [(0, .inr (.inr t)), (1, .inl a1)]) (st' := [.inl (-2)]) (h' := h1) (cs := []) (by decide +kernel) rfl trivial ?_
    exact RN.iR (by decide +kernel) rfl hF
  · refine RN.iff (cd := .eq) (off := 15) (tgt := 19) (by decide +kernel) (mif_eqn hb) ?_
    refine RN.blk (ops := [(7, .iload_n 1), (8, .i2l), (9, .lconst 0), (10, .ldc2_w 420)]) (pc' := 13) (lv' := [(0, .inr (.inr t)), (1, .inl a1)]) (st' := [.inr (.inl 4), .inr (.inl 0), .inr (.inl a1)]) (h' := h1) (cs := []) (by decide +kernel) rfl trivial ?_
    obtain ⟨x4, h3, hG, hF⟩ := bd_of hF
    refine RN.cst (i := 127) (k := 156) (q2 := iX12_in) (as := [.inr (.inl a1), .inr (.inl 0), .inr (.inl 4)]) (r := []) (v := some (.inl x4)) (h1 := h3) (by decide +kernel) rfl rfl rfl rfl rfl (CX12_in (d := d + 6) hG) ?_
    rcases it_of hF with ⟨hb, hF⟩ | ⟨hb, hF⟩
    · refine RN.iff (cd := .ne) (off := 6) (tgt := 22) (by decide +kernel) (mif_nen hb) ?_
      refine RN.blk (ops := [(19, .bipush (-2))]) (pc' := 21) (lv' := [(0, .inr (.inr t)), (1, .inl a1)]) (st' := [.inl (-2)]) (h' := h3) (cs := []) (by decide +kernel) rfl trivial ?_
      exact RN.iR (by decide +kernel) rfl hF
    · refine RN.ift (cd := .ne) (off := 6) (tgt := 22) (by decide +kernel) (mif_ne hb) ?_
      refine RN.blk (ops := [(22, .aload_n 0)]) (pc' := 23) (lv' := [(0, .inr (.inr t)), (1, .inl a1)]) (st' := [.inr (.inr t)]) (h' := h3) (cs := []) (by decide +kernel) rfl trivial ?_
      obtain ⟨hc, hF⟩ := gd_of hF
      obtain ⟨h5, hG, hF⟩ := bv_of hF
      refine RN.cv (i := 422) (k := 253) (q2 := iX12_keeps) (as := [.inr (.inr t)]) (r := []) (v := none) (h1 := h5) (by decide +kernel) rfl rfl rfl rfl rfl (rcv_ok hc.1) (CX12_keeps (d := d + 6) hG) ?_
      refine RN.blk (ops := [(26, .aload_n 0)]) (pc' := 27) (lv' := [(0, .inr (.inr t)), (1, .inl a1)]) (st' := [.inr (.inr t)]) (h' := h5) (cs := []) (by decide +kernel) rfl trivial ?_
      obtain ⟨hc, hF⟩ := gd_of hF
      obtain ⟨h6, hG, hF⟩ := bv_of hF
      refine RN.cv (i := 417) (k := 255) (q2 := iX12_sortsAll) (as := [.inr (.inr t)]) (r := []) (v := none) (h1 := h6) (by decide +kernel) rfl rfl rfl rfl rfl (rcv_ok hc.1) (CX12_sortsAll (d := d + 1) hG) ?_
      obtain ⟨hc, hF⟩ := gd_of hF
      refine RN.blk (ops := [(30, .aload_n 0), (31, .getfield 64), (34, .iconst 0), (35, .aload_n 0), (36, .getfield 411), (39, .iastore), (40, .aload_n 0), (41, .getfield 64), (44, .iconst 1), (45, .aload_n 0), (46, .getfield 408), (49, .iastore)]) (pc' := 50) (lv' := [(0, .inr (.inr t)), (1, .inl a1)]) (st' := []) (h' := (m_wr (m_wr h6 (m_rd h6 t 33) 0 (m_rd h6 t 31)) (m_rd (m_wr h6 (m_rd h6 t 33) 0 (m_rd h6 t 31)) t 33) 1 (m_rd (m_wr h6 (m_rd h6 t 33) 0 (m_rd h6 t 31)) t 32))) (cs := [GK h6 t 12, GK h6 t 12, GI h6 (m_rd h6 t 33) 1 0, GK h6 t 12, GK h6 t 12, GI h6 (m_rd (m_wr h6 (m_rd h6 t 33) 0 (m_rd h6 t 31)) t 33) 1 1]) (by decide +kernel) rfl hc ?_
      obtain ⟨h7, he, hF⟩ := hl_of hF
      refine RN.hl he ?_
      refine RN.blk (ops := [(50, .iconst 2), (51, .istore_n 2)]) (pc' := 52) (lv' := [(2, .inl 2), (0, .inr (.inr t)), (1, .inl a1)]) (st' := []) (h' := h7) (cs := []) (by decide +kernel) rfl trivial ?_
      refine RN.sub (CX12_one_L52 ?_ _ _ _ hF) (sub_cons rfl (sub_cons rfl (sub_cons rfl sub_nil)))
      · intro h8 hF
        refine RN.blk (ops := [(70, .iconst 0), (71, .istore_n 2)]) (pc' := 72) (lv' := [(2, .inl 0), (0, .inr (.inr t)), (1, .inl a1)]) (st' := []) (h' := h8) (cs := []) (by decide +kernel) rfl trivial ?_
        refine RN.sub (CX12_one_L72 ?_ _ _ _ hF) (sub_cons rfl (sub_cons rfl (sub_cons rfl sub_nil)))
        · intro h9 hF
          obtain ⟨hc, hF⟩ := gd_of hF
          refine RN.blk (ops := [(138, .aload_n 0), (139, .getfield 64), (142, .iload_n 1), (143, .iaload)]) (pc' := 144) (lv' := [(0, .inr (.inr t)), (1, .inl a1)]) (st' := [.inl (m_rd h9 (m_rd h9 t 33) a1)]) (h' := h9) (cs := [GK h9 t 12, GI h9 (m_rd h9 t 33) 1 a1]) (by decide +kernel) rfl hc ?_
          exact RN.iR (by decide +kernel) rfl hF
noncomputable def FX12_changes_L2 (u0 : Int) (u1 : Int) (u2 : Int) (K0 : MH → Option (MH)) : Nat → Int → MH → Option (MH)
  | 0, _, _ => none
  | f + 1, v3, h =>
    gd [GK h u0 12, GI h (m_rd h u0 20) 1 13] (
     (if v3 < (m_rd h (m_rd h u0 20) 13) then
      gd [GK h u0 12, GI h (m_rd h u0 20) 1 (m_w32 ((m_w32 (46 + (m_w32 (3 * v3)))) + 2))] (
       (if (m_rd h (m_rd h u0 20) (m_w32 ((m_w32 (46 + (m_w32 (3 * v3)))) + 2))) = u1 then
        gd [GK h u0 12, GI h (m_rd h u0 20) 1 (m_w32 ((m_w32 (46 + (m_w32 (3 * v3)))) + 2))] (
         hl (m_wr h (m_rd h u0 20) (m_w32 ((m_w32 (46 + (m_w32 (3 * v3)))) + 2)) u2) (fun h1 =>
          FX12_changes_L2 u0 u1 u2 K0 f (m_w32 (v3 + 1)) h1))
       else
        gd [GK h u0 12, GI h (m_rd h u0 20) 1 (m_w32 ((m_w32 (46 + (m_w32 (3 * v3)))) + 2))] (
         (if (m_rd h (m_rd h u0 20) (m_w32 ((m_w32 (46 + (m_w32 (3 * v3)))) + 2))) = u2 then
          gd [GK h u0 12, GI h (m_rd h u0 20) 1 (m_w32 ((m_w32 (46 + (m_w32 (3 * v3)))) + 2))] (
           FX12_changes_L2 u0 u1 u2 K0 f (m_w32 (v3 + 1)) (m_wr h (m_rd h u0 20) (m_w32 ((m_w32 (46 + (m_w32 (3 * v3)))) + 2)) u1))
         else
          FX12_changes_L2 u0 u1 u2 K0 f (m_w32 (v3 + 1)) h))))
     else
      K0 h))
theorem CX12_changes_L2 {d : Nat} {u0 : Int} {u1 : Int} {u2 : Int} {K0 : MH → Option (MH)} {r : MH} (hK0 : ∀ (h : MH), K0 h = some r → RN xs L iX12_changes (d) 70 [] [] h (RVo r)) : ∀ (f : Nat) (v3 : Int) (h : MH), FX12_changes_L2 u0 u1 u2 K0 f v3 h = some r → RN xs L iX12_changes (d) 2 [(0, .inr (.inr u0)), (1, .inl u1), (2, .inl u2), (3, .inl v3)] [] h (RVo r) := by
  intro f
  induction f with
  | zero =>
    intro v3 h hF
    cases hF
  | succ f ih =>
    intro v3 h hF
    unfold FX12_changes_L2 at hF
    obtain ⟨hc, hF⟩ := gd_of hF
    refine RN.blk (ops := [(2, .iload_n 3), (3, .aload_n 0), (4, .getfield 39), (7, .bipush 13), (9, .iaload)]) (pc' := 10) (lv' := [(0, .inr (.inr u0)), (1, .inl u1), (2, .inl u2), (3, .inl v3)]) (st' := [.inl (m_rd h (m_rd h u0 20) 13), .inl v3]) (h' := h) (cs := [GK h u0 12, GI h (m_rd h u0 20) 1 13]) (by decide +kernel) rfl hc ?_
    rcases it_of hF with ⟨hb, hF⟩ | ⟨hb, hF⟩
    · refine RN.icf (cd := .ge) (off := 60) (tgt := 70) (by decide +kernel) (mif_gen hb) ?_
      obtain ⟨hc, hF⟩ := gd_of hF
      refine RN.blk (ops := [(13, .bipush 46), (15, .iconst 3), (16, .iload_n 3), (17, .imul), (18, .iadd), (19, .iconst 2), (20, .iadd), (21, .istore 4), (23, .aload_n 0), (24, .getfield 39), (27, .iload 4), (29, .iaload), (30, .iload_n 1)]) (pc' := 31) (lv' := [(4, .inl (m_w32 ((m_w32 (46 + (m_w32 (3 * v3)))) + 2))), (0, .inr (.inr u0)), (1, .inl u1), (2, .inl u2), (3, .inl v3)]) (st' := [.inl u1, .inl (m_rd h (m_rd h u0 20) (m_w32 ((m_w32 (46 + (m_w32 (3 * v3)))) + 2)))]) (h' := h) (cs := [GK h u0 12, GI h (m_rd h u0 20) 1 (m_w32 ((m_w32 (46 + (m_w32 (3 * v3)))) + 2))]) (by decide +kernel) rfl hc ?_
      rcases it_of hF with ⟨hb, hF⟩ | ⟨hb, hF⟩
      · refine RN.icf (cd := .ne) (off := 14) (tgt := 45) (by decide +kernel) (mif_nen hb) ?_
        obtain ⟨hc, hF⟩ := gd_of hF
        refine RN.blk (ops := [(34, .aload_n 0), (35, .getfield 39), (38, .iload 4), (40, .iload_n 2), (41, .iastore)]) (pc' := 42) (lv' := [(4, .inl (m_w32 ((m_w32 (46 + (m_w32 (3 * v3)))) + 2))), (0, .inr (.inr u0)), (1, .inl u1), (2, .inl u2), (3, .inl v3)]) (st' := []) (h' := (m_wr h (m_rd h u0 20) (m_w32 ((m_w32 (46 + (m_w32 (3 * v3)))) + 2)) u2)) (cs := [GK h u0 12, GI h (m_rd h u0 20) 1 (m_w32 ((m_w32 (46 + (m_w32 (3 * v3)))) + 2))]) (by decide +kernel) rfl hc ?_
        obtain ⟨h1, he, hF⟩ := hl_of hF
        refine RN.hl he ?_
        refine RN.goto (off := 22) (tgt := 64) (by decide +kernel) ?_
        refine RN.blk (ops := [(64, .iinc 3 1)]) (pc' := 67) (lv' := [(3, .inl (m_w32 (v3 + 1))), (4, .inl (m_w32 ((m_w32 (46 + (m_w32 (3 * v3)))) + 2))), (0, .inr (.inr u0)), (1, .inl u1), (2, .inl u2)]) (st' := []) (h' := h1) (cs := []) (by decide +kernel) rfl trivial ?_
        refine RN.goto (off := -65) (tgt := 2) (by decide +kernel) ?_
        exact RN.sub (ih _ _ hF) (sub_cons rfl (sub_cons rfl (sub_cons rfl (sub_cons rfl sub_nil))))
      · refine RN.ict (cd := .ne) (off := 14) (tgt := 45) (by decide +kernel) (mif_ne hb) ?_
        obtain ⟨hc, hF⟩ := gd_of hF
        refine RN.blk (ops := [(45, .aload_n 0), (46, .getfield 39), (49, .iload 4), (51, .iaload), (52, .iload_n 2)]) (pc' := 53) (lv' := [(4, .inl (m_w32 ((m_w32 (46 + (m_w32 (3 * v3)))) + 2))), (0, .inr (.inr u0)), (1, .inl u1), (2, .inl u2), (3, .inl v3)]) (st' := [.inl u2, .inl (m_rd h (m_rd h u0 20) (m_w32 ((m_w32 (46 + (m_w32 (3 * v3)))) + 2)))]) (h' := h) (cs := [GK h u0 12, GI h (m_rd h u0 20) 1 (m_w32 ((m_w32 (46 + (m_w32 (3 * v3)))) + 2))]) (by decide +kernel) rfl hc ?_
        rcases it_of hF with ⟨hb, hF⟩ | ⟨hb, hF⟩
        · refine RN.icf (cd := .ne) (off := 11) (tgt := 64) (by decide +kernel) (mif_nen hb) ?_
          obtain ⟨hc, hF⟩ := gd_of hF
          refine RN.blk (ops := [(56, .aload_n 0), (57, .getfield 39), (60, .iload 4), (62, .iload_n 1), (63, .iastore)]) (pc' := 64) (lv' := [(4, .inl (m_w32 ((m_w32 (46 + (m_w32 (3 * v3)))) + 2))), (0, .inr (.inr u0)), (1, .inl u1), (2, .inl u2), (3, .inl v3)]) (st' := []) (h' := (m_wr h (m_rd h u0 20) (m_w32 ((m_w32 (46 + (m_w32 (3 * v3)))) + 2)) u1)) (cs := [GK h u0 12, GI h (m_rd h u0 20) 1 (m_w32 ((m_w32 (46 + (m_w32 (3 * v3)))) + 2))]) (by decide +kernel) rfl hc ?_
          refine RN.blk (ops := [(64, .iinc 3 1)]) (pc' := 67) (lv' := [(3, .inl (m_w32 (v3 + 1))), (4, .inl (m_w32 ((m_w32 (46 + (m_w32 (3 * v3)))) + 2))), (0, .inr (.inr u0)), (1, .inl u1), (2, .inl u2)]) (st' := []) (h' := (m_wr h (m_rd h u0 20) (m_w32 ((m_w32 (46 + (m_w32 (3 * v3)))) + 2)) u1)) (cs := []) (by decide +kernel) rfl trivial ?_
          refine RN.goto (off := -65) (tgt := 2) (by decide +kernel) ?_
          exact RN.sub (ih _ _ hF) (sub_cons rfl (sub_cons rfl (sub_cons rfl (sub_cons rfl sub_nil))))
        · refine RN.ict (cd := .ne) (off := 11) (tgt := 64) (by decide +kernel) (mif_ne hb) ?_
          refine RN.blk (ops := [(64, .iinc 3 1)]) (pc' := 67) (lv' := [(3, .inl (m_w32 (v3 + 1))), (4, .inl (m_w32 ((m_w32 (46 + (m_w32 (3 * v3)))) + 2))), (0, .inr (.inr u0)), (1, .inl u1), (2, .inl u2)]) (st' := []) (h' := h) (cs := []) (by decide +kernel) rfl trivial ?_
          refine RN.goto (off := -65) (tgt := 2) (by decide +kernel) ?_
          exact RN.sub (ih _ _ hF) (sub_cons rfl (sub_cons rfl (sub_cons rfl (sub_cons rfl sub_nil))))
    · refine RN.ict (cd := .ge) (off := 60) (tgt := 70) (by decide +kernel) (mif_ge hb) ?_
      exact RN.sub (hK0 _ hF) sub_nil
noncomputable def FX12_changes (t : Int) (a1 : Int) (a2 : Int) (h : MH) : Option (MH) :=
  FX12_changes_L2 t a1 a2 (fun h1 =>
   some h1) FU 0 h
theorem CX12_changes {d : Nat} {t : Int} {a1 : Int} {a2 : Int} {h : MH} {r : MH} (hF : FX12_changes t a1 a2 h = some r) : RN xs L iX12_changes (d) 0 (lvE 0 [.inr (.inr t), .inl a1, .inl a2]) [] h (RVo r) := by
  unfold FX12_changes at hF
  refine RN.blk (ops := [(0, .iconst 0), (1, .istore_n 3)]) (pc' := 2) (lv' := [(3, .inl 0), (0, .inr (.inr t)), (1, .inl a1), (2, .inl a2)]) (st' := []) (h' := h) (cs := []) (by decide +kernel) rfl trivial ?_
  refine RN.sub (CX12_changes_L2 ?_ _ _ _ hF) (sub_cons rfl (sub_cons rfl (sub_cons rfl (sub_cons rfl sub_nil))))
  · intro h1 hF
    exact RN.vR (by decide +kernel) rfl hF
noncomputable def FX12_change_L60 (u0 : Int) (u1 : Int) (u5 : Int) (K0 : Int → Int → Int → MH → Option (Int × MH)) : Nat → Int → Int → Int → Int → MH → Option (Int × MH)
  | 0, _, _, _, _, _ => none
  | f + 1, v2, v3, v4, v6, h =>
    gd [GK h u0 12, GI h (m_rd h u0 20) 1 3] (
     (if v6 < (m_rd h (m_rd h u0 20) 3) then
      gd [GK h u0 12] (bv (FX12_changes u0 u5 v6 h) (fun h1 =>
       gd [GK h1 u0 12] (bv (FX12_sortsAll u0 h1) (fun h2 =>
        gd [GK h2 u0 12] (
         (if (m_rd h2 u0 32) < v2 then
          gd [GK h2 u0 12] (
           FX12_change_L60 u0 u1 u5 K0 f (m_rd h2 u0 32) u5 v6 (m_w32 (v6 + 1)) h2)
         else
          FX12_change_L60 u0 u1 u5 K0 f v2 v3 v4 (m_w32 (v6 + 1)) h2))))))
     else
      K0 v2 v3 v4 h))
theorem CX12_change_L60 {d : Nat} {u0 : Int} {u1 : Int} {u5 : Int} {K0 : Int → Int → Int → MH → Option (Int × MH)} {r : Int × MH} (hK0 : ∀ (w2 : Int) (w3 : Int) (w4 : Int) (h : MH), K0 w2 w3 w4 h = some r → RN xs L iX12_change (d + 6) 112 [(0, .inr (.inr u0)), (1, .inl u1), (2, .inl w2), (3, .inl w3), (4, .inl w4), (5, .inl u5)] [] h (RIo r)) : ∀ (f : Nat) (v2 : Int) (v3 : Int) (v4 : Int) (v6 : Int) (h : MH), FX12_change_L60 u0 u1 u5 K0 f v2 v3 v4 v6 h = some r → RN xs L iX12_change (d + 6) 60 [(0, .inr (.inr u0)), (1, .inl u1), (2, .inl v2), (3, .inl v3), (4, .inl v4), (5, .inl u5), (6, .inl v6)] [] h (RIo r) := by
  intro f
  induction f with
  | zero =>
    intro v2 v3 v4 v6 h hF
    cases hF
  | succ f ih =>
    intro v2 v3 v4 v6 h hF
    unfold FX12_change_L60 at hF
    obtain ⟨hc, hF⟩ := gd_of hF
    refine RN.blk (ops := [(60, .iload 6), (62, .aload_n 0), (63, .getfield 39), (66, .iconst 3), (67, .iaload)]) (pc' := 68) (lv' := [(0, .inr (.inr u0)), (1, .inl u1), (2, .inl v2), (3, .inl v3), (4, .inl v4), (5, .inl u5), (6, .inl v6)]) (st' := [.inl (m_rd h (m_rd h u0 20) 3), .inl v6]) (h' := h) (cs := [GK h u0 12, GI h (m_rd h u0 20) 1 3]) (by decide +kernel) rfl hc ?_
    rcases it_of hF with ⟨hb, hF⟩ | ⟨hb, hF⟩
    · refine RN.icf (cd := .ge) (off := 44) (tgt := 112) (by decide +kernel) (mif_gen hb) ?_
      refine RN.blk (ops := [(71, .aload_n 0), (72, .iload 5), (74, .iload 6)]) (pc' := 76) (lv' := [(0, .inr (.inr u0)), (1, .inl u1), (2, .inl v2), (3, .inl v3), (4, .inl v4), (5, .inl u5), (6, .inl v6)]) (st' := [.inl v6, .inl u5, .inr (.inr u0)]) (h' := h) (cs := []) (by decide +kernel) rfl trivial ?_
      obtain ⟨hc, hF⟩ := gd_of hF
      obtain ⟨h1, hG, hF⟩ := bv_of hF
      refine RN.cv (i := 429) (k := 258) (q2 := iX12_changes) (as := [.inr (.inr u0), .inl u5, .inl v6]) (r := []) (v := none) (h1 := h1) (by decide +kernel) rfl rfl rfl rfl rfl (rcv_ok hc.1) (CX12_changes (d := d + 5) hG) ?_
      refine RN.blk (ops := [(79, .aload_n 0)]) (pc' := 80) (lv' := [(0, .inr (.inr u0)), (1, .inl u1), (2, .inl v2), (3, .inl v3), (4, .inl v4), (5, .inl u5), (6, .inl v6)]) (st' := [.inr (.inr u0)]) (h' := h1) (cs := []) (by decide +kernel) rfl trivial ?_
      obtain ⟨hc, hF⟩ := gd_of hF
      obtain ⟨h2, hG, hF⟩ := bv_of hF
      refine RN.cv (i := 417) (k := 255) (q2 := iX12_sortsAll) (as := [.inr (.inr u0)]) (r := []) (v := none) (h1 := h2) (by decide +kernel) rfl rfl rfl rfl rfl (rcv_ok hc.1) (CX12_sortsAll (d := d) hG) ?_
      obtain ⟨hc, hF⟩ := gd_of hF
      refine RN.blk (ops := [(83, .aload_n 0), (84, .getfield 408), (87, .iload_n 2)]) (pc' := 88) (lv' := [(0, .inr (.inr u0)), (1, .inl u1), (2, .inl v2), (3, .inl v3), (4, .inl v4), (5, .inl u5), (6, .inl v6)]) (st' := [.inl v2, .inl (m_rd h2 u0 32)]) (h' := h2) (cs := [GK h2 u0 12]) (by decide +kernel) rfl hc ?_
      rcases it_of hF with ⟨hb, hF⟩ | ⟨hb, hF⟩
      · refine RN.ict (cd := .lt) (off := 6) (tgt := 94) (by decide +kernel) (mif_lt hb) ?_
        obtain ⟨hc, hF⟩ := gd_of hF
        refine RN.blk (ops := [(94, .aload_n 0), (95, .getfield 408), (98, .istore_n 2), (99, .iload 5), (101, .istore_n 3), (102, .iload 6), (104, .istore 4)]) (pc' := 106) (lv' := [(4, .inl v6), (3, .inl u5), (2, .inl (m_rd h2 u0 32)), (0, .inr (.inr u0)), (1, .inl u1), (5, .inl u5), (6, .inl v6)]) (st' := []) (h' := h2) (cs := [GK h2 u0 12]) (by decide +kernel) rfl hc ?_
        refine RN.blk (ops := [(106, .iinc 6 1)]) (pc' := 109) (lv' := [(6, .inl (m_w32 (v6 + 1))), (4, .inl v6), (3, .inl u5), (2, .inl (m_rd h2 u0 32)), (0, .inr (.inr u0)), (1, .inl u1), (5, .inl u5)]) (st' := []) (h' := h2) (cs := []) (by decide +kernel) rfl trivial ?_
        refine RN.goto (off := -49) (tgt := 60) (by decide +kernel) ?_
        exact RN.sub (ih _ _ _ _ _ hF) (sub_cons rfl (sub_cons rfl (sub_cons rfl (sub_cons rfl (sub_cons rfl (sub_cons rfl (sub_cons rfl sub_nil)))))))
      · refine RN.icf (cd := .lt) (off := 6) (tgt := 94) (by decide +kernel) (mif_ltn hb) ?_
        refine RN.goto (off := 15) (tgt := 106) (by decide +kernel) ?_
        refine RN.blk (ops := [(106, .iinc 6 1)]) (pc' := 109) (lv' := [(6, .inl (m_w32 (v6 + 1))), (0, .inr (.inr u0)), (1, .inl u1), (2, .inl v2), (3, .inl v3), (4, .inl v4), (5, .inl u5)]) (st' := []) (h' := h2) (cs := []) (by decide +kernel) rfl trivial ?_
        refine RN.goto (off := -49) (tgt := 60) (by decide +kernel) ?_
        exact RN.sub (ih _ _ _ _ _ hF) (sub_cons rfl (sub_cons rfl (sub_cons rfl (sub_cons rfl (sub_cons rfl (sub_cons rfl (sub_cons rfl sub_nil)))))))
    · refine RN.ict (cd := .ge) (off := 44) (tgt := 112) (by decide +kernel) (mif_ge hb) ?_
      exact RN.sub (hK0 _ _ _ _ hF) (sub_cons rfl (sub_cons rfl (sub_cons rfl (sub_cons rfl (sub_cons rfl (sub_cons rfl sub_nil))))))
noncomputable def FX12_change_L43 (u0 : Int) (u1 : Int) (K0 : Int → Int → Int → MH → Option (Int × MH)) : Nat → Int → Int → Int → Int → MH → Option (Int × MH)
  | 0, _, _, _, _, _ => none
  | f + 1, v2, v3, v4, v5, h =>
    gd [GK h u0 12, GI h (m_rd h u0 20) 1 3] (
     (if v5 < (m_rd h (m_rd h u0 20) 3) then
      FX12_change_L60 u0 u1 v5 (fun w1 w2 w3 h4 =>
       FX12_change_L43 u0 u1 K0 f w1 w2 w3 (m_w32 (v5 + 1)) h4) FU v2 v3 v4 (m_w32 (v5 + 1)) h
     else
      K0 v2 v3 v4 h))
theorem CX12_change_L43 {d : Nat} {u0 : Int} {u1 : Int} {K0 : Int → Int → Int → MH → Option (Int × MH)} {r : Int × MH} (hK0 : ∀ (w2 : Int) (w3 : Int) (w4 : Int) (h : MH), K0 w2 w3 w4 h = some r → RN xs L iX12_change (d + 6) 118 [(1, .inl u1), (2, .inl w2), (3, .inl w3), (4, .inl w4)] [] h (RIo r)) : ∀ (f : Nat) (v2 : Int) (v3 : Int) (v4 : Int) (v5 : Int) (h : MH), FX12_change_L43 u0 u1 K0 f v2 v3 v4 v5 h = some r → RN xs L iX12_change (d + 6) 43 [(0, .inr (.inr u0)), (1, .inl u1), (2, .inl v2), (3, .inl v3), (4, .inl v4), (5, .inl v5)] [] h (RIo r) := by
  intro f
  induction f with
  | zero =>
    intro v2 v3 v4 v5 h hF
    cases hF
  | succ f ih =>
    intro v2 v3 v4 v5 h hF
    unfold FX12_change_L43 at hF
    obtain ⟨hc, hF⟩ := gd_of hF
    refine RN.blk (ops := [(43, .iload 5), (45, .aload_n 0), (46, .getfield 39), (49, .iconst 3), (50, .iaload)]) (pc' := 51) (lv' := [(0, .inr (.inr u0)), (1, .inl u1), (2, .inl v2), (3, .inl v3), (4, .inl v4), (5, .inl v5)]) (st' := [.inl (m_rd h (m_rd h u0 20) 3), .inl v5]) (h' := h) (cs := [GK h u0 12, GI h (m_rd h u0 20) 1 3]) (by decide +kernel) rfl hc ?_
    rcases it_of hF with ⟨hb, hF⟩ | ⟨hb, hF⟩
    · refine RN.icf (cd := .ge) (off := 67) (tgt := 118) (by decide +kernel) (mif_gen hb) ?_
      refine RN.blk (ops := [(54, .iload 5), (56, .iconst 1), (57, .iadd), (58, .istore 6)]) (pc' := 60) (lv' := [(6, .inl (m_w32 (v5 + 1))), (0, .inr (.inr u0)), (1, .inl u1), (2, .inl v2), (3, .inl v3), (4, .inl v4), (5, .inl v5)]) (st' := []) (h' := h) (cs := []) (by decide +kernel) rfl trivial ?_
      refine RN.sub (CX12_change_L60 ?_ _ _ _ _ _ _ hF) (sub_cons rfl (sub_cons rfl (sub_cons rfl (sub_cons rfl (sub_cons rfl (sub_cons rfl (sub_cons rfl sub_nil)))))))
      · intro w1 w2 w3 h4 hF
        refine RN.blk (ops := [(112, .iinc 5 1)]) (pc' := 115) (lv' := [(5, .inl (m_w32 (v5 + 1))), (0, .inr (.inr u0)), (1, .inl u1), (2, .inl w1), (3, .inl w2), (4, .inl w3)]) (st' := []) (h' := h4) (cs := []) (by decide +kernel) rfl trivial ?_
        refine RN.goto (off := -72) (tgt := 43) (by decide +kernel) ?_
        exact RN.sub (ih _ _ _ _ _ hF) (sub_cons rfl (sub_cons rfl (sub_cons rfl (sub_cons rfl (sub_cons rfl (sub_cons rfl sub_nil))))))
    · refine RN.ict (cd := .ge) (off := 67) (tgt := 118) (by decide +kernel) (mif_ge hb) ?_
      exact RN.sub (hK0 _ _ _ _ hF) (sub_cons rfl (sub_cons rfl (sub_cons rfl (sub_cons rfl sub_nil))))
noncomputable def FX12_change (t : Int) (a1 : Int) (h : MH) : Option (Int × MH) :=
  gd [GK h t 12] (bd (FX12_isFrame t h) (fun x2 h1 =>
   (if x2 = 0 then
    some ((-2), h1)
   else
    (bd (FX12_in a1 0 2 h1) (fun x4 h3 =>
     (if x4 = 0 then
      some ((-2), h3)
     else
      gd [GK h3 t 12] (bv (FX12_keeps t h3) (fun h5 =>
       gd [GK h5 t 12] (bv (FX12_sortsAll t h5) (fun h6 =>
        gd [GK h6 t 12] (
         FX12_change_L43 t a1 (fun w7 w8 w9 h10 =>
          (if a1 = 0 then
           some (w7, h10)
          else
           (if a1 = 1 then
            some (w8, h10)
           else
            some (w9, h10)))) FU (m_rd h6 t 32) (-1) (-1) 0 h6)))))))))))
theorem CX12_change {d : Nat} {t : Int} {a1 : Int} {h : MH} {r : Int × MH} (hF : FX12_change t a1 h = some r) : RN xs L iX12_change (d + 6) 0 (lvE 0 [.inr (.inr t), .inl a1]) [] h (RIo r) := by
  unfold FX12_change at hF
  refine RN.blk (ops := [(0, .aload_n 0)]) (pc' := 1) (lv' := [(0, .inr (.inr t)), (1, .inl a1)]) (st' := [.inr (.inr t)]) (h' := h) (cs := []) (by decide +kernel) rfl trivial ?_
  obtain ⟨hc, hF⟩ := gd_of hF
  obtain ⟨x2, h1, hG, hF⟩ := bd_of hF
  refine RN.cv (i := 295) (k := 202) (q2 := iX12_isFrame) (as := [.inr (.inr t)]) (r := []) (v := some (.inl x2)) (h1 := h1) (by decide +kernel) rfl rfl rfl rfl rfl (rcv_ok hc.1) (CX12_isFrame (d := d + 5) hG) ?_
  rcases it_of hF with ⟨hb, hF⟩ | ⟨hb, hF⟩
  · refine RN.ift (cd := .eq) (off := 15) (tgt := 19) (by decide +kernel) (mif_eq hb) ?_
    refine RN.blk (ops := [(19, .bipush (-2))]) (pc' := 21) (lv' := [(0, .inr (.inr t)), (1, .inl a1)]) (st' := [.inl (-2)]) (h' := h1) (cs := []) (by decide +kernel) rfl trivial ?_
    exact RN.iR (by decide +kernel) rfl hF
  · refine RN.iff (cd := .eq) (off := 15) (tgt := 19) (by decide +kernel) (mif_eqn hb) ?_
    refine RN.blk (ops := [(7, .iload_n 1), (8, .i2l), (9, .lconst 0), (10, .ldc2_w 313)]) (pc' := 13) (lv' := [(0, .inr (.inr t)), (1, .inl a1)]) (st' := [.inr (.inl 2), .inr (.inl 0), .inr (.inl a1)]) (h' := h1) (cs := []) (by decide +kernel) rfl trivial ?_
    obtain ⟨x4, h3, hG, hF⟩ := bd_of hF
    refine RN.cst (i := 127) (k := 156) (q2 := iX12_in) (as := [.inr (.inl a1), .inr (.inl 0), .inr (.inl 2)]) (r := []) (v := some (.inl x4)) (h1 := h3) (by decide +kernel) rfl rfl rfl rfl rfl (CX12_in (d := d + 5) hG) ?_
    rcases it_of hF with ⟨hb, hF⟩ | ⟨hb, hF⟩
    · refine RN.iff (cd := .ne) (off := 6) (tgt := 22) (by decide +kernel) (mif_nen hb) ?_
      refine RN.blk (ops := [(19, .bipush (-2))]) (pc' := 21) (lv' := [(0, .inr (.inr t)), (1, .inl a1)]) (st' := [.inl (-2)]) (h' := h3) (cs := []) (by decide +kernel) rfl trivial ?_
      exact RN.iR (by decide +kernel) rfl hF
    · refine RN.ift (cd := .ne) (off := 6) (tgt := 22) (by decide +kernel) (mif_ne hb) ?_
      refine RN.blk (ops := [(22, .aload_n 0)]) (pc' := 23) (lv' := [(0, .inr (.inr t)), (1, .inl a1)]) (st' := [.inr (.inr t)]) (h' := h3) (cs := []) (by decide +kernel) rfl trivial ?_
      obtain ⟨hc, hF⟩ := gd_of hF
      obtain ⟨h5, hG, hF⟩ := bv_of hF
      refine RN.cv (i := 422) (k := 253) (q2 := iX12_keeps) (as := [.inr (.inr t)]) (r := []) (v := none) (h1 := h5) (by decide +kernel) rfl rfl rfl rfl rfl (rcv_ok hc.1) (CX12_keeps (d := d + 5) hG) ?_
      refine RN.blk (ops := [(26, .aload_n 0)]) (pc' := 27) (lv' := [(0, .inr (.inr t)), (1, .inl a1)]) (st' := [.inr (.inr t)]) (h' := h5) (cs := []) (by decide +kernel) rfl trivial ?_
      obtain ⟨hc, hF⟩ := gd_of hF
      obtain ⟨h6, hG, hF⟩ := bv_of hF
      refine RN.cv (i := 417) (k := 255) (q2 := iX12_sortsAll) (as := [.inr (.inr t)]) (r := []) (v := none) (h1 := h6) (by decide +kernel) rfl rfl rfl rfl rfl (rcv_ok hc.1) (CX12_sortsAll (d := d) hG) ?_
      obtain ⟨hc, hF⟩ := gd_of hF
      refine RN.blk (ops := [(30, .aload_n 0), (31, .getfield 408), (34, .istore_n 2), (35, .iconst (-1)), (36, .istore_n 3), (37, .iconst (-1)), (38, .istore 4), (40, .iconst 0), (41, .istore 5)]) (pc' := 43) (lv' := [(5, .inl 0), (4, .inl (-1)), (3, .inl (-1)), (2, .inl (m_rd h6 t 32)), (0, .inr (.inr t)), (1, .inl a1)]) (st' := []) (h' := h6) (cs := [GK h6 t 12]) (by decide +kernel) rfl hc ?_
      refine RN.sub (CX12_change_L43 ?_ _ _ _ _ _ _ hF) (sub_cons rfl (sub_cons rfl (sub_cons rfl (sub_cons rfl (sub_cons rfl (sub_cons rfl sub_nil))))))
      · intro w7 w8 w9 h10 hF
        refine RN.blk (ops := [(118, .iload_n 1)]) (pc' := 119) (lv' := [(1, .inl a1), (2, .inl w7), (3, .inl w8), (4, .inl w9)]) (st' := [.inl a1]) (h' := h10) (cs := []) (by decide +kernel) rfl trivial ?_
        rcases it_of hF with ⟨hb, hF⟩ | ⟨hb, hF⟩
        · refine RN.iff (cd := .ne) (off := 7) (tgt := 126) (by decide +kernel) (mif_nen hb) ?_
          refine RN.blk (ops := [(122, .iload_n 2)]) (pc' := 123) (lv' := [(1, .inl a1), (2, .inl w7), (3, .inl w8), (4, .inl w9)]) (st' := [.inl w7]) (h' := h10) (cs := []) (by decide +kernel) rfl trivial ?_
          refine RN.goto (off := 14) (tgt := 137) (by decide +kernel) ?_
          exact RN.iR (by decide +kernel) rfl hF
        · refine RN.ift (cd := .ne) (off := 7) (tgt := 126) (by decide +kernel) (mif_ne hb) ?_
          refine RN.blk (ops := [(126, .iload_n 1), (127, .iconst 1)]) (pc' := 128) (lv' := [(1, .inl a1), (2, .inl w7), (3, .inl w8), (4, .inl w9)]) (st' := [.inl 1, .inl a1]) (h' := h10) (cs := []) (by decide +kernel) rfl trivial ?_
          rcases it_of hF with ⟨hb, hF⟩ | ⟨hb, hF⟩
          · refine RN.icf (cd := .ne) (off := 7) (tgt := 135) (by decide +kernel) (mif_nen hb) ?_
            refine RN.blk (ops := [(131, .iload_n 3)]) (pc' := 132) (lv' := [(1, .inl a1), (2, .inl w7), (3, .inl w8), (4, .inl w9)]) (st' := [.inl w8]) (h' := h10) (cs := []) (by decide +kernel) rfl trivial ?_
            refine RN.goto (off := 5) (tgt := 137) (by decide +kernel) ?_
            exact RN.iR (by decide +kernel) rfl hF
          · refine RN.ict (cd := .ne) (off := 7) (tgt := 135) (by decide +kernel) (mif_ne hb) ?_
            refine RN.blk (ops := [(135, .iload 4)]) (pc' := 137) (lv' := [(1, .inl a1), (2, .inl w7), (3, .inl w8), (4, .inl w9)]) (st' := [.inl w9]) (h' := h10) (cs := []) (by decide +kernel) rfl trivial ?_
            exact RN.iR (by decide +kernel) rfl hF
noncomputable def FX12_ahead (t : Int) (a1 : Int) (a2 : Int) (a3 : Int) (h : MH) : Option (Int × MH) :=
  gd [GK h t 12] (bd (FX12_isFrame t h) (fun x2 h1 =>
   (if x2 = 0 then
    some ((-1), h1)
   else
    (bd (FX12_in a2 0 100 h1) (fun x4 h3 =>
     (if x4 = 0 then
      some ((-1), h3)
     else
      (bd (FX12_in a3 0 3 h3) (fun x6 h5 =>
       (if x6 = 0 then
        some ((-1), h5)
       else
        jn (fun (h8 : MH) =>
         gd [GK h8 t 12] (bv (FX12_keeps t h8) (fun h9 =>
          gd [GK h9 t 12] (bv (FX12_passesAll t a2 h9) (fun h10 =>
           jn (fun (s12 : Int) (h13 : MH) =>
            gd [GK h13 t 12] (bv (FX12_laysBack t h13) (fun h14 =>
             some (s12, h14)))) (fun j11 =>
            (if a3 = 0 then
             gd [GK h10 t 12, GI h10 (m_rd h10 t 20) 1 (m_w32 (14 + a1))] (
              j11 (m_rd h10 (m_rd h10 t 20) (m_w32 (14 + a1))) h10)
            else
             (if a3 = 1 then
              gd [GK h10 t 12, GI h10 (m_rd h10 t 20) 1 12] (
               j11 (m_rd h10 (m_rd h10 t 20) 12) h10)
             else
              (if a3 = 2 then
               gd [GK h10 t 12] (bd (FX12_sumOver t 20 h10) (fun x16 h15 =>
                j11 x16 h15))
              else
               gd [GK h10 t 12, GI h10 (m_rd h10 t 20) 1 11] (
                j11 (m_rd h10 (m_rd h10 t 20) 11) h10)))))))))) (fun j7 =>
         (if a3 = 0 then
          gd [GK h5 t 12] (bd (FX12_isHole t a1 h5) (fun x18 h17 =>
           (if x18 = 0 then
            some ((-1), h17)
           else
            j7 h17)))
         else
          j7 h5)))))))))))
theorem CX12_ahead {d : Nat} {t : Int} {a1 : Int} {a2 : Int} {a3 : Int} {h : MH} {r : Int × MH} (hF : FX12_ahead t a1 a2 a3 h = some r) : RN xs L iX12_ahead (d + 8) 0 (lvE 0 [.inr (.inr t), .inl a1, .inl a2, .inl a3]) [] h (RIo r) := by
  unfold FX12_ahead at hF
  refine RN.blk (ops := [(0, .aload_n 0)]) (pc' := 1) (lv' := [(0, .inr (.inr t)), (1, .inl a1), (2, .inl a2), (3, .inl a3)]) (st' := [.inr (.inr t)]) (h' := h) (cs := []) (by decide +kernel) rfl trivial ?_
  obtain ⟨hc, hF⟩ := gd_of hF
  obtain ⟨x2, h1, hG, hF⟩ := bd_of hF
  refine RN.cv (i := 295) (k := 202) (q2 := iX12_isFrame) (as := [.inr (.inr t)]) (r := []) (v := some (.inl x2)) (h1 := h1) (by decide +kernel) rfl rfl rfl rfl rfl (rcv_ok hc.1) (CX12_isFrame (d := d + 7) hG) ?_
  rcases it_of hF with ⟨hb, hF⟩ | ⟨hb, hF⟩
  · refine RN.ift (cd := .eq) (off := 39) (tgt := 43) (by decide +kernel) (mif_eq hb) ?_
    refine RN.blk (ops := [(43, .iconst (-1))]) (pc' := 44) (lv' := [(0, .inr (.inr t)), (1, .inl a1), (2, .inl a2), (3, .inl a3)]) (st' := [.inl (-1)]) (h' := h1) (cs := []) (by decide +kernel) rfl trivial ?_
    exact RN.iR (by decide +kernel) rfl hF
  · refine RN.iff (cd := .eq) (off := 39) (tgt := 43) (by decide +kernel) (mif_eqn hb) ?_
    refine RN.blk (ops := [(7, .iload_n 2), (8, .i2l), (9, .lconst 0), (10, .ldc2_w 432)]) (pc' := 13) (lv' := [(0, .inr (.inr t)), (1, .inl a1), (2, .inl a2), (3, .inl a3)]) (st' := [.inr (.inl 100), .inr (.inl 0), .inr (.inl a2)]) (h' := h1) (cs := []) (by decide +kernel) rfl trivial ?_
    obtain ⟨x4, h3, hG, hF⟩ := bd_of hF
    refine RN.cst (i := 127) (k := 156) (q2 := iX12_in) (as := [.inr (.inl a2), .inr (.inl 0), .inr (.inl 100)]) (r := []) (v := some (.inl x4)) (h1 := h3) (by decide +kernel) rfl rfl rfl rfl rfl (CX12_in (d := d + 7) hG) ?_
    rcases it_of hF with ⟨hb, hF⟩ | ⟨hb, hF⟩
    · refine RN.ift (cd := .eq) (off := 27) (tgt := 43) (by decide +kernel) (mif_eq hb) ?_
      refine RN.blk (ops := [(43, .iconst (-1))]) (pc' := 44) (lv' := [(0, .inr (.inr t)), (1, .inl a1), (2, .inl a2), (3, .inl a3)]) (st' := [.inl (-1)]) (h' := h3) (cs := []) (by decide +kernel) rfl trivial ?_
      exact RN.iR (by decide +kernel) rfl hF
    · refine RN.iff (cd := .eq) (off := 27) (tgt := 43) (by decide +kernel) (mif_eqn hb) ?_
      refine RN.blk (ops := [(19, .iload_n 3), (20, .i2l), (21, .lconst 0), (22, .ldc2_w 434)]) (pc' := 25) (lv' := [(0, .inr (.inr t)), (1, .inl a1), (2, .inl a2), (3, .inl a3)]) (st' := [.inr (.inl 3), .inr (.inl 0), .inr (.inl a3)]) (h' := h3) (cs := []) (by decide +kernel) rfl trivial ?_
      obtain ⟨x6, h5, hG, hF⟩ := bd_of hF
      refine RN.cst (i := 127) (k := 156) (q2 := iX12_in) (as := [.inr (.inl a3), .inr (.inl 0), .inr (.inl 3)]) (r := []) (v := some (.inl x6)) (h1 := h5) (by decide +kernel) rfl rfl rfl rfl rfl (CX12_in (d := d + 7) hG) ?_
      rcases it_of hF with ⟨hb, hF⟩ | ⟨hb, hF⟩
      · refine RN.ift (cd := .eq) (off := 15) (tgt := 43) (by decide +kernel) (mif_eq hb) ?_
        refine RN.blk (ops := [(43, .iconst (-1))]) (pc' := 44) (lv' := [(0, .inr (.inr t)), (1, .inl a1), (2, .inl a2), (3, .inl a3)]) (st' := [.inl (-1)]) (h' := h5) (cs := []) (by decide +kernel) rfl trivial ?_
        exact RN.iR (by decide +kernel) rfl hF
      · refine RN.iff (cd := .eq) (off := 15) (tgt := 43) (by decide +kernel) (mif_eqn hb) ?_
        refine RN.blk (ops := [(31, .iload_n 3)]) (pc' := 32) (lv' := [(0, .inr (.inr t)), (1, .inl a1), (2, .inl a2), (3, .inl a3)]) (st' := [.inl a3]) (h' := h5) (cs := []) (by decide +kernel) rfl trivial ?_
        refine jn_use (fun j7 => ∀ (h8 : MH), j7 h8 = some r → RN xs L iX12_ahead (d + 8) 45 [(0, .inr (.inr t)), (1, .inl a1), (2, .inl a2), (3, .inl a3)] [] h8 (RIo r)) ?_ ?_ hF
        · intro h8 hF
          refine RN.blk (ops := [(45, .aload_n 0)]) (pc' := 46) (lv' := [(0, .inr (.inr t)), (1, .inl a1), (2, .inl a2), (3, .inl a3)]) (st' := [.inr (.inr t)]) (h' := h8) (cs := []) (by decide +kernel) rfl trivial ?_
          obtain ⟨hc, hF⟩ := gd_of hF
          obtain ⟨h9, hG, hF⟩ := bv_of hF
          refine RN.cv (i := 422) (k := 253) (q2 := iX12_keeps) (as := [.inr (.inr t)]) (r := []) (v := none) (h1 := h9) (by decide +kernel) rfl rfl rfl rfl rfl (rcv_ok hc.1) (CX12_keeps (d := d + 7) hG) ?_
          refine RN.blk (ops := [(49, .aload_n 0), (50, .iload_n 2)]) (pc' := 51) (lv' := [(0, .inr (.inr t)), (1, .inl a1), (2, .inl a2), (3, .inl a3)]) (st' := [.inl a2, .inr (.inr t)]) (h' := h9) (cs := []) (by decide +kernel) rfl trivial ?_
          obtain ⟨hc, hF⟩ := gd_of hF
          obtain ⟨h10, hG, hF⟩ := bv_of hF
          refine RN.cv (i := 436) (k := 223) (q2 := iX12_passesAll) (as := [.inr (.inr t), .inl a2]) (r := []) (v := none) (h1 := h10) (by decide +kernel) rfl rfl rfl rfl rfl (rcv_ok hc.1) (CX12_passesAll (d := d) hG) ?_
          refine RN.blk (ops := [(54, .iload_n 3)]) (pc' := 55) (lv' := [(0, .inr (.inr t)), (1, .inl a1), (2, .inl a2), (3, .inl a3)]) (st' := [.inl a3]) (h' := h10) (cs := []) (by decide +kernel) rfl trivial ?_
          refine jn_use (fun j11 => ∀ (s12 : Int) (h13 : MH), j11 s12 h13 = some r → RN xs L iX12_ahead (d + 8) 106 [(0, .inr (.inr t))] [.inl s12] h13 (RIo r)) ?_ ?_ hF
          · intro s12 h13 hF
            refine RN.blk (ops := [(106, .istore 4), (108, .aload_n 0)]) (pc' := 109) (lv' := [(4, .inl s12), (0, .inr (.inr t))]) (st' := [.inr (.inr t)]) (h' := h13) (cs := []) (by decide +kernel) rfl trivial ?_
            obtain ⟨hc, hF⟩ := gd_of hF
            obtain ⟨h14, hG, hF⟩ := bv_of hF
            refine RN.cv (i := 414) (k := 254) (q2 := iX12_laysBack) (as := [.inr (.inr t)]) (r := []) (v := none) (h1 := h14) (by decide +kernel) rfl rfl rfl rfl rfl (rcv_ok hc.1) (CX12_laysBack (d := d + 7) hG) ?_
            refine RN.blk (ops := [(112, .iload 4)]) (pc' := 114) (lv' := [(4, .inl s12), (0, .inr (.inr t))]) (st' := [.inl s12]) (h' := h14) (cs := []) (by decide +kernel) rfl trivial ?_
            exact RN.iR (by decide +kernel) rfl hF
          · intro j11 Jj11 hF
            rcases it_of hF with ⟨hb, hF⟩ | ⟨hb, hF⟩
            · refine RN.iff (cd := .ne) (off := 15) (tgt := 70) (by decide +kernel) (mif_nen hb) ?_
              obtain ⟨hc, hF⟩ := gd_of hF
              refine RN.blk (ops := [(58, .aload_n 0), (59, .getfield 39), (62, .bipush 14), (64, .iload_n 1), (65, .iadd), (66, .iaload)]) (pc' := 67) (lv' := [(0, .inr (.inr t)), (1, .inl a1), (2, .inl a2), (3, .inl a3)]) (st' := [.inl (m_rd h10 (m_rd h10 t 20) (m_w32 (14 + a1)))]) (h' := h10) (cs := [GK h10 t 12, GI h10 (m_rd h10 t 20) 1 (m_w32 (14 + a1))]) (by decide +kernel) rfl hc ?_
              refine RN.goto (off := 39) (tgt := 106) (by decide +kernel) ?_
              exact RN.sub (Jj11 _ _ hF) (sub_cons rfl sub_nil)
            · refine RN.ift (cd := .ne) (off := 15) (tgt := 70) (by decide +kernel) (mif_ne hb) ?_
              refine RN.blk (ops := [(70, .iload_n 3), (71, .iconst 1)]) (pc' := 72) (lv' := [(0, .inr (.inr t)), (1, .inl a1), (2, .inl a2), (3, .inl a3)]) (st' := [.inl 1, .inl a3]) (h' := h10) (cs := []) (by decide +kernel) rfl trivial ?_
              rcases it_of hF with ⟨hb, hF⟩ | ⟨hb, hF⟩
              · refine RN.icf (cd := .ne) (off := 13) (tgt := 85) (by decide +kernel) (mif_nen hb) ?_
                obtain ⟨hc, hF⟩ := gd_of hF
                refine RN.blk (ops := [(75, .aload_n 0), (76, .getfield 39), (79, .bipush 12), (81, .iaload)]) (pc' := 82) (lv' := [(0, .inr (.inr t)), (1, .inl a1), (2, .inl a2), (3, .inl a3)]) (st' := [.inl (m_rd h10 (m_rd h10 t 20) 12)]) (h' := h10) (cs := [GK h10 t 12, GI h10 (m_rd h10 t 20) 1 12]) (by decide +kernel) rfl hc ?_
                refine RN.goto (off := 24) (tgt := 106) (by decide +kernel) ?_
                exact RN.sub (Jj11 _ _ hF) (sub_cons rfl sub_nil)
              · refine RN.ict (cd := .ne) (off := 13) (tgt := 85) (by decide +kernel) (mif_ne hb) ?_
                refine RN.blk (ops := [(85, .iload_n 3), (86, .iconst 2)]) (pc' := 87) (lv' := [(0, .inr (.inr t)), (1, .inl a1), (2, .inl a2), (3, .inl a3)]) (st' := [.inl 2, .inl a3]) (h' := h10) (cs := []) (by decide +kernel) rfl trivial ?_
                rcases it_of hF with ⟨hb, hF⟩ | ⟨hb, hF⟩
                · refine RN.icf (cd := .ne) (off := 12) (tgt := 99) (by decide +kernel) (mif_nen hb) ?_
                  refine RN.blk (ops := [(90, .aload_n 0), (91, .bipush 20)]) (pc' := 93) (lv' := [(0, .inr (.inr t)), (1, .inl a1), (2, .inl a2), (3, .inl a3)]) (st' := [.inl 20, .inr (.inr t)]) (h' := h10) (cs := []) (by decide +kernel) rfl trivial ?_
                  obtain ⟨hc, hF⟩ := gd_of hF
                  obtain ⟨x16, h15, hG, hF⟩ := bd_of hF
                  refine RN.cv (i := 325) (k := 210) (q2 := iX12_sumOver) (as := [.inr (.inr t), .inl 20]) (r := []) (v := some (.inl x16)) (h1 := h15) (by decide +kernel) rfl rfl rfl rfl rfl (rcv_ok hc.1) (CX12_sumOver (d := d + 7) hG) ?_
                  refine RN.goto (off := 10) (tgt := 106) (by decide +kernel) ?_
                  exact RN.sub (Jj11 _ _ hF) (sub_cons rfl sub_nil)
                · refine RN.ict (cd := .ne) (off := 12) (tgt := 99) (by decide +kernel) (mif_ne hb) ?_
                  obtain ⟨hc, hF⟩ := gd_of hF
                  refine RN.blk (ops := [(99, .aload_n 0), (100, .getfield 39), (103, .bipush 11), (105, .iaload)]) (pc' := 106) (lv' := [(0, .inr (.inr t)), (1, .inl a1), (2, .inl a2), (3, .inl a3)]) (st' := [.inl (m_rd h10 (m_rd h10 t 20) 11)]) (h' := h10) (cs := [GK h10 t 12, GI h10 (m_rd h10 t 20) 1 11]) (by decide +kernel) rfl hc ?_
                  exact RN.sub (Jj11 _ _ hF) (sub_cons rfl sub_nil)
        · intro j7 Jj7 hF
          rcases it_of hF with ⟨hb, hF⟩ | ⟨hb, hF⟩
          · refine RN.iff (cd := .ne) (off := 13) (tgt := 45) (by decide +kernel) (mif_nen hb) ?_
            refine RN.blk (ops := [(35, .aload_n 0), (36, .iload_n 1)]) (pc' := 37) (lv' := [(0, .inr (.inr t)), (1, .inl a1), (2, .inl a2), (3, .inl a3)]) (st' := [.inl a1, .inr (.inr t)]) (h' := h5) (cs := []) (by decide +kernel) rfl trivial ?_
            obtain ⟨hc, hF⟩ := gd_of hF
            obtain ⟨x18, h17, hG, hF⟩ := bd_of hF
            refine RN.cv (i := 310) (k := 204) (q2 := iX12_isHole) (as := [.inr (.inr t), .inl a1]) (r := []) (v := some (.inl x18)) (h1 := h17) (by decide +kernel) rfl rfl rfl rfl rfl (rcv_ok hc.1) (CX12_isHole (d := d + 7) hG) ?_
            rcases it_of hF with ⟨hb, hF⟩ | ⟨hb, hF⟩
            · refine RN.iff (cd := .ne) (off := 5) (tgt := 45) (by decide +kernel) (mif_nen hb) ?_
              refine RN.blk (ops := [(43, .iconst (-1))]) (pc' := 44) (lv' := [(0, .inr (.inr t)), (1, .inl a1), (2, .inl a2), (3, .inl a3)]) (st' := [.inl (-1)]) (h' := h17) (cs := []) (by decide +kernel) rfl trivial ?_
              exact RN.iR (by decide +kernel) rfl hF
            · refine RN.ift (cd := .ne) (off := 5) (tgt := 45) (by decide +kernel) (mif_ne hb) ?_
              exact RN.sub (Jj7 _ hF) (sub_cons rfl (sub_cons rfl (sub_cons rfl (sub_cons rfl sub_nil))))
          · refine RN.ift (cd := .ne) (off := 13) (tgt := 45) (by decide +kernel) (mif_ne hb) ?_
            exact RN.sub (Jj7 _ hF) (sub_cons rfl (sub_cons rfl (sub_cons rfl (sub_cons rfl sub_nil))))
noncomputable def FX12_sorted_L18 (u0 : Int) (K0 : Int → MH → Option (Int × MH)) : Nat → Int → Int → MH → Option (Int × MH)
  | 0, _, _, _ => none
  | f + 1, v1, v2, h =>
    (if v2 < 200 then
     (if v1 < 0 then
      gd [GK h u0 12] (bd (FX12_passes u0 h) (fun x2 h1 =>
       gd [GK h1 u0 12, GI h1 (m_rd h1 u0 20) 1 12] (
        (if (m_rd h1 (m_rd h1 u0 20) 12) = 0 then
         gd [GK h1 u0 12, GI h1 (m_rd h1 u0 20) 1 10] (
          FX12_sorted_L18 u0 K0 f (m_w32 ((m_rd h1 (m_rd h1 u0 20) 10) - 1)) (m_w32 (v2 + 1)) h1)
        else
         FX12_sorted_L18 u0 K0 f v1 (m_w32 (v2 + 1)) h1))))
     else
      K0 v1 h)
    else
     K0 v1 h)
theorem CX12_sorted_L18 {d : Nat} {u0 : Int} {K0 : Int → MH → Option (Int × MH)} {r : Int × MH} (hK0 : ∀ (w1 : Int) (h : MH), K0 w1 h = some r → RN xs L iX12_sorted (d + 7) 60 [(0, .inr (.inr u0)), (1, .inl w1)] [] h (RIo r)) : ∀ (f : Nat) (v1 : Int) (v2 : Int) (h : MH), FX12_sorted_L18 u0 K0 f v1 v2 h = some r → RN xs L iX12_sorted (d + 7) 18 [(0, .inr (.inr u0)), (1, .inl v1), (2, .inl v2)] [] h (RIo r) := by
  intro f
  induction f with
  | zero =>
    intro v1 v2 h hF
    cases hF
  | succ f ih =>
    intro v1 v2 h hF
    unfold FX12_sorted_L18 at hF
    refine RN.blk (ops := [(18, .iload_n 2), (19, .sipush 200)]) (pc' := 22) (lv' := [(0, .inr (.inr u0)), (1, .inl v1), (2, .inl v2)]) (st' := [.inl 200, .inl v2]) (h' := h) (cs := []) (by decide +kernel) rfl trivial ?_
    rcases it_of hF with ⟨hb, hF⟩ | ⟨hb, hF⟩
    · refine RN.icf (cd := .ge) (off := 38) (tgt := 60) (by decide +kernel) (mif_gen hb) ?_
      refine RN.blk (ops := [(25, .iload_n 1)]) (pc' := 26) (lv' := [(0, .inr (.inr u0)), (1, .inl v1), (2, .inl v2)]) (st' := [.inl v1]) (h' := h) (cs := []) (by decide +kernel) rfl trivial ?_
      rcases it_of hF with ⟨hb, hF⟩ | ⟨hb, hF⟩
      · refine RN.iff (cd := .ge) (off := 34) (tgt := 60) (by decide +kernel) (mif_gen hb) ?_
        refine RN.blk (ops := [(29, .aload_n 0)]) (pc' := 30) (lv' := [(0, .inr (.inr u0)), (1, .inl v1), (2, .inl v2)]) (st' := [.inr (.inr u0)]) (h' := h) (cs := []) (by decide +kernel) rfl trivial ?_
        obtain ⟨hc, hF⟩ := gd_of hF
        obtain ⟨x2, h1, hG, hF⟩ := bd_of hF
        refine RN.cv (i := 350) (k := 222) (q2 := iX12_passes) (as := [.inr (.inr u0)]) (r := []) (v := some (.inl x2)) (h1 := h1) (by decide +kernel) rfl rfl rfl rfl rfl (rcv_ok hc.1) (CX12_passes (d := d) hG) ?_
        obtain ⟨hc, hF⟩ := gd_of hF
        refine RN.blk (ops := [(33, .pop), (34, .aload_n 0), (35, .getfield 39), (38, .bipush 12), (40, .iaload)]) (pc' := 41) (lv' := [(0, .inr (.inr u0)), (1, .inl v1), (2, .inl v2)]) (st' := [.inl (m_rd h1 (m_rd h1 u0 20) 12)]) (h' := h1) (cs := [GK h1 u0 12, GI h1 (m_rd h1 u0 20) 1 12]) (by decide +kernel) rfl hc ?_
        rcases it_of hF with ⟨hb, hF⟩ | ⟨hb, hF⟩
        · refine RN.iff (cd := .ne) (off := 13) (tgt := 54) (by decide +kernel) (mif_nen hb) ?_
          obtain ⟨hc, hF⟩ := gd_of hF
          refine RN.blk (ops := [(44, .aload_n 0), (45, .getfield 39), (48, .bipush 10), (50, .iaload), (51, .iconst 1), (52, .isub), (53, .istore_n 1)]) (pc' := 54) (lv' := [(1, .inl (m_w32 ((m_rd h1 (m_rd h1 u0 20) 10) - 1))), (0, .inr (.inr u0)), (2, .inl v2)]) (st' := []) (h' := h1) (cs := [GK h1 u0 12, GI h1 (m_rd h1 u0 20) 1 10]) (by decide +kernel) rfl hc ?_
          refine RN.blk (ops := [(54, .iinc 2 1)]) (pc' := 57) (lv' := [(2, .inl (m_w32 (v2 + 1))), (1, .inl (m_w32 ((m_rd h1 (m_rd h1 u0 20) 10) - 1))), (0, .inr (.inr u0))]) (st' := []) (h' := h1) (cs := []) (by decide +kernel) rfl trivial ?_
          refine RN.goto (off := -39) (tgt := 18) (by decide +kernel) ?_
          exact RN.sub (ih _ _ _ hF) (sub_cons rfl (sub_cons rfl (sub_cons rfl sub_nil)))
        · refine RN.ift (cd := .ne) (off := 13) (tgt := 54) (by decide +kernel) (mif_ne hb) ?_
          refine RN.blk (ops := [(54, .iinc 2 1)]) (pc' := 57) (lv' := [(2, .inl (m_w32 (v2 + 1))), (0, .inr (.inr u0)), (1, .inl v1)]) (st' := []) (h' := h1) (cs := []) (by decide +kernel) rfl trivial ?_
          refine RN.goto (off := -39) (tgt := 18) (by decide +kernel) ?_
          exact RN.sub (ih _ _ _ hF) (sub_cons rfl (sub_cons rfl (sub_cons rfl sub_nil)))
      · refine RN.ift (cd := .ge) (off := 34) (tgt := 60) (by decide +kernel) (mif_ge hb) ?_
        exact RN.sub (hK0 _ _ hF) (sub_cons rfl (sub_cons rfl sub_nil))
    · refine RN.ict (cd := .ge) (off := 38) (tgt := 60) (by decide +kernel) (mif_ge hb) ?_
      exact RN.sub (hK0 _ _ hF) (sub_cons rfl (sub_cons rfl sub_nil))
noncomputable def FX12_sorted (t : Int) (h : MH) : Option (Int × MH) :=
  gd [GK h t 12] (bd (FX12_isFrame t h) (fun x2 h1 =>
   (if x2 = 0 then
    some ((-1), h1)
   else
    gd [GK h1 t 12] (bv (FX12_keeps t h1) (fun h3 =>
     FX12_sorted_L18 t (fun w4 h5 =>
      gd [GK h5 t 12] (bv (FX12_laysBack t h5) (fun h6 =>
       some (w4, h6)))) FU (-2) 0 h3)))))
theorem CX12_sorted {d : Nat} {t : Int} {h : MH} {r : Int × MH} (hF : FX12_sorted t h = some r) : RN xs L iX12_sorted (d + 7) 0 (lvE 0 [.inr (.inr t)]) [] h (RIo r) := by
  unfold FX12_sorted at hF
  refine RN.blk (ops := [(0, .aload_n 0)]) (pc' := 1) (lv' := [(0, .inr (.inr t))]) (st' := [.inr (.inr t)]) (h' := h) (cs := []) (by decide +kernel) rfl trivial ?_
  obtain ⟨hc, hF⟩ := gd_of hF
  obtain ⟨x2, h1, hG, hF⟩ := bd_of hF
  refine RN.cv (i := 295) (k := 202) (q2 := iX12_isFrame) (as := [.inr (.inr t)]) (r := []) (v := some (.inl x2)) (h1 := h1) (by decide +kernel) rfl rfl rfl rfl rfl (rcv_ok hc.1) (CX12_isFrame (d := d + 6) hG) ?_
  rcases it_of hF with ⟨hb, hF⟩ | ⟨hb, hF⟩
  · refine RN.iff (cd := .ne) (off := 5) (tgt := 9) (by decide +kernel) (mif_nen hb) ?_
    refine RN.blk (ops := [(7, .iconst (-1))]) (pc' := 8) (lv' := [(0, .inr (.inr t))]) (st' := [.inl (-1)]) (h' := h1) (cs := []) (by decide +kernel) rfl trivial ?_
    exact RN.iR (by decide +kernel) rfl hF
  · refine RN.ift (cd := .ne) (off := 5) (tgt := 9) (by decide +kernel) (mif_ne hb) ?_
    refine RN.blk (ops := [(9, .bipush (-2)), (11, .istore_n 1), (12, .aload_n 0)]) (pc' := 13) (lv' := [(1, .inl (-2)), (0, .inr (.inr t))]) (st' := [.inr (.inr t)]) (h' := h1) (cs := []) (by decide +kernel) rfl trivial ?_
    obtain ⟨hc, hF⟩ := gd_of hF
    obtain ⟨h3, hG, hF⟩ := bv_of hF
    refine RN.cv (i := 422) (k := 253) (q2 := iX12_keeps) (as := [.inr (.inr t)]) (r := []) (v := none) (h1 := h3) (by decide +kernel) rfl rfl rfl rfl rfl (rcv_ok hc.1) (CX12_keeps (d := d + 6) hG) ?_
    refine RN.blk (ops := [(16, .iconst 0), (17, .istore_n 2)]) (pc' := 18) (lv' := [(2, .inl 0), (1, .inl (-2)), (0, .inr (.inr t))]) (st' := []) (h' := h3) (cs := []) (by decide +kernel) rfl trivial ?_
    refine RN.sub (CX12_sorted_L18 ?_ _ _ _ _ hF) (sub_cons rfl (sub_cons rfl (sub_cons rfl sub_nil)))
    · intro w4 h5 hF
      refine RN.blk (ops := [(60, .aload_n 0)]) (pc' := 61) (lv' := [(0, .inr (.inr t)), (1, .inl w4)]) (st' := [.inr (.inr t)]) (h' := h5) (cs := []) (by decide +kernel) rfl trivial ?_
      obtain ⟨hc, hF⟩ := gd_of hF
      obtain ⟨h6, hG, hF⟩ := bv_of hF
      refine RN.cv (i := 414) (k := 254) (q2 := iX12_laysBack) (as := [.inr (.inr t)]) (r := []) (v := none) (h1 := h6) (by decide +kernel) rfl rfl rfl rfl rfl (rcv_ok hc.1) (CX12_laysBack (d := d + 6) hG) ?_
      refine RN.blk (ops := [(64, .iload_n 1)]) (pc' := 65) (lv' := [(0, .inr (.inr t)), (1, .inl w4)]) (st' := [.inl w4]) (h' := h6) (cs := []) (by decide +kernel) rfl trivial ?_
      exact RN.iR (by decide +kernel) rfl hF
noncomputable def FX12_tied_L19 (u0 : Int) (u1 : Int) (K0 : Int → MH → Option (Int × MH)) : Nat → Int → Int → MH → Option (Int × MH)
  | 0, _, _, _ => none
  | f + 1, v2, v3, h =>
    (if v3 < 200 then
     (if v2 < 0 then
      gd [GK h u0 12] (bd (FX12_passes u0 h) (fun x2 h1 =>
       gd [GK h1 u0 12] (
        (if (m_rd h1 u0 23) = u1 then
         gd [GK h1 u0 12, GI h1 (m_rd h1 u0 20) 1 10] (
          FX12_tied_L19 u0 u1 K0 f (m_w32 ((m_rd h1 (m_rd h1 u0 20) 10) - 1)) (m_w32 (v3 + 1)) h1)
        else
         FX12_tied_L19 u0 u1 K0 f v2 (m_w32 (v3 + 1)) h1))))
     else
      K0 v2 h)
    else
     K0 v2 h)
theorem CX12_tied_L19 {d : Nat} {u0 : Int} {u1 : Int} {K0 : Int → MH → Option (Int × MH)} {r : Int × MH} (hK0 : ∀ (w2 : Int) (h : MH), K0 w2 h = some r → RN xs L iX12_tied (d + 7) 59 [(0, .inr (.inr u0)), (2, .inl w2)] [] h (RIo r)) : ∀ (f : Nat) (v2 : Int) (v3 : Int) (h : MH), FX12_tied_L19 u0 u1 K0 f v2 v3 h = some r → RN xs L iX12_tied (d + 7) 19 [(0, .inr (.inr u0)), (1, .inl u1), (2, .inl v2), (3, .inl v3)] [] h (RIo r) := by
  intro f
  induction f with
  | zero =>
    intro v2 v3 h hF
    cases hF
  | succ f ih =>
    intro v2 v3 h hF
    unfold FX12_tied_L19 at hF
    refine RN.blk (ops := [(19, .iload_n 3), (20, .sipush 200)]) (pc' := 23) (lv' := [(0, .inr (.inr u0)), (1, .inl u1), (2, .inl v2), (3, .inl v3)]) (st' := [.inl 200, .inl v3]) (h' := h) (cs := []) (by decide +kernel) rfl trivial ?_
    rcases it_of hF with ⟨hb, hF⟩ | ⟨hb, hF⟩
    · refine RN.icf (cd := .ge) (off := 36) (tgt := 59) (by decide +kernel) (mif_gen hb) ?_
      refine RN.blk (ops := [(26, .iload_n 2)]) (pc' := 27) (lv' := [(0, .inr (.inr u0)), (1, .inl u1), (2, .inl v2), (3, .inl v3)]) (st' := [.inl v2]) (h' := h) (cs := []) (by decide +kernel) rfl trivial ?_
      rcases it_of hF with ⟨hb, hF⟩ | ⟨hb, hF⟩
      · refine RN.iff (cd := .ge) (off := 32) (tgt := 59) (by decide +kernel) (mif_gen hb) ?_
        refine RN.blk (ops := [(30, .aload_n 0)]) (pc' := 31) (lv' := [(0, .inr (.inr u0)), (1, .inl u1), (2, .inl v2), (3, .inl v3)]) (st' := [.inr (.inr u0)]) (h' := h) (cs := []) (by decide +kernel) rfl trivial ?_
        obtain ⟨hc, hF⟩ := gd_of hF
        obtain ⟨x2, h1, hG, hF⟩ := bd_of hF
        refine RN.cv (i := 350) (k := 222) (q2 := iX12_passes) (as := [.inr (.inr u0)]) (r := []) (v := some (.inl x2)) (h1 := h1) (by decide +kernel) rfl rfl rfl rfl rfl (rcv_ok hc.1) (CX12_passes (d := d) hG) ?_
        obtain ⟨hc, hF⟩ := gd_of hF
        refine RN.blk (ops := [(34, .pop), (35, .aload_n 0), (36, .getfield 335), (39, .iload_n 1)]) (pc' := 40) (lv' := [(0, .inr (.inr u0)), (1, .inl u1), (2, .inl v2), (3, .inl v3)]) (st' := [.inl u1, .inl (m_rd h1 u0 23)]) (h' := h1) (cs := [GK h1 u0 12]) (by decide +kernel) rfl hc ?_
        rcases it_of hF with ⟨hb, hF⟩ | ⟨hb, hF⟩
        · refine RN.icf (cd := .ne) (off := 13) (tgt := 53) (by decide +kernel) (mif_nen hb) ?_
          obtain ⟨hc, hF⟩ := gd_of hF
          refine RN.blk (ops := [(43, .aload_n 0), (44, .getfield 39), (47, .bipush 10), (49, .iaload), (50, .iconst 1), (51, .isub), (52, .istore_n 2)]) (pc' := 53) (lv' := [(2, .inl (m_w32 ((m_rd h1 (m_rd h1 u0 20) 10) - 1))), (0, .inr (.inr u0)), (1, .inl u1), (3, .inl v3)]) (st' := []) (h' := h1) (cs := [GK h1 u0 12, GI h1 (m_rd h1 u0 20) 1 10]) (by decide +kernel) rfl hc ?_
          refine RN.blk (ops := [(53, .iinc 3 1)]) (pc' := 56) (lv' := [(3, .inl (m_w32 (v3 + 1))), (2, .inl (m_w32 ((m_rd h1 (m_rd h1 u0 20) 10) - 1))), (0, .inr (.inr u0)), (1, .inl u1)]) (st' := []) (h' := h1) (cs := []) (by decide +kernel) rfl trivial ?_
          refine RN.goto (off := -37) (tgt := 19) (by decide +kernel) ?_
          exact RN.sub (ih _ _ _ hF) (sub_cons rfl (sub_cons rfl (sub_cons rfl (sub_cons rfl sub_nil))))
        · refine RN.ict (cd := .ne) (off := 13) (tgt := 53) (by decide +kernel) (mif_ne hb) ?_
          refine RN.blk (ops := [(53, .iinc 3 1)]) (pc' := 56) (lv' := [(3, .inl (m_w32 (v3 + 1))), (0, .inr (.inr u0)), (1, .inl u1), (2, .inl v2)]) (st' := []) (h' := h1) (cs := []) (by decide +kernel) rfl trivial ?_
          refine RN.goto (off := -37) (tgt := 19) (by decide +kernel) ?_
          exact RN.sub (ih _ _ _ hF) (sub_cons rfl (sub_cons rfl (sub_cons rfl (sub_cons rfl sub_nil))))
      · refine RN.ift (cd := .ge) (off := 32) (tgt := 59) (by decide +kernel) (mif_ge hb) ?_
        exact RN.sub (hK0 _ _ hF) (sub_cons rfl (sub_cons rfl sub_nil))
    · refine RN.ict (cd := .ge) (off := 36) (tgt := 59) (by decide +kernel) (mif_ge hb) ?_
      exact RN.sub (hK0 _ _ hF) (sub_cons rfl (sub_cons rfl sub_nil))
noncomputable def FX12_tied (t : Int) (a1 : Int) (h : MH) : Option (Int × MH) :=
  gd [GK h t 12] (bd (FX12_isHole t a1 h) (fun x2 h1 =>
   (if x2 = 0 then
    some ((-1), h1)
   else
    gd [GK h1 t 12] (bv (FX12_keeps t h1) (fun h3 =>
     FX12_tied_L19 t a1 (fun w4 h5 =>
      gd [GK h5 t 12] (bv (FX12_laysBack t h5) (fun h6 =>
       some (w4, h6)))) FU (-2) 0 h3)))))
theorem CX12_tied {d : Nat} {t : Int} {a1 : Int} {h : MH} {r : Int × MH} (hF : FX12_tied t a1 h = some r) : RN xs L iX12_tied (d + 7) 0 (lvE 0 [.inr (.inr t), .inl a1]) [] h (RIo r) := by
  unfold FX12_tied at hF
  refine RN.blk (ops := [(0, .aload_n 0), (1, .iload_n 1)]) (pc' := 2) (lv' := [(0, .inr (.inr t)), (1, .inl a1)]) (st' := [.inl a1, .inr (.inr t)]) (h' := h) (cs := []) (by decide +kernel) rfl trivial ?_
  obtain ⟨hc, hF⟩ := gd_of hF
  obtain ⟨x2, h1, hG, hF⟩ := bd_of hF
  refine RN.cv (i := 310) (k := 204) (q2 := iX12_isHole) (as := [.inr (.inr t), .inl a1]) (r := []) (v := some (.inl x2)) (h1 := h1) (by decide +kernel) rfl rfl rfl rfl rfl (rcv_ok hc.1) (CX12_isHole (d := d + 6) hG) ?_
  rcases it_of hF with ⟨hb, hF⟩ | ⟨hb, hF⟩
  · refine RN.iff (cd := .ne) (off := 5) (tgt := 10) (by decide +kernel) (mif_nen hb) ?_
    refine RN.blk (ops := [(8, .iconst (-1))]) (pc' := 9) (lv' := [(0, .inr (.inr t)), (1, .inl a1)]) (st' := [.inl (-1)]) (h' := h1) (cs := []) (by decide +kernel) rfl trivial ?_
    exact RN.iR (by decide +kernel) rfl hF
  · refine RN.ift (cd := .ne) (off := 5) (tgt := 10) (by decide +kernel) (mif_ne hb) ?_
    refine RN.blk (ops := [(10, .bipush (-2)), (12, .istore_n 2), (13, .aload_n 0)]) (pc' := 14) (lv' := [(2, .inl (-2)), (0, .inr (.inr t)), (1, .inl a1)]) (st' := [.inr (.inr t)]) (h' := h1) (cs := []) (by decide +kernel) rfl trivial ?_
    obtain ⟨hc, hF⟩ := gd_of hF
    obtain ⟨h3, hG, hF⟩ := bv_of hF
    refine RN.cv (i := 422) (k := 253) (q2 := iX12_keeps) (as := [.inr (.inr t)]) (r := []) (v := none) (h1 := h3) (by decide +kernel) rfl rfl rfl rfl rfl (rcv_ok hc.1) (CX12_keeps (d := d + 6) hG) ?_
    refine RN.blk (ops := [(17, .iconst 0), (18, .istore_n 3)]) (pc' := 19) (lv' := [(3, .inl 0), (2, .inl (-2)), (0, .inr (.inr t)), (1, .inl a1)]) (st' := []) (h' := h3) (cs := []) (by decide +kernel) rfl trivial ?_
    refine RN.sub (CX12_tied_L19 ?_ _ _ _ _ hF) (sub_cons rfl (sub_cons rfl (sub_cons rfl (sub_cons rfl sub_nil))))
    · intro w4 h5 hF
      refine RN.blk (ops := [(59, .aload_n 0)]) (pc' := 60) (lv' := [(0, .inr (.inr t)), (2, .inl w4)]) (st' := [.inr (.inr t)]) (h' := h5) (cs := []) (by decide +kernel) rfl trivial ?_
      obtain ⟨hc, hF⟩ := gd_of hF
      obtain ⟨h6, hG, hF⟩ := bv_of hF
      refine RN.cv (i := 414) (k := 254) (q2 := iX12_laysBack) (as := [.inr (.inr t)]) (r := []) (v := none) (h1 := h6) (by decide +kernel) rfl rfl rfl rfl rfl (rcv_ok hc.1) (CX12_laysBack (d := d + 6) hG) ?_
      refine RN.blk (ops := [(63, .iload_n 2)]) (pc' := 64) (lv' := [(0, .inr (.inr t)), (2, .inl w4)]) (st' := [.inl w4]) (h' := h6) (cs := []) (by decide +kernel) rfl trivial ?_
      exact RN.iR (by decide +kernel) rfl hF
end Dc
