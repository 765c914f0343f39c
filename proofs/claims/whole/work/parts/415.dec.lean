/-! METHODS AS FUNCTIONS, and their certificates (by program): X12_isEnough, X12_fillsGoes, X12_read, X12_codes, X12_slipsOf, X12_slips, X12_worst, X12_idle, X12_needsOfCodes, X12_needBelow, X12_needsOf -/
section Dc
variable {xs : Int → Int} {L : Int}
noncomputable def FX12_isEnough_L23 (u0 : Int) (u1 : Int) (u2 : Int) (K0 : MH → Option (Int × MH)) (K1 : MH → Option (Int × MH)) : Nat → Int → MH → Option (Int × MH)
  | 0, _, _ => none
  | f + 1, v3, h =>
    (if v3 < u2 then
     gd [GK h u0 12] (bd (FX12_canMean u0 v3 h) (fun x2 h1 =>
      (if x2 = 0 then
       FX12_isEnough_L23 u0 u1 u2 K0 K1 f (m_w32 (v3 + 1)) h1
      else
       gd [GK h1 u0 12] (bd (FX12_areLike u0 u2 v3 u1 h1) (fun x4 h3 =>
        (if x4 = 0 then
         FX12_isEnough_L23 u0 u1 u2 K0 K1 f (m_w32 (v3 + 1)) h3
        else
         gd [GK h3 u0 12, GI h3 (m_rd h3 u0 27) 1 u2, GK h3 u0 12, GI h3 (m_rd h3 u0 27) 1 v3] (
          (if (m_rd h3 (m_rd h3 u0 27) u2) = (m_rd h3 (m_rd h3 u0 27) v3) then
           FX12_isEnough_L23 u0 u1 u2 K0 K1 f (m_w32 (v3 + 1)) h3
          else
           K0 h3))))))))
    else
     K1 h)
theorem CX12_isEnough_L23 {d : Nat} {u0 : Int} {u1 : Int} {u2 : Int} {K0 : MH → Option (Int × MH)} {K1 : MH → Option (Int × MH)} {r : Int × MH} (hK0 : ∀ (h : MH), K0 h = some r → RN xs L iX12_isEnough (d + 3) 61 [] [] h (RIo r)) (hK1 : ∀ (h : MH), K1 h = some r → RN xs L iX12_isEnough (d + 3) 69 [(0, .inr (.inr u0)), (1, .inl u1), (2, .inl u2)] [] h (RIo r)) : ∀ (f : Nat) (v3 : Int) (h : MH), FX12_isEnough_L23 u0 u1 u2 K0 K1 f v3 h = some r → RN xs L iX12_isEnough (d + 3) 23 [(0, .inr (.inr u0)), (1, .inl u1), (2, .inl u2), (3, .inl v3)] [] h (RIo r) := by
  intro f
  induction f with
  | zero =>
    intro v3 h hF
    cases hF
  | succ f ih =>
    intro v3 h hF
    unfold FX12_isEnough_L23 at hF
    refine RN.blk (ops := [(23, .iload_n 3), (24, .iload_n 2)]) (pc' := 25) (lv' := [(0, .inr (.inr u0)), (1, .inl u1), (2, .inl u2), (3, .inl v3)]) (st' := [.inl u2, .inl v3]) (h' := h) (cs := []) (by decide +kernel) rfl trivial ?_
    rcases it_of hF with ⟨hb, hF⟩ | ⟨hb, hF⟩
    · refine RN.icf (cd := .ge) (off := 44) (tgt := 69) (by decide +kernel) (mif_gen hb) ?_
      refine RN.blk (ops := [(28, .aload_n 0), (29, .iload_n 3)]) (pc' := 30) (lv' := [(0, .inr (.inr u0)), (1, .inl u1), (2, .inl u2), (3, .inl v3)]) (st' := [.inl v3, .inr (.inr u0)]) (h' := h) (cs := []) (by decide +kernel) rfl trivial ?_
      obtain ⟨hc, hF⟩ := gd_of hF
      obtain ⟨x2, h1, hG, hF⟩ := bd_of hF
      refine RN.cv (i := 378) (k := 238) (q2 := iX12_canMean) (as := [.inr (.inr u0), .inl v3]) (r := []) (v := some (.inl x2)) (h1 := h1) (by decide +kernel) rfl rfl rfl rfl rfl (rcv_ok hc.1) (CX12_canMean (d := d) hG) ?_
      rcases it_of hF with ⟨hb, hF⟩ | ⟨hb, hF⟩
      · refine RN.ift (cd := .eq) (off := 30) (tgt := 63) (by decide +kernel) (mif_eq hb) ?_
        refine RN.blk (ops := [(63, .iinc 3 1)]) (pc' := 66) (lv' := [(3, .inl (m_w32 (v3 + 1))), (0, .inr (.inr u0)), (1, .inl u1), (2, .inl u2)]) (st' := []) (h' := h1) (cs := []) (by decide +kernel) rfl trivial ?_
        refine RN.goto (off := -43) (tgt := 23) (by decide +kernel) ?_
        exact RN.sub (ih _ _ hF) (sub_cons rfl (sub_cons rfl (sub_cons rfl (sub_cons rfl sub_nil))))
      · refine RN.iff (cd := .eq) (off := 30) (tgt := 63) (by decide +kernel) (mif_eqn hb) ?_
        refine RN.blk (ops := [(36, .aload_n 0), (37, .iload_n 2), (38, .iload_n 3), (39, .iload_n 1)]) (pc' := 40) (lv' := [(0, .inr (.inr u0)), (1, .inl u1), (2, .inl u2), (3, .inl v3)]) (st' := [.inl u1, .inl v3, .inl u2, .inr (.inr u0)]) (h' := h1) (cs := []) (by decide +kernel) rfl trivial ?_
        obtain ⟨hc, hF⟩ := gd_of hF
        obtain ⟨x4, h3, hG, hF⟩ := bd_of hF
        refine RN.cv (i := 384) (k := 240) (q2 := iX12_areLike) (as := [.inr (.inr u0), .inl u2, .inl v3, .inl u1]) (r := []) (v := some (.inl x4)) (h1 := h3) (by decide +kernel) rfl rfl rfl rfl rfl (rcv_ok hc.1) (CX12_areLike (d := d) hG) ?_
        rcases it_of hF with ⟨hb, hF⟩ | ⟨hb, hF⟩
        · refine RN.ift (cd := .eq) (off := 20) (tgt := 63) (by decide +kernel) (mif_eq hb) ?_
          refine RN.blk (ops := [(63, .iinc 3 1)]) (pc' := 66) (lv' := [(3, .inl (m_w32 (v3 + 1))), (0, .inr (.inr u0)), (1, .inl u1), (2, .inl u2)]) (st' := []) (h' := h3) (cs := []) (by decide +kernel) rfl trivial ?_
          refine RN.goto (off := -43) (tgt := 23) (by decide +kernel) ?_
          exact RN.sub (ih _ _ hF) (sub_cons rfl (sub_cons rfl (sub_cons rfl (sub_cons rfl sub_nil))))
        · refine RN.iff (cd := .eq) (off := 20) (tgt := 63) (by decide +kernel) (mif_eqn hb) ?_
          obtain ⟨hc, hF⟩ := gd_of hF
          refine RN.blk (ops := [(46, .aload_n 0), (47, .getfield 52), (50, .iload_n 2), (51, .iaload), (52, .aload_n 0), (53, .getfield 52), (56, .iload_n 3), (57, .iaload)]) (pc' := 58) (lv' := [(0, .inr (.inr u0)), (1, .inl u1), (2, .inl u2), (3, .inl v3)]) (st' := [.inl (m_rd h3 (m_rd h3 u0 27) v3), .inl (m_rd h3 (m_rd h3 u0 27) u2)]) (h' := h3) (cs := [GK h3 u0 12, GI h3 (m_rd h3 u0 27) 1 u2, GK h3 u0 12, GI h3 (m_rd h3 u0 27) 1 v3]) (by decide +kernel) rfl hc ?_
          rcases it_of hF with ⟨hb, hF⟩ | ⟨hb, hF⟩
          · refine RN.ict (cd := .eq) (off := 5) (tgt := 63) (by decide +kernel) (mif_eq hb) ?_
            refine RN.blk (ops := [(63, .iinc 3 1)]) (pc' := 66) (lv' := [(3, .inl (m_w32 (v3 + 1))), (0, .inr (.inr u0)), (1, .inl u1), (2, .inl u2)]) (st' := []) (h' := h3) (cs := []) (by decide +kernel) rfl trivial ?_
            refine RN.goto (off := -43) (tgt := 23) (by decide +kernel) ?_
            exact RN.sub (ih _ _ hF) (sub_cons rfl (sub_cons rfl (sub_cons rfl (sub_cons rfl sub_nil))))
          · refine RN.icf (cd := .eq) (off := 5) (tgt := 63) (by decide +kernel) (mif_eqn hb) ?_
            exact RN.sub (hK0 _ hF) sub_nil
    · refine RN.ict (cd := .ge) (off := 44) (tgt := 69) (by decide +kernel) (mif_ge hb) ?_
      exact RN.sub (hK1 _ hF) (sub_cons rfl (sub_cons rfl (sub_cons rfl sub_nil)))
noncomputable def FX12_isEnough_L2 (u0 : Int) (u1 : Int) (K0 : MH → Option (Int × MH)) (K1 : MH → Option (Int × MH)) : Nat → Int → MH → Option (Int × MH)
  | 0, _, _ => none
  | f + 1, v2, h =>
    gd [GK h u0 12] (bd (FX12_codesMany u0 h) (fun x2 h1 =>
     (if v2 < x2 then
      gd [GK h1 u0 12] (bd (FX12_canMean u0 v2 h1) (fun x4 h3 =>
       (if x4 = 0 then
        FX12_isEnough_L2 u0 u1 K0 K1 f (m_w32 (v2 + 1)) h3
       else
        FX12_isEnough_L23 u0 u1 v2 (fun h5 =>
         K0 h5) (fun h6 =>
         FX12_isEnough_L2 u0 u1 K0 K1 f (m_w32 (v2 + 1)) h6) FU 0 h3)))
     else
      K1 h1)))
theorem CX12_isEnough_L2 {d : Nat} {u0 : Int} {u1 : Int} {K0 : MH → Option (Int × MH)} {K1 : MH → Option (Int × MH)} {r : Int × MH} (hK0 : ∀ (h : MH), K0 h = some r → RN xs L iX12_isEnough (d + 3) 61 [] [] h (RIo r)) (hK1 : ∀ (h : MH), K1 h = some r → RN xs L iX12_isEnough (d + 3) 75 [] [] h (RIo r)) : ∀ (f : Nat) (v2 : Int) (h : MH), FX12_isEnough_L2 u0 u1 K0 K1 f v2 h = some r → RN xs L iX12_isEnough (d + 3) 2 [(0, .inr (.inr u0)), (1, .inl u1), (2, .inl v2)] [] h (RIo r) := by
  intro f
  induction f with
  | zero =>
    intro v2 h hF
    cases hF
  | succ f ih =>
    intro v2 h hF
    unfold FX12_isEnough_L2 at hF
    refine RN.blk (ops := [(2, .iload_n 2), (3, .aload_n 0)]) (pc' := 4) (lv' := [(0, .inr (.inr u0)), (1, .inl u1), (2, .inl v2)]) (st' := [.inr (.inr u0), .inl v2]) (h' := h) (cs := []) (by decide +kernel) rfl trivial ?_
    obtain ⟨hc, hF⟩ := gd_of hF
    obtain ⟨x2, h1, hG, hF⟩ := bd_of hF
    refine RN.cv (i := 298) (k := 203) (q2 := iX12_codesMany) (as := [.inr (.inr u0)]) (r := [.inl v2]) (v := some (.inl x2)) (h1 := h1) (by decide +kernel) rfl rfl rfl rfl rfl (rcv_ok hc.1) (CX12_codesMany (d := d + 1) hG) ?_
    rcases it_of hF with ⟨hb, hF⟩ | ⟨hb, hF⟩
    · refine RN.icf (cd := .ge) (off := 68) (tgt := 75) (by decide +kernel) (mif_gen hb) ?_
      refine RN.blk (ops := [(10, .aload_n 0), (11, .iload_n 2)]) (pc' := 12) (lv' := [(0, .inr (.inr u0)), (1, .inl u1), (2, .inl v2)]) (st' := [.inl v2, .inr (.inr u0)]) (h' := h1) (cs := []) (by decide +kernel) rfl trivial ?_
      obtain ⟨hc, hF⟩ := gd_of hF
      obtain ⟨x4, h3, hG, hF⟩ := bd_of hF
      refine RN.cv (i := 378) (k := 238) (q2 := iX12_canMean) (as := [.inr (.inr u0), .inl v2]) (r := []) (v := some (.inl x4)) (h1 := h3) (by decide +kernel) rfl rfl rfl rfl rfl (rcv_ok hc.1) (CX12_canMean (d := d) hG) ?_
      rcases it_of hF with ⟨hb, hF⟩ | ⟨hb, hF⟩
      · refine RN.iff (cd := .ne) (off := 6) (tgt := 21) (by decide +kernel) (mif_nen hb) ?_
        refine RN.goto (off := 51) (tgt := 69) (by decide +kernel) ?_
        refine RN.blk (ops := [(69, .iinc 2 1)]) (pc' := 72) (lv' := [(2, .inl (m_w32 (v2 + 1))), (0, .inr (.inr u0)), (1, .inl u1)]) (st' := []) (h' := h3) (cs := []) (by decide +kernel) rfl trivial ?_
        refine RN.goto (off := -70) (tgt := 2) (by decide +kernel) ?_
        exact RN.sub (ih _ _ hF) (sub_cons rfl (sub_cons rfl (sub_cons rfl sub_nil)))
      · refine RN.ift (cd := .ne) (off := 6) (tgt := 21) (by decide +kernel) (mif_ne hb) ?_
        refine RN.blk (ops := [(21, .iconst 0), (22, .istore_n 3)]) (pc' := 23) (lv' := [(3, .inl 0), (0, .inr (.inr u0)), (1, .inl u1), (2, .inl v2)]) (st' := []) (h' := h3) (cs := []) (by decide +kernel) rfl trivial ?_
        refine RN.sub (CX12_isEnough_L23 ?_ ?_ _ _ _ hF) (sub_cons rfl (sub_cons rfl (sub_cons rfl (sub_cons rfl sub_nil))))
        · intro h5 hF
          exact RN.sub (hK0 _ hF) sub_nil
        · intro h6 hF
          refine RN.blk (ops := [(69, .iinc 2 1)]) (pc' := 72) (lv' := [(2, .inl (m_w32 (v2 + 1))), (0, .inr (.inr u0)), (1, .inl u1)]) (st' := []) (h' := h6) (cs := []) (by decide +kernel) rfl trivial ?_
          refine RN.goto (off := -70) (tgt := 2) (by decide +kernel) ?_
          exact RN.sub (ih _ _ hF) (sub_cons rfl (sub_cons rfl (sub_cons rfl sub_nil)))
    · refine RN.ict (cd := .ge) (off := 68) (tgt := 75) (by decide +kernel) (mif_ge hb) ?_
      exact RN.sub (hK1 _ hF) sub_nil
noncomputable def FX12_isEnough (t : Int) (a1 : Int) (h : MH) : Option (Int × MH) :=
  FX12_isEnough_L2 t a1 (fun h1 =>
   some (0, h1)) (fun h2 =>
   some (1, h2)) FU 0 h
theorem CX12_isEnough {d : Nat} {t : Int} {a1 : Int} {h : MH} {r : Int × MH} (hF : FX12_isEnough t a1 h = some r) : RN xs L iX12_isEnough (d + 3) 0 (lvE 0 [.inr (.inr t), .inl a1]) [] h (RIo r) := by
  unfold FX12_isEnough at hF
  refine RN.blk (ops := [(0, .iconst 0), (1, .istore_n 2)]) (pc' := 2) (lv' := [(2, .inl 0), (0, .inr (.inr t)), (1, .inl a1)]) (st' := []) (h' := h) (cs := []) (by decide +kernel) rfl trivial ?_
  refine RN.sub (CX12_isEnough_L2 ?_ ?_ _ _ _ hF) (sub_cons rfl (sub_cons rfl (sub_cons rfl sub_nil)))
  · intro h1 hF
    refine RN.blk (ops := [(61, .iconst 0)]) (pc' := 62) (lv' := []) (st' := [.inl 0]) (h' := h1) (cs := []) (by decide +kernel) rfl trivial ?_
    exact RN.zR (by decide +kernel) rfl (Or.inl rfl) hF
  · intro h2 hF
    refine RN.blk (ops := [(75, .iconst 1)]) (pc' := 76) (lv' := []) (st' := [.inl 1]) (h' := h2) (cs := []) (by decide +kernel) rfl trivial ?_
    exact RN.zR (by decide +kernel) rfl (Or.inr rfl) hF
noncomputable def FX12_fillsGoes_L2 (u0 : Int) (K0 : MH → Option (MH)) : Nat → Int → MH → Option (MH)
  | 0, _, _ => none
  | f + 1, v1, h =>
    gd [GK h u0 12] (bd (FX12_codesMany u0 h) (fun x2 h1 =>
     (if v1 < x2 then
      gd [GK h1 u0 12] (
       gd [GK h1 u0 12] (bd (FX12_holeOf u0 v1 h1) (fun x4 h3 =>
        gd [GI h3 (m_rd h1 u0 27) 1 v1] (
         FX12_fillsGoes_L2 u0 K0 f (m_w32 (v1 + 1)) (m_wr h3 (m_rd h1 u0 27) v1 x4)))))
     else
      K0 h1)))
theorem CX12_fillsGoes_L2 {d : Nat} {u0 : Int} {K0 : MH → Option (MH)} {r : MH} (hK0 : ∀ (h : MH), K0 h = some r → RN xs L iX12_fillsGoes (d + 4) 27 [] [] h (RVo r)) : ∀ (f : Nat) (v1 : Int) (h : MH), FX12_fillsGoes_L2 u0 K0 f v1 h = some r → RN xs L iX12_fillsGoes (d + 4) 2 [(0, .inr (.inr u0)), (1, .inl v1)] [] h (RVo r) := by
  intro f
  induction f with
  | zero =>
    intro v1 h hF
    cases hF
  | succ f ih =>
    intro v1 h hF
    unfold FX12_fillsGoes_L2 at hF
    refine RN.blk (ops := [(2, .iload_n 1), (3, .aload_n 0)]) (pc' := 4) (lv' := [(0, .inr (.inr u0)), (1, .inl v1)]) (st' := [.inr (.inr u0), .inl v1]) (h' := h) (cs := []) (by decide +kernel) rfl trivial ?_
    obtain ⟨hc, hF⟩ := gd_of hF
    obtain ⟨x2, h1, hG, hF⟩ := bd_of hF
    refine RN.cv (i := 298) (k := 203) (q2 := iX12_codesMany) (as := [.inr (.inr u0)]) (r := [.inl v1]) (v := some (.inl x2)) (h1 := h1) (by decide +kernel) rfl rfl rfl rfl rfl (rcv_ok hc.1) (CX12_codesMany (d := d + 2) hG) ?_
    rcases it_of hF with ⟨hb, hF⟩ | ⟨hb, hF⟩
    · refine RN.icf (cd := .ge) (off := 20) (tgt := 27) (by decide +kernel) (mif_gen hb) ?_
      obtain ⟨hc, hF⟩ := gd_of hF
      refine RN.blk (ops := [(10, .aload_n 0), (11, .getfield 52), (14, .iload_n 1), (15, .aload_n 0), (16, .iload_n 1)]) (pc' := 17) (lv' := [(0, .inr (.inr u0)), (1, .inl v1)]) (st' := [.inl v1, .inr (.inr u0), .inl v1, .inr (.inr (m_rd h1 u0 27))]) (h' := h1) (cs := [GK h1 u0 12]) (by decide +kernel) rfl hc ?_
      obtain ⟨hc, hF⟩ := gd_of hF
      obtain ⟨x4, h3, hG, hF⟩ := bd_of hF
      refine RN.cv (i := 322) (k := 209) (q2 := iX12_holeOf) (as := [.inr (.inr u0), .inl v1]) (r := [.inl v1, .inr (.inr (m_rd h1 u0 27))]) (v := some (.inl x4)) (h1 := h3) (by decide +kernel) rfl rfl rfl rfl rfl (rcv_ok hc.1) (CX12_holeOf (d := d) hG) ?_
      obtain ⟨hc, hF⟩ := gd_of hF
      refine RN.blk (ops := [(20, .iastore), (21, .iinc 1 1)]) (pc' := 24) (lv' := [(1, .inl (m_w32 (v1 + 1))), (0, .inr (.inr u0))]) (st' := []) (h' := (m_wr h3 (m_rd h1 u0 27) v1 x4)) (cs := [GI h3 (m_rd h1 u0 27) 1 v1]) (by decide +kernel) rfl hc ?_
      refine RN.goto (off := -22) (tgt := 2) (by decide +kernel) ?_
      exact RN.sub (ih _ _ hF) (sub_cons rfl (sub_cons rfl sub_nil))
    · refine RN.ict (cd := .ge) (off := 20) (tgt := 27) (by decide +kernel) (mif_ge hb) ?_
      exact RN.sub (hK0 _ hF) sub_nil
noncomputable def FX12_fillsGoes (t : Int) (h : MH) : Option (MH) :=
  FX12_fillsGoes_L2 t (fun h1 =>
   some h1) FU 0 h
theorem CX12_fillsGoes {d : Nat} {t : Int} {h : MH} {r : MH} (hF : FX12_fillsGoes t h = some r) : RN xs L iX12_fillsGoes (d + 4) 0 (lvE 0 [.inr (.inr t)]) [] h (RVo r) := by
  unfold FX12_fillsGoes at hF
  refine RN.blk (ops := [(0, .iconst 0), (1, .istore_n 1)]) (pc' := 2) (lv' := [(1, .inl 0), (0, .inr (.inr t))]) (st' := []) (h' := h) (cs := []) (by decide +kernel) rfl trivial ?_
  refine RN.sub (CX12_fillsGoes_L2 ?_ _ _ _ hF) (sub_cons rfl (sub_cons rfl sub_nil))
  · intro h1 hF
    exact RN.vR (by decide +kernel) rfl hF
noncomputable def FX12_read_L25 (u0 : Int) (u2 : Int) (K0 : Int → MH → Option (Int × MH)) : Nat → Int → Int → MH → Option (Int × MH)
  | 0, _, _, _ => none
  | f + 1, v3, v4, h =>
    gd [GK h u0 12, GI h (m_rd h u0 20) 1 2] (
     (if v4 < (m_rd h (m_rd h u0 20) 2) then
      gd [GK h u0 12, GI h (m_rd h u0 26) 1 v4] (
       (if (m_rd h (m_rd h u0 26) v4) = 9 then
        FX12_read_L25 u0 u2 K0 f (m_bor v3 (m_shl 1 v4)) (m_w32 (v4 + 1)) h
       else
        FX12_read_L25 u0 u2 K0 f (m_bor v3 0) (m_w32 (v4 + 1)) h))
     else
      K0 v3 h))
theorem CX12_read_L25 {d : Nat} {u0 : Int} {u2 : Int} {K0 : Int → MH → Option (Int × MH)} {r : Int × MH} (hK0 : ∀ (w3 : Int) (h : MH), K0 w3 h = some r → RN xs L iX12_read (d + 5) 65 [(0, .inr (.inr u0)), (2, .inl u2), (3, .inl w3)] [] h (RIo r)) : ∀ (f : Nat) (v3 : Int) (v4 : Int) (h : MH), FX12_read_L25 u0 u2 K0 f v3 v4 h = some r → RN xs L iX12_read (d + 5) 25 [(0, .inr (.inr u0)), (2, .inl u2), (3, .inl v3), (4, .inl v4)] [] h (RIo r) := by
  intro f
  induction f with
  | zero =>
    intro v3 v4 h hF
    cases hF
  | succ f ih =>
    intro v3 v4 h hF
    unfold FX12_read_L25 at hF
    obtain ⟨hc, hF⟩ := gd_of hF
    refine RN.blk (ops := [(25, .iload 4), (27, .aload_n 0), (28, .getfield 39), (31, .iconst 2), (32, .iaload)]) (pc' := 33) (lv' := [(0, .inr (.inr u0)), (2, .inl u2), (3, .inl v3), (4, .inl v4)]) (st' := [.inl (m_rd h (m_rd h u0 20) 2), .inl v4]) (h' := h) (cs := [GK h u0 12, GI h (m_rd h u0 20) 1 2]) (by decide +kernel) rfl hc ?_
    rcases it_of hF with ⟨hb, hF⟩ | ⟨hb, hF⟩
    · refine RN.icf (cd := .ge) (off := 32) (tgt := 65) (by decide +kernel) (mif_gen hb) ?_
      obtain ⟨hc, hF⟩ := gd_of hF
      refine RN.blk (ops := [(36, .iload_n 3), (37, .aload_n 0), (38, .getfield 49), (41, .iload 4), (43, .iaload), (44, .bipush 9)]) (pc' := 46) (lv' := [(0, .inr (.inr u0)), (2, .inl u2), (3, .inl v3), (4, .inl v4)]) (st' := [.inl 9, .inl (m_rd h (m_rd h u0 26) v4), .inl v3]) (h' := h) (cs := [GK h u0 12, GI h (m_rd h u0 26) 1 v4]) (by decide +kernel) rfl hc ?_
      rcases it_of hF with ⟨hb, hF⟩ | ⟨hb, hF⟩
      · refine RN.icf (cd := .ne) (off := 10) (tgt := 56) (by decide +kernel) (mif_nen hb) ?_
        refine RN.blk (ops := [(49, .iconst 1), (50, .iload 4), (52, .ishl)]) (pc' := 53) (lv' := [(0, .inr (.inr u0)), (2, .inl u2), (3, .inl v3), (4, .inl v4)]) (st' := [.inl (m_shl 1 v4), .inl v3]) (h' := h) (cs := []) (by decide +kernel) rfl trivial ?_
        refine RN.goto (off := 4) (tgt := 57) (by decide +kernel) ?_
        refine RN.blk (ops := [(57, .ior), (58, .istore_n 3), (59, .iinc 4 1)]) (pc' := 62) (lv' := [(4, .inl (m_w32 (v4 + 1))), (3, .inl (m_bor v3 (m_shl 1 v4))), (0, .inr (.inr u0)), (2, .inl u2)]) (st' := []) (h' := h) (cs := []) (by decide +kernel) rfl trivial ?_
        refine RN.goto (off := -37) (tgt := 25) (by decide +kernel) ?_
        exact RN.sub (ih _ _ _ hF) (sub_cons rfl (sub_cons rfl (sub_cons rfl (sub_cons rfl sub_nil))))
      · refine RN.ict (cd := .ne) (off := 10) (tgt := 56) (by decide +kernel) (mif_ne hb) ?_
        refine RN.blk (ops := [(56, .iconst 0)]) (pc' := 57) (lv' := [(0, .inr (.inr u0)), (2, .inl u2), (3, .inl v3), (4, .inl v4)]) (st' := [.inl 0, .inl v3]) (h' := h) (cs := []) (by decide +kernel) rfl trivial ?_
        refine RN.blk (ops := [(57, .ior), (58, .istore_n 3), (59, .iinc 4 1)]) (pc' := 62) (lv' := [(4, .inl (m_w32 (v4 + 1))), (3, .inl (m_bor v3 0)), (0, .inr (.inr u0)), (2, .inl u2)]) (st' := []) (h' := h) (cs := []) (by decide +kernel) rfl trivial ?_
        refine RN.goto (off := -37) (tgt := 25) (by decide +kernel) ?_
        exact RN.sub (ih _ _ _ hF) (sub_cons rfl (sub_cons rfl (sub_cons rfl (sub_cons rfl sub_nil))))
    · refine RN.ict (cd := .ge) (off := 32) (tgt := 65) (by decide +kernel) (mif_ge hb) ?_
      exact RN.sub (hK0 _ _ hF) (sub_cons rfl (sub_cons rfl (sub_cons rfl sub_nil)))
noncomputable def FX12_read_L75 (u0 : Int) (u2 : Int) (u3 : Int) (K0 : Int → MH → Option (Int × MH)) : Nat → Int → Int → MH → Option (Int × MH)
  | 0, _, _, _ => none
  | f + 1, v4, v5, h =>
    (if v5 < u3 then
     (if (m_band v5 (m_bxor u3 (-1))) = 0 then
      (bd (FX12_bits v5 h) (fun x2 h1 =>
       (bd (FX12_bits v4 h1) (fun x4 h3 =>
        (if x2 < x4 then
         gd [GK h3 u0 12] (bd (FX12_isEnough u0 v5 h3) (fun x6 h5 =>
          (if x6 = 0 then
           FX12_read_L75 u0 u2 u3 K0 f v4 (m_w32 (v5 + 1)) h5
          else
           FX12_read_L75 u0 u2 u3 K0 f v5 (m_w32 (v5 + 1)) h5)))
        else
         FX12_read_L75 u0 u2 u3 K0 f v4 (m_w32 (v5 + 1)) h3)))))
     else
      FX12_read_L75 u0 u2 u3 K0 f v4 (m_w32 (v5 + 1)) h)
    else
     K0 v4 h)
theorem CX12_read_L75 {d : Nat} {u0 : Int} {u2 : Int} {u3 : Int} {K0 : Int → MH → Option (Int × MH)} {r : Int × MH} (hK0 : ∀ (w4 : Int) (h : MH), K0 w4 h = some r → RN xs L iX12_read (d + 5) 122 [(2, .inl u2), (4, .inl w4)] [] h (RIo r)) : ∀ (f : Nat) (v4 : Int) (v5 : Int) (h : MH), FX12_read_L75 u0 u2 u3 K0 f v4 v5 h = some r → RN xs L iX12_read (d + 5) 75 [(0, .inr (.inr u0)), (2, .inl u2), (3, .inl u3), (4, .inl v4), (5, .inl v5)] [] h (RIo r) := by
  intro f
  induction f with
  | zero =>
    intro v4 v5 h hF
    cases hF
  | succ f ih =>
    intro v4 v5 h hF
    unfold FX12_read_L75 at hF
    refine RN.blk (ops := [(75, .iload 5), (77, .iload_n 3)]) (pc' := 78) (lv' := [(0, .inr (.inr u0)), (2, .inl u2), (3, .inl u3), (4, .inl v4), (5, .inl v5)]) (st' := [.inl u3, .inl v5]) (h' := h) (cs := []) (by decide +kernel) rfl trivial ?_
    rcases it_of hF with ⟨hb, hF⟩ | ⟨hb, hF⟩
    · refine RN.icf (cd := .ge) (off := 44) (tgt := 122) (by decide +kernel) (mif_gen hb) ?_
      refine RN.blk (ops := [(81, .iload 5), (83, .iload_n 3), (84, .iconst (-1)), (85, .ixor), (86, .iand)]) (pc' := 87) (lv' := [(0, .inr (.inr u0)), (2, .inl u2), (3, .inl u3), (4, .inl v4), (5, .inl v5)]) (st' := [.inl (m_band v5 (m_bxor u3 (-1)))]) (h' := h) (cs := []) (by decide +kernel) rfl trivial ?_
      rcases it_of hF with ⟨hb, hF⟩ | ⟨hb, hF⟩
      · refine RN.iff (cd := .ne) (off := 29) (tgt := 116) (by decide +kernel) (mif_nen hb) ?_
        refine RN.blk (ops := [(90, .iload 5)]) (pc' := 92) (lv' := [(0, .inr (.inr u0)), (2, .inl u2), (3, .inl u3), (4, .inl v4), (5, .inl v5)]) (st' := [.inl v5]) (h' := h) (cs := []) (by decide +kernel) rfl trivial ?_
        obtain ⟨x2, h1, hG, hF⟩ := bd_of hF
        refine RN.cst (i := 390) (k := 158) (q2 := iX12_bits) (as := [.inl v5]) (r := []) (v := some (.inl x2)) (h1 := h1) (by decide +kernel) rfl rfl rfl rfl rfl (CX12_bits (d := d + 4) hG) ?_
        refine RN.blk (ops := [(95, .iload 4)]) (pc' := 97) (lv' := [(0, .inr (.inr u0)), (2, .inl u2), (3, .inl u3), (4, .inl v4), (5, .inl v5)]) (st' := [.inl v4, .inl x2]) (h' := h1) (cs := []) (by decide +kernel) rfl trivial ?_
        obtain ⟨x4, h3, hG, hF⟩ := bd_of hF
        refine RN.cst (i := 390) (k := 158) (q2 := iX12_bits) (as := [.inl v4]) (r := [.inl x2]) (v := some (.inl x4)) (h1 := h3) (by decide +kernel) rfl rfl rfl rfl rfl (CX12_bits (d := d + 4) hG) ?_
        rcases it_of hF with ⟨hb, hF⟩ | ⟨hb, hF⟩
        · refine RN.icf (cd := .ge) (off := 16) (tgt := 116) (by decide +kernel) (mif_gen hb) ?_
          refine RN.blk (ops := [(103, .aload_n 0), (104, .iload 5)]) (pc' := 106) (lv' := [(0, .inr (.inr u0)), (2, .inl u2), (3, .inl u3), (4, .inl v4), (5, .inl v5)]) (st' := [.inl v5, .inr (.inr u0)]) (h' := h3) (cs := []) (by decide +kernel) rfl trivial ?_
          obtain ⟨hc, hF⟩ := gd_of hF
          obtain ⟨x6, h5, hG, hF⟩ := bd_of hF
          refine RN.cv (i := 393) (k := 241) (q2 := iX12_isEnough) (as := [.inr (.inr u0), .inl v5]) (r := []) (v := some (.inl x6)) (h1 := h5) (by decide +kernel) rfl rfl rfl rfl rfl (rcv_ok hc.1) (CX12_isEnough (d := d + 1) hG) ?_
          rcases it_of hF with ⟨hb, hF⟩ | ⟨hb, hF⟩
          · refine RN.ift (cd := .eq) (off := 7) (tgt := 116) (by decide +kernel) (mif_eq hb) ?_
            refine RN.blk (ops := [(116, .iinc 5 1)]) (pc' := 119) (lv' := [(5, .inl (m_w32 (v5 + 1))), (0, .inr (.inr u0)), (2, .inl u2), (3, .inl u3), (4, .inl v4)]) (st' := []) (h' := h5) (cs := []) (by decide +kernel) rfl trivial ?_
            refine RN.goto (off := -44) (tgt := 75) (by decide +kernel) ?_
            exact RN.sub (ih _ _ _ hF) (sub_cons rfl (sub_cons rfl (sub_cons rfl (sub_cons rfl (sub_cons rfl sub_nil)))))
          · refine RN.iff (cd := .eq) (off := 7) (tgt := 116) (by decide +kernel) (mif_eqn hb) ?_
            refine RN.blk (ops := [(112, .iload 5), (114, .istore 4)]) (pc' := 116) (lv' := [(4, .inl v5), (0, .inr (.inr u0)), (2, .inl u2), (3, .inl u3), (5, .inl v5)]) (st' := []) (h' := h5) (cs := []) (by decide +kernel) rfl trivial ?_
            refine RN.blk (ops := [(116, .iinc 5 1)]) (pc' := 119) (lv' := [(5, .inl (m_w32 (v5 + 1))), (4, .inl v5), (0, .inr (.inr u0)), (2, .inl u2), (3, .inl u3)]) (st' := []) (h' := h5) (cs := []) (by decide +kernel) rfl trivial ?_
            refine RN.goto (off := -44) (tgt := 75) (by decide +kernel) ?_
            exact RN.sub (ih _ _ _ hF) (sub_cons rfl (sub_cons rfl (sub_cons rfl (sub_cons rfl (sub_cons rfl sub_nil)))))
        · refine RN.ict (cd := .ge) (off := 16) (tgt := 116) (by decide +kernel) (mif_ge hb) ?_
          refine RN.blk (ops := [(116, .iinc 5 1)]) (pc' := 119) (lv' := [(5, .inl (m_w32 (v5 + 1))), (0, .inr (.inr u0)), (2, .inl u2), (3, .inl u3), (4, .inl v4)]) (st' := []) (h' := h3) (cs := []) (by decide +kernel) rfl trivial ?_
          refine RN.goto (off := -44) (tgt := 75) (by decide +kernel) ?_
          exact RN.sub (ih _ _ _ hF) (sub_cons rfl (sub_cons rfl (sub_cons rfl (sub_cons rfl (sub_cons rfl sub_nil)))))
      · refine RN.ift (cd := .ne) (off := 29) (tgt := 116) (by decide +kernel) (mif_ne hb) ?_
        refine RN.blk (ops := [(116, .iinc 5 1)]) (pc' := 119) (lv' := [(5, .inl (m_w32 (v5 + 1))), (0, .inr (.inr u0)), (2, .inl u2), (3, .inl u3), (4, .inl v4)]) (st' := []) (h' := h) (cs := []) (by decide +kernel) rfl trivial ?_
        refine RN.goto (off := -44) (tgt := 75) (by decide +kernel) ?_
        exact RN.sub (ih _ _ _ hF) (sub_cons rfl (sub_cons rfl (sub_cons rfl (sub_cons rfl (sub_cons rfl sub_nil)))))
    · refine RN.ict (cd := .ge) (off := 44) (tgt := 122) (by decide +kernel) (mif_ge hb) ?_
      exact RN.sub (hK0 _ _ hF) (sub_cons rfl (sub_cons rfl sub_nil))
noncomputable def FX12_read (t : Int) (a1 : Int) (a2 : Int) (h : MH) : Option (Int × MH) :=
  gd [GK h t 12] (bd (FX12_isReading t a1 h) (fun x2 h1 =>
   (if x2 = 0 then
    some ((-1), h1)
   else
    (bd (FX12_in a2 0 1 h1) (fun x4 h3 =>
     (if x4 = 0 then
      some ((-1), h3)
     else
      FX12_read_L25 t a2 (fun w5 h6 =>
       gd [GK h6 t 12] (bv (FX12_fillsGoes t h6) (fun h7 =>
        FX12_read_L75 t a2 w5 (fun w8 h9 =>
         (if a2 = 0 then
          (bd (FX12_bits w8 h9) (fun x11 h10 =>
           some (x11, h10)))
         else
          some (w8, h9))) FU w5 0 h7))) FU 0 0 h3))))))
theorem CX12_read {d : Nat} {t : Int} {a1 : Int} {a2 : Int} {h : MH} {r : Int × MH} (hF : FX12_read t a1 a2 h = some r) : RN xs L iX12_read (d + 5) 0 (lvE 0 [.inr (.inr t), .inl a1, .inl a2]) [] h (RIo r) := by
  unfold FX12_read at hF
  refine RN.blk (ops := [(0, .aload_n 0), (1, .iload_n 1)]) (pc' := 2) (lv' := [(0, .inr (.inr t)), (1, .inl a1), (2, .inl a2)]) (st' := [.inl a1, .inr (.inr t)]) (h' := h) (cs := []) (by decide +kernel) rfl trivial ?_
  obtain ⟨hc, hF⟩ := gd_of hF
  obtain ⟨x2, h1, hG, hF⟩ := bd_of hF
  refine RN.cv (i := 375) (k := 236) (q2 := iX12_isReading) (as := [.inr (.inr t), .inl a1]) (r := []) (v := some (.inl x2)) (h1 := h1) (by decide +kernel) rfl rfl rfl rfl rfl (rcv_ok hc.1) (CX12_isReading (d := d + 3) hG) ?_
  rcases it_of hF with ⟨hb, hF⟩ | ⟨hb, hF⟩
  · refine RN.ift (cd := .eq) (off := 13) (tgt := 18) (by decide +kernel) (mif_eq hb) ?_
    refine RN.blk (ops := [(18, .iconst (-1))]) (pc' := 19) (lv' := [(0, .inr (.inr t)), (1, .inl a1), (2, .inl a2)]) (st' := [.inl (-1)]) (h' := h1) (cs := []) (by decide +kernel) rfl trivial ?_
    exact RN.iR (by decide +kernel) rfl hF
  · refine RN.iff (cd := .eq) (off := 13) (tgt := 18) (by decide +kernel) (mif_eqn hb) ?_
    refine RN.blk (ops := [(8, .iload_n 2), (9, .i2l), (10, .lconst 0), (11, .lconst 1)]) (pc' := 12) (lv' := [(0, .inr (.inr t)), (1, .inl a1), (2, .inl a2)]) (st' := [.inr (.inl 1), .inr (.inl 0), .inr (.inl a2)]) (h' := h1) (cs := []) (by decide +kernel) rfl trivial ?_
    obtain ⟨x4, h3, hG, hF⟩ := bd_of hF
    refine RN.cst (i := 127) (k := 156) (q2 := iX12_in) (as := [.inr (.inl a2), .inr (.inl 0), .inr (.inl 1)]) (r := []) (v := some (.inl x4)) (h1 := h3) (by decide +kernel) rfl rfl rfl rfl rfl (CX12_in (d := d + 4) hG) ?_
    rcases it_of hF with ⟨hb, hF⟩ | ⟨hb, hF⟩
    · refine RN.iff (cd := .ne) (off := 5) (tgt := 20) (by decide +kernel) (mif_nen hb) ?_
      refine RN.blk (ops := [(18, .iconst (-1))]) (pc' := 19) (lv' := [(0, .inr (.inr t)), (1, .inl a1), (2, .inl a2)]) (st' := [.inl (-1)]) (h' := h3) (cs := []) (by decide +kernel) rfl trivial ?_
      exact RN.iR (by decide +kernel) rfl hF
    · refine RN.ift (cd := .ne) (off := 5) (tgt := 20) (by decide +kernel) (mif_ne hb) ?_
      refine RN.blk (ops := [(20, .iconst 0), (21, .istore_n 3), (22, .iconst 0), (23, .istore 4)]) (pc' := 25) (lv' := [(4, .inl 0), (3, .inl 0), (0, .inr (.inr t)), (1, .inl a1), (2, .inl a2)]) (st' := []) (h' := h3) (cs := []) (by decide +kernel) rfl trivial ?_
      refine RN.sub (CX12_read_L25 ?_ _ _ _ _ hF) (sub_cons rfl (sub_cons rfl (sub_cons rfl (sub_cons rfl sub_nil))))
      · intro w5 h6 hF
        refine RN.blk (ops := [(65, .iload_n 3), (66, .istore 4), (68, .aload_n 0)]) (pc' := 69) (lv' := [(4, .inl w5), (0, .inr (.inr t)), (2, .inl a2), (3, .inl w5)]) (st' := [.inr (.inr t)]) (h' := h6) (cs := []) (by decide +kernel) rfl trivial ?_
        obtain ⟨hc, hF⟩ := gd_of hF
        obtain ⟨h7, hG, hF⟩ := bv_of hF
        refine RN.cv (i := 387) (k := 242) (q2 := iX12_fillsGoes) (as := [.inr (.inr t)]) (r := []) (v := none) (h1 := h7) (by decide +kernel) rfl rfl rfl rfl rfl (rcv_ok hc.1) (CX12_fillsGoes (d := d) hG) ?_
        refine RN.blk (ops := [(72, .iconst 0), (73, .istore 5)]) (pc' := 75) (lv' := [(5, .inl 0), (4, .inl w5), (0, .inr (.inr t)), (2, .inl a2), (3, .inl w5)]) (st' := []) (h' := h7) (cs := []) (by decide +kernel) rfl trivial ?_
        refine RN.sub (CX12_read_L75 ?_ _ _ _ _ hF) (sub_cons rfl (sub_cons rfl (sub_cons rfl (sub_cons rfl (sub_cons rfl sub_nil)))))
        · intro w8 h9 hF
          refine RN.blk (ops := [(122, .iload_n 2)]) (pc' := 123) (lv' := [(2, .inl a2), (4, .inl w8)]) (st' := [.inl a2]) (h' := h9) (cs := []) (by decide +kernel) rfl trivial ?_
          rcases it_of hF with ⟨hb, hF⟩ | ⟨hb, hF⟩
          · refine RN.iff (cd := .ne) (off := 11) (tgt := 134) (by decide +kernel) (mif_nen hb) ?_
            refine RN.blk (ops := [(126, .iload 4)]) (pc' := 128) (lv' := [(2, .inl a2), (4, .inl w8)]) (st' := [.inl w8]) (h' := h9) (cs := []) (by decide +kernel) rfl trivial ?_
            obtain ⟨x11, h10, hG, hF⟩ := bd_of hF
            refine RN.cst (i := 390) (k := 158) (q2 := iX12_bits) (as := [.inl w8]) (r := []) (v := some (.inl x11)) (h1 := h10) (by decide +kernel) rfl rfl rfl rfl rfl (CX12_bits (d := d + 4) hG) ?_
            refine RN.goto (off := 5) (tgt := 136) (by decide +kernel) ?_
            exact RN.iR (by decide +kernel) rfl hF
          · refine RN.ift (cd := .ne) (off := 11) (tgt := 134) (by decide +kernel) (mif_ne hb) ?_
            refine RN.blk (ops := [(134, .iload 4)]) (pc' := 136) (lv' := [(2, .inl a2), (4, .inl w8)]) (st' := [.inl w8]) (h' := h9) (cs := []) (by decide +kernel) rfl trivial ?_
            exact RN.iR (by decide +kernel) rfl hF
noncomputable def FX12_codes_L47 (u0 : Int) (u1 : Int) (u2 : Int) (K0 : Int → Int → MH → Option (Int × MH)) : Nat → Int → Int → Int → MH → Option (Int × MH)
  | 0, _, _, _, _ => none
  | f + 1, v3, v4, v5, h =>
    (if v5 < 0 then
     K0 v3 v4 h
    else
     gd [GK h u0 12] (bd (FX12_holeOf u0 v5 h) (fun x2 h1 =>
      (if x2 = u1 then
       FX12_codes_L47 u0 u1 u2 K0 f (m_w32 (v3 + 1)) v5 (m_w32 (v5 + (-1))) h1
      else
       FX12_codes_L47 u0 u1 u2 K0 f v3 v4 (m_w32 (v5 + (-1))) h1))))
theorem CX12_codes_L47 {d : Nat} {u0 : Int} {u1 : Int} {u2 : Int} {K0 : Int → Int → MH → Option (Int × MH)} {r : Int × MH} (hK0 : ∀ (w3 : Int) (w4 : Int) (h : MH), K0 w3 w4 h = some r → RN xs L iX12_codes (d + 4) 78 [(2, .inl u2), (3, .inl w3), (4, .inl w4)] [] h (RIo r)) : ∀ (f : Nat) (v3 : Int) (v4 : Int) (v5 : Int) (h : MH), FX12_codes_L47 u0 u1 u2 K0 f v3 v4 v5 h = some r → RN xs L iX12_codes (d + 4) 47 [(0, .inr (.inr u0)), (1, .inl u1), (2, .inl u2), (3, .inl v3), (4, .inl v4), (5, .inl v5)] [] h (RIo r) := by
  intro f
  induction f with
  | zero =>
    intro v3 v4 v5 h hF
    cases hF
  | succ f ih =>
    intro v3 v4 v5 h hF
    unfold FX12_codes_L47 at hF
    refine RN.blk (ops := [(47, .iload 5)]) (pc' := 49) (lv' := [(0, .inr (.inr u0)), (1, .inl u1), (2, .inl u2), (3, .inl v3), (4, .inl v4), (5, .inl v5)]) (st' := [.inl v5]) (h' := h) (cs := []) (by decide +kernel) rfl trivial ?_
    rcases it_of hF with ⟨hb, hF⟩ | ⟨hb, hF⟩
    · refine RN.ift (cd := .lt) (off := 29) (tgt := 78) (by decide +kernel) (mif_lt hb) ?_
      exact RN.sub (hK0 _ _ _ hF) (sub_cons rfl (sub_cons rfl (sub_cons rfl sub_nil)))
    · refine RN.iff (cd := .lt) (off := 29) (tgt := 78) (by decide +kernel) (mif_ltn hb) ?_
      refine RN.blk (ops := [(52, .aload_n 0), (53, .iload 5)]) (pc' := 55) (lv' := [(0, .inr (.inr u0)), (1, .inl u1), (2, .inl u2), (3, .inl v3), (4, .inl v4), (5, .inl v5)]) (st' := [.inl v5, .inr (.inr u0)]) (h' := h) (cs := []) (by decide +kernel) rfl trivial ?_
      obtain ⟨hc, hF⟩ := gd_of hF
      obtain ⟨x2, h1, hG, hF⟩ := bd_of hF
      refine RN.cv (i := 322) (k := 209) (q2 := iX12_holeOf) (as := [.inr (.inr u0), .inl v5]) (r := []) (v := some (.inl x2)) (h1 := h1) (by decide +kernel) rfl rfl rfl rfl rfl (rcv_ok hc.1) (CX12_holeOf (d := d) hG) ?_
      refine RN.blk (ops := [(58, .iload_n 1)]) (pc' := 59) (lv' := [(0, .inr (.inr u0)), (1, .inl u1), (2, .inl u2), (3, .inl v3), (4, .inl v4), (5, .inl v5)]) (st' := [.inl u1, .inl x2]) (h' := h1) (cs := []) (by decide +kernel) rfl trivial ?_
      rcases it_of hF with ⟨hb, hF⟩ | ⟨hb, hF⟩
      · refine RN.ict (cd := .eq) (off := 6) (tgt := 65) (by decide +kernel) (mif_eq hb) ?_
        refine RN.blk (ops := [(65, .iinc 3 1), (68, .iload 5), (70, .istore 4)]) (pc' := 72) (lv' := [(4, .inl v5), (3, .inl (m_w32 (v3 + 1))), (0, .inr (.inr u0)), (1, .inl u1), (2, .inl u2), (5, .inl v5)]) (st' := []) (h' := h1) (cs := []) (by decide +kernel) rfl trivial ?_
        refine RN.blk (ops := [(72, .iinc 5 (-1))]) (pc' := 75) (lv' := [(5, .inl (m_w32 (v5 + (-1)))), (4, .inl v5), (3, .inl (m_w32 (v3 + 1))), (0, .inr (.inr u0)), (1, .inl u1), (2, .inl u2)]) (st' := []) (h' := h1) (cs := []) (by decide +kernel) rfl trivial ?_
        refine RN.goto (off := -28) (tgt := 47) (by decide +kernel) ?_
        exact RN.sub (ih _ _ _ _ hF) (sub_cons rfl (sub_cons rfl (sub_cons rfl (sub_cons rfl (sub_cons rfl (sub_cons rfl sub_nil))))))
      · refine RN.icf (cd := .eq) (off := 6) (tgt := 65) (by decide +kernel) (mif_eqn hb) ?_
        refine RN.goto (off := 10) (tgt := 72) (by decide +kernel) ?_
        refine RN.blk (ops := [(72, .iinc 5 (-1))]) (pc' := 75) (lv' := [(5, .inl (m_w32 (v5 + (-1)))), (0, .inr (.inr u0)), (1, .inl u1), (2, .inl u2), (3, .inl v3), (4, .inl v4)]) (st' := []) (h' := h1) (cs := []) (by decide +kernel) rfl trivial ?_
        refine RN.goto (off := -28) (tgt := 47) (by decide +kernel) ?_
        exact RN.sub (ih _ _ _ _ hF) (sub_cons rfl (sub_cons rfl (sub_cons rfl (sub_cons rfl (sub_cons rfl (sub_cons rfl sub_nil))))))
noncomputable def FX12_codes (t : Int) (a1 : Int) (a2 : Int) (h : MH) : Option (Int × MH) :=
  gd [GK h t 12] (bd (FX12_isFrame t h) (fun x2 h1 =>
   (if x2 = 0 then
    some ((-3), h1)
   else
    jn (fun (h4 : MH) =>
     (bd (FX12_in a2 0 1 h4) (fun x6 h5 =>
      (if x6 = 0 then
       some ((-3), h5)
      else
       gd [GK h5 t 12] (bd (FX12_codesMany t h5) (fun x8 h7 =>
        FX12_codes_L47 t a1 a2 (fun w9 w10 h11 =>
         (if a2 = 0 then
          some (w9, h11)
         else
          some (w10, h11))) FU 0 (-2) (m_w32 (x8 - 1)) h7)))))) (fun j3 =>
     (if a1 = (-1) then
      j3 h1
     else
      gd [GK h1 t 12] (bd (FX12_isHole t a1 h1) (fun x13 h12 =>
       (if x13 = 0 then
        some ((-3), h12)
       else
        j3 h12))))))))
theorem CX12_codes {d : Nat} {t : Int} {a1 : Int} {a2 : Int} {h : MH} {r : Int × MH} (hF : FX12_codes t a1 a2 h = some r) : RN xs L iX12_codes (d + 4) 0 (lvE 0 [.inr (.inr t), .inl a1, .inl a2]) [] h (RIo r) := by
  unfold FX12_codes at hF
  refine RN.blk (ops := [(0, .aload_n 0)]) (pc' := 1) (lv' := [(0, .inr (.inr t)), (1, .inl a1), (2, .inl a2)]) (st' := [.inr (.inr t)]) (h' := h) (cs := []) (by decide +kernel) rfl trivial ?_
  obtain ⟨hc, hF⟩ := gd_of hF
  obtain ⟨x2, h1, hG, hF⟩ := bd_of hF
  refine RN.cv (i := 295) (k := 202) (q2 := iX12_isFrame) (as := [.inr (.inr t)]) (r := []) (v := some (.inl x2)) (h1 := h1) (by decide +kernel) rfl rfl rfl rfl rfl (rcv_ok hc.1) (CX12_isFrame (d := d + 3) hG) ?_
  rcases it_of hF with ⟨hb, hF⟩ | ⟨hb, hF⟩
  · refine RN.ift (cd := .eq) (off := 26) (tgt := 30) (by decide +kernel) (mif_eq hb) ?_
    refine RN.blk (ops := [(30, .bipush (-3))]) (pc' := 32) (lv' := [(0, .inr (.inr t)), (1, .inl a1), (2, .inl a2)]) (st' := [.inl (-3)]) (h' := h1) (cs := []) (by decide +kernel) rfl trivial ?_
    exact RN.iR (by decide +kernel) rfl hF
  · refine RN.iff (cd := .eq) (off := 26) (tgt := 30) (by decide +kernel) (mif_eqn hb) ?_
    refine RN.blk (ops := [(7, .iload_n 1), (8, .iconst (-1))]) (pc' := 9) (lv' := [(0, .inr (.inr t)), (1, .inl a1), (2, .inl a2)]) (st' := [.inl (-1), .inl a1]) (h' := h1) (cs := []) (by decide +kernel) rfl trivial ?_
    refine jn_use (fun j3 => ∀ (h4 : MH), j3 h4 = some r → RN xs L iX12_codes (d + 4) 20 [(0, .inr (.inr t)), (1, .inl a1), (2, .inl a2)] [] h4 (RIo r)) ?_ ?_ hF
    · intro h4 hF
      refine RN.blk (ops := [(20, .iload_n 2), (21, .i2l), (22, .lconst 0), (23, .lconst 1)]) (pc' := 24) (lv' := [(0, .inr (.inr t)), (1, .inl a1), (2, .inl a2)]) (st' := [.inr (.inl 1), .inr (.inl 0), .inr (.inl a2)]) (h' := h4) (cs := []) (by decide +kernel) rfl trivial ?_
      obtain ⟨x6, h5, hG, hF⟩ := bd_of hF
      refine RN.cst (i := 127) (k := 156) (q2 := iX12_in) (as := [.inr (.inl a2), .inr (.inl 0), .inr (.inl 1)]) (r := []) (v := some (.inl x6)) (h1 := h5) (by decide +kernel) rfl rfl rfl rfl rfl (CX12_in (d := d + 3) hG) ?_
      rcases it_of hF with ⟨hb, hF⟩ | ⟨hb, hF⟩
      · refine RN.iff (cd := .ne) (off := 6) (tgt := 33) (by decide +kernel) (mif_nen hb) ?_
        refine RN.blk (ops := [(30, .bipush (-3))]) (pc' := 32) (lv' := [(0, .inr (.inr t)), (1, .inl a1), (2, .inl a2)]) (st' := [.inl (-3)]) (h' := h5) (cs := []) (by decide +kernel) rfl trivial ?_
        exact RN.iR (by decide +kernel) rfl hF
      · refine RN.ift (cd := .ne) (off := 6) (tgt := 33) (by decide +kernel) (mif_ne hb) ?_
        refine RN.blk (ops := [(33, .iconst 0), (34, .istore_n 3), (35, .bipush (-2)), (37, .istore 4), (39, .aload_n 0)]) (pc' := 40) (lv' := [(4, .inl (-2)), (3, .inl 0), (0, .inr (.inr t)), (1, .inl a1), (2, .inl a2)]) (st' := [.inr (.inr t)]) (h' := h5) (cs := []) (by decide +kernel) rfl trivial ?_
        obtain ⟨hc, hF⟩ := gd_of hF
        obtain ⟨x8, h7, hG, hF⟩ := bd_of hF
        refine RN.cv (i := 298) (k := 203) (q2 := iX12_codesMany) (as := [.inr (.inr t)]) (r := []) (v := some (.inl x8)) (h1 := h7) (by decide +kernel) rfl rfl rfl rfl rfl (rcv_ok hc.1) (CX12_codesMany (d := d + 2) hG) ?_
        refine RN.blk (ops := [(43, .iconst 1), (44, .isub), (45, .istore 5)]) (pc' := 47) (lv' := [(5, .inl (m_w32 (x8 - 1))), (4, .inl (-2)), (3, .inl 0), (0, .inr (.inr t)), (1, .inl a1), (2, .inl a2)]) (st' := []) (h' := h7) (cs := []) (by decide +kernel) rfl trivial ?_
        refine RN.sub (CX12_codes_L47 ?_ _ _ _ _ _ hF) (sub_cons rfl (sub_cons rfl (sub_cons rfl (sub_cons rfl (sub_cons rfl (sub_cons rfl sub_nil))))))
        · intro w9 w10 h11 hF
          refine RN.blk (ops := [(78, .iload_n 2)]) (pc' := 79) (lv' := [(2, .inl a2), (3, .inl w9), (4, .inl w10)]) (st' := [.inl a2]) (h' := h11) (cs := []) (by decide +kernel) rfl trivial ?_
          rcases it_of hF with ⟨hb, hF⟩ | ⟨hb, hF⟩
          · refine RN.iff (cd := .ne) (off := 7) (tgt := 86) (by decide +kernel) (mif_nen hb) ?_
            refine RN.blk (ops := [(82, .iload_n 3)]) (pc' := 83) (lv' := [(2, .inl a2), (3, .inl w9), (4, .inl w10)]) (st' := [.inl w9]) (h' := h11) (cs := []) (by decide +kernel) rfl trivial ?_
            refine RN.goto (off := 5) (tgt := 88) (by decide +kernel) ?_
            exact RN.iR (by decide +kernel) rfl hF
          · refine RN.ift (cd := .ne) (off := 7) (tgt := 86) (by decide +kernel) (mif_ne hb) ?_
            refine RN.blk (ops := [(86, .iload 4)]) (pc' := 88) (lv' := [(2, .inl a2), (3, .inl w9), (4, .inl w10)]) (st' := [.inl w10]) (h' := h11) (cs := []) (by decide +kernel) rfl trivial ?_
            exact RN.iR (by decide +kernel) rfl hF
    · intro j3 Jj3 hF
      rcases it_of hF with ⟨hb, hF⟩ | ⟨hb, hF⟩
      · refine RN.ict (cd := .eq) (off := 11) (tgt := 20) (by decide +kernel) (mif_eq hb) ?_
        exact RN.sub (Jj3 _ hF) (sub_cons rfl (sub_cons rfl (sub_cons rfl sub_nil)))
      · refine RN.icf (cd := .eq) (off := 11) (tgt := 20) (by decide +kernel) (mif_eqn hb) ?_
        refine RN.blk (ops := [(12, .aload_n 0), (13, .iload_n 1)]) (pc' := 14) (lv' := [(0, .inr (.inr t)), (1, .inl a1), (2, .inl a2)]) (st' := [.inl a1, .inr (.inr t)]) (h' := h1) (cs := []) (by decide +kernel) rfl trivial ?_
        obtain ⟨hc, hF⟩ := gd_of hF
        obtain ⟨x13, h12, hG, hF⟩ := bd_of hF
        refine RN.cv (i := 310) (k := 204) (q2 := iX12_isHole) (as := [.inr (.inr t), .inl a1]) (r := []) (v := some (.inl x13)) (h1 := h12) (by decide +kernel) rfl rfl rfl rfl rfl (rcv_ok hc.1) (CX12_isHole (d := d + 3) hG) ?_
        rcases it_of hF with ⟨hb, hF⟩ | ⟨hb, hF⟩
        · refine RN.ift (cd := .eq) (off := 13) (tgt := 30) (by decide +kernel) (mif_eq hb) ?_
          refine RN.blk (ops := [(30, .bipush (-3))]) (pc' := 32) (lv' := [(0, .inr (.inr t)), (1, .inl a1), (2, .inl a2)]) (st' := [.inl (-3)]) (h' := h12) (cs := []) (by decide +kernel) rfl trivial ?_
          exact RN.iR (by decide +kernel) rfl hF
        · refine RN.iff (cd := .eq) (off := 13) (tgt := 30) (by decide +kernel) (mif_eqn hb) ?_
          exact RN.sub (Jj3 _ hF) (sub_cons rfl (sub_cons rfl (sub_cons rfl sub_nil)))
noncomputable def FX12_slipsOf_L47 (u0 : Int) (u1 : Int) (u3 : Int) (u4 : Int) (u5 : Int) (K0 : Int → MH → Option (Int × MH)) : Nat → Int → Int → MH → Option (Int × MH)
  | 0, _, _, _ => none
  | f + 1, v2, v6, h =>
    gd [GK h u0 12, GI h (m_rd h u0 20) 1 1] (
     (if v6 < (m_rd h (m_rd h u0 20) 1) then
      gd [GK h u0 12] (bd (FX12_holeOf u0 (m_w32 (u5 + (m_w32 (v6 * u4)))) h) (fun x2 h1 =>
       gd [GK h1 u0 12] (bd (FX12_holeOf u0 u1 h1) (fun x4 h3 =>
        (if x2 = x4 then
         FX12_slipsOf_L47 u0 u1 u3 u4 u5 K0 f (m_w32 (v2 + 0)) (m_w32 (v6 + 1)) h3
        else
         FX12_slipsOf_L47 u0 u1 u3 u4 u5 K0 f (m_w32 (v2 + 1)) (m_w32 (v6 + 1)) h3)))))
     else
      K0 v2 h))
theorem CX12_slipsOf_L47 {d : Nat} {u0 : Int} {u1 : Int} {u3 : Int} {u4 : Int} {u5 : Int} {K0 : Int → MH → Option (Int × MH)} {r : Int × MH} (hK0 : ∀ (w2 : Int) (h : MH), K0 w2 h = some r → RN xs L iX12_slipsOf (d + 4) 92 [(0, .inr (.inr u0)), (1, .inl u1), (2, .inl w2), (3, .inl u3)] [] h (RIo r)) : ∀ (f : Nat) (v2 : Int) (v6 : Int) (h : MH), FX12_slipsOf_L47 u0 u1 u3 u4 u5 K0 f v2 v6 h = some r → RN xs L iX12_slipsOf (d + 4) 47 [(0, .inr (.inr u0)), (1, .inl u1), (2, .inl v2), (3, .inl u3), (4, .inl u4), (5, .inl u5), (6, .inl v6)] [] h (RIo r) := by
  intro f
  induction f with
  | zero =>
    intro v2 v6 h hF
    cases hF
  | succ f ih =>
    intro v2 v6 h hF
    unfold FX12_slipsOf_L47 at hF
    obtain ⟨hc, hF⟩ := gd_of hF
    refine RN.blk (ops := [(47, .iload 6), (49, .aload_n 0), (50, .getfield 39), (53, .iconst 1), (54, .iaload)]) (pc' := 55) (lv' := [(0, .inr (.inr u0)), (1, .inl u1), (2, .inl v2), (3, .inl u3), (4, .inl u4), (5, .inl u5), (6, .inl v6)]) (st' := [.inl (m_rd h (m_rd h u0 20) 1), .inl v6]) (h' := h) (cs := [GK h u0 12, GI h (m_rd h u0 20) 1 1]) (by decide +kernel) rfl hc ?_
    rcases it_of hF with ⟨hb, hF⟩ | ⟨hb, hF⟩
    · refine RN.icf (cd := .ge) (off := 37) (tgt := 92) (by decide +kernel) (mif_gen hb) ?_
      refine RN.blk (ops := [(58, .iload_n 2), (59, .aload_n 0), (60, .iload 5), (62, .iload 6), (64, .iload 4), (66, .imul), (67, .iadd)]) (pc' := 68) (lv' := [(0, .inr (.inr u0)), (1, .inl u1), (2, .inl v2), (3, .inl u3), (4, .inl u4), (5, .inl u5), (6, .inl v6)]) (st' := [.inl (m_w32 (u5 + (m_w32 (v6 * u4)))), .inr (.inr u0), .inl v2]) (h' := h) (cs := []) (by decide +kernel) rfl trivial ?_
      obtain ⟨hc, hF⟩ := gd_of hF
      obtain ⟨x2, h1, hG, hF⟩ := bd_of hF
      refine RN.cv (i := 322) (k := 209) (q2 := iX12_holeOf) (as := [.inr (.inr u0), .inl (m_w32 (u5 + (m_w32 (v6 * u4))))]) (r := [.inl v2]) (v := some (.inl x2)) (h1 := h1) (by decide +kernel) rfl rfl rfl rfl rfl (rcv_ok hc.1) (CX12_holeOf (d := d) hG) ?_
      refine RN.blk (ops := [(71, .aload_n 0), (72, .iload_n 1)]) (pc' := 73) (lv' := [(0, .inr (.inr u0)), (1, .inl u1), (2, .inl v2), (3, .inl u3), (4, .inl u4), (5, .inl u5), (6, .inl v6)]) (st' := [.inl u1, .inr (.inr u0), .inl x2, .inl v2]) (h' := h1) (cs := []) (by decide +kernel) rfl trivial ?_
      obtain ⟨hc, hF⟩ := gd_of hF
      obtain ⟨x4, h3, hG, hF⟩ := bd_of hF
      refine RN.cv (i := 322) (k := 209) (q2 := iX12_holeOf) (as := [.inr (.inr u0), .inl u1]) (r := [.inl x2, .inl v2]) (v := some (.inl x4)) (h1 := h3) (by decide +kernel) rfl rfl rfl rfl rfl (rcv_ok hc.1) (CX12_holeOf (d := d) hG) ?_
      rcases it_of hF with ⟨hb, hF⟩ | ⟨hb, hF⟩
      · refine RN.ict (cd := .eq) (off := 7) (tgt := 83) (by decide +kernel) (mif_eq hb) ?_
        refine RN.blk (ops := [(83, .iconst 0)]) (pc' := 84) (lv' := [(0, .inr (.inr u0)), (1, .inl u1), (2, .inl v2), (3, .inl u3), (4, .inl u4), (5, .inl u5), (6, .inl v6)]) (st' := [.inl 0, .inl v2]) (h' := h3) (cs := []) (by decide +kernel) rfl trivial ?_
        refine RN.blk (ops := [(84, .iadd), (85, .istore_n 2), (86, .iinc 6 1)]) (pc' := 89) (lv' := [(6, .inl (m_w32 (v6 + 1))), (2, .inl (m_w32 (v2 + 0))), (0, .inr (.inr u0)), (1, .inl u1), (3, .inl u3), (4, .inl u4), (5, .inl u5)]) (st' := []) (h' := h3) (cs := []) (by decide +kernel) rfl trivial ?_
        refine RN.goto (off := -42) (tgt := 47) (by decide +kernel) ?_
        exact RN.sub (ih _ _ _ hF) (sub_cons rfl (sub_cons rfl (sub_cons rfl (sub_cons rfl (sub_cons rfl (sub_cons rfl (sub_cons rfl sub_nil)))))))
      · refine RN.icf (cd := .eq) (off := 7) (tgt := 83) (by decide +kernel) (mif_eqn hb) ?_
        refine RN.blk (ops := [(79, .iconst 1)]) (pc' := 80) (lv' := [(0, .inr (.inr u0)), (1, .inl u1), (2, .inl v2), (3, .inl u3), (4, .inl u4), (5, .inl u5), (6, .inl v6)]) (st' := [.inl 1, .inl v2]) (h' := h3) (cs := []) (by decide +kernel) rfl trivial ?_
        refine RN.goto (off := 4) (tgt := 84) (by decide +kernel) ?_
        refine RN.blk (ops := [(84, .iadd), (85, .istore_n 2), (86, .iinc 6 1)]) (pc' := 89) (lv' := [(6, .inl (m_w32 (v6 + 1))), (2, .inl (m_w32 (v2 + 1))), (0, .inr (.inr u0)), (1, .inl u1), (3, .inl u3), (4, .inl u4), (5, .inl u5)]) (st' := []) (h' := h3) (cs := []) (by decide +kernel) rfl trivial ?_
        refine RN.goto (off := -42) (tgt := 47) (by decide +kernel) ?_
        exact RN.sub (ih _ _ _ hF) (sub_cons rfl (sub_cons rfl (sub_cons rfl (sub_cons rfl (sub_cons rfl (sub_cons rfl (sub_cons rfl sub_nil)))))))
    · refine RN.ict (cd := .ge) (off := 37) (tgt := 92) (by decide +kernel) (mif_ge hb) ?_
      exact RN.sub (hK0 _ _ hF) (sub_cons rfl (sub_cons rfl (sub_cons rfl (sub_cons rfl sub_nil))))
noncomputable def FX12_slipsOf_L4 (u0 : Int) (u1 : Int) (K0 : Int → MH → Option (Int × MH)) : Nat → Int → Int → MH → Option (Int × MH)
  | 0, _, _, _ => none
  | f + 1, v2, v3, h =>
    gd [GK h u0 12, GI h (m_rd h u0 20) 1 2] (
     (if v3 < (m_rd h (m_rd h u0 20) 2) then
      gd [GK h u0 12, GI h (m_rd h u0 20) 1 1] (
       (bd (FX12_power (m_rd h (m_rd h u0 20) 1) v3 h) (fun x2 h1 =>
        gd [(x2 : Int) ≠ 0, GK h1 u0 12, GI h1 (m_rd h1 u0 20) 1 1, ((m_rd h1 (m_rd h1 u0 20) 1) : Int) ≠ 0] (
         FX12_slipsOf_L47 u0 u1 v3 x2 (m_w32 (u1 - (m_w32 ((Int.tmod (m_w32 (Int.tdiv u1 x2)) (m_rd h1 (m_rd h1 u0 20) 1)) * x2)))) (fun w3 h4 =>
          FX12_slipsOf_L4 u0 u1 K0 f w3 (m_w32 (v3 + 1)) h4) FU v2 0 h1))))
     else
      K0 v2 h))
theorem CX12_slipsOf_L4 {d : Nat} {u0 : Int} {u1 : Int} {K0 : Int → MH → Option (Int × MH)} {r : Int × MH} (hK0 : ∀ (w2 : Int) (h : MH), K0 w2 h = some r → RN xs L iX12_slipsOf (d + 4) 98 [(2, .inl w2)] [] h (RIo r)) : ∀ (f : Nat) (v2 : Int) (v3 : Int) (h : MH), FX12_slipsOf_L4 u0 u1 K0 f v2 v3 h = some r → RN xs L iX12_slipsOf (d + 4) 4 [(0, .inr (.inr u0)), (1, .inl u1), (2, .inl v2), (3, .inl v3)] [] h (RIo r) := by
  intro f
  induction f with
  | zero =>
    intro v2 v3 h hF
    cases hF
  | succ f ih =>
    intro v2 v3 h hF
    unfold FX12_slipsOf_L4 at hF
    obtain ⟨hc, hF⟩ := gd_of hF
    refine RN.blk (ops := [(4, .iload_n 3), (5, .aload_n 0), (6, .getfield 39), (9, .iconst 2), (10, .iaload)]) (pc' := 11) (lv' := [(0, .inr (.inr u0)), (1, .inl u1), (2, .inl v2), (3, .inl v3)]) (st' := [.inl (m_rd h (m_rd h u0 20) 2), .inl v3]) (h' := h) (cs := [GK h u0 12, GI h (m_rd h u0 20) 1 2]) (by decide +kernel) rfl hc ?_
    rcases it_of hF with ⟨hb, hF⟩ | ⟨hb, hF⟩
    · refine RN.icf (cd := .ge) (off := 87) (tgt := 98) (by decide +kernel) (mif_gen hb) ?_
      obtain ⟨hc, hF⟩ := gd_of hF
      refine RN.blk (ops := [(14, .aload_n 0), (15, .getfield 39), (18, .iconst 1), (19, .iaload), (20, .iload_n 3)]) (pc' := 21) (lv' := [(0, .inr (.inr u0)), (1, .inl u1), (2, .inl v2), (3, .inl v3)]) (st' := [.inl v3, .inl (m_rd h (m_rd h u0 20) 1)]) (h' := h) (cs := [GK h u0 12, GI h (m_rd h u0 20) 1 1]) (by decide +kernel) rfl hc ?_
      obtain ⟨x2, h1, hG, hF⟩ := bd_of hF
      refine RN.cst (i := 229) (k := 159) (q2 := iX12_power) (as := [.inl (m_rd h (m_rd h u0 20) 1), .inl v3]) (r := []) (v := some (.inl x2)) (h1 := h1) (by decide +kernel) rfl rfl rfl rfl rfl (CX12_power (d := d + 3) hG) ?_
      obtain ⟨hc, hF⟩ := gd_of hF
      refine RN.blk (ops := [(24, .istore 4), (26, .iload_n 1), (27, .iload_n 1), (28, .iload 4), (30, .idiv), (31, .aload_n 0), (32, .getfield 39), (35, .iconst 1), (36, .iaload), (37, .irem), (38, .iload 4), (40, .imul), (41, .isub), (42, .istore 5), (44, .iconst 0), (45, .istore 6)]) (pc' := 47) (lv' := [(6, .inl 0), (5, .inl (m_w32 (u1 - (m_w32 ((Int.tmod (m_w32 (Int.tdiv u1 x2)) (m_rd h1 (m_rd h1 u0 20) 1)) * x2))))), (4, .inl x2), (0, .inr (.inr u0)), (1, .inl u1), (2, .inl v2), (3, .inl v3)]) (st' := []) (h' := h1) (cs := [(x2 : Int) ≠ 0, GK h1 u0 12, GI h1 (m_rd h1 u0 20) 1 1, ((m_rd h1 (m_rd h1 u0 20) 1) : Int) ≠ 0]) (by decide +kernel) rfl hc ?_
      refine RN.sub (CX12_slipsOf_L47 ?_ _ _ _ _ hF) (sub_cons rfl (sub_cons rfl (sub_cons rfl (sub_cons rfl (sub_cons rfl (sub_cons rfl (sub_cons rfl sub_nil)))))))
      · intro w3 h4 hF
        refine RN.blk (ops := [(92, .iinc 3 1)]) (pc' := 95) (lv' := [(3, .inl (m_w32 (v3 + 1))), (0, .inr (.inr u0)), (1, .inl u1), (2, .inl w3)]) (st' := []) (h' := h4) (cs := []) (by decide +kernel) rfl trivial ?_
        refine RN.goto (off := -91) (tgt := 4) (by decide +kernel) ?_
        exact RN.sub (ih _ _ _ hF) (sub_cons rfl (sub_cons rfl (sub_cons rfl (sub_cons rfl sub_nil))))
    · refine RN.ict (cd := .ge) (off := 87) (tgt := 98) (by decide +kernel) (mif_ge hb) ?_
      exact RN.sub (hK0 _ _ hF) (sub_cons rfl sub_nil)
noncomputable def FX12_slipsOf (t : Int) (a1 : Int) (h : MH) : Option (Int × MH) :=
  FX12_slipsOf_L4 t a1 (fun w1 h2 =>
   some (w1, h2)) FU 0 0 h
theorem CX12_slipsOf {d : Nat} {t : Int} {a1 : Int} {h : MH} {r : Int × MH} (hF : FX12_slipsOf t a1 h = some r) : RN xs L iX12_slipsOf (d + 4) 0 (lvE 0 [.inr (.inr t), .inl a1]) [] h (RIo r) := by
  unfold FX12_slipsOf at hF
  refine RN.blk (ops := [(0, .iconst 0), (1, .istore_n 2), (2, .iconst 0), (3, .istore_n 3)]) (pc' := 4) (lv' := [(3, .inl 0), (2, .inl 0), (0, .inr (.inr t)), (1, .inl a1)]) (st' := []) (h' := h) (cs := []) (by decide +kernel) rfl trivial ?_
  refine RN.sub (CX12_slipsOf_L4 ?_ _ _ _ _ hF) (sub_cons rfl (sub_cons rfl (sub_cons rfl (sub_cons rfl sub_nil))))
  · intro w1 h2 hF
    refine RN.blk (ops := [(98, .iload_n 2)]) (pc' := 99) (lv' := [(2, .inl w1)]) (st' := [.inl w1]) (h' := h2) (cs := []) (by decide +kernel) rfl trivial ?_
    exact RN.iR (by decide +kernel) rfl hF
noncomputable def FX12_slips (t : Int) (a1 : Int) (h : MH) : Option (Int × MH) :=
  gd [GK h t 12] (bd (FX12_isCode t a1 h) (fun x2 h1 =>
   (if x2 = 0 then
    some ((-1), h1)
   else
    gd [GK h1 t 12] (bd (FX12_slipsOf t a1 h1) (fun x4 h3 =>
     some (x4, h3))))))
theorem CX12_slips {d : Nat} {t : Int} {a1 : Int} {h : MH} {r : Int × MH} (hF : FX12_slips t a1 h = some r) : RN xs L iX12_slips (d + 5) 0 (lvE 0 [.inr (.inr t), .inl a1]) [] h (RIo r) := by
  unfold FX12_slips at hF
  refine RN.blk (ops := [(0, .aload_n 0), (1, .iload_n 1)]) (pc' := 2) (lv' := [(0, .inr (.inr t)), (1, .inl a1)]) (st' := [.inl a1, .inr (.inr t)]) (h' := h) (cs := []) (by decide +kernel) rfl trivial ?_
  obtain ⟨hc, hF⟩ := gd_of hF
  obtain ⟨x2, h1, hG, hF⟩ := bd_of hF
  refine RN.cv (i := 356) (k := 206) (q2 := iX12_isCode) (as := [.inr (.inr t), .inl a1]) (r := []) (v := some (.inl x2)) (h1 := h1) (by decide +kernel) rfl rfl rfl rfl rfl (rcv_ok hc.1) (CX12_isCode (d := d + 2) hG) ?_
  rcases it_of hF with ⟨hb, hF⟩ | ⟨hb, hF⟩
  · refine RN.ift (cd := .eq) (off := 11) (tgt := 16) (by decide +kernel) (mif_eq hb) ?_
    refine RN.blk (ops := [(16, .iconst (-1))]) (pc' := 17) (lv' := [(0, .inr (.inr t)), (1, .inl a1)]) (st' := [.inl (-1)]) (h' := h1) (cs := []) (by decide +kernel) rfl trivial ?_
    exact RN.iR (by decide +kernel) rfl hF
  · refine RN.iff (cd := .eq) (off := 11) (tgt := 16) (by decide +kernel) (mif_eqn hb) ?_
    refine RN.blk (ops := [(8, .aload_n 0), (9, .iload_n 1)]) (pc' := 10) (lv' := [(0, .inr (.inr t)), (1, .inl a1)]) (st' := [.inl a1, .inr (.inr t)]) (h' := h1) (cs := []) (by decide +kernel) rfl trivial ?_
    obtain ⟨hc, hF⟩ := gd_of hF
    obtain ⟨x4, h3, hG, hF⟩ := bd_of hF
    refine RN.cv (i := 396) (k := 245) (q2 := iX12_slipsOf) (as := [.inr (.inr t), .inl a1]) (r := []) (v := some (.inl x4)) (h1 := h3) (by decide +kernel) rfl rfl rfl rfl rfl (rcv_ok hc.1) (CX12_slipsOf (d := d) hG) ?_
    refine RN.goto (off := 4) (tgt := 17) (by decide +kernel) ?_
    exact RN.iR (by decide +kernel) rfl hF
noncomputable def FX12_worst_L26 (u0 : Int) (u1 : Int) (K0 : Int → Int → MH → Option (Int × MH)) : Nat → Int → Int → Int → MH → Option (Int × MH)
  | 0, _, _, _, _ => none
  | f + 1, v2, v3, v4, h =>
    gd [GK h u0 12] (bd (FX12_codesMany u0 h) (fun x2 h1 =>
     (if v4 < x2 then
      gd [GK h1 u0 12] (bd (FX12_slipsOf u0 v4 h1) (fun x4 h3 =>
       (if v3 < x4 then
        FX12_worst_L26 u0 u1 K0 f v4 x4 (m_w32 (v4 + 1)) h3
       else
        FX12_worst_L26 u0 u1 K0 f v2 v3 (m_w32 (v4 + 1)) h3)))
     else
      K0 v2 v3 h1)))
theorem CX12_worst_L26 {d : Nat} {u0 : Int} {u1 : Int} {K0 : Int → Int → MH → Option (Int × MH)} {r : Int × MH} (hK0 : ∀ (w2 : Int) (w3 : Int) (h : MH), K0 w2 w3 h = some r → RN xs L iX12_worst (d + 5) 64 [(1, .inl u1), (2, .inl w2), (3, .inl w3)] [] h (RIo r)) : ∀ (f : Nat) (v2 : Int) (v3 : Int) (v4 : Int) (h : MH), FX12_worst_L26 u0 u1 K0 f v2 v3 v4 h = some r → RN xs L iX12_worst (d + 5) 26 [(0, .inr (.inr u0)), (1, .inl u1), (2, .inl v2), (3, .inl v3), (4, .inl v4)] [] h (RIo r) := by
  intro f
  induction f with
  | zero =>
    intro v2 v3 v4 h hF
    cases hF
  | succ f ih =>
    intro v2 v3 v4 h hF
    unfold FX12_worst_L26 at hF
    refine RN.blk (ops := [(26, .iload 4), (28, .aload_n 0)]) (pc' := 29) (lv' := [(0, .inr (.inr u0)), (1, .inl u1), (2, .inl v2), (3, .inl v3), (4, .inl v4)]) (st' := [.inr (.inr u0), .inl v4]) (h' := h) (cs := []) (by decide +kernel) rfl trivial ?_
    obtain ⟨hc, hF⟩ := gd_of hF
    obtain ⟨x2, h1, hG, hF⟩ := bd_of hF
    refine RN.cv (i := 298) (k := 203) (q2 := iX12_codesMany) (as := [.inr (.inr u0)]) (r := [.inl v4]) (v := some (.inl x2)) (h1 := h1) (by decide +kernel) rfl rfl rfl rfl rfl (rcv_ok hc.1) (CX12_codesMany (d := d + 3) hG) ?_
    rcases it_of hF with ⟨hb, hF⟩ | ⟨hb, hF⟩
    · refine RN.icf (cd := .ge) (off := 32) (tgt := 64) (by decide +kernel) (mif_gen hb) ?_
      refine RN.blk (ops := [(35, .aload_n 0), (36, .iload 4)]) (pc' := 38) (lv' := [(0, .inr (.inr u0)), (1, .inl u1), (2, .inl v2), (3, .inl v3), (4, .inl v4)]) (st' := [.inl v4, .inr (.inr u0)]) (h' := h1) (cs := []) (by decide +kernel) rfl trivial ?_
      obtain ⟨hc, hF⟩ := gd_of hF
      obtain ⟨x4, h3, hG, hF⟩ := bd_of hF
      refine RN.cv (i := 396) (k := 245) (q2 := iX12_slipsOf) (as := [.inr (.inr u0), .inl v4]) (r := []) (v := some (.inl x4)) (h1 := h3) (by decide +kernel) rfl rfl rfl rfl rfl (rcv_ok hc.1) (CX12_slipsOf (d := d) hG) ?_
      refine RN.blk (ops := [(41, .istore 5), (43, .iload 5), (45, .iload_n 3)]) (pc' := 46) (lv' := [(5, .inl x4), (0, .inr (.inr u0)), (1, .inl u1), (2, .inl v2), (3, .inl v3), (4, .inl v4)]) (st' := [.inl v3, .inl x4]) (h' := h3) (cs := []) (by decide +kernel) rfl trivial ?_
      rcases it_of hF with ⟨hb, hF⟩ | ⟨hb, hF⟩
      · refine RN.ict (cd := .gt) (off := 6) (tgt := 52) (by decide +kernel) (mif_gt hb) ?_
        refine RN.blk (ops := [(52, .iload 4), (54, .istore_n 2), (55, .iload 5), (57, .istore_n 3)]) (pc' := 58) (lv' := [(3, .inl x4), (2, .inl v4), (5, .inl x4), (0, .inr (.inr u0)), (1, .inl u1), (4, .inl v4)]) (st' := []) (h' := h3) (cs := []) (by decide +kernel) rfl trivial ?_
        refine RN.blk (ops := [(58, .iinc 4 1)]) (pc' := 61) (lv' := [(4, .inl (m_w32 (v4 + 1))), (3, .inl x4), (2, .inl v4), (5, .inl x4), (0, .inr (.inr u0)), (1, .inl u1)]) (st' := []) (h' := h3) (cs := []) (by decide +kernel) rfl trivial ?_
        refine RN.goto (off := -35) (tgt := 26) (by decide +kernel) ?_
        exact RN.sub (ih _ _ _ _ hF) (sub_cons rfl (sub_cons rfl (sub_cons rfl (sub_cons rfl (sub_cons rfl sub_nil)))))
      · refine RN.icf (cd := .gt) (off := 6) (tgt := 52) (by decide +kernel) (mif_gtn hb) ?_
        refine RN.goto (off := 9) (tgt := 58) (by decide +kernel) ?_
        refine RN.blk (ops := [(58, .iinc 4 1)]) (pc' := 61) (lv' := [(4, .inl (m_w32 (v4 + 1))), (5, .inl x4), (0, .inr (.inr u0)), (1, .inl u1), (2, .inl v2), (3, .inl v3)]) (st' := []) (h' := h3) (cs := []) (by decide +kernel) rfl trivial ?_
        refine RN.goto (off := -35) (tgt := 26) (by decide +kernel) ?_
        exact RN.sub (ih _ _ _ _ hF) (sub_cons rfl (sub_cons rfl (sub_cons rfl (sub_cons rfl (sub_cons rfl sub_nil)))))
    · refine RN.ict (cd := .ge) (off := 32) (tgt := 64) (by decide +kernel) (mif_ge hb) ?_
      exact RN.sub (hK0 _ _ _ hF) (sub_cons rfl (sub_cons rfl (sub_cons rfl sub_nil)))
noncomputable def FX12_worst (t : Int) (a1 : Int) (h : MH) : Option (Int × MH) :=
  gd [GK h t 12] (bd (FX12_isFrame t h) (fun x2 h1 =>
   (if x2 = 0 then
    some ((-1), h1)
   else
    (bd (FX12_in a1 0 1 h1) (fun x4 h3 =>
     (if x4 = 0 then
      some ((-1), h3)
     else
      FX12_worst_L26 t a1 (fun w5 w6 h7 =>
       (if a1 = 0 then
        some (w5, h7)
       else
        some (w6, h7))) FU 0 0 0 h3))))))
theorem CX12_worst {d : Nat} {t : Int} {a1 : Int} {h : MH} {r : Int × MH} (hF : FX12_worst t a1 h = some r) : RN xs L iX12_worst (d + 5) 0 (lvE 0 [.inr (.inr t), .inl a1]) [] h (RIo r) := by
  unfold FX12_worst at hF
  refine RN.blk (ops := [(0, .aload_n 0)]) (pc' := 1) (lv' := [(0, .inr (.inr t)), (1, .inl a1)]) (st' := [.inr (.inr t)]) (h' := h) (cs := []) (by decide +kernel) rfl trivial ?_
  obtain ⟨hc, hF⟩ := gd_of hF
  obtain ⟨x2, h1, hG, hF⟩ := bd_of hF
  refine RN.cv (i := 295) (k := 202) (q2 := iX12_isFrame) (as := [.inr (.inr t)]) (r := []) (v := some (.inl x2)) (h1 := h1) (by decide +kernel) rfl rfl rfl rfl rfl (rcv_ok hc.1) (CX12_isFrame (d := d + 4) hG) ?_
  rcases it_of hF with ⟨hb, hF⟩ | ⟨hb, hF⟩
  · refine RN.ift (cd := .eq) (off := 13) (tgt := 17) (by decide +kernel) (mif_eq hb) ?_
    refine RN.blk (ops := [(17, .iconst (-1))]) (pc' := 18) (lv' := [(0, .inr (.inr t)), (1, .inl a1)]) (st' := [.inl (-1)]) (h' := h1) (cs := []) (by decide +kernel) rfl trivial ?_
    exact RN.iR (by decide +kernel) rfl hF
  · refine RN.iff (cd := .eq) (off := 13) (tgt := 17) (by decide +kernel) (mif_eqn hb) ?_
    refine RN.blk (ops := [(7, .iload_n 1), (8, .i2l), (9, .lconst 0), (10, .lconst 1)]) (pc' := 11) (lv' := [(0, .inr (.inr t)), (1, .inl a1)]) (st' := [.inr (.inl 1), .inr (.inl 0), .inr (.inl a1)]) (h' := h1) (cs := []) (by decide +kernel) rfl trivial ?_
    obtain ⟨x4, h3, hG, hF⟩ := bd_of hF
    refine RN.cst (i := 127) (k := 156) (q2 := iX12_in) (as := [.inr (.inl a1), .inr (.inl 0), .inr (.inl 1)]) (r := []) (v := some (.inl x4)) (h1 := h3) (by decide +kernel) rfl rfl rfl rfl rfl (CX12_in (d := d + 4) hG) ?_
    rcases it_of hF with ⟨hb, hF⟩ | ⟨hb, hF⟩
    · refine RN.iff (cd := .ne) (off := 5) (tgt := 19) (by decide +kernel) (mif_nen hb) ?_
      refine RN.blk (ops := [(17, .iconst (-1))]) (pc' := 18) (lv' := [(0, .inr (.inr t)), (1, .inl a1)]) (st' := [.inl (-1)]) (h' := h3) (cs := []) (by decide +kernel) rfl trivial ?_
      exact RN.iR (by decide +kernel) rfl hF
    · refine RN.ift (cd := .ne) (off := 5) (tgt := 19) (by decide +kernel) (mif_ne hb) ?_
      refine RN.blk (ops := [(19, .iconst 0), (20, .istore_n 2), (21, .iconst 0), (22, .istore_n 3), (23, .iconst 0), (24, .istore 4)]) (pc' := 26) (lv' := [(4, .inl 0), (3, .inl 0), (2, .inl 0), (0, .inr (.inr t)), (1, .inl a1)]) (st' := []) (h' := h3) (cs := []) (by decide +kernel) rfl trivial ?_
      refine RN.sub (CX12_worst_L26 ?_ _ _ _ _ _ hF) (sub_cons rfl (sub_cons rfl (sub_cons rfl (sub_cons rfl (sub_cons rfl sub_nil)))))
      · intro w5 w6 h7 hF
        refine RN.blk (ops := [(64, .iload_n 1)]) (pc' := 65) (lv' := [(1, .inl a1), (2, .inl w5), (3, .inl w6)]) (st' := [.inl a1]) (h' := h7) (cs := []) (by decide +kernel) rfl trivial ?_
        rcases it_of hF with ⟨hb, hF⟩ | ⟨hb, hF⟩
        · refine RN.iff (cd := .ne) (off := 7) (tgt := 72) (by decide +kernel) (mif_nen hb) ?_
          refine RN.blk (ops := [(68, .iload_n 2)]) (pc' := 69) (lv' := [(1, .inl a1), (2, .inl w5), (3, .inl w6)]) (st' := [.inl w5]) (h' := h7) (cs := []) (by decide +kernel) rfl trivial ?_
          refine RN.goto (off := 4) (tgt := 73) (by decide +kernel) ?_
          exact RN.iR (by decide +kernel) rfl hF
        · refine RN.ift (cd := .ne) (off := 7) (tgt := 72) (by decide +kernel) (mif_ne hb) ?_
          refine RN.blk (ops := [(72, .iload_n 3)]) (pc' := 73) (lv' := [(1, .inl a1), (2, .inl w5), (3, .inl w6)]) (st' := [.inl w6]) (h' := h7) (cs := []) (by decide +kernel) rfl trivial ?_
          exact RN.iR (by decide +kernel) rfl hF
noncomputable def FX12_idle_L23 (u0 : Int) (K0 : Int → MH → Option (Int × MH)) : Nat → Int → Int → MH → Option (Int × MH)
  | 0, _, _, _ => none
  | f + 1, v1, v2, h =>
    gd [GK h u0 12] (bd (FX12_codesMany u0 h) (fun x2 h1 =>
     (if v2 < x2 then
      gd [GK h1 u0 12] (bd (FX12_entryOf u0 v2 h1) (fun x4 h3 =>
       (if x4 < 0 then
        FX12_idle_L23 u0 K0 f v1 (m_w32 (v2 + 1)) h3
       else
        gd [GK h3 u0 12] (bd (FX12_entryOf u0 v2 h3) (fun x6 h5 =>
         FX12_idle_L23 u0 K0 f (m_band v1 (m_bxor (m_shl 1 x6) (-1))) (m_w32 (v2 + 1)) h5)))))
     else
      K0 v1 h1)))
theorem CX12_idle_L23 {d : Nat} {u0 : Int} {K0 : Int → MH → Option (Int × MH)} {r : Int × MH} (hK0 : ∀ (w1 : Int) (h : MH), K0 w1 h = some r → RN xs L iX12_idle (d + 3) 57 [(1, .inl w1)] [] h (RIo r)) : ∀ (f : Nat) (v1 : Int) (v2 : Int) (h : MH), FX12_idle_L23 u0 K0 f v1 v2 h = some r → RN xs L iX12_idle (d + 3) 23 [(0, .inr (.inr u0)), (1, .inl v1), (2, .inl v2)] [] h (RIo r) := by
  intro f
  induction f with
  | zero =>
    intro v1 v2 h hF
    cases hF
  | succ f ih =>
    intro v1 v2 h hF
    unfold FX12_idle_L23 at hF
    refine RN.blk (ops := [(23, .iload_n 2), (24, .aload_n 0)]) (pc' := 25) (lv' := [(0, .inr (.inr u0)), (1, .inl v1), (2, .inl v2)]) (st' := [.inr (.inr u0), .inl v2]) (h' := h) (cs := []) (by decide +kernel) rfl trivial ?_
    obtain ⟨hc, hF⟩ := gd_of hF
    obtain ⟨x2, h1, hG, hF⟩ := bd_of hF
    refine RN.cv (i := 298) (k := 203) (q2 := iX12_codesMany) (as := [.inr (.inr u0)]) (r := [.inl v2]) (v := some (.inl x2)) (h1 := h1) (by decide +kernel) rfl rfl rfl rfl rfl (rcv_ok hc.1) (CX12_codesMany (d := d + 1) hG) ?_
    rcases it_of hF with ⟨hb, hF⟩ | ⟨hb, hF⟩
    · refine RN.icf (cd := .ge) (off := 29) (tgt := 57) (by decide +kernel) (mif_gen hb) ?_
      refine RN.blk (ops := [(31, .aload_n 0), (32, .iload_n 2)]) (pc' := 33) (lv' := [(0, .inr (.inr u0)), (1, .inl v1), (2, .inl v2)]) (st' := [.inl v2, .inr (.inr u0)]) (h' := h1) (cs := []) (by decide +kernel) rfl trivial ?_
      obtain ⟨hc, hF⟩ := gd_of hF
      obtain ⟨x4, h3, hG, hF⟩ := bd_of hF
      refine RN.cv (i := 304) (k := 208) (q2 := iX12_entryOf) (as := [.inr (.inr u0), .inl v2]) (r := []) (v := some (.inl x4)) (h1 := h3) (by decide +kernel) rfl rfl rfl rfl rfl (rcv_ok hc.1) (CX12_entryOf (d := d) hG) ?_
      rcases it_of hF with ⟨hb, hF⟩ | ⟨hb, hF⟩
      · refine RN.ift (cd := .lt) (off := 15) (tgt := 51) (by decide +kernel) (mif_lt hb) ?_
        refine RN.blk (ops := [(51, .iinc 2 1)]) (pc' := 54) (lv' := [(2, .inl (m_w32 (v2 + 1))), (0, .inr (.inr u0)), (1, .inl v1)]) (st' := []) (h' := h3) (cs := []) (by decide +kernel) rfl trivial ?_
        refine RN.goto (off := -31) (tgt := 23) (by decide +kernel) ?_
        exact RN.sub (ih _ _ _ hF) (sub_cons rfl (sub_cons rfl (sub_cons rfl sub_nil)))
      · refine RN.iff (cd := .lt) (off := 15) (tgt := 51) (by decide +kernel) (mif_ltn hb) ?_
        refine RN.blk (ops := [(39, .iload_n 1), (40, .iconst 1), (41, .aload_n 0), (42, .iload_n 2)]) (pc' := 43) (lv' := [(0, .inr (.inr u0)), (1, .inl v1), (2, .inl v2)]) (st' := [.inl v2, .inr (.inr u0), .inl 1, .inl v1]) (h' := h3) (cs := []) (by decide +kernel) rfl trivial ?_
        obtain ⟨hc, hF⟩ := gd_of hF
        obtain ⟨x6, h5, hG, hF⟩ := bd_of hF
        refine RN.cv (i := 304) (k := 208) (q2 := iX12_entryOf) (as := [.inr (.inr u0), .inl v2]) (r := [.inl 1, .inl v1]) (v := some (.inl x6)) (h1 := h5) (by decide +kernel) rfl rfl rfl rfl rfl (rcv_ok hc.1) (CX12_entryOf (d := d) hG) ?_
        refine RN.blk (ops := [(46, .ishl), (47, .iconst (-1)), (48, .ixor), (49, .iand), (50, .istore_n 1)]) (pc' := 51) (lv' := [(1, .inl (m_band v1 (m_bxor (m_shl 1 x6) (-1)))), (0, .inr (.inr u0)), (2, .inl v2)]) (st' := []) (h' := h5) (cs := []) (by decide +kernel) rfl trivial ?_
        refine RN.blk (ops := [(51, .iinc 2 1)]) (pc' := 54) (lv' := [(2, .inl (m_w32 (v2 + 1))), (1, .inl (m_band v1 (m_bxor (m_shl 1 x6) (-1)))), (0, .inr (.inr u0))]) (st' := []) (h' := h5) (cs := []) (by decide +kernel) rfl trivial ?_
        refine RN.goto (off := -31) (tgt := 23) (by decide +kernel) ?_
        exact RN.sub (ih _ _ _ hF) (sub_cons rfl (sub_cons rfl (sub_cons rfl sub_nil)))
    · refine RN.ict (cd := .ge) (off := 29) (tgt := 57) (by decide +kernel) (mif_ge hb) ?_
      exact RN.sub (hK0 _ _ hF) (sub_cons rfl sub_nil)
noncomputable def FX12_idle (t : Int) (h : MH) : Option (Int × MH) :=
  gd [GK h t 12] (bd (FX12_isFrame t h) (fun x2 h1 =>
   (if x2 = 0 then
    some ((-1), h1)
   else
    gd [GK h1 t 12, GI h1 (m_rd h1 t 20) 1 13] (
     FX12_idle_L23 t (fun w3 h4 =>
      some (w3, h4)) FU (m_w32 ((m_shl 1 (m_rd h1 (m_rd h1 t 20) 13)) - 1)) 0 h1))))
theorem CX12_idle {d : Nat} {t : Int} {h : MH} {r : Int × MH} (hF : FX12_idle t h = some r) : RN xs L iX12_idle (d + 3) 0 (lvE 0 [.inr (.inr t)]) [] h (RIo r) := by
  unfold FX12_idle at hF
  refine RN.blk (ops := [(0, .aload_n 0)]) (pc' := 1) (lv' := [(0, .inr (.inr t))]) (st' := [.inr (.inr t)]) (h' := h) (cs := []) (by decide +kernel) rfl trivial ?_
  obtain ⟨hc, hF⟩ := gd_of hF
  obtain ⟨x2, h1, hG, hF⟩ := bd_of hF
  refine RN.cv (i := 295) (k := 202) (q2 := iX12_isFrame) (as := [.inr (.inr t)]) (r := []) (v := some (.inl x2)) (h1 := h1) (by decide +kernel) rfl rfl rfl rfl rfl (rcv_ok hc.1) (CX12_isFrame (d := d + 2) hG) ?_
  rcases it_of hF with ⟨hb, hF⟩ | ⟨hb, hF⟩
  · refine RN.iff (cd := .ne) (off := 5) (tgt := 9) (by decide +kernel) (mif_nen hb) ?_
    refine RN.blk (ops := [(7, .iconst (-1))]) (pc' := 8) (lv' := [(0, .inr (.inr t))]) (st' := [.inl (-1)]) (h' := h1) (cs := []) (by decide +kernel) rfl trivial ?_
    exact RN.iR (by decide +kernel) rfl hF
  · refine RN.ift (cd := .ne) (off := 5) (tgt := 9) (by decide +kernel) (mif_ne hb) ?_
    obtain ⟨hc, hF⟩ := gd_of hF
    refine RN.blk (ops := [(9, .iconst 1), (10, .aload_n 0), (11, .getfield 39), (14, .bipush 13), (16, .iaload), (17, .ishl), (18, .iconst 1), (19, .isub), (20, .istore_n 1), (21, .iconst 0), (22, .istore_n 2)]) (pc' := 23) (lv' := [(2, .inl 0), (1, .inl (m_w32 ((m_shl 1 (m_rd h1 (m_rd h1 t 20) 13)) - 1))), (0, .inr (.inr t))]) (st' := []) (h' := h1) (cs := [GK h1 t 12, GI h1 (m_rd h1 t 20) 1 13]) (by decide +kernel) rfl hc ?_
    refine RN.sub (CX12_idle_L23 ?_ _ _ _ _ hF) (sub_cons rfl (sub_cons rfl (sub_cons rfl sub_nil)))
    · intro w3 h4 hF
      refine RN.blk (ops := [(57, .iload_n 1)]) (pc' := 58) (lv' := [(1, .inl w3)]) (st' := [.inl w3]) (h' := h4) (cs := []) (by decide +kernel) rfl trivial ?_
      exact RN.iR (by decide +kernel) rfl hF
noncomputable def FX12_needsOfCodes_L31 (u0 : Int) (u1 : Int) (u2 : Int) (K0 : MH → Option (MH)) : Nat → Int → MH → Option (MH)
  | 0, _, _ => none
  | f + 1, v3, h =>
    (if 6 < v3 then
     K0 h
    else
     gd [GK h u0 12] (
      (if v3 = u2 then
       gd [GI h (m_rd h u0 28) 1 (m_w32 ((m_w32 (7 * u1)) + v3))] (
        FX12_needsOfCodes_L31 u0 u1 u2 K0 f (m_w32 (v3 + 1)) (m_wr h (m_rd h u0 28) (m_w32 ((m_w32 (7 * u1)) + v3)) 0))
      else
       (if u2 = 6 then
        gd [GI h (m_rd h u0 28) 1 (m_w32 ((m_w32 (7 * u1)) + v3))] (
         FX12_needsOfCodes_L31 u0 u1 u2 K0 f (m_w32 (v3 + 1)) (m_wr h (m_rd h u0 28) (m_w32 ((m_w32 (7 * u1)) + v3)) 9999))
       else
        gd [GI h (m_rd h u0 28) 1 (m_w32 ((m_w32 (7 * u1)) + v3))] (
         FX12_needsOfCodes_L31 u0 u1 u2 K0 f (m_w32 (v3 + 1)) (m_wr h (m_rd h u0 28) (m_w32 ((m_w32 (7 * u1)) + v3)) 1))))))
theorem CX12_needsOfCodes_L31 {d : Nat} {u0 : Int} {u1 : Int} {u2 : Int} {K0 : MH → Option (MH)} {r : MH} (hK0 : ∀ (h : MH), K0 h = some r → RN xs L iX12_needsOfCodes (d + 4) 76 [(0, .inr (.inr u0)), (1, .inl u1)] [] h (RVo r)) : ∀ (f : Nat) (v3 : Int) (h : MH), FX12_needsOfCodes_L31 u0 u1 u2 K0 f v3 h = some r → RN xs L iX12_needsOfCodes (d + 4) 31 [(0, .inr (.inr u0)), (1, .inl u1), (2, .inl u2), (3, .inl v3)] [] h (RVo r) := by
  intro f
  induction f with
  | zero =>
    intro v3 h hF
    cases hF
  | succ f ih =>
    intro v3 h hF
    unfold FX12_needsOfCodes_L31 at hF
    refine RN.blk (ops := [(31, .iload_n 3), (32, .bipush 6)]) (pc' := 34) (lv' := [(0, .inr (.inr u0)), (1, .inl u1), (2, .inl u2), (3, .inl v3)]) (st' := [.inl 6, .inl v3]) (h' := h) (cs := []) (by decide +kernel) rfl trivial ?_
    rcases it_of hF with ⟨hb, hF⟩ | ⟨hb, hF⟩
    · refine RN.ict (cd := .gt) (off := 42) (tgt := 76) (by decide +kernel) (mif_gt hb) ?_
      exact RN.sub (hK0 _ hF) (sub_cons rfl (sub_cons rfl sub_nil))
    · refine RN.icf (cd := .gt) (off := 42) (tgt := 76) (by decide +kernel) (mif_gtn hb) ?_
      obtain ⟨hc, hF⟩ := gd_of hF
      refine RN.blk (ops := [(37, .aload_n 0), (38, .getfield 55), (41, .bipush 7), (43, .iload_n 1), (44, .imul), (45, .iload_n 3), (46, .iadd), (47, .iload_n 3), (48, .iload_n 2)]) (pc' := 49) (lv' := [(0, .inr (.inr u0)), (1, .inl u1), (2, .inl u2), (3, .inl v3)]) (st' := [.inl u2, .inl v3, .inl (m_w32 ((m_w32 (7 * u1)) + v3)), .inr (.inr (m_rd h u0 28))]) (h' := h) (cs := [GK h u0 12]) (by decide +kernel) rfl hc ?_
      rcases it_of hF with ⟨hb, hF⟩ | ⟨hb, hF⟩
      · refine RN.icf (cd := .ne) (off := 7) (tgt := 56) (by decide +kernel) (mif_nen hb) ?_
        refine RN.blk (ops := [(52, .iconst 0)]) (pc' := 53) (lv' := [(0, .inr (.inr u0)), (1, .inl u1), (2, .inl u2), (3, .inl v3)]) (st' := [.inl 0, .inl (m_w32 ((m_w32 (7 * u1)) + v3)), .inr (.inr (m_rd h u0 28))]) (h' := h) (cs := []) (by decide +kernel) rfl trivial ?_
        refine RN.goto (off := 16) (tgt := 69) (by decide +kernel) ?_
        obtain ⟨hc, hF⟩ := gd_of hF
        refine RN.blk (ops := [(69, .iastore), (70, .iinc 3 1)]) (pc' := 73) (lv' := [(3, .inl (m_w32 (v3 + 1))), (0, .inr (.inr u0)), (1, .inl u1), (2, .inl u2)]) (st' := []) (h' := (m_wr h (m_rd h u0 28) (m_w32 ((m_w32 (7 * u1)) + v3)) 0)) (cs := [GI h (m_rd h u0 28) 1 (m_w32 ((m_w32 (7 * u1)) + v3))]) (by decide +kernel) rfl hc ?_
        refine RN.goto (off := -42) (tgt := 31) (by decide +kernel) ?_
        exact RN.sub (ih _ _ hF) (sub_cons rfl (sub_cons rfl (sub_cons rfl (sub_cons rfl sub_nil))))
      · refine RN.ict (cd := .ne) (off := 7) (tgt := 56) (by decide +kernel) (mif_ne hb) ?_
        refine RN.blk (ops := [(56, .iload_n 2), (57, .bipush 6)]) (pc' := 59) (lv' := [(0, .inr (.inr u0)), (1, .inl u1), (2, .inl u2), (3, .inl v3)]) (st' := [.inl 6, .inl u2, .inl (m_w32 ((m_w32 (7 * u1)) + v3)), .inr (.inr (m_rd h u0 28))]) (h' := h) (cs := []) (by decide +kernel) rfl trivial ?_
        rcases it_of hF with ⟨hb, hF⟩ | ⟨hb, hF⟩
        · refine RN.icf (cd := .ne) (off := 9) (tgt := 68) (by decide +kernel) (mif_nen hb) ?_
          refine RN.blk (ops := [(62, .sipush 9999)]) (pc' := 65) (lv' := [(0, .inr (.inr u0)), (1, .inl u1), (2, .inl u2), (3, .inl v3)]) (st' := [.inl 9999, .inl (m_w32 ((m_w32 (7 * u1)) + v3)), .inr (.inr (m_rd h u0 28))]) (h' := h) (cs := []) (by decide +kernel) rfl trivial ?_
          refine RN.goto (off := 4) (tgt := 69) (by decide +kernel) ?_
          obtain ⟨hc, hF⟩ := gd_of hF
          refine RN.blk (ops := [(69, .iastore), (70, .iinc 3 1)]) (pc' := 73) (lv' := [(3, .inl (m_w32 (v3 + 1))), (0, .inr (.inr u0)), (1, .inl u1), (2, .inl u2)]) (st' := []) (h' := (m_wr h (m_rd h u0 28) (m_w32 ((m_w32 (7 * u1)) + v3)) 9999)) (cs := [GI h (m_rd h u0 28) 1 (m_w32 ((m_w32 (7 * u1)) + v3))]) (by decide +kernel) rfl hc ?_
          refine RN.goto (off := -42) (tgt := 31) (by decide +kernel) ?_
          exact RN.sub (ih _ _ hF) (sub_cons rfl (sub_cons rfl (sub_cons rfl (sub_cons rfl sub_nil))))
        · refine RN.ict (cd := .ne) (off := 9) (tgt := 68) (by decide +kernel) (mif_ne hb) ?_
          refine RN.blk (ops := [(68, .iconst 1)]) (pc' := 69) (lv' := [(0, .inr (.inr u0)), (1, .inl u1), (2, .inl u2), (3, .inl v3)]) (st' := [.inl 1, .inl (m_w32 ((m_w32 (7 * u1)) + v3)), .inr (.inr (m_rd h u0 28))]) (h' := h) (cs := []) (by decide +kernel) rfl trivial ?_
          obtain ⟨hc, hF⟩ := gd_of hF
          refine RN.blk (ops := [(69, .iastore), (70, .iinc 3 1)]) (pc' := 73) (lv' := [(3, .inl (m_w32 (v3 + 1))), (0, .inr (.inr u0)), (1, .inl u1), (2, .inl u2)]) (st' := []) (h' := (m_wr h (m_rd h u0 28) (m_w32 ((m_w32 (7 * u1)) + v3)) 1)) (cs := [GI h (m_rd h u0 28) 1 (m_w32 ((m_w32 (7 * u1)) + v3))]) (by decide +kernel) rfl hc ?_
          refine RN.goto (off := -42) (tgt := 31) (by decide +kernel) ?_
          exact RN.sub (ih _ _ hF) (sub_cons rfl (sub_cons rfl (sub_cons rfl (sub_cons rfl sub_nil))))
noncomputable def FX12_needsOfCodes_L2 (u0 : Int) (K0 : MH → Option (MH)) : Nat → Int → MH → Option (MH)
  | 0, _, _ => none
  | f + 1, v1, h =>
    gd [GK h u0 12] (bd (FX12_codesMany u0 h) (fun x2 h1 =>
     (if v1 < x2 then
      gd [GK h1 u0 12] (bd (FX12_holeOf u0 v1 h1) (fun x4 h3 =>
       jn (fun (s6 : Int) (h7 : MH) =>
        FX12_needsOfCodes_L31 u0 v1 s6 (fun h8 =>
         FX12_needsOfCodes_L2 u0 K0 f (m_w32 (v1 + 1)) h8) FU 0 h7) (fun j5 =>
        (if x4 < 0 then
         j5 6 h3
        else
         gd [GK h3 u0 12] (bd (FX12_holeOf u0 v1 h3) (fun x10 h9 =>
          j5 x10 h9))))))
     else
      K0 h1)))
theorem CX12_needsOfCodes_L2 {d : Nat} {u0 : Int} {K0 : MH → Option (MH)} {r : MH} (hK0 : ∀ (h : MH), K0 h = some r → RN xs L iX12_needsOfCodes (d + 4) 82 [] [] h (RVo r)) : ∀ (f : Nat) (v1 : Int) (h : MH), FX12_needsOfCodes_L2 u0 K0 f v1 h = some r → RN xs L iX12_needsOfCodes (d + 4) 2 [(0, .inr (.inr u0)), (1, .inl v1)] [] h (RVo r) := by
  intro f
  induction f with
  | zero =>
    intro v1 h hF
    cases hF
  | succ f ih =>
    intro v1 h hF
    unfold FX12_needsOfCodes_L2 at hF
    refine RN.blk (ops := [(2, .iload_n 1), (3, .aload_n 0)]) (pc' := 4) (lv' := [(0, .inr (.inr u0)), (1, .inl v1)]) (st' := [.inr (.inr u0), .inl v1]) (h' := h) (cs := []) (by decide +kernel) rfl trivial ?_
    obtain ⟨hc, hF⟩ := gd_of hF
    obtain ⟨x2, h1, hG, hF⟩ := bd_of hF
    refine RN.cv (i := 298) (k := 203) (q2 := iX12_codesMany) (as := [.inr (.inr u0)]) (r := [.inl v1]) (v := some (.inl x2)) (h1 := h1) (by decide +kernel) rfl rfl rfl rfl rfl (rcv_ok hc.1) (CX12_codesMany (d := d + 2) hG) ?_
    rcases it_of hF with ⟨hb, hF⟩ | ⟨hb, hF⟩
    · refine RN.icf (cd := .ge) (off := 75) (tgt := 82) (by decide +kernel) (mif_gen hb) ?_
      refine RN.blk (ops := [(10, .aload_n 0), (11, .iload_n 1)]) (pc' := 12) (lv' := [(0, .inr (.inr u0)), (1, .inl v1)]) (st' := [.inl v1, .inr (.inr u0)]) (h' := h1) (cs := []) (by decide +kernel) rfl trivial ?_
      obtain ⟨hc, hF⟩ := gd_of hF
      obtain ⟨x4, h3, hG, hF⟩ := bd_of hF
      refine RN.cv (i := 322) (k := 209) (q2 := iX12_holeOf) (as := [.inr (.inr u0), .inl v1]) (r := []) (v := some (.inl x4)) (h1 := h3) (by decide +kernel) rfl rfl rfl rfl rfl (rcv_ok hc.1) (CX12_holeOf (d := d) hG) ?_
      refine jn_use (fun j5 => ∀ (s6 : Int) (h7 : MH), j5 s6 h7 = some r → RN xs L iX12_needsOfCodes (d + 4) 28 [(0, .inr (.inr u0)), (1, .inl v1)] [.inl s6] h7 (RVo r)) ?_ ?_ hF
      · intro s6 h7 hF
        refine RN.blk (ops := [(28, .istore_n 2), (29, .iconst 0), (30, .istore_n 3)]) (pc' := 31) (lv' := [(3, .inl 0), (2, .inl s6), (0, .inr (.inr u0)), (1, .inl v1)]) (st' := []) (h' := h7) (cs := []) (by decide +kernel) rfl trivial ?_
        refine RN.sub (CX12_needsOfCodes_L31 ?_ _ _ _ hF) (sub_cons rfl (sub_cons rfl (sub_cons rfl (sub_cons rfl sub_nil))))
        · intro h8 hF
          refine RN.blk (ops := [(76, .iinc 1 1)]) (pc' := 79) (lv' := [(1, .inl (m_w32 (v1 + 1))), (0, .inr (.inr u0))]) (st' := []) (h' := h8) (cs := []) (by decide +kernel) rfl trivial ?_
          refine RN.goto (off := -77) (tgt := 2) (by decide +kernel) ?_
          exact RN.sub (ih _ _ hF) (sub_cons rfl (sub_cons rfl sub_nil))
      · intro j5 Jj5 hF
        rcases it_of hF with ⟨hb, hF⟩ | ⟨hb, hF⟩
        · refine RN.iff (cd := .ge) (off := 8) (tgt := 23) (by decide +kernel) (mif_gen hb) ?_
          refine RN.blk (ops := [(18, .bipush 6)]) (pc' := 20) (lv' := [(0, .inr (.inr u0)), (1, .inl v1)]) (st' := [.inl 6]) (h' := h3) (cs := []) (by decide +kernel) rfl trivial ?_
          refine RN.goto (off := 8) (tgt := 28) (by decide +kernel) ?_
          exact RN.sub (Jj5 _ _ hF) (sub_cons rfl (sub_cons rfl sub_nil))
        · refine RN.ift (cd := .ge) (off := 8) (tgt := 23) (by decide +kernel) (mif_ge hb) ?_
          refine RN.blk (ops := [(23, .aload_n 0), (24, .iload_n 1)]) (pc' := 25) (lv' := [(0, .inr (.inr u0)), (1, .inl v1)]) (st' := [.inl v1, .inr (.inr u0)]) (h' := h3) (cs := []) (by decide +kernel) rfl trivial ?_
          obtain ⟨hc, hF⟩ := gd_of hF
          obtain ⟨x10, h9, hG, hF⟩ := bd_of hF
          refine RN.cv (i := 322) (k := 209) (q2 := iX12_holeOf) (as := [.inr (.inr u0), .inl v1]) (r := []) (v := some (.inl x10)) (h1 := h9) (by decide +kernel) rfl rfl rfl rfl rfl (rcv_ok hc.1) (CX12_holeOf (d := d) hG) ?_
          exact RN.sub (Jj5 _ _ hF) (sub_cons rfl (sub_cons rfl sub_nil))
    · refine RN.ict (cd := .ge) (off := 75) (tgt := 82) (by decide +kernel) (mif_ge hb) ?_
      exact RN.sub (hK0 _ hF) sub_nil
noncomputable def FX12_needsOfCodes (t : Int) (h : MH) : Option (MH) :=
  FX12_needsOfCodes_L2 t (fun h1 =>
   some h1) FU 0 h
theorem CX12_needsOfCodes {d : Nat} {t : Int} {h : MH} {r : MH} (hF : FX12_needsOfCodes t h = some r) : RN xs L iX12_needsOfCodes (d + 4) 0 (lvE 0 [.inr (.inr t)]) [] h (RVo r) := by
  unfold FX12_needsOfCodes at hF
  refine RN.blk (ops := [(0, .iconst 0), (1, .istore_n 1)]) (pc' := 2) (lv' := [(1, .inl 0), (0, .inr (.inr t))]) (st' := []) (h' := h) (cs := []) (by decide +kernel) rfl trivial ?_
  refine RN.sub (CX12_needsOfCodes_L2 ?_ _ _ _ hF) (sub_cons rfl (sub_cons rfl sub_nil))
  · intro h1 hF
    exact RN.vR (by decide +kernel) rfl hF
noncomputable def FX12_needBelow_L5 (u0 : Int) (u1 : Int) (u2 : Int) (K0 : Int → MH → Option (Int × MH)) : Nat → Int → Int → MH → Option (Int × MH)
  | 0, _, _, _ => none
  | f + 1, v3, v4, h =>
    gd [GK h u0 12, GI h (m_rd h u0 20) 1 1] (
     (if v4 < (m_rd h (m_rd h u0 20) 1) then
      gd [GK h u0 12, GK h u0 12, GI h (m_rd h u0 20) 1 1, GI h (m_rd h u0 29) 1 (m_w32 ((m_w32 (7 * (m_w32 ((m_w32 (u1 * (m_rd h (m_rd h u0 20) 1))) + v4)))) + u2))] (
       FX12_needBelow_L5 u0 u1 u2 K0 f (m_w32 (v3 + (m_rd h (m_rd h u0 29) (m_w32 ((m_w32 (7 * (m_w32 ((m_w32 (u1 * (m_rd h (m_rd h u0 20) 1))) + v4)))) + u2))))) (m_w32 (v4 + 1)) h)
     else
      K0 v3 h))
theorem CX12_needBelow_L5 {d : Nat} {u0 : Int} {u1 : Int} {u2 : Int} {K0 : Int → MH → Option (Int × MH)} {r : Int × MH} (hK0 : ∀ (w3 : Int) (h : MH), K0 w3 h = some r → RN xs L iX12_needBelow (d) 46 [(3, .inl w3)] [] h (RIo r)) : ∀ (f : Nat) (v3 : Int) (v4 : Int) (h : MH), FX12_needBelow_L5 u0 u1 u2 K0 f v3 v4 h = some r → RN xs L iX12_needBelow (d) 5 [(0, .inr (.inr u0)), (1, .inl u1), (2, .inl u2), (3, .inl v3), (4, .inl v4)] [] h (RIo r) := by
  intro f
  induction f with
  | zero =>
    intro v3 v4 h hF
    cases hF
  | succ f ih =>
    intro v3 v4 h hF
    unfold FX12_needBelow_L5 at hF
    obtain ⟨hc, hF⟩ := gd_of hF
    refine RN.blk (ops := [(5, .iload 4), (7, .aload_n 0), (8, .getfield 39), (11, .iconst 1), (12, .iaload)]) (pc' := 13) (lv' := [(0, .inr (.inr u0)), (1, .inl u1), (2, .inl u2), (3, .inl v3), (4, .inl v4)]) (st' := [.inl (m_rd h (m_rd h u0 20) 1), .inl v4]) (h' := h) (cs := [GK h u0 12, GI h (m_rd h u0 20) 1 1]) (by decide +kernel) rfl hc ?_
    rcases it_of hF with ⟨hb, hF⟩ | ⟨hb, hF⟩
    · refine RN.icf (cd := .ge) (off := 33) (tgt := 46) (by decide +kernel) (mif_gen hb) ?_
      obtain ⟨hc, hF⟩ := gd_of hF
      refine RN.blk (ops := [(16, .iload_n 3), (17, .aload_n 0), (18, .getfield 58), (21, .bipush 7), (23, .iload_n 1), (24, .aload_n 0), (25, .getfield 39), (28, .iconst 1), (29, .iaload), (30, .imul), (31, .iload 4), (33, .iadd), (34, .imul), (35, .iload_n 2), (36, .iadd), (37, .iaload), (38, .iadd), (39, .istore_n 3), (40, .iinc 4 1)]) (pc' := 43) (lv' := [(4, .inl (m_w32 (v4 + 1))), (3, .inl (m_w32 (v3 + (m_rd h (m_rd h u0 29) (m_w32 ((m_w32 (7 * (m_w32 ((m_w32 (u1 * (m_rd h (m_rd h u0 20) 1))) + v4)))) + u2)))))), (0, .inr (.inr u0)), (1, .inl u1), (2, .inl u2)]) (st' := []) (h' := h) (cs := [GK h u0 12, GK h u0 12, GI h (m_rd h u0 20) 1 1, GI h (m_rd h u0 29) 1 (m_w32 ((m_w32 (7 * (m_w32 ((m_w32 (u1 * (m_rd h (m_rd h u0 20) 1))) + v4)))) + u2))]) (by decide +kernel) rfl hc ?_
      refine RN.goto (off := -38) (tgt := 5) (by decide +kernel) ?_
      exact RN.sub (ih _ _ _ hF) (sub_cons rfl (sub_cons rfl (sub_cons rfl (sub_cons rfl (sub_cons rfl sub_nil)))))
    · refine RN.ict (cd := .ge) (off := 33) (tgt := 46) (by decide +kernel) (mif_ge hb) ?_
      exact RN.sub (hK0 _ _ hF) (sub_cons rfl sub_nil)
noncomputable def FX12_needBelow (t : Int) (a1 : Int) (a2 : Int) (h : MH) : Option (Int × MH) :=
  FX12_needBelow_L5 t a1 a2 (fun w1 h2 =>
   (if w1 < 9999 then
    some (w1, h2)
   else
    some (9999, h2))) FU 0 0 h
theorem CX12_needBelow {d : Nat} {t : Int} {a1 : Int} {a2 : Int} {h : MH} {r : Int × MH} (hF : FX12_needBelow t a1 a2 h = some r) : RN xs L iX12_needBelow (d) 0 (lvE 0 [.inr (.inr t), .inl a1, .inl a2]) [] h (RIo r) := by
  unfold FX12_needBelow at hF
  refine RN.blk (ops := [(0, .iconst 0), (1, .istore_n 3), (2, .iconst 0), (3, .istore 4)]) (pc' := 5) (lv' := [(4, .inl 0), (3, .inl 0), (0, .inr (.inr t)), (1, .inl a1), (2, .inl a2)]) (st' := []) (h' := h) (cs := []) (by decide +kernel) rfl trivial ?_
  refine RN.sub (CX12_needBelow_L5 ?_ _ _ _ _ hF) (sub_cons rfl (sub_cons rfl (sub_cons rfl (sub_cons rfl (sub_cons rfl sub_nil)))))
  · intro w1 h2 hF
    refine RN.blk (ops := [(46, .iload_n 3), (47, .sipush 9999)]) (pc' := 50) (lv' := [(3, .inl w1)]) (st' := [.inl 9999, .inl w1]) (h' := h2) (cs := []) (by decide +kernel) rfl trivial ?_
    rcases it_of hF with ⟨hb, hF⟩ | ⟨hb, hF⟩
    · refine RN.icf (cd := .ge) (off := 7) (tgt := 57) (by decide +kernel) (mif_gen hb) ?_
      refine RN.blk (ops := [(53, .iload_n 3)]) (pc' := 54) (lv' := [(3, .inl w1)]) (st' := [.inl w1]) (h' := h2) (cs := []) (by decide +kernel) rfl trivial ?_
      refine RN.goto (off := 6) (tgt := 60) (by decide +kernel) ?_
      exact RN.iR (by decide +kernel) rfl hF
    · refine RN.ict (cd := .ge) (off := 7) (tgt := 57) (by decide +kernel) (mif_ge hb) ?_
      refine RN.blk (ops := [(57, .sipush 9999)]) (pc' := 60) (lv' := [(3, .inl w1)]) (st' := [.inl 9999]) (h' := h2) (cs := []) (by decide +kernel) rfl trivial ?_
      exact RN.iR (by decide +kernel) rfl hF
noncomputable def FX12_needsOf_L2 (u0 : Int) (u1 : Int) (K0 : MH → Option (MH)) : Nat → Int → MH → Option (MH)
  | 0, _, _ => none
  | f + 1, v2, h =>
    gd [GK h u0 12, GI h (m_rd h u0 20) 1 1] (
     (bd (FX12_power (m_rd h (m_rd h u0 20) 1) (m_w32 (u1 + 1)) h) (fun x2 h1 =>
      (if v2 < (m_w32 (7 * x2)) then
       gd [GK h1 u0 12, GK h1 u0 12, GI h1 (m_rd h1 u0 28) 1 v2, GI h1 (m_rd h1 u0 29) 1 v2] (
        FX12_needsOf_L2 u0 u1 K0 f (m_w32 (v2 + 1)) (m_wr h1 (m_rd h1 u0 29) v2 (m_rd h1 (m_rd h1 u0 28) v2)))
      else
       K0 h1))))
theorem CX12_needsOf_L2 {d : Nat} {u0 : Int} {u1 : Int} {K0 : MH → Option (MH)} {r : MH} (hK0 : ∀ (h : MH), K0 h = some r → RN xs L iX12_needsOf (d + 1) 39 [(0, .inr (.inr u0)), (1, .inl u1)] [] h (RVo r)) : ∀ (f : Nat) (v2 : Int) (h : MH), FX12_needsOf_L2 u0 u1 K0 f v2 h = some r → RN xs L iX12_needsOf (d + 1) 2 [(0, .inr (.inr u0)), (1, .inl u1), (2, .inl v2)] [] h (RVo r) := by
  intro f
  induction f with
  | zero =>
    intro v2 h hF
    cases hF
  | succ f ih =>
    intro v2 h hF
    unfold FX12_needsOf_L2 at hF
    obtain ⟨hc, hF⟩ := gd_of hF
    refine RN.blk (ops := [(2, .iload_n 2), (3, .bipush 7), (5, .aload_n 0), (6, .getfield 39), (9, .iconst 1), (10, .iaload), (11, .iload_n 1), (12, .iconst 1), (13, .iadd)]) (pc' := 14) (lv' := [(0, .inr (.inr u0)), (1, .inl u1), (2, .inl v2)]) (st' := [.inl (m_w32 (u1 + 1)), .inl (m_rd h (m_rd h u0 20) 1), .inl 7, .inl v2]) (h' := h) (cs := [GK h u0 12, GI h (m_rd h u0 20) 1 1]) (by decide +kernel) rfl hc ?_
    obtain ⟨x2, h1, hG, hF⟩ := bd_of hF
    refine RN.cst (i := 229) (k := 159) (q2 := iX12_power) (as := [.inl (m_rd h (m_rd h u0 20) 1), .inl (m_w32 (u1 + 1))]) (r := [.inl 7, .inl v2]) (v := some (.inl x2)) (h1 := h1) (by decide +kernel) rfl rfl rfl rfl rfl (CX12_power (d := d) hG) ?_
    refine RN.blk (ops := [(17, .imul)]) (pc' := 18) (lv' := [(0, .inr (.inr u0)), (1, .inl u1), (2, .inl v2)]) (st' := [.inl (m_w32 (7 * x2)), .inl v2]) (h' := h1) (cs := []) (by decide +kernel) rfl trivial ?_
    rcases it_of hF with ⟨hb, hF⟩ | ⟨hb, hF⟩
    · refine RN.icf (cd := .ge) (off := 21) (tgt := 39) (by decide +kernel) (mif_gen hb) ?_
      obtain ⟨hc, hF⟩ := gd_of hF
      refine RN.blk (ops := [(21, .aload_n 0), (22, .getfield 58), (25, .iload_n 2), (26, .aload_n 0), (27, .getfield 55), (30, .iload_n 2), (31, .iaload), (32, .iastore), (33, .iinc 2 1)]) (pc' := 36) (lv' := [(2, .inl (m_w32 (v2 + 1))), (0, .inr (.inr u0)), (1, .inl u1)]) (st' := []) (h' := (m_wr h1 (m_rd h1 u0 29) v2 (m_rd h1 (m_rd h1 u0 28) v2))) (cs := [GK h1 u0 12, GK h1 u0 12, GI h1 (m_rd h1 u0 28) 1 v2, GI h1 (m_rd h1 u0 29) 1 v2]) (by decide +kernel) rfl hc ?_
      refine RN.goto (off := -34) (tgt := 2) (by decide +kernel) ?_
      exact RN.sub (ih _ _ hF) (sub_cons rfl (sub_cons rfl (sub_cons rfl sub_nil)))
    · refine RN.ict (cd := .ge) (off := 21) (tgt := 39) (by decide +kernel) (mif_ge hb) ?_
      exact RN.sub (hK0 _ hF) (sub_cons rfl (sub_cons rfl sub_nil))
noncomputable def FX12_needsOf_L62 (u0 : Int) (u1 : Int) (u2 : Int) (K0 : Int → MH → Option (MH)) : Nat → Int → Int → MH → Option (MH)
  | 0, _, _, _ => none
  | f + 1, v3, v4, h =>
    gd [GK h u0 12, GI h (m_rd h u0 20) 1 3] (
     (if v4 < (m_rd h (m_rd h u0 20) 3) then
      gd [GK h u0 12] (bd (FX12_needBelow u0 u2 v4 h) (fun x2 h1 =>
       (if (m_w32 (1 + x2)) < v3 then
        gd [GK h1 u0 12] (bd (FX12_needBelow u0 u2 v4 h1) (fun x4 h3 =>
         FX12_needsOf_L62 u0 u1 u2 K0 f (m_w32 (1 + x4)) (m_w32 (v4 + 1)) h3))
       else
        FX12_needsOf_L62 u0 u1 u2 K0 f v3 (m_w32 (v4 + 1)) h1)))
     else
      K0 v3 h))
theorem CX12_needsOf_L62 {d : Nat} {u0 : Int} {u1 : Int} {u2 : Int} {K0 : Int → MH → Option (MH)} {r : MH} (hK0 : ∀ (w3 : Int) (h : MH), K0 w3 h = some r → RN xs L iX12_needsOf (d + 1) 102 [(0, .inr (.inr u0)), (1, .inl u1), (2, .inl u2), (3, .inl w3)] [] h (RVo r)) : ∀ (f : Nat) (v3 : Int) (v4 : Int) (h : MH), FX12_needsOf_L62 u0 u1 u2 K0 f v3 v4 h = some r → RN xs L iX12_needsOf (d + 1) 62 [(0, .inr (.inr u0)), (1, .inl u1), (2, .inl u2), (3, .inl v3), (4, .inl v4)] [] h (RVo r) := by
  intro f
  induction f with
  | zero =>
    intro v3 v4 h hF
    cases hF
  | succ f ih =>
    intro v3 v4 h hF
    unfold FX12_needsOf_L62 at hF
    obtain ⟨hc, hF⟩ := gd_of hF
    refine RN.blk (ops := [(62, .iload 4), (64, .aload_n 0), (65, .getfield 39), (68, .iconst 3), (69, .iaload)]) (pc' := 70) (lv' := [(0, .inr (.inr u0)), (1, .inl u1), (2, .inl u2), (3, .inl v3), (4, .inl v4)]) (st' := [.inl (m_rd h (m_rd h u0 20) 3), .inl v4]) (h' := h) (cs := [GK h u0 12, GI h (m_rd h u0 20) 1 3]) (by decide +kernel) rfl hc ?_
    rcases it_of hF with ⟨hb, hF⟩ | ⟨hb, hF⟩
    · refine RN.icf (cd := .ge) (off := 32) (tgt := 102) (by decide +kernel) (mif_gen hb) ?_
      refine RN.blk (ops := [(73, .iconst 1), (74, .aload_n 0), (75, .iload_n 2), (76, .iload 4)]) (pc' := 78) (lv' := [(0, .inr (.inr u0)), (1, .inl u1), (2, .inl u2), (3, .inl v3), (4, .inl v4)]) (st' := [.inl v4, .inl u2, .inr (.inr u0), .inl 1]) (h' := h) (cs := []) (by decide +kernel) rfl trivial ?_
      obtain ⟨hc, hF⟩ := gd_of hF
      obtain ⟨x2, h1, hG, hF⟩ := bd_of hF
      refine RN.cv (i := 399) (k := 250) (q2 := iX12_needBelow) (as := [.inr (.inr u0), .inl u2, .inl v4]) (r := [.inl 1]) (v := some (.inl x2)) (h1 := h1) (by decide +kernel) rfl rfl rfl rfl rfl (rcv_ok hc.1) (CX12_needBelow (d := d) hG) ?_
      refine RN.blk (ops := [(81, .iadd), (82, .iload_n 3)]) (pc' := 83) (lv' := [(0, .inr (.inr u0)), (1, .inl u1), (2, .inl u2), (3, .inl v3), (4, .inl v4)]) (st' := [.inl v3, .inl (m_w32 (1 + x2))]) (h' := h1) (cs := []) (by decide +kernel) rfl trivial ?_
      rcases it_of hF with ⟨hb, hF⟩ | ⟨hb, hF⟩
      · refine RN.icf (cd := .ge) (off := 13) (tgt := 96) (by decide +kernel) (mif_gen hb) ?_
        refine RN.blk (ops := [(86, .iconst 1), (87, .aload_n 0), (88, .iload_n 2), (89, .iload 4)]) (pc' := 91) (lv' := [(0, .inr (.inr u0)), (1, .inl u1), (2, .inl u2), (3, .inl v3), (4, .inl v4)]) (st' := [.inl v4, .inl u2, .inr (.inr u0), .inl 1]) (h' := h1) (cs := []) (by decide +kernel) rfl trivial ?_
        obtain ⟨hc, hF⟩ := gd_of hF
        obtain ⟨x4, h3, hG, hF⟩ := bd_of hF
        refine RN.cv (i := 399) (k := 250) (q2 := iX12_needBelow) (as := [.inr (.inr u0), .inl u2, .inl v4]) (r := [.inl 1]) (v := some (.inl x4)) (h1 := h3) (by decide +kernel) rfl rfl rfl rfl rfl (rcv_ok hc.1) (CX12_needBelow (d := d) hG) ?_
        refine RN.blk (ops := [(94, .iadd), (95, .istore_n 3)]) (pc' := 96) (lv' := [(3, .inl (m_w32 (1 + x4))), (0, .inr (.inr u0)), (1, .inl u1), (2, .inl u2), (4, .inl v4)]) (st' := []) (h' := h3) (cs := []) (by decide +kernel) rfl trivial ?_
        refine RN.blk (ops := [(96, .iinc 4 1)]) (pc' := 99) (lv' := [(4, .inl (m_w32 (v4 + 1))), (3, .inl (m_w32 (1 + x4))), (0, .inr (.inr u0)), (1, .inl u1), (2, .inl u2)]) (st' := []) (h' := h3) (cs := []) (by decide +kernel) rfl trivial ?_
        refine RN.goto (off := -37) (tgt := 62) (by decide +kernel) ?_
        exact RN.sub (ih _ _ _ hF) (sub_cons rfl (sub_cons rfl (sub_cons rfl (sub_cons rfl (sub_cons rfl sub_nil)))))
      · refine RN.ict (cd := .ge) (off := 13) (tgt := 96) (by decide +kernel) (mif_ge hb) ?_
        refine RN.blk (ops := [(96, .iinc 4 1)]) (pc' := 99) (lv' := [(4, .inl (m_w32 (v4 + 1))), (0, .inr (.inr u0)), (1, .inl u1), (2, .inl u2), (3, .inl v3)]) (st' := []) (h' := h1) (cs := []) (by decide +kernel) rfl trivial ?_
        refine RN.goto (off := -37) (tgt := 62) (by decide +kernel) ?_
        exact RN.sub (ih _ _ _ hF) (sub_cons rfl (sub_cons rfl (sub_cons rfl (sub_cons rfl (sub_cons rfl sub_nil)))))
    · refine RN.ict (cd := .ge) (off := 32) (tgt := 102) (by decide +kernel) (mif_ge hb) ?_
      exact RN.sub (hK0 _ _ hF) (sub_cons rfl (sub_cons rfl (sub_cons rfl (sub_cons rfl sub_nil))))
noncomputable def FX12_needsOf_L105 (u0 : Int) (u1 : Int) (u2 : Int) (u3 : Int) (K0 : MH → Option (MH)) : Nat → Int → MH → Option (MH)
  | 0, _, _ => none
  | f + 1, v4, h =>
    (if 6 < v4 then
     K0 h
    else
     gd [GK h u0 12] (bd (FX12_needBelow u0 u2 v4 h) (fun x2 h1 =>
      gd [GK h1 u0 12] (
       (if x2 < u3 then
        gd [GI h1 (m_rd h1 u0 28) 1 (m_w32 ((m_w32 (7 * u2)) + v4))] (
         FX12_needsOf_L105 u0 u1 u2 u3 K0 f (m_w32 (v4 + 1)) (m_wr h1 (m_rd h1 u0 28) (m_w32 ((m_w32 (7 * u2)) + v4)) x2))
       else
        gd [GI h1 (m_rd h1 u0 28) 1 (m_w32 ((m_w32 (7 * u2)) + v4))] (
         FX12_needsOf_L105 u0 u1 u2 u3 K0 f (m_w32 (v4 + 1)) (m_wr h1 (m_rd h1 u0 28) (m_w32 ((m_w32 (7 * u2)) + v4)) u3)))))))
theorem CX12_needsOf_L105 {d : Nat} {u0 : Int} {u1 : Int} {u2 : Int} {u3 : Int} {K0 : MH → Option (MH)} {r : MH} (hK0 : ∀ (h : MH), K0 h = some r → RN xs L iX12_needsOf (d + 1) 151 [(0, .inr (.inr u0)), (1, .inl u1), (2, .inl u2)] [] h (RVo r)) : ∀ (f : Nat) (v4 : Int) (h : MH), FX12_needsOf_L105 u0 u1 u2 u3 K0 f v4 h = some r → RN xs L iX12_needsOf (d + 1) 105 [(0, .inr (.inr u0)), (1, .inl u1), (2, .inl u2), (3, .inl u3), (4, .inl v4)] [] h (RVo r) := by
  intro f
  induction f with
  | zero =>
    intro v4 h hF
    cases hF
  | succ f ih =>
    intro v4 h hF
    unfold FX12_needsOf_L105 at hF
    refine RN.blk (ops := [(105, .iload 4), (107, .bipush 6)]) (pc' := 109) (lv' := [(0, .inr (.inr u0)), (1, .inl u1), (2, .inl u2), (3, .inl u3), (4, .inl v4)]) (st' := [.inl 6, .inl v4]) (h' := h) (cs := []) (by decide +kernel) rfl trivial ?_
    rcases it_of hF with ⟨hb, hF⟩ | ⟨hb, hF⟩
    · refine RN.ict (cd := .gt) (off := 42) (tgt := 151) (by decide +kernel) (mif_gt hb) ?_
      exact RN.sub (hK0 _ hF) (sub_cons rfl (sub_cons rfl (sub_cons rfl sub_nil)))
    · refine RN.icf (cd := .gt) (off := 42) (tgt := 151) (by decide +kernel) (mif_gtn hb) ?_
      refine RN.blk (ops := [(112, .aload_n 0), (113, .iload_n 2), (114, .iload 4)]) (pc' := 116) (lv' := [(0, .inr (.inr u0)), (1, .inl u1), (2, .inl u2), (3, .inl u3), (4, .inl v4)]) (st' := [.inl v4, .inl u2, .inr (.inr u0)]) (h' := h) (cs := []) (by decide +kernel) rfl trivial ?_
      obtain ⟨hc, hF⟩ := gd_of hF
      obtain ⟨x2, h1, hG, hF⟩ := bd_of hF
      refine RN.cv (i := 399) (k := 250) (q2 := iX12_needBelow) (as := [.inr (.inr u0), .inl u2, .inl v4]) (r := []) (v := some (.inl x2)) (h1 := h1) (by decide +kernel) rfl rfl rfl rfl rfl (rcv_ok hc.1) (CX12_needBelow (d := d) hG) ?_
      obtain ⟨hc, hF⟩ := gd_of hF
      refine RN.blk (ops := [(119, .istore 5), (121, .aload_n 0), (122, .getfield 55), (125, .bipush 7), (127, .iload_n 2), (128, .imul), (129, .iload 4), (131, .iadd), (132, .iload 5), (134, .iload_n 3)]) (pc' := 135) (lv' := [(5, .inl x2), (0, .inr (.inr u0)), (1, .inl u1), (2, .inl u2), (3, .inl u3), (4, .inl v4)]) (st' := [.inl u3, .inl x2, .inl (m_w32 ((m_w32 (7 * u2)) + v4)), .inr (.inr (m_rd h1 u0 28))]) (h' := h1) (cs := [GK h1 u0 12]) (by decide +kernel) rfl hc ?_
      rcases it_of hF with ⟨hb, hF⟩ | ⟨hb, hF⟩
      · refine RN.icf (cd := .ge) (off := 8) (tgt := 143) (by decide +kernel) (mif_gen hb) ?_
        refine RN.blk (ops := [(138, .iload 5)]) (pc' := 140) (lv' := [(5, .inl x2), (0, .inr (.inr u0)), (1, .inl u1), (2, .inl u2), (3, .inl u3), (4, .inl v4)]) (st' := [.inl x2, .inl (m_w32 ((m_w32 (7 * u2)) + v4)), .inr (.inr (m_rd h1 u0 28))]) (h' := h1) (cs := []) (by decide +kernel) rfl trivial ?_
        refine RN.goto (off := 4) (tgt := 144) (by decide +kernel) ?_
        obtain ⟨hc, hF⟩ := gd_of hF
        refine RN.blk (ops := [(144, .iastore), (145, .iinc 4 1)]) (pc' := 148) (lv' := [(4, .inl (m_w32 (v4 + 1))), (5, .inl x2), (0, .inr (.inr u0)), (1, .inl u1), (2, .inl u2), (3, .inl u3)]) (st' := []) (h' := (m_wr h1 (m_rd h1 u0 28) (m_w32 ((m_w32 (7 * u2)) + v4)) x2)) (cs := [GI h1 (m_rd h1 u0 28) 1 (m_w32 ((m_w32 (7 * u2)) + v4))]) (by decide +kernel) rfl hc ?_
        refine RN.goto (off := -43) (tgt := 105) (by decide +kernel) ?_
        exact RN.sub (ih _ _ hF) (sub_cons rfl (sub_cons rfl (sub_cons rfl (sub_cons rfl (sub_cons rfl sub_nil)))))
      · refine RN.ict (cd := .ge) (off := 8) (tgt := 143) (by decide +kernel) (mif_ge hb) ?_
        refine RN.blk (ops := [(143, .iload_n 3)]) (pc' := 144) (lv' := [(5, .inl x2), (0, .inr (.inr u0)), (1, .inl u1), (2, .inl u2), (3, .inl u3), (4, .inl v4)]) (st' := [.inl u3, .inl (m_w32 ((m_w32 (7 * u2)) + v4)), .inr (.inr (m_rd h1 u0 28))]) (h' := h1) (cs := []) (by decide +kernel) rfl trivial ?_
        obtain ⟨hc, hF⟩ := gd_of hF
        refine RN.blk (ops := [(144, .iastore), (145, .iinc 4 1)]) (pc' := 148) (lv' := [(4, .inl (m_w32 (v4 + 1))), (5, .inl x2), (0, .inr (.inr u0)), (1, .inl u1), (2, .inl u2), (3, .inl u3)]) (st' := []) (h' := (m_wr h1 (m_rd h1 u0 28) (m_w32 ((m_w32 (7 * u2)) + v4)) u3)) (cs := [GI h1 (m_rd h1 u0 28) 1 (m_w32 ((m_w32 (7 * u2)) + v4))]) (by decide +kernel) rfl hc ?_
        refine RN.goto (off := -43) (tgt := 105) (by decide +kernel) ?_
        exact RN.sub (ih _ _ hF) (sub_cons rfl (sub_cons rfl (sub_cons rfl (sub_cons rfl (sub_cons rfl sub_nil)))))
noncomputable def FX12_needsOf_L41 (u0 : Int) (u1 : Int) (K0 : MH → Option (MH)) : Nat → Int → MH → Option (MH)
  | 0, _, _ => none
  | f + 1, v2, h =>
    gd [GK h u0 12, GI h (m_rd h u0 20) 1 1] (
     (bd (FX12_power (m_rd h (m_rd h u0 20) 1) u1 h) (fun x2 h1 =>
      (if v2 < x2 then
       FX12_needsOf_L62 u0 u1 v2 (fun w3 h4 =>
        FX12_needsOf_L105 u0 u1 v2 w3 (fun h5 =>
         FX12_needsOf_L41 u0 u1 K0 f (m_w32 (v2 + 1)) h5) FU 0 h4) FU 9999 0 h1
      else
       K0 h1))))
theorem CX12_needsOf_L41 {d : Nat} {u0 : Int} {u1 : Int} {K0 : MH → Option (MH)} {r : MH} (hK0 : ∀ (h : MH), K0 h = some r → RN xs L iX12_needsOf (d + 1) 157 [] [] h (RVo r)) : ∀ (f : Nat) (v2 : Int) (h : MH), FX12_needsOf_L41 u0 u1 K0 f v2 h = some r → RN xs L iX12_needsOf (d + 1) 41 [(0, .inr (.inr u0)), (1, .inl u1), (2, .inl v2)] [] h (RVo r) := by
  intro f
  induction f with
  | zero =>
    intro v2 h hF
    cases hF
  | succ f ih =>
    intro v2 h hF
    unfold FX12_needsOf_L41 at hF
    obtain ⟨hc, hF⟩ := gd_of hF
    refine RN.blk (ops := [(41, .iload_n 2), (42, .aload_n 0), (43, .getfield 39), (46, .iconst 1), (47, .iaload), (48, .iload_n 1)]) (pc' := 49) (lv' := [(0, .inr (.inr u0)), (1, .inl u1), (2, .inl v2)]) (st' := [.inl u1, .inl (m_rd h (m_rd h u0 20) 1), .inl v2]) (h' := h) (cs := [GK h u0 12, GI h (m_rd h u0 20) 1 1]) (by decide +kernel) rfl hc ?_
    obtain ⟨x2, h1, hG, hF⟩ := bd_of hF
    refine RN.cst (i := 229) (k := 159) (q2 := iX12_power) (as := [.inl (m_rd h (m_rd h u0 20) 1), .inl u1]) (r := [.inl v2]) (v := some (.inl x2)) (h1 := h1) (by decide +kernel) rfl rfl rfl rfl rfl (CX12_power (d := d) hG) ?_
    rcases it_of hF with ⟨hb, hF⟩ | ⟨hb, hF⟩
    · refine RN.icf (cd := .ge) (off := 105) (tgt := 157) (by decide +kernel) (mif_gen hb) ?_
      refine RN.blk (ops := [(55, .sipush 9999), (58, .istore_n 3), (59, .iconst 0), (60, .istore 4)]) (pc' := 62) (lv' := [(4, .inl 0), (3, .inl 9999), (0, .inr (.inr u0)), (1, .inl u1), (2, .inl v2)]) (st' := []) (h' := h1) (cs := []) (by decide +kernel) rfl trivial ?_
      refine RN.sub (CX12_needsOf_L62 ?_ _ _ _ _ hF) (sub_cons rfl (sub_cons rfl (sub_cons rfl (sub_cons rfl (sub_cons rfl sub_nil)))))
      · intro w3 h4 hF
        refine RN.blk (ops := [(102, .iconst 0), (103, .istore 4)]) (pc' := 105) (lv' := [(4, .inl 0), (0, .inr (.inr u0)), (1, .inl u1), (2, .inl v2), (3, .inl w3)]) (st' := []) (h' := h4) (cs := []) (by decide +kernel) rfl trivial ?_
        refine RN.sub (CX12_needsOf_L105 ?_ _ _ _ hF) (sub_cons rfl (sub_cons rfl (sub_cons rfl (sub_cons rfl (sub_cons rfl sub_nil)))))
        · intro h5 hF
          refine RN.blk (ops := [(151, .iinc 2 1)]) (pc' := 154) (lv' := [(2, .inl (m_w32 (v2 + 1))), (0, .inr (.inr u0)), (1, .inl u1)]) (st' := []) (h' := h5) (cs := []) (by decide +kernel) rfl trivial ?_
          refine RN.goto (off := -113) (tgt := 41) (by decide +kernel) ?_
          exact RN.sub (ih _ _ hF) (sub_cons rfl (sub_cons rfl (sub_cons rfl sub_nil)))
    · refine RN.ict (cd := .ge) (off := 105) (tgt := 157) (by decide +kernel) (mif_ge hb) ?_
      exact RN.sub (hK0 _ hF) sub_nil
noncomputable def FX12_needsOf (t : Int) (a1 : Int) (h : MH) : Option (MH) :=
  FX12_needsOf_L2 t a1 (fun h1 =>
   FX12_needsOf_L41 t a1 (fun h2 =>
    some h2) FU 0 h1) FU 0 h
theorem CX12_needsOf {d : Nat} {t : Int} {a1 : Int} {h : MH} {r : MH} (hF : FX12_needsOf t a1 h = some r) : RN xs L iX12_needsOf (d + 1) 0 (lvE 0 [.inr (.inr t), .inl a1]) [] h (RVo r) := by
  unfold FX12_needsOf at hF
  refine RN.blk (ops := [(0, .iconst 0), (1, .istore_n 2)]) (pc' := 2) (lv' := [(2, .inl 0), (0, .inr (.inr t)), (1, .inl a1)]) (st' := []) (h' := h) (cs := []) (by decide +kernel) rfl trivial ?_
  refine RN.sub (CX12_needsOf_L2 ?_ _ _ _ hF) (sub_cons rfl (sub_cons rfl (sub_cons rfl sub_nil)))
  · intro h1 hF
    refine RN.blk (ops := [(39, .iconst 0), (40, .istore_n 2)]) (pc' := 41) (lv' := [(2, .inl 0), (0, .inr (.inr t)), (1, .inl a1)]) (st' := []) (h' := h1) (cs := []) (by decide +kernel) rfl trivial ?_
    refine RN.sub (CX12_needsOf_L41 ?_ _ _ _ hF) (sub_cons rfl (sub_cons rfl (sub_cons rfl sub_nil)))
    · intro h2 hF
      exact RN.vR (by decide +kernel) rfl hF
end Dc
