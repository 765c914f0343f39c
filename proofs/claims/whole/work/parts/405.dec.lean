/-! METHODS AS FUNCTIONS, and their certificates (by program): X6_takeSum, X6_takeComparison, X6_takeTest, X6_parse, X7_start -/
section Dc
variable {xs : Int → Int} {L : Int}
noncomputable def FX6_takeSum_L25 (u0 : Int) (K0 : MH → Option (Int × MH)) (K1 : Int → MH → Option (Int × MH)) : Nat → Int → Int → Int → MH → Option (Int × MH)
  | 0, _, _, _, _ => none
  | f + 1, v1, v2, v3, h =>
    (if v3 < 400 then
     (if v2 = (-99) then
      K1 v1 h
     else
      gd [GK h u0 6, GK h (m_rd h u0 0) 9, GK h (m_rd h u0 0) 9] (
       jn (fun (s2 : Int) =>
        jn (fun (h4 : MH) =>
         gd [GK h4 u0 6] (bd (FX6_takeValue u0 h4) (fun x6 h5 =>
          (if x6 = 0 then
           K0 h5
          else
           jn (fun (p8 : Int) (h9 : MH) =>
            gd [GK h9 u0 6] (
             gd [GK h9 (m_rd h9 u0 0) 9] (bd (FX9_next (m_rd h9 u0 0) h9) (fun x11 h10 =>
              (bd (FX6_joinOf x11 h10) (fun x13 h12 =>
               FX6_takeSum_L25 u0 K0 K1 f p8 x13 (m_w32 (v3 + 1)) h12)))))) (fun j7 =>
            (if s2 = 0 then
             gd [GK h5 u0 6] (bd (FX6_put u0 v2 h5) (fun x15 h14 =>
              j7 v1 h14))
            else
             j7 v2 h5)))))) (fun j3 =>
         (if s2 = 0 then
          j3 (m_wr h (m_rd h u0 0) 2 (m_w32 ((m_rd h (m_rd h u0 0) 2) + 1)))
         else
          (if v1 = (-99) then
           j3 (m_wr h (m_rd h u0 0) 2 (m_w32 ((m_rd h (m_rd h u0 0) 2) + 1)))
          else
           gd [GK h u0 6] (bd (FX6_put u0 v1 (m_wr h (m_rd h u0 0) 2 (m_w32 ((m_rd h (m_rd h u0 0) 2) + 1)))) (fun x17 h16 =>
            j3 h16)))))) (fun j1 =>
        jn (
         j1 1) (fun j18 =>
         (if v2 = (-20) then
          j18
         else
          (if v2 = (-21) then
           j18
          else
           j1 0))))))
    else
     K1 v1 h)
theorem CX6_takeSum_L25 {d : Nat} {u0 : Int} {K0 : MH → Option (Int × MH)} {K1 : Int → MH → Option (Int × MH)} {r : Int × MH} (hK0 : ∀ (h : MH), K0 h = some r → RN xs L iX6_takeSum (d + 8) 94 [] [] h (RIo r)) (hK1 : ∀ (w1 : Int) (h : MH), K1 w1 h = some r → RN xs L iX6_takeSum (d + 8) 129 [(0, .inr (.inr u0)), (1, .inl w1)] [] h (RIo r)) : ∀ (f : Nat) (v1 : Int) (v2 : Int) (v3 : Int) (h : MH), FX6_takeSum_L25 u0 K0 K1 f v1 v2 v3 h = some r → RN xs L iX6_takeSum (d + 8) 25 [(0, .inr (.inr u0)), (1, .inl v1), (2, .inl v2), (3, .inl v3)] [] h (RIo r) := by
  intro f
  induction f with
  | zero =>
    intro v1 v2 v3 h hF
    cases hF
  | succ f ih =>
    intro v1 v2 v3 h hF
    unfold FX6_takeSum_L25 at hF
    refine RN.blk (ops := [(25, .iload_n 3), (26, .sipush 400)]) (pc' := 29) (lv' := [(0, .inr (.inr u0)), (1, .inl v1), (2, .inl v2), (3, .inl v3)]) (st' := [.inl 400, .inl v3]) (h' := h) (cs := []) (by decide +kernel) rfl trivial ?_
    rcases it_of hF with ⟨hb, hF⟩ | ⟨hb, hF⟩
    · refine RN.icf (cd := .ge) (off := 100) (tgt := 129) (by decide +kernel) (mif_gen hb) ?_
      refine RN.blk (ops := [(32, .iload_n 2), (33, .bipush (-99))]) (pc' := 35) (lv' := [(0, .inr (.inr u0)), (1, .inl v1), (2, .inl v2), (3, .inl v3)]) (st' := [.inl (-99), .inl v2]) (h' := h) (cs := []) (by decide +kernel) rfl trivial ?_
      rcases it_of hF with ⟨hb, hF⟩ | ⟨hb, hF⟩
      · refine RN.ict (cd := .eq) (off := 94) (tgt := 129) (by decide +kernel) (mif_eq hb) ?_
        exact RN.sub (hK1 _ _ hF) (sub_cons rfl (sub_cons rfl sub_nil))
      · refine RN.icf (cd := .eq) (off := 94) (tgt := 129) (by decide +kernel) (mif_eqn hb) ?_
        obtain ⟨hc, hF⟩ := gd_of hF
        refine RN.blk (ops := [(38, .aload_n 0), (39, .getfield 21), (42, .dup), (43, .getfield 44), (46, .iconst 1), (47, .iadd), (48, .putfield 44), (51, .iload_n 2), (52, .bipush (-20))]) (pc' := 54) (lv' := [(0, .inr (.inr u0)), (1, .inl v1), (2, .inl v2), (3, .inl v3)]) (st' := [.inl (-20), .inl v2]) (h' := (m_wr h (m_rd h u0 0) 2 (m_w32 ((m_rd h (m_rd h u0 0) 2) + 1)))) (cs := [GK h u0 6, GK h (m_rd h u0 0) 9, GK h (m_rd h u0 0) 9]) (by decide +kernel) rfl hc ?_
        refine jn_use (fun j1 => ∀ (s2 : Int), j1 s2 = some r → RN xs L iX6_takeSum (d + 8) 68 [(0, .inr (.inr u0)), (1, .inl v1), (2, .inl v2), (3, .inl v3)] [.inl s2] (m_wr h (m_rd h u0 0) 2 (m_w32 ((m_rd h (m_rd h u0 0) 2) + 1))) (RIo r)) ?_ ?_ hF
        · intro s2 hF
          refine RN.blk (ops := [(68, .istore 4), (70, .iload 4)]) (pc' := 72) (lv' := [(4, .inl s2), (0, .inr (.inr u0)), (1, .inl v1), (2, .inl v2), (3, .inl v3)]) (st' := [.inl s2]) (h' := (m_wr h (m_rd h u0 0) 2 (m_w32 ((m_rd h (m_rd h u0 0) 2) + 1)))) (cs := []) (by decide +kernel) rfl trivial ?_
          refine jn_use (fun j3 => ∀ (h4 : MH), j3 h4 = some r → RN xs L iX6_takeSum (d + 8) 87 [(0, .inr (.inr u0)), (1, .inl v1), (2, .inl v2), (3, .inl v3), (4, .inl s2)] [] h4 (RIo r)) ?_ ?_ hF
          · intro h4 hF
            refine RN.blk (ops := [(87, .aload_n 0)]) (pc' := 88) (lv' := [(0, .inr (.inr u0)), (1, .inl v1), (2, .inl v2), (3, .inl v3), (4, .inl s2)]) (st' := [.inr (.inr u0)]) (h' := h4) (cs := []) (by decide +kernel) rfl trivial ?_
            obtain ⟨hc, hF⟩ := gd_of hF
            obtain ⟨x6, h5, hG, hF⟩ := bd_of hF
            refine RN.cv (i := 98) (k := 61) (q2 := iX6_takeValue) (as := [.inr (.inr u0)]) (r := []) (v := some (.inl x6)) (h1 := h5) (by decide +kernel) rfl rfl rfl rfl rfl (rcv_ok hc.1) (CX6_takeValue (d := d) hG) ?_
            rcases it_of hF with ⟨hb, hF⟩ | ⟨hb, hF⟩
            · refine RN.iff (cd := .ne) (off := 5) (tgt := 96) (by decide +kernel) (mif_nen hb) ?_
              exact RN.sub (hK0 _ hF) sub_nil
            · refine RN.ift (cd := .ne) (off := 5) (tgt := 96) (by decide +kernel) (mif_ne hb) ?_
              refine RN.blk (ops := [(96, .iload 4)]) (pc' := 98) (lv' := [(0, .inr (.inr u0)), (1, .inl v1), (2, .inl v2), (3, .inl v3), (4, .inl s2)]) (st' := [.inl s2]) (h' := h5) (cs := []) (by decide +kernel) rfl trivial ?_
              refine jn_use (fun j7 => ∀ (p8 : Int) (h9 : MH), j7 p8 h9 = some r → RN xs L iX6_takeSum (d + 8) 112 [(0, .inr (.inr u0)), (1, .inl p8), (3, .inl v3)] [] h9 (RIo r)) ?_ ?_ hF
              · intro p8 h9 hF
                obtain ⟨hc, hF⟩ := gd_of hF
                refine RN.blk (ops := [(112, .aload_n 0), (113, .getfield 21)]) (pc' := 116) (lv' := [(0, .inr (.inr u0)), (1, .inl p8), (3, .inl v3)]) (st' := [.inr (.inr (m_rd h9 u0 0))]) (h' := h9) (cs := [GK h9 u0 6]) (by decide +kernel) rfl hc ?_
                obtain ⟨hc, hF⟩ := gd_of hF
                obtain ⟨x11, h10, hG, hF⟩ := bd_of hF
                refine RN.cv (i := 40) (k := 93) (q2 := iX9_next) (as := [.inr (.inr (m_rd h9 u0 0))]) (r := []) (v := some (.inl x11)) (h1 := h10) (by decide +kernel) rfl rfl rfl rfl rfl (rcv_ok hc.1) (CX9_next (d := d + 7) hG) ?_
                obtain ⟨x13, h12, hG, hF⟩ := bd_of hF
                refine RN.cst (i := 101) (k := 64) (q2 := iX6_joinOf) (as := [.inl x11]) (r := []) (v := some (.inl x13)) (h1 := h12) (by decide +kernel) rfl rfl rfl rfl rfl (CX6_joinOf (d := d + 7) hG) ?_
                refine RN.blk (ops := [(122, .istore_n 2), (123, .iinc 3 1)]) (pc' := 126) (lv' := [(3, .inl (m_w32 (v3 + 1))), (2, .inl x13), (0, .inr (.inr u0)), (1, .inl p8)]) (st' := []) (h' := h12) (cs := []) (by decide +kernel) rfl trivial ?_
                refine RN.goto (off := -101) (tgt := 25) (by decide +kernel) ?_
                exact RN.sub (ih _ _ _ _ hF) (sub_cons rfl (sub_cons rfl (sub_cons rfl (sub_cons rfl sub_nil))))
              · intro j7 Jj7 hF
                rcases it_of hF with ⟨hb, hF⟩ | ⟨hb, hF⟩
                · refine RN.ift (cd := .eq) (off := 8) (tgt := 106) (by decide +kernel) (mif_eq hb) ?_
                  refine RN.blk (ops := [(106, .aload_n 0), (107, .iload_n 2)]) (pc' := 108) (lv' := [(0, .inr (.inr u0)), (1, .inl v1), (2, .inl v2), (3, .inl v3), (4, .inl s2)]) (st' := [.inl v2, .inr (.inr u0)]) (h' := h5) (cs := []) (by decide +kernel) rfl trivial ?_
                  obtain ⟨hc, hF⟩ := gd_of hF
                  obtain ⟨x15, h14, hG, hF⟩ := bd_of hF
                  refine RN.cv (i := 78) (k := 63) (q2 := iX6_put) (as := [.inr (.inr u0), .inl v2]) (r := []) (v := some (.inl x15)) (h1 := h14) (by decide +kernel) rfl rfl rfl rfl rfl (rcv_ok hc.1) (CX6_put (d := d + 7) hG) ?_
                  refine RN.blk (ops := [(111, .pop)]) (pc' := 112) (lv' := [(0, .inr (.inr u0)), (1, .inl v1), (2, .inl v2), (3, .inl v3), (4, .inl s2)]) (st' := []) (h' := h14) (cs := []) (by decide +kernel) rfl trivial ?_
                  exact RN.sub (Jj7 _ _ hF) (sub_cons rfl (sub_cons rfl (sub_cons rfl sub_nil)))
                · refine RN.iff (cd := .eq) (off := 8) (tgt := 106) (by decide +kernel) (mif_eqn hb) ?_
                  refine RN.blk (ops := [(101, .iload_n 2), (102, .istore_n 1)]) (pc' := 103) (lv' := [(1, .inl v2), (0, .inr (.inr u0)), (2, .inl v2), (3, .inl v3), (4, .inl s2)]) (st' := []) (h' := h5) (cs := []) (by decide +kernel) rfl trivial ?_
                  refine RN.goto (off := 9) (tgt := 112) (by decide +kernel) ?_
                  exact RN.sub (Jj7 _ _ hF) (sub_cons rfl (sub_cons rfl (sub_cons rfl sub_nil)))
          · intro j3 Jj3 hF
            rcases it_of hF with ⟨hb, hF⟩ | ⟨hb, hF⟩
            · refine RN.ift (cd := .eq) (off := 15) (tgt := 87) (by decide +kernel) (mif_eq hb) ?_
              exact RN.sub (Jj3 _ hF) (sub_cons rfl (sub_cons rfl (sub_cons rfl (sub_cons rfl (sub_cons rfl sub_nil)))))
            · refine RN.iff (cd := .eq) (off := 15) (tgt := 87) (by decide +kernel) (mif_eqn hb) ?_
              refine RN.blk (ops := [(75, .iload_n 1), (76, .bipush (-99))]) (pc' := 78) (lv' := [(4, .inl s2), (0, .inr (.inr u0)), (1, .inl v1), (2, .inl v2), (3, .inl v3)]) (st' := [.inl (-99), .inl v1]) (h' := (m_wr h (m_rd h u0 0) 2 (m_w32 ((m_rd h (m_rd h u0 0) 2) + 1)))) (cs := []) (by decide +kernel) rfl trivial ?_
              rcases it_of hF with ⟨hb, hF⟩ | ⟨hb, hF⟩
              · refine RN.ict (cd := .eq) (off := 9) (tgt := 87) (by decide +kernel) (mif_eq hb) ?_
                exact RN.sub (Jj3 _ hF) (sub_cons rfl (sub_cons rfl (sub_cons rfl (sub_cons rfl (sub_cons rfl sub_nil)))))
              · refine RN.icf (cd := .eq) (off := 9) (tgt := 87) (by decide +kernel) (mif_eqn hb) ?_
                refine RN.blk (ops := [(81, .aload_n 0), (82, .iload_n 1)]) (pc' := 83) (lv' := [(4, .inl s2), (0, .inr (.inr u0)), (1, .inl v1), (2, .inl v2), (3, .inl v3)]) (st' := [.inl v1, .inr (.inr u0)]) (h' := (m_wr h (m_rd h u0 0) 2 (m_w32 ((m_rd h (m_rd h u0 0) 2) + 1)))) (cs := []) (by decide +kernel) rfl trivial ?_
                obtain ⟨hc, hF⟩ := gd_of hF
                obtain ⟨x17, h16, hG, hF⟩ := bd_of hF
                refine RN.cv (i := 78) (k := 63) (q2 := iX6_put) (as := [.inr (.inr u0), .inl v1]) (r := []) (v := some (.inl x17)) (h1 := h16) (by decide +kernel) rfl rfl rfl rfl rfl (rcv_ok hc.1) (CX6_put (d := d + 7) hG) ?_
                refine RN.blk (ops := [(86, .pop)]) (pc' := 87) (lv' := [(4, .inl s2), (0, .inr (.inr u0)), (1, .inl v1), (2, .inl v2), (3, .inl v3)]) (st' := []) (h' := h16) (cs := []) (by decide +kernel) rfl trivial ?_
                exact RN.sub (Jj3 _ hF) (sub_cons rfl (sub_cons rfl (sub_cons rfl (sub_cons rfl (sub_cons rfl sub_nil)))))
        · intro j1 Jj1 hF
          refine jn_use (fun j18 => j18 = some r → RN xs L iX6_takeSum (d + 8) 63 [(0, .inr (.inr u0)), (1, .inl v1), (2, .inl v2), (3, .inl v3)] [] (m_wr h (m_rd h u0 0) 2 (m_w32 ((m_rd h (m_rd h u0 0) 2) + 1))) (RIo r)) ?_ ?_ hF
          · intro  hF
            refine RN.blk (ops := [(63, .iconst 1)]) (pc' := 64) (lv' := [(0, .inr (.inr u0)), (1, .inl v1), (2, .inl v2), (3, .inl v3)]) (st' := [.inl 1]) (h' := (m_wr h (m_rd h u0 0) 2 (m_w32 ((m_rd h (m_rd h u0 0) 2) + 1)))) (cs := []) (by decide +kernel) rfl trivial ?_
            refine RN.goto (off := 4) (tgt := 68) (by decide +kernel) ?_
            exact RN.sub (Jj1 _ hF) (sub_cons rfl (sub_cons rfl (sub_cons rfl (sub_cons rfl sub_nil))))
          · intro j18 Jj18 hF
            rcases it_of hF with ⟨hb, hF⟩ | ⟨hb, hF⟩
            · refine RN.ict (cd := .eq) (off := 9) (tgt := 63) (by decide +kernel) (mif_eq hb) ?_
              exact RN.sub (Jj18 hF) (sub_cons rfl (sub_cons rfl (sub_cons rfl (sub_cons rfl sub_nil))))
            · refine RN.icf (cd := .eq) (off := 9) (tgt := 63) (by decide +kernel) (mif_eqn hb) ?_
              refine RN.blk (ops := [(57, .iload_n 2), (58, .bipush (-21))]) (pc' := 60) (lv' := [(0, .inr (.inr u0)), (1, .inl v1), (2, .inl v2), (3, .inl v3)]) (st' := [.inl (-21), .inl v2]) (h' := (m_wr h (m_rd h u0 0) 2 (m_w32 ((m_rd h (m_rd h u0 0) 2) + 1)))) (cs := []) (by decide +kernel) rfl trivial ?_
              rcases it_of hF with ⟨hb, hF⟩ | ⟨hb, hF⟩
              · refine RN.icf (cd := .ne) (off := 7) (tgt := 67) (by decide +kernel) (mif_nen hb) ?_
                exact RN.sub (Jj18 hF) (sub_cons rfl (sub_cons rfl (sub_cons rfl (sub_cons rfl sub_nil))))
              · refine RN.ict (cd := .ne) (off := 7) (tgt := 67) (by decide +kernel) (mif_ne hb) ?_
                refine RN.blk (ops := [(67, .iconst 0)]) (pc' := 68) (lv' := [(0, .inr (.inr u0)), (1, .inl v1), (2, .inl v2), (3, .inl v3)]) (st' := [.inl 0]) (h' := (m_wr h (m_rd h u0 0) 2 (m_w32 ((m_rd h (m_rd h u0 0) 2) + 1)))) (cs := []) (by decide +kernel) rfl trivial ?_
                exact RN.sub (Jj1 _ hF) (sub_cons rfl (sub_cons rfl (sub_cons rfl (sub_cons rfl sub_nil))))
    · refine RN.ict (cd := .ge) (off := 100) (tgt := 129) (by decide +kernel) (mif_ge hb) ?_
      exact RN.sub (hK1 _ _ hF) (sub_cons rfl (sub_cons rfl sub_nil))
noncomputable def FX6_takeSum (t : Int) (h : MH) : Option (Int × MH) :=
  gd [GK h t 6] (bd (FX6_takeValue t h) (fun x2 h1 =>
   (if x2 = 0 then
    some (0, h1)
   else
    gd [GK h1 t 6] (
     gd [GK h1 (m_rd h1 t 0) 9] (bd (FX9_next (m_rd h1 t 0) h1) (fun x4 h3 =>
      (bd (FX6_joinOf x4 h3) (fun x6 h5 =>
       FX6_takeSum_L25 t (fun h7 =>
        some (0, h7)) (fun w8 h9 =>
        (if w8 = (-99) then
         some (1, h9)
        else
         gd [GK h9 t 6] (bd (FX6_put t w8 h9) (fun x11 h10 =>
          (if x11 = 0 then
           some (0, h10)
          else
           some (1, h10)))))) FU (-99) x6 0 h5))))))))
theorem CX6_takeSum {d : Nat} {t : Int} {h : MH} {r : Int × MH} (hF : FX6_takeSum t h = some r) : RN xs L iX6_takeSum (d + 8) 0 (lvE 0 [.inr (.inr t)]) [] h (RIo r) := by
  unfold FX6_takeSum at hF
  refine RN.blk (ops := [(0, .aload_n 0)]) (pc' := 1) (lv' := [(0, .inr (.inr t))]) (st' := [.inr (.inr t)]) (h' := h) (cs := []) (by decide +kernel) rfl trivial ?_
  obtain ⟨hc, hF⟩ := gd_of hF
  obtain ⟨x2, h1, hG, hF⟩ := bd_of hF
  refine RN.cv (i := 98) (k := 61) (q2 := iX6_takeValue) (as := [.inr (.inr t)]) (r := []) (v := some (.inl x2)) (h1 := h1) (by decide +kernel) rfl rfl rfl rfl rfl (rcv_ok hc.1) (CX6_takeValue (d := d) hG) ?_
  rcases it_of hF with ⟨hb, hF⟩ | ⟨hb, hF⟩
  · refine RN.iff (cd := .ne) (off := 5) (tgt := 9) (by decide +kernel) (mif_nen hb) ?_
    refine RN.blk (ops := [(7, .iconst 0)]) (pc' := 8) (lv' := [(0, .inr (.inr t))]) (st' := [.inl 0]) (h' := h1) (cs := []) (by decide +kernel) rfl trivial ?_
    exact RN.zR (by decide +kernel) rfl (Or.inl rfl) hF
  · refine RN.ift (cd := .ne) (off := 5) (tgt := 9) (by decide +kernel) (mif_ne hb) ?_
    obtain ⟨hc, hF⟩ := gd_of hF
    refine RN.blk (ops := [(9, .bipush (-99)), (11, .istore_n 1), (12, .aload_n 0), (13, .getfield 21)]) (pc' := 16) (lv' := [(1, .inl (-99)), (0, .inr (.inr t))]) (st' := [.inr (.inr (m_rd h1 t 0))]) (h' := h1) (cs := [GK h1 t 6]) (by decide +kernel) rfl hc ?_
    obtain ⟨hc, hF⟩ := gd_of hF
    obtain ⟨x4, h3, hG, hF⟩ := bd_of hF
    refine RN.cv (i := 40) (k := 93) (q2 := iX9_next) (as := [.inr (.inr (m_rd h1 t 0))]) (r := []) (v := some (.inl x4)) (h1 := h3) (by decide +kernel) rfl rfl rfl rfl rfl (rcv_ok hc.1) (CX9_next (d := d + 7) hG) ?_
    obtain ⟨x6, h5, hG, hF⟩ := bd_of hF
    refine RN.cst (i := 101) (k := 64) (q2 := iX6_joinOf) (as := [.inl x4]) (r := []) (v := some (.inl x6)) (h1 := h5) (by decide +kernel) rfl rfl rfl rfl rfl (CX6_joinOf (d := d + 7) hG) ?_
    refine RN.blk (ops := [(22, .istore_n 2), (23, .iconst 0), (24, .istore_n 3)]) (pc' := 25) (lv' := [(3, .inl 0), (2, .inl x6), (1, .inl (-99)), (0, .inr (.inr t))]) (st' := []) (h' := h5) (cs := []) (by decide +kernel) rfl trivial ?_
    refine RN.sub (CX6_takeSum_L25 ?_ ?_ _ _ _ _ _ hF) (sub_cons rfl (sub_cons rfl (sub_cons rfl (sub_cons rfl sub_nil))))
    · intro h7 hF
      refine RN.blk (ops := [(94, .iconst 0)]) (pc' := 95) (lv' := []) (st' := [.inl 0]) (h' := h7) (cs := []) (by decide +kernel) rfl trivial ?_
      exact RN.zR (by decide +kernel) rfl (Or.inl rfl) hF
    · intro w8 h9 hF
      refine RN.blk (ops := [(129, .iload_n 1), (130, .bipush (-99))]) (pc' := 132) (lv' := [(0, .inr (.inr t)), (1, .inl w8)]) (st' := [.inl (-99), .inl w8]) (h' := h9) (cs := []) (by decide +kernel) rfl trivial ?_
      rcases it_of hF with ⟨hb, hF⟩ | ⟨hb, hF⟩
      · refine RN.ict (cd := .eq) (off := 11) (tgt := 143) (by decide +kernel) (mif_eq hb) ?_
        refine RN.blk (ops := [(143, .iconst 1)]) (pc' := 144) (lv' := [(0, .inr (.inr t)), (1, .inl w8)]) (st' := [.inl 1]) (h' := h9) (cs := []) (by decide +kernel) rfl trivial ?_
        refine RN.goto (off := 4) (tgt := 148) (by decide +kernel) ?_
        exact RN.zR (by decide +kernel) rfl (Or.inr rfl) hF
      · refine RN.icf (cd := .eq) (off := 11) (tgt := 143) (by decide +kernel) (mif_eqn hb) ?_
        refine RN.blk (ops := [(135, .aload_n 0), (136, .iload_n 1)]) (pc' := 137) (lv' := [(0, .inr (.inr t)), (1, .inl w8)]) (st' := [.inl w8, .inr (.inr t)]) (h' := h9) (cs := []) (by decide +kernel) rfl trivial ?_
        obtain ⟨hc, hF⟩ := gd_of hF
        obtain ⟨x11, h10, hG, hF⟩ := bd_of hF
        refine RN.cv (i := 78) (k := 63) (q2 := iX6_put) (as := [.inr (.inr t), .inl w8]) (r := []) (v := some (.inl x11)) (h1 := h10) (by decide +kernel) rfl rfl rfl rfl rfl (rcv_ok hc.1) (CX6_put (d := d + 7) hG) ?_
        rcases it_of hF with ⟨hb, hF⟩ | ⟨hb, hF⟩
        · refine RN.ift (cd := .eq) (off := 7) (tgt := 147) (by decide +kernel) (mif_eq hb) ?_
          refine RN.blk (ops := [(147, .iconst 0)]) (pc' := 148) (lv' := [(0, .inr (.inr t)), (1, .inl w8)]) (st' := [.inl 0]) (h' := h10) (cs := []) (by decide +kernel) rfl trivial ?_
          exact RN.zR (by decide +kernel) rfl (Or.inl rfl) hF
        · refine RN.iff (cd := .eq) (off := 7) (tgt := 147) (by decide +kernel) (mif_eqn hb) ?_
          refine RN.blk (ops := [(143, .iconst 1)]) (pc' := 144) (lv' := [(0, .inr (.inr t)), (1, .inl w8)]) (st' := [.inl 1]) (h' := h10) (cs := []) (by decide +kernel) rfl trivial ?_
          refine RN.goto (off := 4) (tgt := 148) (by decide +kernel) ?_
          exact RN.zR (by decide +kernel) rfl (Or.inr rfl) hF
noncomputable def FX6_takeComparison (t : Int) (h : MH) : Option (Int × MH) :=
  gd [GK h t 6] (
   gd [GK h (m_rd h t 0) 9] (bd (FX9_next (m_rd h t 0) h) (fun x2 h1 =>
    gd [GK h1 t 6, GK h1 (m_rd h1 t 0) 9] (
     jn (
      gd [GK h1 t 6] (bd (FX6_countPart t (m_rd h1 (m_rd h1 t 0) 2) h1) (fun x5 h4 =>
       (if x5 = 0 then
        some ((-99), h4)
       else
        gd [GK h4 t 6, GK h4 (m_rd h4 t 0) 9, GK h4 (m_rd h4 t 0) 9] (
         (if x2 = 61 then
          some ((-27), (m_wr h4 (m_rd h4 t 0) 2 (m_w32 ((m_rd h4 (m_rd h4 t 0) 2) + 1))))
         else
          gd [GK h4 t 6, GK h4 t 6, GK h4 (m_rd (m_wr h4 (m_rd h4 t 0) 2 (m_w32 ((m_rd h4 (m_rd h4 t 0) 2) + 1))) t 0) 9] (
           gd [GK h4 (m_rd (m_wr h4 (m_rd h4 t 0) 2 (m_w32 ((m_rd h4 (m_rd h4 t 0) 2) + 1))) t 0) 9] (bd (FX9_byteAt (m_rd (m_wr h4 (m_rd h4 t 0) 2 (m_w32 ((m_rd h4 (m_rd h4 t 0) 2) + 1))) t 0) (m_rd (m_wr h4 (m_rd h4 t 0) 2 (m_w32 ((m_rd h4 (m_rd h4 t 0) 2) + 1))) (m_rd (m_wr h4 (m_rd h4 t 0) 2 (m_w32 ((m_rd h4 (m_rd h4 t 0) 2) + 1))) t 0) 2) (m_wr h4 (m_rd h4 t 0) 2 (m_w32 ((m_rd h4 (m_rd h4 t 0) 2) + 1)))) (fun x7 h6 =>
            (if x7 = 61 then
             gd [GK h6 t 6, GK h6 (m_rd h6 t 0) 9, GK h6 (m_rd h6 t 0) 9] (
              (if x2 = 60 then
               some ((-26), (m_wr h6 (m_rd h6 t 0) 2 (m_w32 ((m_rd h6 (m_rd h6 t 0) 2) + 1))))
              else
               some ((-28), (m_wr h6 (m_rd h6 t 0) 2 (m_w32 ((m_rd h6 (m_rd h6 t 0) 2) + 1))))))
            else
             (if x2 = 60 then
              some ((-25), h6)
             else
              some ((-29), h6)))))))))))) (fun j3 =>
      (if x2 = 60 then
       j3
      else
       (if x2 = 61 then
        j3
       else
        (if x2 = 62 then
         j3
        else
         gd [GK h1 t 6] (
          gd [GK h1 (m_rd h1 t 0) 9] (bd (FX9_fail (m_rd h1 t 0) (m_rd h1 (m_rd h1 t 0) 2) 0 h1) (fun x9 h8 =>
           some ((-99), h8))))))))))))
theorem CX6_takeComparison {d : Nat} {t : Int} {h : MH} {r : Int × MH} (hF : FX6_takeComparison t h = some r) : RN xs L iX6_takeComparison (d + 2) 0 (lvE 0 [.inr (.inr t)]) [] h (RIo r) := by
  unfold FX6_takeComparison at hF
  obtain ⟨hc, hF⟩ := gd_of hF
  refine RN.blk (ops := [(0, .aload_n 0), (1, .getfield 21)]) (pc' := 4) (lv' := [(0, .inr (.inr t))]) (st' := [.inr (.inr (m_rd h t 0))]) (h' := h) (cs := [GK h t 6]) (by decide +kernel) rfl hc ?_
  obtain ⟨hc, hF⟩ := gd_of hF
  obtain ⟨x2, h1, hG, hF⟩ := bd_of hF
  refine RN.cv (i := 40) (k := 93) (q2 := iX9_next) (as := [.inr (.inr (m_rd h t 0))]) (r := []) (v := some (.inl x2)) (h1 := h1) (by decide +kernel) rfl rfl rfl rfl rfl (rcv_ok hc.1) (CX9_next (d := d + 1) hG) ?_
  obtain ⟨hc, hF⟩ := gd_of hF
  refine RN.blk (ops := [(7, .istore_n 1), (8, .aload_n 0), (9, .getfield 21), (12, .getfield 44), (15, .istore_n 2), (16, .iload_n 1), (17, .bipush 60)]) (pc' := 19) (lv' := [(2, .inl (m_rd h1 (m_rd h1 t 0) 2)), (1, .inl x2), (0, .inr (.inr t))]) (st' := [.inl 60, .inl x2]) (h' := h1) (cs := [GK h1 t 6, GK h1 (m_rd h1 t 0) 9]) (by decide +kernel) rfl hc ?_
  refine jn_use (fun j3 => j3 = some r → RN xs L iX6_takeComparison (d + 2) 47 [(0, .inr (.inr t)), (1, .inl x2), (2, .inl (m_rd h1 (m_rd h1 t 0) 2))] [] h1 (RIo r)) ?_ ?_ hF
  · intro  hF
    refine RN.blk (ops := [(47, .aload_n 0), (48, .iload_n 2)]) (pc' := 49) (lv' := [(0, .inr (.inr t)), (1, .inl x2), (2, .inl (m_rd h1 (m_rd h1 t 0) 2))]) (st' := [.inl (m_rd h1 (m_rd h1 t 0) 2), .inr (.inr t)]) (h' := h1) (cs := []) (by decide +kernel) rfl trivial ?_
    obtain ⟨hc, hF⟩ := gd_of hF
    obtain ⟨x5, h4, hG, hF⟩ := bd_of hF
    refine RN.cv (i := 91) (k := 62) (q2 := iX6_countPart) (as := [.inr (.inr t), .inl (m_rd h1 (m_rd h1 t 0) 2)]) (r := []) (v := some (.inl x5)) (h1 := h4) (by decide +kernel) rfl rfl rfl rfl rfl (rcv_ok hc.1) (CX6_countPart (d := d) hG) ?_
    rcases it_of hF with ⟨hb, hF⟩ | ⟨hb, hF⟩
    · refine RN.iff (cd := .ne) (off := 6) (tgt := 58) (by decide +kernel) (mif_nen hb) ?_
      refine RN.blk (ops := [(55, .bipush (-99))]) (pc' := 57) (lv' := [(0, .inr (.inr t)), (1, .inl x2), (2, .inl (m_rd h1 (m_rd h1 t 0) 2))]) (st' := [.inl (-99)]) (h' := h4) (cs := []) (by decide +kernel) rfl trivial ?_
      exact RN.iR (by decide +kernel) rfl hF
    · refine RN.ift (cd := .ne) (off := 6) (tgt := 58) (by decide +kernel) (mif_ne hb) ?_
      obtain ⟨hc, hF⟩ := gd_of hF
      refine RN.blk (ops := [(58, .aload_n 0), (59, .getfield 21), (62, .dup), (63, .getfield 44), (66, .iconst 1), (67, .iadd), (68, .putfield 44), (71, .iload_n 1), (72, .bipush 61)]) (pc' := 74) (lv' := [(0, .inr (.inr t)), (1, .inl x2), (2, .inl (m_rd h1 (m_rd h1 t 0) 2))]) (st' := [.inl 61, .inl x2]) (h' := (m_wr h4 (m_rd h4 t 0) 2 (m_w32 ((m_rd h4 (m_rd h4 t 0) 2) + 1)))) (cs := [GK h4 t 6, GK h4 (m_rd h4 t 0) 9, GK h4 (m_rd h4 t 0) 9]) (by decide +kernel) rfl hc ?_
      rcases it_of hF with ⟨hb, hF⟩ | ⟨hb, hF⟩
      · refine RN.icf (cd := .ne) (off := 6) (tgt := 80) (by decide +kernel) (mif_nen hb) ?_
        refine RN.blk (ops := [(77, .bipush (-27))]) (pc' := 79) (lv' := [(0, .inr (.inr t)), (1, .inl x2), (2, .inl (m_rd h1 (m_rd h1 t 0) 2))]) (st' := [.inl (-27)]) (h' := (m_wr h4 (m_rd h4 t 0) 2 (m_w32 ((m_rd h4 (m_rd h4 t 0) 2) + 1)))) (cs := []) (by decide +kernel) rfl trivial ?_
        exact RN.iR (by decide +kernel) rfl hF
      · refine RN.ict (cd := .ne) (off := 6) (tgt := 80) (by decide +kernel) (mif_ne hb) ?_
        obtain ⟨hc, hF⟩ := gd_of hF
        refine RN.blk (ops := [(80, .aload_n 0), (81, .getfield 21), (84, .aload_n 0), (85, .getfield 21), (88, .getfield 44)]) (pc' := 91) (lv' := [(0, .inr (.inr t)), (1, .inl x2), (2, .inl (m_rd h1 (m_rd h1 t 0) 2))]) (st' := [.inl (m_rd (m_wr h4 (m_rd h4 t 0) 2 (m_w32 ((m_rd h4 (m_rd h4 t 0) 2) + 1))) (m_rd (m_wr h4 (m_rd h4 t 0) 2 (m_w32 ((m_rd h4 (m_rd h4 t 0) 2) + 1))) t 0) 2), .inr (.inr (m_rd (m_wr h4 (m_rd h4 t 0) 2 (m_w32 ((m_rd h4 (m_rd h4 t 0) 2) + 1))) t 0))]) (h' := (m_wr h4 (m_rd h4 t 0) 2 (m_w32 ((m_rd h4 (m_rd h4 t 0) 2) + 1)))) (cs := [GK h4 t 6, GK h4 t 6, GK h4 (m_rd (m_wr h4 (m_rd h4 t 0) 2 (m_w32 ((m_rd h4 (m_rd h4 t 0) 2) + 1))) t 0) 9]) (by decide +kernel) rfl hc ?_
        obtain ⟨hc, hF⟩ := gd_of hF
        obtain ⟨x7, h6, hG, hF⟩ := bd_of hF
        refine RN.cv (i := 94) (k := 92) (q2 := iX9_byteAt) (as := [.inr (.inr (m_rd (m_wr h4 (m_rd h4 t 0) 2 (m_w32 ((m_rd h4 (m_rd h4 t 0) 2) + 1))) t 0)), .inl (m_rd (m_wr h4 (m_rd h4 t 0) 2 (m_w32 ((m_rd h4 (m_rd h4 t 0) 2) + 1))) (m_rd (m_wr h4 (m_rd h4 t 0) 2 (m_w32 ((m_rd h4 (m_rd h4 t 0) 2) + 1))) t 0) 2)]) (r := []) (v := some (.inl x7)) (h1 := h6) (by decide +kernel) rfl rfl rfl rfl rfl (rcv_ok hc.1) (CX9_byteAt (d := d + 1) hG) ?_
        refine RN.blk (ops := [(94, .bipush 61)]) (pc' := 96) (lv' := [(0, .inr (.inr t)), (1, .inl x2), (2, .inl (m_rd h1 (m_rd h1 t 0) 2))]) (st' := [.inl 61, .inl x7]) (h' := h6) (cs := []) (by decide +kernel) rfl trivial ?_
        rcases it_of hF with ⟨hb, hF⟩ | ⟨hb, hF⟩
        · refine RN.icf (cd := .ne) (off := 30) (tgt := 126) (by decide +kernel) (mif_nen hb) ?_
          obtain ⟨hc, hF⟩ := gd_of hF
          refine RN.blk (ops := [(99, .aload_n 0), (100, .getfield 21), (103, .dup), (104, .getfield 44), (107, .iconst 1), (108, .iadd), (109, .putfield 44), (112, .iload_n 1), (113, .bipush 60)]) (pc' := 115) (lv' := [(0, .inr (.inr t)), (1, .inl x2), (2, .inl (m_rd h1 (m_rd h1 t 0) 2))]) (st' := [.inl 60, .inl x2]) (h' := (m_wr h6 (m_rd h6 t 0) 2 (m_w32 ((m_rd h6 (m_rd h6 t 0) 2) + 1)))) (cs := [GK h6 t 6, GK h6 (m_rd h6 t 0) 9, GK h6 (m_rd h6 t 0) 9]) (by decide +kernel) rfl hc ?_
          rcases it_of hF with ⟨hb, hF⟩ | ⟨hb, hF⟩
          · refine RN.icf (cd := .ne) (off := 8) (tgt := 123) (by decide +kernel) (mif_nen hb) ?_
            refine RN.blk (ops := [(118, .bipush (-26))]) (pc' := 120) (lv' := [(0, .inr (.inr t)), (1, .inl x2), (2, .inl (m_rd h1 (m_rd h1 t 0) 2))]) (st' := [.inl (-26)]) (h' := (m_wr h6 (m_rd h6 t 0) 2 (m_w32 ((m_rd h6 (m_rd h6 t 0) 2) + 1)))) (cs := []) (by decide +kernel) rfl trivial ?_
            refine RN.goto (off := 5) (tgt := 125) (by decide +kernel) ?_
            exact RN.iR (by decide +kernel) rfl hF
          · refine RN.ict (cd := .ne) (off := 8) (tgt := 123) (by decide +kernel) (mif_ne hb) ?_
            refine RN.blk (ops := [(123, .bipush (-28))]) (pc' := 125) (lv' := [(0, .inr (.inr t)), (1, .inl x2), (2, .inl (m_rd h1 (m_rd h1 t 0) 2))]) (st' := [.inl (-28)]) (h' := (m_wr h6 (m_rd h6 t 0) 2 (m_w32 ((m_rd h6 (m_rd h6 t 0) 2) + 1)))) (cs := []) (by decide +kernel) rfl trivial ?_
            exact RN.iR (by decide +kernel) rfl hF
        · refine RN.ict (cd := .ne) (off := 30) (tgt := 126) (by decide +kernel) (mif_ne hb) ?_
          refine RN.blk (ops := [(126, .iload_n 1), (127, .bipush 60)]) (pc' := 129) (lv' := [(0, .inr (.inr t)), (1, .inl x2), (2, .inl (m_rd h1 (m_rd h1 t 0) 2))]) (st' := [.inl 60, .inl x2]) (h' := h6) (cs := []) (by decide +kernel) rfl trivial ?_
          rcases it_of hF with ⟨hb, hF⟩ | ⟨hb, hF⟩
          · refine RN.icf (cd := .ne) (off := 8) (tgt := 137) (by decide +kernel) (mif_nen hb) ?_
            refine RN.blk (ops := [(132, .bipush (-25))]) (pc' := 134) (lv' := [(0, .inr (.inr t)), (1, .inl x2), (2, .inl (m_rd h1 (m_rd h1 t 0) 2))]) (st' := [.inl (-25)]) (h' := h6) (cs := []) (by decide +kernel) rfl trivial ?_
            refine RN.goto (off := 5) (tgt := 139) (by decide +kernel) ?_
            exact RN.iR (by decide +kernel) rfl hF
          · refine RN.ict (cd := .ne) (off := 8) (tgt := 137) (by decide +kernel) (mif_ne hb) ?_
            refine RN.blk (ops := [(137, .bipush (-29))]) (pc' := 139) (lv' := [(0, .inr (.inr t)), (1, .inl x2), (2, .inl (m_rd h1 (m_rd h1 t 0) 2))]) (st' := [.inl (-29)]) (h' := h6) (cs := []) (by decide +kernel) rfl trivial ?_
            exact RN.iR (by decide +kernel) rfl hF
  · intro j3 Jj3 hF
    rcases it_of hF with ⟨hb, hF⟩ | ⟨hb, hF⟩
    · refine RN.ict (cd := .eq) (off := 28) (tgt := 47) (by decide +kernel) (mif_eq hb) ?_
      exact RN.sub (Jj3 hF) (sub_cons rfl (sub_cons rfl (sub_cons rfl sub_nil)))
    · refine RN.icf (cd := .eq) (off := 28) (tgt := 47) (by decide +kernel) (mif_eqn hb) ?_
      refine RN.blk (ops := [(22, .iload_n 1), (23, .bipush 61)]) (pc' := 25) (lv' := [(2, .inl (m_rd h1 (m_rd h1 t 0) 2)), (1, .inl x2), (0, .inr (.inr t))]) (st' := [.inl 61, .inl x2]) (h' := h1) (cs := []) (by decide +kernel) rfl trivial ?_
      rcases it_of hF with ⟨hb, hF⟩ | ⟨hb, hF⟩
      · refine RN.ict (cd := .eq) (off := 22) (tgt := 47) (by decide +kernel) (mif_eq hb) ?_
        exact RN.sub (Jj3 hF) (sub_cons rfl (sub_cons rfl (sub_cons rfl sub_nil)))
      · refine RN.icf (cd := .eq) (off := 22) (tgt := 47) (by decide +kernel) (mif_eqn hb) ?_
        refine RN.blk (ops := [(28, .iload_n 1), (29, .bipush 62)]) (pc' := 31) (lv' := [(2, .inl (m_rd h1 (m_rd h1 t 0) 2)), (1, .inl x2), (0, .inr (.inr t))]) (st' := [.inl 62, .inl x2]) (h' := h1) (cs := []) (by decide +kernel) rfl trivial ?_
        rcases it_of hF with ⟨hb, hF⟩ | ⟨hb, hF⟩
        · refine RN.ict (cd := .eq) (off := 16) (tgt := 47) (by decide +kernel) (mif_eq hb) ?_
          exact RN.sub (Jj3 hF) (sub_cons rfl (sub_cons rfl (sub_cons rfl sub_nil)))
        · refine RN.icf (cd := .eq) (off := 16) (tgt := 47) (by decide +kernel) (mif_eqn hb) ?_
          obtain ⟨hc, hF⟩ := gd_of hF
          refine RN.blk (ops := [(34, .aload_n 0), (35, .getfield 21), (38, .iload_n 2), (39, .iconst 0)]) (pc' := 40) (lv' := [(2, .inl (m_rd h1 (m_rd h1 t 0) 2)), (1, .inl x2), (0, .inr (.inr t))]) (st' := [.inl 0, .inl (m_rd h1 (m_rd h1 t 0) 2), .inr (.inr (m_rd h1 t 0))]) (h' := h1) (cs := [GK h1 t 6]) (by decide +kernel) rfl hc ?_
          obtain ⟨hc, hF⟩ := gd_of hF
          obtain ⟨x9, h8, hG, hF⟩ := bd_of hF
          refine RN.cv (i := 53) (k := 91) (q2 := iX9_fail) (as := [.inr (.inr (m_rd h1 t 0)), .inl (m_rd h1 (m_rd h1 t 0) 2), .inl 0]) (r := []) (v := some (.inl x9)) (h1 := h8) (by decide +kernel) rfl rfl rfl rfl rfl (rcv_ok hc.1) (CX9_fail (d := d + 1) hG) ?_
          refine RN.blk (ops := [(43, .pop), (44, .bipush (-99))]) (pc' := 46) (lv' := [(2, .inl (m_rd h1 (m_rd h1 t 0) 2)), (1, .inl x2), (0, .inr (.inr t))]) (st' := [.inl (-99)]) (h' := h8) (cs := []) (by decide +kernel) rfl trivial ?_
          exact RN.iR (by decide +kernel) rfl hF
noncomputable def FX6_takeTest_L17 (RT : Int → Int → MH → Option (Int × MH)) (RF : Int → Int → MH → Option (Int × MH)) (u0 : Int) (u1 : Int) (K0 : MH → Option (Int × MH)) (K1 : MH → Option (Int × MH)) (K2 : Int → MH → Option (Int × MH)) : Nat → Int → Int → Int → MH → Option (Int × MH)
  | 0, _, _, _, _ => none
  | f + 1, v2, v3, v4, h =>
    (if v4 < 400 then
     (if v3 = 0 then
      K2 v2 h
     else
      gd [GK h u0 6] (
       gd [GK h (m_rd h u0 0) 9] (bd (FX9_takeWord (m_rd h u0 0) (-27) h) (fun x2 h1 =>
        (if x2 = 0 then
         gd [GK h1 u0 6] (
          gd [GK h1 (m_rd h1 u0 0) 9] (bd (FX9_takeWord (m_rd h1 u0 0) (-28) h1) (fun x4 h3 =>
           (if x4 = 0 then
            FX6_takeTest_L17 RT RF u0 u1 K0 K1 K2 f v2 0 (m_w32 (v4 + 1)) h3
           else
            jn (fun (h6 : MH) =>
             gd [GK h6 u0 6] (bd (RF u0 u1 h6) (fun x8 h7 =>
              (if x8 = 0 then
               K1 h7
              else
               FX6_takeTest_L17 RT RF u0 u1 K0 K1 K2 f 1 v3 (m_w32 (v4 + 1)) h7)))) (fun j5 =>
             (if v2 = 0 then
              j5 h3
             else
              gd [GK h3 u0 6] (bd (FX6_put u0 (-31) h3) (fun x10 h9 =>
               j5 h9))))))))
        else
         gd [GK h1 u0 6] (bd (RF u0 u1 h1) (fun x12 h11 =>
          (if x12 = 0 then
           K0 h11
          else
           gd [GK h11 u0 6] (bd (FX6_put u0 (-30) h11) (fun x14 h13 =>
            FX6_takeTest_L17 RT RF u0 u1 K0 K1 K2 f v2 v3 (m_w32 (v4 + 1)) h13))))))))))
    else
     K2 v2 h)
theorem CX6_takeTest_L17 {d : Nat} {RT : Int → Int → MH → Option (Int × MH)} {RF : Int → Int → MH → Option (Int × MH)} {u0 : Int} {u1 : Int} {K0 : MH → Option (Int × MH)} {K1 : MH → Option (Int × MH)} {K2 : Int → MH → Option (Int × MH)} {r : Int × MH} (hR_RT : ∀ (t a1 : Int) (h : MH) (r : Int × MH), RT t a1 h = some r → RN xs L iX6_takeTest (d + 8) 0 (lvE 0 [.inr (.inr t), .inl a1]) [] h (RIo r)) (hR_RF : ∀ (t a1 : Int) (h : MH) (r : Int × MH), RF t a1 h = some r → RN xs L iX6_takeFact (d + 8) 0 (lvE 0 [.inr (.inr t), .inl a1]) [] h (RIo r)) (hK0 : ∀ (h : MH), K0 h = some r → RN xs L iX6_takeTest (d + 9) 49 [] [] h (RIo r)) (hK1 : ∀ (h : MH), K1 h = some r → RN xs L iX6_takeTest (d + 9) 94 [] [] h (RIo r)) (hK2 : ∀ (w2 : Int) (h : MH), K2 w2 h = some r → RN xs L iX6_takeTest (d + 9) 104 [(0, .inr (.inr u0)), (2, .inl w2)] [] h (RIo r)) : ∀ (f : Nat) (v2 : Int) (v3 : Int) (v4 : Int) (h : MH), FX6_takeTest_L17 RT RF u0 u1 K0 K1 K2 f v2 v3 v4 h = some r → RN xs L iX6_takeTest (d + 9) 17 [(0, .inr (.inr u0)), (1, .inl u1), (2, .inl v2), (3, .inl v3), (4, .inl v4)] [] h (RIo r) := by
  intro f
  induction f with
  | zero =>
    intro v2 v3 v4 h hF
    cases hF
  | succ f ih =>
    intro v2 v3 v4 h hF
    unfold FX6_takeTest_L17 at hF
    refine RN.blk (ops := [(17, .iload 4), (19, .sipush 400)]) (pc' := 22) (lv' := [(0, .inr (.inr u0)), (1, .inl u1), (2, .inl v2), (3, .inl v3), (4, .inl v4)]) (st' := [.inl 400, .inl v4]) (h' := h) (cs := []) (by decide +kernel) rfl trivial ?_
    rcases it_of hF with ⟨hb, hF⟩ | ⟨hb, hF⟩
    · refine RN.icf (cd := .ge) (off := 82) (tgt := 104) (by decide +kernel) (mif_gen hb) ?_
      refine RN.blk (ops := [(25, .iload_n 3)]) (pc' := 26) (lv' := [(0, .inr (.inr u0)), (1, .inl u1), (2, .inl v2), (3, .inl v3), (4, .inl v4)]) (st' := [.inl v3]) (h' := h) (cs := []) (by decide +kernel) rfl trivial ?_
      rcases it_of hF with ⟨hb, hF⟩ | ⟨hb, hF⟩
      · refine RN.ift (cd := .eq) (off := 78) (tgt := 104) (by decide +kernel) (mif_eq hb) ?_
        exact RN.sub (hK2 _ _ hF) (sub_cons rfl (sub_cons rfl sub_nil))
      · refine RN.iff (cd := .eq) (off := 78) (tgt := 104) (by decide +kernel) (mif_eqn hb) ?_
        obtain ⟨hc, hF⟩ := gd_of hF
        refine RN.blk (ops := [(29, .aload_n 0), (30, .getfield 21), (33, .ldc 76)]) (pc' := 35) (lv' := [(0, .inr (.inr u0)), (1, .inl u1), (2, .inl v2), (3, .inl v3), (4, .inl v4)]) (st' := [.inr (.inr (-27)), .inr (.inr (m_rd h u0 0))]) (h' := h) (cs := [GK h u0 6]) (by decide +kernel) rfl hc ?_
        obtain ⟨hc, hF⟩ := gd_of hF
        obtain ⟨x2, h1, hG, hF⟩ := bd_of hF
        refine RN.cv (i := 49) (k := 95) (q2 := iX9_takeWord) (as := [.inr (.inr (m_rd h u0 0)), .inr (.inr (-27))]) (r := []) (v := some (.inl x2)) (h1 := h1) (by decide +kernel) rfl rfl rfl rfl rfl (rcv_ok hc.1) (CX9_takeWord (d := d + 2) hG) ?_
        rcases it_of hF with ⟨hb, hF⟩ | ⟨hb, hF⟩
        · refine RN.ift (cd := .eq) (off := 23) (tgt := 61) (by decide +kernel) (mif_eq hb) ?_
          obtain ⟨hc, hF⟩ := gd_of hF
          refine RN.blk (ops := [(61, .aload_n 0), (62, .getfield 21), (65, .ldc 81)]) (pc' := 67) (lv' := [(0, .inr (.inr u0)), (1, .inl u1), (2, .inl v2), (3, .inl v3), (4, .inl v4)]) (st' := [.inr (.inr (-28)), .inr (.inr (m_rd h1 u0 0))]) (h' := h1) (cs := [GK h1 u0 6]) (by decide +kernel) rfl hc ?_
          obtain ⟨hc, hF⟩ := gd_of hF
          obtain ⟨x4, h3, hG, hF⟩ := bd_of hF
          refine RN.cv (i := 49) (k := 95) (q2 := iX9_takeWord) (as := [.inr (.inr (m_rd h1 u0 0)), .inr (.inr (-28))]) (r := []) (v := some (.inl x4)) (h1 := h3) (by decide +kernel) rfl rfl rfl rfl rfl (rcv_ok hc.1) (CX9_takeWord (d := d + 2) hG) ?_
          rcases it_of hF with ⟨hb, hF⟩ | ⟨hb, hF⟩
          · refine RN.ift (cd := .eq) (off := 26) (tgt := 96) (by decide +kernel) (mif_eq hb) ?_
            refine RN.blk (ops := [(96, .iconst 0), (97, .istore_n 3)]) (pc' := 98) (lv' := [(3, .inl 0), (0, .inr (.inr u0)), (1, .inl u1), (2, .inl v2), (4, .inl v4)]) (st' := []) (h' := h3) (cs := []) (by decide +kernel) rfl trivial ?_
            refine RN.blk (ops := [(98, .iinc 4 1)]) (pc' := 101) (lv' := [(4, .inl (m_w32 (v4 + 1))), (3, .inl 0), (0, .inr (.inr u0)), (1, .inl u1), (2, .inl v2)]) (st' := []) (h' := h3) (cs := []) (by decide +kernel) rfl trivial ?_
            refine RN.goto (off := -84) (tgt := 17) (by decide +kernel) ?_
            exact RN.sub (ih _ _ _ _ hF) (sub_cons rfl (sub_cons rfl (sub_cons rfl (sub_cons rfl (sub_cons rfl sub_nil)))))
          · refine RN.iff (cd := .eq) (off := 26) (tgt := 96) (by decide +kernel) (mif_eqn hb) ?_
            refine RN.blk (ops := [(73, .iload_n 2)]) (pc' := 74) (lv' := [(0, .inr (.inr u0)), (1, .inl u1), (2, .inl v2), (3, .inl v3), (4, .inl v4)]) (st' := [.inl v2]) (h' := h3) (cs := []) (by decide +kernel) rfl trivial ?_
            refine jn_use (fun j5 => ∀ (h6 : MH), j5 h6 = some r → RN xs L iX6_takeTest (d + 9) 84 [(0, .inr (.inr u0)), (1, .inl u1), (3, .inl v3), (4, .inl v4)] [] h6 (RIo r)) ?_ ?_ hF
            · intro h6 hF
              refine RN.blk (ops := [(84, .iconst 1), (85, .istore_n 2), (86, .aload_n 0), (87, .iload_n 1)]) (pc' := 88) (lv' := [(2, .inl 1), (0, .inr (.inr u0)), (1, .inl u1), (3, .inl v3), (4, .inl v4)]) (st' := [.inl u1, .inr (.inr u0)]) (h' := h6) (cs := []) (by decide +kernel) rfl trivial ?_
              obtain ⟨hc, hF⟩ := gd_of hF
              obtain ⟨x8, h7, hG, hF⟩ := bd_of hF
              refine RN.cv (i := 73) (k := 58) (q2 := iX6_takeFact) (as := [.inr (.inr u0), .inl u1]) (r := []) (v := some (.inl x8)) (h1 := h7) (by decide +kernel) rfl rfl rfl rfl rfl (rcv_ok hc.1) (hR_RF _ _ _ _ hG) ?_
              rcases it_of hF with ⟨hb, hF⟩ | ⟨hb, hF⟩
              · refine RN.iff (cd := .ne) (off := 7) (tgt := 98) (by decide +kernel) (mif_nen hb) ?_
                exact RN.sub (hK1 _ hF) sub_nil
              · refine RN.ift (cd := .ne) (off := 7) (tgt := 98) (by decide +kernel) (mif_ne hb) ?_
                refine RN.blk (ops := [(98, .iinc 4 1)]) (pc' := 101) (lv' := [(4, .inl (m_w32 (v4 + 1))), (2, .inl 1), (0, .inr (.inr u0)), (1, .inl u1), (3, .inl v3)]) (st' := []) (h' := h7) (cs := []) (by decide +kernel) rfl trivial ?_
                refine RN.goto (off := -84) (tgt := 17) (by decide +kernel) ?_
                exact RN.sub (ih _ _ _ _ hF) (sub_cons rfl (sub_cons rfl (sub_cons rfl (sub_cons rfl (sub_cons rfl sub_nil)))))
            · intro j5 Jj5 hF
              rcases it_of hF with ⟨hb, hF⟩ | ⟨hb, hF⟩
              · refine RN.ift (cd := .eq) (off := 10) (tgt := 84) (by decide +kernel) (mif_eq hb) ?_
                exact RN.sub (Jj5 _ hF) (sub_cons rfl (sub_cons rfl (sub_cons rfl (sub_cons rfl sub_nil))))
              · refine RN.iff (cd := .eq) (off := 10) (tgt := 84) (by decide +kernel) (mif_eqn hb) ?_
                refine RN.blk (ops := [(77, .aload_n 0), (78, .bipush (-31))]) (pc' := 80) (lv' := [(0, .inr (.inr u0)), (1, .inl u1), (2, .inl v2), (3, .inl v3), (4, .inl v4)]) (st' := [.inl (-31), .inr (.inr u0)]) (h' := h3) (cs := []) (by decide +kernel) rfl trivial ?_
                obtain ⟨hc, hF⟩ := gd_of hF
                obtain ⟨x10, h9, hG, hF⟩ := bd_of hF
                refine RN.cv (i := 78) (k := 63) (q2 := iX6_put) (as := [.inr (.inr u0), .inl (-31)]) (r := []) (v := some (.inl x10)) (h1 := h9) (by decide +kernel) rfl rfl rfl rfl rfl (rcv_ok hc.1) (CX6_put (d := d + 8) hG) ?_
                refine RN.blk (ops := [(83, .pop)]) (pc' := 84) (lv' := [(0, .inr (.inr u0)), (1, .inl u1), (2, .inl v2), (3, .inl v3), (4, .inl v4)]) (st' := []) (h' := h9) (cs := []) (by decide +kernel) rfl trivial ?_
                exact RN.sub (Jj5 _ hF) (sub_cons rfl (sub_cons rfl (sub_cons rfl (sub_cons rfl sub_nil))))
        · refine RN.iff (cd := .eq) (off := 23) (tgt := 61) (by decide +kernel) (mif_eqn hb) ?_
          refine RN.blk (ops := [(41, .aload_n 0), (42, .iload_n 1)]) (pc' := 43) (lv' := [(0, .inr (.inr u0)), (1, .inl u1), (2, .inl v2), (3, .inl v3), (4, .inl v4)]) (st' := [.inl u1, .inr (.inr u0)]) (h' := h1) (cs := []) (by decide +kernel) rfl trivial ?_
          obtain ⟨hc, hF⟩ := gd_of hF
          obtain ⟨x12, h11, hG, hF⟩ := bd_of hF
          refine RN.cv (i := 73) (k := 58) (q2 := iX6_takeFact) (as := [.inr (.inr u0), .inl u1]) (r := []) (v := some (.inl x12)) (h1 := h11) (by decide +kernel) rfl rfl rfl rfl rfl (rcv_ok hc.1) (hR_RF _ _ _ _ hG) ?_
          rcases it_of hF with ⟨hb, hF⟩ | ⟨hb, hF⟩
          · refine RN.iff (cd := .ne) (off := 5) (tgt := 51) (by decide +kernel) (mif_nen hb) ?_
            exact RN.sub (hK0 _ hF) sub_nil
          · refine RN.ift (cd := .ne) (off := 5) (tgt := 51) (by decide +kernel) (mif_ne hb) ?_
            refine RN.blk (ops := [(51, .aload_n 0), (52, .bipush (-30))]) (pc' := 54) (lv' := [(0, .inr (.inr u0)), (1, .inl u1), (2, .inl v2), (3, .inl v3), (4, .inl v4)]) (st' := [.inl (-30), .inr (.inr u0)]) (h' := h11) (cs := []) (by decide +kernel) rfl trivial ?_
            obtain ⟨hc, hF⟩ := gd_of hF
            obtain ⟨x14, h13, hG, hF⟩ := bd_of hF
            refine RN.cv (i := 78) (k := 63) (q2 := iX6_put) (as := [.inr (.inr u0), .inl (-30)]) (r := []) (v := some (.inl x14)) (h1 := h13) (by decide +kernel) rfl rfl rfl rfl rfl (rcv_ok hc.1) (CX6_put (d := d + 8) hG) ?_
            refine RN.blk (ops := [(57, .pop)]) (pc' := 58) (lv' := [(0, .inr (.inr u0)), (1, .inl u1), (2, .inl v2), (3, .inl v3), (4, .inl v4)]) (st' := []) (h' := h13) (cs := []) (by decide +kernel) rfl trivial ?_
            refine RN.goto (off := 40) (tgt := 98) (by decide +kernel) ?_
            refine RN.blk (ops := [(98, .iinc 4 1)]) (pc' := 101) (lv' := [(4, .inl (m_w32 (v4 + 1))), (0, .inr (.inr u0)), (1, .inl u1), (2, .inl v2), (3, .inl v3)]) (st' := []) (h' := h13) (cs := []) (by decide +kernel) rfl trivial ?_
            refine RN.goto (off := -84) (tgt := 17) (by decide +kernel) ?_
            exact RN.sub (ih _ _ _ _ hF) (sub_cons rfl (sub_cons rfl (sub_cons rfl (sub_cons rfl (sub_cons rfl sub_nil)))))
    · refine RN.ict (cd := .ge) (off := 82) (tgt := 104) (by decide +kernel) (mif_ge hb) ?_
      exact RN.sub (hK2 _ _ hF) (sub_cons rfl (sub_cons rfl sub_nil))
noncomputable def FX6_takeTest_b (RT : Int → Int → MH → Option (Int × MH)) (RF : Int → Int → MH → Option (Int × MH)) (t : Int) (a1 : Int) (h : MH) : Option (Int × MH) :=
  gd [GK h t 6] (bd (RF t a1 h) (fun x2 h1 =>
   (if x2 = 0 then
    some (0, h1)
   else
    FX6_takeTest_L17 RT RF t a1 (fun h3 =>
     some (0, h3)) (fun h4 =>
     some (0, h4)) (fun w5 h6 =>
     (if w5 = 0 then
      some (1, h6)
     else
      gd [GK h6 t 6] (bd (FX6_put t (-31) h6) (fun x8 h7 =>
       some (1, h7))))) FU 0 1 0 h1)))
theorem CX6_takeTest_b {d : Nat} {RT : Int → Int → MH → Option (Int × MH)} {RF : Int → Int → MH → Option (Int × MH)} {t : Int} {a1 : Int} {h : MH} {r : Int × MH} (hR_RT : ∀ (t a1 : Int) (h : MH) (r : Int × MH), RT t a1 h = some r → RN xs L iX6_takeTest (d + 8) 0 (lvE 0 [.inr (.inr t), .inl a1]) [] h (RIo r)) (hR_RF : ∀ (t a1 : Int) (h : MH) (r : Int × MH), RF t a1 h = some r → RN xs L iX6_takeFact (d + 8) 0 (lvE 0 [.inr (.inr t), .inl a1]) [] h (RIo r)) (hF : FX6_takeTest_b RT RF t a1 h = some r) : RN xs L iX6_takeTest (d + 9) 0 (lvE 0 [.inr (.inr t), .inl a1]) [] h (RIo r) := by
  unfold FX6_takeTest_b at hF
  refine RN.blk (ops := [(0, .aload_n 0), (1, .iload_n 1)]) (pc' := 2) (lv' := [(0, .inr (.inr t)), (1, .inl a1)]) (st' := [.inl a1, .inr (.inr t)]) (h' := h) (cs := []) (by decide +kernel) rfl trivial ?_
  obtain ⟨hc, hF⟩ := gd_of hF
  obtain ⟨x2, h1, hG, hF⟩ := bd_of hF
  refine RN.cv (i := 73) (k := 58) (q2 := iX6_takeFact) (as := [.inr (.inr t), .inl a1]) (r := []) (v := some (.inl x2)) (h1 := h1) (by decide +kernel) rfl rfl rfl rfl rfl (rcv_ok hc.1) (hR_RF _ _ _ _ hG) ?_
  rcases it_of hF with ⟨hb, hF⟩ | ⟨hb, hF⟩
  · refine RN.iff (cd := .ne) (off := 5) (tgt := 10) (by decide +kernel) (mif_nen hb) ?_
    refine RN.blk (ops := [(8, .iconst 0)]) (pc' := 9) (lv' := [(0, .inr (.inr t)), (1, .inl a1)]) (st' := [.inl 0]) (h' := h1) (cs := []) (by decide +kernel) rfl trivial ?_
    exact RN.zR (by decide +kernel) rfl (Or.inl rfl) hF
  · refine RN.ift (cd := .ne) (off := 5) (tgt := 10) (by decide +kernel) (mif_ne hb) ?_
    refine RN.blk (ops := [(10, .iconst 0), (11, .istore_n 2), (12, .iconst 1), (13, .istore_n 3), (14, .iconst 0), (15, .istore 4)]) (pc' := 17) (lv' := [(4, .inl 0), (3, .inl 1), (2, .inl 0), (0, .inr (.inr t)), (1, .inl a1)]) (st' := []) (h' := h1) (cs := []) (by decide +kernel) rfl trivial ?_
    refine RN.sub (CX6_takeTest_L17 hR_RT hR_RF ?_ ?_ ?_ _ _ _ _ _ hF) (sub_cons rfl (sub_cons rfl (sub_cons rfl (sub_cons rfl (sub_cons rfl sub_nil)))))
    · intro h3 hF
      refine RN.blk (ops := [(49, .iconst 0)]) (pc' := 50) (lv' := []) (st' := [.inl 0]) (h' := h3) (cs := []) (by decide +kernel) rfl trivial ?_
      exact RN.zR (by decide +kernel) rfl (Or.inl rfl) hF
    · intro h4 hF
      refine RN.blk (ops := [(94, .iconst 0)]) (pc' := 95) (lv' := []) (st' := [.inl 0]) (h' := h4) (cs := []) (by decide +kernel) rfl trivial ?_
      exact RN.zR (by decide +kernel) rfl (Or.inl rfl) hF
    · intro w5 h6 hF
      refine RN.blk (ops := [(104, .iload_n 2)]) (pc' := 105) (lv' := [(0, .inr (.inr t)), (2, .inl w5)]) (st' := [.inl w5]) (h' := h6) (cs := []) (by decide +kernel) rfl trivial ?_
      rcases it_of hF with ⟨hb, hF⟩ | ⟨hb, hF⟩
      · refine RN.ift (cd := .eq) (off := 10) (tgt := 115) (by decide +kernel) (mif_eq hb) ?_
        refine RN.blk (ops := [(115, .iconst 1)]) (pc' := 116) (lv' := [(0, .inr (.inr t)), (2, .inl w5)]) (st' := [.inl 1]) (h' := h6) (cs := []) (by decide +kernel) rfl trivial ?_
        exact RN.zR (by decide +kernel) rfl (Or.inr rfl) hF
      · refine RN.iff (cd := .eq) (off := 10) (tgt := 115) (by decide +kernel) (mif_eqn hb) ?_
        refine RN.blk (ops := [(108, .aload_n 0), (109, .bipush (-31))]) (pc' := 111) (lv' := [(0, .inr (.inr t)), (2, .inl w5)]) (st' := [.inl (-31), .inr (.inr t)]) (h' := h6) (cs := []) (by decide +kernel) rfl trivial ?_
        obtain ⟨hc, hF⟩ := gd_of hF
        obtain ⟨x8, h7, hG, hF⟩ := bd_of hF
        refine RN.cv (i := 78) (k := 63) (q2 := iX6_put) (as := [.inr (.inr t), .inl (-31)]) (r := []) (v := some (.inl x8)) (h1 := h7) (by decide +kernel) rfl rfl rfl rfl rfl (rcv_ok hc.1) (CX6_put (d := d + 8) hG) ?_
        refine RN.blk (ops := [(114, .pop)]) (pc' := 115) (lv' := [(0, .inr (.inr t)), (2, .inl w5)]) (st' := []) (h' := h7) (cs := []) (by decide +kernel) rfl trivial ?_
        refine RN.blk (ops := [(115, .iconst 1)]) (pc' := 116) (lv' := [(0, .inr (.inr t)), (2, .inl w5)]) (st' := [.inl 1]) (h' := h7) (cs := []) (by decide +kernel) rfl trivial ?_
        exact RN.zR (by decide +kernel) rfl (Or.inr rfl) hF
noncomputable def FX6_takeFact_b (RT : Int → Int → MH → Option (Int × MH)) (RF : Int → Int → MH → Option (Int × MH)) (t : Int) (a1 : Int) (h : MH) : Option (Int × MH) :=
  gd [GK h t 6] (
   gd [GK h (m_rd h t 0) 9] (bd (FX9_next (m_rd h t 0) h) (fun x2 h1 =>
    gd [GK h1 t 6, GK h1 (m_rd h1 t 0) 9, GK h1 t 6] (
     gd [GK h1 (m_rd h1 t 0) 9] (bd (FX9_takeWord (m_rd h1 t 0) (-26) h1) (fun x4 h3 =>
      jn (
       (if a1 < 10 then
        (if x4 = 0 then
         gd [GK h3 t 6] (
          gd [GK h3 (m_rd h3 t 0) 9] (bd (FX9_takeByte (m_rd h3 t 0) 91 h3) (fun x7 h6 =>
           (if x7 = 0 then
            some (0, h6)
           else
            gd [GK h6 t 6] (bd (RT t (m_w32 (a1 + 1)) h6) (fun x9 h8 =>
             (if x9 = 0 then
              some (0, h8)
             else
              gd [GK h8 t 6] (
               gd [GK h8 (m_rd h8 t 0) 9] (bd (FX9_takeByte (m_rd h8 t 0) 93 h8) (fun x11 h10 =>
                (if x11 = 0 then
                 some (0, h10)
                else
                 some (1, h10))))))))))))
        else
         gd [GK h3 t 6] (bd (RF t (m_w32 (a1 + 1)) h3) (fun x13 h12 =>
          (if x13 = 0 then
           some (0, h12)
          else
           gd [GK h12 t 6] (bd (FX6_put t (-32) h12) (fun x15 h14 =>
            (if x15 = 0 then
             some (0, h14)
            else
             some (1, h14))))))))
       else
        gd [GK h3 t 6] (
         gd [GK h3 (m_rd h3 t 0) 9] (bd (FX9_fail (m_rd h3 t 0) (m_rd h1 (m_rd h1 t 0) 2) 2 h3) (fun x17 h16 =>
          gd [GT x17] (some (x17, h16))))))) (fun j5 =>
       (if x4 = 0 then
        (if x2 = 91 then
         j5
        else
         gd [GK h3 t 6] (bd (FX6_takeSum t h3) (fun x19 h18 =>
          (if x19 = 0 then
           some (0, h18)
          else
           gd [GK h18 t 6] (bd (FX6_takeComparison t h18) (fun x21 h20 =>
            (if x21 = (-99) then
             some (0, h20)
            else
             gd [GK h20 t 6] (bd (FX6_takeSum t h20) (fun x23 h22 =>
              (if x23 = 0 then
               some (0, h22)
              else
               gd [GK h22 t 6] (bd (FX6_put t x21 h22) (fun x25 h24 =>
                (if x25 = 0 then
                 some (0, h24)
                else
                 some (1, h24))))))))))))))
       else
        j5))))))))
theorem CX6_takeFact_b {d : Nat} {RT : Int → Int → MH → Option (Int × MH)} {RF : Int → Int → MH → Option (Int × MH)} {t : Int} {a1 : Int} {h : MH} {r : Int × MH} (hR_RT : ∀ (t a1 : Int) (h : MH) (r : Int × MH), RT t a1 h = some r → RN xs L iX6_takeTest (d + 8) 0 (lvE 0 [.inr (.inr t), .inl a1]) [] h (RIo r)) (hR_RF : ∀ (t a1 : Int) (h : MH) (r : Int × MH), RF t a1 h = some r → RN xs L iX6_takeFact (d + 8) 0 (lvE 0 [.inr (.inr t), .inl a1]) [] h (RIo r)) (hF : FX6_takeFact_b RT RF t a1 h = some r) : RN xs L iX6_takeFact (d + 9) 0 (lvE 0 [.inr (.inr t), .inl a1]) [] h (RIo r) := by
  unfold FX6_takeFact_b at hF
  obtain ⟨hc, hF⟩ := gd_of hF
  refine RN.blk (ops := [(0, .aload_n 0), (1, .getfield 21)]) (pc' := 4) (lv' := [(0, .inr (.inr t)), (1, .inl a1)]) (st' := [.inr (.inr (m_rd h t 0))]) (h' := h) (cs := [GK h t 6]) (by decide +kernel) rfl hc ?_
  obtain ⟨hc, hF⟩ := gd_of hF
  obtain ⟨x2, h1, hG, hF⟩ := bd_of hF
  refine RN.cv (i := 40) (k := 93) (q2 := iX9_next) (as := [.inr (.inr (m_rd h t 0))]) (r := []) (v := some (.inl x2)) (h1 := h1) (by decide +kernel) rfl rfl rfl rfl rfl (rcv_ok hc.1) (CX9_next (d := d + 8) hG) ?_
  obtain ⟨hc, hF⟩ := gd_of hF
  refine RN.blk (ops := [(7, .istore_n 2), (8, .aload_n 0), (9, .getfield 21), (12, .getfield 44), (15, .istore_n 3), (16, .aload_n 0), (17, .getfield 21), (20, .ldc 83)]) (pc' := 22) (lv' := [(3, .inl (m_rd h1 (m_rd h1 t 0) 2)), (2, .inl x2), (0, .inr (.inr t)), (1, .inl a1)]) (st' := [.inr (.inr (-26)), .inr (.inr (m_rd h1 t 0))]) (h' := h1) (cs := [GK h1 t 6, GK h1 (m_rd h1 t 0) 9, GK h1 t 6]) (by decide +kernel) rfl hc ?_
  obtain ⟨hc, hF⟩ := gd_of hF
  obtain ⟨x4, h3, hG, hF⟩ := bd_of hF
  refine RN.cv (i := 49) (k := 95) (q2 := iX9_takeWord) (as := [.inr (.inr (m_rd h1 t 0)), .inr (.inr (-26))]) (r := []) (v := some (.inl x4)) (h1 := h3) (by decide +kernel) rfl rfl rfl rfl rfl (rcv_ok hc.1) (CX9_takeWord (d := d + 2) hG) ?_
  refine RN.blk (ops := [(25, .istore 4), (27, .iload 4)]) (pc' := 29) (lv' := [(4, .inl x4), (3, .inl (m_rd h1 (m_rd h1 t 0) 2)), (2, .inl x2), (0, .inr (.inr t)), (1, .inl a1)]) (st' := [.inl x4]) (h' := h3) (cs := []) (by decide +kernel) rfl trivial ?_
  refine jn_use (fun j5 => j5 = some r → RN xs L iX6_takeFact (d + 9) 38 [(0, .inr (.inr t)), (1, .inl a1), (3, .inl (m_rd h1 (m_rd h1 t 0) 2)), (4, .inl x4)] [] h3 (RIo r)) ?_ ?_ hF
  · intro  hF
    refine RN.blk (ops := [(38, .iload_n 1), (39, .bipush 10)]) (pc' := 41) (lv' := [(0, .inr (.inr t)), (1, .inl a1), (3, .inl (m_rd h1 (m_rd h1 t 0) 2)), (4, .inl x4)]) (st' := [.inl 10, .inl a1]) (h' := h3) (cs := []) (by decide +kernel) rfl trivial ?_
    rcases it_of hF with ⟨hb, hF⟩ | ⟨hb, hF⟩
    · refine RN.ict (cd := .lt) (off := 13) (tgt := 54) (by decide +kernel) (mif_lt hb) ?_
      refine RN.blk (ops := [(54, .iload 4)]) (pc' := 56) (lv' := [(0, .inr (.inr t)), (1, .inl a1), (3, .inl (m_rd h1 (m_rd h1 t 0) 2)), (4, .inl x4)]) (st' := [.inl x4]) (h' := h3) (cs := []) (by decide +kernel) rfl trivial ?_
      rcases it_of hF with ⟨hb, hF⟩ | ⟨hb, hF⟩
      · refine RN.ift (cd := .eq) (off := 28) (tgt := 84) (by decide +kernel) (mif_eq hb) ?_
        obtain ⟨hc, hF⟩ := gd_of hF
        refine RN.blk (ops := [(84, .aload_n 0), (85, .getfield 21), (88, .bipush 91)]) (pc' := 90) (lv' := [(0, .inr (.inr t)), (1, .inl a1), (3, .inl (m_rd h1 (m_rd h1 t 0) 2)), (4, .inl x4)]) (st' := [.inl 91, .inr (.inr (m_rd h3 t 0))]) (h' := h3) (cs := [GK h3 t 6]) (by decide +kernel) rfl hc ?_
        obtain ⟨hc, hF⟩ := gd_of hF
        obtain ⟨x7, h6, hG, hF⟩ := bd_of hF
        refine RN.cv (i := 85) (k := 94) (q2 := iX9_takeByte) (as := [.inr (.inr (m_rd h3 t 0)), .inl 91]) (r := []) (v := some (.inl x7)) (h1 := h6) (by decide +kernel) rfl rfl rfl rfl rfl (rcv_ok hc.1) (CX9_takeByte (d := d + 7) hG) ?_
        rcases it_of hF with ⟨hb, hF⟩ | ⟨hb, hF⟩
        · refine RN.ift (cd := .eq) (off := 29) (tgt := 122) (by decide +kernel) (mif_eq hb) ?_
          refine RN.blk (ops := [(122, .iconst 0)]) (pc' := 123) (lv' := [(0, .inr (.inr t)), (1, .inl a1), (3, .inl (m_rd h1 (m_rd h1 t 0) 2)), (4, .inl x4)]) (st' := [.inl 0]) (h' := h6) (cs := []) (by decide +kernel) rfl trivial ?_
          exact RN.zR (by decide +kernel) rfl (Or.inl rfl) hF
        · refine RN.iff (cd := .eq) (off := 29) (tgt := 122) (by decide +kernel) (mif_eqn hb) ?_
          refine RN.blk (ops := [(96, .aload_n 0), (97, .iload_n 1), (98, .iconst 1), (99, .iadd)]) (pc' := 100) (lv' := [(0, .inr (.inr t)), (1, .inl a1), (3, .inl (m_rd h1 (m_rd h1 t 0) 2)), (4, .inl x4)]) (st' := [.inl (m_w32 (a1 + 1)), .inr (.inr t)]) (h' := h6) (cs := []) (by decide +kernel) rfl trivial ?_
          obtain ⟨hc, hF⟩ := gd_of hF
          obtain ⟨x9, h8, hG, hF⟩ := bd_of hF
          refine RN.cv (i := 63) (k := 57) (q2 := iX6_takeTest) (as := [.inr (.inr t), .inl (m_w32 (a1 + 1))]) (r := []) (v := some (.inl x9)) (h1 := h8) (by decide +kernel) rfl rfl rfl rfl rfl (rcv_ok hc.1) (hR_RT _ _ _ _ hG) ?_
          rcases it_of hF with ⟨hb, hF⟩ | ⟨hb, hF⟩
          · refine RN.ift (cd := .eq) (off := 19) (tgt := 122) (by decide +kernel) (mif_eq hb) ?_
            refine RN.blk (ops := [(122, .iconst 0)]) (pc' := 123) (lv' := [(0, .inr (.inr t)), (1, .inl a1), (3, .inl (m_rd h1 (m_rd h1 t 0) 2)), (4, .inl x4)]) (st' := [.inl 0]) (h' := h8) (cs := []) (by decide +kernel) rfl trivial ?_
            exact RN.zR (by decide +kernel) rfl (Or.inl rfl) hF
          · refine RN.iff (cd := .eq) (off := 19) (tgt := 122) (by decide +kernel) (mif_eqn hb) ?_
            obtain ⟨hc, hF⟩ := gd_of hF
            refine RN.blk (ops := [(106, .aload_n 0), (107, .getfield 21), (110, .bipush 93)]) (pc' := 112) (lv' := [(0, .inr (.inr t)), (1, .inl a1), (3, .inl (m_rd h1 (m_rd h1 t 0) 2)), (4, .inl x4)]) (st' := [.inl 93, .inr (.inr (m_rd h8 t 0))]) (h' := h8) (cs := [GK h8 t 6]) (by decide +kernel) rfl hc ?_
            obtain ⟨hc, hF⟩ := gd_of hF
            obtain ⟨x11, h10, hG, hF⟩ := bd_of hF
            refine RN.cv (i := 85) (k := 94) (q2 := iX9_takeByte) (as := [.inr (.inr (m_rd h8 t 0)), .inl 93]) (r := []) (v := some (.inl x11)) (h1 := h10) (by decide +kernel) rfl rfl rfl rfl rfl (rcv_ok hc.1) (CX9_takeByte (d := d + 7) hG) ?_
            rcases it_of hF with ⟨hb, hF⟩ | ⟨hb, hF⟩
            · refine RN.ift (cd := .eq) (off := 7) (tgt := 122) (by decide +kernel) (mif_eq hb) ?_
              refine RN.blk (ops := [(122, .iconst 0)]) (pc' := 123) (lv' := [(0, .inr (.inr t)), (1, .inl a1), (3, .inl (m_rd h1 (m_rd h1 t 0) 2)), (4, .inl x4)]) (st' := [.inl 0]) (h' := h10) (cs := []) (by decide +kernel) rfl trivial ?_
              exact RN.zR (by decide +kernel) rfl (Or.inl rfl) hF
            · refine RN.iff (cd := .eq) (off := 7) (tgt := 122) (by decide +kernel) (mif_eqn hb) ?_
              refine RN.blk (ops := [(118, .iconst 1)]) (pc' := 119) (lv' := [(0, .inr (.inr t)), (1, .inl a1), (3, .inl (m_rd h1 (m_rd h1 t 0) 2)), (4, .inl x4)]) (st' := [.inl 1]) (h' := h10) (cs := []) (by decide +kernel) rfl trivial ?_
              refine RN.goto (off := 4) (tgt := 123) (by decide +kernel) ?_
              exact RN.zR (by decide +kernel) rfl (Or.inr rfl) hF
      · refine RN.iff (cd := .eq) (off := 28) (tgt := 84) (by decide +kernel) (mif_eqn hb) ?_
        refine RN.blk (ops := [(59, .aload_n 0), (60, .iload_n 1), (61, .iconst 1), (62, .iadd)]) (pc' := 63) (lv' := [(0, .inr (.inr t)), (1, .inl a1), (3, .inl (m_rd h1 (m_rd h1 t 0) 2)), (4, .inl x4)]) (st' := [.inl (m_w32 (a1 + 1)), .inr (.inr t)]) (h' := h3) (cs := []) (by decide +kernel) rfl trivial ?_
        obtain ⟨hc, hF⟩ := gd_of hF
        obtain ⟨x13, h12, hG, hF⟩ := bd_of hF
        refine RN.cv (i := 73) (k := 58) (q2 := iX6_takeFact) (as := [.inr (.inr t), .inl (m_w32 (a1 + 1))]) (r := []) (v := some (.inl x13)) (h1 := h12) (by decide +kernel) rfl rfl rfl rfl rfl (rcv_ok hc.1) (hR_RF _ _ _ _ hG) ?_
        rcases it_of hF with ⟨hb, hF⟩ | ⟨hb, hF⟩
        · refine RN.ift (cd := .eq) (off := 16) (tgt := 82) (by decide +kernel) (mif_eq hb) ?_
          refine RN.blk (ops := [(82, .iconst 0)]) (pc' := 83) (lv' := [(0, .inr (.inr t)), (1, .inl a1), (3, .inl (m_rd h1 (m_rd h1 t 0) 2)), (4, .inl x4)]) (st' := [.inl 0]) (h' := h12) (cs := []) (by decide +kernel) rfl trivial ?_
          exact RN.zR (by decide +kernel) rfl (Or.inl rfl) hF
        · refine RN.iff (cd := .eq) (off := 16) (tgt := 82) (by decide +kernel) (mif_eqn hb) ?_
          refine RN.blk (ops := [(69, .aload_n 0), (70, .bipush (-32))]) (pc' := 72) (lv' := [(0, .inr (.inr t)), (1, .inl a1), (3, .inl (m_rd h1 (m_rd h1 t 0) 2)), (4, .inl x4)]) (st' := [.inl (-32), .inr (.inr t)]) (h' := h12) (cs := []) (by decide +kernel) rfl trivial ?_
          obtain ⟨hc, hF⟩ := gd_of hF
          obtain ⟨x15, h14, hG, hF⟩ := bd_of hF
          refine RN.cv (i := 78) (k := 63) (q2 := iX6_put) (as := [.inr (.inr t), .inl (-32)]) (r := []) (v := some (.inl x15)) (h1 := h14) (by decide +kernel) rfl rfl rfl rfl rfl (rcv_ok hc.1) (CX6_put (d := d + 8) hG) ?_
          rcases it_of hF with ⟨hb, hF⟩ | ⟨hb, hF⟩
          · refine RN.ift (cd := .eq) (off := 7) (tgt := 82) (by decide +kernel) (mif_eq hb) ?_
            refine RN.blk (ops := [(82, .iconst 0)]) (pc' := 83) (lv' := [(0, .inr (.inr t)), (1, .inl a1), (3, .inl (m_rd h1 (m_rd h1 t 0) 2)), (4, .inl x4)]) (st' := [.inl 0]) (h' := h14) (cs := []) (by decide +kernel) rfl trivial ?_
            exact RN.zR (by decide +kernel) rfl (Or.inl rfl) hF
          · refine RN.iff (cd := .eq) (off := 7) (tgt := 82) (by decide +kernel) (mif_eqn hb) ?_
            refine RN.blk (ops := [(78, .iconst 1)]) (pc' := 79) (lv' := [(0, .inr (.inr t)), (1, .inl a1), (3, .inl (m_rd h1 (m_rd h1 t 0) 2)), (4, .inl x4)]) (st' := [.inl 1]) (h' := h14) (cs := []) (by decide +kernel) rfl trivial ?_
            refine RN.goto (off := 4) (tgt := 83) (by decide +kernel) ?_
            exact RN.zR (by decide +kernel) rfl (Or.inr rfl) hF
    · refine RN.icf (cd := .lt) (off := 13) (tgt := 54) (by decide +kernel) (mif_ltn hb) ?_
      obtain ⟨hc, hF⟩ := gd_of hF
      refine RN.blk (ops := [(44, .aload_n 0), (45, .getfield 21), (48, .iload_n 3), (49, .iconst 2)]) (pc' := 50) (lv' := [(0, .inr (.inr t)), (1, .inl a1), (3, .inl (m_rd h1 (m_rd h1 t 0) 2)), (4, .inl x4)]) (st' := [.inl 2, .inl (m_rd h1 (m_rd h1 t 0) 2), .inr (.inr (m_rd h3 t 0))]) (h' := h3) (cs := [GK h3 t 6]) (by decide +kernel) rfl hc ?_
      obtain ⟨hc, hF⟩ := gd_of hF
      obtain ⟨x17, h16, hG, hF⟩ := bd_of hF
      refine RN.cv (i := 53) (k := 91) (q2 := iX9_fail) (as := [.inr (.inr (m_rd h3 t 0)), .inl (m_rd h1 (m_rd h1 t 0) 2), .inl 2]) (r := []) (v := some (.inl x17)) (h1 := h16) (by decide +kernel) rfl rfl rfl rfl rfl (rcv_ok hc.1) (CX9_fail (d := d + 8) hG) ?_
      obtain ⟨hc, hF⟩ := gd_of hF
      exact RN.zR (by decide +kernel) rfl hc.1 hF
  · intro j5 Jj5 hF
    rcases it_of hF with ⟨hb, hF⟩ | ⟨hb, hF⟩
    · refine RN.iff (cd := .ne) (off := 9) (tgt := 38) (by decide +kernel) (mif_nen hb) ?_
      refine RN.blk (ops := [(32, .iload_n 2), (33, .bipush 91)]) (pc' := 35) (lv' := [(4, .inl x4), (3, .inl (m_rd h1 (m_rd h1 t 0) 2)), (2, .inl x2), (0, .inr (.inr t)), (1, .inl a1)]) (st' := [.inl 91, .inl x2]) (h' := h3) (cs := []) (by decide +kernel) rfl trivial ?_
      rcases it_of hF with ⟨hb, hF⟩ | ⟨hb, hF⟩
      · refine RN.icf (cd := .ne) (off := 89) (tgt := 124) (by decide +kernel) (mif_nen hb) ?_
        exact RN.sub (Jj5 hF) (sub_cons rfl (sub_cons rfl (sub_cons rfl (sub_cons rfl sub_nil))))
      · refine RN.ict (cd := .ne) (off := 89) (tgt := 124) (by decide +kernel) (mif_ne hb) ?_
        refine RN.blk (ops := [(124, .aload_n 0)]) (pc' := 125) (lv' := [(4, .inl x4), (3, .inl (m_rd h1 (m_rd h1 t 0) 2)), (2, .inl x2), (0, .inr (.inr t)), (1, .inl a1)]) (st' := [.inr (.inr t)]) (h' := h3) (cs := []) (by decide +kernel) rfl trivial ?_
        obtain ⟨hc, hF⟩ := gd_of hF
        obtain ⟨x19, h18, hG, hF⟩ := bd_of hF
        refine RN.cv (i := 57) (k := 60) (q2 := iX6_takeSum) (as := [.inr (.inr t)]) (r := []) (v := some (.inl x19)) (h1 := h18) (by decide +kernel) rfl rfl rfl rfl rfl (rcv_ok hc.1) (CX6_takeSum (d := d) hG) ?_
        rcases it_of hF with ⟨hb, hF⟩ | ⟨hb, hF⟩
        · refine RN.iff (cd := .ne) (off := 5) (tgt := 133) (by decide +kernel) (mif_nen hb) ?_
          refine RN.blk (ops := [(131, .iconst 0)]) (pc' := 132) (lv' := [(4, .inl x4), (3, .inl (m_rd h1 (m_rd h1 t 0) 2)), (2, .inl x2), (0, .inr (.inr t)), (1, .inl a1)]) (st' := [.inl 0]) (h' := h18) (cs := []) (by decide +kernel) rfl trivial ?_
          exact RN.zR (by decide +kernel) rfl (Or.inl rfl) hF
        · refine RN.ift (cd := .ne) (off := 5) (tgt := 133) (by decide +kernel) (mif_ne hb) ?_
          refine RN.blk (ops := [(133, .aload_n 0)]) (pc' := 134) (lv' := [(4, .inl x4), (3, .inl (m_rd h1 (m_rd h1 t 0) 2)), (2, .inl x2), (0, .inr (.inr t)), (1, .inl a1)]) (st' := [.inr (.inr t)]) (h' := h18) (cs := []) (by decide +kernel) rfl trivial ?_
          obtain ⟨hc, hF⟩ := gd_of hF
          obtain ⟨x21, h20, hG, hF⟩ := bd_of hF
          refine RN.cv (i := 88) (k := 59) (q2 := iX6_takeComparison) (as := [.inr (.inr t)]) (r := []) (v := some (.inl x21)) (h1 := h20) (by decide +kernel) rfl rfl rfl rfl rfl (rcv_ok hc.1) (CX6_takeComparison (d := d + 6) hG) ?_
          refine RN.blk (ops := [(137, .istore 5), (139, .iload 5), (141, .bipush (-99))]) (pc' := 143) (lv' := [(5, .inl x21), (4, .inl x4), (3, .inl (m_rd h1 (m_rd h1 t 0) 2)), (2, .inl x2), (0, .inr (.inr t)), (1, .inl a1)]) (st' := [.inl (-99), .inl x21]) (h' := h20) (cs := []) (by decide +kernel) rfl trivial ?_
          rcases it_of hF with ⟨hb, hF⟩ | ⟨hb, hF⟩
          · refine RN.ict (cd := .eq) (off := 23) (tgt := 166) (by decide +kernel) (mif_eq hb) ?_
            refine RN.blk (ops := [(166, .iconst 0)]) (pc' := 167) (lv' := [(5, .inl x21), (4, .inl x4), (3, .inl (m_rd h1 (m_rd h1 t 0) 2)), (2, .inl x2), (0, .inr (.inr t)), (1, .inl a1)]) (st' := [.inl 0]) (h' := h20) (cs := []) (by decide +kernel) rfl trivial ?_
            exact RN.zR (by decide +kernel) rfl (Or.inl rfl) hF
          · refine RN.icf (cd := .eq) (off := 23) (tgt := 166) (by decide +kernel) (mif_eqn hb) ?_
            refine RN.blk (ops := [(146, .aload_n 0)]) (pc' := 147) (lv' := [(5, .inl x21), (4, .inl x4), (3, .inl (m_rd h1 (m_rd h1 t 0) 2)), (2, .inl x2), (0, .inr (.inr t)), (1, .inl a1)]) (st' := [.inr (.inr t)]) (h' := h20) (cs := []) (by decide +kernel) rfl trivial ?_
            obtain ⟨hc, hF⟩ := gd_of hF
            obtain ⟨x23, h22, hG, hF⟩ := bd_of hF
            refine RN.cv (i := 57) (k := 60) (q2 := iX6_takeSum) (as := [.inr (.inr t)]) (r := []) (v := some (.inl x23)) (h1 := h22) (by decide +kernel) rfl rfl rfl rfl rfl (rcv_ok hc.1) (CX6_takeSum (d := d) hG) ?_
            rcases it_of hF with ⟨hb, hF⟩ | ⟨hb, hF⟩
            · refine RN.ift (cd := .eq) (off := 16) (tgt := 166) (by decide +kernel) (mif_eq hb) ?_
              refine RN.blk (ops := [(166, .iconst 0)]) (pc' := 167) (lv' := [(5, .inl x21), (4, .inl x4), (3, .inl (m_rd h1 (m_rd h1 t 0) 2)), (2, .inl x2), (0, .inr (.inr t)), (1, .inl a1)]) (st' := [.inl 0]) (h' := h22) (cs := []) (by decide +kernel) rfl trivial ?_
              exact RN.zR (by decide +kernel) rfl (Or.inl rfl) hF
            · refine RN.iff (cd := .eq) (off := 16) (tgt := 166) (by decide +kernel) (mif_eqn hb) ?_
              refine RN.blk (ops := [(153, .aload_n 0), (154, .iload 5)]) (pc' := 156) (lv' := [(5, .inl x21), (4, .inl x4), (3, .inl (m_rd h1 (m_rd h1 t 0) 2)), (2, .inl x2), (0, .inr (.inr t)), (1, .inl a1)]) (st' := [.inl x21, .inr (.inr t)]) (h' := h22) (cs := []) (by decide +kernel) rfl trivial ?_
              obtain ⟨hc, hF⟩ := gd_of hF
              obtain ⟨x25, h24, hG, hF⟩ := bd_of hF
              refine RN.cv (i := 78) (k := 63) (q2 := iX6_put) (as := [.inr (.inr t), .inl x21]) (r := []) (v := some (.inl x25)) (h1 := h24) (by decide +kernel) rfl rfl rfl rfl rfl (rcv_ok hc.1) (CX6_put (d := d + 8) hG) ?_
              rcases it_of hF with ⟨hb, hF⟩ | ⟨hb, hF⟩
              · refine RN.ift (cd := .eq) (off := 7) (tgt := 166) (by decide +kernel) (mif_eq hb) ?_
                refine RN.blk (ops := [(166, .iconst 0)]) (pc' := 167) (lv' := [(5, .inl x21), (4, .inl x4), (3, .inl (m_rd h1 (m_rd h1 t 0) 2)), (2, .inl x2), (0, .inr (.inr t)), (1, .inl a1)]) (st' := [.inl 0]) (h' := h24) (cs := []) (by decide +kernel) rfl trivial ?_
                exact RN.zR (by decide +kernel) rfl (Or.inl rfl) hF
              · refine RN.iff (cd := .eq) (off := 7) (tgt := 166) (by decide +kernel) (mif_eqn hb) ?_
                refine RN.blk (ops := [(162, .iconst 1)]) (pc' := 163) (lv' := [(5, .inl x21), (4, .inl x4), (3, .inl (m_rd h1 (m_rd h1 t 0) 2)), (2, .inl x2), (0, .inr (.inr t)), (1, .inl a1)]) (st' := [.inl 1]) (h' := h24) (cs := []) (by decide +kernel) rfl trivial ?_
                refine RN.goto (off := 4) (tgt := 167) (by decide +kernel) ?_
                exact RN.zR (by decide +kernel) rfl (Or.inr rfl) hF
    · refine RN.ift (cd := .ne) (off := 9) (tgt := 38) (by decide +kernel) (mif_ne hb) ?_
      exact RN.sub (Jj5 hF) (sub_cons rfl (sub_cons rfl (sub_cons rfl (sub_cons rfl sub_nil))))
noncomputable def F_tf : Nat → Bool → Int → Int → MH → Option (Int × MH)
  | 0, _, _, _, _ => none
  | f + 1, true, t, a1, h => FX6_takeTest_b (F_tf f true) (F_tf f false) t a1 h
  | f + 1, false, t, a1, h => FX6_takeFact_b (F_tf f true) (F_tf f false) t a1 h
theorem C_tf {d : Nat} : ∀ f : Nat, (∀ (t a1 : Int) (h : MH) (r : Int × MH), F_tf f true t a1 h = some r → RN xs L iX6_takeTest (d + f + 8) 0 (lvE 0 [.inr (.inr t), .inl a1]) [] h (RIo r)) ∧ (∀ (t a1 : Int) (h : MH) (r : Int × MH), F_tf f false t a1 h = some r → RN xs L iX6_takeFact (d + f + 8) 0 (lvE 0 [.inr (.inr t), .inl a1]) [] h (RIo r)) := by
  intro f
  induction f with
  | zero => exact ⟨fun t a1 h r hF => (by cases hF), fun t a1 h r hF => (by cases hF)⟩
  | succ f ih =>
    rw [show d + (f + 1) + 8 = d + f + 9 by omega]
    exact ⟨fun t a1 h r hF => CX6_takeTest_b (d := d + f) ih.1 ih.2 hF, fun t a1 h r hF => CX6_takeFact_b (d := d + f) ih.1 ih.2 hF⟩
def FR : Nat := 40
noncomputable def FX6_takeTest (t a1 : Int) (h : MH) : Option (Int × MH) := F_tf FR true t a1 h
noncomputable def FX6_takeFact (t a1 : Int) (h : MH) : Option (Int × MH) := F_tf FR false t a1 h
theorem CX6_takeTest {d : Nat} {t a1 : Int} {h : MH} {r : Int × MH} (hF : FX6_takeTest t a1 h = some r) : RN xs L iX6_takeTest (d + 48) 0 (lvE 0 [.inr (.inr t), .inl a1]) [] h (RIo r) := (C_tf (d := d) FR).1 t a1 h r hF
theorem CX6_takeFact {d : Nat} {t a1 : Int} {h : MH} {r : Int × MH} (hF : FX6_takeFact t a1 h = some r) : RN xs L iX6_takeFact (d + 48) 0 (lvE 0 [.inr (.inr t), .inl a1]) [] h (RIo r) := (C_tf (d := d) FR).2 t a1 h r hF
noncomputable def FX6_parse_L26 (u0 : Int) (K0 : MH → Option (Int × MH)) : Nat → Int → Int → MH → Option (Int × MH)
  | 0, _, _, _ => none
  | f + 1, v1, v2, h =>
    (if 12 < v2 then
     K0 h
    else
     (if v1 = 0 then
      K0 h
     else
      gd [GK h u0 6] (
       gd [GK h (m_rd h u0 0) 9] (bd (FX9_next (m_rd h u0 0) h) (fun x2 h1 =>
        gd [GK h1 u0 6, GK h1 (m_rd h1 u0 0) 9, GK h1 u0 6] (
         gd [GK h1 (m_rd h1 u0 0) 9] (bd (FX9_takeWord (m_rd h1 u0 0) (-14) h1) (fun x4 h3 =>
          jn (fun (p6 : Int) (h7 : MH) =>
           (if p6 = 0 then
            FX6_parse_L26 u0 K0 f 0 (m_w32 (v2 + 1)) h7
           else
            gd [GK h7 u0 6, GK h7 (m_rd h7 u0 0) 9] (
             (if (m_rd h7 (m_rd h7 u0 0) 3) = 0 then
              gd [GK h7 u0 6] (
               gd [GK h7 (m_rd h7 u0 0) 9] (bd (FX9_takeSemicolon (m_rd h7 u0 0) h7) (fun x9 h8 =>
                (if x9 = 0 then
                 FX6_parse_L26 u0 K0 f 0 (m_w32 (v2 + 1)) h8
                else
                 FX6_parse_L26 u0 K0 f 1 (m_w32 (v2 + 1)) h8))))
             else
              FX6_parse_L26 u0 K0 f 0 (m_w32 (v2 + 1)) h7)))) (fun j5 =>
           (if x4 = 0 then
            gd [GK h3 u0 6] (
             gd [GK h3 (m_rd h3 u0 0) 9] (bd (FX9_fail (m_rd h3 u0 0) (m_rd h1 (m_rd h1 u0 0) 2) 0 h3) (fun x24 h23 =>
              j5 v1 h23)))
           else
            (if v2 < 12 then
             gd [GK h3 u0 6] (bd (FX6_takeSum u0 h3) (fun x11 h10 =>
              (if x11 = 0 then
               j5 v1 h10
              else
               gd [GK h10 u0 6, GK h10 u0 6, GI h10 (m_rd h10 u0 3) 1 v2, GK h10 u0 6] (
                gd [GK h10 (m_rd (m_wr h10 (m_rd h10 u0 3) v2 (m_rd h10 u0 2)) u0 0) 9] (bd (FX9_takeWord (m_rd (m_wr h10 (m_rd h10 u0 3) v2 (m_rd h10 u0 2)) u0 0) (-25) (m_wr h10 (m_rd h10 u0 3) v2 (m_rd h10 u0 2))) (fun x13 h12 =>
                 jn (fun (s15 : Int) (h16 : MH) =>
                  gd [GK h16 u0 6, GK h16 u0 6, GI h16 (m_rd h16 u0 4) 1 v2, GK h16 u0 6] (
                   j5 s15 (m_wr (m_wr h16 (m_rd h16 u0 4) v2 (m_rd h16 u0 2)) u0 5 (m_w32 (v2 + 1))))) (fun j14 =>
                  jn (fun (h18 : MH) =>
                   j14 1 h18) (fun j17 =>
                   (if x13 = 0 then
                    j17 h12
                   else
                    gd [GK h12 u0 6] (bd (FX6_takeTest u0 0 h12) (fun x20 h19 =>
                     (if x20 = 0 then
                      j14 0 h19
                     else
                      j17 h19))))))))))))
            else
             gd [GK h3 u0 6] (
              gd [GK h3 (m_rd h3 u0 0) 9] (bd (FX9_fail (m_rd h3 u0 0) (m_rd h1 (m_rd h1 u0 0) 2) 4 h3) (fun x22 h21 =>
               j5 v1 h21))))))))))))))
theorem CX6_parse_L26 {d : Nat} {u0 : Int} {K0 : MH → Option (Int × MH)} {r : Int × MH} (hK0 : ∀ (h : MH), K0 h = some r → RN xs L iX6_parse (d + 49) 192 [(0, .inr (.inr u0))] [] h (RIo r)) : ∀ (f : Nat) (v1 : Int) (v2 : Int) (h : MH), FX6_parse_L26 u0 K0 f v1 v2 h = some r → RN xs L iX6_parse (d + 49) 26 [(0, .inr (.inr u0)), (1, .inl v1), (2, .inl v2)] [] h (RIo r) := by
  intro f
  induction f with
  | zero =>
    intro v1 v2 h hF
    cases hF
  | succ f ih =>
    intro v1 v2 h hF
    unfold FX6_parse_L26 at hF
    refine RN.blk (ops := [(26, .iload_n 2), (27, .bipush 12)]) (pc' := 29) (lv' := [(0, .inr (.inr u0)), (1, .inl v1), (2, .inl v2)]) (st' := [.inl 12, .inl v2]) (h' := h) (cs := []) (by decide +kernel) rfl trivial ?_
    rcases it_of hF with ⟨hb, hF⟩ | ⟨hb, hF⟩
    · refine RN.ict (cd := .gt) (off := 163) (tgt := 192) (by decide +kernel) (mif_gt hb) ?_
      exact RN.sub (hK0 _ hF) (sub_cons rfl sub_nil)
    · refine RN.icf (cd := .gt) (off := 163) (tgt := 192) (by decide +kernel) (mif_gtn hb) ?_
      refine RN.blk (ops := [(32, .iload_n 1)]) (pc' := 33) (lv' := [(0, .inr (.inr u0)), (1, .inl v1), (2, .inl v2)]) (st' := [.inl v1]) (h' := h) (cs := []) (by decide +kernel) rfl trivial ?_
      rcases it_of hF with ⟨hb, hF⟩ | ⟨hb, hF⟩
      · refine RN.ift (cd := .eq) (off := 159) (tgt := 192) (by decide +kernel) (mif_eq hb) ?_
        exact RN.sub (hK0 _ hF) (sub_cons rfl sub_nil)
      · refine RN.iff (cd := .eq) (off := 159) (tgt := 192) (by decide +kernel) (mif_eqn hb) ?_
        obtain ⟨hc, hF⟩ := gd_of hF
        refine RN.blk (ops := [(36, .aload_n 0), (37, .getfield 21)]) (pc' := 40) (lv' := [(0, .inr (.inr u0)), (1, .inl v1), (2, .inl v2)]) (st' := [.inr (.inr (m_rd h u0 0))]) (h' := h) (cs := [GK h u0 6]) (by decide +kernel) rfl hc ?_
        obtain ⟨hc, hF⟩ := gd_of hF
        obtain ⟨x2, h1, hG, hF⟩ := bd_of hF
        refine RN.cv (i := 40) (k := 93) (q2 := iX9_next) (as := [.inr (.inr (m_rd h u0 0))]) (r := []) (v := some (.inl x2)) (h1 := h1) (by decide +kernel) rfl rfl rfl rfl rfl (rcv_ok hc.1) (CX9_next (d := d + 48) hG) ?_
        obtain ⟨hc, hF⟩ := gd_of hF
        refine RN.blk (ops := [(43, .pop), (44, .aload_n 0), (45, .getfield 21), (48, .getfield 44), (51, .istore_n 3), (52, .aload_n 0), (53, .getfield 21), (56, .ldc 47)]) (pc' := 58) (lv' := [(3, .inl (m_rd h1 (m_rd h1 u0 0) 2)), (0, .inr (.inr u0)), (1, .inl v1), (2, .inl v2)]) (st' := [.inr (.inr (-14)), .inr (.inr (m_rd h1 u0 0))]) (h' := h1) (cs := [GK h1 u0 6, GK h1 (m_rd h1 u0 0) 9, GK h1 u0 6]) (by decide +kernel) rfl hc ?_
        obtain ⟨hc, hF⟩ := gd_of hF
        obtain ⟨x4, h3, hG, hF⟩ := bd_of hF
        refine RN.cv (i := 49) (k := 95) (q2 := iX9_takeWord) (as := [.inr (.inr (m_rd h1 u0 0)), .inr (.inr (-14))]) (r := []) (v := some (.inl x4)) (h1 := h3) (by decide +kernel) rfl rfl rfl rfl rfl (rcv_ok hc.1) (CX9_takeWord (d := d + 42) hG) ?_
        refine jn_use (fun j5 => ∀ (p6 : Int) (h7 : MH), j5 p6 h7 = some r → RN xs L iX6_parse (d + 49) 156 [(0, .inr (.inr u0)), (1, .inl p6), (2, .inl v2)] [] h7 (RIo r)) ?_ ?_ hF
        · intro p6 h7 hF
          refine RN.blk (ops := [(156, .iload_n 1)]) (pc' := 157) (lv' := [(0, .inr (.inr u0)), (1, .inl p6), (2, .inl v2)]) (st' := [.inl p6]) (h' := h7) (cs := []) (by decide +kernel) rfl trivial ?_
          rcases it_of hF with ⟨hb, hF⟩ | ⟨hb, hF⟩
          · refine RN.ift (cd := .eq) (off := 27) (tgt := 184) (by decide +kernel) (mif_eq hb) ?_
            refine RN.blk (ops := [(184, .iconst 0)]) (pc' := 185) (lv' := [(0, .inr (.inr u0)), (1, .inl p6), (2, .inl v2)]) (st' := [.inl 0]) (h' := h7) (cs := []) (by decide +kernel) rfl trivial ?_
            refine RN.blk (ops := [(185, .istore_n 1), (186, .iinc 2 1)]) (pc' := 189) (lv' := [(2, .inl (m_w32 (v2 + 1))), (1, .inl 0), (0, .inr (.inr u0))]) (st' := []) (h' := h7) (cs := []) (by decide +kernel) rfl trivial ?_
            refine RN.goto (off := -163) (tgt := 26) (by decide +kernel) ?_
            exact RN.sub (ih _ _ _ hF) (sub_cons rfl (sub_cons rfl (sub_cons rfl sub_nil)))
          · refine RN.iff (cd := .eq) (off := 27) (tgt := 184) (by decide +kernel) (mif_eqn hb) ?_
            obtain ⟨hc, hF⟩ := gd_of hF
            refine RN.blk (ops := [(160, .aload_n 0), (161, .getfield 21), (164, .getfield 67)]) (pc' := 167) (lv' := [(0, .inr (.inr u0)), (1, .inl p6), (2, .inl v2)]) (st' := [.inl (m_rd h7 (m_rd h7 u0 0) 3)]) (h' := h7) (cs := [GK h7 u0 6, GK h7 (m_rd h7 u0 0) 9]) (by decide +kernel) rfl hc ?_
            rcases it_of hF with ⟨hb, hF⟩ | ⟨hb, hF⟩
            · refine RN.iff (cd := .ne) (off := 17) (tgt := 184) (by decide +kernel) (mif_nen hb) ?_
              obtain ⟨hc, hF⟩ := gd_of hF
              refine RN.blk (ops := [(170, .aload_n 0), (171, .getfield 21)]) (pc' := 174) (lv' := [(0, .inr (.inr u0)), (1, .inl p6), (2, .inl v2)]) (st' := [.inr (.inr (m_rd h7 u0 0))]) (h' := h7) (cs := [GK h7 u0 6]) (by decide +kernel) rfl hc ?_
              obtain ⟨hc, hF⟩ := gd_of hF
              obtain ⟨x9, h8, hG, hF⟩ := bd_of hF
              refine RN.cv (i := 70) (k := 97) (q2 := iX9_takeSemicolon) (as := [.inr (.inr (m_rd h7 u0 0))]) (r := []) (v := some (.inl x9)) (h1 := h8) (by decide +kernel) rfl rfl rfl rfl rfl (rcv_ok hc.1) (CX9_takeSemicolon (d := d + 46) hG) ?_
              rcases it_of hF with ⟨hb, hF⟩ | ⟨hb, hF⟩
              · refine RN.ift (cd := .eq) (off := 7) (tgt := 184) (by decide +kernel) (mif_eq hb) ?_
                refine RN.blk (ops := [(184, .iconst 0)]) (pc' := 185) (lv' := [(0, .inr (.inr u0)), (1, .inl p6), (2, .inl v2)]) (st' := [.inl 0]) (h' := h8) (cs := []) (by decide +kernel) rfl trivial ?_
                refine RN.blk (ops := [(185, .istore_n 1), (186, .iinc 2 1)]) (pc' := 189) (lv' := [(2, .inl (m_w32 (v2 + 1))), (1, .inl 0), (0, .inr (.inr u0))]) (st' := []) (h' := h8) (cs := []) (by decide +kernel) rfl trivial ?_
                refine RN.goto (off := -163) (tgt := 26) (by decide +kernel) ?_
                exact RN.sub (ih _ _ _ hF) (sub_cons rfl (sub_cons rfl (sub_cons rfl sub_nil)))
              · refine RN.iff (cd := .eq) (off := 7) (tgt := 184) (by decide +kernel) (mif_eqn hb) ?_
                refine RN.blk (ops := [(180, .iconst 1)]) (pc' := 181) (lv' := [(0, .inr (.inr u0)), (1, .inl p6), (2, .inl v2)]) (st' := [.inl 1]) (h' := h8) (cs := []) (by decide +kernel) rfl trivial ?_
                refine RN.goto (off := 4) (tgt := 185) (by decide +kernel) ?_
                refine RN.blk (ops := [(185, .istore_n 1), (186, .iinc 2 1)]) (pc' := 189) (lv' := [(2, .inl (m_w32 (v2 + 1))), (1, .inl 1), (0, .inr (.inr u0))]) (st' := []) (h' := h8) (cs := []) (by decide +kernel) rfl trivial ?_
                refine RN.goto (off := -163) (tgt := 26) (by decide +kernel) ?_
                exact RN.sub (ih _ _ _ hF) (sub_cons rfl (sub_cons rfl (sub_cons rfl sub_nil)))
            · refine RN.ift (cd := .ne) (off := 17) (tgt := 184) (by decide +kernel) (mif_ne hb) ?_
              refine RN.blk (ops := [(184, .iconst 0)]) (pc' := 185) (lv' := [(0, .inr (.inr u0)), (1, .inl p6), (2, .inl v2)]) (st' := [.inl 0]) (h' := h7) (cs := []) (by decide +kernel) rfl trivial ?_
              refine RN.blk (ops := [(185, .istore_n 1), (186, .iinc 2 1)]) (pc' := 189) (lv' := [(2, .inl (m_w32 (v2 + 1))), (1, .inl 0), (0, .inr (.inr u0))]) (st' := []) (h' := h7) (cs := []) (by decide +kernel) rfl trivial ?_
              refine RN.goto (off := -163) (tgt := 26) (by decide +kernel) ?_
              exact RN.sub (ih _ _ _ hF) (sub_cons rfl (sub_cons rfl (sub_cons rfl sub_nil)))
        · intro j5 Jj5 hF
          rcases it_of hF with ⟨hb, hF⟩ | ⟨hb, hF⟩
          · refine RN.iff (cd := .ne) (off := 16) (tgt := 77) (by decide +kernel) (mif_nen hb) ?_
            obtain ⟨hc, hF⟩ := gd_of hF
            refine RN.blk (ops := [(64, .aload_n 0), (65, .getfield 21), (68, .iload_n 3), (69, .iconst 0)]) (pc' := 70) (lv' := [(3, .inl (m_rd h1 (m_rd h1 u0 0) 2)), (0, .inr (.inr u0)), (1, .inl v1), (2, .inl v2)]) (st' := [.inl 0, .inl (m_rd h1 (m_rd h1 u0 0) 2), .inr (.inr (m_rd h3 u0 0))]) (h' := h3) (cs := [GK h3 u0 6]) (by decide +kernel) rfl hc ?_
            obtain ⟨hc, hF⟩ := gd_of hF
            obtain ⟨x24, h23, hG, hF⟩ := bd_of hF
            refine RN.cv (i := 53) (k := 91) (q2 := iX9_fail) (as := [.inr (.inr (m_rd h3 u0 0)), .inl (m_rd h1 (m_rd h1 u0 0) 2), .inl 0]) (r := []) (v := some (.inl x24)) (h1 := h23) (by decide +kernel) rfl rfl rfl rfl rfl (rcv_ok hc.1) (CX9_fail (d := d + 48) hG) ?_
            refine RN.blk (ops := [(73, .pop)]) (pc' := 74) (lv' := [(3, .inl (m_rd h1 (m_rd h1 u0 0) 2)), (0, .inr (.inr u0)), (1, .inl v1), (2, .inl v2)]) (st' := []) (h' := h23) (cs := []) (by decide +kernel) rfl trivial ?_
            refine RN.goto (off := 82) (tgt := 156) (by decide +kernel) ?_
            exact RN.sub (Jj5 _ _ hF) (sub_cons rfl (sub_cons rfl (sub_cons rfl sub_nil)))
          · refine RN.ift (cd := .ne) (off := 16) (tgt := 77) (by decide +kernel) (mif_ne hb) ?_
            refine RN.blk (ops := [(77, .iload_n 2), (78, .bipush 12)]) (pc' := 80) (lv' := [(3, .inl (m_rd h1 (m_rd h1 u0 0) 2)), (0, .inr (.inr u0)), (1, .inl v1), (2, .inl v2)]) (st' := [.inl 12, .inl v2]) (h' := h3) (cs := []) (by decide +kernel) rfl trivial ?_
            rcases it_of hF with ⟨hb, hF⟩ | ⟨hb, hF⟩
            · refine RN.ict (cd := .lt) (off := 16) (tgt := 96) (by decide +kernel) (mif_lt hb) ?_
              refine RN.blk (ops := [(96, .aload_n 0)]) (pc' := 97) (lv' := [(3, .inl (m_rd h1 (m_rd h1 u0 0) 2)), (0, .inr (.inr u0)), (1, .inl v1), (2, .inl v2)]) (st' := [.inr (.inr u0)]) (h' := h3) (cs := []) (by decide +kernel) rfl trivial ?_
              obtain ⟨hc, hF⟩ := gd_of hF
              obtain ⟨x11, h10, hG, hF⟩ := bd_of hF
              refine RN.cv (i := 57) (k := 60) (q2 := iX6_takeSum) (as := [.inr (.inr u0)]) (r := []) (v := some (.inl x11)) (h1 := h10) (by decide +kernel) rfl rfl rfl rfl rfl (rcv_ok hc.1) (CX6_takeSum (d := d + 40) hG) ?_
              rcases it_of hF with ⟨hb, hF⟩ | ⟨hb, hF⟩
              · refine RN.ift (cd := .eq) (off := 56) (tgt := 156) (by decide +kernel) (mif_eq hb) ?_
                exact RN.sub (Jj5 _ _ hF) (sub_cons rfl (sub_cons rfl (sub_cons rfl sub_nil)))
              · refine RN.iff (cd := .eq) (off := 56) (tgt := 156) (by decide +kernel) (mif_eqn hb) ?_
                obtain ⟨hc, hF⟩ := gd_of hF
                refine RN.blk (ops := [(103, .aload_n 0), (104, .getfield 15), (107, .iload_n 2), (108, .aload_n 0), (109, .getfield 30), (112, .iastore), (113, .aload_n 0), (114, .getfield 21), (117, .ldc 61)]) (pc' := 119) (lv' := [(3, .inl (m_rd h1 (m_rd h1 u0 0) 2)), (0, .inr (.inr u0)), (1, .inl v1), (2, .inl v2)]) (st' := [.inr (.inr (-25)), .inr (.inr (m_rd (m_wr h10 (m_rd h10 u0 3) v2 (m_rd h10 u0 2)) u0 0))]) (h' := (m_wr h10 (m_rd h10 u0 3) v2 (m_rd h10 u0 2))) (cs := [GK h10 u0 6, GK h10 u0 6, GI h10 (m_rd h10 u0 3) 1 v2, GK h10 u0 6]) (by decide +kernel) rfl hc ?_
                obtain ⟨hc, hF⟩ := gd_of hF
                obtain ⟨x13, h12, hG, hF⟩ := bd_of hF
                refine RN.cv (i := 49) (k := 95) (q2 := iX9_takeWord) (as := [.inr (.inr (m_rd (m_wr h10 (m_rd h10 u0 3) v2 (m_rd h10 u0 2)) u0 0)), .inr (.inr (-25))]) (r := []) (v := some (.inl x13)) (h1 := h12) (by decide +kernel) rfl rfl rfl rfl rfl (rcv_ok hc.1) (CX9_takeWord (d := d + 42) hG) ?_
                refine jn_use (fun j14 => ∀ (s15 : Int) (h16 : MH), j14 s15 h16 = some r → RN xs L iX6_parse (d + 49) 138 [(0, .inr (.inr u0)), (2, .inl v2)] [.inl s15] h16 (RIo r)) ?_ ?_ hF
                · intro s15 h16 hF
                  obtain ⟨hc, hF⟩ := gd_of hF
                  refine RN.blk (ops := [(138, .istore_n 1), (139, .aload_n 0), (140, .getfield 18), (143, .iload_n 2), (144, .aload_n 0), (145, .getfield 30), (148, .iastore), (149, .aload_n 0), (150, .iload_n 2), (151, .iconst 1), (152, .iadd), (153, .putfield 34)]) (pc' := 156) (lv' := [(1, .inl s15), (0, .inr (.inr u0)), (2, .inl v2)]) (st' := []) (h' := (m_wr (m_wr h16 (m_rd h16 u0 4) v2 (m_rd h16 u0 2)) u0 5 (m_w32 (v2 + 1)))) (cs := [GK h16 u0 6, GK h16 u0 6, GI h16 (m_rd h16 u0 4) 1 v2, GK h16 u0 6]) (by decide +kernel) rfl hc ?_
                  exact RN.sub (Jj5 _ _ hF) (sub_cons rfl (sub_cons rfl (sub_cons rfl sub_nil)))
                · intro j14 Jj14 hF
                  refine jn_use (fun j17 => ∀ (h18 : MH), j17 h18 = some r → RN xs L iX6_parse (d + 49) 133 [(0, .inr (.inr u0)), (2, .inl v2)] [] h18 (RIo r)) ?_ ?_ hF
                  · intro h18 hF
                    refine RN.blk (ops := [(133, .iconst 1)]) (pc' := 134) (lv' := [(0, .inr (.inr u0)), (2, .inl v2)]) (st' := [.inl 1]) (h' := h18) (cs := []) (by decide +kernel) rfl trivial ?_
                    refine RN.goto (off := 4) (tgt := 138) (by decide +kernel) ?_
                    exact RN.sub (Jj14 _ _ hF) (sub_cons rfl (sub_cons rfl sub_nil))
                  · intro j17 Jj17 hF
                    rcases it_of hF with ⟨hb, hF⟩ | ⟨hb, hF⟩
                    · refine RN.ift (cd := .eq) (off := 11) (tgt := 133) (by decide +kernel) (mif_eq hb) ?_
                      exact RN.sub (Jj17 _ hF) (sub_cons rfl (sub_cons rfl sub_nil))
                    · refine RN.iff (cd := .eq) (off := 11) (tgt := 133) (by decide +kernel) (mif_eqn hb) ?_
                      refine RN.blk (ops := [(125, .aload_n 0), (126, .iconst 0)]) (pc' := 127) (lv' := [(3, .inl (m_rd h1 (m_rd h1 u0 0) 2)), (0, .inr (.inr u0)), (1, .inl v1), (2, .inl v2)]) (st' := [.inl 0, .inr (.inr u0)]) (h' := h12) (cs := []) (by decide +kernel) rfl trivial ?_
                      obtain ⟨hc, hF⟩ := gd_of hF
                      obtain ⟨x20, h19, hG, hF⟩ := bd_of hF
                      refine RN.cv (i := 63) (k := 57) (q2 := iX6_takeTest) (as := [.inr (.inr u0), .inl 0]) (r := []) (v := some (.inl x20)) (h1 := h19) (by decide +kernel) rfl rfl rfl rfl rfl (rcv_ok hc.1) (CX6_takeTest (d := d) hG) ?_
                      rcases it_of hF with ⟨hb, hF⟩ | ⟨hb, hF⟩
                      · refine RN.ift (cd := .eq) (off := 7) (tgt := 137) (by decide +kernel) (mif_eq hb) ?_
                        refine RN.blk (ops := [(137, .iconst 0)]) (pc' := 138) (lv' := [(3, .inl (m_rd h1 (m_rd h1 u0 0) 2)), (0, .inr (.inr u0)), (1, .inl v1), (2, .inl v2)]) (st' := [.inl 0]) (h' := h19) (cs := []) (by decide +kernel) rfl trivial ?_
                        exact RN.sub (Jj14 _ _ hF) (sub_cons rfl (sub_cons rfl sub_nil))
                      · refine RN.iff (cd := .eq) (off := 7) (tgt := 137) (by decide +kernel) (mif_eqn hb) ?_
                        exact RN.sub (Jj17 _ hF) (sub_cons rfl (sub_cons rfl sub_nil))
            · refine RN.icf (cd := .lt) (off := 16) (tgt := 96) (by decide +kernel) (mif_ltn hb) ?_
              obtain ⟨hc, hF⟩ := gd_of hF
              refine RN.blk (ops := [(83, .aload_n 0), (84, .getfield 21), (87, .iload_n 3), (88, .iconst 4)]) (pc' := 89) (lv' := [(3, .inl (m_rd h1 (m_rd h1 u0 0) 2)), (0, .inr (.inr u0)), (1, .inl v1), (2, .inl v2)]) (st' := [.inl 4, .inl (m_rd h1 (m_rd h1 u0 0) 2), .inr (.inr (m_rd h3 u0 0))]) (h' := h3) (cs := [GK h3 u0 6]) (by decide +kernel) rfl hc ?_
              obtain ⟨hc, hF⟩ := gd_of hF
              obtain ⟨x22, h21, hG, hF⟩ := bd_of hF
              refine RN.cv (i := 53) (k := 91) (q2 := iX9_fail) (as := [.inr (.inr (m_rd h3 u0 0)), .inl (m_rd h1 (m_rd h1 u0 0) 2), .inl 4]) (r := []) (v := some (.inl x22)) (h1 := h21) (by decide +kernel) rfl rfl rfl rfl rfl (rcv_ok hc.1) (CX9_fail (d := d + 48) hG) ?_
              refine RN.blk (ops := [(92, .pop)]) (pc' := 93) (lv' := [(3, .inl (m_rd h1 (m_rd h1 u0 0) 2)), (0, .inr (.inr u0)), (1, .inl v1), (2, .inl v2)]) (st' := []) (h' := h21) (cs := []) (by decide +kernel) rfl trivial ?_
              refine RN.goto (off := 63) (tgt := 156) (by decide +kernel) ?_
              exact RN.sub (Jj5 _ _ hF) (sub_cons rfl (sub_cons rfl (sub_cons rfl sub_nil)))
noncomputable def FX6_parse (t : Int) (h : MH) : Option (Int × MH) :=
  gd [GK h t 6] (
   gd [GK h (m_rd h t 0) 9] (bv (FX9_rewind (m_rd h t 0) h) (fun h1 =>
    gd [GK h1 t 6, GK h1 t 6, GK h1 t 6] (
     FX6_parse_L26 t (fun h2 =>
      gd [GK h2 t 6, GK h2 (m_rd h2 t 0) 9] (
       some ((m_rd h2 (m_rd h2 t 0) 3), h2))) FU 1 0 (m_wr (m_wr (m_wr h1 t 2 0) t 5 0) t 6 0)))))
theorem CX6_parse {d : Nat} {t : Int} {h : MH} {r : Int × MH} (hF : FX6_parse t h = some r) : RN xs L iX6_parse (d + 49) 0 (lvE 0 [.inr (.inr t)]) [] h (RIo r) := by
  unfold FX6_parse at hF
  obtain ⟨hc, hF⟩ := gd_of hF
  refine RN.blk (ops := [(0, .aload_n 0), (1, .getfield 21)]) (pc' := 4) (lv' := [(0, .inr (.inr t))]) (st' := [.inr (.inr (m_rd h t 0))]) (h' := h) (cs := [GK h t 6]) (by decide +kernel) rfl hc ?_
  obtain ⟨hc, hF⟩ := gd_of hF
  obtain ⟨h1, hG, hF⟩ := bv_of hF
  refine RN.cv (i := 25) (k := 90) (q2 := iX9_rewind) (as := [.inr (.inr (m_rd h t 0))]) (r := []) (v := none) (h1 := h1) (by decide +kernel) rfl rfl rfl rfl rfl (rcv_ok hc.1) (CX9_rewind (d := d + 48) hG) ?_
  obtain ⟨hc, hF⟩ := gd_of hF
  refine RN.blk (ops := [(7, .aload_n 0), (8, .iconst 0), (9, .putfield 30), (12, .aload_n 0), (13, .iconst 0), (14, .putfield 34), (17, .aload_n 0), (18, .iconst 0), (19, .putfield 37), (22, .iconst 1), (23, .istore_n 1), (24, .iconst 0), (25, .istore_n 2)]) (pc' := 26) (lv' := [(2, .inl 0), (1, .inl 1), (0, .inr (.inr t))]) (st' := []) (h' := (m_wr (m_wr (m_wr h1 t 2 0) t 5 0) t 6 0)) (cs := [GK h1 t 6, GK h1 t 6, GK h1 t 6]) (by decide +kernel) rfl hc ?_
  refine RN.sub (CX6_parse_L26 ?_ _ _ _ _ hF) (sub_cons rfl (sub_cons rfl (sub_cons rfl sub_nil)))
  · intro h2 hF
    obtain ⟨hc, hF⟩ := gd_of hF
    refine RN.blk (ops := [(192, .aload_n 0), (193, .getfield 21), (196, .getfield 67)]) (pc' := 199) (lv' := [(0, .inr (.inr t))]) (st' := [.inl (m_rd h2 (m_rd h2 t 0) 3)]) (h' := h2) (cs := [GK h2 t 6, GK h2 (m_rd h2 t 0) 9]) (by decide +kernel) rfl hc ?_
    exact RN.iR (by decide +kernel) rfl hF
noncomputable def FX7_start (t : Int) (a1 : Int) (a2 : Int) (h : MH) : Option (MH) :=
  gd [GK h t 7] (
   gd [GK h (m_rd h t 0) 8] (bv (FX8_copyFrom (m_rd h t 0) a1 h) (fun h1 =>
    gd [GK h1 t 7] (
     gd [GK h1 (m_rd h1 t 1) 10] (bv (FX10_copyFrom (m_rd h1 t 1) a2 h1) (fun h2 =>
      gd [GK h2 t 7, GK h2 t 7, GK h2 t 7, GK h2 (m_rd h2 t 1) 10] (
       gd [GK h2 (m_rd h2 t 3) 1] (bv (FX1_draw (m_rd h2 t 3) (m_rd h2 t 0) (m_rd h2 (m_rd h2 t 1) 0) h2) (fun h3 =>
        some h3)))))))))
theorem CX7_start {d : Nat} {t : Int} {a1 : Int} {a2 : Int} {h : MH} {r : MH} (hF : FX7_start t a1 a2 h = some r) : RN xs L iX7_start (d + 3) 0 (lvE 0 [.inr (.inr t), .inr (.inr a1), .inr (.inr a2)]) [] h (RVo r) := by
  unfold FX7_start at hF
  obtain ⟨hc, hF⟩ := gd_of hF
  refine RN.blk (ops := [(0, .aload_n 0), (1, .getfield 12), (4, .aload_n 1)]) (pc' := 5) (lv' := [(0, .inr (.inr t)), (1, .inr (.inr a1)), (2, .inr (.inr a2))]) (st' := [.inr (.inr a1), .inr (.inr (m_rd h t 0))]) (h' := h) (cs := [GK h t 7]) (by decide +kernel) rfl hc ?_
  obtain ⟨hc, hF⟩ := gd_of hF
  obtain ⟨h1, hG, hF⟩ := bv_of hF
  refine RN.cv (i := 37) (k := 80) (q2 := iX8_copyFrom) (as := [.inr (.inr (m_rd h t 0)), .inr (.inr a1)]) (r := []) (v := none) (h1 := h1) (by decide +kernel) rfl rfl rfl rfl rfl (rcv_ok hc.1) (CX8_copyFrom (d := d + 1) hG) ?_
  obtain ⟨hc, hF⟩ := gd_of hF
  refine RN.blk (ops := [(8, .aload_n 0), (9, .getfield 21), (12, .aload_n 2)]) (pc' := 13) (lv' := [(0, .inr (.inr t)), (1, .inr (.inr a1)), (2, .inr (.inr a2))]) (st' := [.inr (.inr a2), .inr (.inr (m_rd h1 t 1))]) (h' := h1) (cs := [GK h1 t 7]) (by decide +kernel) rfl hc ?_
  obtain ⟨hc, hF⟩ := gd_of hF
  obtain ⟨h2, hG, hF⟩ := bv_of hF
  refine RN.cv (i := 41) (k := 101) (q2 := iX10_copyFrom) (as := [.inr (.inr (m_rd h1 t 1)), .inr (.inr a2)]) (r := []) (v := none) (h1 := h2) (by decide +kernel) rfl rfl rfl rfl rfl (rcv_ok hc.1) (CX10_copyFrom (d := d) hG) ?_
  obtain ⟨hc, hF⟩ := gd_of hF
  refine RN.blk (ops := [(16, .aload_n 0), (17, .getfield 33), (20, .aload_n 0), (21, .getfield 12), (24, .aload_n 0), (25, .getfield 21), (28, .getfield 44)]) (pc' := 31) (lv' := [(0, .inr (.inr t)), (1, .inr (.inr a1)), (2, .inr (.inr a2))]) (st' := [.inr (.inr (m_rd h2 (m_rd h2 t 1) 0)), .inr (.inr (m_rd h2 t 0)), .inr (.inr (m_rd h2 t 3))]) (h' := h2) (cs := [GK h2 t 7, GK h2 t 7, GK h2 t 7, GK h2 (m_rd h2 t 1) 10]) (by decide +kernel) rfl hc ?_
  obtain ⟨hc, hF⟩ := gd_of hF
  obtain ⟨h3, hG, hF⟩ := bv_of hF
  refine RN.cv (i := 48) (k := 12) (q2 := iX1_draw) (as := [.inr (.inr (m_rd h2 t 3)), .inr (.inr (m_rd h2 t 0)), .inr (.inr (m_rd h2 (m_rd h2 t 1) 0))]) (r := []) (v := none) (h1 := h3) (by decide +kernel) rfl rfl rfl rfl rfl (rcv_ok hc.1) (CX1_draw (d := d) hG) ?_
  exact RN.vR (by decide +kernel) rfl hF
end Dc
