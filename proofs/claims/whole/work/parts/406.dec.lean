/-! METHODS AS FUNCTIONS, and their certificates (by program): X10_takeOut, X10_sumOf, X10_bagsOfAll, X7_describe, X7_choose, X10_bagUp, X7_lay, X7_step, X7_steps, X7_turnOfSorting, X7_turnOfTying, X7_agrees, X7_draw, X7_stepsWithPosts, X8_hasPrefix, X9_add, X10_lyingInAll, X10_shareOf -/
section Dc
variable {xs : Int → Int} {L : Int}
noncomputable def FX10_takeOut_L33 (u0 : Int) (u2 : Int) (K0 : MH → Option (Int × MH)) : Nat → Int → MH → Option (Int × MH)
  | 0, _, _ => none
  | f + 1, v3, h =>
    gd [GK h u0 10] (
     (if v3 < (m_rd h u0 1) then
      gd [GK h u0 10, GK h u0 10, GI h (m_rd h u0 2) 1 (m_w32 (v3 + 1)), GI h (m_rd h u0 2) 1 v3] (
       FX10_takeOut_L33 u0 u2 K0 f (m_w32 (v3 + 1)) (m_wr h (m_rd h u0 2) v3 (m_rd h (m_rd h u0 2) (m_w32 (v3 + 1)))))
     else
      K0 h))
theorem CX10_takeOut_L33 {d : Nat} {u0 : Int} {u2 : Int} {K0 : MH → Option (Int × MH)} {r : Int × MH} (hK0 : ∀ (h : MH), K0 h = some r → RN xs L iX10_takeOut (d) 61 [(2, .inl u2)] [] h (RIo r)) : ∀ (f : Nat) (v3 : Int) (h : MH), FX10_takeOut_L33 u0 u2 K0 f v3 h = some r → RN xs L iX10_takeOut (d) 33 [(0, .inr (.inr u0)), (2, .inl u2), (3, .inl v3)] [] h (RIo r) := by
  intro f
  induction f with
  | zero =>
    intro v3 h hF
    cases hF
  | succ f ih =>
    intro v3 h hF
    unfold FX10_takeOut_L33 at hF
    obtain ⟨hc, hF⟩ := gd_of hF
    refine RN.blk (ops := [(33, .iload_n 3), (34, .aload_n 0), (35, .getfield 32)]) (pc' := 38) (lv' := [(0, .inr (.inr u0)), (2, .inl u2), (3, .inl v3)]) (st' := [.inl (m_rd h u0 1), .inl v3]) (h' := h) (cs := [GK h u0 10]) (by decide +kernel) rfl hc ?_
    rcases it_of hF with ⟨hb, hF⟩ | ⟨hb, hF⟩
    · refine RN.icf (cd := .ge) (off := 23) (tgt := 61) (by decide +kernel) (mif_gen hb) ?_
      obtain ⟨hc, hF⟩ := gd_of hF
      refine RN.blk (ops := [(41, .aload_n 0), (42, .getfield 18), (45, .iload_n 3), (46, .aload_n 0), (47, .getfield 18), (50, .iload_n 3), (51, .iconst 1), (52, .iadd), (53, .iaload), (54, .iastore), (55, .iinc 3 1)]) (pc' := 58) (lv' := [(3, .inl (m_w32 (v3 + 1))), (0, .inr (.inr u0)), (2, .inl u2)]) (st' := []) (h' := (m_wr h (m_rd h u0 2) v3 (m_rd h (m_rd h u0 2) (m_w32 (v3 + 1))))) (cs := [GK h u0 10, GK h u0 10, GI h (m_rd h u0 2) 1 (m_w32 (v3 + 1)), GI h (m_rd h u0 2) 1 v3]) (by decide +kernel) rfl hc ?_
      refine RN.goto (off := -25) (tgt := 33) (by decide +kernel) ?_
      exact RN.sub (ih _ _ hF) (sub_cons rfl (sub_cons rfl (sub_cons rfl sub_nil)))
    · refine RN.ict (cd := .ge) (off := 23) (tgt := 61) (by decide +kernel) (mif_ge hb) ?_
      exact RN.sub (hK0 _ hF) (sub_cons rfl sub_nil)
noncomputable def FX10_takeOut (t : Int) (a1 : Int) (h : MH) : Option (Int × MH) :=
  (if a1 < 0 then
   some ((-1), h)
  else
   gd [GK h t 10] (
    (if a1 < (m_rd h t 1) then
     gd [GK h t 10, GI h (m_rd h t 2) 1 a1, GK h t 10, GK h t 10] (
      FX10_takeOut_L33 t (m_rd h (m_rd h t 2) a1) (fun h1 =>
       some ((m_rd h (m_rd h t 2) a1), h1)) FU a1 (m_wr h t 1 (m_w32 ((m_rd h t 1) - 1))))
    else
     some ((-1), h))))
theorem CX10_takeOut {d : Nat} {t : Int} {a1 : Int} {h : MH} {r : Int × MH} (hF : FX10_takeOut t a1 h = some r) : RN xs L iX10_takeOut (d) 0 (lvE 0 [.inr (.inr t), .inl a1]) [] h (RIo r) := by
  unfold FX10_takeOut at hF
  refine RN.blk (ops := [(0, .iload_n 1)]) (pc' := 1) (lv' := [(0, .inr (.inr t)), (1, .inl a1)]) (st' := [.inl a1]) (h' := h) (cs := []) (by decide +kernel) rfl trivial ?_
  rcases it_of hF with ⟨hb, hF⟩ | ⟨hb, hF⟩
  · refine RN.ift (cd := .lt) (off := 11) (tgt := 12) (by decide +kernel) (mif_lt hb) ?_
    refine RN.blk (ops := [(12, .iconst (-1))]) (pc' := 13) (lv' := [(0, .inr (.inr t)), (1, .inl a1)]) (st' := [.inl (-1)]) (h' := h) (cs := []) (by decide +kernel) rfl trivial ?_
    exact RN.iR (by decide +kernel) rfl hF
  · refine RN.iff (cd := .lt) (off := 11) (tgt := 12) (by decide +kernel) (mif_ltn hb) ?_
    obtain ⟨hc, hF⟩ := gd_of hF
    refine RN.blk (ops := [(4, .iload_n 1), (5, .aload_n 0), (6, .getfield 32)]) (pc' := 9) (lv' := [(0, .inr (.inr t)), (1, .inl a1)]) (st' := [.inl (m_rd h t 1), .inl a1]) (h' := h) (cs := [GK h t 10]) (by decide +kernel) rfl hc ?_
    rcases it_of hF with ⟨hb, hF⟩ | ⟨hb, hF⟩
    · refine RN.ict (cd := .lt) (off := 5) (tgt := 14) (by decide +kernel) (mif_lt hb) ?_
      obtain ⟨hc, hF⟩ := gd_of hF
      refine RN.blk (ops := [(14, .aload_n 0), (15, .getfield 18), (18, .iload_n 1), (19, .iaload), (20, .istore_n 2), (21, .aload_n 0), (22, .dup), (23, .getfield 32), (26, .iconst 1), (27, .isub), (28, .putfield 32), (31, .iload_n 1), (32, .istore_n 3)]) (pc' := 33) (lv' := [(3, .inl a1), (2, .inl (m_rd h (m_rd h t 2) a1)), (0, .inr (.inr t)), (1, .inl a1)]) (st' := []) (h' := (m_wr h t 1 (m_w32 ((m_rd h t 1) - 1)))) (cs := [GK h t 10, GI h (m_rd h t 2) 1 a1, GK h t 10, GK h t 10]) (by decide +kernel) rfl hc ?_
      refine RN.sub (CX10_takeOut_L33 ?_ _ _ _ hF) (sub_cons rfl (sub_cons rfl (sub_cons rfl sub_nil)))
      · intro h1 hF
        refine RN.blk (ops := [(61, .iload_n 2)]) (pc' := 62) (lv' := [(2, .inl (m_rd h (m_rd h t 2) a1))]) (st' := [.inl (m_rd h (m_rd h t 2) a1)]) (h' := h1) (cs := []) (by decide +kernel) rfl trivial ?_
        exact RN.iR (by decide +kernel) rfl hF
    · refine RN.icf (cd := .lt) (off := 5) (tgt := 14) (by decide +kernel) (mif_ltn hb) ?_
      refine RN.blk (ops := [(12, .iconst (-1))]) (pc' := 13) (lv' := [(0, .inr (.inr t)), (1, .inl a1)]) (st' := [.inl (-1)]) (h' := h) (cs := []) (by decide +kernel) rfl trivial ?_
      exact RN.iR (by decide +kernel) rfl hF
noncomputable def FX10_sumOf_L4 (u0 : Int) (K0 : Int → MH → Option (Int × MH)) : Nat → Int → Int → MH → Option (Int × MH)
  | 0, _, _, _ => none
  | f + 1, v1, v2, h =>
    gd [GL h u0] (
     (if v2 < (m_ln h u0) then
      gd [GI h u0 1 v2] (
       FX10_sumOf_L4 u0 K0 f (m_w32 (v1 + (m_rd h u0 v2))) (m_w32 (v2 + 1)) h)
     else
      K0 v1 h))
theorem CX10_sumOf_L4 {d : Nat} {u0 : Int} {K0 : Int → MH → Option (Int × MH)} {r : Int × MH} (hK0 : ∀ (w1 : Int) (h : MH), K0 w1 h = some r → RN xs L iX10_sumOf (d) 22 [(1, .inl w1)] [] h (RIo r)) : ∀ (f : Nat) (v1 : Int) (v2 : Int) (h : MH), FX10_sumOf_L4 u0 K0 f v1 v2 h = some r → RN xs L iX10_sumOf (d) 4 [(0, .inr (.inr u0)), (1, .inl v1), (2, .inl v2)] [] h (RIo r) := by
  intro f
  induction f with
  | zero =>
    intro v1 v2 h hF
    cases hF
  | succ f ih =>
    intro v1 v2 h hF
    unfold FX10_sumOf_L4 at hF
    obtain ⟨hc, hF⟩ := gd_of hF
    refine RN.blk (ops := [(4, .iload_n 2), (5, .aload_n 0), (6, .arraylength)]) (pc' := 7) (lv' := [(0, .inr (.inr u0)), (1, .inl v1), (2, .inl v2)]) (st' := [.inl (m_ln h u0), .inl v2]) (h' := h) (cs := [GL h u0]) (by decide +kernel) rfl hc ?_
    rcases it_of hF with ⟨hb, hF⟩ | ⟨hb, hF⟩
    · refine RN.icf (cd := .ge) (off := 15) (tgt := 22) (by decide +kernel) (mif_gen hb) ?_
      obtain ⟨hc, hF⟩ := gd_of hF
      refine RN.blk (ops := [(10, .iload_n 1), (11, .aload_n 0), (12, .iload_n 2), (13, .iaload), (14, .iadd), (15, .istore_n 1), (16, .iinc 2 1)]) (pc' := 19) (lv' := [(2, .inl (m_w32 (v2 + 1))), (1, .inl (m_w32 (v1 + (m_rd h u0 v2)))), (0, .inr (.inr u0))]) (st' := []) (h' := h) (cs := [GI h u0 1 v2]) (by decide +kernel) rfl hc ?_
      refine RN.goto (off := -15) (tgt := 4) (by decide +kernel) ?_
      exact RN.sub (ih _ _ _ hF) (sub_cons rfl (sub_cons rfl (sub_cons rfl sub_nil)))
    · refine RN.ict (cd := .ge) (off := 15) (tgt := 22) (by decide +kernel) (mif_ge hb) ?_
      exact RN.sub (hK0 _ _ hF) (sub_cons rfl sub_nil)
noncomputable def FX10_sumOf (a1 : Int) (h : MH) : Option (Int × MH) :=
  FX10_sumOf_L4 a1 (fun w1 h2 =>
   some (w1, h2)) FU 0 0 h
theorem CX10_sumOf {d : Nat} {a1 : Int} {h : MH} {r : Int × MH} (hF : FX10_sumOf a1 h = some r) : RN xs L iX10_sumOf (d) 0 (lvE 0 [.inr (.inr a1)]) [] h (RIo r) := by
  unfold FX10_sumOf at hF
  refine RN.blk (ops := [(0, .iconst 0), (1, .istore_n 1), (2, .iconst 0), (3, .istore_n 2)]) (pc' := 4) (lv' := [(2, .inl 0), (1, .inl 0), (0, .inr (.inr a1))]) (st' := []) (h' := h) (cs := []) (by decide +kernel) rfl trivial ?_
  refine RN.sub (CX10_sumOf_L4 ?_ _ _ _ _ hF) (sub_cons rfl (sub_cons rfl (sub_cons rfl sub_nil)))
  · intro w1 h2 hF
    refine RN.blk (ops := [(22, .iload_n 1)]) (pc' := 23) (lv' := [(1, .inl w1)]) (st' := [.inl w1]) (h' := h2) (cs := []) (by decide +kernel) rfl trivial ?_
    exact RN.iR (by decide +kernel) rfl hF
noncomputable def FX10_bagsOfAll (t : Int) (h : MH) : Option (Int × MH) :=
  gd [GK h t 10] (
   (bd (FX10_sumOf (m_rd h t 4) h) (fun x2 h1 =>
    some (x2, h1))))
theorem CX10_bagsOfAll {d : Nat} {t : Int} {h : MH} {r : Int × MH} (hF : FX10_bagsOfAll t h = some r) : RN xs L iX10_bagsOfAll (d + 1) 0 (lvE 0 [.inr (.inr t)]) [] h (RIo r) := by
  unfold FX10_bagsOfAll at hF
  obtain ⟨hc, hF⟩ := gd_of hF
  refine RN.blk (ops := [(0, .aload_n 0), (1, .getfield 25)]) (pc' := 4) (lv' := [(0, .inr (.inr t))]) (st' := [.inr (.inr (m_rd h t 4))]) (h' := h) (cs := [GK h t 10]) (by decide +kernel) rfl hc ?_
  obtain ⟨x2, h1, hG, hF⟩ := bd_of hF
  refine RN.cst (i := 57) (k := 108) (q2 := iX10_sumOf) (as := [.inr (.inr (m_rd h t 4))]) (r := []) (v := some (.inl x2)) (h1 := h1) (by decide +kernel) rfl rfl rfl rfl rfl (CX10_sumOf (d := d) hG) ?_
  exact RN.iR (by decide +kernel) rfl hF
noncomputable def FX7_describe (t : Int) (a1 : Int) (h : MH) : Option (MH) :=
  gd [GK h t 7, GK h (m_rd h t 1) 10, GI h (m_rd h (m_rd h t 1) 2) 1 a1, GK h t 7] (
   gd [GK h (m_rd h t 3) 1] (bd (FX1_entryFor (m_rd h t 3) (m_rd h (m_rd h (m_rd h t 1) 2) a1) h) (fun x2 h1 =>
    jn (fun (s4 : Int) =>
     jn (fun (s6 : Int) =>
      gd [GK h1 t 7, GI h1 (m_rd h1 t 4) 2 0, GK h1 t 7, GI h1 (m_rd (m_wr h1 (m_rd h1 t 4) 0 a1) t 4) 2 1] (
       hl (m_wr (m_wr h1 (m_rd h1 t 4) 0 a1) (m_rd (m_wr h1 (m_rd h1 t 4) 0 a1) t 4) 1 (m_rd h (m_rd h (m_rd h t 1) 2) a1)) (fun h7 =>
        gd [GK h7 t 7, GK h7 t 7] (
         gd [GK h7 (m_rd h7 t 0) 8] (bd (FX8_digitOf (m_rd h7 t 0) (m_rd h (m_rd h (m_rd h t 1) 2) a1) 0 h7) (fun x9 h8 =>
          gd [GI h8 (m_rd h7 t 4) 2 2, GK h8 t 7, GK h8 t 7, GK h8 t 7, GK h8 (m_rd (m_wr h8 (m_rd h7 t 4) 2 x9) t 0) 8] (
           gd [GK h8 (m_rd (m_wr h8 (m_rd h7 t 4) 2 x9) t 0) 8] (bd (FX8_digitOf (m_rd (m_wr h8 (m_rd h7 t 4) 2 x9) t 0) (m_rd h (m_rd h (m_rd h t 1) 2) a1) (m_w32 ((m_rd (m_wr h8 (m_rd h7 t 4) 2 x9) (m_rd (m_wr h8 (m_rd h7 t 4) 2 x9) t 0) 1) - 1)) (m_wr h8 (m_rd h7 t 4) 2 x9)) (fun x11 h10 =>
            gd [GI h10 (m_rd (m_wr h8 (m_rd h7 t 4) 2 x9) t 4) 2 3, GK h10 t 7, GI h10 (m_rd (m_wr h10 (m_rd (m_wr h8 (m_rd h7 t 4) 2 x9) t 4) 3 x11) t 4) 2 4] (
             hl (m_wr (m_wr h10 (m_rd (m_wr h8 (m_rd h7 t 4) 2 x9) t 4) 3 x11) (m_rd (m_wr h10 (m_rd (m_wr h8 (m_rd h7 t 4) 2 x9) t 4) 3 x11) t 4) 4 s6) (fun h12 =>
              gd [GK h12 t 7] (
               jn (fun (s14 : Int) =>
                gd [GI h12 (m_rd h12 t 4) 2 5, GK h12 t 7] (
                 jn (fun (s16 : Int) =>
                  gd [GI h12 (m_rd (m_wr h12 (m_rd h12 t 4) 5 s14) t 4) 2 6] (
                   hl (m_wr (m_wr h12 (m_rd h12 t 4) 5 s14) (m_rd (m_wr h12 (m_rd h12 t 4) 5 s14) t 4) 6 s16) (fun h17 =>
                    gd [GK h17 t 7] (
                     (if s4 = 0 then
                      gd [GI h17 (m_rd h17 t 4) 2 7] (
                       some (m_wr h17 (m_rd h17 t 4) 7 0))
                     else
                      gd [GK h17 t 7, GK h17 (m_rd h17 t 1) 10, GK h17 (m_rd h17 (m_rd h17 t 1) 0) 4, GI h17 (m_rd h17 (m_rd h17 (m_rd h17 t 1) 0) 1) 1 x2] (
                       gd [GI h17 (m_rd h17 t 4) 2 7] (
                        some (m_wr h17 (m_rd h17 t 4) 7 (m_rd h17 (m_rd h17 (m_rd h17 (m_rd h17 t 1) 0) 1) x2))))))))) (fun j15 =>
                  (if s4 = 0 then
                   j15 0
                  else
                   gd [GK h12 t 7, GK h12 (m_rd (m_wr h12 (m_rd h12 t 4) 5 s14) t 0) 8, GI h12 (m_rd (m_wr h12 (m_rd h12 t 4) 5 s14) (m_rd (m_wr h12 (m_rd h12 t 4) 5 s14) t 0) 5) 1 s6] (
                    j15 (m_rd (m_wr h12 (m_rd h12 t 4) 5 s14) (m_rd (m_wr h12 (m_rd h12 t 4) 5 s14) (m_rd (m_wr h12 (m_rd h12 t 4) 5 s14) t 0) 5) s6)))))) (fun j13 =>
                (if s4 = 0 then
                 j13 0
                else
                 gd [GK h12 t 7, GK h12 (m_rd h12 t 1) 10, GI h12 (m_rd h12 (m_rd h12 t 1) 3) 1 s6] (
                  j13 (m_rd h12 (m_rd h12 (m_rd h12 t 1) 3) s6)))))))))))))))) (fun j5 =>
      (if s4 = 0 then
       j5 (-1)
      else
       gd [GK h1 t 7, GK h1 (m_rd h1 t 1) 10, GK h1 (m_rd h1 (m_rd h1 t 1) 0) 4, GI h1 (m_rd h1 (m_rd h1 (m_rd h1 t 1) 0) 3) 1 x2] (
        j5 (m_rd h1 (m_rd h1 (m_rd h1 (m_rd h1 t 1) 0) 3) x2))))) (fun j3 =>
     (if x2 = (-1) then
      j3 0
     else
      j3 1)))))
theorem CX7_describe {d : Nat} {t : Int} {a1 : Int} {h : MH} {r : MH} (hF : FX7_describe t a1 h = some r) : RN xs L iX7_describe (d + 2) 0 (lvE 0 [.inr (.inr t), .inl a1]) [] h (RVo r) := by
  unfold FX7_describe at hF
  obtain ⟨hc, hF⟩ := gd_of hF
  refine RN.blk (ops := [(0, .aload_n 0), (1, .getfield 21), (4, .getfield 105), (7, .iload_n 1), (8, .iaload), (9, .istore_n 2), (10, .aload_n 0), (11, .getfield 33), (14, .iload_n 2)]) (pc' := 15) (lv' := [(2, .inl (m_rd h (m_rd h (m_rd h t 1) 2) a1)), (0, .inr (.inr t)), (1, .inl a1)]) (st' := [.inl (m_rd h (m_rd h (m_rd h t 1) 2) a1), .inr (.inr (m_rd h t 3))]) (h' := h) (cs := [GK h t 7, GK h (m_rd h t 1) 10, GI h (m_rd h (m_rd h t 1) 2) 1 a1, GK h t 7]) (by decide +kernel) rfl hc ?_
  obtain ⟨hc, hF⟩ := gd_of hF
  obtain ⟨x2, h1, hG, hF⟩ := bd_of hF
  refine RN.cv (i := 108) (k := 14) (q2 := iX1_entryFor) (as := [.inr (.inr (m_rd h t 3)), .inl (m_rd h (m_rd h (m_rd h t 1) 2) a1)]) (r := []) (v := some (.inl x2)) (h1 := h1) (by decide +kernel) rfl rfl rfl rfl rfl (rcv_ok hc.1) (CX1_entryFor (d := d) hG) ?_
  refine RN.blk (ops := [(18, .istore_n 3), (19, .iload_n 3), (20, .iconst (-1))]) (pc' := 21) (lv' := [(3, .inl x2), (2, .inl (m_rd h (m_rd h (m_rd h t 1) 2) a1)), (0, .inr (.inr t)), (1, .inl a1)]) (st' := [.inl (-1), .inl x2]) (h' := h1) (cs := []) (by decide +kernel) rfl trivial ?_
  refine jn_use (fun j3 => ∀ (s4 : Int), j3 s4 = some r → RN xs L iX7_describe (d + 2) 29 [(0, .inr (.inr t)), (1, .inl a1), (2, .inl (m_rd h (m_rd h (m_rd h t 1) 2) a1)), (3, .inl x2)] [.inl s4] h1 (RVo r)) ?_ ?_ hF
  · intro s4 hF
    refine RN.blk (ops := [(29, .istore 4), (31, .iload 4)]) (pc' := 33) (lv' := [(4, .inl s4), (0, .inr (.inr t)), (1, .inl a1), (2, .inl (m_rd h (m_rd h (m_rd h t 1) 2) a1)), (3, .inl x2)]) (st' := [.inl s4]) (h' := h1) (cs := []) (by decide +kernel) rfl trivial ?_
    refine jn_use (fun j5 => ∀ (s6 : Int), j5 s6 = some r → RN xs L iX7_describe (d + 2) 52 [(0, .inr (.inr t)), (1, .inl a1), (2, .inl (m_rd h (m_rd h (m_rd h t 1) 2) a1)), (3, .inl x2), (4, .inl s4)] [.inl s6] h1 (RVo r)) ?_ ?_ hF
    · intro s6 hF
      obtain ⟨hc, hF⟩ := gd_of hF
      refine RN.blk (ops := [(52, .istore 5), (54, .aload_n 0), (55, .getfield 25), (58, .iconst 0), (59, .iload_n 1), (60, .i2l), (61, .lastore), (62, .aload_n 0), (63, .getfield 25), (66, .iconst 1), (67, .iload_n 2), (68, .i2l), (69, .lastore)]) (pc' := 70) (lv' := [(5, .inl s6), (0, .inr (.inr t)), (1, .inl a1), (2, .inl (m_rd h (m_rd h (m_rd h t 1) 2) a1)), (3, .inl x2), (4, .inl s4)]) (st' := []) (h' := (m_wr (m_wr h1 (m_rd h1 t 4) 0 a1) (m_rd (m_wr h1 (m_rd h1 t 4) 0 a1) t 4) 1 (m_rd h (m_rd h (m_rd h t 1) 2) a1))) (cs := [GK h1 t 7, GI h1 (m_rd h1 t 4) 2 0, GK h1 t 7, GI h1 (m_rd (m_wr h1 (m_rd h1 t 4) 0 a1) t 4) 2 1]) (by decide +kernel) rfl hc ?_
      obtain ⟨h7, he, hF⟩ := hl_of hF
      refine RN.hl he ?_
      obtain ⟨hc, hF⟩ := gd_of hF
      refine RN.blk (ops := [(70, .aload_n 0), (71, .getfield 25), (74, .iconst 2), (75, .aload_n 0), (76, .getfield 12), (79, .iload_n 2), (80, .iconst 0)]) (pc' := 81) (lv' := [(5, .inl s6), (0, .inr (.inr t)), (1, .inl a1), (2, .inl (m_rd h (m_rd h (m_rd h t 1) 2) a1)), (3, .inl x2), (4, .inl s4)]) (st' := [.inl 0, .inl (m_rd h (m_rd h (m_rd h t 1) 2) a1), .inr (.inr (m_rd h7 t 0)), .inl 2, .inr (.inr (m_rd h7 t 4))]) (h' := h7) (cs := [GK h7 t 7, GK h7 t 7]) (by decide +kernel) rfl hc ?_
      obtain ⟨hc, hF⟩ := gd_of hF
      obtain ⟨x9, h8, hG, hF⟩ := bd_of hF
      refine RN.cv (i := 116) (k := 87) (q2 := iX8_digitOf) (as := [.inr (.inr (m_rd h7 t 0)), .inl (m_rd h (m_rd h (m_rd h t 1) 2) a1), .inl 0]) (r := [.inl 2, .inr (.inr (m_rd h7 t 4))]) (v := some (.inl x9)) (h1 := h8) (by decide +kernel) rfl rfl rfl rfl rfl (rcv_ok hc.1) (CX8_digitOf (d := d) hG) ?_
      obtain ⟨hc, hF⟩ := gd_of hF
      refine RN.blk (ops := [(84, .i2l), (85, .lastore), (86, .aload_n 0), (87, .getfield 25), (90, .iconst 3), (91, .aload_n 0), (92, .getfield 12), (95, .iload_n 2), (96, .aload_n 0), (97, .getfield 12), (100, .getfield 120), (103, .iconst 1), (104, .isub)]) (pc' := 105) (lv' := [(5, .inl s6), (0, .inr (.inr t)), (1, .inl a1), (2, .inl (m_rd h (m_rd h (m_rd h t 1) 2) a1)), (3, .inl x2), (4, .inl s4)]) (st' := [.inl (m_w32 ((m_rd (m_wr h8 (m_rd h7 t 4) 2 x9) (m_rd (m_wr h8 (m_rd h7 t 4) 2 x9) t 0) 1) - 1)), .inl (m_rd h (m_rd h (m_rd h t 1) 2) a1), .inr (.inr (m_rd (m_wr h8 (m_rd h7 t 4) 2 x9) t 0)), .inl 3, .inr (.inr (m_rd (m_wr h8 (m_rd h7 t 4) 2 x9) t 4))]) (h' := (m_wr h8 (m_rd h7 t 4) 2 x9)) (cs := [GI h8 (m_rd h7 t 4) 2 2, GK h8 t 7, GK h8 t 7, GK h8 t 7, GK h8 (m_rd (m_wr h8 (m_rd h7 t 4) 2 x9) t 0) 8]) (by decide +kernel) rfl hc ?_
      obtain ⟨hc, hF⟩ := gd_of hF
      obtain ⟨x11, h10, hG, hF⟩ := bd_of hF
      refine RN.cv (i := 116) (k := 87) (q2 := iX8_digitOf) (as := [.inr (.inr (m_rd (m_wr h8 (m_rd h7 t 4) 2 x9) t 0)), .inl (m_rd h (m_rd h (m_rd h t 1) 2) a1), .inl (m_w32 ((m_rd (m_wr h8 (m_rd h7 t 4) 2 x9) (m_rd (m_wr h8 (m_rd h7 t 4) 2 x9) t 0) 1) - 1))]) (r := [.inl 3, .inr (.inr (m_rd (m_wr h8 (m_rd h7 t 4) 2 x9) t 4))]) (v := some (.inl x11)) (h1 := h10) (by decide +kernel) rfl rfl rfl rfl rfl (rcv_ok hc.1) (CX8_digitOf (d := d) hG) ?_
      obtain ⟨hc, hF⟩ := gd_of hF
      refine RN.blk (ops := [(108, .i2l), (109, .lastore), (110, .aload_n 0), (111, .getfield 25), (114, .iconst 4), (115, .iload 5), (117, .i2l), (118, .lastore)]) (pc' := 119) (lv' := [(5, .inl s6), (0, .inr (.inr t)), (1, .inl a1), (2, .inl (m_rd h (m_rd h (m_rd h t 1) 2) a1)), (3, .inl x2), (4, .inl s4)]) (st' := []) (h' := (m_wr (m_wr h10 (m_rd (m_wr h8 (m_rd h7 t 4) 2 x9) t 4) 3 x11) (m_rd (m_wr h10 (m_rd (m_wr h8 (m_rd h7 t 4) 2 x9) t 4) 3 x11) t 4) 4 s6)) (cs := [GI h10 (m_rd (m_wr h8 (m_rd h7 t 4) 2 x9) t 4) 2 3, GK h10 t 7, GI h10 (m_rd (m_wr h10 (m_rd (m_wr h8 (m_rd h7 t 4) 2 x9) t 4) 3 x11) t 4) 2 4]) (by decide +kernel) rfl hc ?_
      obtain ⟨h12, he, hF⟩ := hl_of hF
      refine RN.hl he ?_
      obtain ⟨hc, hF⟩ := gd_of hF
      refine RN.blk (ops := [(119, .aload_n 0), (120, .getfield 25), (123, .iconst 5), (124, .iload 4)]) (pc' := 126) (lv' := [(5, .inl s6), (0, .inr (.inr t)), (1, .inl a1), (2, .inl (m_rd h (m_rd h (m_rd h t 1) 2) a1)), (3, .inl x2), (4, .inl s4)]) (st' := [.inl s4, .inl 5, .inr (.inr (m_rd h12 t 4))]) (h' := h12) (cs := [GK h12 t 7]) (by decide +kernel) rfl hc ?_
      refine jn_use (fun j13 => ∀ (s14 : Int), j13 s14 = some r → RN xs L iX7_describe (d + 2) 144 [(0, .inr (.inr t)), (3, .inl x2), (4, .inl s4), (5, .inl s6)] [.inr (.inl s14), .inl 5, .inr (.inr (m_rd h12 t 4))] h12 (RVo r)) ?_ ?_ hF
      · intro s14 hF
        obtain ⟨hc, hF⟩ := gd_of hF
        refine RN.blk (ops := [(144, .lastore), (145, .aload_n 0), (146, .getfield 25), (149, .bipush 6), (151, .iload 4)]) (pc' := 153) (lv' := [(0, .inr (.inr t)), (3, .inl x2), (4, .inl s4), (5, .inl s6)]) (st' := [.inl s4, .inl 6, .inr (.inr (m_rd (m_wr h12 (m_rd h12 t 4) 5 s14) t 4))]) (h' := (m_wr h12 (m_rd h12 t 4) 5 s14)) (cs := [GI h12 (m_rd h12 t 4) 2 5, GK h12 t 7]) (by decide +kernel) rfl hc ?_
        refine jn_use (fun j15 => ∀ (s16 : Int), j15 s16 = some r → RN xs L iX7_describe (d + 2) 171 [(0, .inr (.inr t)), (3, .inl x2), (4, .inl s4)] [.inr (.inl s16), .inl 6, .inr (.inr (m_rd (m_wr h12 (m_rd h12 t 4) 5 s14) t 4))] (m_wr h12 (m_rd h12 t 4) 5 s14) (RVo r)) ?_ ?_ hF
        · intro s16 hF
          obtain ⟨hc, hF⟩ := gd_of hF
          refine RN.blk (ops := [(171, .lastore)]) (pc' := 172) (lv' := [(0, .inr (.inr t)), (3, .inl x2), (4, .inl s4)]) (st' := []) (h' := (m_wr (m_wr h12 (m_rd h12 t 4) 5 s14) (m_rd (m_wr h12 (m_rd h12 t 4) 5 s14) t 4) 6 s16)) (cs := [GI h12 (m_rd (m_wr h12 (m_rd h12 t 4) 5 s14) t 4) 2 6]) (by decide +kernel) rfl hc ?_
          obtain ⟨h17, he, hF⟩ := hl_of hF
          refine RN.hl he ?_
          obtain ⟨hc, hF⟩ := gd_of hF
          refine RN.blk (ops := [(172, .aload_n 0), (173, .getfield 25), (176, .bipush 7), (178, .iload 4)]) (pc' := 180) (lv' := [(0, .inr (.inr t)), (3, .inl x2), (4, .inl s4)]) (st' := [.inl s4, .inl 7, .inr (.inr (m_rd h17 t 4))]) (h' := h17) (cs := [GK h17 t 7]) (by decide +kernel) rfl hc ?_
          rcases it_of hF with ⟨hb, hF⟩ | ⟨hb, hF⟩
          · refine RN.ift (cd := .eq) (off := 19) (tgt := 199) (by decide +kernel) (mif_eq hb) ?_
            refine RN.blk (ops := [(199, .lconst 0)]) (pc' := 200) (lv' := [(0, .inr (.inr t)), (3, .inl x2), (4, .inl s4)]) (st' := [.inr (.inl 0), .inl 7, .inr (.inr (m_rd h17 t 4))]) (h' := h17) (cs := []) (by decide +kernel) rfl trivial ?_
            obtain ⟨hc, hF⟩ := gd_of hF
            refine RN.blk (ops := [(200, .lastore)]) (pc' := 201) (lv' := [(0, .inr (.inr t)), (3, .inl x2), (4, .inl s4)]) (st' := []) (h' := (m_wr h17 (m_rd h17 t 4) 7 0)) (cs := [GI h17 (m_rd h17 t 4) 2 7]) (by decide +kernel) rfl hc ?_
            exact RN.vR (by decide +kernel) rfl hF
          · refine RN.iff (cd := .eq) (off := 19) (tgt := 199) (by decide +kernel) (mif_eqn hb) ?_
            obtain ⟨hc, hF⟩ := gd_of hF
            refine RN.blk (ops := [(183, .aload_n 0), (184, .getfield 21), (187, .getfield 44), (190, .getfield 123), (193, .iload_n 3), (194, .iaload), (195, .i2l)]) (pc' := 196) (lv' := [(0, .inr (.inr t)), (3, .inl x2), (4, .inl s4)]) (st' := [.inr (.inl (m_rd h17 (m_rd h17 (m_rd h17 (m_rd h17 t 1) 0) 1) x2)), .inl 7, .inr (.inr (m_rd h17 t 4))]) (h' := h17) (cs := [GK h17 t 7, GK h17 (m_rd h17 t 1) 10, GK h17 (m_rd h17 (m_rd h17 t 1) 0) 4, GI h17 (m_rd h17 (m_rd h17 (m_rd h17 t 1) 0) 1) 1 x2]) (by decide +kernel) rfl hc ?_
            refine RN.goto (off := 4) (tgt := 200) (by decide +kernel) ?_
            obtain ⟨hc, hF⟩ := gd_of hF
            refine RN.blk (ops := [(200, .lastore)]) (pc' := 201) (lv' := [(0, .inr (.inr t)), (3, .inl x2), (4, .inl s4)]) (st' := []) (h' := (m_wr h17 (m_rd h17 t 4) 7 (m_rd h17 (m_rd h17 (m_rd h17 (m_rd h17 t 1) 0) 1) x2))) (cs := [GI h17 (m_rd h17 t 4) 2 7]) (by decide +kernel) rfl hc ?_
            exact RN.vR (by decide +kernel) rfl hF
        · intro j15 Jj15 hF
          rcases it_of hF with ⟨hb, hF⟩ | ⟨hb, hF⟩
          · refine RN.ift (cd := .eq) (off := 17) (tgt := 170) (by decide +kernel) (mif_eq hb) ?_
            refine RN.blk (ops := [(170, .lconst 0)]) (pc' := 171) (lv' := [(0, .inr (.inr t)), (3, .inl x2), (4, .inl s4), (5, .inl s6)]) (st' := [.inr (.inl 0), .inl 6, .inr (.inr (m_rd (m_wr h12 (m_rd h12 t 4) 5 s14) t 4))]) (h' := (m_wr h12 (m_rd h12 t 4) 5 s14)) (cs := []) (by decide +kernel) rfl trivial ?_
            exact RN.sub (Jj15 _ hF) (sub_cons rfl (sub_cons rfl (sub_cons rfl sub_nil)))
          · refine RN.iff (cd := .eq) (off := 17) (tgt := 170) (by decide +kernel) (mif_eqn hb) ?_
            obtain ⟨hc, hF⟩ := gd_of hF
            refine RN.blk (ops := [(156, .aload_n 0), (157, .getfield 12), (160, .getfield 83), (163, .iload 5), (165, .iaload), (166, .i2l)]) (pc' := 167) (lv' := [(0, .inr (.inr t)), (3, .inl x2), (4, .inl s4), (5, .inl s6)]) (st' := [.inr (.inl (m_rd (m_wr h12 (m_rd h12 t 4) 5 s14) (m_rd (m_wr h12 (m_rd h12 t 4) 5 s14) (m_rd (m_wr h12 (m_rd h12 t 4) 5 s14) t 0) 5) s6)), .inl 6, .inr (.inr (m_rd (m_wr h12 (m_rd h12 t 4) 5 s14) t 4))]) (h' := (m_wr h12 (m_rd h12 t 4) 5 s14)) (cs := [GK h12 t 7, GK h12 (m_rd (m_wr h12 (m_rd h12 t 4) 5 s14) t 0) 8, GI h12 (m_rd (m_wr h12 (m_rd h12 t 4) 5 s14) (m_rd (m_wr h12 (m_rd h12 t 4) 5 s14) t 0) 5) 1 s6]) (by decide +kernel) rfl hc ?_
            refine RN.goto (off := 4) (tgt := 171) (by decide +kernel) ?_
            exact RN.sub (Jj15 _ hF) (sub_cons rfl (sub_cons rfl (sub_cons rfl sub_nil)))
      · intro j13 Jj13 hF
        rcases it_of hF with ⟨hb, hF⟩ | ⟨hb, hF⟩
        · refine RN.ift (cd := .eq) (off := 17) (tgt := 143) (by decide +kernel) (mif_eq hb) ?_
          refine RN.blk (ops := [(143, .lconst 0)]) (pc' := 144) (lv' := [(5, .inl s6), (0, .inr (.inr t)), (1, .inl a1), (2, .inl (m_rd h (m_rd h (m_rd h t 1) 2) a1)), (3, .inl x2), (4, .inl s4)]) (st' := [.inr (.inl 0), .inl 5, .inr (.inr (m_rd h12 t 4))]) (h' := h12) (cs := []) (by decide +kernel) rfl trivial ?_
          exact RN.sub (Jj13 _ hF) (sub_cons rfl (sub_cons rfl (sub_cons rfl (sub_cons rfl sub_nil))))
        · refine RN.iff (cd := .eq) (off := 17) (tgt := 143) (by decide +kernel) (mif_eqn hb) ?_
          obtain ⟨hc, hF⟩ := gd_of hF
          refine RN.blk (ops := [(129, .aload_n 0), (130, .getfield 21), (133, .getfield 79), (136, .iload 5), (138, .iaload), (139, .i2l)]) (pc' := 140) (lv' := [(5, .inl s6), (0, .inr (.inr t)), (1, .inl a1), (2, .inl (m_rd h (m_rd h (m_rd h t 1) 2) a1)), (3, .inl x2), (4, .inl s4)]) (st' := [.inr (.inl (m_rd h12 (m_rd h12 (m_rd h12 t 1) 3) s6)), .inl 5, .inr (.inr (m_rd h12 t 4))]) (h' := h12) (cs := [GK h12 t 7, GK h12 (m_rd h12 t 1) 10, GI h12 (m_rd h12 (m_rd h12 t 1) 3) 1 s6]) (by decide +kernel) rfl hc ?_
          refine RN.goto (off := 4) (tgt := 144) (by decide +kernel) ?_
          exact RN.sub (Jj13 _ hF) (sub_cons rfl (sub_cons rfl (sub_cons rfl (sub_cons rfl sub_nil))))
    · intro j5 Jj5 hF
      rcases it_of hF with ⟨hb, hF⟩ | ⟨hb, hF⟩
      · refine RN.ift (cd := .eq) (off := 18) (tgt := 51) (by decide +kernel) (mif_eq hb) ?_
        refine RN.blk (ops := [(51, .iconst (-1))]) (pc' := 52) (lv' := [(4, .inl s4), (0, .inr (.inr t)), (1, .inl a1), (2, .inl (m_rd h (m_rd h (m_rd h t 1) 2) a1)), (3, .inl x2)]) (st' := [.inl (-1)]) (h' := h1) (cs := []) (by decide +kernel) rfl trivial ?_
        exact RN.sub (Jj5 _ hF) (sub_cons rfl (sub_cons rfl (sub_cons rfl (sub_cons rfl (sub_cons rfl sub_nil)))))
      · refine RN.iff (cd := .eq) (off := 18) (tgt := 51) (by decide +kernel) (mif_eqn hb) ?_
        obtain ⟨hc, hF⟩ := gd_of hF
        refine RN.blk (ops := [(36, .aload_n 0), (37, .getfield 21), (40, .getfield 44), (43, .getfield 111), (46, .iload_n 3), (47, .iaload)]) (pc' := 48) (lv' := [(4, .inl s4), (0, .inr (.inr t)), (1, .inl a1), (2, .inl (m_rd h (m_rd h (m_rd h t 1) 2) a1)), (3, .inl x2)]) (st' := [.inl (m_rd h1 (m_rd h1 (m_rd h1 (m_rd h1 t 1) 0) 3) x2)]) (h' := h1) (cs := [GK h1 t 7, GK h1 (m_rd h1 t 1) 10, GK h1 (m_rd h1 (m_rd h1 t 1) 0) 4, GI h1 (m_rd h1 (m_rd h1 (m_rd h1 t 1) 0) 3) 1 x2]) (by decide +kernel) rfl hc ?_
        refine RN.goto (off := 4) (tgt := 52) (by decide +kernel) ?_
        exact RN.sub (Jj5 _ hF) (sub_cons rfl (sub_cons rfl (sub_cons rfl (sub_cons rfl (sub_cons rfl sub_nil)))))
  · intro j3 Jj3 hF
    rcases it_of hF with ⟨hb, hF⟩ | ⟨hb, hF⟩
    · refine RN.ict (cd := .eq) (off := 7) (tgt := 28) (by decide +kernel) (mif_eq hb) ?_
      refine RN.blk (ops := [(28, .iconst 0)]) (pc' := 29) (lv' := [(3, .inl x2), (2, .inl (m_rd h (m_rd h (m_rd h t 1) 2) a1)), (0, .inr (.inr t)), (1, .inl a1)]) (st' := [.inl 0]) (h' := h1) (cs := []) (by decide +kernel) rfl trivial ?_
      exact RN.sub (Jj3 _ hF) (sub_cons rfl (sub_cons rfl (sub_cons rfl (sub_cons rfl sub_nil))))
    · refine RN.icf (cd := .eq) (off := 7) (tgt := 28) (by decide +kernel) (mif_eqn hb) ?_
      refine RN.blk (ops := [(24, .iconst 1)]) (pc' := 25) (lv' := [(3, .inl x2), (2, .inl (m_rd h (m_rd h (m_rd h t 1) 2) a1)), (0, .inr (.inr t)), (1, .inl a1)]) (st' := [.inl 1]) (h' := h1) (cs := []) (by decide +kernel) rfl trivial ?_
      refine RN.goto (off := 4) (tgt := 29) (by decide +kernel) ?_
      exact RN.sub (Jj3 _ hF) (sub_cons rfl (sub_cons rfl (sub_cons rfl (sub_cons rfl sub_nil))))
noncomputable def FX7_choose_L72 (u0 : Int) (u1 : Int) (K0 : Int → MH → Option (Int × MH)) : Nat → Int → Int → Int → MH → Option (Int × MH)
  | 0, _, _, _, _ => none
  | f + 1, v2, v3, v5, h =>
    gd [GK h u0 7, GK h (m_rd h u0 1) 10] (
     (if v5 < (m_rd h (m_rd h u0 1) 1) then
      gd [GK h u0 7] (bv (FX7_describe u0 v5 h) (fun h1 =>
       gd [GK h1 u0 7] (
        gd [GK h1 u1 5] (bd (FX5_worth u1 (m_rd h1 u0 4) h1) (fun x3 h2 =>
         (if 0 < (m_lcmp x3 v3) then
          FX7_choose_L72 u0 u1 K0 f v5 x3 (m_w32 (v5 + 1)) h2
         else
          FX7_choose_L72 u0 u1 K0 f v2 v3 (m_w32 (v5 + 1)) h2))))))
     else
      K0 v2 h))
theorem CX7_choose_L72 {d : Nat} {u0 : Int} {u1 : Int} {K0 : Int → MH → Option (Int × MH)} {r : Int × MH} (hK0 : ∀ (w2 : Int) (h : MH), K0 w2 h = some r → RN xs L iX7_choose (d + 3) 119 [(2, .inl w2)] [] h (RIo r)) : ∀ (f : Nat) (v2 : Int) (v3 : Int) (v5 : Int) (h : MH), FX7_choose_L72 u0 u1 K0 f v2 v3 v5 h = some r → RN xs L iX7_choose (d + 3) 72 [(0, .inr (.inr u0)), (1, .inr (.inr u1)), (2, .inl v2), (3, .inr (.inl v3)), (5, .inl v5)] [] h (RIo r) := by
  intro f
  induction f with
  | zero =>
    intro v2 v3 v5 h hF
    cases hF
  | succ f ih =>
    intro v2 v3 v5 h hF
    unfold FX7_choose_L72 at hF
    obtain ⟨hc, hF⟩ := gd_of hF
    refine RN.blk (ops := [(72, .iload 5), (74, .aload_n 0), (75, .getfield 21), (78, .getfield 89)]) (pc' := 81) (lv' := [(0, .inr (.inr u0)), (1, .inr (.inr u1)), (2, .inl v2), (3, .inr (.inl v3)), (5, .inl v5)]) (st' := [.inl (m_rd h (m_rd h u0 1) 1), .inl v5]) (h' := h) (cs := [GK h u0 7, GK h (m_rd h u0 1) 10]) (by decide +kernel) rfl hc ?_
    rcases it_of hF with ⟨hb, hF⟩ | ⟨hb, hF⟩
    · refine RN.icf (cd := .ge) (off := 38) (tgt := 119) (by decide +kernel) (mif_gen hb) ?_
      refine RN.blk (ops := [(84, .aload_n 0), (85, .iload 5)]) (pc' := 87) (lv' := [(0, .inr (.inr u0)), (1, .inr (.inr u1)), (2, .inl v2), (3, .inr (.inl v3)), (5, .inl v5)]) (st' := [.inl v5, .inr (.inr u0)]) (h' := h) (cs := []) (by decide +kernel) rfl trivial ?_
      obtain ⟨hc, hF⟩ := gd_of hF
      obtain ⟨h1, hG, hF⟩ := bv_of hF
      refine RN.cv (i := 96) (k := 71) (q2 := iX7_describe) (as := [.inr (.inr u0), .inl v5]) (r := []) (v := none) (h1 := h1) (by decide +kernel) rfl rfl rfl rfl rfl (rcv_ok hc.1) (CX7_describe (d := d) hG) ?_
      obtain ⟨hc, hF⟩ := gd_of hF
      refine RN.blk (ops := [(90, .aload_n 1), (91, .aload_n 0), (92, .getfield 25)]) (pc' := 95) (lv' := [(0, .inr (.inr u0)), (1, .inr (.inr u1)), (2, .inl v2), (3, .inr (.inl v3)), (5, .inl v5)]) (st' := [.inr (.inr (m_rd h1 u0 4)), .inr (.inr u1)]) (h' := h1) (cs := [GK h1 u0 7]) (by decide +kernel) rfl hc ?_
      obtain ⟨hc, hF⟩ := gd_of hF
      obtain ⟨x3, h2, hG, hF⟩ := bd_of hF
      refine RN.cv (i := 99) (k := 52) (q2 := iX5_worth) (as := [.inr (.inr u1), .inr (.inr (m_rd h1 u0 4))]) (r := []) (v := some (.inr (.inl x3))) (h1 := h2) (by decide +kernel) rfl rfl rfl rfl rfl (rcv_ok hc.1) (CX5_worth (d := d) hG) ?_
      refine RN.blk (ops := [(98, .lstore 6), (100, .lload 6), (102, .lload_n 3), (103, .lcmp)]) (pc' := 104) (lv' := [(6, .inr (.inl x3)), (0, .inr (.inr u0)), (1, .inr (.inr u1)), (2, .inl v2), (3, .inr (.inl v3)), (5, .inl v5)]) (st' := [.inl (m_lcmp x3 v3)]) (h' := h2) (cs := []) (by decide +kernel) rfl trivial ?_
      rcases it_of hF with ⟨hb, hF⟩ | ⟨hb, hF⟩
      · refine RN.iff (cd := .le) (off := 9) (tgt := 113) (by decide +kernel) (mif_len hb) ?_
        refine RN.blk (ops := [(107, .lload 6), (109, .lstore_n 3), (110, .iload 5), (112, .istore_n 2)]) (pc' := 113) (lv' := [(2, .inl v5), (3, .inr (.inl x3)), (6, .inr (.inl x3)), (0, .inr (.inr u0)), (1, .inr (.inr u1)), (5, .inl v5)]) (st' := []) (h' := h2) (cs := []) (by decide +kernel) rfl trivial ?_
        refine RN.blk (ops := [(113, .iinc 5 1)]) (pc' := 116) (lv' := [(5, .inl (m_w32 (v5 + 1))), (2, .inl v5), (3, .inr (.inl x3)), (6, .inr (.inl x3)), (0, .inr (.inr u0)), (1, .inr (.inr u1))]) (st' := []) (h' := h2) (cs := []) (by decide +kernel) rfl trivial ?_
        refine RN.goto (off := -44) (tgt := 72) (by decide +kernel) ?_
        exact RN.sub (ih _ _ _ _ hF) (sub_cons rfl (sub_cons rfl (sub_cons rfl (sub_cons rfl (sub_cons rfl sub_nil)))))
      · refine RN.ift (cd := .le) (off := 9) (tgt := 113) (by decide +kernel) (mif_le hb) ?_
        refine RN.blk (ops := [(113, .iinc 5 1)]) (pc' := 116) (lv' := [(5, .inl (m_w32 (v5 + 1))), (6, .inr (.inl x3)), (0, .inr (.inr u0)), (1, .inr (.inr u1)), (2, .inl v2), (3, .inr (.inl v3))]) (st' := []) (h' := h2) (cs := []) (by decide +kernel) rfl trivial ?_
        refine RN.goto (off := -44) (tgt := 72) (by decide +kernel) ?_
        exact RN.sub (ih _ _ _ _ hF) (sub_cons rfl (sub_cons rfl (sub_cons rfl (sub_cons rfl (sub_cons rfl sub_nil)))))
    · refine RN.ict (cd := .ge) (off := 38) (tgt := 119) (by decide +kernel) (mif_ge hb) ?_
      exact RN.sub (hK0 _ _ hF) (sub_cons rfl sub_nil)
noncomputable def FX7_choose (t : Int) (a1 : Int) (h : MH) : Option (Int × MH) :=
  (if a1 = (-1) then
   gd [GK h t 7, GK h (m_rd h t 1) 10] (
    (if 0 < (m_rd h (m_rd h t 1) 1) then
     some (0, h)
    else
     some ((-1), h)))
  else
   gd [GK h t 7, GK h t 7, GK h (m_rd h t 1) 10, GI h (m_rd h t 4) 2 8, GK h t 7, GK h t 7] (
    gd [GK h (m_rd (m_wr h (m_rd h t 4) 8 (m_rd h (m_rd h t 1) 1)) t 1) 10] (bd (FX10_bagsOfAll (m_rd (m_wr h (m_rd h t 4) 8 (m_rd h (m_rd h t 1) 1)) t 1) (m_wr h (m_rd h t 4) 8 (m_rd h (m_rd h t 1) 1))) (fun x2 h1 =>
     gd [GI h1 (m_rd (m_wr h (m_rd h t 4) 8 (m_rd h (m_rd h t 1) 1)) t 4) 2 9] (
      hl (m_wr h1 (m_rd (m_wr h (m_rd h t 4) 8 (m_rd h (m_rd h t 1) 1)) t 4) 9 x2) (fun h3 =>
       gd [GK h3 t 7, GK h3 t 7, GK h3 (m_rd h3 t 1) 10, GI h3 (m_rd h3 t 4) 2 10] (
        FX7_choose_L72 t a1 (fun w4 h5 =>
         some (w4, h5)) FU (-1) 0 0 (m_wr h3 (m_rd h3 t 4) 10 (m_rd h3 (m_rd h3 t 1) 6)))))))))
theorem CX7_choose {d : Nat} {t : Int} {a1 : Int} {h : MH} {r : Int × MH} (hF : FX7_choose t a1 h = some r) : RN xs L iX7_choose (d + 3) 0 (lvE 0 [.inr (.inr t), .inr (.inr a1)]) [] h (RIo r) := by
  unfold FX7_choose at hF
  refine RN.blk (ops := [(0, .aload_n 1)]) (pc' := 1) (lv' := [(0, .inr (.inr t)), (1, .inr (.inr a1))]) (st' := [.inr (.inr a1)]) (h' := h) (cs := []) (by decide +kernel) rfl trivial ?_
  rcases it_of hF with ⟨hb, hF⟩ | ⟨hb, hF⟩
  · refine RN.nnf (off := 19) (tgt := 20) (by decide +kernel) hb ?_
    obtain ⟨hc, hF⟩ := gd_of hF
    refine RN.blk (ops := [(4, .aload_n 0), (5, .getfield 21), (8, .getfield 89)]) (pc' := 11) (lv' := [(0, .inr (.inr t)), (1, .inr (.inr a1))]) (st' := [.inl (m_rd h (m_rd h t 1) 1)]) (h' := h) (cs := [GK h t 7, GK h (m_rd h t 1) 10]) (by decide +kernel) rfl hc ?_
    rcases it_of hF with ⟨hb, hF⟩ | ⟨hb, hF⟩
    · refine RN.iff (cd := .le) (off := 7) (tgt := 18) (by decide +kernel) (mif_len hb) ?_
      refine RN.blk (ops := [(14, .iconst 0)]) (pc' := 15) (lv' := [(0, .inr (.inr t)), (1, .inr (.inr a1))]) (st' := [.inl 0]) (h' := h) (cs := []) (by decide +kernel) rfl trivial ?_
      refine RN.goto (off := 4) (tgt := 19) (by decide +kernel) ?_
      exact RN.iR (by decide +kernel) rfl hF
    · refine RN.ift (cd := .le) (off := 7) (tgt := 18) (by decide +kernel) (mif_le hb) ?_
      refine RN.blk (ops := [(18, .iconst (-1))]) (pc' := 19) (lv' := [(0, .inr (.inr t)), (1, .inr (.inr a1))]) (st' := [.inl (-1)]) (h' := h) (cs := []) (by decide +kernel) rfl trivial ?_
      exact RN.iR (by decide +kernel) rfl hF
  · refine RN.nnt (off := 19) (tgt := 20) (by decide +kernel) hb ?_
    obtain ⟨hc, hF⟩ := gd_of hF
    refine RN.blk (ops := [(20, .aload_n 0), (21, .getfield 25), (24, .bipush 8), (26, .aload_n 0), (27, .getfield 21), (30, .getfield 89), (33, .i2l), (34, .lastore), (35, .aload_n 0), (36, .getfield 25), (39, .bipush 9), (41, .aload_n 0), (42, .getfield 21)]) (pc' := 45) (lv' := [(0, .inr (.inr t)), (1, .inr (.inr a1))]) (st' := [.inr (.inr (m_rd (m_wr h (m_rd h t 4) 8 (m_rd h (m_rd h t 1) 1)) t 1)), .inl 9, .inr (.inr (m_rd (m_wr h (m_rd h t 4) 8 (m_rd h (m_rd h t 1) 1)) t 4))]) (h' := (m_wr h (m_rd h t 4) 8 (m_rd h (m_rd h t 1) 1))) (cs := [GK h t 7, GK h t 7, GK h (m_rd h t 1) 10, GI h (m_rd h t 4) 2 8, GK h t 7, GK h t 7]) (by decide +kernel) rfl hc ?_
    obtain ⟨hc, hF⟩ := gd_of hF
    obtain ⟨x2, h1, hG, hF⟩ := bd_of hF
    refine RN.cv (i := 92) (k := 106) (q2 := iX10_bagsOfAll) (as := [.inr (.inr (m_rd (m_wr h (m_rd h t 4) 8 (m_rd h (m_rd h t 1) 1)) t 1))]) (r := [.inl 9, .inr (.inr (m_rd (m_wr h (m_rd h t 4) 8 (m_rd h (m_rd h t 1) 1)) t 4))]) (v := some (.inl x2)) (h1 := h1) (by decide +kernel) rfl rfl rfl rfl rfl (rcv_ok hc.1) (CX10_bagsOfAll (d := d + 1) hG) ?_
    obtain ⟨hc, hF⟩ := gd_of hF
    refine RN.blk (ops := [(48, .i2l), (49, .lastore)]) (pc' := 50) (lv' := [(0, .inr (.inr t)), (1, .inr (.inr a1))]) (st' := []) (h' := (m_wr h1 (m_rd (m_wr h (m_rd h t 4) 8 (m_rd h (m_rd h t 1) 1)) t 4) 9 x2)) (cs := [GI h1 (m_rd (m_wr h (m_rd h t 4) 8 (m_rd h (m_rd h t 1) 1)) t 4) 2 9]) (by decide +kernel) rfl hc ?_
    obtain ⟨h3, he, hF⟩ := hl_of hF
    refine RN.hl he ?_
    obtain ⟨hc, hF⟩ := gd_of hF
    refine RN.blk (ops := [(50, .aload_n 0), (51, .getfield 25), (54, .bipush 10), (56, .aload_n 0), (57, .getfield 21), (60, .getfield 62), (63, .i2l), (64, .lastore), (65, .iconst (-1)), (66, .istore_n 2), (67, .lconst 0), (68, .lstore_n 3), (69, .iconst 0), (70, .istore 5)]) (pc' := 72) (lv' := [(5, .inl 0), (3, .inr (.inl 0)), (2, .inl (-1)), (0, .inr (.inr t)), (1, .inr (.inr a1))]) (st' := []) (h' := (m_wr h3 (m_rd h3 t 4) 10 (m_rd h3 (m_rd h3 t 1) 6))) (cs := [GK h3 t 7, GK h3 t 7, GK h3 (m_rd h3 t 1) 10, GI h3 (m_rd h3 t 4) 2 10]) (by decide +kernel) rfl hc ?_
    refine RN.sub (CX7_choose_L72 ?_ _ _ _ _ _ hF) (sub_cons rfl (sub_cons rfl (sub_cons rfl (sub_cons rfl (sub_cons rfl sub_nil)))))
    · intro w4 h5 hF
      refine RN.blk (ops := [(119, .iload_n 2)]) (pc' := 120) (lv' := [(2, .inl w4)]) (st' := [.inl w4]) (h' := h5) (cs := []) (by decide +kernel) rfl trivial ?_
      exact RN.iR (by decide +kernel) rfl hF
noncomputable def FX10_bagUp (t : Int) (a1 : Int) (h : MH) : Option (MH) :=
  gd [GK h t 10, GK h t 10, GI h (m_rd h t 4) 1 a1] (
   gd [GI h (m_rd h t 4) 1 a1] (
    hl (m_wr h (m_rd h t 4) a1 (m_mn (m_w32 ((m_rd h (m_rd h t 4) a1) + 1)) 999)) (fun h1 =>
     gd [GK h1 t 10, GI h1 (m_rd h1 t 3) 1 a1] (
      some (m_wr h1 (m_rd h1 t 3) a1 0)))))
theorem CX10_bagUp {d : Nat} {t : Int} {a1 : Int} {h : MH} {r : MH} (hF : FX10_bagUp t a1 h = some r) : RN xs L iX10_bagUp (d + 1) 0 (lvE 0 [.inr (.inr t), .inl a1]) [] h (RVo r) := by
  unfold FX10_bagUp at hF
  obtain ⟨hc, hF⟩ := gd_of hF
  refine RN.blk (ops := [(0, .aload_n 0), (1, .getfield 25), (4, .iload_n 1), (5, .aload_n 0), (6, .getfield 25), (9, .iload_n 1), (10, .iaload), (11, .iconst 1), (12, .iadd), (13, .sipush 999)]) (pc' := 16) (lv' := [(0, .inr (.inr t)), (1, .inl a1)]) (st' := [.inl 999, .inl (m_w32 ((m_rd h (m_rd h t 4) a1) + 1)), .inl a1, .inr (.inr (m_rd h t 4))]) (h' := h) (cs := [GK h t 10, GK h t 10, GI h (m_rd h t 4) 1 a1]) (by decide +kernel) rfl hc ?_
  refine RN.mn (i := 51) (by decide +kernel) rfl rfl ?_
  obtain ⟨hc, hF⟩ := gd_of hF
  refine RN.blk (ops := [(19, .iastore)]) (pc' := 20) (lv' := [(0, .inr (.inr t)), (1, .inl a1)]) (st' := []) (h' := (m_wr h (m_rd h t 4) a1 (m_mn (m_w32 ((m_rd h (m_rd h t 4) a1) + 1)) 999))) (cs := [GI h (m_rd h t 4) 1 a1]) (by decide +kernel) rfl hc ?_
  obtain ⟨h1, he, hF⟩ := hl_of hF
  refine RN.hl he ?_
  obtain ⟨hc, hF⟩ := gd_of hF
  refine RN.blk (ops := [(20, .aload_n 0), (21, .getfield 22), (24, .iload_n 1), (25, .iconst 0), (26, .iastore)]) (pc' := 27) (lv' := [(0, .inr (.inr t)), (1, .inl a1)]) (st' := []) (h' := (m_wr h1 (m_rd h1 t 3) a1 0)) (cs := [GK h1 t 10, GI h1 (m_rd h1 t 3) 1 a1]) (by decide +kernel) rfl hc ?_
  exact RN.vR (by decide +kernel) rfl hF
noncomputable def FX7_lay (t : Int) (a1 : Int) (h : MH) : Option (MH) :=
  gd [GK h t 7] (
   gd [GK h (m_rd h t 0) 8] (bd (FX8_hasHole (m_rd h t 0) a1 h) (fun x2 h1 =>
    (if x2 = 0 then
     gd [GK h1 t 7, GK h1 (m_rd h1 t 1) 10, GK h1 (m_rd h1 t 1) 10] (
      some (m_wr h1 (m_rd h1 t 1) 5 (m_w32 ((m_rd h1 (m_rd h1 t 1) 5) + 1))))
    else
     gd [GK h1 t 7, GK h1 (m_rd h1 t 1) 10, GI h1 (m_rd h1 (m_rd h1 t 1) 3) 1 a1, GK h1 t 7, GK h1 (m_rd h1 t 0) 8, GI h1 (m_rd h1 (m_rd h1 t 0) 5) 1 a1] (
      jn (fun (h4 : MH) =>
       gd [GK h4 t 7, GK h4 (m_rd h4 t 1) 10, GI h4 (m_rd h4 (m_rd h4 t 1) 3) 1 a1, GI h4 (m_rd h4 (m_rd h4 t 1) 3) 1 a1] (
        some (m_wr h4 (m_rd h4 (m_rd h4 t 1) 3) a1 (m_w32 ((m_rd h4 (m_rd h4 (m_rd h4 t 1) 3) a1) + 1))))) (fun j3 =>
       (if (m_rd h1 (m_rd h1 (m_rd h1 t 1) 3) a1) < (m_rd h1 (m_rd h1 (m_rd h1 t 0) 5) a1) then
        j3 h1
       else
        gd [GK h1 t 7] (
         gd [GK h1 (m_rd h1 t 1) 10] (bv (FX10_bagUp (m_rd h1 t 1) a1 h1) (fun h5 =>
          gd [GK h5 t 7] (
           j3 (m_wr h5 t 5 a1))))))))))))
theorem CX7_lay {d : Nat} {t : Int} {a1 : Int} {h : MH} {r : MH} (hF : FX7_lay t a1 h = some r) : RN xs L iX7_lay (d + 2) 0 (lvE 0 [.inr (.inr t), .inl a1]) [] h (RVo r) := by
  unfold FX7_lay at hF
  obtain ⟨hc, hF⟩ := gd_of hF
  refine RN.blk (ops := [(0, .aload_n 0), (1, .getfield 12), (4, .iload_n 1)]) (pc' := 5) (lv' := [(0, .inr (.inr t)), (1, .inl a1)]) (st' := [.inl a1, .inr (.inr (m_rd h t 0))]) (h' := h) (cs := [GK h t 7]) (by decide +kernel) rfl hc ?_
  obtain ⟨hc, hF⟩ := gd_of hF
  obtain ⟨x2, h1, hG, hF⟩ := bd_of hF
  refine RN.cv (i := 72) (k := 81) (q2 := iX8_hasHole) (as := [.inr (.inr (m_rd h t 0)), .inl a1]) (r := []) (v := some (.inl x2)) (h1 := h1) (by decide +kernel) rfl rfl rfl rfl rfl (rcv_ok hc.1) (CX8_hasHole (d := d + 1) hG) ?_
  rcases it_of hF with ⟨hb, hF⟩ | ⟨hb, hF⟩
  · refine RN.iff (cd := .ne) (off := 17) (tgt := 25) (by decide +kernel) (mif_nen hb) ?_
    obtain ⟨hc, hF⟩ := gd_of hF
    refine RN.blk (ops := [(11, .aload_n 0), (12, .getfield 21), (15, .dup), (16, .getfield 76), (19, .iconst 1), (20, .iadd), (21, .putfield 76)]) (pc' := 24) (lv' := [(0, .inr (.inr t)), (1, .inl a1)]) (st' := []) (h' := (m_wr h1 (m_rd h1 t 1) 5 (m_w32 ((m_rd h1 (m_rd h1 t 1) 5) + 1)))) (cs := [GK h1 t 7, GK h1 (m_rd h1 t 1) 10, GK h1 (m_rd h1 t 1) 10]) (by decide +kernel) rfl hc ?_
    exact RN.vR (by decide +kernel) rfl hF
  · refine RN.ift (cd := .ne) (off := 17) (tgt := 25) (by decide +kernel) (mif_ne hb) ?_
    obtain ⟨hc, hF⟩ := gd_of hF
    refine RN.blk (ops := [(25, .aload_n 0), (26, .getfield 21), (29, .getfield 79), (32, .iload_n 1), (33, .iaload), (34, .aload_n 0), (35, .getfield 12), (38, .getfield 83), (41, .iload_n 1), (42, .iaload)]) (pc' := 43) (lv' := [(0, .inr (.inr t)), (1, .inl a1)]) (st' := [.inl (m_rd h1 (m_rd h1 (m_rd h1 t 0) 5) a1), .inl (m_rd h1 (m_rd h1 (m_rd h1 t 1) 3) a1)]) (h' := h1) (cs := [GK h1 t 7, GK h1 (m_rd h1 t 1) 10, GI h1 (m_rd h1 (m_rd h1 t 1) 3) 1 a1, GK h1 t 7, GK h1 (m_rd h1 t 0) 8, GI h1 (m_rd h1 (m_rd h1 t 0) 5) 1 a1]) (by decide +kernel) rfl hc ?_
    refine jn_use (fun j3 => ∀ (h4 : MH), j3 h4 = some r → RN xs L iX7_lay (d + 2) 59 [(0, .inr (.inr t)), (1, .inl a1)] [] h4 (RVo r)) ?_ ?_ hF
    · intro h4 hF
      obtain ⟨hc, hF⟩ := gd_of hF
      refine RN.blk (ops := [(59, .aload_n 0), (60, .getfield 21), (63, .getfield 79), (66, .iload_n 1), (67, .dup2), (68, .iaload), (69, .iconst 1), (70, .iadd), (71, .iastore)]) (pc' := 72) (lv' := [(0, .inr (.inr t)), (1, .inl a1)]) (st' := []) (h' := (m_wr h4 (m_rd h4 (m_rd h4 t 1) 3) a1 (m_w32 ((m_rd h4 (m_rd h4 (m_rd h4 t 1) 3) a1) + 1)))) (cs := [GK h4 t 7, GK h4 (m_rd h4 t 1) 10, GI h4 (m_rd h4 (m_rd h4 t 1) 3) 1 a1, GI h4 (m_rd h4 (m_rd h4 t 1) 3) 1 a1]) (by decide +kernel) rfl hc ?_
      exact RN.vR (by decide +kernel) rfl hF
    · intro j3 Jj3 hF
      rcases it_of hF with ⟨hb, hF⟩ | ⟨hb, hF⟩
      · refine RN.ict (cd := .lt) (off := 16) (tgt := 59) (by decide +kernel) (mif_lt hb) ?_
        exact RN.sub (Jj3 _ hF) (sub_cons rfl (sub_cons rfl sub_nil))
      · refine RN.icf (cd := .lt) (off := 16) (tgt := 59) (by decide +kernel) (mif_ltn hb) ?_
        obtain ⟨hc, hF⟩ := gd_of hF
        refine RN.blk (ops := [(46, .aload_n 0), (47, .getfield 21), (50, .iload_n 1)]) (pc' := 51) (lv' := [(0, .inr (.inr t)), (1, .inl a1)]) (st' := [.inl a1, .inr (.inr (m_rd h1 t 1))]) (h' := h1) (cs := [GK h1 t 7]) (by decide +kernel) rfl hc ?_
        obtain ⟨hc, hF⟩ := gd_of hF
        obtain ⟨h5, hG, hF⟩ := bv_of hF
        refine RN.cv (i := 86) (k := 104) (q2 := iX10_bagUp) (as := [.inr (.inr (m_rd h1 t 1)), .inl a1]) (r := []) (v := none) (h1 := h5) (by decide +kernel) rfl rfl rfl rfl rfl (rcv_ok hc.1) (CX10_bagUp (d := d) hG) ?_
        obtain ⟨hc, hF⟩ := gd_of hF
        refine RN.blk (ops := [(54, .aload_n 0), (55, .iload_n 1), (56, .putfield 29)]) (pc' := 59) (lv' := [(0, .inr (.inr t)), (1, .inl a1)]) (st' := []) (h' := (m_wr h5 t 5 a1)) (cs := [GK h5 t 7]) (by decide +kernel) rfl hc ?_
        exact RN.sub (Jj3 _ hF) (sub_cons rfl (sub_cons rfl sub_nil))
noncomputable def FX7_step (t : Int) (a1 : Int) (h : MH) : Option (Int × MH) :=
  gd [GK h t 7] (
   gd [GK h t 7] (bd (FX7_choose t a1 h) (fun x2 h1 =>
    gd [GK h1 (m_rd h t 1) 10] (bd (FX10_takeOut (m_rd h t 1) x2 h1) (fun x4 h3 =>
     gd [GK h3 t 7, GK h3 t 7, GK h3 (m_rd (m_wr h3 t 5 (-1)) t 1) 10, GK h3 (m_rd (m_wr h3 t 5 (-1)) t 1) 10] (
      hl (m_wr (m_wr h3 t 5 (-1)) (m_rd (m_wr h3 t 5 (-1)) t 1) 6 (m_w32 ((m_rd (m_wr h3 t 5 (-1)) (m_rd (m_wr h3 t 5 (-1)) t 1) 6) + 1))) (fun h5 =>
       (if x4 = (-1) then
        some (x4, h5)
       else
        gd [GK h5 t 7] (
         gd [GK h5 (m_rd h5 t 3) 1] (bd (FX1_holeFor (m_rd h5 t 3) x4 h5) (fun x7 h6 =>
          gd [GK h6 t 7] (bv (FX7_lay t x7 h6) (fun h8 =>
           some (x4, h8))))))))))))))
theorem CX7_step {d : Nat} {t : Int} {a1 : Int} {h : MH} {r : Int × MH} (hF : FX7_step t a1 h = some r) : RN xs L iX7_step (d + 4) 0 (lvE 0 [.inr (.inr t), .inr (.inr a1)]) [] h (RIo r) := by
  unfold FX7_step at hF
  obtain ⟨hc, hF⟩ := gd_of hF
  refine RN.blk (ops := [(0, .aload_n 0), (1, .getfield 21), (4, .aload_n 0), (5, .aload_n 1)]) (pc' := 6) (lv' := [(0, .inr (.inr t)), (1, .inr (.inr a1))]) (st' := [.inr (.inr a1), .inr (.inr t), .inr (.inr (m_rd h t 1))]) (h' := h) (cs := [GK h t 7]) (by decide +kernel) rfl hc ?_
  obtain ⟨hc, hF⟩ := gd_of hF
  obtain ⟨x2, h1, hG, hF⟩ := bd_of hF
  refine RN.cv (i := 54) (k := 70) (q2 := iX7_choose) (as := [.inr (.inr t), .inr (.inr a1)]) (r := [.inr (.inr (m_rd h t 1))]) (v := some (.inl x2)) (h1 := h1) (by decide +kernel) rfl rfl rfl rfl rfl (rcv_ok hc.1) (CX7_choose (d := d) hG) ?_
  obtain ⟨hc, hF⟩ := gd_of hF
  obtain ⟨x4, h3, hG, hF⟩ := bd_of hF
  refine RN.cv (i := 58) (k := 103) (q2 := iX10_takeOut) (as := [.inr (.inr (m_rd h t 1)), .inl x2]) (r := []) (v := some (.inl x4)) (h1 := h3) (by decide +kernel) rfl rfl rfl rfl rfl (rcv_ok hc.1) (CX10_takeOut (d := d + 3) hG) ?_
  obtain ⟨hc, hF⟩ := gd_of hF
  refine RN.blk (ops := [(12, .istore_n 2), (13, .aload_n 0), (14, .iconst (-1)), (15, .putfield 29), (18, .aload_n 0), (19, .getfield 21), (22, .dup), (23, .getfield 62), (26, .iconst 1), (27, .iadd), (28, .putfield 62)]) (pc' := 31) (lv' := [(2, .inl x4), (0, .inr (.inr t)), (1, .inr (.inr a1))]) (st' := []) (h' := (m_wr (m_wr h3 t 5 (-1)) (m_rd (m_wr h3 t 5 (-1)) t 1) 6 (m_w32 ((m_rd (m_wr h3 t 5 (-1)) (m_rd (m_wr h3 t 5 (-1)) t 1) 6) + 1)))) (cs := [GK h3 t 7, GK h3 t 7, GK h3 (m_rd (m_wr h3 t 5 (-1)) t 1) 10, GK h3 (m_rd (m_wr h3 t 5 (-1)) t 1) 10]) (by decide +kernel) rfl hc ?_
  obtain ⟨h5, he, hF⟩ := hl_of hF
  refine RN.hl he ?_
  refine RN.blk (ops := [(31, .iload_n 2), (32, .iconst (-1))]) (pc' := 33) (lv' := [(2, .inl x4), (0, .inr (.inr t)), (1, .inr (.inr a1))]) (st' := [.inl (-1), .inl x4]) (h' := h5) (cs := []) (by decide +kernel) rfl trivial ?_
  rcases it_of hF with ⟨hb, hF⟩ | ⟨hb, hF⟩
  · refine RN.ict (cd := .eq) (off := 15) (tgt := 48) (by decide +kernel) (mif_eq hb) ?_
    refine RN.blk (ops := [(48, .iload_n 2)]) (pc' := 49) (lv' := [(2, .inl x4), (0, .inr (.inr t)), (1, .inr (.inr a1))]) (st' := [.inl x4]) (h' := h5) (cs := []) (by decide +kernel) rfl trivial ?_
    exact RN.iR (by decide +kernel) rfl hF
  · refine RN.icf (cd := .eq) (off := 15) (tgt := 48) (by decide +kernel) (mif_eqn hb) ?_
    obtain ⟨hc, hF⟩ := gd_of hF
    refine RN.blk (ops := [(36, .aload_n 0), (37, .aload_n 0), (38, .getfield 33), (41, .iload_n 2)]) (pc' := 42) (lv' := [(2, .inl x4), (0, .inr (.inr t)), (1, .inr (.inr a1))]) (st' := [.inl x4, .inr (.inr (m_rd h5 t 3)), .inr (.inr t)]) (h' := h5) (cs := [GK h5 t 7]) (by decide +kernel) rfl hc ?_
    obtain ⟨hc, hF⟩ := gd_of hF
    obtain ⟨x7, h6, hG, hF⟩ := bd_of hF
    refine RN.cv (i := 65) (k := 15) (q2 := iX1_holeFor) (as := [.inr (.inr (m_rd h5 t 3)), .inl x4]) (r := [.inr (.inr t)]) (v := some (.inl x7)) (h1 := h6) (by decide +kernel) rfl rfl rfl rfl rfl (rcv_ok hc.1) (CX1_holeFor (d := d + 1) hG) ?_
    obtain ⟨hc, hF⟩ := gd_of hF
    obtain ⟨h8, hG, hF⟩ := bv_of hF
    refine RN.cv (i := 68) (k := 69) (q2 := iX7_lay) (as := [.inr (.inr t), .inl x7]) (r := []) (v := none) (h1 := h8) (by decide +kernel) rfl rfl rfl rfl rfl (rcv_ok hc.1) (CX7_lay (d := d + 1) hG) ?_
    refine RN.blk (ops := [(48, .iload_n 2)]) (pc' := 49) (lv' := [(2, .inl x4), (0, .inr (.inr t)), (1, .inr (.inr a1))]) (st' := [.inl x4]) (h' := h8) (cs := []) (by decide +kernel) rfl trivial ?_
    exact RN.iR (by decide +kernel) rfl hF
noncomputable def FX7_steps_L2 (u0 : Int) (u1 : Int) (u2 : Int) (K0 : MH → Option (MH)) : Nat → Int → MH → Option (MH)
  | 0, _, _ => none
  | f + 1, v3, h =>
    (if v3 < u2 then
     gd [GK h u0 7, GK h (m_rd h u0 1) 10] (
      (if 0 < (m_rd h (m_rd h u0 1) 1) then
       gd [GK h u0 7] (bd (FX7_step u0 u1 h) (fun x2 h1 =>
        FX7_steps_L2 u0 u1 u2 K0 f (m_w32 (v3 + 1)) h1))
      else
       K0 h))
    else
     K0 h)
theorem CX7_steps_L2 {d : Nat} {u0 : Int} {u1 : Int} {u2 : Int} {K0 : MH → Option (MH)} {r : MH} (hK0 : ∀ (h : MH), K0 h = some r → RN xs L iX7_steps (d + 5) 29 [] [] h (RVo r)) : ∀ (f : Nat) (v3 : Int) (h : MH), FX7_steps_L2 u0 u1 u2 K0 f v3 h = some r → RN xs L iX7_steps (d + 5) 2 [(0, .inr (.inr u0)), (1, .inr (.inr u1)), (2, .inl u2), (3, .inl v3)] [] h (RVo r) := by
  intro f
  induction f with
  | zero =>
    intro v3 h hF
    cases hF
  | succ f ih =>
    intro v3 h hF
    unfold FX7_steps_L2 at hF
    refine RN.blk (ops := [(2, .iload_n 3), (3, .iload_n 2)]) (pc' := 4) (lv' := [(0, .inr (.inr u0)), (1, .inr (.inr u1)), (2, .inl u2), (3, .inl v3)]) (st' := [.inl u2, .inl v3]) (h' := h) (cs := []) (by decide +kernel) rfl trivial ?_
    rcases it_of hF with ⟨hb, hF⟩ | ⟨hb, hF⟩
    · refine RN.icf (cd := .ge) (off := 25) (tgt := 29) (by decide +kernel) (mif_gen hb) ?_
      obtain ⟨hc, hF⟩ := gd_of hF
      refine RN.blk (ops := [(7, .aload_n 0), (8, .getfield 21), (11, .getfield 89)]) (pc' := 14) (lv' := [(0, .inr (.inr u0)), (1, .inr (.inr u1)), (2, .inl u2), (3, .inl v3)]) (st' := [.inl (m_rd h (m_rd h u0 1) 1)]) (h' := h) (cs := [GK h u0 7, GK h (m_rd h u0 1) 10]) (by decide +kernel) rfl hc ?_
      rcases it_of hF with ⟨hb, hF⟩ | ⟨hb, hF⟩
      · refine RN.iff (cd := .le) (off := 15) (tgt := 29) (by decide +kernel) (mif_len hb) ?_
        refine RN.blk (ops := [(17, .aload_n 0), (18, .aload_n 1)]) (pc' := 19) (lv' := [(0, .inr (.inr u0)), (1, .inr (.inr u1)), (2, .inl u2), (3, .inl v3)]) (st' := [.inr (.inr u1), .inr (.inr u0)]) (h' := h) (cs := []) (by decide +kernel) rfl trivial ?_
        obtain ⟨hc, hF⟩ := gd_of hF
        obtain ⟨x2, h1, hG, hF⟩ := bd_of hF
        refine RN.cv (i := 125) (k := 68) (q2 := iX7_step) (as := [.inr (.inr u0), .inr (.inr u1)]) (r := []) (v := some (.inl x2)) (h1 := h1) (by decide +kernel) rfl rfl rfl rfl rfl (rcv_ok hc.1) (CX7_step (d := d) hG) ?_
        refine RN.blk (ops := [(22, .pop), (23, .iinc 3 1)]) (pc' := 26) (lv' := [(3, .inl (m_w32 (v3 + 1))), (0, .inr (.inr u0)), (1, .inr (.inr u1)), (2, .inl u2)]) (st' := []) (h' := h1) (cs := []) (by decide +kernel) rfl trivial ?_
        refine RN.goto (off := -24) (tgt := 2) (by decide +kernel) ?_
        exact RN.sub (ih _ _ hF) (sub_cons rfl (sub_cons rfl (sub_cons rfl (sub_cons rfl sub_nil))))
      · refine RN.ift (cd := .le) (off := 15) (tgt := 29) (by decide +kernel) (mif_le hb) ?_
        exact RN.sub (hK0 _ hF) sub_nil
    · refine RN.ict (cd := .ge) (off := 25) (tgt := 29) (by decide +kernel) (mif_ge hb) ?_
      exact RN.sub (hK0 _ hF) sub_nil
noncomputable def FX7_steps (t : Int) (a1 : Int) (a2 : Int) (h : MH) : Option (MH) :=
  FX7_steps_L2 t a1 a2 (fun h1 =>
   some h1) FU 0 h
theorem CX7_steps {d : Nat} {t : Int} {a1 : Int} {a2 : Int} {h : MH} {r : MH} (hF : FX7_steps t a1 a2 h = some r) : RN xs L iX7_steps (d + 5) 0 (lvE 0 [.inr (.inr t), .inr (.inr a1), .inl a2]) [] h (RVo r) := by
  unfold FX7_steps at hF
  refine RN.blk (ops := [(0, .iconst 0), (1, .istore_n 3)]) (pc' := 2) (lv' := [(3, .inl 0), (0, .inr (.inr t)), (1, .inr (.inr a1)), (2, .inl a2)]) (st' := []) (h' := h) (cs := []) (by decide +kernel) rfl trivial ?_
  refine RN.sub (CX7_steps_L2 ?_ _ _ _ hF) (sub_cons rfl (sub_cons rfl (sub_cons rfl (sub_cons rfl sub_nil))))
  · intro h1 hF
    exact RN.vR (by decide +kernel) rfl hF
noncomputable def FX7_turnOfSorting_L2 (u0 : Int) (u1 : Int) (K0 : Int → MH → Option (Int × MH)) (K1 : MH → Option (Int × MH)) : Nat → Int → MH → Option (Int × MH)
  | 0, _, _ => none
  | f + 1, v2, h =>
    (if v2 < 200 then
     gd [GK h u0 7, GK h (m_rd h u0 1) 10] (
      gd [GK h u0 7] (bd (FX7_step u0 u1 h) (fun x2 h1 =>
       gd [GK h1 u0 7, GK h1 (m_rd h1 u0 1) 10] (
        (if (m_rd h1 (m_rd h1 u0 1) 1) = 0 then
         K0 (m_rd h (m_rd h u0 1) 6) h1
        else
         FX7_turnOfSorting_L2 u0 u1 K0 K1 f (m_w32 (v2 + 1)) h1)))))
    else
     K1 h)
theorem CX7_turnOfSorting_L2 {d : Nat} {u0 : Int} {u1 : Int} {K0 : Int → MH → Option (Int × MH)} {K1 : MH → Option (Int × MH)} {r : Int × MH} (hK0 : ∀ (w3 : Int) (h : MH), K0 w3 h = some r → RN xs L iX7_turnOfSorting (d + 5) 33 [(3, .inl w3)] [] h (RIo r)) (hK1 : ∀ (h : MH), K1 h = some r → RN xs L iX7_turnOfSorting (d + 5) 41 [] [] h (RIo r)) : ∀ (f : Nat) (v2 : Int) (h : MH), FX7_turnOfSorting_L2 u0 u1 K0 K1 f v2 h = some r → RN xs L iX7_turnOfSorting (d + 5) 2 [(0, .inr (.inr u0)), (1, .inr (.inr u1)), (2, .inl v2)] [] h (RIo r) := by
  intro f
  induction f with
  | zero =>
    intro v2 h hF
    cases hF
  | succ f ih =>
    intro v2 h hF
    unfold FX7_turnOfSorting_L2 at hF
    refine RN.blk (ops := [(2, .iload_n 2), (3, .sipush 200)]) (pc' := 6) (lv' := [(0, .inr (.inr u0)), (1, .inr (.inr u1)), (2, .inl v2)]) (st' := [.inl 200, .inl v2]) (h' := h) (cs := []) (by decide +kernel) rfl trivial ?_
    rcases it_of hF with ⟨hb, hF⟩ | ⟨hb, hF⟩
    · refine RN.icf (cd := .ge) (off := 35) (tgt := 41) (by decide +kernel) (mif_gen hb) ?_
      obtain ⟨hc, hF⟩ := gd_of hF
      refine RN.blk (ops := [(9, .aload_n 0), (10, .getfield 21), (13, .getfield 62), (16, .istore_n 3), (17, .aload_n 0), (18, .aload_n 1)]) (pc' := 19) (lv' := [(3, .inl (m_rd h (m_rd h u0 1) 6)), (0, .inr (.inr u0)), (1, .inr (.inr u1)), (2, .inl v2)]) (st' := [.inr (.inr u1), .inr (.inr u0)]) (h' := h) (cs := [GK h u0 7, GK h (m_rd h u0 1) 10]) (by decide +kernel) rfl hc ?_
      obtain ⟨hc, hF⟩ := gd_of hF
      obtain ⟨x2, h1, hG, hF⟩ := bd_of hF
      refine RN.cv (i := 125) (k := 68) (q2 := iX7_step) (as := [.inr (.inr u0), .inr (.inr u1)]) (r := []) (v := some (.inl x2)) (h1 := h1) (by decide +kernel) rfl rfl rfl rfl rfl (rcv_ok hc.1) (CX7_step (d := d) hG) ?_
      obtain ⟨hc, hF⟩ := gd_of hF
      refine RN.blk (ops := [(22, .pop), (23, .aload_n 0), (24, .getfield 21), (27, .getfield 89)]) (pc' := 30) (lv' := [(3, .inl (m_rd h (m_rd h u0 1) 6)), (0, .inr (.inr u0)), (1, .inr (.inr u1)), (2, .inl v2)]) (st' := [.inl (m_rd h1 (m_rd h1 u0 1) 1)]) (h' := h1) (cs := [GK h1 u0 7, GK h1 (m_rd h1 u0 1) 10]) (by decide +kernel) rfl hc ?_
      rcases it_of hF with ⟨hb, hF⟩ | ⟨hb, hF⟩
      · refine RN.iff (cd := .ne) (off := 5) (tgt := 35) (by decide +kernel) (mif_nen hb) ?_
        exact RN.sub (hK0 _ _ hF) (sub_cons rfl sub_nil)
      · refine RN.ift (cd := .ne) (off := 5) (tgt := 35) (by decide +kernel) (mif_ne hb) ?_
        refine RN.blk (ops := [(35, .iinc 2 1)]) (pc' := 38) (lv' := [(2, .inl (m_w32 (v2 + 1))), (3, .inl (m_rd h (m_rd h u0 1) 6)), (0, .inr (.inr u0)), (1, .inr (.inr u1))]) (st' := []) (h' := h1) (cs := []) (by decide +kernel) rfl trivial ?_
        refine RN.goto (off := -36) (tgt := 2) (by decide +kernel) ?_
        exact RN.sub (ih _ _ hF) (sub_cons rfl (sub_cons rfl (sub_cons rfl sub_nil)))
    · refine RN.ict (cd := .ge) (off := 35) (tgt := 41) (by decide +kernel) (mif_ge hb) ?_
      exact RN.sub (hK1 _ hF) sub_nil
noncomputable def FX7_turnOfSorting (t : Int) (a1 : Int) (h : MH) : Option (Int × MH) :=
  FX7_turnOfSorting_L2 t a1 (fun w1 h2 =>
   some (w1, h2)) (fun h3 =>
   some ((-2), h3)) FU 0 h
theorem CX7_turnOfSorting {d : Nat} {t : Int} {a1 : Int} {h : MH} {r : Int × MH} (hF : FX7_turnOfSorting t a1 h = some r) : RN xs L iX7_turnOfSorting (d + 5) 0 (lvE 0 [.inr (.inr t), .inr (.inr a1)]) [] h (RIo r) := by
  unfold FX7_turnOfSorting at hF
  refine RN.blk (ops := [(0, .iconst 0), (1, .istore_n 2)]) (pc' := 2) (lv' := [(2, .inl 0), (0, .inr (.inr t)), (1, .inr (.inr a1))]) (st' := []) (h' := h) (cs := []) (by decide +kernel) rfl trivial ?_
  refine RN.sub (CX7_turnOfSorting_L2 ?_ ?_ _ _ _ hF) (sub_cons rfl (sub_cons rfl (sub_cons rfl sub_nil)))
  · intro w1 h2 hF
    refine RN.blk (ops := [(33, .iload_n 3)]) (pc' := 34) (lv' := [(3, .inl w1)]) (st' := [.inl w1]) (h' := h2) (cs := []) (by decide +kernel) rfl trivial ?_
    exact RN.iR (by decide +kernel) rfl hF
  · intro h3 hF
    refine RN.blk (ops := [(41, .bipush (-2))]) (pc' := 43) (lv' := []) (st' := [.inl (-2)]) (h' := h3) (cs := []) (by decide +kernel) rfl trivial ?_
    exact RN.iR (by decide +kernel) rfl hF
noncomputable def FX7_turnOfTying_L3 (u0 : Int) (u1 : Int) (u2 : Int) (u3 : Int) (K0 : Int → MH → Option (Int × MH)) (K1 : MH → Option (Int × MH)) : Nat → Int → MH → Option (Int × MH)
  | 0, _, _ => none
  | f + 1, v4, h =>
    (if v4 < u3 then
     gd [GK h u0 7, GK h (m_rd h u0 1) 10] (
      (if 0 < (m_rd h (m_rd h u0 1) 1) then
       gd [GK h u0 7, GK h (m_rd h u0 1) 10] (
        gd [GK h u0 7] (bd (FX7_step u0 u1 h) (fun x2 h1 =>
         gd [GK h1 u0 7] (
          (if (m_rd h1 u0 5) = u2 then
           K0 (m_rd h (m_rd h u0 1) 6) h1
          else
           FX7_turnOfTying_L3 u0 u1 u2 u3 K0 K1 f (m_w32 (v4 + 1)) h1)))))
      else
       K1 h))
    else
     K1 h)
theorem CX7_turnOfTying_L3 {d : Nat} {u0 : Int} {u1 : Int} {u2 : Int} {u3 : Int} {K0 : Int → MH → Option (Int × MH)} {K1 : MH → Option (Int × MH)} {r : Int × MH} (hK0 : ∀ (w5 : Int) (h : MH), K0 w5 h = some r → RN xs L iX7_turnOfTying (d + 5) 42 [(5, .inl w5)] [] h (RIo r)) (hK1 : ∀ (h : MH), K1 h = some r → RN xs L iX7_turnOfTying (d + 5) 51 [] [] h (RIo r)) : ∀ (f : Nat) (v4 : Int) (h : MH), FX7_turnOfTying_L3 u0 u1 u2 u3 K0 K1 f v4 h = some r → RN xs L iX7_turnOfTying (d + 5) 3 [(0, .inr (.inr u0)), (1, .inr (.inr u1)), (2, .inl u2), (3, .inl u3), (4, .inl v4)] [] h (RIo r) := by
  intro f
  induction f with
  | zero =>
    intro v4 h hF
    cases hF
  | succ f ih =>
    intro v4 h hF
    unfold FX7_turnOfTying_L3 at hF
    refine RN.blk (ops := [(3, .iload 4), (5, .iload_n 3)]) (pc' := 6) (lv' := [(0, .inr (.inr u0)), (1, .inr (.inr u1)), (2, .inl u2), (3, .inl u3), (4, .inl v4)]) (st' := [.inl u3, .inl v4]) (h' := h) (cs := []) (by decide +kernel) rfl trivial ?_
    rcases it_of hF with ⟨hb, hF⟩ | ⟨hb, hF⟩
    · refine RN.icf (cd := .ge) (off := 45) (tgt := 51) (by decide +kernel) (mif_gen hb) ?_
      obtain ⟨hc, hF⟩ := gd_of hF
      refine RN.blk (ops := [(9, .aload_n 0), (10, .getfield 21), (13, .getfield 89)]) (pc' := 16) (lv' := [(0, .inr (.inr u0)), (1, .inr (.inr u1)), (2, .inl u2), (3, .inl u3), (4, .inl v4)]) (st' := [.inl (m_rd h (m_rd h u0 1) 1)]) (h' := h) (cs := [GK h u0 7, GK h (m_rd h u0 1) 10]) (by decide +kernel) rfl hc ?_
      rcases it_of hF with ⟨hb, hF⟩ | ⟨hb, hF⟩
      · refine RN.iff (cd := .le) (off := 35) (tgt := 51) (by decide +kernel) (mif_len hb) ?_
        obtain ⟨hc, hF⟩ := gd_of hF
        refine RN.blk (ops := [(19, .aload_n 0), (20, .getfield 21), (23, .getfield 62), (26, .istore 5), (28, .aload_n 0), (29, .aload_n 1)]) (pc' := 30) (lv' := [(5, .inl (m_rd h (m_rd h u0 1) 6)), (0, .inr (.inr u0)), (1, .inr (.inr u1)), (2, .inl u2), (3, .inl u3), (4, .inl v4)]) (st' := [.inr (.inr u1), .inr (.inr u0)]) (h' := h) (cs := [GK h u0 7, GK h (m_rd h u0 1) 10]) (by decide +kernel) rfl hc ?_
        obtain ⟨hc, hF⟩ := gd_of hF
        obtain ⟨x2, h1, hG, hF⟩ := bd_of hF
        refine RN.cv (i := 125) (k := 68) (q2 := iX7_step) (as := [.inr (.inr u0), .inr (.inr u1)]) (r := []) (v := some (.inl x2)) (h1 := h1) (by decide +kernel) rfl rfl rfl rfl rfl (rcv_ok hc.1) (CX7_step (d := d) hG) ?_
        obtain ⟨hc, hF⟩ := gd_of hF
        refine RN.blk (ops := [(33, .pop), (34, .aload_n 0), (35, .getfield 29), (38, .iload_n 2)]) (pc' := 39) (lv' := [(5, .inl (m_rd h (m_rd h u0 1) 6)), (0, .inr (.inr u0)), (1, .inr (.inr u1)), (2, .inl u2), (3, .inl u3), (4, .inl v4)]) (st' := [.inl u2, .inl (m_rd h1 u0 5)]) (h' := h1) (cs := [GK h1 u0 7]) (by decide +kernel) rfl hc ?_
        rcases it_of hF with ⟨hb, hF⟩ | ⟨hb, hF⟩
        · refine RN.icf (cd := .ne) (off := 6) (tgt := 45) (by decide +kernel) (mif_nen hb) ?_
          exact RN.sub (hK0 _ _ hF) (sub_cons rfl sub_nil)
        · refine RN.ict (cd := .ne) (off := 6) (tgt := 45) (by decide +kernel) (mif_ne hb) ?_
          refine RN.blk (ops := [(45, .iinc 4 1)]) (pc' := 48) (lv' := [(4, .inl (m_w32 (v4 + 1))), (5, .inl (m_rd h (m_rd h u0 1) 6)), (0, .inr (.inr u0)), (1, .inr (.inr u1)), (2, .inl u2), (3, .inl u3)]) (st' := []) (h' := h1) (cs := []) (by decide +kernel) rfl trivial ?_
          refine RN.goto (off := -45) (tgt := 3) (by decide +kernel) ?_
          exact RN.sub (ih _ _ hF) (sub_cons rfl (sub_cons rfl (sub_cons rfl (sub_cons rfl (sub_cons rfl sub_nil)))))
      · refine RN.ift (cd := .le) (off := 35) (tgt := 51) (by decide +kernel) (mif_le hb) ?_
        exact RN.sub (hK1 _ hF) sub_nil
    · refine RN.ict (cd := .ge) (off := 45) (tgt := 51) (by decide +kernel) (mif_ge hb) ?_
      exact RN.sub (hK1 _ hF) sub_nil
noncomputable def FX7_turnOfTying (t : Int) (a1 : Int) (a2 : Int) (a3 : Int) (h : MH) : Option (Int × MH) :=
  FX7_turnOfTying_L3 t a1 a2 a3 (fun w1 h2 =>
   some (w1, h2)) (fun h3 =>
   some ((-2), h3)) FU 0 h
theorem CX7_turnOfTying {d : Nat} {t : Int} {a1 : Int} {a2 : Int} {a3 : Int} {h : MH} {r : Int × MH} (hF : FX7_turnOfTying t a1 a2 a3 h = some r) : RN xs L iX7_turnOfTying (d + 5) 0 (lvE 0 [.inr (.inr t), .inr (.inr a1), .inl a2, .inl a3]) [] h (RIo r) := by
  unfold FX7_turnOfTying at hF
  refine RN.blk (ops := [(0, .iconst 0), (1, .istore 4)]) (pc' := 3) (lv' := [(4, .inl 0), (0, .inr (.inr t)), (1, .inr (.inr a1)), (2, .inl a2), (3, .inl a3)]) (st' := []) (h' := h) (cs := []) (by decide +kernel) rfl trivial ?_
  refine RN.sub (CX7_turnOfTying_L3 ?_ ?_ _ _ _ hF) (sub_cons rfl (sub_cons rfl (sub_cons rfl (sub_cons rfl (sub_cons rfl sub_nil)))))
  · intro w1 h2 hF
    refine RN.blk (ops := [(42, .iload 5)]) (pc' := 44) (lv' := [(5, .inl w1)]) (st' := [.inl w1]) (h' := h2) (cs := []) (by decide +kernel) rfl trivial ?_
    exact RN.iR (by decide +kernel) rfl hF
  · intro h3 hF
    refine RN.blk (ops := [(51, .bipush (-2))]) (pc' := 53) (lv' := []) (st' := [.inl (-2)]) (h' := h3) (cs := []) (by decide +kernel) rfl trivial ?_
    exact RN.iR (by decide +kernel) rfl hF
noncomputable def FX7_agrees_L8 (u0 : Int) (u1 : Int) (u2 : Int) (u3 : Int) (K0 : MH → Option (Int × MH)) (K1 : MH → Option (Int × MH)) : Nat → Int → MH → Option (Int × MH)
  | 0, _, _ => none
  | f + 1, v4, h =>
    (if u3 < v4 then
     K1 h
    else
     gd [GK h u0 7, GK h (m_rd h u0 1) 10] (
      (if 0 < (m_rd h (m_rd h u0 1) 1) then
       gd [GK h u0 7] (bd (FX7_step u0 u2 h) (fun x2 h1 =>
        gd [GK h1 u0 7, GK h1 (m_rd h1 u0 1) 10] (
         gd [GK h1 u1 2] (bd (FX2_notesHold u1 v4 v4 (m_rd h1 (m_rd h1 u0 1) 3) h1) (fun x4 h3 =>
          (if x4 = 0 then
           K0 h3
          else
           FX7_agrees_L8 u0 u1 u2 u3 K0 K1 f (m_w32 (v4 + 1)) h3))))))
      else
       K1 h)))
theorem CX7_agrees_L8 {d : Nat} {u0 : Int} {u1 : Int} {u2 : Int} {u3 : Int} {K0 : MH → Option (Int × MH)} {K1 : MH → Option (Int × MH)} {r : Int × MH} (hK0 : ∀ (h : MH), K0 h = some r → RN xs L iX7_agrees (d + 5) 48 [] [] h (RIo r)) (hK1 : ∀ (h : MH), K1 h = some r → RN xs L iX7_agrees (d + 5) 56 [(0, .inr (.inr u0)), (1, .inr (.inr u1))] [] h (RIo r)) : ∀ (f : Nat) (v4 : Int) (h : MH), FX7_agrees_L8 u0 u1 u2 u3 K0 K1 f v4 h = some r → RN xs L iX7_agrees (d + 5) 8 [(0, .inr (.inr u0)), (1, .inr (.inr u1)), (2, .inr (.inr u2)), (3, .inl u3), (4, .inl v4)] [] h (RIo r) := by
  intro f
  induction f with
  | zero =>
    intro v4 h hF
    cases hF
  | succ f ih =>
    intro v4 h hF
    unfold FX7_agrees_L8 at hF
    refine RN.blk (ops := [(8, .iload 4), (10, .iload_n 3)]) (pc' := 11) (lv' := [(0, .inr (.inr u0)), (1, .inr (.inr u1)), (2, .inr (.inr u2)), (3, .inl u3), (4, .inl v4)]) (st' := [.inl u3, .inl v4]) (h' := h) (cs := []) (by decide +kernel) rfl trivial ?_
    rcases it_of hF with ⟨hb, hF⟩ | ⟨hb, hF⟩
    · refine RN.ict (cd := .gt) (off := 45) (tgt := 56) (by decide +kernel) (mif_gt hb) ?_
      exact RN.sub (hK1 _ hF) (sub_cons rfl (sub_cons rfl sub_nil))
    · refine RN.icf (cd := .gt) (off := 45) (tgt := 56) (by decide +kernel) (mif_gtn hb) ?_
      obtain ⟨hc, hF⟩ := gd_of hF
      refine RN.blk (ops := [(14, .aload_n 0), (15, .getfield 21), (18, .getfield 89)]) (pc' := 21) (lv' := [(0, .inr (.inr u0)), (1, .inr (.inr u1)), (2, .inr (.inr u2)), (3, .inl u3), (4, .inl v4)]) (st' := [.inl (m_rd h (m_rd h u0 1) 1)]) (h' := h) (cs := [GK h u0 7, GK h (m_rd h u0 1) 10]) (by decide +kernel) rfl hc ?_
      rcases it_of hF with ⟨hb, hF⟩ | ⟨hb, hF⟩
      · refine RN.iff (cd := .le) (off := 35) (tgt := 56) (by decide +kernel) (mif_len hb) ?_
        refine RN.blk (ops := [(24, .aload_n 0), (25, .aload_n 2)]) (pc' := 26) (lv' := [(0, .inr (.inr u0)), (1, .inr (.inr u1)), (2, .inr (.inr u2)), (3, .inl u3), (4, .inl v4)]) (st' := [.inr (.inr u2), .inr (.inr u0)]) (h' := h) (cs := []) (by decide +kernel) rfl trivial ?_
        obtain ⟨hc, hF⟩ := gd_of hF
        obtain ⟨x2, h1, hG, hF⟩ := bd_of hF
        refine RN.cv (i := 125) (k := 68) (q2 := iX7_step) (as := [.inr (.inr u0), .inr (.inr u2)]) (r := []) (v := some (.inl x2)) (h1 := h1) (by decide +kernel) rfl rfl rfl rfl rfl (rcv_ok hc.1) (CX7_step (d := d) hG) ?_
        obtain ⟨hc, hF⟩ := gd_of hF
        refine RN.blk (ops := [(29, .pop), (30, .aload_n 1), (31, .iload 4), (33, .iload 4), (35, .aload_n 0), (36, .getfield 21), (39, .getfield 79)]) (pc' := 42) (lv' := [(0, .inr (.inr u0)), (1, .inr (.inr u1)), (2, .inr (.inr u2)), (3, .inl u3), (4, .inl v4)]) (st' := [.inr (.inr (m_rd h1 (m_rd h1 u0 1) 3)), .inl v4, .inl v4, .inr (.inr u1)]) (h' := h1) (cs := [GK h1 u0 7, GK h1 (m_rd h1 u0 1) 10]) (by decide +kernel) rfl hc ?_
        obtain ⟨hc, hF⟩ := gd_of hF
        obtain ⟨x4, h3, hG, hF⟩ := bd_of hF
        refine RN.cv (i := 133) (k := 34) (q2 := iX2_notesHold) (as := [.inr (.inr u1), .inl v4, .inl v4, .inr (.inr (m_rd h1 (m_rd h1 u0 1) 3))]) (r := []) (v := some (.inl x4)) (h1 := h3) (by decide +kernel) rfl rfl rfl rfl rfl (rcv_ok hc.1) (CX2_notesHold (d := d + 4) hG) ?_
        rcases it_of hF with ⟨hb, hF⟩ | ⟨hb, hF⟩
        · refine RN.iff (cd := .ne) (off := 5) (tgt := 50) (by decide +kernel) (mif_nen hb) ?_
          exact RN.sub (hK0 _ hF) sub_nil
        · refine RN.ift (cd := .ne) (off := 5) (tgt := 50) (by decide +kernel) (mif_ne hb) ?_
          refine RN.blk (ops := [(50, .iinc 4 1)]) (pc' := 53) (lv' := [(4, .inl (m_w32 (v4 + 1))), (0, .inr (.inr u0)), (1, .inr (.inr u1)), (2, .inr (.inr u2)), (3, .inl u3)]) (st' := []) (h' := h3) (cs := []) (by decide +kernel) rfl trivial ?_
          refine RN.goto (off := -45) (tgt := 8) (by decide +kernel) ?_
          exact RN.sub (ih _ _ hF) (sub_cons rfl (sub_cons rfl (sub_cons rfl (sub_cons rfl (sub_cons rfl sub_nil)))))
      · refine RN.ift (cd := .le) (off := 35) (tgt := 56) (by decide +kernel) (mif_le hb) ?_
        exact RN.sub (hK1 _ hF) (sub_cons rfl (sub_cons rfl sub_nil))
noncomputable def FX7_agrees (t : Int) (a1 : Int) (a2 : Int) (h : MH) : Option (Int × MH) :=
  gd [GK h a1 2] (bd (FX2_lastNotedTurn a1 h) (fun x2 h1 =>
   FX7_agrees_L8 t a1 a2 x2 (fun h3 =>
    some (0, h3)) (fun h4 =>
    gd [GK h4 t 7, GK h4 (m_rd h4 t 1) 10, GK h4 t 7, GK h4 (m_rd h4 t 1) 10] (
     gd [GK h4 a1 2] (bd (FX2_notesHold a1 (m_rd h4 (m_rd h4 t 1) 6) 60 (m_rd h4 (m_rd h4 t 1) 3) h4) (fun x6 h5 =>
      gd [GT x6] (some (x6, h5)))))) FU 0 h1))
theorem CX7_agrees {d : Nat} {t : Int} {a1 : Int} {a2 : Int} {h : MH} {r : Int × MH} (hF : FX7_agrees t a1 a2 h = some r) : RN xs L iX7_agrees (d + 5) 0 (lvE 0 [.inr (.inr t), .inr (.inr a1), .inr (.inr a2)]) [] h (RIo r) := by
  unfold FX7_agrees at hF
  refine RN.blk (ops := [(0, .aload_n 1)]) (pc' := 1) (lv' := [(0, .inr (.inr t)), (1, .inr (.inr a1)), (2, .inr (.inr a2))]) (st' := [.inr (.inr a1)]) (h' := h) (cs := []) (by decide +kernel) rfl trivial ?_
  obtain ⟨hc, hF⟩ := gd_of hF
  obtain ⟨x2, h1, hG, hF⟩ := bd_of hF
  refine RN.cv (i := 128) (k := 33) (q2 := iX2_lastNotedTurn) (as := [.inr (.inr a1)]) (r := []) (v := some (.inl x2)) (h1 := h1) (by decide +kernel) rfl rfl rfl rfl rfl (rcv_ok hc.1) (CX2_lastNotedTurn (d := d + 3) hG) ?_
  refine RN.blk (ops := [(4, .istore_n 3), (5, .iconst 0), (6, .istore 4)]) (pc' := 8) (lv' := [(4, .inl 0), (3, .inl x2), (0, .inr (.inr t)), (1, .inr (.inr a1)), (2, .inr (.inr a2))]) (st' := []) (h' := h1) (cs := []) (by decide +kernel) rfl trivial ?_
  refine RN.sub (CX7_agrees_L8 ?_ ?_ _ _ _ hF) (sub_cons rfl (sub_cons rfl (sub_cons rfl (sub_cons rfl (sub_cons rfl sub_nil)))))
  · intro h3 hF
    refine RN.blk (ops := [(48, .iconst 0)]) (pc' := 49) (lv' := []) (st' := [.inl 0]) (h' := h3) (cs := []) (by decide +kernel) rfl trivial ?_
    exact RN.zR (by decide +kernel) rfl (Or.inl rfl) hF
  · intro h4 hF
    obtain ⟨hc, hF⟩ := gd_of hF
    refine RN.blk (ops := [(56, .aload_n 1), (57, .aload_n 0), (58, .getfield 21), (61, .getfield 62), (64, .bipush 60), (66, .aload_n 0), (67, .getfield 21), (70, .getfield 79)]) (pc' := 73) (lv' := [(0, .inr (.inr t)), (1, .inr (.inr a1))]) (st' := [.inr (.inr (m_rd h4 (m_rd h4 t 1) 3)), .inl 60, .inl (m_rd h4 (m_rd h4 t 1) 6), .inr (.inr a1)]) (h' := h4) (cs := [GK h4 t 7, GK h4 (m_rd h4 t 1) 10, GK h4 t 7, GK h4 (m_rd h4 t 1) 10]) (by decide +kernel) rfl hc ?_
    obtain ⟨hc, hF⟩ := gd_of hF
    obtain ⟨x6, h5, hG, hF⟩ := bd_of hF
    refine RN.cv (i := 133) (k := 34) (q2 := iX2_notesHold) (as := [.inr (.inr a1), .inl (m_rd h4 (m_rd h4 t 1) 6), .inl 60, .inr (.inr (m_rd h4 (m_rd h4 t 1) 3))]) (r := []) (v := some (.inl x6)) (h1 := h5) (by decide +kernel) rfl rfl rfl rfl rfl (rcv_ok hc.1) (CX2_notesHold (d := d + 4) hG) ?_
    obtain ⟨hc, hF⟩ := gd_of hF
    exact RN.zR (by decide +kernel) rfl hc.1 hF
noncomputable def FX7_draw (t : Int) (h : MH) : Option (Int × MH) :=
  gd [GK h t 7, (2147483648 : Int) ≠ 0, GK h t 7] (
   hl (m_wr h t 2 (m_w32 (Int.tmod (m_w64 ((m_w64 ((m_rd h t 2) * 1103515245)) + 12345)) 2147483648))) (fun h1 =>
    gd [GK h1 t 7, (65536 : Int) ≠ 0] (
     some ((m_w32 (Int.tdiv (m_rd h1 t 2) 65536)), h1))))
theorem CX7_draw {d : Nat} {t : Int} {h : MH} {r : Int × MH} (hF : FX7_draw t h = some r) : RN xs L iX7_draw (d) 0 (lvE 0 [.inr (.inr t)]) [] h (RIo r) := by
  unfold FX7_draw at hF
  obtain ⟨hc, hF⟩ := gd_of hF
  refine RN.blk (ops := [(0, .aload_n 0), (1, .aload_n 0), (2, .getfield 145), (5, .i2l), (6, .ldc2_w 148), (9, .lmul), (10, .ldc2_w 150), (13, .ladd), (14, .ldc2_w 152), (17, .lrem), (18, .l2i), (19, .putfield 145)]) (pc' := 22) (lv' := [(0, .inr (.inr t))]) (st' := []) (h' := (m_wr h t 2 (m_w32 (Int.tmod (m_w64 ((m_w64 ((m_rd h t 2) * 1103515245)) + 12345)) 2147483648)))) (cs := [GK h t 7, (2147483648 : Int) ≠ 0, GK h t 7]) (by decide +kernel) rfl hc ?_
  obtain ⟨h1, he, hF⟩ := hl_of hF
  refine RN.hl he ?_
  obtain ⟨hc, hF⟩ := gd_of hF
  refine RN.blk (ops := [(22, .aload_n 0), (23, .getfield 145), (26, .ldc 154), (28, .idiv)]) (pc' := 29) (lv' := [(0, .inr (.inr t))]) (st' := [.inl (m_w32 (Int.tdiv (m_rd h1 t 2) 65536))]) (h' := h1) (cs := [GK h1 t 7, (65536 : Int) ≠ 0]) (by decide +kernel) rfl hc ?_
  exact RN.iR (by decide +kernel) rfl hF
noncomputable def FX7_stepsWithPosts_L3 (u0 : Int) (u1 : Int) (u2 : Int) (u3 : Int) (K0 : MH → Option (MH)) : Nat → Int → MH → Option (MH)
  | 0, _, _ => none
  | f + 1, v4, h =>
    (if v4 < u2 then
     gd [GK h u0 7] (bd (FX7_draw u0 h) (fun x2 h1 =>
      gd [(100 : Int) ≠ 0] (
       jn (fun (h4 : MH) =>
        gd [GK h4 u0 7] (bd (FX7_step u0 u1 h4) (fun x6 h5 =>
         FX7_stepsWithPosts_L3 u0 u1 u2 u3 K0 f (m_w32 (v4 + 1)) h5))) (fun j3 =>
        (if (Int.tmod x2 100) < u3 then
         gd [GK h1 u0 7, GK h1 u0 7, GK h1 (m_rd h1 u0 0) 8] (
          jn (fun (s8 : Int) (h9 : MH) =>
           gd [GK h9 (m_rd h1 u0 1) 10] (bv (FX10_queue (m_rd h1 u0 1) s8 h9) (fun h10 =>
            j3 h10))) (fun j7 =>
           (if 0 < (m_rd h1 (m_rd h1 u0 0) 3) then
            gd [GK h1 u0 7] (bd (FX7_draw u0 h1) (fun x12 h11 =>
             gd [GK h11 u0 7, GK h11 (m_rd h11 u0 0) 8, ((m_rd h11 (m_rd h11 u0 0) 3) : Int) ≠ 0] (
              j7 (Int.tmod x12 (m_rd h11 (m_rd h11 u0 0) 3)) h11)))
           else
            j7 0 h1)))
        else
         j3 h1)))))
    else
     K0 h)
theorem CX7_stepsWithPosts_L3 {d : Nat} {u0 : Int} {u1 : Int} {u2 : Int} {u3 : Int} {K0 : MH → Option (MH)} {r : MH} (hK0 : ∀ (h : MH), K0 h = some r → RN xs L iX7_stepsWithPosts (d + 5) 65 [] [] h (RVo r)) : ∀ (f : Nat) (v4 : Int) (h : MH), FX7_stepsWithPosts_L3 u0 u1 u2 u3 K0 f v4 h = some r → RN xs L iX7_stepsWithPosts (d + 5) 3 [(0, .inr (.inr u0)), (1, .inr (.inr u1)), (2, .inl u2), (3, .inl u3), (4, .inl v4)] [] h (RVo r) := by
  intro f
  induction f with
  | zero =>
    intro v4 h hF
    cases hF
  | succ f ih =>
    intro v4 h hF
    unfold FX7_stepsWithPosts_L3 at hF
    refine RN.blk (ops := [(3, .iload 4), (5, .iload_n 2)]) (pc' := 6) (lv' := [(0, .inr (.inr u0)), (1, .inr (.inr u1)), (2, .inl u2), (3, .inl u3), (4, .inl v4)]) (st' := [.inl u2, .inl v4]) (h' := h) (cs := []) (by decide +kernel) rfl trivial ?_
    rcases it_of hF with ⟨hb, hF⟩ | ⟨hb, hF⟩
    · refine RN.icf (cd := .ge) (off := 59) (tgt := 65) (by decide +kernel) (mif_gen hb) ?_
      refine RN.blk (ops := [(9, .aload_n 0)]) (pc' := 10) (lv' := [(0, .inr (.inr u0)), (1, .inr (.inr u1)), (2, .inl u2), (3, .inl u3), (4, .inl v4)]) (st' := [.inr (.inr u0)]) (h' := h) (cs := []) (by decide +kernel) rfl trivial ?_
      obtain ⟨hc, hF⟩ := gd_of hF
      obtain ⟨x2, h1, hG, hF⟩ := bd_of hF
      refine RN.cv (i := 137) (k := 77) (q2 := iX7_draw) (as := [.inr (.inr u0)]) (r := []) (v := some (.inl x2)) (h1 := h1) (by decide +kernel) rfl rfl rfl rfl rfl (rcv_ok hc.1) (CX7_draw (d := d + 4) hG) ?_
      obtain ⟨hc, hF⟩ := gd_of hF
      refine RN.blk (ops := [(13, .bipush 100), (15, .irem), (16, .iload_n 3)]) (pc' := 17) (lv' := [(0, .inr (.inr u0)), (1, .inr (.inr u1)), (2, .inl u2), (3, .inl u3), (4, .inl v4)]) (st' := [.inl u3, .inl (Int.tmod x2 100)]) (h' := h1) (cs := [(100 : Int) ≠ 0]) (by decide +kernel) rfl hc ?_
      refine jn_use (fun j3 => ∀ (h4 : MH), j3 h4 = some r → RN xs L iX7_stepsWithPosts (d + 5) 53 [(0, .inr (.inr u0)), (1, .inr (.inr u1)), (2, .inl u2), (3, .inl u3), (4, .inl v4)] [] h4 (RVo r)) ?_ ?_ hF
      · intro h4 hF
        refine RN.blk (ops := [(53, .aload_n 0), (54, .aload_n 1)]) (pc' := 55) (lv' := [(0, .inr (.inr u0)), (1, .inr (.inr u1)), (2, .inl u2), (3, .inl u3), (4, .inl v4)]) (st' := [.inr (.inr u1), .inr (.inr u0)]) (h' := h4) (cs := []) (by decide +kernel) rfl trivial ?_
        obtain ⟨hc, hF⟩ := gd_of hF
        obtain ⟨x6, h5, hG, hF⟩ := bd_of hF
        refine RN.cv (i := 125) (k := 68) (q2 := iX7_step) (as := [.inr (.inr u0), .inr (.inr u1)]) (r := []) (v := some (.inl x6)) (h1 := h5) (by decide +kernel) rfl rfl rfl rfl rfl (rcv_ok hc.1) (CX7_step (d := d) hG) ?_
        refine RN.blk (ops := [(58, .pop), (59, .iinc 4 1)]) (pc' := 62) (lv' := [(4, .inl (m_w32 (v4 + 1))), (0, .inr (.inr u0)), (1, .inr (.inr u1)), (2, .inl u2), (3, .inl u3)]) (st' := []) (h' := h5) (cs := []) (by decide +kernel) rfl trivial ?_
        refine RN.goto (off := -59) (tgt := 3) (by decide +kernel) ?_
        exact RN.sub (ih _ _ hF) (sub_cons rfl (sub_cons rfl (sub_cons rfl (sub_cons rfl (sub_cons rfl sub_nil)))))
      · intro j3 Jj3 hF
        rcases it_of hF with ⟨hb, hF⟩ | ⟨hb, hF⟩
        · refine RN.icf (cd := .ge) (off := 36) (tgt := 53) (by decide +kernel) (mif_gen hb) ?_
          obtain ⟨hc, hF⟩ := gd_of hF
          refine RN.blk (ops := [(20, .aload_n 0), (21, .getfield 21), (24, .aload_n 0), (25, .getfield 12), (28, .getfield 139)]) (pc' := 31) (lv' := [(0, .inr (.inr u0)), (1, .inr (.inr u1)), (2, .inl u2), (3, .inl u3), (4, .inl v4)]) (st' := [.inl (m_rd h1 (m_rd h1 u0 0) 3), .inr (.inr (m_rd h1 u0 1))]) (h' := h1) (cs := [GK h1 u0 7, GK h1 u0 7, GK h1 (m_rd h1 u0 0) 8]) (by decide +kernel) rfl hc ?_
          refine jn_use (fun j7 => ∀ (s8 : Int) (h9 : MH), j7 s8 h9 = some r → RN xs L iX7_stepsWithPosts (d + 5) 50 [(0, .inr (.inr u0)), (1, .inr (.inr u1)), (2, .inl u2), (3, .inl u3), (4, .inl v4)] [.inl s8, .inr (.inr (m_rd h1 u0 1))] h9 (RVo r)) ?_ ?_ hF
          · intro s8 h9 hF
            obtain ⟨hc, hF⟩ := gd_of hF
            obtain ⟨h10, hG, hF⟩ := bv_of hF
            refine RN.cv (i := 142) (k := 102) (q2 := iX10_queue) (as := [.inr (.inr (m_rd h1 u0 1)), .inl s8]) (r := []) (v := none) (h1 := h10) (by decide +kernel) rfl rfl rfl rfl rfl (rcv_ok hc.1) (CX10_queue (d := d + 4) hG) ?_
            exact RN.sub (Jj3 _ hF) (sub_cons rfl (sub_cons rfl (sub_cons rfl (sub_cons rfl (sub_cons rfl sub_nil)))))
          · intro j7 Jj7 hF
            rcases it_of hF with ⟨hb, hF⟩ | ⟨hb, hF⟩
            · refine RN.iff (cd := .le) (off := 18) (tgt := 49) (by decide +kernel) (mif_len hb) ?_
              refine RN.blk (ops := [(34, .aload_n 0)]) (pc' := 35) (lv' := [(0, .inr (.inr u0)), (1, .inr (.inr u1)), (2, .inl u2), (3, .inl u3), (4, .inl v4)]) (st' := [.inr (.inr u0), .inr (.inr (m_rd h1 u0 1))]) (h' := h1) (cs := []) (by decide +kernel) rfl trivial ?_
              obtain ⟨hc, hF⟩ := gd_of hF
              obtain ⟨x12, h11, hG, hF⟩ := bd_of hF
              refine RN.cv (i := 137) (k := 77) (q2 := iX7_draw) (as := [.inr (.inr u0)]) (r := [.inr (.inr (m_rd h1 u0 1))]) (v := some (.inl x12)) (h1 := h11) (by decide +kernel) rfl rfl rfl rfl rfl (rcv_ok hc.1) (CX7_draw (d := d + 4) hG) ?_
              obtain ⟨hc, hF⟩ := gd_of hF
              refine RN.blk (ops := [(38, .aload_n 0), (39, .getfield 12), (42, .getfield 139), (45, .irem)]) (pc' := 46) (lv' := [(0, .inr (.inr u0)), (1, .inr (.inr u1)), (2, .inl u2), (3, .inl u3), (4, .inl v4)]) (st' := [.inl (Int.tmod x12 (m_rd h11 (m_rd h11 u0 0) 3)), .inr (.inr (m_rd h1 u0 1))]) (h' := h11) (cs := [GK h11 u0 7, GK h11 (m_rd h11 u0 0) 8, ((m_rd h11 (m_rd h11 u0 0) 3) : Int) ≠ 0]) (by decide +kernel) rfl hc ?_
              refine RN.goto (off := 4) (tgt := 50) (by decide +kernel) ?_
              exact RN.sub (Jj7 _ _ hF) (sub_cons rfl (sub_cons rfl (sub_cons rfl (sub_cons rfl (sub_cons rfl sub_nil)))))
            · refine RN.ift (cd := .le) (off := 18) (tgt := 49) (by decide +kernel) (mif_le hb) ?_
              refine RN.blk (ops := [(49, .iconst 0)]) (pc' := 50) (lv' := [(0, .inr (.inr u0)), (1, .inr (.inr u1)), (2, .inl u2), (3, .inl u3), (4, .inl v4)]) (st' := [.inl 0, .inr (.inr (m_rd h1 u0 1))]) (h' := h1) (cs := []) (by decide +kernel) rfl trivial ?_
              exact RN.sub (Jj7 _ _ hF) (sub_cons rfl (sub_cons rfl (sub_cons rfl (sub_cons rfl (sub_cons rfl sub_nil)))))
        · refine RN.ict (cd := .ge) (off := 36) (tgt := 53) (by decide +kernel) (mif_ge hb) ?_
          exact RN.sub (Jj3 _ hF) (sub_cons rfl (sub_cons rfl (sub_cons rfl (sub_cons rfl (sub_cons rfl sub_nil)))))
    · refine RN.ict (cd := .ge) (off := 59) (tgt := 65) (by decide +kernel) (mif_ge hb) ?_
      exact RN.sub (hK0 _ hF) sub_nil
noncomputable def FX7_stepsWithPosts (t : Int) (a1 : Int) (a2 : Int) (a3 : Int) (h : MH) : Option (MH) :=
  FX7_stepsWithPosts_L3 t a1 a2 a3 (fun h1 =>
   some h1) FU 0 h
theorem CX7_stepsWithPosts {d : Nat} {t : Int} {a1 : Int} {a2 : Int} {a3 : Int} {h : MH} {r : MH} (hF : FX7_stepsWithPosts t a1 a2 a3 h = some r) : RN xs L iX7_stepsWithPosts (d + 5) 0 (lvE 0 [.inr (.inr t), .inr (.inr a1), .inl a2, .inl a3]) [] h (RVo r) := by
  unfold FX7_stepsWithPosts at hF
  refine RN.blk (ops := [(0, .iconst 0), (1, .istore 4)]) (pc' := 3) (lv' := [(4, .inl 0), (0, .inr (.inr t)), (1, .inr (.inr a1)), (2, .inl a2), (3, .inl a3)]) (st' := []) (h' := h) (cs := []) (by decide +kernel) rfl trivial ?_
  refine RN.sub (CX7_stepsWithPosts_L3 ?_ _ _ _ hF) (sub_cons rfl (sub_cons rfl (sub_cons rfl (sub_cons rfl (sub_cons rfl sub_nil)))))
  · intro h1 hF
    exact RN.vR (by decide +kernel) rfl hF
noncomputable def FX8_hasPrefix (t : Int) (a1 : Int) (a2 : Int) (h : MH) : Option (Int × MH) :=
  (if a1 < 0 then
   some (0, h)
  else
   gd [GK h t 8] (
    (if (m_rd h t 1) < a1 then
     some (0, h)
    else
     (if a2 < 0 then
      some (0, h)
     else
      gd [GK h t 8] (bd (FX8_prefixesOf t a1 h) (fun x2 h1 =>
       (if a2 < x2 then
        some (1, h1)
       else
        some (0, h1))))))))
theorem CX8_hasPrefix {d : Nat} {t : Int} {a1 : Int} {a2 : Int} {h : MH} {r : Int × MH} (hF : FX8_hasPrefix t a1 a2 h = some r) : RN xs L iX8_hasPrefix (d + 1) 0 (lvE 0 [.inr (.inr t), .inl a1, .inl a2]) [] h (RIo r) := by
  unfold FX8_hasPrefix at hF
  refine RN.blk (ops := [(0, .iload_n 1)]) (pc' := 1) (lv' := [(0, .inr (.inr t)), (1, .inl a1), (2, .inl a2)]) (st' := [.inl a1]) (h' := h) (cs := []) (by decide +kernel) rfl trivial ?_
  rcases it_of hF with ⟨hb, hF⟩ | ⟨hb, hF⟩
  · refine RN.ift (cd := .lt) (off := 28) (tgt := 29) (by decide +kernel) (mif_lt hb) ?_
    refine RN.blk (ops := [(29, .iconst 0)]) (pc' := 30) (lv' := [(0, .inr (.inr t)), (1, .inl a1), (2, .inl a2)]) (st' := [.inl 0]) (h' := h) (cs := []) (by decide +kernel) rfl trivial ?_
    exact RN.zR (by decide +kernel) rfl (Or.inl rfl) hF
  · refine RN.iff (cd := .lt) (off := 28) (tgt := 29) (by decide +kernel) (mif_ltn hb) ?_
    obtain ⟨hc, hF⟩ := gd_of hF
    refine RN.blk (ops := [(4, .iload_n 1), (5, .aload_n 0), (6, .getfield 22)]) (pc' := 9) (lv' := [(0, .inr (.inr t)), (1, .inl a1), (2, .inl a2)]) (st' := [.inl (m_rd h t 1), .inl a1]) (h' := h) (cs := [GK h t 8]) (by decide +kernel) rfl hc ?_
    rcases it_of hF with ⟨hb, hF⟩ | ⟨hb, hF⟩
    · refine RN.ict (cd := .gt) (off := 20) (tgt := 29) (by decide +kernel) (mif_gt hb) ?_
      refine RN.blk (ops := [(29, .iconst 0)]) (pc' := 30) (lv' := [(0, .inr (.inr t)), (1, .inl a1), (2, .inl a2)]) (st' := [.inl 0]) (h' := h) (cs := []) (by decide +kernel) rfl trivial ?_
      exact RN.zR (by decide +kernel) rfl (Or.inl rfl) hF
    · refine RN.icf (cd := .gt) (off := 20) (tgt := 29) (by decide +kernel) (mif_gtn hb) ?_
      refine RN.blk (ops := [(12, .iload_n 2)]) (pc' := 13) (lv' := [(0, .inr (.inr t)), (1, .inl a1), (2, .inl a2)]) (st' := [.inl a2]) (h' := h) (cs := []) (by decide +kernel) rfl trivial ?_
      rcases it_of hF with ⟨hb, hF⟩ | ⟨hb, hF⟩
      · refine RN.ift (cd := .lt) (off := 16) (tgt := 29) (by decide +kernel) (mif_lt hb) ?_
        refine RN.blk (ops := [(29, .iconst 0)]) (pc' := 30) (lv' := [(0, .inr (.inr t)), (1, .inl a1), (2, .inl a2)]) (st' := [.inl 0]) (h' := h) (cs := []) (by decide +kernel) rfl trivial ?_
        exact RN.zR (by decide +kernel) rfl (Or.inl rfl) hF
      · refine RN.iff (cd := .lt) (off := 16) (tgt := 29) (by decide +kernel) (mif_ltn hb) ?_
        refine RN.blk (ops := [(16, .iload_n 2), (17, .aload_n 0), (18, .iload_n 1)]) (pc' := 19) (lv' := [(0, .inr (.inr t)), (1, .inl a1), (2, .inl a2)]) (st' := [.inl a1, .inr (.inr t), .inl a2]) (h' := h) (cs := []) (by decide +kernel) rfl trivial ?_
        obtain ⟨hc, hF⟩ := gd_of hF
        obtain ⟨x2, h1, hG, hF⟩ := bd_of hF
        refine RN.cv (i := 28) (k := 84) (q2 := iX8_prefixesOf) (as := [.inr (.inr t), .inl a1]) (r := [.inl a2]) (v := some (.inl x2)) (h1 := h1) (by decide +kernel) rfl rfl rfl rfl rfl (rcv_ok hc.1) (CX8_prefixesOf (d := d) hG) ?_
        rcases it_of hF with ⟨hb, hF⟩ | ⟨hb, hF⟩
        · refine RN.icf (cd := .ge) (off := 7) (tgt := 29) (by decide +kernel) (mif_gen hb) ?_
          refine RN.blk (ops := [(25, .iconst 1)]) (pc' := 26) (lv' := [(0, .inr (.inr t)), (1, .inl a1), (2, .inl a2)]) (st' := [.inl 1]) (h' := h1) (cs := []) (by decide +kernel) rfl trivial ?_
          refine RN.goto (off := 4) (tgt := 30) (by decide +kernel) ?_
          exact RN.zR (by decide +kernel) rfl (Or.inr rfl) hF
        · refine RN.ict (cd := .ge) (off := 7) (tgt := 29) (by decide +kernel) (mif_ge hb) ?_
          refine RN.blk (ops := [(29, .iconst 0)]) (pc' := 30) (lv' := [(0, .inr (.inr t)), (1, .inl a1), (2, .inl a2)]) (st' := [.inl 0]) (h' := h1) (cs := []) (by decide +kernel) rfl trivial ?_
          exact RN.zR (by decide +kernel) rfl (Or.inl rfl) hF
noncomputable def FX9_add_L3 (u0 : Int) (u1 : Int) (K0 : MH → Option (MH)) : Nat → Int → MH → Option (MH)
  | 0, _, _ => none
  | f + 1, v2, h =>
    (if v2 < 0 then
     K0 h
    else
     gd [GK h u0 9] (
      (if (m_rd h u0 1) < 400 then
       gd [GK h u0 9, GK h u0 9, GI h (m_rd h u0 0) 1 (m_rd h u0 1), GK h u0 9, GK h u0 9] (
        hl (m_wr (m_wr h (m_rd h u0 0) (m_rd h u0 1) (m_band (m_ushr u1 v2) 255)) u0 1 (m_w32 ((m_rd (m_wr h (m_rd h u0 0) (m_rd h u0 1) (m_band (m_ushr u1 v2) 255)) u0 1) + 1))) (fun h1 =>
         FX9_add_L3 u0 u1 K0 f (m_w32 (v2 + (-8))) h1))
      else
       K0 h)))
theorem CX9_add_L3 {d : Nat} {u0 : Int} {u1 : Int} {K0 : MH → Option (MH)} {r : MH} (hK0 : ∀ (h : MH), K0 h = some r → RN xs L iX9_add (d) 49 [] [] h (RVo r)) : ∀ (f : Nat) (v2 : Int) (h : MH), FX9_add_L3 u0 u1 K0 f v2 h = some r → RN xs L iX9_add (d) 3 [(0, .inr (.inr u0)), (1, .inl u1), (2, .inl v2)] [] h (RVo r) := by
  intro f
  induction f with
  | zero =>
    intro v2 h hF
    cases hF
  | succ f ih =>
    intro v2 h hF
    unfold FX9_add_L3 at hF
    refine RN.blk (ops := [(3, .iload_n 2)]) (pc' := 4) (lv' := [(0, .inr (.inr u0)), (1, .inl u1), (2, .inl v2)]) (st' := [.inl v2]) (h' := h) (cs := []) (by decide +kernel) rfl trivial ?_
    rcases it_of hF with ⟨hb, hF⟩ | ⟨hb, hF⟩
    · refine RN.ift (cd := .lt) (off := 45) (tgt := 49) (by decide +kernel) (mif_lt hb) ?_
      exact RN.sub (hK0 _ hF) sub_nil
    · refine RN.iff (cd := .lt) (off := 45) (tgt := 49) (by decide +kernel) (mif_ltn hb) ?_
      obtain ⟨hc, hF⟩ := gd_of hF
      refine RN.blk (ops := [(7, .aload_n 0), (8, .getfield 15), (11, .sipush 400)]) (pc' := 14) (lv' := [(0, .inr (.inr u0)), (1, .inl u1), (2, .inl v2)]) (st' := [.inl 400, .inl (m_rd h u0 1)]) (h' := h) (cs := [GK h u0 9]) (by decide +kernel) rfl hc ?_
      rcases it_of hF with ⟨hb, hF⟩ | ⟨hb, hF⟩
      · refine RN.icf (cd := .ge) (off := 35) (tgt := 49) (by decide +kernel) (mif_gen hb) ?_
        obtain ⟨hc, hF⟩ := gd_of hF
        refine RN.blk (ops := [(17, .aload_n 0), (18, .getfield 9), (21, .aload_n 0), (22, .getfield 15), (25, .iload_n 1), (26, .iload_n 2), (27, .iushr), (28, .sipush 255), (31, .iand), (32, .iastore), (33, .aload_n 0), (34, .dup), (35, .getfield 15), (38, .iconst 1), (39, .iadd), (40, .putfield 15)]) (pc' := 43) (lv' := [(0, .inr (.inr u0)), (1, .inl u1), (2, .inl v2)]) (st' := []) (h' := (m_wr (m_wr h (m_rd h u0 0) (m_rd h u0 1) (m_band (m_ushr u1 v2) 255)) u0 1 (m_w32 ((m_rd (m_wr h (m_rd h u0 0) (m_rd h u0 1) (m_band (m_ushr u1 v2) 255)) u0 1) + 1)))) (cs := [GK h u0 9, GK h u0 9, GI h (m_rd h u0 0) 1 (m_rd h u0 1), GK h u0 9, GK h u0 9]) (by decide +kernel) rfl hc ?_
        obtain ⟨h1, he, hF⟩ := hl_of hF
        refine RN.hl he ?_
        refine RN.blk (ops := [(43, .iinc 2 (-8))]) (pc' := 46) (lv' := [(2, .inl (m_w32 (v2 + (-8)))), (0, .inr (.inr u0)), (1, .inl u1)]) (st' := []) (h' := h1) (cs := []) (by decide +kernel) rfl trivial ?_
        refine RN.goto (off := -43) (tgt := 3) (by decide +kernel) ?_
        exact RN.sub (ih _ _ hF) (sub_cons rfl (sub_cons rfl (sub_cons rfl sub_nil)))
      · refine RN.ict (cd := .ge) (off := 35) (tgt := 49) (by decide +kernel) (mif_ge hb) ?_
        exact RN.sub (hK0 _ hF) sub_nil
noncomputable def FX9_add (t : Int) (a1 : Int) (h : MH) : Option (MH) :=
  FX9_add_L3 t a1 (fun h1 =>
   some h1) FU 24 h
theorem CX9_add {d : Nat} {t : Int} {a1 : Int} {h : MH} {r : MH} (hF : FX9_add t a1 h = some r) : RN xs L iX9_add (d) 0 (lvE 0 [.inr (.inr t), .inl a1]) [] h (RVo r) := by
  unfold FX9_add at hF
  refine RN.blk (ops := [(0, .bipush 24), (2, .istore_n 2)]) (pc' := 3) (lv' := [(2, .inl 24), (0, .inr (.inr t)), (1, .inl a1)]) (st' := []) (h' := h) (cs := []) (by decide +kernel) rfl trivial ?_
  refine RN.sub (CX9_add_L3 ?_ _ _ _ hF) (sub_cons rfl (sub_cons rfl (sub_cons rfl sub_nil)))
  · intro h1 hF
    exact RN.vR (by decide +kernel) rfl hF
noncomputable def FX10_lyingInAll (t : Int) (h : MH) : Option (Int × MH) :=
  gd [GK h t 10] (
   (bd (FX10_sumOf (m_rd h t 3) h) (fun x2 h1 =>
    some (x2, h1))))
theorem CX10_lyingInAll {d : Nat} {t : Int} {h : MH} {r : Int × MH} (hF : FX10_lyingInAll t h = some r) : RN xs L iX10_lyingInAll (d + 1) 0 (lvE 0 [.inr (.inr t)]) [] h (RIo r) := by
  unfold FX10_lyingInAll at hF
  obtain ⟨hc, hF⟩ := gd_of hF
  refine RN.blk (ops := [(0, .aload_n 0), (1, .getfield 22)]) (pc' := 4) (lv' := [(0, .inr (.inr t))]) (st' := [.inr (.inr (m_rd h t 3))]) (h' := h) (cs := [GK h t 10]) (by decide +kernel) rfl hc ?_
  obtain ⟨x2, h1, hG, hF⟩ := bd_of hF
  refine RN.cst (i := 57) (k := 108) (q2 := iX10_sumOf) (as := [.inr (.inr (m_rd h t 3))]) (r := []) (v := some (.inl x2)) (h1 := h1) (by decide +kernel) rfl rfl rfl rfl rfl (CX10_sumOf (d := d) hG) ?_
  exact RN.iR (by decide +kernel) rfl hF
noncomputable def FX10_shareOf_L32 (u0 : Int) (u1 : Int) (u2 : Int) (u3 : Int) (u6 : Int) (K0 : Int → Int → MH → Option (Int × MH)) : Nat → Int → Int → Int → MH → Option (Int × MH)
  | 0, _, _, _, _ => none
  | f + 1, v4, v5, v7, h =>
    (if v7 < 6 then
     gd [GK h u0 10, GI h (m_rd h u0 4) 1 v7, (u3 : Int) ≠ 0, GK h u0 10, GI h (m_rd h u0 4) 1 v7, (u3 : Int) ≠ 0] (
      (if u6 < (Int.tmod (m_w32 (u1 * (m_rd h (m_rd h u0 4) v7))) u3) then
       FX10_shareOf_L32 u0 u1 u2 u3 u6 K0 f (m_w32 (v4 - (m_w32 (Int.tdiv (m_w32 (u1 * (m_rd h (m_rd h u0 4) v7))) u3)))) (m_w32 (v5 + 1)) (m_w32 (v7 + 1)) h
      else
       (if (Int.tmod (m_w32 (u1 * (m_rd h (m_rd h u0 4) v7))) u3) = u6 then
        (if v7 < u2 then
         FX10_shareOf_L32 u0 u1 u2 u3 u6 K0 f (m_w32 (v4 - (m_w32 (Int.tdiv (m_w32 (u1 * (m_rd h (m_rd h u0 4) v7))) u3)))) (m_w32 (v5 + 1)) (m_w32 (v7 + 1)) h
        else
         FX10_shareOf_L32 u0 u1 u2 u3 u6 K0 f (m_w32 (v4 - (m_w32 (Int.tdiv (m_w32 (u1 * (m_rd h (m_rd h u0 4) v7))) u3)))) v5 (m_w32 (v7 + 1)) h)
       else
        FX10_shareOf_L32 u0 u1 u2 u3 u6 K0 f (m_w32 (v4 - (m_w32 (Int.tdiv (m_w32 (u1 * (m_rd h (m_rd h u0 4) v7))) u3)))) v5 (m_w32 (v7 + 1)) h)))
    else
     K0 v4 v5 h)
theorem CX10_shareOf_L32 {d : Nat} {u0 : Int} {u1 : Int} {u2 : Int} {u3 : Int} {u6 : Int} {K0 : Int → Int → MH → Option (Int × MH)} {r : Int × MH} (hK0 : ∀ (w4 : Int) (w5 : Int) (h : MH), K0 w4 w5 h = some r → RN xs L iX10_shareOf (d + 2) 97 [(0, .inr (.inr u0)), (1, .inl u1), (2, .inl u2), (3, .inl u3), (4, .inl w4), (5, .inl w5)] [] h (RIo r)) : ∀ (f : Nat) (v4 : Int) (v5 : Int) (v7 : Int) (h : MH), FX10_shareOf_L32 u0 u1 u2 u3 u6 K0 f v4 v5 v7 h = some r → RN xs L iX10_shareOf (d + 2) 32 [(0, .inr (.inr u0)), (1, .inl u1), (2, .inl u2), (3, .inl u3), (4, .inl v4), (5, .inl v5), (6, .inl u6), (7, .inl v7)] [] h (RIo r) := by
  intro f
  induction f with
  | zero =>
    intro v4 v5 v7 h hF
    cases hF
  | succ f ih =>
    intro v4 v5 v7 h hF
    unfold FX10_shareOf_L32 at hF
    refine RN.blk (ops := [(32, .iload 7), (34, .bipush 6)]) (pc' := 36) (lv' := [(0, .inr (.inr u0)), (1, .inl u1), (2, .inl u2), (3, .inl u3), (4, .inl v4), (5, .inl v5), (6, .inl u6), (7, .inl v7)]) (st' := [.inl 6, .inl v7]) (h' := h) (cs := []) (by decide +kernel) rfl trivial ?_
    rcases it_of hF with ⟨hb, hF⟩ | ⟨hb, hF⟩
    · refine RN.icf (cd := .ge) (off := 61) (tgt := 97) (by decide +kernel) (mif_gen hb) ?_
      obtain ⟨hc, hF⟩ := gd_of hF
      refine RN.blk (ops := [(39, .iload 4), (41, .iload_n 1), (42, .aload_n 0), (43, .getfield 25), (46, .iload 7), (48, .iaload), (49, .imul), (50, .iload_n 3), (51, .idiv), (52, .isub), (53, .istore 4), (55, .iload_n 1), (56, .aload_n 0), (57, .getfield 25), (60, .iload 7), (62, .iaload), (63, .imul), (64, .iload_n 3), (65, .irem), (66, .istore 8), (68, .iload 8), (70, .iload 6)]) (pc' := 72) (lv' := [(8, .inl (Int.tmod (m_w32 (u1 * (m_rd h (m_rd h u0 4) v7))) u3)), (4, .inl (m_w32 (v4 - (m_w32 (Int.tdiv (m_w32 (u1 * (m_rd h (m_rd h u0 4) v7))) u3))))), (0, .inr (.inr u0)), (1, .inl u1), (2, .inl u2), (3, .inl u3), (5, .inl v5), (6, .inl u6), (7, .inl v7)]) (st' := [.inl u6, .inl (Int.tmod (m_w32 (u1 * (m_rd h (m_rd h u0 4) v7))) u3)]) (h' := h) (cs := [GK h u0 10, GI h (m_rd h u0 4) 1 v7, (u3 : Int) ≠ 0, GK h u0 10, GI h (m_rd h u0 4) 1 v7, (u3 : Int) ≠ 0]) (by decide +kernel) rfl hc ?_
      rcases it_of hF with ⟨hb, hF⟩ | ⟨hb, hF⟩
      · refine RN.ict (cd := .gt) (off := 16) (tgt := 88) (by decide +kernel) (mif_gt hb) ?_
        refine RN.blk (ops := [(88, .iinc 5 1)]) (pc' := 91) (lv' := [(5, .inl (m_w32 (v5 + 1))), (8, .inl (Int.tmod (m_w32 (u1 * (m_rd h (m_rd h u0 4) v7))) u3)), (4, .inl (m_w32 (v4 - (m_w32 (Int.tdiv (m_w32 (u1 * (m_rd h (m_rd h u0 4) v7))) u3))))), (0, .inr (.inr u0)), (1, .inl u1), (2, .inl u2), (3, .inl u3), (6, .inl u6), (7, .inl v7)]) (st' := []) (h' := h) (cs := []) (by decide +kernel) rfl trivial ?_
        refine RN.blk (ops := [(91, .iinc 7 1)]) (pc' := 94) (lv' := [(7, .inl (m_w32 (v7 + 1))), (5, .inl (m_w32 (v5 + 1))), (8, .inl (Int.tmod (m_w32 (u1 * (m_rd h (m_rd h u0 4) v7))) u3)), (4, .inl (m_w32 (v4 - (m_w32 (Int.tdiv (m_w32 (u1 * (m_rd h (m_rd h u0 4) v7))) u3))))), (0, .inr (.inr u0)), (1, .inl u1), (2, .inl u2), (3, .inl u3), (6, .inl u6)]) (st' := []) (h' := h) (cs := []) (by decide +kernel) rfl trivial ?_
        refine RN.goto (off := -62) (tgt := 32) (by decide +kernel) ?_
        exact RN.sub (ih _ _ _ _ hF) (sub_cons rfl (sub_cons rfl (sub_cons rfl (sub_cons rfl (sub_cons rfl (sub_cons rfl (sub_cons rfl (sub_cons rfl sub_nil))))))))
      · refine RN.icf (cd := .gt) (off := 16) (tgt := 88) (by decide +kernel) (mif_gtn hb) ?_
        refine RN.blk (ops := [(75, .iload 8), (77, .iload 6)]) (pc' := 79) (lv' := [(8, .inl (Int.tmod (m_w32 (u1 * (m_rd h (m_rd h u0 4) v7))) u3)), (4, .inl (m_w32 (v4 - (m_w32 (Int.tdiv (m_w32 (u1 * (m_rd h (m_rd h u0 4) v7))) u3))))), (0, .inr (.inr u0)), (1, .inl u1), (2, .inl u2), (3, .inl u3), (5, .inl v5), (6, .inl u6), (7, .inl v7)]) (st' := [.inl u6, .inl (Int.tmod (m_w32 (u1 * (m_rd h (m_rd h u0 4) v7))) u3)]) (h' := h) (cs := []) (by decide +kernel) rfl trivial ?_
        rcases it_of hF with ⟨hb, hF⟩ | ⟨hb, hF⟩
        · refine RN.icf (cd := .ne) (off := 12) (tgt := 91) (by decide +kernel) (mif_nen hb) ?_
          refine RN.blk (ops := [(82, .iload 7), (84, .iload_n 2)]) (pc' := 85) (lv' := [(8, .inl (Int.tmod (m_w32 (u1 * (m_rd h (m_rd h u0 4) v7))) u3)), (4, .inl (m_w32 (v4 - (m_w32 (Int.tdiv (m_w32 (u1 * (m_rd h (m_rd h u0 4) v7))) u3))))), (0, .inr (.inr u0)), (1, .inl u1), (2, .inl u2), (3, .inl u3), (5, .inl v5), (6, .inl u6), (7, .inl v7)]) (st' := [.inl u2, .inl v7]) (h' := h) (cs := []) (by decide +kernel) rfl trivial ?_
          rcases it_of hF with ⟨hb, hF⟩ | ⟨hb, hF⟩
          · refine RN.icf (cd := .ge) (off := 6) (tgt := 91) (by decide +kernel) (mif_gen hb) ?_
            refine RN.blk (ops := [(88, .iinc 5 1)]) (pc' := 91) (lv' := [(5, .inl (m_w32 (v5 + 1))), (8, .inl (Int.tmod (m_w32 (u1 * (m_rd h (m_rd h u0 4) v7))) u3)), (4, .inl (m_w32 (v4 - (m_w32 (Int.tdiv (m_w32 (u1 * (m_rd h (m_rd h u0 4) v7))) u3))))), (0, .inr (.inr u0)), (1, .inl u1), (2, .inl u2), (3, .inl u3), (6, .inl u6), (7, .inl v7)]) (st' := []) (h' := h) (cs := []) (by decide +kernel) rfl trivial ?_
            refine RN.blk (ops := [(91, .iinc 7 1)]) (pc' := 94) (lv' := [(7, .inl (m_w32 (v7 + 1))), (5, .inl (m_w32 (v5 + 1))), (8, .inl (Int.tmod (m_w32 (u1 * (m_rd h (m_rd h u0 4) v7))) u3)), (4, .inl (m_w32 (v4 - (m_w32 (Int.tdiv (m_w32 (u1 * (m_rd h (m_rd h u0 4) v7))) u3))))), (0, .inr (.inr u0)), (1, .inl u1), (2, .inl u2), (3, .inl u3), (6, .inl u6)]) (st' := []) (h' := h) (cs := []) (by decide +kernel) rfl trivial ?_
            refine RN.goto (off := -62) (tgt := 32) (by decide +kernel) ?_
            exact RN.sub (ih _ _ _ _ hF) (sub_cons rfl (sub_cons rfl (sub_cons rfl (sub_cons rfl (sub_cons rfl (sub_cons rfl (sub_cons rfl (sub_cons rfl sub_nil))))))))
          · refine RN.ict (cd := .ge) (off := 6) (tgt := 91) (by decide +kernel) (mif_ge hb) ?_
            refine RN.blk (ops := [(91, .iinc 7 1)]) (pc' := 94) (lv' := [(7, .inl (m_w32 (v7 + 1))), (8, .inl (Int.tmod (m_w32 (u1 * (m_rd h (m_rd h u0 4) v7))) u3)), (4, .inl (m_w32 (v4 - (m_w32 (Int.tdiv (m_w32 (u1 * (m_rd h (m_rd h u0 4) v7))) u3))))), (0, .inr (.inr u0)), (1, .inl u1), (2, .inl u2), (3, .inl u3), (5, .inl v5), (6, .inl u6)]) (st' := []) (h' := h) (cs := []) (by decide +kernel) rfl trivial ?_
            refine RN.goto (off := -62) (tgt := 32) (by decide +kernel) ?_
            exact RN.sub (ih _ _ _ _ hF) (sub_cons rfl (sub_cons rfl (sub_cons rfl (sub_cons rfl (sub_cons rfl (sub_cons rfl (sub_cons rfl (sub_cons rfl sub_nil))))))))
        · refine RN.ict (cd := .ne) (off := 12) (tgt := 91) (by decide +kernel) (mif_ne hb) ?_
          refine RN.blk (ops := [(91, .iinc 7 1)]) (pc' := 94) (lv' := [(7, .inl (m_w32 (v7 + 1))), (8, .inl (Int.tmod (m_w32 (u1 * (m_rd h (m_rd h u0 4) v7))) u3)), (4, .inl (m_w32 (v4 - (m_w32 (Int.tdiv (m_w32 (u1 * (m_rd h (m_rd h u0 4) v7))) u3))))), (0, .inr (.inr u0)), (1, .inl u1), (2, .inl u2), (3, .inl u3), (5, .inl v5), (6, .inl u6)]) (st' := []) (h' := h) (cs := []) (by decide +kernel) rfl trivial ?_
          refine RN.goto (off := -62) (tgt := 32) (by decide +kernel) ?_
          exact RN.sub (ih _ _ _ _ hF) (sub_cons rfl (sub_cons rfl (sub_cons rfl (sub_cons rfl (sub_cons rfl (sub_cons rfl (sub_cons rfl (sub_cons rfl sub_nil))))))))
    · refine RN.ict (cd := .ge) (off := 61) (tgt := 97) (by decide +kernel) (mif_ge hb) ?_
      exact RN.sub (hK0 _ _ _ hF) (sub_cons rfl (sub_cons rfl (sub_cons rfl (sub_cons rfl (sub_cons rfl (sub_cons rfl sub_nil))))))
noncomputable def FX10_shareOf (t : Int) (a1 : Int) (a2 : Int) (h : MH) : Option (Int × MH) :=
  gd [GK h t 10] (bd (FX10_bagsOfAll t h) (fun x2 h1 =>
   (if x2 = 0 then
    some (0, h1)
   else
    gd [GK h1 t 10, GI h1 (m_rd h1 t 4) 1 a2, (x2 : Int) ≠ 0] (
     FX10_shareOf_L32 t a1 a2 x2 (Int.tmod (m_w32 (a1 * (m_rd h1 (m_rd h1 t 4) a2))) x2) (fun w3 w4 h5 =>
      gd [GK h5 t 10, GI h5 (m_rd h5 t 4) 1 a2, (x2 : Int) ≠ 0] (
       (if w4 < w3 then
        some ((m_w32 ((m_w32 (Int.tdiv (m_w32 (a1 * (m_rd h5 (m_rd h5 t 4) a2))) x2)) + 1)), h5)
       else
        some ((m_w32 (Int.tdiv (m_w32 (a1 * (m_rd h5 (m_rd h5 t 4) a2))) x2)), h5)))) FU a1 0 0 h1))))
theorem CX10_shareOf {d : Nat} {t : Int} {a1 : Int} {a2 : Int} {h : MH} {r : Int × MH} (hF : FX10_shareOf t a1 a2 h = some r) : RN xs L iX10_shareOf (d + 2) 0 (lvE 0 [.inr (.inr t), .inl a1, .inl a2]) [] h (RIo r) := by
  unfold FX10_shareOf at hF
  refine RN.blk (ops := [(0, .aload_n 0)]) (pc' := 1) (lv' := [(0, .inr (.inr t)), (1, .inl a1), (2, .inl a2)]) (st' := [.inr (.inr t)]) (h' := h) (cs := []) (by decide +kernel) rfl trivial ?_
  obtain ⟨hc, hF⟩ := gd_of hF
  obtain ⟨x2, h1, hG, hF⟩ := bd_of hF
  refine RN.cv (i := 61) (k := 106) (q2 := iX10_bagsOfAll) (as := [.inr (.inr t)]) (r := []) (v := some (.inl x2)) (h1 := h1) (by decide +kernel) rfl rfl rfl rfl rfl (rcv_ok hc.1) (CX10_bagsOfAll (d := d) hG) ?_
  refine RN.blk (ops := [(4, .istore_n 3), (5, .iload_n 3)]) (pc' := 6) (lv' := [(3, .inl x2), (0, .inr (.inr t)), (1, .inl a1), (2, .inl a2)]) (st' := [.inl x2]) (h' := h1) (cs := []) (by decide +kernel) rfl trivial ?_
  rcases it_of hF with ⟨hb, hF⟩ | ⟨hb, hF⟩
  · refine RN.iff (cd := .ne) (off := 5) (tgt := 11) (by decide +kernel) (mif_nen hb) ?_
    refine RN.blk (ops := [(9, .iconst 0)]) (pc' := 10) (lv' := [(3, .inl x2), (0, .inr (.inr t)), (1, .inl a1), (2, .inl a2)]) (st' := [.inl 0]) (h' := h1) (cs := []) (by decide +kernel) rfl trivial ?_
    exact RN.iR (by decide +kernel) rfl hF
  · refine RN.ift (cd := .ne) (off := 5) (tgt := 11) (by decide +kernel) (mif_ne hb) ?_
    obtain ⟨hc, hF⟩ := gd_of hF
    refine RN.blk (ops := [(11, .iload_n 1), (12, .istore 4), (14, .iconst 0), (15, .istore 5), (17, .iload_n 1), (18, .aload_n 0), (19, .getfield 25), (22, .iload_n 2), (23, .iaload), (24, .imul), (25, .iload_n 3), (26, .irem), (27, .istore 6), (29, .iconst 0), (30, .istore 7)]) (pc' := 32) (lv' := [(7, .inl 0), (6, .inl (Int.tmod (m_w32 (a1 * (m_rd h1 (m_rd h1 t 4) a2))) x2)), (5, .inl 0), (4, .inl a1), (3, .inl x2), (0, .inr (.inr t)), (1, .inl a1), (2, .inl a2)]) (st' := []) (h' := h1) (cs := [GK h1 t 10, GI h1 (m_rd h1 t 4) 1 a2, (x2 : Int) ≠ 0]) (by decide +kernel) rfl hc ?_
    refine RN.sub (CX10_shareOf_L32 ?_ _ _ _ _ _ hF) (sub_cons rfl (sub_cons rfl (sub_cons rfl (sub_cons rfl (sub_cons rfl (sub_cons rfl (sub_cons rfl (sub_cons rfl sub_nil))))))))
    · intro w3 w4 h5 hF
      obtain ⟨hc, hF⟩ := gd_of hF
      refine RN.blk (ops := [(97, .iload_n 1), (98, .aload_n 0), (99, .getfield 25), (102, .iload_n 2), (103, .iaload), (104, .imul), (105, .iload_n 3), (106, .idiv), (107, .istore 7), (109, .iload 5), (111, .iload 4)]) (pc' := 113) (lv' := [(7, .inl (m_w32 (Int.tdiv (m_w32 (a1 * (m_rd h5 (m_rd h5 t 4) a2))) x2))), (0, .inr (.inr t)), (1, .inl a1), (2, .inl a2), (3, .inl x2), (4, .inl w3), (5, .inl w4)]) (st' := [.inl w3, .inl w4]) (h' := h5) (cs := [GK h5 t 10, GI h5 (m_rd h5 t 4) 1 a2, (x2 : Int) ≠ 0]) (by decide +kernel) rfl hc ?_
      rcases it_of hF with ⟨hb, hF⟩ | ⟨hb, hF⟩
      · refine RN.icf (cd := .ge) (off := 10) (tgt := 123) (by decide +kernel) (mif_gen hb) ?_
        refine RN.blk (ops := [(116, .iload 7), (118, .iconst 1), (119, .iadd)]) (pc' := 120) (lv' := [(7, .inl (m_w32 (Int.tdiv (m_w32 (a1 * (m_rd h5 (m_rd h5 t 4) a2))) x2))), (0, .inr (.inr t)), (1, .inl a1), (2, .inl a2), (3, .inl x2), (4, .inl w3), (5, .inl w4)]) (st' := [.inl (m_w32 ((m_w32 (Int.tdiv (m_w32 (a1 * (m_rd h5 (m_rd h5 t 4) a2))) x2)) + 1))]) (h' := h5) (cs := []) (by decide +kernel) rfl trivial ?_
        refine RN.goto (off := 5) (tgt := 125) (by decide +kernel) ?_
        exact RN.iR (by decide +kernel) rfl hF
      · refine RN.ict (cd := .ge) (off := 10) (tgt := 123) (by decide +kernel) (mif_ge hb) ?_
        refine RN.blk (ops := [(123, .iload 7)]) (pc' := 125) (lv' := [(7, .inl (m_w32 (Int.tdiv (m_w32 (a1 * (m_rd h5 (m_rd h5 t 4) a2))) x2))), (0, .inr (.inr t)), (1, .inl a1), (2, .inl a2), (3, .inl x2), (4, .inl w3), (5, .inl w4)]) (st' := [.inl (m_w32 (Int.tdiv (m_w32 (a1 * (m_rd h5 (m_rd h5 t 4) a2))) x2))]) (h' := h5) (cs := []) (by decide +kernel) rfl trivial ?_
        exact RN.iR (by decide +kernel) rfl hF
end Dc
