/-! METHODS AS FUNCTIONS, and their certificates (by program): X9_fail, X9_isDigit, X9_next, X9_takeNumber, X3_takeEntry, X9_byteAt, X9_takeWord, X3_takeKind, X10_queue, X3_takeLetter, X3_takeRoom, X8_lay, X3_takeShape, X3_tooMany, X3_takeClause, X9_rewind, X9_takeByte, X9_takeSemicolon, X3_parse -/
section Dc
variable {xs : Int → Int} {L : Int}
noncomputable def FX9_fail (t : Int) (a1 : Int) (a2 : Int) (h : MH) : Option (Int × MH) :=
  gd [GK h t 9] (
   (if (m_rd h t 3) = 0 then
    gd [GK h t 9] (
     some (0, (m_wr h t 3 (m_w32 ((m_w32 (1 + (m_w32 (8 * a1)))) + a2)))))
   else
    some (0, h)))
theorem CX9_fail {d : Nat} {t : Int} {a1 : Int} {a2 : Int} {h : MH} {r : Int × MH} (hF : FX9_fail t a1 a2 h = some r) : RN xs L iX9_fail (d) 0 (lvE 0 [.inr (.inr t), .inl a1, .inl a2]) [] h (RIo r) := by
  unfold FX9_fail at hF
  obtain ⟨hc, hF⟩ := gd_of hF
  refine RN.blk (ops := [(0, .aload_n 0), (1, .getfield 22)]) (pc' := 4) (lv' := [(0, .inr (.inr t)), (1, .inl a1), (2, .inl a2)]) (st' := [.inl (m_rd h t 3)]) (h' := h) (cs := [GK h t 9]) (by decide +kernel) rfl hc ?_
  rcases it_of hF with ⟨hb, hF⟩ | ⟨hb, hF⟩
  · refine RN.iff (cd := .ne) (off := 15) (tgt := 19) (by decide +kernel) (mif_nen hb) ?_
    obtain ⟨hc, hF⟩ := gd_of hF
    refine RN.blk (ops := [(7, .aload_n 0), (8, .iconst 1), (9, .bipush 8), (11, .iload_n 1), (12, .imul), (13, .iadd), (14, .iload_n 2), (15, .iadd), (16, .putfield 22)]) (pc' := 19) (lv' := [(0, .inr (.inr t)), (1, .inl a1), (2, .inl a2)]) (st' := []) (h' := (m_wr h t 3 (m_w32 ((m_w32 (1 + (m_w32 (8 * a1)))) + a2)))) (cs := [GK h t 9]) (by decide +kernel) rfl hc ?_
    refine RN.blk (ops := [(19, .iconst 0)]) (pc' := 20) (lv' := [(0, .inr (.inr t)), (1, .inl a1), (2, .inl a2)]) (st' := [.inl 0]) (h' := (m_wr h t 3 (m_w32 ((m_w32 (1 + (m_w32 (8 * a1)))) + a2)))) (cs := []) (by decide +kernel) rfl trivial ?_
    exact RN.zR (by decide +kernel) rfl (Or.inl rfl) hF
  · refine RN.ift (cd := .ne) (off := 15) (tgt := 19) (by decide +kernel) (mif_ne hb) ?_
    refine RN.blk (ops := [(19, .iconst 0)]) (pc' := 20) (lv' := [(0, .inr (.inr t)), (1, .inl a1), (2, .inl a2)]) (st' := [.inl 0]) (h' := h) (cs := []) (by decide +kernel) rfl trivial ?_
    exact RN.zR (by decide +kernel) rfl (Or.inl rfl) hF
noncomputable def FX9_isDigit (a1 : Int) (h : MH) : Option (Int × MH) :=
  (if a1 < 48 then
   some (0, h)
  else
   (if 57 < a1 then
    some (0, h)
   else
    some (1, h)))
theorem CX9_isDigit {d : Nat} {a1 : Int} {h : MH} {r : Int × MH} (hF : FX9_isDigit a1 h = some r) : RN xs L iX9_isDigit (d) 0 (lvE 0 [.inl a1]) [] h (RIo r) := by
  unfold FX9_isDigit at hF
  refine RN.blk (ops := [(0, .iload_n 0), (1, .bipush 48)]) (pc' := 3) (lv' := [(0, .inl a1)]) (st' := [.inl 48, .inl a1]) (h' := h) (cs := []) (by decide +kernel) rfl trivial ?_
  rcases it_of hF with ⟨hb, hF⟩ | ⟨hb, hF⟩
  · refine RN.ict (cd := .lt) (off := 13) (tgt := 16) (by decide +kernel) (mif_lt hb) ?_
    refine RN.blk (ops := [(16, .iconst 0)]) (pc' := 17) (lv' := [(0, .inl a1)]) (st' := [.inl 0]) (h' := h) (cs := []) (by decide +kernel) rfl trivial ?_
    exact RN.zR (by decide +kernel) rfl (Or.inl rfl) hF
  · refine RN.icf (cd := .lt) (off := 13) (tgt := 16) (by decide +kernel) (mif_ltn hb) ?_
    refine RN.blk (ops := [(6, .iload_n 0), (7, .bipush 57)]) (pc' := 9) (lv' := [(0, .inl a1)]) (st' := [.inl 57, .inl a1]) (h' := h) (cs := []) (by decide +kernel) rfl trivial ?_
    rcases it_of hF with ⟨hb, hF⟩ | ⟨hb, hF⟩
    · refine RN.ict (cd := .gt) (off := 7) (tgt := 16) (by decide +kernel) (mif_gt hb) ?_
      refine RN.blk (ops := [(16, .iconst 0)]) (pc' := 17) (lv' := [(0, .inl a1)]) (st' := [.inl 0]) (h' := h) (cs := []) (by decide +kernel) rfl trivial ?_
      exact RN.zR (by decide +kernel) rfl (Or.inl rfl) hF
    · refine RN.icf (cd := .gt) (off := 7) (tgt := 16) (by decide +kernel) (mif_gtn hb) ?_
      refine RN.blk (ops := [(12, .iconst 1)]) (pc' := 13) (lv' := [(0, .inl a1)]) (st' := [.inl 1]) (h' := h) (cs := []) (by decide +kernel) rfl trivial ?_
      refine RN.goto (off := 4) (tgt := 17) (by decide +kernel) ?_
      exact RN.zR (by decide +kernel) rfl (Or.inr rfl) hF
noncomputable def FX9_next_L5 (u0 : Int) (K0 : MH → Option (Int × MH)) : Nat → Int → MH → Option (Int × MH)
  | 0, _, _ => none
  | f + 1, v1, h =>
    gd [GK h u0 9] (
     (if v1 < (m_rd h u0 1) then
      gd [GK h u0 9, GI h (m_rd h u0 0) 1 v1] (
       (if (m_rd h (m_rd h u0 0) v1) = 32 then
        gd [GK h u0 9] (
         FX9_next_L5 u0 K0 f (m_w32 (v1 + 1)) (m_wr h u0 2 (m_w32 (v1 + 1))))
       else
        K0 h))
     else
      K0 h))
theorem CX9_next_L5 {d : Nat} {u0 : Int} {K0 : MH → Option (Int × MH)} {r : Int × MH} (hK0 : ∀ (h : MH), K0 h = some r → RN xs L iX9_next (d) 37 [(0, .inr (.inr u0))] [] h (RIo r)) : ∀ (f : Nat) (v1 : Int) (h : MH), FX9_next_L5 u0 K0 f v1 h = some r → RN xs L iX9_next (d) 5 [(0, .inr (.inr u0)), (1, .inl v1)] [] h (RIo r) := by
  intro f
  induction f with
  | zero =>
    intro v1 h hF
    cases hF
  | succ f ih =>
    intro v1 h hF
    unfold FX9_next_L5 at hF
    obtain ⟨hc, hF⟩ := gd_of hF
    refine RN.blk (ops := [(5, .iload_n 1), (6, .aload_n 0), (7, .getfield 15)]) (pc' := 10) (lv' := [(0, .inr (.inr u0)), (1, .inl v1)]) (st' := [.inl (m_rd h u0 1), .inl v1]) (h' := h) (cs := [GK h u0 9]) (by decide +kernel) rfl hc ?_
    rcases it_of hF with ⟨hb, hF⟩ | ⟨hb, hF⟩
    · refine RN.icf (cd := .ge) (off := 27) (tgt := 37) (by decide +kernel) (mif_gen hb) ?_
      obtain ⟨hc, hF⟩ := gd_of hF
      refine RN.blk (ops := [(13, .aload_n 0), (14, .getfield 9), (17, .iload_n 1), (18, .iaload), (19, .bipush 32)]) (pc' := 21) (lv' := [(0, .inr (.inr u0)), (1, .inl v1)]) (st' := [.inl 32, .inl (m_rd h (m_rd h u0 0) v1)]) (h' := h) (cs := [GK h u0 9, GI h (m_rd h u0 0) 1 v1]) (by decide +kernel) rfl hc ?_
      rcases it_of hF with ⟨hb, hF⟩ | ⟨hb, hF⟩
      · refine RN.icf (cd := .ne) (off := 16) (tgt := 37) (by decide +kernel) (mif_nen hb) ?_
        obtain ⟨hc, hF⟩ := gd_of hF
        refine RN.blk (ops := [(24, .aload_n 0), (25, .iload_n 1), (26, .iconst 1), (27, .iadd), (28, .putfield 19), (31, .iinc 1 1)]) (pc' := 34) (lv' := [(1, .inl (m_w32 (v1 + 1))), (0, .inr (.inr u0))]) (st' := []) (h' := (m_wr h u0 2 (m_w32 (v1 + 1)))) (cs := [GK h u0 9]) (by decide +kernel) rfl hc ?_
        refine RN.goto (off := -29) (tgt := 5) (by decide +kernel) ?_
        exact RN.sub (ih _ _ hF) (sub_cons rfl (sub_cons rfl sub_nil))
      · refine RN.ict (cd := .ne) (off := 16) (tgt := 37) (by decide +kernel) (mif_ne hb) ?_
        exact RN.sub (hK0 _ hF) (sub_cons rfl sub_nil)
    · refine RN.ict (cd := .ge) (off := 27) (tgt := 37) (by decide +kernel) (mif_ge hb) ?_
      exact RN.sub (hK0 _ hF) (sub_cons rfl sub_nil)
noncomputable def FX9_next (t : Int) (h : MH) : Option (Int × MH) :=
  gd [GK h t 9] (
   FX9_next_L5 t (fun h1 =>
    gd [GK h1 t 9, GK h1 t 9] (
     (if (m_rd h1 t 2) < (m_rd h1 t 1) then
      gd [GK h1 t 9, GK h1 t 9, GI h1 (m_rd h1 t 0) 1 (m_rd h1 t 2)] (
       some ((m_rd h1 (m_rd h1 t 0) (m_rd h1 t 2)), h1))
     else
      some ((-1), h1)))) FU (m_rd h t 2) h)
theorem CX9_next {d : Nat} {t : Int} {h : MH} {r : Int × MH} (hF : FX9_next t h = some r) : RN xs L iX9_next (d) 0 (lvE 0 [.inr (.inr t)]) [] h (RIo r) := by
  unfold FX9_next at hF
  obtain ⟨hc, hF⟩ := gd_of hF
  refine RN.blk (ops := [(0, .aload_n 0), (1, .getfield 19), (4, .istore_n 1)]) (pc' := 5) (lv' := [(1, .inl (m_rd h t 2)), (0, .inr (.inr t))]) (st' := []) (h' := h) (cs := [GK h t 9]) (by decide +kernel) rfl hc ?_
  refine RN.sub (CX9_next_L5 ?_ _ _ _ hF) (sub_cons rfl (sub_cons rfl sub_nil))
  · intro h1 hF
    obtain ⟨hc, hF⟩ := gd_of hF
    refine RN.blk (ops := [(37, .aload_n 0), (38, .getfield 19), (41, .aload_n 0), (42, .getfield 15)]) (pc' := 45) (lv' := [(0, .inr (.inr t))]) (st' := [.inl (m_rd h1 t 1), .inl (m_rd h1 t 2)]) (h' := h1) (cs := [GK h1 t 9, GK h1 t 9]) (by decide +kernel) rfl hc ?_
    rcases it_of hF with ⟨hb, hF⟩ | ⟨hb, hF⟩
    · refine RN.icf (cd := .ge) (off := 15) (tgt := 60) (by decide +kernel) (mif_gen hb) ?_
      obtain ⟨hc, hF⟩ := gd_of hF
      refine RN.blk (ops := [(48, .aload_n 0), (49, .getfield 9), (52, .aload_n 0), (53, .getfield 19), (56, .iaload)]) (pc' := 57) (lv' := [(0, .inr (.inr t))]) (st' := [.inl (m_rd h1 (m_rd h1 t 0) (m_rd h1 t 2))]) (h' := h1) (cs := [GK h1 t 9, GK h1 t 9, GI h1 (m_rd h1 t 0) 1 (m_rd h1 t 2)]) (by decide +kernel) rfl hc ?_
      refine RN.goto (off := 4) (tgt := 61) (by decide +kernel) ?_
      exact RN.iR (by decide +kernel) rfl hF
    · refine RN.ict (cd := .ge) (off := 15) (tgt := 60) (by decide +kernel) (mif_ge hb) ?_
      refine RN.blk (ops := [(60, .iconst (-1))]) (pc' := 61) (lv' := [(0, .inr (.inr t))]) (st' := [.inl (-1)]) (h' := h1) (cs := []) (by decide +kernel) rfl trivial ?_
      exact RN.iR (by decide +kernel) rfl hF
noncomputable def FX9_takeNumber_L33 (u0 : Int) (u1 : Int) (u2 : Int) (u3 : Int) (K0 : Int → MH → Option (Int × MH)) : Nat → Int → Int → MH → Option (Int × MH)
  | 0, _, _, _ => none
  | f + 1, v4, v5, h =>
    gd [GK h u0 9] (
     (if v5 < (m_rd h u0 1) then
      gd [GK h u0 9, GI h (m_rd h u0 0) 1 v5] (
       (bd (FX9_isDigit (m_rd h (m_rd h u0 0) v5) h) (fun x2 h1 =>
        (if x2 = 0 then
         K0 v4 h1
        else
         (if v5 < (m_w32 (u3 + 5)) then
          gd [GK h1 u0 9, GI h1 (m_rd h1 u0 0) 1 v5] (
           gd [GK h1 u0 9] (
            FX9_takeNumber_L33 u0 u1 u2 u3 K0 f (m_w32 ((m_w32 ((m_w32 (v4 * 10)) + (m_rd h1 (m_rd h1 u0 0) v5))) - 48)) (m_w32 (v5 + 1)) (m_wr h1 u0 2 (m_w32 (v5 + 1)))))
         else
          gd [GK h1 u0 9] (
           FX9_takeNumber_L33 u0 u1 u2 u3 K0 f v4 (m_w32 (v5 + 1)) (m_wr h1 u0 2 (m_w32 (v5 + 1)))))))))
     else
      K0 v4 h))
theorem CX9_takeNumber_L33 {d : Nat} {u0 : Int} {u1 : Int} {u2 : Int} {u3 : Int} {K0 : Int → MH → Option (Int × MH)} {r : Int × MH} (hK0 : ∀ (w4 : Int) (h : MH), K0 w4 h = some r → RN xs L iX9_takeNumber (d + 1) 95 [(0, .inr (.inr u0)), (1, .inl u1), (2, .inl u2), (3, .inl u3), (4, .inl w4)] [] h (RIo r)) : ∀ (f : Nat) (v4 : Int) (v5 : Int) (h : MH), FX9_takeNumber_L33 u0 u1 u2 u3 K0 f v4 v5 h = some r → RN xs L iX9_takeNumber (d + 1) 33 [(0, .inr (.inr u0)), (1, .inl u1), (2, .inl u2), (3, .inl u3), (4, .inl v4), (5, .inl v5)] [] h (RIo r) := by
  intro f
  induction f with
  | zero =>
    intro v4 v5 h hF
    cases hF
  | succ f ih =>
    intro v4 v5 h hF
    unfold FX9_takeNumber_L33 at hF
    obtain ⟨hc, hF⟩ := gd_of hF
    refine RN.blk (ops := [(33, .iload 5), (35, .aload_n 0), (36, .getfield 15)]) (pc' := 39) (lv' := [(0, .inr (.inr u0)), (1, .inl u1), (2, .inl u2), (3, .inl u3), (4, .inl v4), (5, .inl v5)]) (st' := [.inl (m_rd h u0 1), .inl v5]) (h' := h) (cs := [GK h u0 9]) (by decide +kernel) rfl hc ?_
    rcases it_of hF with ⟨hb, hF⟩ | ⟨hb, hF⟩
    · refine RN.icf (cd := .ge) (off := 56) (tgt := 95) (by decide +kernel) (mif_gen hb) ?_
      obtain ⟨hc, hF⟩ := gd_of hF
      refine RN.blk (ops := [(42, .aload_n 0), (43, .getfield 9), (46, .iload 5), (48, .iaload)]) (pc' := 49) (lv' := [(0, .inr (.inr u0)), (1, .inl u1), (2, .inl u2), (3, .inl u3), (4, .inl v4), (5, .inl v5)]) (st' := [.inl (m_rd h (m_rd h u0 0) v5)]) (h' := h) (cs := [GK h u0 9, GI h (m_rd h u0 0) 1 v5]) (by decide +kernel) rfl hc ?_
      obtain ⟨x2, h1, hG, hF⟩ := bd_of hF
      refine RN.cst (i := 46) (k := 98) (q2 := iX9_isDigit) (as := [.inl (m_rd h (m_rd h u0 0) v5)]) (r := []) (v := some (.inl x2)) (h1 := h1) (by decide +kernel) rfl rfl rfl rfl rfl (CX9_isDigit (d := d) hG) ?_
      rcases it_of hF with ⟨hb, hF⟩ | ⟨hb, hF⟩
      · refine RN.ift (cd := .eq) (off := 43) (tgt := 95) (by decide +kernel) (mif_eq hb) ?_
        exact RN.sub (hK0 _ _ hF) (sub_cons rfl (sub_cons rfl (sub_cons rfl (sub_cons rfl (sub_cons rfl sub_nil)))))
      · refine RN.iff (cd := .eq) (off := 43) (tgt := 95) (by decide +kernel) (mif_eqn hb) ?_
        refine RN.blk (ops := [(55, .iload 5), (57, .iload_n 3), (58, .iconst 5), (59, .iadd)]) (pc' := 60) (lv' := [(0, .inr (.inr u0)), (1, .inl u1), (2, .inl u2), (3, .inl u3), (4, .inl v4), (5, .inl v5)]) (st' := [.inl (m_w32 (u3 + 5)), .inl v5]) (h' := h1) (cs := []) (by decide +kernel) rfl trivial ?_
        rcases it_of hF with ⟨hb, hF⟩ | ⟨hb, hF⟩
        · refine RN.icf (cd := .ge) (off := 21) (tgt := 81) (by decide +kernel) (mif_gen hb) ?_
          obtain ⟨hc, hF⟩ := gd_of hF
          refine RN.blk (ops := [(63, .iload 4), (65, .bipush 10), (67, .imul), (68, .aload_n 0), (69, .getfield 9), (72, .iload 5), (74, .iaload), (75, .iadd), (76, .bipush 48), (78, .isub), (79, .istore 4)]) (pc' := 81) (lv' := [(4, .inl (m_w32 ((m_w32 ((m_w32 (v4 * 10)) + (m_rd h1 (m_rd h1 u0 0) v5))) - 48))), (0, .inr (.inr u0)), (1, .inl u1), (2, .inl u2), (3, .inl u3), (5, .inl v5)]) (st' := []) (h' := h1) (cs := [GK h1 u0 9, GI h1 (m_rd h1 u0 0) 1 v5]) (by decide +kernel) rfl hc ?_
          obtain ⟨hc, hF⟩ := gd_of hF
          refine RN.blk (ops := [(81, .aload_n 0), (82, .iload 5), (84, .iconst 1), (85, .iadd), (86, .putfield 19), (89, .iinc 5 1)]) (pc' := 92) (lv' := [(5, .inl (m_w32 (v5 + 1))), (4, .inl (m_w32 ((m_w32 ((m_w32 (v4 * 10)) + (m_rd h1 (m_rd h1 u0 0) v5))) - 48))), (0, .inr (.inr u0)), (1, .inl u1), (2, .inl u2), (3, .inl u3)]) (st' := []) (h' := (m_wr h1 u0 2 (m_w32 (v5 + 1)))) (cs := [GK h1 u0 9]) (by decide +kernel) rfl hc ?_
          refine RN.goto (off := -59) (tgt := 33) (by decide +kernel) ?_
          exact RN.sub (ih _ _ _ hF) (sub_cons rfl (sub_cons rfl (sub_cons rfl (sub_cons rfl (sub_cons rfl (sub_cons rfl sub_nil))))))
        · refine RN.ict (cd := .ge) (off := 21) (tgt := 81) (by decide +kernel) (mif_ge hb) ?_
          obtain ⟨hc, hF⟩ := gd_of hF
          refine RN.blk (ops := [(81, .aload_n 0), (82, .iload 5), (84, .iconst 1), (85, .iadd), (86, .putfield 19), (89, .iinc 5 1)]) (pc' := 92) (lv' := [(5, .inl (m_w32 (v5 + 1))), (0, .inr (.inr u0)), (1, .inl u1), (2, .inl u2), (3, .inl u3), (4, .inl v4)]) (st' := []) (h' := (m_wr h1 u0 2 (m_w32 (v5 + 1)))) (cs := [GK h1 u0 9]) (by decide +kernel) rfl hc ?_
          refine RN.goto (off := -59) (tgt := 33) (by decide +kernel) ?_
          exact RN.sub (ih _ _ _ hF) (sub_cons rfl (sub_cons rfl (sub_cons rfl (sub_cons rfl (sub_cons rfl (sub_cons rfl sub_nil))))))
    · refine RN.ict (cd := .ge) (off := 56) (tgt := 95) (by decide +kernel) (mif_ge hb) ?_
      exact RN.sub (hK0 _ _ hF) (sub_cons rfl (sub_cons rfl (sub_cons rfl (sub_cons rfl (sub_cons rfl sub_nil)))))
noncomputable def FX9_takeNumber (t : Int) (a1 : Int) (a2 : Int) (h : MH) : Option (Int × MH) :=
  gd [GK h t 9] (bd (FX9_next t h) (fun x2 h1 =>
   (bd (FX9_isDigit x2 h1) (fun x4 h3 =>
    (if x4 = 0 then
     gd [GK h3 t 9] (
      gd [GK h3 t 9] (bd (FX9_fail t (m_rd h3 t 2) 0 h3) (fun x11 h10 =>
       some ((-1), h10))))
    else
     gd [GK h3 t 9] (
      FX9_takeNumber_L33 t a1 a2 (m_rd h3 t 2) (fun w5 h6 =>
       gd [GK h6 t 9] (
        jn (
         gd [GK h6 t 9] (bd (FX9_fail t (m_rd h3 t 2) 1 h6) (fun x9 h8 =>
          some ((-1), h8)))) (fun j7 =>
         (if 5 < (m_w32 ((m_rd h6 t 2) - (m_rd h3 t 2))) then
          j7
         else
          (if w5 < a1 then
           j7
          else
           (if a2 < w5 then
            j7
           else
            some (w5, h6))))))) FU 0 (m_rd h3 t 2) h3))))))
theorem CX9_takeNumber {d : Nat} {t : Int} {a1 : Int} {a2 : Int} {h : MH} {r : Int × MH} (hF : FX9_takeNumber t a1 a2 h = some r) : RN xs L iX9_takeNumber (d + 1) 0 (lvE 0 [.inr (.inr t), .inl a1, .inl a2]) [] h (RIo r) := by
  unfold FX9_takeNumber at hF
  refine RN.blk (ops := [(0, .aload_n 0)]) (pc' := 1) (lv' := [(0, .inr (.inr t)), (1, .inl a1), (2, .inl a2)]) (st' := [.inr (.inr t)]) (h' := h) (cs := []) (by decide +kernel) rfl trivial ?_
  obtain ⟨hc, hF⟩ := gd_of hF
  obtain ⟨x2, h1, hG, hF⟩ := bd_of hF
  refine RN.cv (i := 25) (k := 93) (q2 := iX9_next) (as := [.inr (.inr t)]) (r := []) (v := some (.inl x2)) (h1 := h1) (by decide +kernel) rfl rfl rfl rfl rfl (rcv_ok hc.1) (CX9_next (d := d) hG) ?_
  obtain ⟨x4, h3, hG, hF⟩ := bd_of hF
  refine RN.cst (i := 46) (k := 98) (q2 := iX9_isDigit) (as := [.inl x2]) (r := []) (v := some (.inl x4)) (h1 := h3) (by decide +kernel) rfl rfl rfl rfl rfl (CX9_isDigit (d := d) hG) ?_
  rcases it_of hF with ⟨hb, hF⟩ | ⟨hb, hF⟩
  · refine RN.iff (cd := .ne) (off := 15) (tgt := 22) (by decide +kernel) (mif_nen hb) ?_
    obtain ⟨hc, hF⟩ := gd_of hF
    refine RN.blk (ops := [(10, .aload_n 0), (11, .aload_n 0), (12, .getfield 19), (15, .iconst 0)]) (pc' := 16) (lv' := [(0, .inr (.inr t)), (1, .inl a1), (2, .inl a2)]) (st' := [.inl 0, .inl (m_rd h3 t 2), .inr (.inr t)]) (h' := h3) (cs := [GK h3 t 9]) (by decide +kernel) rfl hc ?_
    obtain ⟨hc, hF⟩ := gd_of hF
    obtain ⟨x11, h10, hG, hF⟩ := bd_of hF
    refine RN.cv (i := 29) (k := 91) (q2 := iX9_fail) (as := [.inr (.inr t), .inl (m_rd h3 t 2), .inl 0]) (r := []) (v := some (.inl x11)) (h1 := h10) (by decide +kernel) rfl rfl rfl rfl rfl (rcv_ok hc.1) (CX9_fail (d := d) hG) ?_
    refine RN.blk (ops := [(19, .pop), (20, .iconst (-1))]) (pc' := 21) (lv' := [(0, .inr (.inr t)), (1, .inl a1), (2, .inl a2)]) (st' := [.inl (-1)]) (h' := h10) (cs := []) (by decide +kernel) rfl trivial ?_
    exact RN.iR (by decide +kernel) rfl hF
  · refine RN.ift (cd := .ne) (off := 15) (tgt := 22) (by decide +kernel) (mif_ne hb) ?_
    obtain ⟨hc, hF⟩ := gd_of hF
    refine RN.blk (ops := [(22, .aload_n 0), (23, .getfield 19), (26, .istore_n 3), (27, .iconst 0), (28, .istore 4), (30, .iload_n 3), (31, .istore 5)]) (pc' := 33) (lv' := [(5, .inl (m_rd h3 t 2)), (4, .inl 0), (3, .inl (m_rd h3 t 2)), (0, .inr (.inr t)), (1, .inl a1), (2, .inl a2)]) (st' := []) (h' := h3) (cs := [GK h3 t 9]) (by decide +kernel) rfl hc ?_
    refine RN.sub (CX9_takeNumber_L33 ?_ _ _ _ _ hF) (sub_cons rfl (sub_cons rfl (sub_cons rfl (sub_cons rfl (sub_cons rfl (sub_cons rfl sub_nil))))))
    · intro w5 h6 hF
      obtain ⟨hc, hF⟩ := gd_of hF
      refine RN.blk (ops := [(95, .aload_n 0), (96, .getfield 19), (99, .iload_n 3), (100, .isub), (101, .iconst 5)]) (pc' := 102) (lv' := [(0, .inr (.inr t)), (1, .inl a1), (2, .inl a2), (3, .inl (m_rd h3 t 2)), (4, .inl w5)]) (st' := [.inl 5, .inl (m_w32 ((m_rd h6 t 2) - (m_rd h3 t 2)))]) (h' := h6) (cs := [GK h6 t 9]) (by decide +kernel) rfl hc ?_
      refine jn_use (fun j7 => j7 = some r → RN xs L iX9_takeNumber (d + 1) 117 [(0, .inr (.inr t)), (3, .inl (m_rd h3 t 2))] [] h6 (RIo r)) ?_ ?_ hF
      · intro  hF
        refine RN.blk (ops := [(117, .aload_n 0), (118, .iload_n 3), (119, .iconst 1)]) (pc' := 120) (lv' := [(0, .inr (.inr t)), (3, .inl (m_rd h3 t 2))]) (st' := [.inl 1, .inl (m_rd h3 t 2), .inr (.inr t)]) (h' := h6) (cs := []) (by decide +kernel) rfl trivial ?_
        obtain ⟨hc, hF⟩ := gd_of hF
        obtain ⟨x9, h8, hG, hF⟩ := bd_of hF
        refine RN.cv (i := 29) (k := 91) (q2 := iX9_fail) (as := [.inr (.inr t), .inl (m_rd h3 t 2), .inl 1]) (r := []) (v := some (.inl x9)) (h1 := h8) (by decide +kernel) rfl rfl rfl rfl rfl (rcv_ok hc.1) (CX9_fail (d := d) hG) ?_
        refine RN.blk (ops := [(123, .pop), (124, .iconst (-1))]) (pc' := 125) (lv' := [(0, .inr (.inr t)), (3, .inl (m_rd h3 t 2))]) (st' := [.inl (-1)]) (h' := h8) (cs := []) (by decide +kernel) rfl trivial ?_
        exact RN.iR (by decide +kernel) rfl hF
      · intro j7 Jj7 hF
        rcases it_of hF with ⟨hb, hF⟩ | ⟨hb, hF⟩
        · refine RN.ict (cd := .gt) (off := 15) (tgt := 117) (by decide +kernel) (mif_gt hb) ?_
          exact RN.sub (Jj7 hF) (sub_cons rfl (sub_cons rfl sub_nil))
        · refine RN.icf (cd := .gt) (off := 15) (tgt := 117) (by decide +kernel) (mif_gtn hb) ?_
          refine RN.blk (ops := [(105, .iload 4), (107, .iload_n 1)]) (pc' := 108) (lv' := [(0, .inr (.inr t)), (1, .inl a1), (2, .inl a2), (3, .inl (m_rd h3 t 2)), (4, .inl w5)]) (st' := [.inl a1, .inl w5]) (h' := h6) (cs := []) (by decide +kernel) rfl trivial ?_
          rcases it_of hF with ⟨hb, hF⟩ | ⟨hb, hF⟩
          · refine RN.ict (cd := .lt) (off := 9) (tgt := 117) (by decide +kernel) (mif_lt hb) ?_
            exact RN.sub (Jj7 hF) (sub_cons rfl (sub_cons rfl sub_nil))
          · refine RN.icf (cd := .lt) (off := 9) (tgt := 117) (by decide +kernel) (mif_ltn hb) ?_
            refine RN.blk (ops := [(111, .iload 4), (113, .iload_n 2)]) (pc' := 114) (lv' := [(0, .inr (.inr t)), (1, .inl a1), (2, .inl a2), (3, .inl (m_rd h3 t 2)), (4, .inl w5)]) (st' := [.inl a2, .inl w5]) (h' := h6) (cs := []) (by decide +kernel) rfl trivial ?_
            rcases it_of hF with ⟨hb, hF⟩ | ⟨hb, hF⟩
            · refine RN.icf (cd := .le) (off := 12) (tgt := 126) (by decide +kernel) (mif_len hb) ?_
              exact RN.sub (Jj7 hF) (sub_cons rfl (sub_cons rfl sub_nil))
            · refine RN.ict (cd := .le) (off := 12) (tgt := 126) (by decide +kernel) (mif_le hb) ?_
              refine RN.blk (ops := [(126, .iload 4)]) (pc' := 128) (lv' := [(0, .inr (.inr t)), (1, .inl a1), (2, .inl a2), (3, .inl (m_rd h3 t 2)), (4, .inl w5)]) (st' := [.inl w5]) (h' := h6) (cs := []) (by decide +kernel) rfl trivial ?_
              exact RN.iR (by decide +kernel) rfl hF
noncomputable def FX3_takeEntry (t : Int) (h : MH) : Option (Int × MH) :=
  gd [GK h t 3, GK h t 3, GK h (m_rd h t 1) 8] (
   gd [GK h (m_rd h t 0) 9] (bd (FX9_takeNumber (m_rd h t 0) 0 (m_rd h (m_rd h t 1) 1) h) (fun x2 h1 =>
    (if x2 = (-1) then
     some (0, h1)
    else
     gd [GK h1 t 3, GK h1 t 3] (
      gd [GK h1 (m_rd h1 t 1) 8] (bd (FX8_prefixesOf (m_rd h1 t 1) x2 h1) (fun x4 h3 =>
       gd [GK h3 (m_rd h1 t 0) 9] (bd (FX9_takeNumber (m_rd h1 t 0) 0 (m_w32 (x4 - 1)) h3) (fun x6 h5 =>
        (if x6 = (-1) then
         some (0, h5)
        else
         gd [GK h5 t 3, GK h5 t 3, GK h5 (m_rd h5 t 1) 8] (
          gd [GK h5 (m_rd h5 t 0) 9] (bd (FX9_takeNumber (m_rd h5 t 0) 0 (m_w32 ((m_rd h5 (m_rd h5 t 1) 2) - 1)) h5) (fun x8 h7 =>
           (if x8 = (-1) then
            some (0, h7)
           else
            gd [GK h7 t 3, GK h7 (m_rd h7 t 2) 10] (
             gd [GK h7 (m_rd h7 (m_rd h7 t 2) 0) 4] (bd (FX4_put (m_rd h7 (m_rd h7 t 2) 0) x2 x6 x8 h7) (fun x10 h9 =>
              some (1, h9))))))))))))))))))
theorem CX3_takeEntry {d : Nat} {t : Int} {h : MH} {r : Int × MH} (hF : FX3_takeEntry t h = some r) : RN xs L iX3_takeEntry (d + 2) 0 (lvE 0 [.inr (.inr t)]) [] h (RIo r) := by
  unfold FX3_takeEntry at hF
  obtain ⟨hc, hF⟩ := gd_of hF
  refine RN.blk (ops := [(0, .aload_n 0), (1, .getfield 25), (4, .iconst 0), (5, .aload_n 0), (6, .getfield 12), (9, .getfield 118)]) (pc' := 12) (lv' := [(0, .inr (.inr t))]) (st' := [.inl (m_rd h (m_rd h t 1) 1), .inl 0, .inr (.inr (m_rd h t 0))]) (h' := h) (cs := [GK h t 3, GK h t 3, GK h (m_rd h t 1) 8]) (by decide +kernel) rfl hc ?_
  obtain ⟨hc, hF⟩ := gd_of hF
  obtain ⟨x2, h1, hG, hF⟩ := bd_of hF
  refine RN.cv (i := 101) (k := 96) (q2 := iX9_takeNumber) (as := [.inr (.inr (m_rd h t 0)), .inl 0, .inl (m_rd h (m_rd h t 1) 1)]) (r := []) (v := some (.inl x2)) (h1 := h1) (by decide +kernel) rfl rfl rfl rfl rfl (rcv_ok hc.1) (CX9_takeNumber (d := d) hG) ?_
  refine RN.blk (ops := [(15, .istore_n 1), (16, .iload_n 1), (17, .iconst (-1))]) (pc' := 18) (lv' := [(1, .inl x2), (0, .inr (.inr t))]) (st' := [.inl (-1), .inl x2]) (h' := h1) (cs := []) (by decide +kernel) rfl trivial ?_
  rcases it_of hF with ⟨hb, hF⟩ | ⟨hb, hF⟩
  · refine RN.icf (cd := .ne) (off := 5) (tgt := 23) (by decide +kernel) (mif_nen hb) ?_
    refine RN.blk (ops := [(21, .iconst 0)]) (pc' := 22) (lv' := [(1, .inl x2), (0, .inr (.inr t))]) (st' := [.inl 0]) (h' := h1) (cs := []) (by decide +kernel) rfl trivial ?_
    exact RN.zR (by decide +kernel) rfl (Or.inl rfl) hF
  · refine RN.ict (cd := .ne) (off := 5) (tgt := 23) (by decide +kernel) (mif_ne hb) ?_
    obtain ⟨hc, hF⟩ := gd_of hF
    refine RN.blk (ops := [(23, .aload_n 0), (24, .getfield 25), (27, .iconst 0), (28, .aload_n 0), (29, .getfield 12), (32, .iload_n 1)]) (pc' := 33) (lv' := [(1, .inl x2), (0, .inr (.inr t))]) (st' := [.inl x2, .inr (.inr (m_rd h1 t 1)), .inl 0, .inr (.inr (m_rd h1 t 0))]) (h' := h1) (cs := [GK h1 t 3, GK h1 t 3]) (by decide +kernel) rfl hc ?_
    obtain ⟨hc, hF⟩ := gd_of hF
    obtain ⟨x4, h3, hG, hF⟩ := bd_of hF
    refine RN.cv (i := 121) (k := 84) (q2 := iX8_prefixesOf) (as := [.inr (.inr (m_rd h1 t 1)), .inl x2]) (r := [.inl 0, .inr (.inr (m_rd h1 t 0))]) (v := some (.inl x4)) (h1 := h3) (by decide +kernel) rfl rfl rfl rfl rfl (rcv_ok hc.1) (CX8_prefixesOf (d := d + 1) hG) ?_
    refine RN.blk (ops := [(36, .iconst 1), (37, .isub)]) (pc' := 38) (lv' := [(1, .inl x2), (0, .inr (.inr t))]) (st' := [.inl (m_w32 (x4 - 1)), .inl 0, .inr (.inr (m_rd h1 t 0))]) (h' := h3) (cs := []) (by decide +kernel) rfl trivial ?_
    obtain ⟨hc, hF⟩ := gd_of hF
    obtain ⟨x6, h5, hG, hF⟩ := bd_of hF
    refine RN.cv (i := 101) (k := 96) (q2 := iX9_takeNumber) (as := [.inr (.inr (m_rd h1 t 0)), .inl 0, .inl (m_w32 (x4 - 1))]) (r := []) (v := some (.inl x6)) (h1 := h5) (by decide +kernel) rfl rfl rfl rfl rfl (rcv_ok hc.1) (CX9_takeNumber (d := d) hG) ?_
    refine RN.blk (ops := [(41, .istore_n 2), (42, .iload_n 2), (43, .iconst (-1))]) (pc' := 44) (lv' := [(2, .inl x6), (1, .inl x2), (0, .inr (.inr t))]) (st' := [.inl (-1), .inl x6]) (h' := h5) (cs := []) (by decide +kernel) rfl trivial ?_
    rcases it_of hF with ⟨hb, hF⟩ | ⟨hb, hF⟩
    · refine RN.icf (cd := .ne) (off := 5) (tgt := 49) (by decide +kernel) (mif_nen hb) ?_
      refine RN.blk (ops := [(47, .iconst 0)]) (pc' := 48) (lv' := [(2, .inl x6), (1, .inl x2), (0, .inr (.inr t))]) (st' := [.inl 0]) (h' := h5) (cs := []) (by decide +kernel) rfl trivial ?_
      exact RN.zR (by decide +kernel) rfl (Or.inl rfl) hF
    · refine RN.ict (cd := .ne) (off := 5) (tgt := 49) (by decide +kernel) (mif_ne hb) ?_
      obtain ⟨hc, hF⟩ := gd_of hF
      refine RN.blk (ops := [(49, .aload_n 0), (50, .getfield 25), (53, .iconst 0), (54, .aload_n 0), (55, .getfield 12), (58, .getfield 109), (61, .iconst 1), (62, .isub)]) (pc' := 63) (lv' := [(2, .inl x6), (1, .inl x2), (0, .inr (.inr t))]) (st' := [.inl (m_w32 ((m_rd h5 (m_rd h5 t 1) 2) - 1)), .inl 0, .inr (.inr (m_rd h5 t 0))]) (h' := h5) (cs := [GK h5 t 3, GK h5 t 3, GK h5 (m_rd h5 t 1) 8]) (by decide +kernel) rfl hc ?_
      obtain ⟨hc, hF⟩ := gd_of hF
      obtain ⟨x8, h7, hG, hF⟩ := bd_of hF
      refine RN.cv (i := 101) (k := 96) (q2 := iX9_takeNumber) (as := [.inr (.inr (m_rd h5 t 0)), .inl 0, .inl (m_w32 ((m_rd h5 (m_rd h5 t 1) 2) - 1))]) (r := []) (v := some (.inl x8)) (h1 := h7) (by decide +kernel) rfl rfl rfl rfl rfl (rcv_ok hc.1) (CX9_takeNumber (d := d) hG) ?_
      refine RN.blk (ops := [(66, .istore_n 3), (67, .iload_n 3), (68, .iconst (-1))]) (pc' := 69) (lv' := [(3, .inl x8), (2, .inl x6), (1, .inl x2), (0, .inr (.inr t))]) (st' := [.inl (-1), .inl x8]) (h' := h7) (cs := []) (by decide +kernel) rfl trivial ?_
      rcases it_of hF with ⟨hb, hF⟩ | ⟨hb, hF⟩
      · refine RN.icf (cd := .ne) (off := 5) (tgt := 74) (by decide +kernel) (mif_nen hb) ?_
        refine RN.blk (ops := [(72, .iconst 0)]) (pc' := 73) (lv' := [(3, .inl x8), (2, .inl x6), (1, .inl x2), (0, .inr (.inr t))]) (st' := [.inl 0]) (h' := h7) (cs := []) (by decide +kernel) rfl trivial ?_
        exact RN.zR (by decide +kernel) rfl (Or.inl rfl) hF
      · refine RN.ict (cd := .ne) (off := 5) (tgt := 74) (by decide +kernel) (mif_ne hb) ?_
        obtain ⟨hc, hF⟩ := gd_of hF
        refine RN.blk (ops := [(74, .aload_n 0), (75, .getfield 21), (78, .getfield 90), (81, .iload_n 1), (82, .iload_n 2), (83, .iload_n 3)]) (pc' := 84) (lv' := [(3, .inl x8), (2, .inl x6), (1, .inl x2), (0, .inr (.inr t))]) (st' := [.inl x8, .inl x6, .inl x2, .inr (.inr (m_rd h7 (m_rd h7 t 2) 0))]) (h' := h7) (cs := [GK h7 t 3, GK h7 (m_rd h7 t 2) 10]) (by decide +kernel) rfl hc ?_
        obtain ⟨hc, hF⟩ := gd_of hF
        obtain ⟨x10, h9, hG, hF⟩ := bd_of hF
        refine RN.cv (i := 125) (k := 49) (q2 := iX4_put) (as := [.inr (.inr (m_rd h7 (m_rd h7 t 2) 0)), .inl x2, .inl x6, .inl x8]) (r := []) (v := some (.inl x10)) (h1 := h9) (by decide +kernel) rfl rfl rfl rfl rfl (rcv_ok hc.1) (CX4_put (d := d) hG) ?_
        refine RN.blk (ops := [(87, .pop), (88, .iconst 1)]) (pc' := 89) (lv' := [(3, .inl x8), (2, .inl x6), (1, .inl x2), (0, .inr (.inr t))]) (st' := [.inl 1]) (h' := h9) (cs := []) (by decide +kernel) rfl trivial ?_
        exact RN.zR (by decide +kernel) rfl (Or.inr rfl) hF
noncomputable def FX9_byteAt (t : Int) (a1 : Int) (h : MH) : Option (Int × MH) :=
  (if a1 < 0 then
   some ((-1), h)
  else
   gd [GK h t 9] (
    (if a1 < (m_rd h t 1) then
     gd [GK h t 9, GI h (m_rd h t 0) 1 a1] (
      some ((m_rd h (m_rd h t 0) a1), h))
    else
     some ((-1), h))))
theorem CX9_byteAt {d : Nat} {t : Int} {a1 : Int} {h : MH} {r : Int × MH} (hF : FX9_byteAt t a1 h = some r) : RN xs L iX9_byteAt (d) 0 (lvE 0 [.inr (.inr t), .inl a1]) [] h (RIo r) := by
  unfold FX9_byteAt at hF
  refine RN.blk (ops := [(0, .iload_n 1)]) (pc' := 1) (lv' := [(0, .inr (.inr t)), (1, .inl a1)]) (st' := [.inl a1]) (h' := h) (cs := []) (by decide +kernel) rfl trivial ?_
  rcases it_of hF with ⟨hb, hF⟩ | ⟨hb, hF⟩
  · refine RN.ift (cd := .lt) (off := 20) (tgt := 21) (by decide +kernel) (mif_lt hb) ?_
    refine RN.blk (ops := [(21, .iconst (-1))]) (pc' := 22) (lv' := [(0, .inr (.inr t)), (1, .inl a1)]) (st' := [.inl (-1)]) (h' := h) (cs := []) (by decide +kernel) rfl trivial ?_
    exact RN.iR (by decide +kernel) rfl hF
  · refine RN.iff (cd := .lt) (off := 20) (tgt := 21) (by decide +kernel) (mif_ltn hb) ?_
    obtain ⟨hc, hF⟩ := gd_of hF
    refine RN.blk (ops := [(4, .iload_n 1), (5, .aload_n 0), (6, .getfield 15)]) (pc' := 9) (lv' := [(0, .inr (.inr t)), (1, .inl a1)]) (st' := [.inl (m_rd h t 1), .inl a1]) (h' := h) (cs := [GK h t 9]) (by decide +kernel) rfl hc ?_
    rcases it_of hF with ⟨hb, hF⟩ | ⟨hb, hF⟩
    · refine RN.icf (cd := .ge) (off := 12) (tgt := 21) (by decide +kernel) (mif_gen hb) ?_
      obtain ⟨hc, hF⟩ := gd_of hF
      refine RN.blk (ops := [(12, .aload_n 0), (13, .getfield 9), (16, .iload_n 1), (17, .iaload)]) (pc' := 18) (lv' := [(0, .inr (.inr t)), (1, .inl a1)]) (st' := [.inl (m_rd h (m_rd h t 0) a1)]) (h' := h) (cs := [GK h t 9, GI h (m_rd h t 0) 1 a1]) (by decide +kernel) rfl hc ?_
      refine RN.goto (off := 4) (tgt := 22) (by decide +kernel) ?_
      exact RN.iR (by decide +kernel) rfl hF
    · refine RN.ict (cd := .ge) (off := 12) (tgt := 21) (by decide +kernel) (mif_ge hb) ?_
      refine RN.blk (ops := [(21, .iconst (-1))]) (pc' := 22) (lv' := [(0, .inr (.inr t)), (1, .inl a1)]) (st' := [.inl (-1)]) (h' := h) (cs := []) (by decide +kernel) rfl trivial ?_
      exact RN.iR (by decide +kernel) rfl hF
noncomputable def FX9_takeWord_L7 (u0 : Int) (u1 : Int) (K0 : MH → Option (Int × MH)) (K1 : MH → Option (Int × MH)) : Nat → Int → MH → Option (Int × MH)
  | 0, _, _ => none
  | f + 1, v2, h =>
    gd [GX u1] (
     (if v2 < (t_len u1) then
      gd [GK h u0 9] (
       gd [GK h u0 9] (bd (FX9_byteAt u0 (m_w32 ((m_rd h u0 2) + v2)) h) (fun x2 h1 =>
        gd [GY u1 v2] (
         (if x2 = (t_chr u1 v2) then
          FX9_takeWord_L7 u0 u1 K0 K1 f (m_w32 (v2 + 1)) h1
         else
          K0 h1)))))
     else
      K1 h))
theorem CX9_takeWord_L7 {d : Nat} {u0 : Int} {u1 : Int} {K0 : MH → Option (Int × MH)} {K1 : MH → Option (Int × MH)} {r : Int × MH} (hK0 : ∀ (h : MH), K0 h = some r → RN xs L iX9_takeWord (d + 6) 33 [] [] h (RIo r)) (hK1 : ∀ (h : MH), K1 h = some r → RN xs L iX9_takeWord (d + 6) 41 [(0, .inr (.inr u0)), (1, .inr (.inr u1))] [] h (RIo r)) : ∀ (f : Nat) (v2 : Int) (h : MH), FX9_takeWord_L7 u0 u1 K0 K1 f v2 h = some r → RN xs L iX9_takeWord (d + 6) 7 [(0, .inr (.inr u0)), (1, .inr (.inr u1)), (2, .inl v2)] [] h (RIo r) := by
  intro f
  induction f with
  | zero =>
    intro v2 h hF
    cases hF
  | succ f ih =>
    intro v2 h hF
    unfold FX9_takeWord_L7 at hF
    refine RN.blk (ops := [(7, .iload_n 2), (8, .aload_n 1)]) (pc' := 9) (lv' := [(0, .inr (.inr u0)), (1, .inr (.inr u1)), (2, .inl v2)]) (st' := [.inr (.inr u1), .inl v2]) (h' := h) (cs := []) (by decide +kernel) rfl trivial ?_
    obtain ⟨hc, hF⟩ := gd_of hF
    refine RN.sl (i := 33) (by decide +kernel) rfl rfl hc.1 ?_
    rcases it_of hF with ⟨hb, hF⟩ | ⟨hb, hF⟩
    · refine RN.icf (cd := .ge) (off := 29) (tgt := 41) (by decide +kernel) (mif_gen hb) ?_
      obtain ⟨hc, hF⟩ := gd_of hF
      refine RN.blk (ops := [(15, .aload_n 0), (16, .aload_n 0), (17, .getfield 19), (20, .iload_n 2), (21, .iadd)]) (pc' := 22) (lv' := [(0, .inr (.inr u0)), (1, .inr (.inr u1)), (2, .inl v2)]) (st' := [.inl (m_w32 ((m_rd h u0 2) + v2)), .inr (.inr u0)]) (h' := h) (cs := [GK h u0 9]) (by decide +kernel) rfl hc ?_
      obtain ⟨hc, hF⟩ := gd_of hF
      obtain ⟨x2, h1, hG, hF⟩ := bd_of hF
      refine RN.cv (i := 38) (k := 92) (q2 := iX9_byteAt) (as := [.inr (.inr u0), .inl (m_w32 ((m_rd h u0 2) + v2))]) (r := []) (v := some (.inl x2)) (h1 := h1) (by decide +kernel) rfl rfl rfl rfl rfl (rcv_ok hc.1) (CX9_byteAt (d := d + 5) hG) ?_
      refine RN.blk (ops := [(25, .aload_n 1), (26, .iload_n 2)]) (pc' := 27) (lv' := [(0, .inr (.inr u0)), (1, .inr (.inr u1)), (2, .inl v2)]) (st' := [.inl v2, .inr (.inr u1), .inl x2]) (h' := h1) (cs := []) (by decide +kernel) rfl trivial ?_
      obtain ⟨hc, hF⟩ := gd_of hF
      refine RN.sc (i := 42) (by decide +kernel) rfl rfl hc.1 ?_
      rcases it_of hF with ⟨hb, hF⟩ | ⟨hb, hF⟩
      · refine RN.ict (cd := .eq) (off := 5) (tgt := 35) (by decide +kernel) (mif_eq hb) ?_
        refine RN.blk (ops := [(35, .iinc 2 1)]) (pc' := 38) (lv' := [(2, .inl (m_w32 (v2 + 1))), (0, .inr (.inr u0)), (1, .inr (.inr u1))]) (st' := []) (h' := h1) (cs := []) (by decide +kernel) rfl trivial ?_
        refine RN.goto (off := -31) (tgt := 7) (by decide +kernel) ?_
        exact RN.sub (ih _ _ hF) (sub_cons rfl (sub_cons rfl (sub_cons rfl sub_nil)))
      · refine RN.icf (cd := .eq) (off := 5) (tgt := 35) (by decide +kernel) (mif_eqn hb) ?_
        exact RN.sub (hK0 _ hF) sub_nil
    · refine RN.ict (cd := .ge) (off := 29) (tgt := 41) (by decide +kernel) (mif_ge hb) ?_
      exact RN.sub (hK1 _ hF) (sub_cons rfl (sub_cons rfl sub_nil))
noncomputable def FX9_takeWord (t : Int) (a1 : Int) (h : MH) : Option (Int × MH) :=
  gd [GK h t 9] (bd (FX9_next t h) (fun x2 h1 =>
   FX9_takeWord_L7 t a1 (fun h3 =>
    some (0, h3)) (fun h4 =>
    gd [GK h4 t 9] (
     gd [GX a1] (
      gd [GK h4 t 9] (bd (FX9_byteAt t (m_w32 ((m_rd h4 t 2) + (t_len a1))) h4) (fun x6 h5 =>
       jn (
        gd [GK h5 t 9] (
         gd [GX a1] (
          gd [GK h5 t 9] (
           some (1, (m_wr h5 t 2 (m_w32 ((m_rd h5 t 2) + (t_len a1))))))))) (fun j7 =>
        (if x6 < 97 then
         j7
        else
         (if 122 < x6 then
          j7
         else
          some (0, h5))))))))) FU 0 h1))
theorem CX9_takeWord {d : Nat} {t : Int} {a1 : Int} {h : MH} {r : Int × MH} (hF : FX9_takeWord t a1 h = some r) : RN xs L iX9_takeWord (d + 6) 0 (lvE 0 [.inr (.inr t), .inr (.inr a1)]) [] h (RIo r) := by
  unfold FX9_takeWord at hF
  refine RN.blk (ops := [(0, .aload_n 0)]) (pc' := 1) (lv' := [(0, .inr (.inr t)), (1, .inr (.inr a1))]) (st' := [.inr (.inr t)]) (h' := h) (cs := []) (by decide +kernel) rfl trivial ?_
  obtain ⟨hc, hF⟩ := gd_of hF
  obtain ⟨x2, h1, hG, hF⟩ := bd_of hF
  refine RN.cv (i := 25) (k := 93) (q2 := iX9_next) (as := [.inr (.inr t)]) (r := []) (v := some (.inl x2)) (h1 := h1) (by decide +kernel) rfl rfl rfl rfl rfl (rcv_ok hc.1) (CX9_next (d := d + 5) hG) ?_
  refine RN.blk (ops := [(4, .pop), (5, .iconst 0), (6, .istore_n 2)]) (pc' := 7) (lv' := [(2, .inl 0), (0, .inr (.inr t)), (1, .inr (.inr a1))]) (st' := []) (h' := h1) (cs := []) (by decide +kernel) rfl trivial ?_
  refine RN.sub (CX9_takeWord_L7 ?_ ?_ _ _ _ hF) (sub_cons rfl (sub_cons rfl (sub_cons rfl sub_nil)))
  · intro h3 hF
    refine RN.blk (ops := [(33, .iconst 0)]) (pc' := 34) (lv' := []) (st' := [.inl 0]) (h' := h3) (cs := []) (by decide +kernel) rfl trivial ?_
    exact RN.zR (by decide +kernel) rfl (Or.inl rfl) hF
  · intro h4 hF
    obtain ⟨hc, hF⟩ := gd_of hF
    refine RN.blk (ops := [(41, .aload_n 0), (42, .aload_n 0), (43, .getfield 19), (46, .aload_n 1)]) (pc' := 47) (lv' := [(0, .inr (.inr t)), (1, .inr (.inr a1))]) (st' := [.inr (.inr a1), .inl (m_rd h4 t 2), .inr (.inr t)]) (h' := h4) (cs := [GK h4 t 9]) (by decide +kernel) rfl hc ?_
    obtain ⟨hc, hF⟩ := gd_of hF
    refine RN.sl (i := 33) (by decide +kernel) rfl rfl hc.1 ?_
    refine RN.blk (ops := [(50, .iadd)]) (pc' := 51) (lv' := [(0, .inr (.inr t)), (1, .inr (.inr a1))]) (st' := [.inl (m_w32 ((m_rd h4 t 2) + (t_len a1))), .inr (.inr t)]) (h' := h4) (cs := []) (by decide +kernel) rfl trivial ?_
    obtain ⟨hc, hF⟩ := gd_of hF
    obtain ⟨x6, h5, hG, hF⟩ := bd_of hF
    refine RN.cv (i := 38) (k := 92) (q2 := iX9_byteAt) (as := [.inr (.inr t), .inl (m_w32 ((m_rd h4 t 2) + (t_len a1)))]) (r := []) (v := some (.inl x6)) (h1 := h5) (by decide +kernel) rfl rfl rfl rfl rfl (rcv_ok hc.1) (CX9_byteAt (d := d + 5) hG) ?_
    refine RN.blk (ops := [(54, .istore_n 2), (55, .iload_n 2), (56, .bipush 97)]) (pc' := 58) (lv' := [(2, .inl x6), (0, .inr (.inr t)), (1, .inr (.inr a1))]) (st' := [.inl 97, .inl x6]) (h' := h5) (cs := []) (by decide +kernel) rfl trivial ?_
    refine jn_use (fun j7 => j7 = some r → RN xs L iX9_takeWord (d + 6) 69 [(0, .inr (.inr t)), (1, .inr (.inr a1))] [] h5 (RIo r)) ?_ ?_ hF
    · intro  hF
      obtain ⟨hc, hF⟩ := gd_of hF
      refine RN.blk (ops := [(69, .aload_n 0), (70, .dup), (71, .getfield 19), (74, .aload_n 1)]) (pc' := 75) (lv' := [(0, .inr (.inr t)), (1, .inr (.inr a1))]) (st' := [.inr (.inr a1), .inl (m_rd h5 t 2), .inr (.inr t)]) (h' := h5) (cs := [GK h5 t 9]) (by decide +kernel) rfl hc ?_
      obtain ⟨hc, hF⟩ := gd_of hF
      refine RN.sl (i := 33) (by decide +kernel) rfl rfl hc.1 ?_
      obtain ⟨hc, hF⟩ := gd_of hF
      refine RN.blk (ops := [(78, .iadd), (79, .putfield 19), (82, .iconst 1)]) (pc' := 83) (lv' := [(0, .inr (.inr t)), (1, .inr (.inr a1))]) (st' := [.inl 1]) (h' := (m_wr h5 t 2 (m_w32 ((m_rd h5 t 2) + (t_len a1))))) (cs := [GK h5 t 9]) (by decide +kernel) rfl hc ?_
      exact RN.zR (by decide +kernel) rfl (Or.inr rfl) hF
    · intro j7 Jj7 hF
      rcases it_of hF with ⟨hb, hF⟩ | ⟨hb, hF⟩
      · refine RN.ict (cd := .lt) (off := 11) (tgt := 69) (by decide +kernel) (mif_lt hb) ?_
        exact RN.sub (Jj7 hF) (sub_cons rfl (sub_cons rfl sub_nil))
      · refine RN.icf (cd := .lt) (off := 11) (tgt := 69) (by decide +kernel) (mif_ltn hb) ?_
        refine RN.blk (ops := [(61, .iload_n 2), (62, .bipush 122)]) (pc' := 64) (lv' := [(2, .inl x6), (0, .inr (.inr t)), (1, .inr (.inr a1))]) (st' := [.inl 122, .inl x6]) (h' := h5) (cs := []) (by decide +kernel) rfl trivial ?_
        rcases it_of hF with ⟨hb, hF⟩ | ⟨hb, hF⟩
        · refine RN.ict (cd := .gt) (off := 5) (tgt := 69) (by decide +kernel) (mif_gt hb) ?_
          exact RN.sub (Jj7 hF) (sub_cons rfl (sub_cons rfl sub_nil))
        · refine RN.icf (cd := .gt) (off := 5) (tgt := 69) (by decide +kernel) (mif_gtn hb) ?_
          refine RN.blk (ops := [(67, .iconst 0)]) (pc' := 68) (lv' := [(2, .inl x6), (0, .inr (.inr t)), (1, .inr (.inr a1))]) (st' := [.inl 0]) (h' := h5) (cs := []) (by decide +kernel) rfl trivial ?_
          exact RN.zR (by decide +kernel) rfl (Or.inl rfl) hF
noncomputable def FX3_takeKind (t : Int) (h : MH) : Option (Int × MH) :=
  gd [GK h t 3] (
   gd [GK h (m_rd h t 0) 9] (bd (FX9_takeWord (m_rd h t 0) (-10) h) (fun x2 h1 =>
    (if x2 = 0 then
     gd [GK h1 t 3] (
      gd [GK h1 (m_rd h1 t 0) 9] (bd (FX9_takeWord (m_rd h1 t 0) (-11) h1) (fun x4 h3 =>
       (if x4 = 0 then
        gd [GK h3 t 3] (
         gd [GK h3 (m_rd h3 t 0) 9] (bd (FX9_takeWord (m_rd h3 t 0) (-12) h3) (fun x6 h5 =>
          (if x6 = 0 then
           gd [GK h5 t 3] (
            gd [GK h5 (m_rd h5 t 0) 9] (bd (FX9_takeWord (m_rd h5 t 0) (-13) h5) (fun x8 h7 =>
             (if x8 = 0 then
              some (0, h7)
             else
              some (4, h7)))))
          else
           some (3, h5)))))
       else
        some (2, h3)))))
    else
     some (1, h1)))))
theorem CX3_takeKind {d : Nat} {t : Int} {h : MH} {r : Int × MH} (hF : FX3_takeKind t h = some r) : RN xs L iX3_takeKind (d + 7) 0 (lvE 0 [.inr (.inr t)]) [] h (RIo r) := by
  unfold FX3_takeKind at hF
  obtain ⟨hc, hF⟩ := gd_of hF
  refine RN.blk (ops := [(0, .aload_n 0), (1, .getfield 25), (4, .ldc 78)]) (pc' := 6) (lv' := [(0, .inr (.inr t))]) (st' := [.inr (.inr (-10)), .inr (.inr (m_rd h t 0))]) (h' := h) (cs := [GK h t 3]) (by decide +kernel) rfl hc ?_
  obtain ⟨hc, hF⟩ := gd_of hF
  obtain ⟨x2, h1, hG, hF⟩ := bd_of hF
  refine RN.cv (i := 80) (k := 95) (q2 := iX9_takeWord) (as := [.inr (.inr (m_rd h t 0)), .inr (.inr (-10))]) (r := []) (v := some (.inl x2)) (h1 := h1) (by decide +kernel) rfl rfl rfl rfl rfl (rcv_ok hc.1) (CX9_takeWord (d := d) hG) ?_
  rcases it_of hF with ⟨hb, hF⟩ | ⟨hb, hF⟩
  · refine RN.ift (cd := .eq) (off := 5) (tgt := 14) (by decide +kernel) (mif_eq hb) ?_
    obtain ⟨hc, hF⟩ := gd_of hF
    refine RN.blk (ops := [(14, .aload_n 0), (15, .getfield 25), (18, .ldc 84)]) (pc' := 20) (lv' := [(0, .inr (.inr t))]) (st' := [.inr (.inr (-11)), .inr (.inr (m_rd h1 t 0))]) (h' := h1) (cs := [GK h1 t 3]) (by decide +kernel) rfl hc ?_
    obtain ⟨hc, hF⟩ := gd_of hF
    obtain ⟨x4, h3, hG, hF⟩ := bd_of hF
    refine RN.cv (i := 80) (k := 95) (q2 := iX9_takeWord) (as := [.inr (.inr (m_rd h1 t 0)), .inr (.inr (-11))]) (r := []) (v := some (.inl x4)) (h1 := h3) (by decide +kernel) rfl rfl rfl rfl rfl (rcv_ok hc.1) (CX9_takeWord (d := d) hG) ?_
    rcases it_of hF with ⟨hb, hF⟩ | ⟨hb, hF⟩
    · refine RN.ift (cd := .eq) (off := 5) (tgt := 28) (by decide +kernel) (mif_eq hb) ?_
      obtain ⟨hc, hF⟩ := gd_of hF
      refine RN.blk (ops := [(28, .aload_n 0), (29, .getfield 25), (32, .ldc 86)]) (pc' := 34) (lv' := [(0, .inr (.inr t))]) (st' := [.inr (.inr (-12)), .inr (.inr (m_rd h3 t 0))]) (h' := h3) (cs := [GK h3 t 3]) (by decide +kernel) rfl hc ?_
      obtain ⟨hc, hF⟩ := gd_of hF
      obtain ⟨x6, h5, hG, hF⟩ := bd_of hF
      refine RN.cv (i := 80) (k := 95) (q2 := iX9_takeWord) (as := [.inr (.inr (m_rd h3 t 0)), .inr (.inr (-12))]) (r := []) (v := some (.inl x6)) (h1 := h5) (by decide +kernel) rfl rfl rfl rfl rfl (rcv_ok hc.1) (CX9_takeWord (d := d) hG) ?_
      rcases it_of hF with ⟨hb, hF⟩ | ⟨hb, hF⟩
      · refine RN.ift (cd := .eq) (off := 5) (tgt := 42) (by decide +kernel) (mif_eq hb) ?_
        obtain ⟨hc, hF⟩ := gd_of hF
        refine RN.blk (ops := [(42, .aload_n 0), (43, .getfield 25), (46, .ldc 88)]) (pc' := 48) (lv' := [(0, .inr (.inr t))]) (st' := [.inr (.inr (-13)), .inr (.inr (m_rd h5 t 0))]) (h' := h5) (cs := [GK h5 t 3]) (by decide +kernel) rfl hc ?_
        obtain ⟨hc, hF⟩ := gd_of hF
        obtain ⟨x8, h7, hG, hF⟩ := bd_of hF
        refine RN.cv (i := 80) (k := 95) (q2 := iX9_takeWord) (as := [.inr (.inr (m_rd h5 t 0)), .inr (.inr (-13))]) (r := []) (v := some (.inl x8)) (h1 := h7) (by decide +kernel) rfl rfl rfl rfl rfl (rcv_ok hc.1) (CX9_takeWord (d := d) hG) ?_
        rcases it_of hF with ⟨hb, hF⟩ | ⟨hb, hF⟩
        · refine RN.ift (cd := .eq) (off := 7) (tgt := 58) (by decide +kernel) (mif_eq hb) ?_
          refine RN.blk (ops := [(58, .iconst 0)]) (pc' := 59) (lv' := [(0, .inr (.inr t))]) (st' := [.inl 0]) (h' := h7) (cs := []) (by decide +kernel) rfl trivial ?_
          exact RN.iR (by decide +kernel) rfl hF
        · refine RN.iff (cd := .eq) (off := 7) (tgt := 58) (by decide +kernel) (mif_eqn hb) ?_
          refine RN.blk (ops := [(54, .iconst 4)]) (pc' := 55) (lv' := [(0, .inr (.inr t))]) (st' := [.inl 4]) (h' := h7) (cs := []) (by decide +kernel) rfl trivial ?_
          refine RN.goto (off := 4) (tgt := 59) (by decide +kernel) ?_
          exact RN.iR (by decide +kernel) rfl hF
      · refine RN.iff (cd := .eq) (off := 5) (tgt := 42) (by decide +kernel) (mif_eqn hb) ?_
        refine RN.blk (ops := [(40, .iconst 3)]) (pc' := 41) (lv' := [(0, .inr (.inr t))]) (st' := [.inl 3]) (h' := h5) (cs := []) (by decide +kernel) rfl trivial ?_
        exact RN.iR (by decide +kernel) rfl hF
    · refine RN.iff (cd := .eq) (off := 5) (tgt := 28) (by decide +kernel) (mif_eqn hb) ?_
      refine RN.blk (ops := [(26, .iconst 2)]) (pc' := 27) (lv' := [(0, .inr (.inr t))]) (st' := [.inl 2]) (h' := h3) (cs := []) (by decide +kernel) rfl trivial ?_
      exact RN.iR (by decide +kernel) rfl hF
  · refine RN.iff (cd := .eq) (off := 5) (tgt := 14) (by decide +kernel) (mif_eqn hb) ?_
    refine RN.blk (ops := [(12, .iconst 1)]) (pc' := 13) (lv' := [(0, .inr (.inr t))]) (st' := [.inl 1]) (h' := h1) (cs := []) (by decide +kernel) rfl trivial ?_
    exact RN.iR (by decide +kernel) rfl hF
noncomputable def FX10_queue (t : Int) (a1 : Int) (h : MH) : Option (MH) :=
  gd [GK h t 10] (
   (if (m_rd h t 1) < 20 then
    gd [GK h t 10, GK h t 10, GI h (m_rd h t 2) 1 (m_rd h t 1), GK h t 10, GK h t 10] (
     some (m_wr (m_wr h (m_rd h t 2) (m_rd h t 1) a1) t 1 (m_w32 ((m_rd (m_wr h (m_rd h t 2) (m_rd h t 1) a1) t 1) + 1))))
   else
    some h))
theorem CX10_queue {d : Nat} {t : Int} {a1 : Int} {h : MH} {r : MH} (hF : FX10_queue t a1 h = some r) : RN xs L iX10_queue (d) 0 (lvE 0 [.inr (.inr t), .inl a1]) [] h (RVo r) := by
  unfold FX10_queue at hF
  obtain ⟨hc, hF⟩ := gd_of hF
  refine RN.blk (ops := [(0, .aload_n 0), (1, .getfield 32), (4, .bipush 20)]) (pc' := 6) (lv' := [(0, .inr (.inr t)), (1, .inl a1)]) (st' := [.inl 20, .inl (m_rd h t 1)]) (h' := h) (cs := [GK h t 10]) (by decide +kernel) rfl hc ?_
  rcases it_of hF with ⟨hb, hF⟩ | ⟨hb, hF⟩
  · refine RN.icf (cd := .ge) (off := 23) (tgt := 29) (by decide +kernel) (mif_gen hb) ?_
    obtain ⟨hc, hF⟩ := gd_of hF
    refine RN.blk (ops := [(9, .aload_n 0), (10, .getfield 18), (13, .aload_n 0), (14, .getfield 32), (17, .iload_n 1), (18, .iastore), (19, .aload_n 0), (20, .dup), (21, .getfield 32), (24, .iconst 1), (25, .iadd), (26, .putfield 32)]) (pc' := 29) (lv' := [(0, .inr (.inr t)), (1, .inl a1)]) (st' := []) (h' := (m_wr (m_wr h (m_rd h t 2) (m_rd h t 1) a1) t 1 (m_w32 ((m_rd (m_wr h (m_rd h t 2) (m_rd h t 1) a1) t 1) + 1)))) (cs := [GK h t 10, GK h t 10, GI h (m_rd h t 2) 1 (m_rd h t 1), GK h t 10, GK h t 10]) (by decide +kernel) rfl hc ?_
    exact RN.vR (by decide +kernel) rfl hF
  · refine RN.ict (cd := .ge) (off := 23) (tgt := 29) (by decide +kernel) (mif_ge hb) ?_
    exact RN.vR (by decide +kernel) rfl hF
noncomputable def FX3_takeLetter (t : Int) (h : MH) : Option (Int × MH) :=
  gd [GK h t 3, GK h t 3, GK h (m_rd h t 1) 8] (
   gd [GK h (m_rd h t 0) 9] (bd (FX9_takeNumber (m_rd h t 0) 0 (m_w32 ((m_rd h (m_rd h t 1) 3) - 1)) h) (fun x2 h1 =>
    (if x2 = (-1) then
     some (0, h1)
    else
     gd [GK h1 t 3] (
      gd [GK h1 (m_rd h1 t 2) 10] (bv (FX10_queue (m_rd h1 t 2) x2 h1) (fun h3 =>
       some (1, h3))))))))
theorem CX3_takeLetter {d : Nat} {t : Int} {h : MH} {r : Int × MH} (hF : FX3_takeLetter t h = some r) : RN xs L iX3_takeLetter (d + 2) 0 (lvE 0 [.inr (.inr t)]) [] h (RIo r) := by
  unfold FX3_takeLetter at hF
  obtain ⟨hc, hF⟩ := gd_of hF
  refine RN.blk (ops := [(0, .aload_n 0), (1, .getfield 25), (4, .iconst 0), (5, .aload_n 0), (6, .getfield 12), (9, .getfield 129), (12, .iconst 1), (13, .isub)]) (pc' := 14) (lv' := [(0, .inr (.inr t))]) (st' := [.inl (m_w32 ((m_rd h (m_rd h t 1) 3) - 1)), .inl 0, .inr (.inr (m_rd h t 0))]) (h' := h) (cs := [GK h t 3, GK h t 3, GK h (m_rd h t 1) 8]) (by decide +kernel) rfl hc ?_
  obtain ⟨hc, hF⟩ := gd_of hF
  obtain ⟨x2, h1, hG, hF⟩ := bd_of hF
  refine RN.cv (i := 101) (k := 96) (q2 := iX9_takeNumber) (as := [.inr (.inr (m_rd h t 0)), .inl 0, .inl (m_w32 ((m_rd h (m_rd h t 1) 3) - 1))]) (r := []) (v := some (.inl x2)) (h1 := h1) (by decide +kernel) rfl rfl rfl rfl rfl (rcv_ok hc.1) (CX9_takeNumber (d := d) hG) ?_
  refine RN.blk (ops := [(17, .istore_n 1), (18, .iload_n 1), (19, .iconst (-1))]) (pc' := 20) (lv' := [(1, .inl x2), (0, .inr (.inr t))]) (st' := [.inl (-1), .inl x2]) (h' := h1) (cs := []) (by decide +kernel) rfl trivial ?_
  rcases it_of hF with ⟨hb, hF⟩ | ⟨hb, hF⟩
  · refine RN.icf (cd := .ne) (off := 5) (tgt := 25) (by decide +kernel) (mif_nen hb) ?_
    refine RN.blk (ops := [(23, .iconst 0)]) (pc' := 24) (lv' := [(1, .inl x2), (0, .inr (.inr t))]) (st' := [.inl 0]) (h' := h1) (cs := []) (by decide +kernel) rfl trivial ?_
    exact RN.zR (by decide +kernel) rfl (Or.inl rfl) hF
  · refine RN.ict (cd := .ne) (off := 5) (tgt := 25) (by decide +kernel) (mif_ne hb) ?_
    obtain ⟨hc, hF⟩ := gd_of hF
    refine RN.blk (ops := [(25, .aload_n 0), (26, .getfield 21), (29, .iload_n 1)]) (pc' := 30) (lv' := [(1, .inl x2), (0, .inr (.inr t))]) (st' := [.inl x2, .inr (.inr (m_rd h1 t 2))]) (h' := h1) (cs := [GK h1 t 3]) (by decide +kernel) rfl hc ?_
    obtain ⟨hc, hF⟩ := gd_of hF
    obtain ⟨h3, hG, hF⟩ := bv_of hF
    refine RN.cv (i := 132) (k := 102) (q2 := iX10_queue) (as := [.inr (.inr (m_rd h1 t 2)), .inl x2]) (r := []) (v := none) (h1 := h3) (by decide +kernel) rfl rfl rfl rfl rfl (rcv_ok hc.1) (CX10_queue (d := d + 1) hG) ?_
    refine RN.blk (ops := [(33, .iconst 1)]) (pc' := 34) (lv' := [(1, .inl x2), (0, .inr (.inr t))]) (st' := [.inl 1]) (h' := h3) (cs := []) (by decide +kernel) rfl trivial ?_
    exact RN.zR (by decide +kernel) rfl (Or.inr rfl) hF
noncomputable def FX3_takeRoom (t : Int) (h : MH) : Option (Int × MH) :=
  gd [GK h t 3, GK h t 3, GK h (m_rd h t 1) 8] (
   gd [GK h (m_rd h t 0) 9] (bd (FX9_takeNumber (m_rd h t 0) 0 (m_w32 ((m_rd h (m_rd h t 1) 2) - 1)) h) (fun x2 h1 =>
    gd [GK h1 t 3] (
     gd [GK h1 (m_rd h1 t 1) 8] (bd (FX8_hasHole (m_rd h1 t 1) x2 h1) (fun x4 h3 =>
      (if x4 = 0 then
       some (0, h3)
      else
       gd [GK h3 t 3] (
        gd [GK h3 (m_rd h3 t 0) 9] (bd (FX9_takeNumber (m_rd h3 t 0) 1 20 h3) (fun x6 h5 =>
         (if x6 = (-1) then
          some (0, h5)
         else
          gd [GK h5 t 3, GK h5 (m_rd h5 t 1) 8, GI h5 (m_rd h5 (m_rd h5 t 1) 5) 1 x2] (
           some (1, (m_wr h5 (m_rd h5 (m_rd h5 t 1) 5) x2 x6))))))))))))))
theorem CX3_takeRoom {d : Nat} {t : Int} {h : MH} {r : Int × MH} (hF : FX3_takeRoom t h = some r) : RN xs L iX3_takeRoom (d + 2) 0 (lvE 0 [.inr (.inr t)]) [] h (RIo r) := by
  unfold FX3_takeRoom at hF
  obtain ⟨hc, hF⟩ := gd_of hF
  refine RN.blk (ops := [(0, .aload_n 0), (1, .getfield 25), (4, .iconst 0), (5, .aload_n 0), (6, .getfield 12), (9, .getfield 109), (12, .iconst 1), (13, .isub)]) (pc' := 14) (lv' := [(0, .inr (.inr t))]) (st' := [.inl (m_w32 ((m_rd h (m_rd h t 1) 2) - 1)), .inl 0, .inr (.inr (m_rd h t 0))]) (h' := h) (cs := [GK h t 3, GK h t 3, GK h (m_rd h t 1) 8]) (by decide +kernel) rfl hc ?_
  obtain ⟨hc, hF⟩ := gd_of hF
  obtain ⟨x2, h1, hG, hF⟩ := bd_of hF
  refine RN.cv (i := 101) (k := 96) (q2 := iX9_takeNumber) (as := [.inr (.inr (m_rd h t 0)), .inl 0, .inl (m_w32 ((m_rd h (m_rd h t 1) 2) - 1))]) (r := []) (v := some (.inl x2)) (h1 := h1) (by decide +kernel) rfl rfl rfl rfl rfl (rcv_ok hc.1) (CX9_takeNumber (d := d) hG) ?_
  obtain ⟨hc, hF⟩ := gd_of hF
  refine RN.blk (ops := [(17, .istore_n 1), (18, .aload_n 0), (19, .getfield 12), (22, .iload_n 1)]) (pc' := 23) (lv' := [(1, .inl x2), (0, .inr (.inr t))]) (st' := [.inl x2, .inr (.inr (m_rd h1 t 1))]) (h' := h1) (cs := [GK h1 t 3]) (by decide +kernel) rfl hc ?_
  obtain ⟨hc, hF⟩ := gd_of hF
  obtain ⟨x4, h3, hG, hF⟩ := bd_of hF
  refine RN.cv (i := 112) (k := 81) (q2 := iX8_hasHole) (as := [.inr (.inr (m_rd h1 t 1)), .inl x2]) (r := []) (v := some (.inl x4)) (h1 := h3) (by decide +kernel) rfl rfl rfl rfl rfl (rcv_ok hc.1) (CX8_hasHole (d := d + 1) hG) ?_
  rcases it_of hF with ⟨hb, hF⟩ | ⟨hb, hF⟩
  · refine RN.iff (cd := .ne) (off := 5) (tgt := 31) (by decide +kernel) (mif_nen hb) ?_
    refine RN.blk (ops := [(29, .iconst 0)]) (pc' := 30) (lv' := [(1, .inl x2), (0, .inr (.inr t))]) (st' := [.inl 0]) (h' := h3) (cs := []) (by decide +kernel) rfl trivial ?_
    exact RN.zR (by decide +kernel) rfl (Or.inl rfl) hF
  · refine RN.ift (cd := .ne) (off := 5) (tgt := 31) (by decide +kernel) (mif_ne hb) ?_
    obtain ⟨hc, hF⟩ := gd_of hF
    refine RN.blk (ops := [(31, .aload_n 0), (32, .getfield 25), (35, .iconst 1), (36, .bipush 20)]) (pc' := 38) (lv' := [(1, .inl x2), (0, .inr (.inr t))]) (st' := [.inl 20, .inl 1, .inr (.inr (m_rd h3 t 0))]) (h' := h3) (cs := [GK h3 t 3]) (by decide +kernel) rfl hc ?_
    obtain ⟨hc, hF⟩ := gd_of hF
    obtain ⟨x6, h5, hG, hF⟩ := bd_of hF
    refine RN.cv (i := 101) (k := 96) (q2 := iX9_takeNumber) (as := [.inr (.inr (m_rd h3 t 0)), .inl 1, .inl 20]) (r := []) (v := some (.inl x6)) (h1 := h5) (by decide +kernel) rfl rfl rfl rfl rfl (rcv_ok hc.1) (CX9_takeNumber (d := d) hG) ?_
    refine RN.blk (ops := [(41, .istore_n 2), (42, .iload_n 2), (43, .iconst (-1))]) (pc' := 44) (lv' := [(2, .inl x6), (1, .inl x2), (0, .inr (.inr t))]) (st' := [.inl (-1), .inl x6]) (h' := h5) (cs := []) (by decide +kernel) rfl trivial ?_
    rcases it_of hF with ⟨hb, hF⟩ | ⟨hb, hF⟩
    · refine RN.icf (cd := .ne) (off := 5) (tgt := 49) (by decide +kernel) (mif_nen hb) ?_
      refine RN.blk (ops := [(47, .iconst 0)]) (pc' := 48) (lv' := [(2, .inl x6), (1, .inl x2), (0, .inr (.inr t))]) (st' := [.inl 0]) (h' := h5) (cs := []) (by decide +kernel) rfl trivial ?_
      exact RN.zR (by decide +kernel) rfl (Or.inl rfl) hF
    · refine RN.ict (cd := .ne) (off := 5) (tgt := 49) (by decide +kernel) (mif_ne hb) ?_
      obtain ⟨hc, hF⟩ := gd_of hF
      refine RN.blk (ops := [(49, .aload_n 0), (50, .getfield 12), (53, .getfield 115), (56, .iload_n 1), (57, .iload_n 2), (58, .iastore), (59, .iconst 1)]) (pc' := 60) (lv' := [(2, .inl x6), (1, .inl x2), (0, .inr (.inr t))]) (st' := [.inl 1]) (h' := (m_wr h5 (m_rd h5 (m_rd h5 t 1) 5) x2 x6)) (cs := [GK h5 t 3, GK h5 (m_rd h5 t 1) 8, GI h5 (m_rd h5 (m_rd h5 t 1) 5) 1 x2]) (by decide +kernel) rfl hc ?_
      exact RN.zR (by decide +kernel) rfl (Or.inr rfl) hF
noncomputable def FX8_lay_L25 (u0 : Int) (K0 : MH → Option (MH)) : Nat → Int → MH → Option (MH)
  | 0, _, _ => none
  | f + 1, v4, h =>
    (if 4 < v4 then
     K0 h
    else
     gd [GK h u0 8, GK h u0 8, GI h (m_rd h u0 4) 1 (m_w32 (v4 - 1)), GK h u0 8, GI h (m_rd h u0 4) 1 v4] (
      hl (m_wr h (m_rd h u0 4) v4 (m_w32 ((m_rd h (m_rd h u0 4) (m_w32 (v4 - 1))) * (m_rd h u0 0)))) (fun h1 =>
       FX8_lay_L25 u0 K0 f (m_w32 (v4 + 1)) h1)))
theorem CX8_lay_L25 {d : Nat} {u0 : Int} {K0 : MH → Option (MH)} {r : MH} (hK0 : ∀ (h : MH), K0 h = some r → RN xs L iX8_lay (d + 1) 58 [(0, .inr (.inr u0))] [] h (RVo r)) : ∀ (f : Nat) (v4 : Int) (h : MH), FX8_lay_L25 u0 K0 f v4 h = some r → RN xs L iX8_lay (d + 1) 25 [(0, .inr (.inr u0)), (4, .inl v4)] [] h (RVo r) := by
  intro f
  induction f with
  | zero =>
    intro v4 h hF
    cases hF
  | succ f ih =>
    intro v4 h hF
    unfold FX8_lay_L25 at hF
    refine RN.blk (ops := [(25, .iload 4), (27, .iconst 4)]) (pc' := 28) (lv' := [(0, .inr (.inr u0)), (4, .inl v4)]) (st' := [.inl 4, .inl v4]) (h' := h) (cs := []) (by decide +kernel) rfl trivial ?_
    rcases it_of hF with ⟨hb, hF⟩ | ⟨hb, hF⟩
    · refine RN.ict (cd := .gt) (off := 30) (tgt := 58) (by decide +kernel) (mif_gt hb) ?_
      exact RN.sub (hK0 _ hF) (sub_cons rfl sub_nil)
    · refine RN.icf (cd := .gt) (off := 30) (tgt := 58) (by decide +kernel) (mif_gtn hb) ?_
      obtain ⟨hc, hF⟩ := gd_of hF
      refine RN.blk (ops := [(31, .aload_n 0), (32, .getfield 9), (35, .iload 4), (37, .aload_n 0), (38, .getfield 9), (41, .iload 4), (43, .iconst 1), (44, .isub), (45, .iaload), (46, .aload_n 0), (47, .getfield 18), (50, .imul), (51, .iastore)]) (pc' := 52) (lv' := [(0, .inr (.inr u0)), (4, .inl v4)]) (st' := []) (h' := (m_wr h (m_rd h u0 4) v4 (m_w32 ((m_rd h (m_rd h u0 4) (m_w32 (v4 - 1))) * (m_rd h u0 0))))) (cs := [GK h u0 8, GK h u0 8, GI h (m_rd h u0 4) 1 (m_w32 (v4 - 1)), GK h u0 8, GI h (m_rd h u0 4) 1 v4]) (by decide +kernel) rfl hc ?_
      obtain ⟨h1, he, hF⟩ := hl_of hF
      refine RN.hl he ?_
      refine RN.blk (ops := [(52, .iinc 4 1)]) (pc' := 55) (lv' := [(4, .inl (m_w32 (v4 + 1))), (0, .inr (.inr u0))]) (st' := []) (h' := h1) (cs := []) (by decide +kernel) rfl trivial ?_
      refine RN.goto (off := -30) (tgt := 25) (by decide +kernel) ?_
      exact RN.sub (ih _ _ hF) (sub_cons rfl (sub_cons rfl sub_nil))
noncomputable def FX8_lay_L73 (u0 : Int) (K0 : MH → Option (MH)) : Nat → Int → MH → Option (MH)
  | 0, _, _ => none
  | f + 1, v4, h =>
    (if v4 < 6 then
     gd [GK h u0 8, GI h (m_rd h u0 5) 1 v4] (
      FX8_lay_L73 u0 K0 f (m_w32 (v4 + 1)) (m_wr h (m_rd h u0 5) v4 5))
    else
     K0 h)
theorem CX8_lay_L73 {d : Nat} {u0 : Int} {K0 : MH → Option (MH)} {r : MH} (hK0 : ∀ (h : MH), K0 h = some r → RN xs L iX8_lay (d + 1) 94 [] [] h (RVo r)) : ∀ (f : Nat) (v4 : Int) (h : MH), FX8_lay_L73 u0 K0 f v4 h = some r → RN xs L iX8_lay (d + 1) 73 [(0, .inr (.inr u0)), (4, .inl v4)] [] h (RVo r) := by
  intro f
  induction f with
  | zero =>
    intro v4 h hF
    cases hF
  | succ f ih =>
    intro v4 h hF
    unfold FX8_lay_L73 at hF
    refine RN.blk (ops := [(73, .iload 4), (75, .bipush 6)]) (pc' := 77) (lv' := [(0, .inr (.inr u0)), (4, .inl v4)]) (st' := [.inl 6, .inl v4]) (h' := h) (cs := []) (by decide +kernel) rfl trivial ?_
    rcases it_of hF with ⟨hb, hF⟩ | ⟨hb, hF⟩
    · refine RN.icf (cd := .ge) (off := 17) (tgt := 94) (by decide +kernel) (mif_gen hb) ?_
      obtain ⟨hc, hF⟩ := gd_of hF
      refine RN.blk (ops := [(80, .aload_n 0), (81, .getfield 15), (84, .iload 4), (86, .iconst 5), (87, .iastore), (88, .iinc 4 1)]) (pc' := 91) (lv' := [(4, .inl (m_w32 (v4 + 1))), (0, .inr (.inr u0))]) (st' := []) (h' := (m_wr h (m_rd h u0 5) v4 5)) (cs := [GK h u0 8, GI h (m_rd h u0 5) 1 v4]) (by decide +kernel) rfl hc ?_
      refine RN.goto (off := -18) (tgt := 73) (by decide +kernel) ?_
      exact RN.sub (ih _ _ hF) (sub_cons rfl (sub_cons rfl sub_nil))
    · refine RN.ict (cd := .ge) (off := 17) (tgt := 94) (by decide +kernel) (mif_ge hb) ?_
      exact RN.sub (hK0 _ hF) sub_nil
noncomputable def FX8_lay (t : Int) (a1 : Int) (a2 : Int) (a3 : Int) (h : MH) : Option (MH) :=
  gd [GK h t 8, GK h t 8, GK h t 8, GK h t 8, GI h (m_rd (m_wr (m_wr (m_wr h t 0 a1) t 1 a2) t 2 a3) t 4) 1 0] (
   hl (m_wr (m_wr (m_wr (m_wr h t 0 a1) t 1 a2) t 2 a3) (m_rd (m_wr (m_wr (m_wr h t 0 a1) t 1 a2) t 2 a3) t 4) 0 1) (fun h1 =>
    FX8_lay_L25 t (fun h2 =>
     gd [GK h2 t 8] (
      gd [GK h2 t 8] (bd (FX8_prefixesOf t (m_rd h2 t 1) h2) (fun x4 h3 =>
       gd [GK h3 t 8] (
        FX8_lay_L73 t (fun h5 =>
         some h5) FU 0 (m_wr h3 t 3 x4)))))) FU 1 h1))
theorem CX8_lay {d : Nat} {t : Int} {a1 : Int} {a2 : Int} {a3 : Int} {h : MH} {r : MH} (hF : FX8_lay t a1 a2 a3 h = some r) : RN xs L iX8_lay (d + 1) 0 (lvE 0 [.inr (.inr t), .inl a1, .inl a2, .inl a3]) [] h (RVo r) := by
  unfold FX8_lay at hF
  obtain ⟨hc, hF⟩ := gd_of hF
  refine RN.blk (ops := [(0, .aload_n 0), (1, .iload_n 1), (2, .putfield 18), (5, .aload_n 0), (6, .iload_n 2), (7, .putfield 22), (10, .aload_n 0), (11, .iload_n 3), (12, .putfield 25), (15, .aload_n 0), (16, .getfield 9), (19, .iconst 0), (20, .iconst 1), (21, .iastore)]) (pc' := 22) (lv' := [(0, .inr (.inr t)), (1, .inl a1), (2, .inl a2), (3, .inl a3)]) (st' := []) (h' := (m_wr (m_wr (m_wr (m_wr h t 0 a1) t 1 a2) t 2 a3) (m_rd (m_wr (m_wr (m_wr h t 0 a1) t 1 a2) t 2 a3) t 4) 0 1)) (cs := [GK h t 8, GK h t 8, GK h t 8, GK h t 8, GI h (m_rd (m_wr (m_wr (m_wr h t 0 a1) t 1 a2) t 2 a3) t 4) 1 0]) (by decide +kernel) rfl hc ?_
  obtain ⟨h1, he, hF⟩ := hl_of hF
  refine RN.hl he ?_
  refine RN.blk (ops := [(22, .iconst 1), (23, .istore 4)]) (pc' := 25) (lv' := [(4, .inl 1), (0, .inr (.inr t)), (1, .inl a1), (2, .inl a2), (3, .inl a3)]) (st' := []) (h' := h1) (cs := []) (by decide +kernel) rfl trivial ?_
  refine RN.sub (CX8_lay_L25 ?_ _ _ _ hF) (sub_cons rfl (sub_cons rfl sub_nil))
  · intro h2 hF
    obtain ⟨hc, hF⟩ := gd_of hF
    refine RN.blk (ops := [(58, .aload_n 0), (59, .aload_n 0), (60, .aload_n 0), (61, .getfield 22)]) (pc' := 64) (lv' := [(0, .inr (.inr t))]) (st' := [.inl (m_rd h2 t 1), .inr (.inr t), .inr (.inr t)]) (h' := h2) (cs := [GK h2 t 8]) (by decide +kernel) rfl hc ?_
    obtain ⟨hc, hF⟩ := gd_of hF
    obtain ⟨x4, h3, hG, hF⟩ := bd_of hF
    refine RN.cv (i := 28) (k := 84) (q2 := iX8_prefixesOf) (as := [.inr (.inr t), .inl (m_rd h2 t 1)]) (r := [.inr (.inr t)]) (v := some (.inl x4)) (h1 := h3) (by decide +kernel) rfl rfl rfl rfl rfl (rcv_ok hc.1) (CX8_prefixesOf (d := d) hG) ?_
    obtain ⟨hc, hF⟩ := gd_of hF
    refine RN.blk (ops := [(67, .putfield 32), (70, .iconst 0), (71, .istore 4)]) (pc' := 73) (lv' := [(4, .inl 0), (0, .inr (.inr t))]) (st' := []) (h' := (m_wr h3 t 3 x4)) (cs := [GK h3 t 8]) (by decide +kernel) rfl hc ?_
    refine RN.sub (CX8_lay_L73 ?_ _ _ _ hF) (sub_cons rfl (sub_cons rfl sub_nil))
    · intro h5 hF
      exact RN.vR (by decide +kernel) rfl hF
noncomputable def FX3_takeShape (t : Int) (h : MH) : Option (Int × MH) :=
  gd [GK h t 3] (
   gd [GK h (m_rd h t 0) 9] (bd (FX9_takeNumber (m_rd h t 0) 2 4 h) (fun x2 h1 =>
    (if x2 = (-1) then
     some (0, h1)
    else
     gd [GK h1 t 3] (
      gd [GK h1 (m_rd h1 t 0) 9] (bd (FX9_takeNumber (m_rd h1 t 0) 1 4 h1) (fun x4 h3 =>
       (if x4 = (-1) then
        some (0, h3)
       else
        gd [GK h3 t 3] (
         gd [GK h3 (m_rd h3 t 0) 9] (bd (FX9_takeNumber (m_rd h3 t 0) 1 6 h3) (fun x6 h5 =>
          (if x6 = (-1) then
           some (0, h5)
          else
           gd [GK h5 t 3] (
            gd [GK h5 (m_rd h5 t 1) 8] (bv (FX8_lay (m_rd h5 t 1) x2 x4 x6 h5) (fun h7 =>
             some (1, h7))))))))))))))))
theorem CX3_takeShape {d : Nat} {t : Int} {h : MH} {r : Int × MH} (hF : FX3_takeShape t h = some r) : RN xs L iX3_takeShape (d + 2) 0 (lvE 0 [.inr (.inr t)]) [] h (RIo r) := by
  unfold FX3_takeShape at hF
  obtain ⟨hc, hF⟩ := gd_of hF
  refine RN.blk (ops := [(0, .aload_n 0), (1, .getfield 25), (4, .iconst 2), (5, .iconst 4)]) (pc' := 6) (lv' := [(0, .inr (.inr t))]) (st' := [.inl 4, .inl 2, .inr (.inr (m_rd h t 0))]) (h' := h) (cs := [GK h t 3]) (by decide +kernel) rfl hc ?_
  obtain ⟨hc, hF⟩ := gd_of hF
  obtain ⟨x2, h1, hG, hF⟩ := bd_of hF
  refine RN.cv (i := 101) (k := 96) (q2 := iX9_takeNumber) (as := [.inr (.inr (m_rd h t 0)), .inl 2, .inl 4]) (r := []) (v := some (.inl x2)) (h1 := h1) (by decide +kernel) rfl rfl rfl rfl rfl (rcv_ok hc.1) (CX9_takeNumber (d := d) hG) ?_
  refine RN.blk (ops := [(9, .istore_n 1), (10, .iload_n 1), (11, .iconst (-1))]) (pc' := 12) (lv' := [(1, .inl x2), (0, .inr (.inr t))]) (st' := [.inl (-1), .inl x2]) (h' := h1) (cs := []) (by decide +kernel) rfl trivial ?_
  rcases it_of hF with ⟨hb, hF⟩ | ⟨hb, hF⟩
  · refine RN.icf (cd := .ne) (off := 5) (tgt := 17) (by decide +kernel) (mif_nen hb) ?_
    refine RN.blk (ops := [(15, .iconst 0)]) (pc' := 16) (lv' := [(1, .inl x2), (0, .inr (.inr t))]) (st' := [.inl 0]) (h' := h1) (cs := []) (by decide +kernel) rfl trivial ?_
    exact RN.zR (by decide +kernel) rfl (Or.inl rfl) hF
  · refine RN.ict (cd := .ne) (off := 5) (tgt := 17) (by decide +kernel) (mif_ne hb) ?_
    obtain ⟨hc, hF⟩ := gd_of hF
    refine RN.blk (ops := [(17, .aload_n 0), (18, .getfield 25), (21, .iconst 1), (22, .iconst 4)]) (pc' := 23) (lv' := [(1, .inl x2), (0, .inr (.inr t))]) (st' := [.inl 4, .inl 1, .inr (.inr (m_rd h1 t 0))]) (h' := h1) (cs := [GK h1 t 3]) (by decide +kernel) rfl hc ?_
    obtain ⟨hc, hF⟩ := gd_of hF
    obtain ⟨x4, h3, hG, hF⟩ := bd_of hF
    refine RN.cv (i := 101) (k := 96) (q2 := iX9_takeNumber) (as := [.inr (.inr (m_rd h1 t 0)), .inl 1, .inl 4]) (r := []) (v := some (.inl x4)) (h1 := h3) (by decide +kernel) rfl rfl rfl rfl rfl (rcv_ok hc.1) (CX9_takeNumber (d := d) hG) ?_
    refine RN.blk (ops := [(26, .istore_n 2), (27, .iload_n 2), (28, .iconst (-1))]) (pc' := 29) (lv' := [(2, .inl x4), (1, .inl x2), (0, .inr (.inr t))]) (st' := [.inl (-1), .inl x4]) (h' := h3) (cs := []) (by decide +kernel) rfl trivial ?_
    rcases it_of hF with ⟨hb, hF⟩ | ⟨hb, hF⟩
    · refine RN.icf (cd := .ne) (off := 5) (tgt := 34) (by decide +kernel) (mif_nen hb) ?_
      refine RN.blk (ops := [(32, .iconst 0)]) (pc' := 33) (lv' := [(2, .inl x4), (1, .inl x2), (0, .inr (.inr t))]) (st' := [.inl 0]) (h' := h3) (cs := []) (by decide +kernel) rfl trivial ?_
      exact RN.zR (by decide +kernel) rfl (Or.inl rfl) hF
    · refine RN.ict (cd := .ne) (off := 5) (tgt := 34) (by decide +kernel) (mif_ne hb) ?_
      obtain ⟨hc, hF⟩ := gd_of hF
      refine RN.blk (ops := [(34, .aload_n 0), (35, .getfield 25), (38, .iconst 1), (39, .bipush 6)]) (pc' := 41) (lv' := [(2, .inl x4), (1, .inl x2), (0, .inr (.inr t))]) (st' := [.inl 6, .inl 1, .inr (.inr (m_rd h3 t 0))]) (h' := h3) (cs := [GK h3 t 3]) (by decide +kernel) rfl hc ?_
      obtain ⟨hc, hF⟩ := gd_of hF
      obtain ⟨x6, h5, hG, hF⟩ := bd_of hF
      refine RN.cv (i := 101) (k := 96) (q2 := iX9_takeNumber) (as := [.inr (.inr (m_rd h3 t 0)), .inl 1, .inl 6]) (r := []) (v := some (.inl x6)) (h1 := h5) (by decide +kernel) rfl rfl rfl rfl rfl (rcv_ok hc.1) (CX9_takeNumber (d := d) hG) ?_
      refine RN.blk (ops := [(44, .istore_n 3), (45, .iload_n 3), (46, .iconst (-1))]) (pc' := 47) (lv' := [(3, .inl x6), (2, .inl x4), (1, .inl x2), (0, .inr (.inr t))]) (st' := [.inl (-1), .inl x6]) (h' := h5) (cs := []) (by decide +kernel) rfl trivial ?_
      rcases it_of hF with ⟨hb, hF⟩ | ⟨hb, hF⟩
      · refine RN.icf (cd := .ne) (off := 5) (tgt := 52) (by decide +kernel) (mif_nen hb) ?_
        refine RN.blk (ops := [(50, .iconst 0)]) (pc' := 51) (lv' := [(3, .inl x6), (2, .inl x4), (1, .inl x2), (0, .inr (.inr t))]) (st' := [.inl 0]) (h' := h5) (cs := []) (by decide +kernel) rfl trivial ?_
        exact RN.zR (by decide +kernel) rfl (Or.inl rfl) hF
      · refine RN.ict (cd := .ne) (off := 5) (tgt := 52) (by decide +kernel) (mif_ne hb) ?_
        obtain ⟨hc, hF⟩ := gd_of hF
        refine RN.blk (ops := [(52, .aload_n 0), (53, .getfield 12), (56, .iload_n 1), (57, .iload_n 2), (58, .iload_n 3)]) (pc' := 59) (lv' := [(3, .inl x6), (2, .inl x4), (1, .inl x2), (0, .inr (.inr t))]) (st' := [.inl x6, .inl x4, .inl x2, .inr (.inr (m_rd h5 t 1))]) (h' := h5) (cs := [GK h5 t 3]) (by decide +kernel) rfl hc ?_
        obtain ⟨hc, hF⟩ := gd_of hF
        obtain ⟨h7, hG, hF⟩ := bv_of hF
        refine RN.cv (i := 105) (k := 79) (q2 := iX8_lay) (as := [.inr (.inr (m_rd h5 t 1)), .inl x2, .inl x4, .inl x6]) (r := []) (v := none) (h1 := h7) (by decide +kernel) rfl rfl rfl rfl rfl (rcv_ok hc.1) (CX8_lay (d := d) hG) ?_
        refine RN.blk (ops := [(62, .iconst 1)]) (pc' := 63) (lv' := [(3, .inl x6), (2, .inl x4), (1, .inl x2), (0, .inr (.inr t))]) (st' := [.inl 1]) (h' := h7) (cs := []) (by decide +kernel) rfl trivial ?_
        exact RN.zR (by decide +kernel) rfl (Or.inr rfl) hF
noncomputable def FX3_tooMany (t : Int) (a1 : Int) (a2 : Int) (h : MH) : Option (Int × MH) :=
  (if a1 < 40 then
   jn (fun (s2 : Int) =>
    jn (fun (s4 : Int) =>
     (if s2 = s4 then
      jn (
       (if a2 = 4 then
        gd [GK h t 3, GK h (m_rd h t 2) 10] (
         (if (m_rd h (m_rd h t 2) 1) < 12 then
          some (0, h)
         else
          some (1, h)))
       else
        some (0, h))) (fun j5 =>
       (if a2 = 3 then
        gd [GK h t 3, GK h (m_rd h t 2) 10, GK h (m_rd h (m_rd h t 2) 0) 4] (
         (if (m_rd h (m_rd h (m_rd h t 2) 0) 0) < 12 then
          j5
         else
          some (1, h)))
       else
        j5))
     else
      some (1, h))) (fun j3 =>
     (if a2 = 1 then
      j3 1
     else
      j3 0))) (fun j1 =>
    (if a1 = 0 then
     j1 1
    else
     j1 0))
  else
   some (1, h))
theorem CX3_tooMany {d : Nat} {t : Int} {a1 : Int} {a2 : Int} {h : MH} {r : Int × MH} (hF : FX3_tooMany t a1 a2 h = some r) : RN xs L iX3_tooMany (d) 0 (lvE 0 [.inr (.inr t), .inl a1, .inl a2]) [] h (RIo r) := by
  unfold FX3_tooMany at hF
  refine RN.blk (ops := [(0, .iload_n 1), (1, .bipush 40)]) (pc' := 3) (lv' := [(0, .inr (.inr t)), (1, .inl a1), (2, .inl a2)]) (st' := [.inl 40, .inl a1]) (h' := h) (cs := []) (by decide +kernel) rfl trivial ?_
  rcases it_of hF with ⟨hb, hF⟩ | ⟨hb, hF⟩
  · refine RN.icf (cd := .ge) (off := 62) (tgt := 65) (by decide +kernel) (mif_gen hb) ?_
    refine RN.blk (ops := [(6, .iload_n 1)]) (pc' := 7) (lv' := [(0, .inr (.inr t)), (1, .inl a1), (2, .inl a2)]) (st' := [.inl a1]) (h' := h) (cs := []) (by decide +kernel) rfl trivial ?_
    refine jn_use (fun j1 => ∀ (s2 : Int), j1 s2 = some r → RN xs L iX3_tooMany (d) 15 [(0, .inr (.inr t)), (2, .inl a2)] [.inl s2] h (RIo r)) ?_ ?_ hF
    · intro s2 hF
      refine RN.blk (ops := [(15, .iload_n 2), (16, .iconst 1)]) (pc' := 17) (lv' := [(0, .inr (.inr t)), (2, .inl a2)]) (st' := [.inl 1, .inl a2, .inl s2]) (h' := h) (cs := []) (by decide +kernel) rfl trivial ?_
      refine jn_use (fun j3 => ∀ (s4 : Int), j3 s4 = some r → RN xs L iX3_tooMany (d) 25 [(0, .inr (.inr t)), (2, .inl a2)] [.inl s4, .inl s2] h (RIo r)) ?_ ?_ hF
      · intro s4 hF
        rcases it_of hF with ⟨hb, hF⟩ | ⟨hb, hF⟩
        · refine RN.icf (cd := .ne) (off := 40) (tgt := 65) (by decide +kernel) (mif_nen hb) ?_
          refine RN.blk (ops := [(28, .iload_n 2), (29, .iconst 3)]) (pc' := 30) (lv' := [(0, .inr (.inr t)), (2, .inl a2)]) (st' := [.inl 3, .inl a2]) (h' := h) (cs := []) (by decide +kernel) rfl trivial ?_
          refine jn_use (fun j5 => j5 = some r → RN xs L iX3_tooMany (d) 48 [(0, .inr (.inr t)), (2, .inl a2)] [] h (RIo r)) ?_ ?_ hF
          · intro  hF
            refine RN.blk (ops := [(48, .iload_n 2), (49, .iconst 4)]) (pc' := 50) (lv' := [(0, .inr (.inr t)), (2, .inl a2)]) (st' := [.inl 4, .inl a2]) (h' := h) (cs := []) (by decide +kernel) rfl trivial ?_
            rcases it_of hF with ⟨hb, hF⟩ | ⟨hb, hF⟩
            · refine RN.icf (cd := .ne) (off := 19) (tgt := 69) (by decide +kernel) (mif_nen hb) ?_
              obtain ⟨hc, hF⟩ := gd_of hF
              refine RN.blk (ops := [(53, .aload_n 0), (54, .getfield 21), (57, .getfield 98), (60, .bipush 12)]) (pc' := 62) (lv' := [(0, .inr (.inr t)), (2, .inl a2)]) (st' := [.inl 12, .inl (m_rd h (m_rd h t 2) 1)]) (h' := h) (cs := [GK h t 3, GK h (m_rd h t 2) 10]) (by decide +kernel) rfl hc ?_
              rcases it_of hF with ⟨hb, hF⟩ | ⟨hb, hF⟩
              · refine RN.ict (cd := .lt) (off := 7) (tgt := 69) (by decide +kernel) (mif_lt hb) ?_
                refine RN.blk (ops := [(69, .iconst 0)]) (pc' := 70) (lv' := [(0, .inr (.inr t)), (2, .inl a2)]) (st' := [.inl 0]) (h' := h) (cs := []) (by decide +kernel) rfl trivial ?_
                exact RN.zR (by decide +kernel) rfl (Or.inl rfl) hF
              · refine RN.icf (cd := .lt) (off := 7) (tgt := 69) (by decide +kernel) (mif_ltn hb) ?_
                refine RN.blk (ops := [(65, .iconst 1)]) (pc' := 66) (lv' := [(0, .inr (.inr t)), (2, .inl a2)]) (st' := [.inl 1]) (h' := h) (cs := []) (by decide +kernel) rfl trivial ?_
                refine RN.goto (off := 4) (tgt := 70) (by decide +kernel) ?_
                exact RN.zR (by decide +kernel) rfl (Or.inr rfl) hF
            · refine RN.ict (cd := .ne) (off := 19) (tgt := 69) (by decide +kernel) (mif_ne hb) ?_
              refine RN.blk (ops := [(69, .iconst 0)]) (pc' := 70) (lv' := [(0, .inr (.inr t)), (2, .inl a2)]) (st' := [.inl 0]) (h' := h) (cs := []) (by decide +kernel) rfl trivial ?_
              exact RN.zR (by decide +kernel) rfl (Or.inl rfl) hF
          · intro j5 Jj5 hF
            rcases it_of hF with ⟨hb, hF⟩ | ⟨hb, hF⟩
            · refine RN.icf (cd := .ne) (off := 18) (tgt := 48) (by decide +kernel) (mif_nen hb) ?_
              obtain ⟨hc, hF⟩ := gd_of hF
              refine RN.blk (ops := [(33, .aload_n 0), (34, .getfield 21), (37, .getfield 90), (40, .getfield 93), (43, .bipush 12)]) (pc' := 45) (lv' := [(0, .inr (.inr t)), (2, .inl a2)]) (st' := [.inl 12, .inl (m_rd h (m_rd h (m_rd h t 2) 0) 0)]) (h' := h) (cs := [GK h t 3, GK h (m_rd h t 2) 10, GK h (m_rd h (m_rd h t 2) 0) 4]) (by decide +kernel) rfl hc ?_
              rcases it_of hF with ⟨hb, hF⟩ | ⟨hb, hF⟩
              · refine RN.icf (cd := .ge) (off := 20) (tgt := 65) (by decide +kernel) (mif_gen hb) ?_
                exact RN.sub (Jj5 hF) (sub_cons rfl (sub_cons rfl sub_nil))
              · refine RN.ict (cd := .ge) (off := 20) (tgt := 65) (by decide +kernel) (mif_ge hb) ?_
                refine RN.blk (ops := [(65, .iconst 1)]) (pc' := 66) (lv' := [(0, .inr (.inr t)), (2, .inl a2)]) (st' := [.inl 1]) (h' := h) (cs := []) (by decide +kernel) rfl trivial ?_
                refine RN.goto (off := 4) (tgt := 70) (by decide +kernel) ?_
                exact RN.zR (by decide +kernel) rfl (Or.inr rfl) hF
            · refine RN.ict (cd := .ne) (off := 18) (tgt := 48) (by decide +kernel) (mif_ne hb) ?_
              exact RN.sub (Jj5 hF) (sub_cons rfl (sub_cons rfl sub_nil))
        · refine RN.ict (cd := .ne) (off := 40) (tgt := 65) (by decide +kernel) (mif_ne hb) ?_
          refine RN.blk (ops := [(65, .iconst 1)]) (pc' := 66) (lv' := [(0, .inr (.inr t)), (2, .inl a2)]) (st' := [.inl 1]) (h' := h) (cs := []) (by decide +kernel) rfl trivial ?_
          refine RN.goto (off := 4) (tgt := 70) (by decide +kernel) ?_
          exact RN.zR (by decide +kernel) rfl (Or.inr rfl) hF
      · intro j3 Jj3 hF
        rcases it_of hF with ⟨hb, hF⟩ | ⟨hb, hF⟩
        · refine RN.icf (cd := .ne) (off := 7) (tgt := 24) (by decide +kernel) (mif_nen hb) ?_
          refine RN.blk (ops := [(20, .iconst 1)]) (pc' := 21) (lv' := [(0, .inr (.inr t)), (2, .inl a2)]) (st' := [.inl 1, .inl s2]) (h' := h) (cs := []) (by decide +kernel) rfl trivial ?_
          refine RN.goto (off := 4) (tgt := 25) (by decide +kernel) ?_
          exact RN.sub (Jj3 _ hF) (sub_cons rfl (sub_cons rfl sub_nil))
        · refine RN.ict (cd := .ne) (off := 7) (tgt := 24) (by decide +kernel) (mif_ne hb) ?_
          refine RN.blk (ops := [(24, .iconst 0)]) (pc' := 25) (lv' := [(0, .inr (.inr t)), (2, .inl a2)]) (st' := [.inl 0, .inl s2]) (h' := h) (cs := []) (by decide +kernel) rfl trivial ?_
          exact RN.sub (Jj3 _ hF) (sub_cons rfl (sub_cons rfl sub_nil))
    · intro j1 Jj1 hF
      rcases it_of hF with ⟨hb, hF⟩ | ⟨hb, hF⟩
      · refine RN.iff (cd := .ne) (off := 7) (tgt := 14) (by decide +kernel) (mif_nen hb) ?_
        refine RN.blk (ops := [(10, .iconst 1)]) (pc' := 11) (lv' := [(0, .inr (.inr t)), (1, .inl a1), (2, .inl a2)]) (st' := [.inl 1]) (h' := h) (cs := []) (by decide +kernel) rfl trivial ?_
        refine RN.goto (off := 4) (tgt := 15) (by decide +kernel) ?_
        exact RN.sub (Jj1 _ hF) (sub_cons rfl (sub_cons rfl sub_nil))
      · refine RN.ift (cd := .ne) (off := 7) (tgt := 14) (by decide +kernel) (mif_ne hb) ?_
        refine RN.blk (ops := [(14, .iconst 0)]) (pc' := 15) (lv' := [(0, .inr (.inr t)), (1, .inl a1), (2, .inl a2)]) (st' := [.inl 0]) (h' := h) (cs := []) (by decide +kernel) rfl trivial ?_
        exact RN.sub (Jj1 _ hF) (sub_cons rfl (sub_cons rfl sub_nil))
  · refine RN.ict (cd := .ge) (off := 62) (tgt := 65) (by decide +kernel) (mif_ge hb) ?_
    refine RN.blk (ops := [(65, .iconst 1)]) (pc' := 66) (lv' := [(0, .inr (.inr t)), (1, .inl a1), (2, .inl a2)]) (st' := [.inl 1]) (h' := h) (cs := []) (by decide +kernel) rfl trivial ?_
    refine RN.goto (off := 4) (tgt := 70) (by decide +kernel) ?_
    exact RN.zR (by decide +kernel) rfl (Or.inr rfl) hF
noncomputable def FX3_takeClause (t : Int) (a1 : Int) (h : MH) : Option (Int × MH) :=
  gd [GK h t 3] (
   gd [GK h (m_rd h t 0) 9] (bd (FX9_next (m_rd h t 0) h) (fun x2 h1 =>
    gd [GK h1 t 3, GK h1 (m_rd h1 t 0) 9] (
     gd [GK h1 t 3] (bd (FX3_takeKind t h1) (fun x4 h3 =>
      (if x4 = 0 then
       gd [GK h3 t 3] (
        gd [GK h3 (m_rd h3 t 0) 9] (bd (FX9_fail (m_rd h3 t 0) (m_rd h1 (m_rd h1 t 0) 2) 0 h3) (fun x18 h17 =>
         gd [GT x18] (some (x18, h17)))))
      else
       gd [GK h3 t 3] (bd (FX3_tooMany t a1 x4 h3) (fun x6 h5 =>
        (if x6 = 0 then
         (if x4 = 1 then
          gd [GK h5 t 3] (bd (FX3_takeShape t h5) (fun x8 h7 =>
           gd [GT x8] (some (x8, h7))))
         else
         (if x4 = 2 then
          gd [GK h5 t 3] (bd (FX3_takeRoom t h5) (fun x10 h9 =>
           gd [GT x10] (some (x10, h9))))
         else
         (if x4 = 3 then
          gd [GK h5 t 3] (bd (FX3_takeEntry t h5) (fun x12 h11 =>
           gd [GT x12] (some (x12, h11))))
         else
          gd [GK h5 t 3] (bd (FX3_takeLetter t h5) (fun x14 h13 =>
           gd [GT x14] (some (x14, h13)))))))
        else
         gd [GK h5 t 3] (
          gd [GK h5 (m_rd h5 t 0) 9] (bd (FX9_fail (m_rd h5 t 0) (m_rd h1 (m_rd h1 t 0) 2) 4 h5) (fun x16 h15 =>
           gd [GT x16] (some (x16, h15)))))))))))))))
theorem CX3_takeClause {d : Nat} {t : Int} {a1 : Int} {h : MH} {r : Int × MH} (hF : FX3_takeClause t a1 h = some r) : RN xs L iX3_takeClause (d + 8) 0 (lvE 0 [.inr (.inr t), .inl a1]) [] h (RIo r) := by
  unfold FX3_takeClause at hF
  obtain ⟨hc, hF⟩ := gd_of hF
  refine RN.blk (ops := [(0, .aload_n 0), (1, .getfield 25)]) (pc' := 4) (lv' := [(0, .inr (.inr t)), (1, .inl a1)]) (st' := [.inr (.inr (m_rd h t 0))]) (h' := h) (cs := [GK h t 3]) (by decide +kernel) rfl hc ?_
  obtain ⟨hc, hF⟩ := gd_of hF
  obtain ⟨x2, h1, hG, hF⟩ := bd_of hF
  refine RN.cv (i := 49) (k := 93) (q2 := iX9_next) (as := [.inr (.inr (m_rd h t 0))]) (r := []) (v := some (.inl x2)) (h1 := h1) (by decide +kernel) rfl rfl rfl rfl rfl (rcv_ok hc.1) (CX9_next (d := d + 7) hG) ?_
  obtain ⟨hc, hF⟩ := gd_of hF
  refine RN.blk (ops := [(7, .pop), (8, .aload_n 0), (9, .getfield 25), (12, .getfield 53), (15, .istore_n 2), (16, .aload_n 0)]) (pc' := 17) (lv' := [(2, .inl (m_rd h1 (m_rd h1 t 0) 2)), (0, .inr (.inr t)), (1, .inl a1)]) (st' := [.inr (.inr t)]) (h' := h1) (cs := [GK h1 t 3, GK h1 (m_rd h1 t 0) 9]) (by decide +kernel) rfl hc ?_
  obtain ⟨hc, hF⟩ := gd_of hF
  obtain ⟨x4, h3, hG, hF⟩ := bd_of hF
  refine RN.cv (i := 56) (k := 38) (q2 := iX3_takeKind) (as := [.inr (.inr t)]) (r := []) (v := some (.inl x4)) (h1 := h3) (by decide +kernel) rfl rfl rfl rfl rfl (rcv_ok hc.1) (CX3_takeKind (d := d) hG) ?_
  refine RN.blk (ops := [(20, .istore_n 3), (21, .iload_n 3)]) (pc' := 22) (lv' := [(3, .inl x4), (2, .inl (m_rd h1 (m_rd h1 t 0) 2)), (0, .inr (.inr t)), (1, .inl a1)]) (st' := [.inl x4]) (h' := h3) (cs := []) (by decide +kernel) rfl trivial ?_
  rcases it_of hF with ⟨hb, hF⟩ | ⟨hb, hF⟩
  · refine RN.iff (cd := .ne) (off := 13) (tgt := 35) (by decide +kernel) (mif_nen hb) ?_
    obtain ⟨hc, hF⟩ := gd_of hF
    refine RN.blk (ops := [(25, .aload_n 0), (26, .getfield 25), (29, .iload_n 2), (30, .iconst 0)]) (pc' := 31) (lv' := [(3, .inl x4), (2, .inl (m_rd h1 (m_rd h1 t 0) 2)), (0, .inr (.inr t)), (1, .inl a1)]) (st' := [.inl 0, .inl (m_rd h1 (m_rd h1 t 0) 2), .inr (.inr (m_rd h3 t 0))]) (h' := h3) (cs := [GK h3 t 3]) (by decide +kernel) rfl hc ?_
    obtain ⟨hc, hF⟩ := gd_of hF
    obtain ⟨x18, h17, hG, hF⟩ := bd_of hF
    refine RN.cv (i := 59) (k := 91) (q2 := iX9_fail) (as := [.inr (.inr (m_rd h3 t 0)), .inl (m_rd h1 (m_rd h1 t 0) 2), .inl 0]) (r := []) (v := some (.inl x18)) (h1 := h17) (by decide +kernel) rfl rfl rfl rfl rfl (rcv_ok hc.1) (CX9_fail (d := d + 7) hG) ?_
    obtain ⟨hc, hF⟩ := gd_of hF
    exact RN.zR (by decide +kernel) rfl hc.1 hF
  · refine RN.ift (cd := .ne) (off := 13) (tgt := 35) (by decide +kernel) (mif_ne hb) ?_
    refine RN.blk (ops := [(35, .aload_n 0), (36, .iload_n 1), (37, .iload_n 3)]) (pc' := 38) (lv' := [(3, .inl x4), (2, .inl (m_rd h1 (m_rd h1 t 0) 2)), (0, .inr (.inr t)), (1, .inl a1)]) (st' := [.inl x4, .inl a1, .inr (.inr t)]) (h' := h3) (cs := []) (by decide +kernel) rfl trivial ?_
    obtain ⟨hc, hF⟩ := gd_of hF
    obtain ⟨x6, h5, hG, hF⟩ := bd_of hF
    refine RN.cv (i := 63) (k := 39) (q2 := iX3_tooMany) (as := [.inr (.inr t), .inl a1, .inl x4]) (r := []) (v := some (.inl x6)) (h1 := h5) (by decide +kernel) rfl rfl rfl rfl rfl (rcv_ok hc.1) (CX3_tooMany (d := d + 7) hG) ?_
    rcases it_of hF with ⟨hb, hF⟩ | ⟨hb, hF⟩
    · refine RN.ift (cd := .eq) (off := 13) (tgt := 54) (by decide +kernel) (mif_eq hb) ?_
      refine RN.blk (ops := [(54, .iload_n 3)]) (pc' := 55) (lv' := [(3, .inl x4), (2, .inl (m_rd h1 (m_rd h1 t 0) 2)), (0, .inr (.inr t)), (1, .inl a1)]) (st' := [.inl x4]) (h' := h5) (cs := []) (by decide +kernel) rfl trivial ?_
      rcases it_of hF with ⟨hb0, hF⟩ | ⟨hb0, hF⟩
      · refine RN.tsw (dflt := 40) (lo := 1) (hi := 3) (offs := #[25, 30, 35]) (by decide +kernel) (RN.sth hb0 (tgt := 80) rfl ?_)
        refine RN.blk (ops := [(80, .aload_n 0)]) (pc' := 81) (lv' := [(3, .inl x4), (2, .inl (m_rd h1 (m_rd h1 t 0) 2)), (0, .inr (.inr t)), (1, .inl a1)]) (st' := [.inr (.inr t)]) (h' := h5) (cs := []) (by decide +kernel) rfl trivial ?_
        obtain ⟨hc, hF⟩ := gd_of hF
        obtain ⟨x8, h7, hG, hF⟩ := bd_of hF
        refine RN.cv (i := 66) (k := 40) (q2 := iX3_takeShape) (as := [.inr (.inr t)]) (r := []) (v := some (.inl x8)) (h1 := h7) (by decide +kernel) rfl rfl rfl rfl rfl (rcv_ok hc.1) (CX3_takeShape (d := d + 5) hG) ?_
        obtain ⟨hc, hF⟩ := gd_of hF
        exact RN.zR (by decide +kernel) rfl hc.1 hF
      rcases it_of hF with ⟨hb1, hF⟩ | ⟨hb1, hF⟩
      · refine RN.tsw (dflt := 40) (lo := 1) (hi := 3) (offs := #[25, 30, 35]) (by decide +kernel) (RN.stm hb0 (RN.sth hb1 (tgt := 85) rfl ?_))
        refine RN.blk (ops := [(85, .aload_n 0)]) (pc' := 86) (lv' := [(3, .inl x4), (2, .inl (m_rd h1 (m_rd h1 t 0) 2)), (0, .inr (.inr t)), (1, .inl a1)]) (st' := [.inr (.inr t)]) (h' := h5) (cs := []) (by decide +kernel) rfl trivial ?_
        obtain ⟨hc, hF⟩ := gd_of hF
        obtain ⟨x10, h9, hG, hF⟩ := bd_of hF
        refine RN.cv (i := 69) (k := 41) (q2 := iX3_takeRoom) (as := [.inr (.inr t)]) (r := []) (v := some (.inl x10)) (h1 := h9) (by decide +kernel) rfl rfl rfl rfl rfl (rcv_ok hc.1) (CX3_takeRoom (d := d + 5) hG) ?_
        obtain ⟨hc, hF⟩ := gd_of hF
        exact RN.zR (by decide +kernel) rfl hc.1 hF
      rcases it_of hF with ⟨hb2, hF⟩ | ⟨hb2, hF⟩
      · refine RN.tsw (dflt := 40) (lo := 1) (hi := 3) (offs := #[25, 30, 35]) (by decide +kernel) (RN.stm hb0 (RN.stm hb1 (RN.sth hb2 (tgt := 90) rfl ?_)))
        refine RN.blk (ops := [(90, .aload_n 0)]) (pc' := 91) (lv' := [(3, .inl x4), (2, .inl (m_rd h1 (m_rd h1 t 0) 2)), (0, .inr (.inr t)), (1, .inl a1)]) (st' := [.inr (.inr t)]) (h' := h5) (cs := []) (by decide +kernel) rfl trivial ?_
        obtain ⟨hc, hF⟩ := gd_of hF
        obtain ⟨x12, h11, hG, hF⟩ := bd_of hF
        refine RN.cv (i := 72) (k := 42) (q2 := iX3_takeEntry) (as := [.inr (.inr t)]) (r := []) (v := some (.inl x12)) (h1 := h11) (by decide +kernel) rfl rfl rfl rfl rfl (rcv_ok hc.1) (CX3_takeEntry (d := d + 5) hG) ?_
        obtain ⟨hc, hF⟩ := gd_of hF
        exact RN.zR (by decide +kernel) rfl hc.1 hF
      refine RN.tsw (dflt := 40) (lo := 1) (hi := 3) (offs := #[25, 30, 35]) (by decide +kernel) (RN.stm hb0 (RN.stm hb1 (RN.stm hb2 (RN.std (tgt := 95) rfl ?_))))
      refine RN.blk (ops := [(95, .aload_n 0)]) (pc' := 96) (lv' := [(3, .inl x4), (2, .inl (m_rd h1 (m_rd h1 t 0) 2)), (0, .inr (.inr t)), (1, .inl a1)]) (st' := [.inr (.inr t)]) (h' := h5) (cs := []) (by decide +kernel) rfl trivial ?_
      obtain ⟨hc, hF⟩ := gd_of hF
      obtain ⟨x14, h13, hG, hF⟩ := bd_of hF
      refine RN.cv (i := 75) (k := 43) (q2 := iX3_takeLetter) (as := [.inr (.inr t)]) (r := []) (v := some (.inl x14)) (h1 := h13) (by decide +kernel) rfl rfl rfl rfl rfl (rcv_ok hc.1) (CX3_takeLetter (d := d + 5) hG) ?_
      obtain ⟨hc, hF⟩ := gd_of hF
      exact RN.zR (by decide +kernel) rfl hc.1 hF
    · refine RN.iff (cd := .eq) (off := 13) (tgt := 54) (by decide +kernel) (mif_eqn hb) ?_
      obtain ⟨hc, hF⟩ := gd_of hF
      refine RN.blk (ops := [(44, .aload_n 0), (45, .getfield 25), (48, .iload_n 2), (49, .iconst 4)]) (pc' := 50) (lv' := [(3, .inl x4), (2, .inl (m_rd h1 (m_rd h1 t 0) 2)), (0, .inr (.inr t)), (1, .inl a1)]) (st' := [.inl 4, .inl (m_rd h1 (m_rd h1 t 0) 2), .inr (.inr (m_rd h5 t 0))]) (h' := h5) (cs := [GK h5 t 3]) (by decide +kernel) rfl hc ?_
      obtain ⟨hc, hF⟩ := gd_of hF
      obtain ⟨x16, h15, hG, hF⟩ := bd_of hF
      refine RN.cv (i := 59) (k := 91) (q2 := iX9_fail) (as := [.inr (.inr (m_rd h5 t 0)), .inl (m_rd h1 (m_rd h1 t 0) 2), .inl 4]) (r := []) (v := some (.inl x16)) (h1 := h15) (by decide +kernel) rfl rfl rfl rfl rfl (rcv_ok hc.1) (CX9_fail (d := d + 7) hG) ?_
      obtain ⟨hc, hF⟩ := gd_of hF
      exact RN.zR (by decide +kernel) rfl hc.1 hF
noncomputable def FX9_rewind (t : Int) (h : MH) : Option (MH) :=
  gd [GK h t 9, GK h t 9] (
   some (m_wr (m_wr h t 2 0) t 3 0))
theorem CX9_rewind {d : Nat} {t : Int} {h : MH} {r : MH} (hF : FX9_rewind t h = some r) : RN xs L iX9_rewind (d) 0 (lvE 0 [.inr (.inr t)]) [] h (RVo r) := by
  unfold FX9_rewind at hF
  obtain ⟨hc, hF⟩ := gd_of hF
  refine RN.blk (ops := [(0, .aload_n 0), (1, .iconst 0), (2, .putfield 19), (5, .aload_n 0), (6, .iconst 0), (7, .putfield 22)]) (pc' := 10) (lv' := [(0, .inr (.inr t))]) (st' := []) (h' := (m_wr (m_wr h t 2 0) t 3 0)) (cs := [GK h t 9, GK h t 9]) (by decide +kernel) rfl hc ?_
  exact RN.vR (by decide +kernel) rfl hF
noncomputable def FX9_takeByte (t : Int) (a1 : Int) (h : MH) : Option (Int × MH) :=
  gd [GK h t 9] (bd (FX9_next t h) (fun x2 h1 =>
   (if x2 = a1 then
    gd [GK h1 t 9, GK h1 t 9] (
     some (1, (m_wr h1 t 2 (m_w32 ((m_rd h1 t 2) + 1)))))
   else
    gd [GK h1 t 9] (
     gd [GK h1 t 9] (bd (FX9_fail t (m_rd h1 t 2) 0 h1) (fun x4 h3 =>
      gd [GT x4] (some (x4, h3))))))))
theorem CX9_takeByte {d : Nat} {t : Int} {a1 : Int} {h : MH} {r : Int × MH} (hF : FX9_takeByte t a1 h = some r) : RN xs L iX9_takeByte (d + 1) 0 (lvE 0 [.inr (.inr t), .inl a1]) [] h (RIo r) := by
  unfold FX9_takeByte at hF
  refine RN.blk (ops := [(0, .aload_n 0)]) (pc' := 1) (lv' := [(0, .inr (.inr t)), (1, .inl a1)]) (st' := [.inr (.inr t)]) (h' := h) (cs := []) (by decide +kernel) rfl trivial ?_
  obtain ⟨hc, hF⟩ := gd_of hF
  obtain ⟨x2, h1, hG, hF⟩ := bd_of hF
  refine RN.cv (i := 25) (k := 93) (q2 := iX9_next) (as := [.inr (.inr t)]) (r := []) (v := some (.inl x2)) (h1 := h1) (by decide +kernel) rfl rfl rfl rfl rfl (rcv_ok hc.1) (CX9_next (d := d) hG) ?_
  refine RN.blk (ops := [(4, .iload_n 1)]) (pc' := 5) (lv' := [(0, .inr (.inr t)), (1, .inl a1)]) (st' := [.inl a1, .inl x2]) (h' := h1) (cs := []) (by decide +kernel) rfl trivial ?_
  rcases it_of hF with ⟨hb, hF⟩ | ⟨hb, hF⟩
  · refine RN.ict (cd := .eq) (off := 13) (tgt := 18) (by decide +kernel) (mif_eq hb) ?_
    obtain ⟨hc, hF⟩ := gd_of hF
    refine RN.blk (ops := [(18, .aload_n 0), (19, .dup), (20, .getfield 19), (23, .iconst 1), (24, .iadd), (25, .putfield 19), (28, .iconst 1)]) (pc' := 29) (lv' := [(0, .inr (.inr t)), (1, .inl a1)]) (st' := [.inl 1]) (h' := (m_wr h1 t 2 (m_w32 ((m_rd h1 t 2) + 1)))) (cs := [GK h1 t 9, GK h1 t 9]) (by decide +kernel) rfl hc ?_
    exact RN.zR (by decide +kernel) rfl (Or.inr rfl) hF
  · refine RN.icf (cd := .eq) (off := 13) (tgt := 18) (by decide +kernel) (mif_eqn hb) ?_
    obtain ⟨hc, hF⟩ := gd_of hF
    refine RN.blk (ops := [(8, .aload_n 0), (9, .aload_n 0), (10, .getfield 19), (13, .iconst 0)]) (pc' := 14) (lv' := [(0, .inr (.inr t)), (1, .inl a1)]) (st' := [.inl 0, .inl (m_rd h1 t 2), .inr (.inr t)]) (h' := h1) (cs := [GK h1 t 9]) (by decide +kernel) rfl hc ?_
    obtain ⟨hc, hF⟩ := gd_of hF
    obtain ⟨x4, h3, hG, hF⟩ := bd_of hF
    refine RN.cv (i := 29) (k := 91) (q2 := iX9_fail) (as := [.inr (.inr t), .inl (m_rd h1 t 2), .inl 0]) (r := []) (v := some (.inl x4)) (h1 := h3) (by decide +kernel) rfl rfl rfl rfl rfl (rcv_ok hc.1) (CX9_fail (d := d) hG) ?_
    obtain ⟨hc, hF⟩ := gd_of hF
    exact RN.zR (by decide +kernel) rfl hc.1 hF
noncomputable def FX9_takeSemicolon (t : Int) (h : MH) : Option (Int × MH) :=
  gd [GK h t 9] (bd (FX9_next t h) (fun x2 h1 =>
   (if x2 = (-1) then
    some (0, h1)
   else
    gd [GK h1 t 9] (bd (FX9_takeByte t 59 h1) (fun x4 h3 =>
     (if x4 = 0 then
      some (0, h3)
     else
      some (1, h3)))))))
theorem CX9_takeSemicolon {d : Nat} {t : Int} {h : MH} {r : Int × MH} (hF : FX9_takeSemicolon t h = some r) : RN xs L iX9_takeSemicolon (d + 2) 0 (lvE 0 [.inr (.inr t)]) [] h (RIo r) := by
  unfold FX9_takeSemicolon at hF
  refine RN.blk (ops := [(0, .aload_n 0)]) (pc' := 1) (lv' := [(0, .inr (.inr t))]) (st' := [.inr (.inr t)]) (h' := h) (cs := []) (by decide +kernel) rfl trivial ?_
  obtain ⟨hc, hF⟩ := gd_of hF
  obtain ⟨x2, h1, hG, hF⟩ := bd_of hF
  refine RN.cv (i := 25) (k := 93) (q2 := iX9_next) (as := [.inr (.inr t)]) (r := []) (v := some (.inl x2)) (h1 := h1) (by decide +kernel) rfl rfl rfl rfl rfl (rcv_ok hc.1) (CX9_next (d := d + 1) hG) ?_
  refine RN.blk (ops := [(4, .iconst (-1))]) (pc' := 5) (lv' := [(0, .inr (.inr t))]) (st' := [.inl (-1), .inl x2]) (h' := h1) (cs := []) (by decide +kernel) rfl trivial ?_
  rcases it_of hF with ⟨hb, hF⟩ | ⟨hb, hF⟩
  · refine RN.ict (cd := .eq) (off := 16) (tgt := 21) (by decide +kernel) (mif_eq hb) ?_
    refine RN.blk (ops := [(21, .iconst 0)]) (pc' := 22) (lv' := [(0, .inr (.inr t))]) (st' := [.inl 0]) (h' := h1) (cs := []) (by decide +kernel) rfl trivial ?_
    exact RN.zR (by decide +kernel) rfl (Or.inl rfl) hF
  · refine RN.icf (cd := .eq) (off := 16) (tgt := 21) (by decide +kernel) (mif_eqn hb) ?_
    refine RN.blk (ops := [(8, .aload_n 0), (9, .bipush 59)]) (pc' := 11) (lv' := [(0, .inr (.inr t))]) (st' := [.inl 59, .inr (.inr t)]) (h' := h1) (cs := []) (by decide +kernel) rfl trivial ?_
    obtain ⟨hc, hF⟩ := gd_of hF
    obtain ⟨x4, h3, hG, hF⟩ := bd_of hF
    refine RN.cv (i := 50) (k := 94) (q2 := iX9_takeByte) (as := [.inr (.inr t), .inl 59]) (r := []) (v := some (.inl x4)) (h1 := h3) (by decide +kernel) rfl rfl rfl rfl rfl (rcv_ok hc.1) (CX9_takeByte (d := d) hG) ?_
    rcases it_of hF with ⟨hb, hF⟩ | ⟨hb, hF⟩
    · refine RN.ift (cd := .eq) (off := 7) (tgt := 21) (by decide +kernel) (mif_eq hb) ?_
      refine RN.blk (ops := [(21, .iconst 0)]) (pc' := 22) (lv' := [(0, .inr (.inr t))]) (st' := [.inl 0]) (h' := h3) (cs := []) (by decide +kernel) rfl trivial ?_
      exact RN.zR (by decide +kernel) rfl (Or.inl rfl) hF
    · refine RN.iff (cd := .eq) (off := 7) (tgt := 21) (by decide +kernel) (mif_eqn hb) ?_
      refine RN.blk (ops := [(17, .iconst 1)]) (pc' := 18) (lv' := [(0, .inr (.inr t))]) (st' := [.inl 1]) (h' := h3) (cs := []) (by decide +kernel) rfl trivial ?_
      refine RN.goto (off := 4) (tgt := 22) (by decide +kernel) ?_
      exact RN.zR (by decide +kernel) rfl (Or.inr rfl) hF
noncomputable def FX3_parse_L18 (u0 : Int) (K0 : MH → Option (Int × MH)) : Nat → Int → Int → MH → Option (Int × MH)
  | 0, _, _, _ => none
  | f + 1, v1, v2, h =>
    (if 40 < v2 then
     K0 h
    else
     (if v1 = 0 then
      K0 h
     else
      gd [GK h u0 3] (bd (FX3_takeClause u0 v2 h) (fun x2 h1 =>
       (if x2 = 0 then
        FX3_parse_L18 u0 K0 f 0 (m_w32 (v2 + 1)) h1
       else
        gd [GK h1 u0 3] (
         gd [GK h1 (m_rd h1 u0 0) 9] (bd (FX9_takeSemicolon (m_rd h1 u0 0) h1) (fun x4 h3 =>
          (if x4 = 0 then
           FX3_parse_L18 u0 K0 f 0 (m_w32 (v2 + 1)) h3
          else
           FX3_parse_L18 u0 K0 f 1 (m_w32 (v2 + 1)) h3)))))))))
theorem CX3_parse_L18 {d : Nat} {u0 : Int} {K0 : MH → Option (Int × MH)} {r : Int × MH} (hK0 : ∀ (h : MH), K0 h = some r → RN xs L iX3_parse (d + 9) 58 [(0, .inr (.inr u0))] [] h (RIo r)) : ∀ (f : Nat) (v1 : Int) (v2 : Int) (h : MH), FX3_parse_L18 u0 K0 f v1 v2 h = some r → RN xs L iX3_parse (d + 9) 18 [(0, .inr (.inr u0)), (1, .inl v1), (2, .inl v2)] [] h (RIo r) := by
  intro f
  induction f with
  | zero =>
    intro v1 v2 h hF
    cases hF
  | succ f ih =>
    intro v1 v2 h hF
    unfold FX3_parse_L18 at hF
    refine RN.blk (ops := [(18, .iload_n 2), (19, .bipush 40)]) (pc' := 21) (lv' := [(0, .inr (.inr u0)), (1, .inl v1), (2, .inl v2)]) (st' := [.inl 40, .inl v2]) (h' := h) (cs := []) (by decide +kernel) rfl trivial ?_
    rcases it_of hF with ⟨hb, hF⟩ | ⟨hb, hF⟩
    · refine RN.ict (cd := .gt) (off := 37) (tgt := 58) (by decide +kernel) (mif_gt hb) ?_
      exact RN.sub (hK0 _ hF) (sub_cons rfl sub_nil)
    · refine RN.icf (cd := .gt) (off := 37) (tgt := 58) (by decide +kernel) (mif_gtn hb) ?_
      refine RN.blk (ops := [(24, .iload_n 1)]) (pc' := 25) (lv' := [(0, .inr (.inr u0)), (1, .inl v1), (2, .inl v2)]) (st' := [.inl v1]) (h' := h) (cs := []) (by decide +kernel) rfl trivial ?_
      rcases it_of hF with ⟨hb, hF⟩ | ⟨hb, hF⟩
      · refine RN.ift (cd := .eq) (off := 33) (tgt := 58) (by decide +kernel) (mif_eq hb) ?_
        exact RN.sub (hK0 _ hF) (sub_cons rfl sub_nil)
      · refine RN.iff (cd := .eq) (off := 33) (tgt := 58) (by decide +kernel) (mif_eqn hb) ?_
        refine RN.blk (ops := [(28, .aload_n 0), (29, .iload_n 2)]) (pc' := 30) (lv' := [(0, .inr (.inr u0)), (1, .inl v1), (2, .inl v2)]) (st' := [.inl v2, .inr (.inr u0)]) (h' := h) (cs := []) (by decide +kernel) rfl trivial ?_
        obtain ⟨hc, hF⟩ := gd_of hF
        obtain ⟨x2, h1, hG, hF⟩ := bd_of hF
        refine RN.cv (i := 37) (k := 37) (q2 := iX3_takeClause) (as := [.inr (.inr u0), .inl v2]) (r := []) (v := some (.inl x2)) (h1 := h1) (by decide +kernel) rfl rfl rfl rfl rfl (rcv_ok hc.1) (CX3_takeClause (d := d) hG) ?_
        rcases it_of hF with ⟨hb, hF⟩ | ⟨hb, hF⟩
        · refine RN.ift (cd := .eq) (off := 17) (tgt := 50) (by decide +kernel) (mif_eq hb) ?_
          refine RN.blk (ops := [(50, .iconst 0)]) (pc' := 51) (lv' := [(0, .inr (.inr u0)), (1, .inl v1), (2, .inl v2)]) (st' := [.inl 0]) (h' := h1) (cs := []) (by decide +kernel) rfl trivial ?_
          refine RN.blk (ops := [(51, .istore_n 1), (52, .iinc 2 1)]) (pc' := 55) (lv' := [(2, .inl (m_w32 (v2 + 1))), (1, .inl 0), (0, .inr (.inr u0))]) (st' := []) (h' := h1) (cs := []) (by decide +kernel) rfl trivial ?_
          refine RN.goto (off := -37) (tgt := 18) (by decide +kernel) ?_
          exact RN.sub (ih _ _ _ hF) (sub_cons rfl (sub_cons rfl (sub_cons rfl sub_nil)))
        · refine RN.iff (cd := .eq) (off := 17) (tgt := 50) (by decide +kernel) (mif_eqn hb) ?_
          obtain ⟨hc, hF⟩ := gd_of hF
          refine RN.blk (ops := [(36, .aload_n 0), (37, .getfield 25)]) (pc' := 40) (lv' := [(0, .inr (.inr u0)), (1, .inl v1), (2, .inl v2)]) (st' := [.inr (.inr (m_rd h1 u0 0))]) (h' := h1) (cs := [GK h1 u0 3]) (by decide +kernel) rfl hc ?_
          obtain ⟨hc, hF⟩ := gd_of hF
          obtain ⟨x4, h3, hG, hF⟩ := bd_of hF
          refine RN.cv (i := 41) (k := 97) (q2 := iX9_takeSemicolon) (as := [.inr (.inr (m_rd h1 u0 0))]) (r := []) (v := some (.inl x4)) (h1 := h3) (by decide +kernel) rfl rfl rfl rfl rfl (rcv_ok hc.1) (CX9_takeSemicolon (d := d + 6) hG) ?_
          rcases it_of hF with ⟨hb, hF⟩ | ⟨hb, hF⟩
          · refine RN.ift (cd := .eq) (off := 7) (tgt := 50) (by decide +kernel) (mif_eq hb) ?_
            refine RN.blk (ops := [(50, .iconst 0)]) (pc' := 51) (lv' := [(0, .inr (.inr u0)), (1, .inl v1), (2, .inl v2)]) (st' := [.inl 0]) (h' := h3) (cs := []) (by decide +kernel) rfl trivial ?_
            refine RN.blk (ops := [(51, .istore_n 1), (52, .iinc 2 1)]) (pc' := 55) (lv' := [(2, .inl (m_w32 (v2 + 1))), (1, .inl 0), (0, .inr (.inr u0))]) (st' := []) (h' := h3) (cs := []) (by decide +kernel) rfl trivial ?_
            refine RN.goto (off := -37) (tgt := 18) (by decide +kernel) ?_
            exact RN.sub (ih _ _ _ hF) (sub_cons rfl (sub_cons rfl (sub_cons rfl sub_nil)))
          · refine RN.iff (cd := .eq) (off := 7) (tgt := 50) (by decide +kernel) (mif_eqn hb) ?_
            refine RN.blk (ops := [(46, .iconst 1)]) (pc' := 47) (lv' := [(0, .inr (.inr u0)), (1, .inl v1), (2, .inl v2)]) (st' := [.inl 1]) (h' := h3) (cs := []) (by decide +kernel) rfl trivial ?_
            refine RN.goto (off := 4) (tgt := 51) (by decide +kernel) ?_
            refine RN.blk (ops := [(51, .istore_n 1), (52, .iinc 2 1)]) (pc' := 55) (lv' := [(2, .inl (m_w32 (v2 + 1))), (1, .inl 1), (0, .inr (.inr u0))]) (st' := []) (h' := h3) (cs := []) (by decide +kernel) rfl trivial ?_
            refine RN.goto (off := -37) (tgt := 18) (by decide +kernel) ?_
            exact RN.sub (ih _ _ _ hF) (sub_cons rfl (sub_cons rfl (sub_cons rfl sub_nil)))
noncomputable def FX3_parse (t : Int) (h : MH) : Option (Int × MH) :=
  gd [GK h t 3] (
   gd [GK h (m_rd h t 0) 9] (bv (FX9_rewind (m_rd h t 0) h) (fun h1 =>
    gd [GK h1 t 3] (
     gd [GK h1 (m_rd h1 t 2) 10] (bv (FX10_clear (m_rd h1 t 2) h1) (fun h2 =>
      FX3_parse_L18 t (fun h3 =>
       gd [GK h3 t 3, GK h3 (m_rd h3 t 0) 9] (
        some ((m_rd h3 (m_rd h3 t 0) 3), h3))) FU 1 0 h2))))))
theorem CX3_parse {d : Nat} {t : Int} {h : MH} {r : Int × MH} (hF : FX3_parse t h = some r) : RN xs L iX3_parse (d + 9) 0 (lvE 0 [.inr (.inr t)]) [] h (RIo r) := by
  unfold FX3_parse at hF
  obtain ⟨hc, hF⟩ := gd_of hF
  refine RN.blk (ops := [(0, .aload_n 0), (1, .getfield 25)]) (pc' := 4) (lv' := [(0, .inr (.inr t))]) (st' := [.inr (.inr (m_rd h t 0))]) (h' := h) (cs := [GK h t 3]) (by decide +kernel) rfl hc ?_
  obtain ⟨hc, hF⟩ := gd_of hF
  obtain ⟨h1, hG, hF⟩ := bv_of hF
  refine RN.cv (i := 29) (k := 90) (q2 := iX9_rewind) (as := [.inr (.inr (m_rd h t 0))]) (r := []) (v := none) (h1 := h1) (by decide +kernel) rfl rfl rfl rfl rfl (rcv_ok hc.1) (CX9_rewind (d := d + 8) hG) ?_
  obtain ⟨hc, hF⟩ := gd_of hF
  refine RN.blk (ops := [(7, .aload_n 0), (8, .getfield 21)]) (pc' := 11) (lv' := [(0, .inr (.inr t))]) (st' := [.inr (.inr (m_rd h1 t 2))]) (h' := h1) (cs := [GK h1 t 3]) (by decide +kernel) rfl hc ?_
  obtain ⟨hc, hF⟩ := gd_of hF
  obtain ⟨h2, hG, hF⟩ := bv_of hF
  refine RN.cv (i := 34) (k := 100) (q2 := iX10_clear) (as := [.inr (.inr (m_rd h1 t 2))]) (r := []) (v := none) (h1 := h2) (by decide +kernel) rfl rfl rfl rfl rfl (rcv_ok hc.1) (CX10_clear (d := d + 8) hG) ?_
  refine RN.blk (ops := [(14, .iconst 1), (15, .istore_n 1), (16, .iconst 0), (17, .istore_n 2)]) (pc' := 18) (lv' := [(2, .inl 0), (1, .inl 1), (0, .inr (.inr t))]) (st' := []) (h' := h2) (cs := []) (by decide +kernel) rfl trivial ?_
  refine RN.sub (CX3_parse_L18 ?_ _ _ _ _ hF) (sub_cons rfl (sub_cons rfl (sub_cons rfl sub_nil)))
  · intro h3 hF
    obtain ⟨hc, hF⟩ := gd_of hF
    refine RN.blk (ops := [(58, .aload_n 0), (59, .getfield 25), (62, .getfield 45)]) (pc' := 65) (lv' := [(0, .inr (.inr t))]) (st' := [.inl (m_rd h3 (m_rd h3 t 0) 3)]) (h' := h3) (cs := [GK h3 t 3, GK h3 (m_rd h3 t 0) 9]) (by decide +kernel) rfl hc ?_
    exact RN.iR (by decide +kernel) rfl hF
end Dc
