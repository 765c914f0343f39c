/-! METHODS AS FUNCTIONS, and their certificates (by program): X12_four, X12_feed, X12_end, X12_fails, X12_see, X12_isDigit, X12_isLetter, X12_isWord, X12_passWord, X12_takesWord, X12_numberHere, X12_wordHere, X12_puts, X12_makes, X12_opens, X12_strength, X12_layDown, X12_value, X12_term -/
section Dc
variable {xs : Int → Int} {L : Int}
noncomputable def FX12_four_L3 (u0 : Int) (u1 : Int) (K0 : MH → Option (MH)) : Nat → Int → MH → Option (MH)
  | 0, _, _ => none
  | f + 1, v2, h =>
    (if v2 < 0 then
     K0 h
    else
     gd [GK h u0 12, GK h u0 12, GB h (m_rd h u0 0) (m_rd h u0 1)] (
      hl (m_wr h (m_rd h u0 0) (m_rd h u0 1) (m_bst h (m_rd h u0 0) (m_i2b (m_shr u1 v2)))) (fun h1 =>
       gd [GK h1 u0 12, GK h1 u0 12] (
        FX12_four_L3 u0 u1 K0 f (m_w32 (v2 + (-8))) (m_wr h1 u0 1 (m_w32 ((m_rd h1 u0 1) + 1)))))))
theorem CX12_four_L3 {d : Nat} {u0 : Int} {u1 : Int} {K0 : MH → Option (MH)} {r : MH} (hK0 : ∀ (h : MH), K0 h = some r → RN xs L iX12_four (d) 36 [] [] h (RVo r)) : ∀ (f : Nat) (v2 : Int) (h : MH), FX12_four_L3 u0 u1 K0 f v2 h = some r → RN xs L iX12_four (d) 3 [(0, .inr (.inr u0)), (1, .inl u1), (2, .inl v2)] [] h (RVo r) := by
  intro f
  induction f with
  | zero =>
    intro v2 h hF
    cases hF
  | succ f ih =>
    intro v2 h hF
    unfold FX12_four_L3 at hF
    refine RN.blk (ops := [(3, .iload_n 2)]) (pc' := 4) (lv' := [(0, .inr (.inr u0)), (1, .inl u1), (2, .inl v2)]) (st' := [.inl v2]) (h' := h) (cs := []) (by decide +kernel) rfl trivial ?_
    rcases it_of hF with ⟨hb, hF⟩ | ⟨hb, hF⟩
    · refine RN.ift (cd := .lt) (off := 32) (tgt := 36) (by decide +kernel) (mif_lt hb) ?_
      exact RN.sub (hK0 _ hF) sub_nil
    · refine RN.iff (cd := .lt) (off := 32) (tgt := 36) (by decide +kernel) (mif_ltn hb) ?_
      obtain ⟨hc, hF⟩ := gd_of hF
      refine RN.blk (ops := [(7, .aload_n 0), (8, .getfield 7), (11, .aload_n 0), (12, .getfield 89), (15, .iload_n 1), (16, .iload_n 2), (17, .ishr), (18, .i2b), (19, .bastore)]) (pc' := 20) (lv' := [(0, .inr (.inr u0)), (1, .inl u1), (2, .inl v2)]) (st' := []) (h' := (m_wr h (m_rd h u0 0) (m_rd h u0 1) (m_bst h (m_rd h u0 0) (m_i2b (m_shr u1 v2))))) (cs := [GK h u0 12, GK h u0 12, GB h (m_rd h u0 0) (m_rd h u0 1)]) (by decide +kernel) rfl hc ?_
      obtain ⟨h1, he, hF⟩ := hl_of hF
      refine RN.hl he ?_
      obtain ⟨hc, hF⟩ := gd_of hF
      refine RN.blk (ops := [(20, .aload_n 0), (21, .dup), (22, .getfield 89), (25, .iconst 1), (26, .iadd), (27, .putfield 89), (30, .iinc 2 (-8))]) (pc' := 33) (lv' := [(2, .inl (m_w32 (v2 + (-8)))), (0, .inr (.inr u0)), (1, .inl u1)]) (st' := []) (h' := (m_wr h1 u0 1 (m_w32 ((m_rd h1 u0 1) + 1)))) (cs := [GK h1 u0 12, GK h1 u0 12]) (by decide +kernel) rfl hc ?_
      refine RN.goto (off := -30) (tgt := 3) (by decide +kernel) ?_
      exact RN.sub (ih _ _ hF) (sub_cons rfl (sub_cons rfl (sub_cons rfl sub_nil)))
noncomputable def FX12_four (t : Int) (a1 : Int) (h : MH) : Option (MH) :=
  FX12_four_L3 t a1 (fun h1 =>
   some h1) FU 24 h
theorem CX12_four {d : Nat} {t : Int} {a1 : Int} {h : MH} {r : MH} (hF : FX12_four t a1 h = some r) : RN xs L iX12_four (d) 0 (lvE 0 [.inr (.inr t), .inl a1]) [] h (RVo r) := by
  unfold FX12_four at hF
  refine RN.blk (ops := [(0, .bipush 24), (2, .istore_n 2)]) (pc' := 3) (lv' := [(2, .inl 24), (0, .inr (.inr t)), (1, .inl a1)]) (st' := []) (h' := h) (cs := []) (by decide +kernel) rfl trivial ?_
  refine RN.sub (CX12_four_L3 ?_ _ _ _ hF) (sub_cons rfl (sub_cons rfl (sub_cons rfl sub_nil)))
  · intro h1 hF
    exact RN.vR (by decide +kernel) rfl hF
noncomputable def FX12_feed (t : Int) (a1 : Int) (a2 : Int) (a3 : Int) (a4 : Int) (a5 : Int) (h : MH) : Option (Int × MH) :=
  gd [GK h t 12] (
   (if 400 < (m_w32 ((m_rd h t 1) + 20)) then
    some ((-1), h)
   else
    gd [GK h t 12] (bv (FX12_four t a1 h) (fun h1 =>
     gd [GK h1 t 12] (bv (FX12_four t a2 h1) (fun h2 =>
      gd [GK h2 t 12] (bv (FX12_four t a3 h2) (fun h3 =>
       gd [GK h3 t 12] (bv (FX12_four t a4 h3) (fun h4 =>
        gd [GK h4 t 12] (bv (FX12_four t a5 h4) (fun h5 =>
         gd [GK h5 t 12] (
          some ((m_rd h5 t 1), h5))))))))))))))
theorem CX12_feed {d : Nat} {t : Int} {a1 : Int} {a2 : Int} {a3 : Int} {a4 : Int} {a5 : Int} {h : MH} {r : Int × MH} (hF : FX12_feed t a1 a2 a3 a4 a5 h = some r) : RN xs L iX12_feed (d + 1) 0 (lvE 0 [.inr (.inr t), .inl a1, .inl a2, .inl a3, .inl a4, .inl a5]) [] h (RIo r) := by
  unfold FX12_feed at hF
  obtain ⟨hc, hF⟩ := gd_of hF
  refine RN.blk (ops := [(0, .aload_n 0), (1, .getfield 89), (4, .bipush 20), (6, .iadd), (7, .sipush 400)]) (pc' := 10) (lv' := [(0, .inr (.inr t)), (1, .inl a1), (2, .inl a2), (3, .inl a3), (4, .inl a4), (5, .inl a5)]) (st' := [.inl 400, .inl (m_w32 ((m_rd h t 1) + 20))]) (h' := h) (cs := [GK h t 12]) (by decide +kernel) rfl hc ?_
  rcases it_of hF with ⟨hb, hF⟩ | ⟨hb, hF⟩
  · refine RN.icf (cd := .le) (off := 5) (tgt := 15) (by decide +kernel) (mif_len hb) ?_
    refine RN.blk (ops := [(13, .iconst (-1))]) (pc' := 14) (lv' := [(0, .inr (.inr t)), (1, .inl a1), (2, .inl a2), (3, .inl a3), (4, .inl a4), (5, .inl a5)]) (st' := [.inl (-1)]) (h' := h) (cs := []) (by decide +kernel) rfl trivial ?_
    exact RN.iR (by decide +kernel) rfl hF
  · refine RN.ict (cd := .le) (off := 5) (tgt := 15) (by decide +kernel) (mif_le hb) ?_
    refine RN.blk (ops := [(15, .aload_n 0), (16, .iload_n 1)]) (pc' := 17) (lv' := [(0, .inr (.inr t)), (1, .inl a1), (2, .inl a2), (3, .inl a3), (4, .inl a4), (5, .inl a5)]) (st' := [.inl a1, .inr (.inr t)]) (h' := h) (cs := []) (by decide +kernel) rfl trivial ?_
    obtain ⟨hc, hF⟩ := gd_of hF
    obtain ⟨h1, hG, hF⟩ := bv_of hF
    refine RN.cv (i := 92) (k := 160) (q2 := iX12_four) (as := [.inr (.inr t), .inl a1]) (r := []) (v := none) (h1 := h1) (by decide +kernel) rfl rfl rfl rfl rfl (rcv_ok hc.1) (CX12_four (d := d) hG) ?_
    refine RN.blk (ops := [(20, .aload_n 0), (21, .iload_n 2)]) (pc' := 22) (lv' := [(0, .inr (.inr t)), (1, .inl a1), (2, .inl a2), (3, .inl a3), (4, .inl a4), (5, .inl a5)]) (st' := [.inl a2, .inr (.inr t)]) (h' := h1) (cs := []) (by decide +kernel) rfl trivial ?_
    obtain ⟨hc, hF⟩ := gd_of hF
    obtain ⟨h2, hG, hF⟩ := bv_of hF
    refine RN.cv (i := 92) (k := 160) (q2 := iX12_four) (as := [.inr (.inr t), .inl a2]) (r := []) (v := none) (h1 := h2) (by decide +kernel) rfl rfl rfl rfl rfl (rcv_ok hc.1) (CX12_four (d := d) hG) ?_
    refine RN.blk (ops := [(25, .aload_n 0), (26, .iload_n 3)]) (pc' := 27) (lv' := [(0, .inr (.inr t)), (1, .inl a1), (2, .inl a2), (3, .inl a3), (4, .inl a4), (5, .inl a5)]) (st' := [.inl a3, .inr (.inr t)]) (h' := h2) (cs := []) (by decide +kernel) rfl trivial ?_
    obtain ⟨hc, hF⟩ := gd_of hF
    obtain ⟨h3, hG, hF⟩ := bv_of hF
    refine RN.cv (i := 92) (k := 160) (q2 := iX12_four) (as := [.inr (.inr t), .inl a3]) (r := []) (v := none) (h1 := h3) (by decide +kernel) rfl rfl rfl rfl rfl (rcv_ok hc.1) (CX12_four (d := d) hG) ?_
    refine RN.blk (ops := [(30, .aload_n 0), (31, .iload 4)]) (pc' := 33) (lv' := [(0, .inr (.inr t)), (1, .inl a1), (2, .inl a2), (3, .inl a3), (4, .inl a4), (5, .inl a5)]) (st' := [.inl a4, .inr (.inr t)]) (h' := h3) (cs := []) (by decide +kernel) rfl trivial ?_
    obtain ⟨hc, hF⟩ := gd_of hF
    obtain ⟨h4, hG, hF⟩ := bv_of hF
    refine RN.cv (i := 92) (k := 160) (q2 := iX12_four) (as := [.inr (.inr t), .inl a4]) (r := []) (v := none) (h1 := h4) (by decide +kernel) rfl rfl rfl rfl rfl (rcv_ok hc.1) (CX12_four (d := d) hG) ?_
    refine RN.blk (ops := [(36, .aload_n 0), (37, .iload 5)]) (pc' := 39) (lv' := [(0, .inr (.inr t)), (1, .inl a1), (2, .inl a2), (3, .inl a3), (4, .inl a4), (5, .inl a5)]) (st' := [.inl a5, .inr (.inr t)]) (h' := h4) (cs := []) (by decide +kernel) rfl trivial ?_
    obtain ⟨hc, hF⟩ := gd_of hF
    obtain ⟨h5, hG, hF⟩ := bv_of hF
    refine RN.cv (i := 92) (k := 160) (q2 := iX12_four) (as := [.inr (.inr t), .inl a5]) (r := []) (v := none) (h1 := h5) (by decide +kernel) rfl rfl rfl rfl rfl (rcv_ok hc.1) (CX12_four (d := d) hG) ?_
    obtain ⟨hc, hF⟩ := gd_of hF
    refine RN.blk (ops := [(42, .aload_n 0), (43, .getfield 89)]) (pc' := 46) (lv' := [(0, .inr (.inr t)), (1, .inl a1), (2, .inl a2), (3, .inl a3), (4, .inl a4), (5, .inl a5)]) (st' := [.inl (m_rd h5 t 1)]) (h' := h5) (cs := [GK h5 t 12]) (by decide +kernel) rfl hc ?_
    exact RN.iR (by decide +kernel) rfl hF
noncomputable def FX12_end (t : Int) (a1 : Int) (h : MH) : Option (Int × MH) :=
  (if a1 < 0 then
   some ((-1), h)
  else
   gd [GK h t 12] (
    (if (m_rd h t 1) < a1 then
     some ((-1), h)
    else
     gd [GK h t 12] (
      some (a1, (m_wr h t 1 a1))))))
theorem CX12_end {d : Nat} {t : Int} {a1 : Int} {h : MH} {r : Int × MH} (hF : FX12_end t a1 h = some r) : RN xs L iX12_end (d) 0 (lvE 0 [.inr (.inr t), .inl a1]) [] h (RIo r) := by
  unfold FX12_end at hF
  refine RN.blk (ops := [(0, .iload_n 1)]) (pc' := 1) (lv' := [(0, .inr (.inr t)), (1, .inl a1)]) (st' := [.inl a1]) (h' := h) (cs := []) (by decide +kernel) rfl trivial ?_
  rcases it_of hF with ⟨hb, hF⟩ | ⟨hb, hF⟩
  · refine RN.ift (cd := .lt) (off := 11) (tgt := 12) (by decide +kernel) (mif_lt hb) ?_
    refine RN.blk (ops := [(12, .iconst (-1))]) (pc' := 13) (lv' := [(0, .inr (.inr t)), (1, .inl a1)]) (st' := [.inl (-1)]) (h' := h) (cs := []) (by decide +kernel) rfl trivial ?_
    exact RN.iR (by decide +kernel) rfl hF
  · refine RN.iff (cd := .lt) (off := 11) (tgt := 12) (by decide +kernel) (mif_ltn hb) ?_
    obtain ⟨hc, hF⟩ := gd_of hF
    refine RN.blk (ops := [(4, .iload_n 1), (5, .aload_n 0), (6, .getfield 89)]) (pc' := 9) (lv' := [(0, .inr (.inr t)), (1, .inl a1)]) (st' := [.inl (m_rd h t 1), .inl a1]) (h' := h) (cs := [GK h t 12]) (by decide +kernel) rfl hc ?_
    rcases it_of hF with ⟨hb, hF⟩ | ⟨hb, hF⟩
    · refine RN.icf (cd := .le) (off := 5) (tgt := 14) (by decide +kernel) (mif_len hb) ?_
      refine RN.blk (ops := [(12, .iconst (-1))]) (pc' := 13) (lv' := [(0, .inr (.inr t)), (1, .inl a1)]) (st' := [.inl (-1)]) (h' := h) (cs := []) (by decide +kernel) rfl trivial ?_
      exact RN.iR (by decide +kernel) rfl hF
    · refine RN.ict (cd := .le) (off := 5) (tgt := 14) (by decide +kernel) (mif_le hb) ?_
      obtain ⟨hc, hF⟩ := gd_of hF
      refine RN.blk (ops := [(14, .aload_n 0), (15, .iload_n 1), (16, .putfield 89), (19, .iload_n 1)]) (pc' := 20) (lv' := [(0, .inr (.inr t)), (1, .inl a1)]) (st' := [.inl a1]) (h' := (m_wr h t 1 a1)) (cs := [GK h t 12]) (by decide +kernel) rfl hc ?_
      exact RN.iR (by decide +kernel) rfl hF
noncomputable def FX12_fails (t : Int) (a1 : Int) (a2 : Int) (h : MH) : Option (Int × MH) :=
  gd [GK h t 12] (
   (if (m_rd h t 9) = 0 then
    gd [GK h t 12] (
     some (0, (m_wr h t 9 (m_w32 ((m_w32 (1 + (m_w32 (8 * a2)))) + a1)))))
   else
    some (0, h)))
theorem CX12_fails {d : Nat} {t : Int} {a1 : Int} {a2 : Int} {h : MH} {r : Int × MH} (hF : FX12_fails t a1 a2 h = some r) : RN xs L iX12_fails (d) 0 (lvE 0 [.inr (.inr t), .inl a1, .inl a2]) [] h (RIo r) := by
  unfold FX12_fails at hF
  obtain ⟨hc, hF⟩ := gd_of hF
  refine RN.blk (ops := [(0, .aload_n 0), (1, .getfield 96)]) (pc' := 4) (lv' := [(0, .inr (.inr t)), (1, .inl a1), (2, .inl a2)]) (st' := [.inl (m_rd h t 9)]) (h' := h) (cs := [GK h t 12]) (by decide +kernel) rfl hc ?_
  rcases it_of hF with ⟨hb, hF⟩ | ⟨hb, hF⟩
  · refine RN.iff (cd := .ne) (off := 15) (tgt := 19) (by decide +kernel) (mif_nen hb) ?_
    obtain ⟨hc, hF⟩ := gd_of hF
    refine RN.blk (ops := [(7, .aload_n 0), (8, .iconst 1), (9, .bipush 8), (11, .iload_n 2), (12, .imul), (13, .iadd), (14, .iload_n 1), (15, .iadd), (16, .putfield 96)]) (pc' := 19) (lv' := [(0, .inr (.inr t)), (1, .inl a1), (2, .inl a2)]) (st' := []) (h' := (m_wr h t 9 (m_w32 ((m_w32 (1 + (m_w32 (8 * a2)))) + a1)))) (cs := [GK h t 12]) (by decide +kernel) rfl hc ?_
    refine RN.blk (ops := [(19, .iconst 0)]) (pc' := 20) (lv' := [(0, .inr (.inr t)), (1, .inl a1), (2, .inl a2)]) (st' := [.inl 0]) (h' := (m_wr h t 9 (m_w32 ((m_w32 (1 + (m_w32 (8 * a2)))) + a1)))) (cs := []) (by decide +kernel) rfl trivial ?_
    exact RN.zR (by decide +kernel) rfl (Or.inl rfl) hF
  · refine RN.ift (cd := .ne) (off := 15) (tgt := 19) (by decide +kernel) (mif_ne hb) ?_
    refine RN.blk (ops := [(19, .iconst 0)]) (pc' := 20) (lv' := [(0, .inr (.inr t)), (1, .inl a1), (2, .inl a2)]) (st' := [.inl 0]) (h' := h) (cs := []) (by decide +kernel) rfl trivial ?_
    exact RN.zR (by decide +kernel) rfl (Or.inl rfl) hF
noncomputable def FX12_see_L0 (u0 : Int) (K0 : MH → Option (Int × MH)) : Nat → MH → Option (Int × MH)
  | 0, _ => none
  | f + 1, h =>
    gd [GK h u0 12, GK h u0 12] (
     (if (m_rd h u0 8) < (m_rd h u0 1) then
      gd [GK h u0 12, GK h u0 12, GB h (m_rd h u0 0) (m_rd h u0 8)] (
       (if (m_rd h (m_rd h u0 0) (m_rd h u0 8)) = 32 then
        gd [GK h u0 12, GK h u0 12] (
         FX12_see_L0 u0 K0 f (m_wr h u0 8 (m_w32 ((m_rd h u0 8) + 1))))
       else
        K0 h))
     else
      K0 h))
theorem CX12_see_L0 {d : Nat} {u0 : Int} {K0 : MH → Option (Int × MH)} {r : Int × MH} (hK0 : ∀ (h : MH), K0 h = some r → RN xs L iX12_see (d) 38 [(0, .inr (.inr u0))] [] h (RIo r)) : ∀ (f : Nat) (h : MH), FX12_see_L0 u0 K0 f  h = some r → RN xs L iX12_see (d) 0 [(0, .inr (.inr u0))] [] h (RIo r) := by
  intro f
  induction f with
  | zero =>
    intro h hF
    cases hF
  | succ f ih =>
    intro h hF
    unfold FX12_see_L0 at hF
    obtain ⟨hc, hF⟩ := gd_of hF
    refine RN.blk (ops := [(0, .aload_n 0), (1, .getfield 99), (4, .aload_n 0), (5, .getfield 89)]) (pc' := 8) (lv' := [(0, .inr (.inr u0))]) (st' := [.inl (m_rd h u0 1), .inl (m_rd h u0 8)]) (h' := h) (cs := [GK h u0 12, GK h u0 12]) (by decide +kernel) rfl hc ?_
    rcases it_of hF with ⟨hb, hF⟩ | ⟨hb, hF⟩
    · refine RN.icf (cd := .ge) (off := 30) (tgt := 38) (by decide +kernel) (mif_gen hb) ?_
      obtain ⟨hc, hF⟩ := gd_of hF
      refine RN.blk (ops := [(11, .aload_n 0), (12, .getfield 7), (15, .aload_n 0), (16, .getfield 99), (19, .baload), (20, .bipush 32)]) (pc' := 22) (lv' := [(0, .inr (.inr u0))]) (st' := [.inl 32, .inl (m_rd h (m_rd h u0 0) (m_rd h u0 8))]) (h' := h) (cs := [GK h u0 12, GK h u0 12, GB h (m_rd h u0 0) (m_rd h u0 8)]) (by decide +kernel) rfl hc ?_
      rcases it_of hF with ⟨hb, hF⟩ | ⟨hb, hF⟩
      · refine RN.icf (cd := .ne) (off := 16) (tgt := 38) (by decide +kernel) (mif_nen hb) ?_
        obtain ⟨hc, hF⟩ := gd_of hF
        refine RN.blk (ops := [(25, .aload_n 0), (26, .dup), (27, .getfield 99), (30, .iconst 1), (31, .iadd), (32, .putfield 99)]) (pc' := 35) (lv' := [(0, .inr (.inr u0))]) (st' := []) (h' := (m_wr h u0 8 (m_w32 ((m_rd h u0 8) + 1)))) (cs := [GK h u0 12, GK h u0 12]) (by decide +kernel) rfl hc ?_
        refine RN.goto (off := -35) (tgt := 0) (by decide +kernel) ?_
        exact RN.sub (ih _ hF) (sub_cons rfl sub_nil)
      · refine RN.ict (cd := .ne) (off := 16) (tgt := 38) (by decide +kernel) (mif_ne hb) ?_
        exact RN.sub (hK0 _ hF) (sub_cons rfl sub_nil)
    · refine RN.ict (cd := .ge) (off := 30) (tgt := 38) (by decide +kernel) (mif_ge hb) ?_
      exact RN.sub (hK0 _ hF) (sub_cons rfl sub_nil)
noncomputable def FX12_see (t : Int) (h : MH) : Option (Int × MH) :=
  FX12_see_L0 t (fun h1 =>
   gd [GK h1 t 12, GK h1 t 12] (
    (if (m_rd h1 t 8) < (m_rd h1 t 1) then
     gd [GK h1 t 12, GK h1 t 12, GB h1 (m_rd h1 t 0) (m_rd h1 t 8)] (
      some ((m_band (m_rd h1 (m_rd h1 t 0) (m_rd h1 t 8)) 255), h1))
    else
     some ((-1), h1)))) FU h
theorem CX12_see {d : Nat} {t : Int} {h : MH} {r : Int × MH} (hF : FX12_see t h = some r) : RN xs L iX12_see (d) 0 (lvE 0 [.inr (.inr t)]) [] h (RIo r) := by
  unfold FX12_see at hF
  refine RN.sub (CX12_see_L0 ?_ _ _ hF) (sub_cons rfl sub_nil)
  · intro h1 hF
    obtain ⟨hc, hF⟩ := gd_of hF
    refine RN.blk (ops := [(38, .aload_n 0), (39, .getfield 99), (42, .aload_n 0), (43, .getfield 89)]) (pc' := 46) (lv' := [(0, .inr (.inr t))]) (st' := [.inl (m_rd h1 t 1), .inl (m_rd h1 t 8)]) (h' := h1) (cs := [GK h1 t 12, GK h1 t 12]) (by decide +kernel) rfl hc ?_
    rcases it_of hF with ⟨hb, hF⟩ | ⟨hb, hF⟩
    · refine RN.icf (cd := .ge) (off := 19) (tgt := 65) (by decide +kernel) (mif_gen hb) ?_
      obtain ⟨hc, hF⟩ := gd_of hF
      refine RN.blk (ops := [(49, .aload_n 0), (50, .getfield 7), (53, .aload_n 0), (54, .getfield 99), (57, .baload), (58, .sipush 255), (61, .iand)]) (pc' := 62) (lv' := [(0, .inr (.inr t))]) (st' := [.inl (m_band (m_rd h1 (m_rd h1 t 0) (m_rd h1 t 8)) 255)]) (h' := h1) (cs := [GK h1 t 12, GK h1 t 12, GB h1 (m_rd h1 t 0) (m_rd h1 t 8)]) (by decide +kernel) rfl hc ?_
      refine RN.goto (off := 4) (tgt := 66) (by decide +kernel) ?_
      exact RN.iR (by decide +kernel) rfl hF
    · refine RN.ict (cd := .ge) (off := 19) (tgt := 65) (by decide +kernel) (mif_ge hb) ?_
      refine RN.blk (ops := [(65, .iconst (-1))]) (pc' := 66) (lv' := [(0, .inr (.inr t))]) (st' := [.inl (-1)]) (h' := h1) (cs := []) (by decide +kernel) rfl trivial ?_
      exact RN.iR (by decide +kernel) rfl hF
noncomputable def FX12_isDigit (t : Int) (a1 : Int) (h : MH) : Option (Int × MH) :=
  gd [GK h t 12] (
   (if a1 < (m_rd h t 1) then
    gd [GK h t 12, GB h (m_rd h t 0) a1] (
     (if (m_rd h (m_rd h t 0) a1) < 48 then
      some (0, h)
     else
      gd [GK h t 12, GB h (m_rd h t 0) a1] (
       (if 57 < (m_rd h (m_rd h t 0) a1) then
        some (0, h)
       else
        some (1, h)))))
   else
    some (0, h)))
theorem CX12_isDigit {d : Nat} {t : Int} {a1 : Int} {h : MH} {r : Int × MH} (hF : FX12_isDigit t a1 h = some r) : RN xs L iX12_isDigit (d) 0 (lvE 0 [.inr (.inr t), .inl a1]) [] h (RIo r) := by
  unfold FX12_isDigit at hF
  obtain ⟨hc, hF⟩ := gd_of hF
  refine RN.blk (ops := [(0, .iload_n 1), (1, .aload_n 0), (2, .getfield 89)]) (pc' := 5) (lv' := [(0, .inr (.inr t)), (1, .inl a1)]) (st' := [.inl (m_rd h t 1), .inl a1]) (h' := h) (cs := [GK h t 12]) (by decide +kernel) rfl hc ?_
  rcases it_of hF with ⟨hb, hF⟩ | ⟨hb, hF⟩
  · refine RN.icf (cd := .ge) (off := 29) (tgt := 34) (by decide +kernel) (mif_gen hb) ?_
    obtain ⟨hc, hF⟩ := gd_of hF
    refine RN.blk (ops := [(8, .aload_n 0), (9, .getfield 7), (12, .iload_n 1), (13, .baload), (14, .bipush 48)]) (pc' := 16) (lv' := [(0, .inr (.inr t)), (1, .inl a1)]) (st' := [.inl 48, .inl (m_rd h (m_rd h t 0) a1)]) (h' := h) (cs := [GK h t 12, GB h (m_rd h t 0) a1]) (by decide +kernel) rfl hc ?_
    rcases it_of hF with ⟨hb, hF⟩ | ⟨hb, hF⟩
    · refine RN.ict (cd := .lt) (off := 18) (tgt := 34) (by decide +kernel) (mif_lt hb) ?_
      refine RN.blk (ops := [(34, .iconst 0)]) (pc' := 35) (lv' := [(0, .inr (.inr t)), (1, .inl a1)]) (st' := [.inl 0]) (h' := h) (cs := []) (by decide +kernel) rfl trivial ?_
      exact RN.zR (by decide +kernel) rfl (Or.inl rfl) hF
    · refine RN.icf (cd := .lt) (off := 18) (tgt := 34) (by decide +kernel) (mif_ltn hb) ?_
      obtain ⟨hc, hF⟩ := gd_of hF
      refine RN.blk (ops := [(19, .aload_n 0), (20, .getfield 7), (23, .iload_n 1), (24, .baload), (25, .bipush 57)]) (pc' := 27) (lv' := [(0, .inr (.inr t)), (1, .inl a1)]) (st' := [.inl 57, .inl (m_rd h (m_rd h t 0) a1)]) (h' := h) (cs := [GK h t 12, GB h (m_rd h t 0) a1]) (by decide +kernel) rfl hc ?_
      rcases it_of hF with ⟨hb, hF⟩ | ⟨hb, hF⟩
      · refine RN.ict (cd := .gt) (off := 7) (tgt := 34) (by decide +kernel) (mif_gt hb) ?_
        refine RN.blk (ops := [(34, .iconst 0)]) (pc' := 35) (lv' := [(0, .inr (.inr t)), (1, .inl a1)]) (st' := [.inl 0]) (h' := h) (cs := []) (by decide +kernel) rfl trivial ?_
        exact RN.zR (by decide +kernel) rfl (Or.inl rfl) hF
      · refine RN.icf (cd := .gt) (off := 7) (tgt := 34) (by decide +kernel) (mif_gtn hb) ?_
        refine RN.blk (ops := [(30, .iconst 1)]) (pc' := 31) (lv' := [(0, .inr (.inr t)), (1, .inl a1)]) (st' := [.inl 1]) (h' := h) (cs := []) (by decide +kernel) rfl trivial ?_
        refine RN.goto (off := 4) (tgt := 35) (by decide +kernel) ?_
        exact RN.zR (by decide +kernel) rfl (Or.inr rfl) hF
  · refine RN.ict (cd := .ge) (off := 29) (tgt := 34) (by decide +kernel) (mif_ge hb) ?_
    refine RN.blk (ops := [(34, .iconst 0)]) (pc' := 35) (lv' := [(0, .inr (.inr t)), (1, .inl a1)]) (st' := [.inl 0]) (h' := h) (cs := []) (by decide +kernel) rfl trivial ?_
    exact RN.zR (by decide +kernel) rfl (Or.inl rfl) hF
noncomputable def FX12_isLetter (t : Int) (a1 : Int) (h : MH) : Option (Int × MH) :=
  gd [GK h t 12] (
   (if a1 < (m_rd h t 1) then
    gd [GK h t 12, GB h (m_rd h t 0) a1] (
     (if (m_rd h (m_rd h t 0) a1) < 97 then
      some (0, h)
     else
      gd [GK h t 12, GB h (m_rd h t 0) a1] (
       (if 122 < (m_rd h (m_rd h t 0) a1) then
        some (0, h)
       else
        some (1, h)))))
   else
    some (0, h)))
theorem CX12_isLetter {d : Nat} {t : Int} {a1 : Int} {h : MH} {r : Int × MH} (hF : FX12_isLetter t a1 h = some r) : RN xs L iX12_isLetter (d) 0 (lvE 0 [.inr (.inr t), .inl a1]) [] h (RIo r) := by
  unfold FX12_isLetter at hF
  obtain ⟨hc, hF⟩ := gd_of hF
  refine RN.blk (ops := [(0, .iload_n 1), (1, .aload_n 0), (2, .getfield 89)]) (pc' := 5) (lv' := [(0, .inr (.inr t)), (1, .inl a1)]) (st' := [.inl (m_rd h t 1), .inl a1]) (h' := h) (cs := [GK h t 12]) (by decide +kernel) rfl hc ?_
  rcases it_of hF with ⟨hb, hF⟩ | ⟨hb, hF⟩
  · refine RN.icf (cd := .ge) (off := 29) (tgt := 34) (by decide +kernel) (mif_gen hb) ?_
    obtain ⟨hc, hF⟩ := gd_of hF
    refine RN.blk (ops := [(8, .aload_n 0), (9, .getfield 7), (12, .iload_n 1), (13, .baload), (14, .bipush 97)]) (pc' := 16) (lv' := [(0, .inr (.inr t)), (1, .inl a1)]) (st' := [.inl 97, .inl (m_rd h (m_rd h t 0) a1)]) (h' := h) (cs := [GK h t 12, GB h (m_rd h t 0) a1]) (by decide +kernel) rfl hc ?_
    rcases it_of hF with ⟨hb, hF⟩ | ⟨hb, hF⟩
    · refine RN.ict (cd := .lt) (off := 18) (tgt := 34) (by decide +kernel) (mif_lt hb) ?_
      refine RN.blk (ops := [(34, .iconst 0)]) (pc' := 35) (lv' := [(0, .inr (.inr t)), (1, .inl a1)]) (st' := [.inl 0]) (h' := h) (cs := []) (by decide +kernel) rfl trivial ?_
      exact RN.zR (by decide +kernel) rfl (Or.inl rfl) hF
    · refine RN.icf (cd := .lt) (off := 18) (tgt := 34) (by decide +kernel) (mif_ltn hb) ?_
      obtain ⟨hc, hF⟩ := gd_of hF
      refine RN.blk (ops := [(19, .aload_n 0), (20, .getfield 7), (23, .iload_n 1), (24, .baload), (25, .bipush 122)]) (pc' := 27) (lv' := [(0, .inr (.inr t)), (1, .inl a1)]) (st' := [.inl 122, .inl (m_rd h (m_rd h t 0) a1)]) (h' := h) (cs := [GK h t 12, GB h (m_rd h t 0) a1]) (by decide +kernel) rfl hc ?_
      rcases it_of hF with ⟨hb, hF⟩ | ⟨hb, hF⟩
      · refine RN.ict (cd := .gt) (off := 7) (tgt := 34) (by decide +kernel) (mif_gt hb) ?_
        refine RN.blk (ops := [(34, .iconst 0)]) (pc' := 35) (lv' := [(0, .inr (.inr t)), (1, .inl a1)]) (st' := [.inl 0]) (h' := h) (cs := []) (by decide +kernel) rfl trivial ?_
        exact RN.zR (by decide +kernel) rfl (Or.inl rfl) hF
      · refine RN.icf (cd := .gt) (off := 7) (tgt := 34) (by decide +kernel) (mif_gtn hb) ?_
        refine RN.blk (ops := [(30, .iconst 1)]) (pc' := 31) (lv' := [(0, .inr (.inr t)), (1, .inl a1)]) (st' := [.inl 1]) (h' := h) (cs := []) (by decide +kernel) rfl trivial ?_
        refine RN.goto (off := 4) (tgt := 35) (by decide +kernel) ?_
        exact RN.zR (by decide +kernel) rfl (Or.inr rfl) hF
  · refine RN.ict (cd := .ge) (off := 29) (tgt := 34) (by decide +kernel) (mif_ge hb) ?_
    refine RN.blk (ops := [(34, .iconst 0)]) (pc' := 35) (lv' := [(0, .inr (.inr t)), (1, .inl a1)]) (st' := [.inl 0]) (h' := h) (cs := []) (by decide +kernel) rfl trivial ?_
    exact RN.zR (by decide +kernel) rfl (Or.inl rfl) hF
noncomputable def FX12_isWord_L10 (u0 : Int) (u1 : Int) (K0 : Int → Int → MH → Option (Int × MH)) : Nat → Int → Int → MH → Option (Int × MH)
  | 0, _, _, _ => none
  | f + 1, v3, v5, h =>
    gd [GK h u0 12] (
     gd [GK h u0 12] (bd (FX12_isLetter u0 (m_w32 ((m_rd h u0 8) + v5)) h) (fun x2 h1 =>
      (if x2 = 0 then
       K0 v3 v5 h1
      else
       (if v5 < 8 then
        gd [GK h1 u0 12, GK h1 u0 12, GB h1 (m_rd h1 u0 0) (m_w32 ((m_rd h1 u0 8) + v5))] (
         FX12_isWord_L10 u0 u1 K0 f (m_lor (m_lshl v3 8) (m_rd h1 (m_rd h1 u0 0) (m_w32 ((m_rd h1 u0 8) + v5)))) (m_w32 (v5 + 1)) h1)
       else
        FX12_isWord_L10 u0 u1 K0 f v3 (m_w32 (v5 + 1)) h1)))))
theorem CX12_isWord_L10 {d : Nat} {u0 : Int} {u1 : Int} {K0 : Int → Int → MH → Option (Int × MH)} {r : Int × MH} (hK0 : ∀ (w3 : Int) (w5 : Int) (h : MH), K0 w3 w5 h = some r → RN xs L iX12_isWord (d + 1) 56 [(1, .inr (.inl u1)), (3, .inr (.inl w3)), (5, .inl w5)] [] h (RIo r)) : ∀ (f : Nat) (v3 : Int) (v5 : Int) (h : MH), FX12_isWord_L10 u0 u1 K0 f v3 v5 h = some r → RN xs L iX12_isWord (d + 1) 10 [(0, .inr (.inr u0)), (1, .inr (.inl u1)), (3, .inr (.inl v3)), (5, .inl v5)] [] h (RIo r) := by
  intro f
  induction f with
  | zero =>
    intro v3 v5 h hF
    cases hF
  | succ f ih =>
    intro v3 v5 h hF
    unfold FX12_isWord_L10 at hF
    obtain ⟨hc, hF⟩ := gd_of hF
    refine RN.blk (ops := [(10, .aload_n 0), (11, .aload_n 0), (12, .getfield 99), (15, .iload 5), (17, .iadd)]) (pc' := 18) (lv' := [(0, .inr (.inr u0)), (1, .inr (.inl u1)), (3, .inr (.inl v3)), (5, .inl v5)]) (st' := [.inl (m_w32 ((m_rd h u0 8) + v5)), .inr (.inr u0)]) (h' := h) (cs := [GK h u0 12]) (by decide +kernel) rfl hc ?_
    obtain ⟨hc, hF⟩ := gd_of hF
    obtain ⟨x2, h1, hG, hF⟩ := bd_of hF
    refine RN.cv (i := 106) (k := 166) (q2 := iX12_isLetter) (as := [.inr (.inr u0), .inl (m_w32 ((m_rd h u0 8) + v5))]) (r := []) (v := some (.inl x2)) (h1 := h1) (by decide +kernel) rfl rfl rfl rfl rfl (rcv_ok hc.1) (CX12_isLetter (d := d) hG) ?_
    rcases it_of hF with ⟨hb, hF⟩ | ⟨hb, hF⟩
    · refine RN.ift (cd := .eq) (off := 35) (tgt := 56) (by decide +kernel) (mif_eq hb) ?_
      exact RN.sub (hK0 _ _ _ hF) (sub_cons rfl (sub_cons rfl (sub_cons rfl sub_nil)))
    · refine RN.iff (cd := .eq) (off := 35) (tgt := 56) (by decide +kernel) (mif_eqn hb) ?_
      refine RN.blk (ops := [(24, .iload 5), (26, .bipush 8)]) (pc' := 28) (lv' := [(0, .inr (.inr u0)), (1, .inr (.inl u1)), (3, .inr (.inl v3)), (5, .inl v5)]) (st' := [.inl 8, .inl v5]) (h' := h1) (cs := []) (by decide +kernel) rfl trivial ?_
      rcases it_of hF with ⟨hb, hF⟩ | ⟨hb, hF⟩
      · refine RN.icf (cd := .ge) (off := 22) (tgt := 50) (by decide +kernel) (mif_gen hb) ?_
        obtain ⟨hc, hF⟩ := gd_of hF
        refine RN.blk (ops := [(31, .lload_n 3), (32, .bipush 8), (34, .lshl), (35, .aload_n 0), (36, .getfield 7), (39, .aload_n 0), (40, .getfield 99), (43, .iload 5), (45, .iadd), (46, .baload), (47, .i2l), (48, .lor), (49, .lstore_n 3)]) (pc' := 50) (lv' := [(3, .inr (.inl (m_lor (m_lshl v3 8) (m_rd h1 (m_rd h1 u0 0) (m_w32 ((m_rd h1 u0 8) + v5)))))), (0, .inr (.inr u0)), (1, .inr (.inl u1)), (5, .inl v5)]) (st' := []) (h' := h1) (cs := [GK h1 u0 12, GK h1 u0 12, GB h1 (m_rd h1 u0 0) (m_w32 ((m_rd h1 u0 8) + v5))]) (by decide +kernel) rfl hc ?_
        refine RN.blk (ops := [(50, .iinc 5 1)]) (pc' := 53) (lv' := [(5, .inl (m_w32 (v5 + 1))), (3, .inr (.inl (m_lor (m_lshl v3 8) (m_rd h1 (m_rd h1 u0 0) (m_w32 ((m_rd h1 u0 8) + v5)))))), (0, .inr (.inr u0)), (1, .inr (.inl u1))]) (st' := []) (h' := h1) (cs := []) (by decide +kernel) rfl trivial ?_
        refine RN.goto (off := -43) (tgt := 10) (by decide +kernel) ?_
        exact RN.sub (ih _ _ _ hF) (sub_cons rfl (sub_cons rfl (sub_cons rfl (sub_cons rfl sub_nil))))
      · refine RN.ict (cd := .ge) (off := 22) (tgt := 50) (by decide +kernel) (mif_ge hb) ?_
        refine RN.blk (ops := [(50, .iinc 5 1)]) (pc' := 53) (lv' := [(5, .inl (m_w32 (v5 + 1))), (0, .inr (.inr u0)), (1, .inr (.inl u1)), (3, .inr (.inl v3))]) (st' := []) (h' := h1) (cs := []) (by decide +kernel) rfl trivial ?_
        refine RN.goto (off := -43) (tgt := 10) (by decide +kernel) ?_
        exact RN.sub (ih _ _ _ hF) (sub_cons rfl (sub_cons rfl (sub_cons rfl (sub_cons rfl sub_nil))))
noncomputable def FX12_isWord (t : Int) (a1 : Int) (h : MH) : Option (Int × MH) :=
  gd [GK h t 12] (bd (FX12_see t h) (fun x2 h1 =>
   FX12_isWord_L10 t a1 (fun w3 w4 h5 =>
    (if 0 < w4 then
     (if w4 < 8 then
      (if (m_lcmp w3 a1) = 0 then
       some (1, h5)
      else
       some (0, h5))
     else
      some (0, h5))
    else
     some (0, h5))) FU 0 0 h1))
theorem CX12_isWord {d : Nat} {t : Int} {a1 : Int} {h : MH} {r : Int × MH} (hF : FX12_isWord t a1 h = some r) : RN xs L iX12_isWord (d + 1) 0 (lvE 0 [.inr (.inr t), .inr (.inl a1)]) [] h (RIo r) := by
  unfold FX12_isWord at hF
  refine RN.blk (ops := [(0, .aload_n 0)]) (pc' := 1) (lv' := [(0, .inr (.inr t)), (1, .inr (.inl a1))]) (st' := [.inr (.inr t)]) (h' := h) (cs := []) (by decide +kernel) rfl trivial ?_
  obtain ⟨hc, hF⟩ := gd_of hF
  obtain ⟨x2, h1, hG, hF⟩ := bd_of hF
  refine RN.cv (i := 102) (k := 164) (q2 := iX12_see) (as := [.inr (.inr t)]) (r := []) (v := some (.inl x2)) (h1 := h1) (by decide +kernel) rfl rfl rfl rfl rfl (rcv_ok hc.1) (CX12_see (d := d) hG) ?_
  refine RN.blk (ops := [(4, .pop), (5, .lconst 0), (6, .lstore_n 3), (7, .iconst 0), (8, .istore 5)]) (pc' := 10) (lv' := [(5, .inl 0), (3, .inr (.inl 0)), (0, .inr (.inr t)), (1, .inr (.inl a1))]) (st' := []) (h' := h1) (cs := []) (by decide +kernel) rfl trivial ?_
  refine RN.sub (CX12_isWord_L10 ?_ _ _ _ _ hF) (sub_cons rfl (sub_cons rfl (sub_cons rfl (sub_cons rfl sub_nil))))
  · intro w3 w4 h5 hF
    refine RN.blk (ops := [(56, .iload 5)]) (pc' := 58) (lv' := [(1, .inr (.inl a1)), (3, .inr (.inl w3)), (5, .inl w4)]) (st' := [.inl w4]) (h' := h5) (cs := []) (by decide +kernel) rfl trivial ?_
    rcases it_of hF with ⟨hb, hF⟩ | ⟨hb, hF⟩
    · refine RN.iff (cd := .le) (off := 20) (tgt := 78) (by decide +kernel) (mif_len hb) ?_
      refine RN.blk (ops := [(61, .iload 5), (63, .bipush 8)]) (pc' := 65) (lv' := [(1, .inr (.inl a1)), (3, .inr (.inl w3)), (5, .inl w4)]) (st' := [.inl 8, .inl w4]) (h' := h5) (cs := []) (by decide +kernel) rfl trivial ?_
      rcases it_of hF with ⟨hb, hF⟩ | ⟨hb, hF⟩
      · refine RN.icf (cd := .ge) (off := 13) (tgt := 78) (by decide +kernel) (mif_gen hb) ?_
        refine RN.blk (ops := [(68, .lload_n 3), (69, .lload_n 1), (70, .lcmp)]) (pc' := 71) (lv' := [(1, .inr (.inl a1)), (3, .inr (.inl w3)), (5, .inl w4)]) (st' := [.inl (m_lcmp w3 a1)]) (h' := h5) (cs := []) (by decide +kernel) rfl trivial ?_
        rcases it_of hF with ⟨hb, hF⟩ | ⟨hb, hF⟩
        · refine RN.iff (cd := .ne) (off := 7) (tgt := 78) (by decide +kernel) (mif_nen hb) ?_
          refine RN.blk (ops := [(74, .iconst 1)]) (pc' := 75) (lv' := [(1, .inr (.inl a1)), (3, .inr (.inl w3)), (5, .inl w4)]) (st' := [.inl 1]) (h' := h5) (cs := []) (by decide +kernel) rfl trivial ?_
          refine RN.goto (off := 4) (tgt := 79) (by decide +kernel) ?_
          exact RN.zR (by decide +kernel) rfl (Or.inr rfl) hF
        · refine RN.ift (cd := .ne) (off := 7) (tgt := 78) (by decide +kernel) (mif_ne hb) ?_
          refine RN.blk (ops := [(78, .iconst 0)]) (pc' := 79) (lv' := [(1, .inr (.inl a1)), (3, .inr (.inl w3)), (5, .inl w4)]) (st' := [.inl 0]) (h' := h5) (cs := []) (by decide +kernel) rfl trivial ?_
          exact RN.zR (by decide +kernel) rfl (Or.inl rfl) hF
      · refine RN.ict (cd := .ge) (off := 13) (tgt := 78) (by decide +kernel) (mif_ge hb) ?_
        refine RN.blk (ops := [(78, .iconst 0)]) (pc' := 79) (lv' := [(1, .inr (.inl a1)), (3, .inr (.inl w3)), (5, .inl w4)]) (st' := [.inl 0]) (h' := h5) (cs := []) (by decide +kernel) rfl trivial ?_
        exact RN.zR (by decide +kernel) rfl (Or.inl rfl) hF
    · refine RN.ift (cd := .le) (off := 20) (tgt := 78) (by decide +kernel) (mif_le hb) ?_
      refine RN.blk (ops := [(78, .iconst 0)]) (pc' := 79) (lv' := [(1, .inr (.inl a1)), (3, .inr (.inl w3)), (5, .inl w4)]) (st' := [.inl 0]) (h' := h5) (cs := []) (by decide +kernel) rfl trivial ?_
      exact RN.zR (by decide +kernel) rfl (Or.inl rfl) hF
noncomputable def FX12_passWord_L0 (u0 : Int) (K0 : MH → Option (MH)) : Nat → MH → Option (MH)
  | 0, _ => none
  | f + 1, h =>
    gd [GK h u0 12] (
     gd [GK h u0 12] (bd (FX12_isLetter u0 (m_rd h u0 8) h) (fun x2 h1 =>
      (if x2 = 0 then
       K0 h1
      else
       gd [GK h1 u0 12, GK h1 u0 12] (
        FX12_passWord_L0 u0 K0 f (m_wr h1 u0 8 (m_w32 ((m_rd h1 u0 8) + 1))))))))
theorem CX12_passWord_L0 {d : Nat} {u0 : Int} {K0 : MH → Option (MH)} {r : MH} (hK0 : ∀ (h : MH), K0 h = some r → RN xs L iX12_passWord (d + 1) 24 [] [] h (RVo r)) : ∀ (f : Nat) (h : MH), FX12_passWord_L0 u0 K0 f  h = some r → RN xs L iX12_passWord (d + 1) 0 [(0, .inr (.inr u0))] [] h (RVo r) := by
  intro f
  induction f with
  | zero =>
    intro h hF
    cases hF
  | succ f ih =>
    intro h hF
    unfold FX12_passWord_L0 at hF
    obtain ⟨hc, hF⟩ := gd_of hF
    refine RN.blk (ops := [(0, .aload_n 0), (1, .aload_n 0), (2, .getfield 99)]) (pc' := 5) (lv' := [(0, .inr (.inr u0))]) (st' := [.inl (m_rd h u0 8), .inr (.inr u0)]) (h' := h) (cs := [GK h u0 12]) (by decide +kernel) rfl hc ?_
    obtain ⟨hc, hF⟩ := gd_of hF
    obtain ⟨x2, h1, hG, hF⟩ := bd_of hF
    refine RN.cv (i := 106) (k := 166) (q2 := iX12_isLetter) (as := [.inr (.inr u0), .inl (m_rd h u0 8)]) (r := []) (v := some (.inl x2)) (h1 := h1) (by decide +kernel) rfl rfl rfl rfl rfl (rcv_ok hc.1) (CX12_isLetter (d := d) hG) ?_
    rcases it_of hF with ⟨hb, hF⟩ | ⟨hb, hF⟩
    · refine RN.ift (cd := .eq) (off := 16) (tgt := 24) (by decide +kernel) (mif_eq hb) ?_
      exact RN.sub (hK0 _ hF) sub_nil
    · refine RN.iff (cd := .eq) (off := 16) (tgt := 24) (by decide +kernel) (mif_eqn hb) ?_
      obtain ⟨hc, hF⟩ := gd_of hF
      refine RN.blk (ops := [(11, .aload_n 0), (12, .dup), (13, .getfield 99), (16, .iconst 1), (17, .iadd), (18, .putfield 99)]) (pc' := 21) (lv' := [(0, .inr (.inr u0))]) (st' := []) (h' := (m_wr h1 u0 8 (m_w32 ((m_rd h1 u0 8) + 1)))) (cs := [GK h1 u0 12, GK h1 u0 12]) (by decide +kernel) rfl hc ?_
      refine RN.goto (off := -21) (tgt := 0) (by decide +kernel) ?_
      exact RN.sub (ih _ hF) (sub_cons rfl sub_nil)
noncomputable def FX12_passWord (t : Int) (h : MH) : Option (MH) :=
  FX12_passWord_L0 t (fun h1 =>
   some h1) FU h
theorem CX12_passWord {d : Nat} {t : Int} {h : MH} {r : MH} (hF : FX12_passWord t h = some r) : RN xs L iX12_passWord (d + 1) 0 (lvE 0 [.inr (.inr t)]) [] h (RVo r) := by
  unfold FX12_passWord at hF
  refine RN.sub (CX12_passWord_L0 ?_ _ _ hF) (sub_cons rfl sub_nil)
  · intro h1 hF
    exact RN.vR (by decide +kernel) rfl hF
noncomputable def FX12_takesWord (t : Int) (a1 : Int) (h : MH) : Option (Int × MH) :=
  gd [GK h t 12] (bd (FX12_isWord t a1 h) (fun x2 h1 =>
   (if x2 = 0 then
    some (0, h1)
   else
    gd [GK h1 t 12] (bv (FX12_passWord t h1) (fun h3 =>
     some (1, h3))))))
theorem CX12_takesWord {d : Nat} {t : Int} {a1 : Int} {h : MH} {r : Int × MH} (hF : FX12_takesWord t a1 h = some r) : RN xs L iX12_takesWord (d + 2) 0 (lvE 0 [.inr (.inr t), .inr (.inl a1)]) [] h (RIo r) := by
  unfold FX12_takesWord at hF
  refine RN.blk (ops := [(0, .aload_n 0), (1, .lload_n 1)]) (pc' := 2) (lv' := [(0, .inr (.inr t)), (1, .inr (.inl a1))]) (st' := [.inr (.inl a1), .inr (.inr t)]) (h' := h) (cs := []) (by decide +kernel) rfl trivial ?_
  obtain ⟨hc, hF⟩ := gd_of hF
  obtain ⟨x2, h1, hG, hF⟩ := bd_of hF
  refine RN.cv (i := 110) (k := 167) (q2 := iX12_isWord) (as := [.inr (.inr t), .inr (.inl a1)]) (r := []) (v := some (.inl x2)) (h1 := h1) (by decide +kernel) rfl rfl rfl rfl rfl (rcv_ok hc.1) (CX12_isWord (d := d) hG) ?_
  rcases it_of hF with ⟨hb, hF⟩ | ⟨hb, hF⟩
  · refine RN.iff (cd := .ne) (off := 5) (tgt := 10) (by decide +kernel) (mif_nen hb) ?_
    refine RN.blk (ops := [(8, .iconst 0)]) (pc' := 9) (lv' := [(0, .inr (.inr t)), (1, .inr (.inl a1))]) (st' := [.inl 0]) (h' := h1) (cs := []) (by decide +kernel) rfl trivial ?_
    exact RN.zR (by decide +kernel) rfl (Or.inl rfl) hF
  · refine RN.ift (cd := .ne) (off := 5) (tgt := 10) (by decide +kernel) (mif_ne hb) ?_
    refine RN.blk (ops := [(10, .aload_n 0)]) (pc' := 11) (lv' := [(0, .inr (.inr t)), (1, .inr (.inl a1))]) (st' := [.inr (.inr t)]) (h' := h1) (cs := []) (by decide +kernel) rfl trivial ?_
    obtain ⟨hc, hF⟩ := gd_of hF
    obtain ⟨h3, hG, hF⟩ := bv_of hF
    refine RN.cv (i := 114) (k := 168) (q2 := iX12_passWord) (as := [.inr (.inr t)]) (r := []) (v := none) (h1 := h3) (by decide +kernel) rfl rfl rfl rfl rfl (rcv_ok hc.1) (CX12_passWord (d := d) hG) ?_
    refine RN.blk (ops := [(14, .iconst 1)]) (pc' := 15) (lv' := [(0, .inr (.inr t)), (1, .inr (.inl a1))]) (st' := [.inl 1]) (h' := h3) (cs := []) (by decide +kernel) rfl trivial ?_
    exact RN.zR (by decide +kernel) rfl (Or.inr rfl) hF
noncomputable def FX12_numberHere_L34 (u0 : Int) (u1 : Int) (u2 : Int) (u3 : Int) (K0 : Int → MH → Option (Int × MH)) : Nat → Int → MH → Option (Int × MH)
  | 0, _, _ => none
  | f + 1, v4, h =>
    gd [GK h u0 12] (
     gd [GK h u0 12] (bd (FX12_isDigit u0 (m_rd h u0 8) h) (fun x2 h1 =>
      (if x2 = 0 then
       K0 v4 h1
      else
       gd [GK h1 u0 12] (
        (if (m_w32 ((m_rd h1 u0 8) - u3)) < 5 then
         gd [GK h1 u0 12, GK h1 u0 12, GB h1 (m_rd h1 u0 0) (m_rd h1 u0 8)] (
          gd [GK h1 u0 12, GK h1 u0 12] (
           FX12_numberHere_L34 u0 u1 u2 u3 K0 f (m_w32 ((m_w32 ((m_w32 (10 * v4)) + (m_rd h1 (m_rd h1 u0 0) (m_rd h1 u0 8)))) - 48)) (m_wr h1 u0 8 (m_w32 ((m_rd h1 u0 8) + 1)))))
        else
         gd [GK h1 u0 12, GK h1 u0 12] (
          FX12_numberHere_L34 u0 u1 u2 u3 K0 f v4 (m_wr h1 u0 8 (m_w32 ((m_rd h1 u0 8) + 1))))))))))
theorem CX12_numberHere_L34 {d : Nat} {u0 : Int} {u1 : Int} {u2 : Int} {u3 : Int} {K0 : Int → MH → Option (Int × MH)} {r : Int × MH} (hK0 : ∀ (w4 : Int) (h : MH), K0 w4 h = some r → RN xs L iX12_numberHere (d + 1) 88 [(0, .inr (.inr u0)), (1, .inl u1), (2, .inl u2), (3, .inl u3), (4, .inl w4)] [] h (RIo r)) : ∀ (f : Nat) (v4 : Int) (h : MH), FX12_numberHere_L34 u0 u1 u2 u3 K0 f v4 h = some r → RN xs L iX12_numberHere (d + 1) 34 [(0, .inr (.inr u0)), (1, .inl u1), (2, .inl u2), (3, .inl u3), (4, .inl v4)] [] h (RIo r) := by
  intro f
  induction f with
  | zero =>
    intro v4 h hF
    cases hF
  | succ f ih =>
    intro v4 h hF
    unfold FX12_numberHere_L34 at hF
    obtain ⟨hc, hF⟩ := gd_of hF
    refine RN.blk (ops := [(34, .aload_n 0), (35, .aload_n 0), (36, .getfield 99)]) (pc' := 39) (lv' := [(0, .inr (.inr u0)), (1, .inl u1), (2, .inl u2), (3, .inl u3), (4, .inl v4)]) (st' := [.inl (m_rd h u0 8), .inr (.inr u0)]) (h' := h) (cs := [GK h u0 12]) (by decide +kernel) rfl hc ?_
    obtain ⟨hc, hF⟩ := gd_of hF
    obtain ⟨x2, h1, hG, hF⟩ := bd_of hF
    refine RN.cv (i := 117) (k := 165) (q2 := iX12_isDigit) (as := [.inr (.inr u0), .inl (m_rd h u0 8)]) (r := []) (v := some (.inl x2)) (h1 := h1) (by decide +kernel) rfl rfl rfl rfl rfl (rcv_ok hc.1) (CX12_isDigit (d := d) hG) ?_
    rcases it_of hF with ⟨hb, hF⟩ | ⟨hb, hF⟩
    · refine RN.ift (cd := .eq) (off := 46) (tgt := 88) (by decide +kernel) (mif_eq hb) ?_
      exact RN.sub (hK0 _ _ hF) (sub_cons rfl (sub_cons rfl (sub_cons rfl (sub_cons rfl (sub_cons rfl sub_nil)))))
    · refine RN.iff (cd := .eq) (off := 46) (tgt := 88) (by decide +kernel) (mif_eqn hb) ?_
      obtain ⟨hc, hF⟩ := gd_of hF
      refine RN.blk (ops := [(45, .aload_n 0), (46, .getfield 99), (49, .iload_n 3), (50, .isub), (51, .iconst 5)]) (pc' := 52) (lv' := [(0, .inr (.inr u0)), (1, .inl u1), (2, .inl u2), (3, .inl u3), (4, .inl v4)]) (st' := [.inl 5, .inl (m_w32 ((m_rd h1 u0 8) - u3))]) (h' := h1) (cs := [GK h1 u0 12]) (by decide +kernel) rfl hc ?_
      rcases it_of hF with ⟨hb, hF⟩ | ⟨hb, hF⟩
      · refine RN.icf (cd := .ge) (off := 23) (tgt := 75) (by decide +kernel) (mif_gen hb) ?_
        obtain ⟨hc, hF⟩ := gd_of hF
        refine RN.blk (ops := [(55, .bipush 10), (57, .iload 4), (59, .imul), (60, .aload_n 0), (61, .getfield 7), (64, .aload_n 0), (65, .getfield 99), (68, .baload), (69, .iadd), (70, .bipush 48), (72, .isub), (73, .istore 4)]) (pc' := 75) (lv' := [(4, .inl (m_w32 ((m_w32 ((m_w32 (10 * v4)) + (m_rd h1 (m_rd h1 u0 0) (m_rd h1 u0 8)))) - 48))), (0, .inr (.inr u0)), (1, .inl u1), (2, .inl u2), (3, .inl u3)]) (st' := []) (h' := h1) (cs := [GK h1 u0 12, GK h1 u0 12, GB h1 (m_rd h1 u0 0) (m_rd h1 u0 8)]) (by decide +kernel) rfl hc ?_
        obtain ⟨hc, hF⟩ := gd_of hF
        refine RN.blk (ops := [(75, .aload_n 0), (76, .dup), (77, .getfield 99), (80, .iconst 1), (81, .iadd), (82, .putfield 99)]) (pc' := 85) (lv' := [(4, .inl (m_w32 ((m_w32 ((m_w32 (10 * v4)) + (m_rd h1 (m_rd h1 u0 0) (m_rd h1 u0 8)))) - 48))), (0, .inr (.inr u0)), (1, .inl u1), (2, .inl u2), (3, .inl u3)]) (st' := []) (h' := (m_wr h1 u0 8 (m_w32 ((m_rd h1 u0 8) + 1)))) (cs := [GK h1 u0 12, GK h1 u0 12]) (by decide +kernel) rfl hc ?_
        refine RN.goto (off := -51) (tgt := 34) (by decide +kernel) ?_
        exact RN.sub (ih _ _ hF) (sub_cons rfl (sub_cons rfl (sub_cons rfl (sub_cons rfl (sub_cons rfl sub_nil)))))
      · refine RN.ict (cd := .ge) (off := 23) (tgt := 75) (by decide +kernel) (mif_ge hb) ?_
        obtain ⟨hc, hF⟩ := gd_of hF
        refine RN.blk (ops := [(75, .aload_n 0), (76, .dup), (77, .getfield 99), (80, .iconst 1), (81, .iadd), (82, .putfield 99)]) (pc' := 85) (lv' := [(0, .inr (.inr u0)), (1, .inl u1), (2, .inl u2), (3, .inl u3), (4, .inl v4)]) (st' := []) (h' := (m_wr h1 u0 8 (m_w32 ((m_rd h1 u0 8) + 1)))) (cs := [GK h1 u0 12, GK h1 u0 12]) (by decide +kernel) rfl hc ?_
        refine RN.goto (off := -51) (tgt := 34) (by decide +kernel) ?_
        exact RN.sub (ih _ _ hF) (sub_cons rfl (sub_cons rfl (sub_cons rfl (sub_cons rfl (sub_cons rfl sub_nil)))))
noncomputable def FX12_numberHere (t : Int) (a1 : Int) (a2 : Int) (h : MH) : Option (Int × MH) :=
  gd [GK h t 12] (bd (FX12_see t h) (fun x2 h1 =>
   gd [GK h1 t 12] (
    gd [GK h1 t 12] (bd (FX12_isDigit t (m_rd h1 t 8) h1) (fun x4 h3 =>
     (if x4 = 0 then
      gd [GK h3 t 12] (
       gd [GK h3 t 12] (bd (FX12_fails t 0 (m_rd h3 t 8) h3) (fun x14 h13 =>
        gd [GT x14] (some (x14, h13)))))
     else
      gd [GK h3 t 12] (
       FX12_numberHere_L34 t a1 a2 (m_rd h3 t 8) (fun w5 h6 =>
        gd [GK h6 t 12, GK h6 t 12] (
         jn (fun (h8 : MH) =>
          gd [GK h8 t 12] (bd (FX12_fails t 1 (m_rd h3 t 8) h8) (fun x10 h9 =>
           (if x10 = 0 then
            some (0, h9)
           else
            some (1, h9))))) (fun j7 =>
          (if 5 < (m_w32 ((m_rd (m_wr h6 t 10 w5) t 8) - (m_rd h3 t 8))) then
           j7 (m_wr h6 t 10 w5)
          else
           (bd (FX12_in w5 a1 a2 (m_wr h6 t 10 w5)) (fun x12 h11 =>
            (if x12 = 0 then
             j7 h11
            else
             some (1, h11)))))))) FU 0 h3)))))))
theorem CX12_numberHere {d : Nat} {t : Int} {a1 : Int} {a2 : Int} {h : MH} {r : Int × MH} (hF : FX12_numberHere t a1 a2 h = some r) : RN xs L iX12_numberHere (d + 1) 0 (lvE 0 [.inr (.inr t), .inl a1, .inl a2]) [] h (RIo r) := by
  unfold FX12_numberHere at hF
  refine RN.blk (ops := [(0, .aload_n 0)]) (pc' := 1) (lv' := [(0, .inr (.inr t)), (1, .inl a1), (2, .inl a2)]) (st' := [.inr (.inr t)]) (h' := h) (cs := []) (by decide +kernel) rfl trivial ?_
  obtain ⟨hc, hF⟩ := gd_of hF
  obtain ⟨x2, h1, hG, hF⟩ := bd_of hF
  refine RN.cv (i := 102) (k := 164) (q2 := iX12_see) (as := [.inr (.inr t)]) (r := []) (v := some (.inl x2)) (h1 := h1) (by decide +kernel) rfl rfl rfl rfl rfl (rcv_ok hc.1) (CX12_see (d := d) hG) ?_
  obtain ⟨hc, hF⟩ := gd_of hF
  refine RN.blk (ops := [(4, .pop), (5, .aload_n 0), (6, .aload_n 0), (7, .getfield 99)]) (pc' := 10) (lv' := [(0, .inr (.inr t)), (1, .inl a1), (2, .inl a2)]) (st' := [.inl (m_rd h1 t 8), .inr (.inr t)]) (h' := h1) (cs := [GK h1 t 12]) (by decide +kernel) rfl hc ?_
  obtain ⟨hc, hF⟩ := gd_of hF
  obtain ⟨x4, h3, hG, hF⟩ := bd_of hF
  refine RN.cv (i := 117) (k := 165) (q2 := iX12_isDigit) (as := [.inr (.inr t), .inl (m_rd h1 t 8)]) (r := []) (v := some (.inl x4)) (h1 := h3) (by decide +kernel) rfl rfl rfl rfl rfl (rcv_ok hc.1) (CX12_isDigit (d := d) hG) ?_
  rcases it_of hF with ⟨hb, hF⟩ | ⟨hb, hF⟩
  · refine RN.iff (cd := .ne) (off := 13) (tgt := 26) (by decide +kernel) (mif_nen hb) ?_
    obtain ⟨hc, hF⟩ := gd_of hF
    refine RN.blk (ops := [(16, .aload_n 0), (17, .iconst 0), (18, .aload_n 0), (19, .getfield 99)]) (pc' := 22) (lv' := [(0, .inr (.inr t)), (1, .inl a1), (2, .inl a2)]) (st' := [.inl (m_rd h3 t 8), .inl 0, .inr (.inr t)]) (h' := h3) (cs := [GK h3 t 12]) (by decide +kernel) rfl hc ?_
    obtain ⟨hc, hF⟩ := gd_of hF
    obtain ⟨x14, h13, hG, hF⟩ := bd_of hF
    refine RN.cv (i := 120) (k := 163) (q2 := iX12_fails) (as := [.inr (.inr t), .inl 0, .inl (m_rd h3 t 8)]) (r := []) (v := some (.inl x14)) (h1 := h13) (by decide +kernel) rfl rfl rfl rfl rfl (rcv_ok hc.1) (CX12_fails (d := d) hG) ?_
    obtain ⟨hc, hF⟩ := gd_of hF
    exact RN.zR (by decide +kernel) rfl hc.1 hF
  · refine RN.ift (cd := .ne) (off := 13) (tgt := 26) (by decide +kernel) (mif_ne hb) ?_
    obtain ⟨hc, hF⟩ := gd_of hF
    refine RN.blk (ops := [(26, .aload_n 0), (27, .getfield 99), (30, .istore_n 3), (31, .iconst 0), (32, .istore 4)]) (pc' := 34) (lv' := [(4, .inl 0), (3, .inl (m_rd h3 t 8)), (0, .inr (.inr t)), (1, .inl a1), (2, .inl a2)]) (st' := []) (h' := h3) (cs := [GK h3 t 12]) (by decide +kernel) rfl hc ?_
    refine RN.sub (CX12_numberHere_L34 ?_ _ _ _ hF) (sub_cons rfl (sub_cons rfl (sub_cons rfl (sub_cons rfl (sub_cons rfl sub_nil)))))
    · intro w5 h6 hF
      obtain ⟨hc, hF⟩ := gd_of hF
      refine RN.blk (ops := [(88, .aload_n 0), (89, .iload 4), (91, .putfield 124), (94, .aload_n 0), (95, .getfield 99), (98, .iload_n 3), (99, .isub), (100, .iconst 5)]) (pc' := 101) (lv' := [(0, .inr (.inr t)), (1, .inl a1), (2, .inl a2), (3, .inl (m_rd h3 t 8)), (4, .inl w5)]) (st' := [.inl 5, .inl (m_w32 ((m_rd (m_wr h6 t 10 w5) t 8) - (m_rd h3 t 8)))]) (h' := (m_wr h6 t 10 w5)) (cs := [GK h6 t 12, GK h6 t 12]) (by decide +kernel) rfl hc ?_
      refine jn_use (fun j7 => ∀ (h8 : MH), j7 h8 = some r → RN xs L iX12_numberHere (d + 1) 117 [(0, .inr (.inr t)), (3, .inl (m_rd h3 t 8))] [] h8 (RIo r)) ?_ ?_ hF
      · intro h8 hF
        refine RN.blk (ops := [(117, .aload_n 0), (118, .iconst 1), (119, .iload_n 3)]) (pc' := 120) (lv' := [(0, .inr (.inr t)), (3, .inl (m_rd h3 t 8))]) (st' := [.inl (m_rd h3 t 8), .inl 1, .inr (.inr t)]) (h' := h8) (cs := []) (by decide +kernel) rfl trivial ?_
        obtain ⟨hc, hF⟩ := gd_of hF
        obtain ⟨x10, h9, hG, hF⟩ := bd_of hF
        refine RN.cv (i := 120) (k := 163) (q2 := iX12_fails) (as := [.inr (.inr t), .inl 1, .inl (m_rd h3 t 8)]) (r := []) (v := some (.inl x10)) (h1 := h9) (by decide +kernel) rfl rfl rfl rfl rfl (rcv_ok hc.1) (CX12_fails (d := d) hG) ?_
        rcases it_of hF with ⟨hb, hF⟩ | ⟨hb, hF⟩
        · refine RN.ift (cd := .eq) (off := 7) (tgt := 130) (by decide +kernel) (mif_eq hb) ?_
          refine RN.blk (ops := [(130, .iconst 0)]) (pc' := 131) (lv' := [(0, .inr (.inr t)), (3, .inl (m_rd h3 t 8))]) (st' := [.inl 0]) (h' := h9) (cs := []) (by decide +kernel) rfl trivial ?_
          exact RN.zR (by decide +kernel) rfl (Or.inl rfl) hF
        · refine RN.iff (cd := .eq) (off := 7) (tgt := 130) (by decide +kernel) (mif_eqn hb) ?_
          refine RN.blk (ops := [(126, .iconst 1)]) (pc' := 127) (lv' := [(0, .inr (.inr t)), (3, .inl (m_rd h3 t 8))]) (st' := [.inl 1]) (h' := h9) (cs := []) (by decide +kernel) rfl trivial ?_
          refine RN.goto (off := 4) (tgt := 131) (by decide +kernel) ?_
          exact RN.zR (by decide +kernel) rfl (Or.inr rfl) hF
      · intro j7 Jj7 hF
        rcases it_of hF with ⟨hb, hF⟩ | ⟨hb, hF⟩
        · refine RN.ict (cd := .gt) (off := 16) (tgt := 117) (by decide +kernel) (mif_gt hb) ?_
          exact RN.sub (Jj7 _ hF) (sub_cons rfl (sub_cons rfl sub_nil))
        · refine RN.icf (cd := .gt) (off := 16) (tgt := 117) (by decide +kernel) (mif_gtn hb) ?_
          refine RN.blk (ops := [(104, .iload 4), (106, .i2l), (107, .iload_n 1), (108, .i2l), (109, .iload_n 2), (110, .i2l)]) (pc' := 111) (lv' := [(0, .inr (.inr t)), (1, .inl a1), (2, .inl a2), (3, .inl (m_rd h3 t 8)), (4, .inl w5)]) (st' := [.inr (.inl a2), .inr (.inl a1), .inr (.inl w5)]) (h' := (m_wr h6 t 10 w5)) (cs := []) (by decide +kernel) rfl trivial ?_
          obtain ⟨x12, h11, hG, hF⟩ := bd_of hF
          refine RN.cst (i := 127) (k := 156) (q2 := iX12_in) (as := [.inr (.inl w5), .inr (.inl a1), .inr (.inl a2)]) (r := []) (v := some (.inl x12)) (h1 := h11) (by decide +kernel) rfl rfl rfl rfl rfl (CX12_in (d := d) hG) ?_
          rcases it_of hF with ⟨hb, hF⟩ | ⟨hb, hF⟩
          · refine RN.iff (cd := .ne) (off := 12) (tgt := 126) (by decide +kernel) (mif_nen hb) ?_
            exact RN.sub (Jj7 _ hF) (sub_cons rfl (sub_cons rfl sub_nil))
          · refine RN.ift (cd := .ne) (off := 12) (tgt := 126) (by decide +kernel) (mif_ne hb) ?_
            refine RN.blk (ops := [(126, .iconst 1)]) (pc' := 127) (lv' := [(0, .inr (.inr t)), (1, .inl a1), (2, .inl a2), (3, .inl (m_rd h3 t 8)), (4, .inl w5)]) (st' := [.inl 1]) (h' := h11) (cs := []) (by decide +kernel) rfl trivial ?_
            refine RN.goto (off := 4) (tgt := 131) (by decide +kernel) ?_
            exact RN.zR (by decide +kernel) rfl (Or.inr rfl) hF
noncomputable def FX12_wordHere (t : Int) (h : MH) : Option (Int × MH) :=
  gd [GK h t 12] (bd (FX12_isWord t 482854658917 h) (fun x2 h1 =>
   (if x2 = 0 then
    gd [GK h1 t 12] (bd (FX12_isWord t 1668244581 h1) (fun x4 h3 =>
     (if x4 = 0 then
      gd [GK h3 t 12] (bd (FX12_isWord t 439855772532 h3) (fun x6 h5 =>
       (if x6 = 0 then
        gd [GK h5 t 12] (bd (FX12_isWord t 1818325876 h5) (fun x8 h7 =>
         (if x8 = 0 then
          gd [GK h7 t 12] (bd (FX12_isWord t 1752132709 h7) (fun x10 h9 =>
           (if x10 = 0 then
            gd [GK h9 t 12] (bd (FX12_isWord t 465893420647 h9) (fun x12 h11 =>
             (if x12 = 0 then
              gd [GK h11 t 12] (bd (FX12_isWord t 1919905645 h11) (fun x14 h13 =>
               (if x14 = 0 then
                gd [GK h13 t 12] (bd (FX12_isWord t 6711668 h13) (fun x16 h15 =>
                 (if x16 = 0 then
                  gd [GK h15 t 12] (bd (FX12_isWord t 33602627781095015 h15) (fun x18 h17 =>
                   (if x18 = 0 then
                    gd [GK h17 t 12] (bd (FX12_isWord t 1650550643 h17) (fun x20 h19 =>
                     (if x20 = 0 then
                      gd [GK h19 t 12] (bd (FX12_isWord t 1953854062 h19) (fun x22 h21 =>
                       (if x22 = 0 then
                        some ((-1), h21)
                       else
                        some (10, h21))))
                     else
                      some (9, h19))))
                   else
                    some (8, h17))))
                 else
                  some (7, h15))))
               else
                some (6, h13))))
             else
              some (5, h11))))
           else
            some (4, h9))))
         else
          some (3, h7))))
       else
        some (2, h5))))
     else
      some (1, h3))))
   else
    some (0, h1))))
theorem CX12_wordHere {d : Nat} {t : Int} {h : MH} {r : Int × MH} (hF : FX12_wordHere t h = some r) : RN xs L iX12_wordHere (d + 2) 0 (lvE 0 [.inr (.inr t)]) [] h (RIo r) := by
  unfold FX12_wordHere at hF
  refine RN.blk (ops := [(0, .aload_n 0), (1, .ldc2_w 131)]) (pc' := 4) (lv' := [(0, .inr (.inr t))]) (st' := [.inr (.inl 482854658917), .inr (.inr t)]) (h' := h) (cs := []) (by decide +kernel) rfl trivial ?_
  obtain ⟨hc, hF⟩ := gd_of hF
  obtain ⟨x2, h1, hG, hF⟩ := bd_of hF
  refine RN.cv (i := 110) (k := 167) (q2 := iX12_isWord) (as := [.inr (.inr t), .inr (.inl 482854658917)]) (r := []) (v := some (.inl x2)) (h1 := h1) (by decide +kernel) rfl rfl rfl rfl rfl (rcv_ok hc.1) (CX12_isWord (d := d) hG) ?_
  rcases it_of hF with ⟨hb, hF⟩ | ⟨hb, hF⟩
  · refine RN.ift (cd := .eq) (off := 5) (tgt := 12) (by decide +kernel) (mif_eq hb) ?_
    refine RN.blk (ops := [(12, .aload_n 0), (13, .ldc2_w 133)]) (pc' := 16) (lv' := [(0, .inr (.inr t))]) (st' := [.inr (.inl 1668244581), .inr (.inr t)]) (h' := h1) (cs := []) (by decide +kernel) rfl trivial ?_
    obtain ⟨hc, hF⟩ := gd_of hF
    obtain ⟨x4, h3, hG, hF⟩ := bd_of hF
    refine RN.cv (i := 110) (k := 167) (q2 := iX12_isWord) (as := [.inr (.inr t), .inr (.inl 1668244581)]) (r := []) (v := some (.inl x4)) (h1 := h3) (by decide +kernel) rfl rfl rfl rfl rfl (rcv_ok hc.1) (CX12_isWord (d := d) hG) ?_
    rcases it_of hF with ⟨hb, hF⟩ | ⟨hb, hF⟩
    · refine RN.ift (cd := .eq) (off := 5) (tgt := 24) (by decide +kernel) (mif_eq hb) ?_
      refine RN.blk (ops := [(24, .aload_n 0), (25, .ldc2_w 135)]) (pc' := 28) (lv' := [(0, .inr (.inr t))]) (st' := [.inr (.inl 439855772532), .inr (.inr t)]) (h' := h3) (cs := []) (by decide +kernel) rfl trivial ?_
      obtain ⟨hc, hF⟩ := gd_of hF
      obtain ⟨x6, h5, hG, hF⟩ := bd_of hF
      refine RN.cv (i := 110) (k := 167) (q2 := iX12_isWord) (as := [.inr (.inr t), .inr (.inl 439855772532)]) (r := []) (v := some (.inl x6)) (h1 := h5) (by decide +kernel) rfl rfl rfl rfl rfl (rcv_ok hc.1) (CX12_isWord (d := d) hG) ?_
      rcases it_of hF with ⟨hb, hF⟩ | ⟨hb, hF⟩
      · refine RN.ift (cd := .eq) (off := 5) (tgt := 36) (by decide +kernel) (mif_eq hb) ?_
        refine RN.blk (ops := [(36, .aload_n 0), (37, .ldc2_w 137)]) (pc' := 40) (lv' := [(0, .inr (.inr t))]) (st' := [.inr (.inl 1818325876), .inr (.inr t)]) (h' := h5) (cs := []) (by decide +kernel) rfl trivial ?_
        obtain ⟨hc, hF⟩ := gd_of hF
        obtain ⟨x8, h7, hG, hF⟩ := bd_of hF
        refine RN.cv (i := 110) (k := 167) (q2 := iX12_isWord) (as := [.inr (.inr t), .inr (.inl 1818325876)]) (r := []) (v := some (.inl x8)) (h1 := h7) (by decide +kernel) rfl rfl rfl rfl rfl (rcv_ok hc.1) (CX12_isWord (d := d) hG) ?_
        rcases it_of hF with ⟨hb, hF⟩ | ⟨hb, hF⟩
        · refine RN.ift (cd := .eq) (off := 5) (tgt := 48) (by decide +kernel) (mif_eq hb) ?_
          refine RN.blk (ops := [(48, .aload_n 0), (49, .ldc2_w 139)]) (pc' := 52) (lv' := [(0, .inr (.inr t))]) (st' := [.inr (.inl 1752132709), .inr (.inr t)]) (h' := h7) (cs := []) (by decide +kernel) rfl trivial ?_
          obtain ⟨hc, hF⟩ := gd_of hF
          obtain ⟨x10, h9, hG, hF⟩ := bd_of hF
          refine RN.cv (i := 110) (k := 167) (q2 := iX12_isWord) (as := [.inr (.inr t), .inr (.inl 1752132709)]) (r := []) (v := some (.inl x10)) (h1 := h9) (by decide +kernel) rfl rfl rfl rfl rfl (rcv_ok hc.1) (CX12_isWord (d := d) hG) ?_
          rcases it_of hF with ⟨hb, hF⟩ | ⟨hb, hF⟩
          · refine RN.ift (cd := .eq) (off := 5) (tgt := 60) (by decide +kernel) (mif_eq hb) ?_
            refine RN.blk (ops := [(60, .aload_n 0), (61, .ldc2_w 141)]) (pc' := 64) (lv' := [(0, .inr (.inr t))]) (st' := [.inr (.inl 465893420647), .inr (.inr t)]) (h' := h9) (cs := []) (by decide +kernel) rfl trivial ?_
            obtain ⟨hc, hF⟩ := gd_of hF
            obtain ⟨x12, h11, hG, hF⟩ := bd_of hF
            refine RN.cv (i := 110) (k := 167) (q2 := iX12_isWord) (as := [.inr (.inr t), .inr (.inl 465893420647)]) (r := []) (v := some (.inl x12)) (h1 := h11) (by decide +kernel) rfl rfl rfl rfl rfl (rcv_ok hc.1) (CX12_isWord (d := d) hG) ?_
            rcases it_of hF with ⟨hb, hF⟩ | ⟨hb, hF⟩
            · refine RN.ift (cd := .eq) (off := 5) (tgt := 72) (by decide +kernel) (mif_eq hb) ?_
              refine RN.blk (ops := [(72, .aload_n 0), (73, .ldc2_w 143)]) (pc' := 76) (lv' := [(0, .inr (.inr t))]) (st' := [.inr (.inl 1919905645), .inr (.inr t)]) (h' := h11) (cs := []) (by decide +kernel) rfl trivial ?_
              obtain ⟨hc, hF⟩ := gd_of hF
              obtain ⟨x14, h13, hG, hF⟩ := bd_of hF
              refine RN.cv (i := 110) (k := 167) (q2 := iX12_isWord) (as := [.inr (.inr t), .inr (.inl 1919905645)]) (r := []) (v := some (.inl x14)) (h1 := h13) (by decide +kernel) rfl rfl rfl rfl rfl (rcv_ok hc.1) (CX12_isWord (d := d) hG) ?_
              rcases it_of hF with ⟨hb, hF⟩ | ⟨hb, hF⟩
              · refine RN.ift (cd := .eq) (off := 6) (tgt := 85) (by decide +kernel) (mif_eq hb) ?_
                refine RN.blk (ops := [(85, .aload_n 0), (86, .ldc2_w 145)]) (pc' := 89) (lv' := [(0, .inr (.inr t))]) (st' := [.inr (.inl 6711668), .inr (.inr t)]) (h' := h13) (cs := []) (by decide +kernel) rfl trivial ?_
                obtain ⟨hc, hF⟩ := gd_of hF
                obtain ⟨x16, h15, hG, hF⟩ := bd_of hF
                refine RN.cv (i := 110) (k := 167) (q2 := iX12_isWord) (as := [.inr (.inr t), .inr (.inl 6711668)]) (r := []) (v := some (.inl x16)) (h1 := h15) (by decide +kernel) rfl rfl rfl rfl rfl (rcv_ok hc.1) (CX12_isWord (d := d) hG) ?_
                rcases it_of hF with ⟨hb, hF⟩ | ⟨hb, hF⟩
                · refine RN.ift (cd := .eq) (off := 6) (tgt := 98) (by decide +kernel) (mif_eq hb) ?_
                  refine RN.blk (ops := [(98, .aload_n 0), (99, .ldc2_w 147)]) (pc' := 102) (lv' := [(0, .inr (.inr t))]) (st' := [.inr (.inl 33602627781095015), .inr (.inr t)]) (h' := h15) (cs := []) (by decide +kernel) rfl trivial ?_
                  obtain ⟨hc, hF⟩ := gd_of hF
                  obtain ⟨x18, h17, hG, hF⟩ := bd_of hF
                  refine RN.cv (i := 110) (k := 167) (q2 := iX12_isWord) (as := [.inr (.inr t), .inr (.inl 33602627781095015)]) (r := []) (v := some (.inl x18)) (h1 := h17) (by decide +kernel) rfl rfl rfl rfl rfl (rcv_ok hc.1) (CX12_isWord (d := d) hG) ?_
                  rcases it_of hF with ⟨hb, hF⟩ | ⟨hb, hF⟩
                  · refine RN.ift (cd := .eq) (off := 6) (tgt := 111) (by decide +kernel) (mif_eq hb) ?_
                    refine RN.blk (ops := [(111, .aload_n 0), (112, .ldc2_w 149)]) (pc' := 115) (lv' := [(0, .inr (.inr t))]) (st' := [.inr (.inl 1650550643), .inr (.inr t)]) (h' := h17) (cs := []) (by decide +kernel) rfl trivial ?_
                    obtain ⟨hc, hF⟩ := gd_of hF
                    obtain ⟨x20, h19, hG, hF⟩ := bd_of hF
                    refine RN.cv (i := 110) (k := 167) (q2 := iX12_isWord) (as := [.inr (.inr t), .inr (.inl 1650550643)]) (r := []) (v := some (.inl x20)) (h1 := h19) (by decide +kernel) rfl rfl rfl rfl rfl (rcv_ok hc.1) (CX12_isWord (d := d) hG) ?_
                    rcases it_of hF with ⟨hb, hF⟩ | ⟨hb, hF⟩
                    · refine RN.ift (cd := .eq) (off := 8) (tgt := 126) (by decide +kernel) (mif_eq hb) ?_
                      refine RN.blk (ops := [(126, .aload_n 0), (127, .ldc2_w 151)]) (pc' := 130) (lv' := [(0, .inr (.inr t))]) (st' := [.inr (.inl 1953854062), .inr (.inr t)]) (h' := h19) (cs := []) (by decide +kernel) rfl trivial ?_
                      obtain ⟨hc, hF⟩ := gd_of hF
                      obtain ⟨x22, h21, hG, hF⟩ := bd_of hF
                      refine RN.cv (i := 110) (k := 167) (q2 := iX12_isWord) (as := [.inr (.inr t), .inr (.inl 1953854062)]) (r := []) (v := some (.inl x22)) (h1 := h21) (by decide +kernel) rfl rfl rfl rfl rfl (rcv_ok hc.1) (CX12_isWord (d := d) hG) ?_
                      rcases it_of hF with ⟨hb, hF⟩ | ⟨hb, hF⟩
                      · refine RN.ift (cd := .eq) (off := 8) (tgt := 141) (by decide +kernel) (mif_eq hb) ?_
                        refine RN.blk (ops := [(141, .iconst (-1))]) (pc' := 142) (lv' := [(0, .inr (.inr t))]) (st' := [.inl (-1)]) (h' := h21) (cs := []) (by decide +kernel) rfl trivial ?_
                        exact RN.iR (by decide +kernel) rfl hF
                      · refine RN.iff (cd := .eq) (off := 8) (tgt := 141) (by decide +kernel) (mif_eqn hb) ?_
                        refine RN.blk (ops := [(136, .bipush 10)]) (pc' := 138) (lv' := [(0, .inr (.inr t))]) (st' := [.inl 10]) (h' := h21) (cs := []) (by decide +kernel) rfl trivial ?_
                        refine RN.goto (off := 4) (tgt := 142) (by decide +kernel) ?_
                        exact RN.iR (by decide +kernel) rfl hF
                    · refine RN.iff (cd := .eq) (off := 8) (tgt := 126) (by decide +kernel) (mif_eqn hb) ?_
                      refine RN.blk (ops := [(121, .bipush 9)]) (pc' := 123) (lv' := [(0, .inr (.inr t))]) (st' := [.inl 9]) (h' := h19) (cs := []) (by decide +kernel) rfl trivial ?_
                      refine RN.goto (off := 19) (tgt := 142) (by decide +kernel) ?_
                      exact RN.iR (by decide +kernel) rfl hF
                  · refine RN.iff (cd := .eq) (off := 6) (tgt := 111) (by decide +kernel) (mif_eqn hb) ?_
                    refine RN.blk (ops := [(108, .bipush 8)]) (pc' := 110) (lv' := [(0, .inr (.inr t))]) (st' := [.inl 8]) (h' := h17) (cs := []) (by decide +kernel) rfl trivial ?_
                    exact RN.iR (by decide +kernel) rfl hF
                · refine RN.iff (cd := .eq) (off := 6) (tgt := 98) (by decide +kernel) (mif_eqn hb) ?_
                  refine RN.blk (ops := [(95, .bipush 7)]) (pc' := 97) (lv' := [(0, .inr (.inr t))]) (st' := [.inl 7]) (h' := h15) (cs := []) (by decide +kernel) rfl trivial ?_
                  exact RN.iR (by decide +kernel) rfl hF
              · refine RN.iff (cd := .eq) (off := 6) (tgt := 85) (by decide +kernel) (mif_eqn hb) ?_
                refine RN.blk (ops := [(82, .bipush 6)]) (pc' := 84) (lv' := [(0, .inr (.inr t))]) (st' := [.inl 6]) (h' := h13) (cs := []) (by decide +kernel) rfl trivial ?_
                exact RN.iR (by decide +kernel) rfl hF
            · refine RN.iff (cd := .eq) (off := 5) (tgt := 72) (by decide +kernel) (mif_eqn hb) ?_
              refine RN.blk (ops := [(70, .iconst 5)]) (pc' := 71) (lv' := [(0, .inr (.inr t))]) (st' := [.inl 5]) (h' := h11) (cs := []) (by decide +kernel) rfl trivial ?_
              exact RN.iR (by decide +kernel) rfl hF
          · refine RN.iff (cd := .eq) (off := 5) (tgt := 60) (by decide +kernel) (mif_eqn hb) ?_
            refine RN.blk (ops := [(58, .iconst 4)]) (pc' := 59) (lv' := [(0, .inr (.inr t))]) (st' := [.inl 4]) (h' := h9) (cs := []) (by decide +kernel) rfl trivial ?_
            exact RN.iR (by decide +kernel) rfl hF
        · refine RN.iff (cd := .eq) (off := 5) (tgt := 48) (by decide +kernel) (mif_eqn hb) ?_
          refine RN.blk (ops := [(46, .iconst 3)]) (pc' := 47) (lv' := [(0, .inr (.inr t))]) (st' := [.inl 3]) (h' := h7) (cs := []) (by decide +kernel) rfl trivial ?_
          exact RN.iR (by decide +kernel) rfl hF
      · refine RN.iff (cd := .eq) (off := 5) (tgt := 36) (by decide +kernel) (mif_eqn hb) ?_
        refine RN.blk (ops := [(34, .iconst 2)]) (pc' := 35) (lv' := [(0, .inr (.inr t))]) (st' := [.inl 2]) (h' := h5) (cs := []) (by decide +kernel) rfl trivial ?_
        exact RN.iR (by decide +kernel) rfl hF
    · refine RN.iff (cd := .eq) (off := 5) (tgt := 24) (by decide +kernel) (mif_eqn hb) ?_
      refine RN.blk (ops := [(22, .iconst 1)]) (pc' := 23) (lv' := [(0, .inr (.inr t))]) (st' := [.inl 1]) (h' := h3) (cs := []) (by decide +kernel) rfl trivial ?_
      exact RN.iR (by decide +kernel) rfl hF
  · refine RN.iff (cd := .eq) (off := 5) (tgt := 12) (by decide +kernel) (mif_eqn hb) ?_
    refine RN.blk (ops := [(10, .iconst 0)]) (pc' := 11) (lv' := [(0, .inr (.inr t))]) (st' := [.inl 0]) (h' := h1) (cs := []) (by decide +kernel) rfl trivial ?_
    exact RN.iR (by decide +kernel) rfl hF
noncomputable def FX12_puts (t : Int) (a1 : Int) (a2 : Int) (h : MH) : Option (MH) :=
  gd [GK h t 12, GK h t 12, GK h t 12, GK h t 12, GI h (m_rd h t 4) 1 (m_rd h t 11), GI h (m_rd h t 3) 1 (m_w32 ((m_w32 (400 * (m_rd h t 11))) + (m_rd h (m_rd h t 4) (m_rd h t 11))))] (
   hl (m_wr h (m_rd h t 3) (m_w32 ((m_w32 (400 * (m_rd h t 11))) + (m_rd h (m_rd h t 4) (m_rd h t 11)))) (m_w32 (a1 + (m_w32 (16 * a2))))) (fun h1 =>
    gd [GK h1 t 12, GK h1 t 12, GI h1 (m_rd h1 t 4) 1 (m_rd h1 t 11), GI h1 (m_rd h1 t 4) 1 (m_rd h1 t 11)] (
     some (m_wr h1 (m_rd h1 t 4) (m_rd h1 t 11) (m_w32 ((m_rd h1 (m_rd h1 t 4) (m_rd h1 t 11)) + 1))))))
theorem CX12_puts {d : Nat} {t : Int} {a1 : Int} {a2 : Int} {h : MH} {r : MH} (hF : FX12_puts t a1 a2 h = some r) : RN xs L iX12_puts (d) 0 (lvE 0 [.inr (.inr t), .inl a1, .inl a2]) [] h (RVo r) := by
  unfold FX12_puts at hF
  obtain ⟨hc, hF⟩ := gd_of hF
  refine RN.blk (ops := [(0, .aload_n 0), (1, .getfield 13), (4, .sipush 400), (7, .aload_n 0), (8, .getfield 153), (11, .imul), (12, .aload_n 0), (13, .getfield 17), (16, .aload_n 0), (17, .getfield 153), (20, .iaload), (21, .iadd), (22, .iload_n 1), (23, .bipush 16), (25, .iload_n 2), (26, .imul), (27, .iadd), (28, .iastore)]) (pc' := 29) (lv' := [(0, .inr (.inr t)), (1, .inl a1), (2, .inl a2)]) (st' := []) (h' := (m_wr h (m_rd h t 3) (m_w32 ((m_w32 (400 * (m_rd h t 11))) + (m_rd h (m_rd h t 4) (m_rd h t 11)))) (m_w32 (a1 + (m_w32 (16 * a2)))))) (cs := [GK h t 12, GK h t 12, GK h t 12, GK h t 12, GI h (m_rd h t 4) 1 (m_rd h t 11), GI h (m_rd h t 3) 1 (m_w32 ((m_w32 (400 * (m_rd h t 11))) + (m_rd h (m_rd h t 4) (m_rd h t 11))))]) (by decide +kernel) rfl hc ?_
  obtain ⟨h1, he, hF⟩ := hl_of hF
  refine RN.hl he ?_
  obtain ⟨hc, hF⟩ := gd_of hF
  refine RN.blk (ops := [(29, .aload_n 0), (30, .getfield 17), (33, .aload_n 0), (34, .getfield 153), (37, .dup2), (38, .iaload), (39, .iconst 1), (40, .iadd), (41, .iastore)]) (pc' := 42) (lv' := [(0, .inr (.inr t)), (1, .inl a1), (2, .inl a2)]) (st' := []) (h' := (m_wr h1 (m_rd h1 t 4) (m_rd h1 t 11) (m_w32 ((m_rd h1 (m_rd h1 t 4) (m_rd h1 t 11)) + 1)))) (cs := [GK h1 t 12, GK h1 t 12, GI h1 (m_rd h1 t 4) 1 (m_rd h1 t 11), GI h1 (m_rd h1 t 4) 1 (m_rd h1 t 11)]) (by decide +kernel) rfl hc ?_
  exact RN.vR (by decide +kernel) rfl hF
noncomputable def FX12_makes (t : Int) (a1 : Int) (h : MH) : Option (Int × MH) :=
  gd [GK h t 12] (
   (if (m_rd h t 12) = 60 then
    gd [GK h t 12] (bd (FX12_fails t 3 a1 h) (fun x2 h1 =>
     gd [GT x2] (some (x2, h1))))
   else
    gd [GK h t 12, GK h t 12] (
     some (1, (m_wr h t 12 (m_w32 ((m_rd h t 12) + 1)))))))
theorem CX12_makes {d : Nat} {t : Int} {a1 : Int} {h : MH} {r : Int × MH} (hF : FX12_makes t a1 h = some r) : RN xs L iX12_makes (d + 1) 0 (lvE 0 [.inr (.inr t), .inl a1]) [] h (RIo r) := by
  unfold FX12_makes at hF
  obtain ⟨hc, hF⟩ := gd_of hF
  refine RN.blk (ops := [(0, .aload_n 0), (1, .getfield 156), (4, .bipush 60)]) (pc' := 6) (lv' := [(0, .inr (.inr t)), (1, .inl a1)]) (st' := [.inl 60, .inl (m_rd h t 12)]) (h' := h) (cs := [GK h t 12]) (by decide +kernel) rfl hc ?_
  rcases it_of hF with ⟨hb, hF⟩ | ⟨hb, hF⟩
  · refine RN.icf (cd := .ne) (off := 10) (tgt := 16) (by decide +kernel) (mif_nen hb) ?_
    refine RN.blk (ops := [(9, .aload_n 0), (10, .iconst 3), (11, .iload_n 1)]) (pc' := 12) (lv' := [(0, .inr (.inr t)), (1, .inl a1)]) (st' := [.inl a1, .inl 3, .inr (.inr t)]) (h' := h) (cs := []) (by decide +kernel) rfl trivial ?_
    obtain ⟨hc, hF⟩ := gd_of hF
    obtain ⟨x2, h1, hG, hF⟩ := bd_of hF
    refine RN.cv (i := 120) (k := 163) (q2 := iX12_fails) (as := [.inr (.inr t), .inl 3, .inl a1]) (r := []) (v := some (.inl x2)) (h1 := h1) (by decide +kernel) rfl rfl rfl rfl rfl (rcv_ok hc.1) (CX12_fails (d := d) hG) ?_
    obtain ⟨hc, hF⟩ := gd_of hF
    exact RN.zR (by decide +kernel) rfl hc.1 hF
  · refine RN.ict (cd := .ne) (off := 10) (tgt := 16) (by decide +kernel) (mif_ne hb) ?_
    obtain ⟨hc, hF⟩ := gd_of hF
    refine RN.blk (ops := [(16, .aload_n 0), (17, .dup), (18, .getfield 156), (21, .iconst 1), (22, .iadd), (23, .putfield 156), (26, .iconst 1)]) (pc' := 27) (lv' := [(0, .inr (.inr t)), (1, .inl a1)]) (st' := [.inl 1]) (h' := (m_wr h t 12 (m_w32 ((m_rd h t 12) + 1)))) (cs := [GK h t 12, GK h t 12]) (by decide +kernel) rfl hc ?_
    exact RN.zR (by decide +kernel) rfl (Or.inr rfl) hF
noncomputable def FX12_opens (t : Int) (a1 : Int) (h : MH) : Option (Int × MH) :=
  gd [GK h t 12] (
   (if (m_rd h t 13) = 10 then
    gd [GK h t 12] (
     gd [GK h t 12] (bd (FX12_fails t 2 (m_rd h t 8) h) (fun x3 h2 =>
      gd [GT x3] (some (x3, h2)))))
   else
    gd [GK h t 12, GK h t 12, GK h t 12, GK h t 12, GI h (m_rd (m_wr h t 13 (m_w32 ((m_rd h t 13) + 1))) t 15) 1 (m_rd (m_wr h t 13 (m_w32 ((m_rd h t 13) + 1))) t 16)] (
     hl (m_wr (m_wr h t 13 (m_w32 ((m_rd h t 13) + 1))) (m_rd (m_wr h t 13 (m_w32 ((m_rd h t 13) + 1))) t 15) (m_rd (m_wr h t 13 (m_w32 ((m_rd h t 13) + 1))) t 16) a1) (fun h1 =>
      gd [GK h1 t 12, GK h1 t 12] (
       some (1, (m_wr h1 t 16 (m_w32 ((m_rd h1 t 16) + 1)))))))))
theorem CX12_opens {d : Nat} {t : Int} {a1 : Int} {h : MH} {r : Int × MH} (hF : FX12_opens t a1 h = some r) : RN xs L iX12_opens (d + 1) 0 (lvE 0 [.inr (.inr t), .inl a1]) [] h (RIo r) := by
  unfold FX12_opens at hF
  obtain ⟨hc, hF⟩ := gd_of hF
  refine RN.blk (ops := [(0, .aload_n 0), (1, .getfield 159), (4, .bipush 10)]) (pc' := 6) (lv' := [(0, .inr (.inr t)), (1, .inl a1)]) (st' := [.inl 10, .inl (m_rd h t 13)]) (h' := h) (cs := [GK h t 12]) (by decide +kernel) rfl hc ?_
  rcases it_of hF with ⟨hb, hF⟩ | ⟨hb, hF⟩
  · refine RN.icf (cd := .ne) (off := 13) (tgt := 19) (by decide +kernel) (mif_nen hb) ?_
    obtain ⟨hc, hF⟩ := gd_of hF
    refine RN.blk (ops := [(9, .aload_n 0), (10, .iconst 2), (11, .aload_n 0), (12, .getfield 99)]) (pc' := 15) (lv' := [(0, .inr (.inr t)), (1, .inl a1)]) (st' := [.inl (m_rd h t 8), .inl 2, .inr (.inr t)]) (h' := h) (cs := [GK h t 12]) (by decide +kernel) rfl hc ?_
    obtain ⟨hc, hF⟩ := gd_of hF
    obtain ⟨x3, h2, hG, hF⟩ := bd_of hF
    refine RN.cv (i := 120) (k := 163) (q2 := iX12_fails) (as := [.inr (.inr t), .inl 2, .inl (m_rd h t 8)]) (r := []) (v := some (.inl x3)) (h1 := h2) (by decide +kernel) rfl rfl rfl rfl rfl (rcv_ok hc.1) (CX12_fails (d := d) hG) ?_
    obtain ⟨hc, hF⟩ := gd_of hF
    exact RN.zR (by decide +kernel) rfl hc.1 hF
  · refine RN.ict (cd := .ne) (off := 13) (tgt := 19) (by decide +kernel) (mif_ne hb) ?_
    obtain ⟨hc, hF⟩ := gd_of hF
    refine RN.blk (ops := [(19, .aload_n 0), (20, .dup), (21, .getfield 159), (24, .iconst 1), (25, .iadd), (26, .putfield 159), (29, .aload_n 0), (30, .getfield 29), (33, .aload_n 0), (34, .getfield 162), (37, .iload_n 1), (38, .iastore)]) (pc' := 39) (lv' := [(0, .inr (.inr t)), (1, .inl a1)]) (st' := []) (h' := (m_wr (m_wr h t 13 (m_w32 ((m_rd h t 13) + 1))) (m_rd (m_wr h t 13 (m_w32 ((m_rd h t 13) + 1))) t 15) (m_rd (m_wr h t 13 (m_w32 ((m_rd h t 13) + 1))) t 16) a1)) (cs := [GK h t 12, GK h t 12, GK h t 12, GK h t 12, GI h (m_rd (m_wr h t 13 (m_w32 ((m_rd h t 13) + 1))) t 15) 1 (m_rd (m_wr h t 13 (m_w32 ((m_rd h t 13) + 1))) t 16)]) (by decide +kernel) rfl hc ?_
    obtain ⟨h1, he, hF⟩ := hl_of hF
    refine RN.hl he ?_
    obtain ⟨hc, hF⟩ := gd_of hF
    refine RN.blk (ops := [(39, .aload_n 0), (40, .dup), (41, .getfield 162), (44, .iconst 1), (45, .iadd), (46, .putfield 162), (49, .iconst 1)]) (pc' := 50) (lv' := [(0, .inr (.inr t)), (1, .inl a1)]) (st' := [.inl 1]) (h' := (m_wr h1 t 16 (m_w32 ((m_rd h1 t 16) + 1)))) (cs := [GK h1 t 12, GK h1 t 12]) (by decide +kernel) rfl hc ?_
    exact RN.zR (by decide +kernel) rfl (Or.inr rfl) hF
noncomputable def FX12_strength (a1 : Int) (h : MH) : Option (Int × MH) :=
  (if a1 = 13 then
   some (1, h)
  else
   (if a1 = 12 then
    some (2, h)
   else
    (if a1 = 11 then
     some (3, h)
    else
     some (0, h))))
theorem CX12_strength {d : Nat} {a1 : Int} {h : MH} {r : Int × MH} (hF : FX12_strength a1 h = some r) : RN xs L iX12_strength (d) 0 (lvE 0 [.inl a1]) [] h (RIo r) := by
  unfold FX12_strength at hF
  refine RN.blk (ops := [(0, .iload_n 0), (1, .bipush 13)]) (pc' := 3) (lv' := [(0, .inl a1)]) (st' := [.inl 13, .inl a1]) (h' := h) (cs := []) (by decide +kernel) rfl trivial ?_
  rcases it_of hF with ⟨hb, hF⟩ | ⟨hb, hF⟩
  · refine RN.icf (cd := .ne) (off := 7) (tgt := 10) (by decide +kernel) (mif_nen hb) ?_
    refine RN.blk (ops := [(6, .iconst 1)]) (pc' := 7) (lv' := [(0, .inl a1)]) (st' := [.inl 1]) (h' := h) (cs := []) (by decide +kernel) rfl trivial ?_
    refine RN.goto (off := 24) (tgt := 31) (by decide +kernel) ?_
    exact RN.iR (by decide +kernel) rfl hF
  · refine RN.ict (cd := .ne) (off := 7) (tgt := 10) (by decide +kernel) (mif_ne hb) ?_
    refine RN.blk (ops := [(10, .iload_n 0), (11, .bipush 12)]) (pc' := 13) (lv' := [(0, .inl a1)]) (st' := [.inl 12, .inl a1]) (h' := h) (cs := []) (by decide +kernel) rfl trivial ?_
    rcases it_of hF with ⟨hb, hF⟩ | ⟨hb, hF⟩
    · refine RN.icf (cd := .ne) (off := 7) (tgt := 20) (by decide +kernel) (mif_nen hb) ?_
      refine RN.blk (ops := [(16, .iconst 2)]) (pc' := 17) (lv' := [(0, .inl a1)]) (st' := [.inl 2]) (h' := h) (cs := []) (by decide +kernel) rfl trivial ?_
      refine RN.goto (off := 14) (tgt := 31) (by decide +kernel) ?_
      exact RN.iR (by decide +kernel) rfl hF
    · refine RN.ict (cd := .ne) (off := 7) (tgt := 20) (by decide +kernel) (mif_ne hb) ?_
      refine RN.blk (ops := [(20, .iload_n 0), (21, .bipush 11)]) (pc' := 23) (lv' := [(0, .inl a1)]) (st' := [.inl 11, .inl a1]) (h' := h) (cs := []) (by decide +kernel) rfl trivial ?_
      rcases it_of hF with ⟨hb, hF⟩ | ⟨hb, hF⟩
      · refine RN.icf (cd := .ne) (off := 7) (tgt := 30) (by decide +kernel) (mif_nen hb) ?_
        refine RN.blk (ops := [(26, .iconst 3)]) (pc' := 27) (lv' := [(0, .inl a1)]) (st' := [.inl 3]) (h' := h) (cs := []) (by decide +kernel) rfl trivial ?_
        refine RN.goto (off := 4) (tgt := 31) (by decide +kernel) ?_
        exact RN.iR (by decide +kernel) rfl hF
      · refine RN.ict (cd := .ne) (off := 7) (tgt := 30) (by decide +kernel) (mif_ne hb) ?_
        refine RN.blk (ops := [(30, .iconst 0)]) (pc' := 31) (lv' := [(0, .inl a1)]) (st' := [.inl 0]) (h' := h) (cs := []) (by decide +kernel) rfl trivial ?_
        exact RN.iR (by decide +kernel) rfl hF
noncomputable def FX12_layDown_L0 (u0 : Int) (u1 : Int) (K0 : MH → Option (MH)) : Nat → MH → Option (MH)
  | 0, _ => none
  | f + 1, h =>
    gd [GK h u0 12] (
     (if 0 < (m_rd h u0 16) then
      gd [GK h u0 12, GK h u0 12, GI h (m_rd h u0 15) 1 (m_w32 ((m_rd h u0 16) - 1))] (
       (bd (FX12_strength (m_rd h (m_rd h u0 15) (m_w32 ((m_rd h u0 16) - 1))) h) (fun x2 h1 =>
        (if x2 < u1 then
         K0 h1
        else
         gd [GK h1 u0 12, GK h1 u0 12, GK h1 u0 12, GK h1 u0 12, GI h1 (m_rd (m_wr h1 u0 16 (m_w32 ((m_rd h1 u0 16) - 1))) u0 15) 1 (m_rd (m_wr h1 u0 16 (m_w32 ((m_rd h1 u0 16) - 1))) u0 16)] (
          gd [GK h1 u0 12] (bv (FX12_puts u0 (m_rd (m_wr h1 u0 16 (m_w32 ((m_rd h1 u0 16) - 1))) (m_rd (m_wr h1 u0 16 (m_w32 ((m_rd h1 u0 16) - 1))) u0 15) (m_rd (m_wr h1 u0 16 (m_w32 ((m_rd h1 u0 16) - 1))) u0 16)) 0 (m_wr h1 u0 16 (m_w32 ((m_rd h1 u0 16) - 1)))) (fun h3 =>
           gd [GK h3 u0 12, GK h3 u0 12, GI h3 (m_rd h3 u0 15) 1 (m_rd h3 u0 16)] (
            (if (m_rd h3 (m_rd h3 u0 15) (m_rd h3 u0 16)) = 11 then
             gd [GK h3 u0 12, GK h3 u0 12] (
              FX12_layDown_L0 u0 u1 K0 f (m_wr h3 u0 13 (m_w32 ((m_rd h3 u0 13) - 1))))
            else
             FX12_layDown_L0 u0 u1 K0 f h3)))))))))
     else
      K0 h))
theorem CX12_layDown_L0 {d : Nat} {u0 : Int} {u1 : Int} {K0 : MH → Option (MH)} {r : MH} (hK0 : ∀ (h : MH), K0 h = some r → RN xs L iX12_layDown (d + 1) 76 [] [] h (RVo r)) : ∀ (f : Nat) (h : MH), FX12_layDown_L0 u0 u1 K0 f  h = some r → RN xs L iX12_layDown (d + 1) 0 [(0, .inr (.inr u0)), (1, .inl u1)] [] h (RVo r) := by
  intro f
  induction f with
  | zero =>
    intro h hF
    cases hF
  | succ f ih =>
    intro h hF
    unfold FX12_layDown_L0 at hF
    obtain ⟨hc, hF⟩ := gd_of hF
    refine RN.blk (ops := [(0, .aload_n 0), (1, .getfield 162)]) (pc' := 4) (lv' := [(0, .inr (.inr u0)), (1, .inl u1)]) (st' := [.inl (m_rd h u0 16)]) (h' := h) (cs := [GK h u0 12]) (by decide +kernel) rfl hc ?_
    rcases it_of hF with ⟨hb, hF⟩ | ⟨hb, hF⟩
    · refine RN.iff (cd := .le) (off := 72) (tgt := 76) (by decide +kernel) (mif_len hb) ?_
      obtain ⟨hc, hF⟩ := gd_of hF
      refine RN.blk (ops := [(7, .aload_n 0), (8, .getfield 29), (11, .aload_n 0), (12, .getfield 162), (15, .iconst 1), (16, .isub), (17, .iaload)]) (pc' := 18) (lv' := [(0, .inr (.inr u0)), (1, .inl u1)]) (st' := [.inl (m_rd h (m_rd h u0 15) (m_w32 ((m_rd h u0 16) - 1)))]) (h' := h) (cs := [GK h u0 12, GK h u0 12, GI h (m_rd h u0 15) 1 (m_w32 ((m_rd h u0 16) - 1))]) (by decide +kernel) rfl hc ?_
      obtain ⟨x2, h1, hG, hF⟩ := bd_of hF
      refine RN.cst (i := 165) (k := 175) (q2 := iX12_strength) (as := [.inl (m_rd h (m_rd h u0 15) (m_w32 ((m_rd h u0 16) - 1)))]) (r := []) (v := some (.inl x2)) (h1 := h1) (by decide +kernel) rfl rfl rfl rfl rfl (CX12_strength (d := d) hG) ?_
      refine RN.blk (ops := [(21, .iload_n 1)]) (pc' := 22) (lv' := [(0, .inr (.inr u0)), (1, .inl u1)]) (st' := [.inl u1, .inl x2]) (h' := h1) (cs := []) (by decide +kernel) rfl trivial ?_
      rcases it_of hF with ⟨hb, hF⟩ | ⟨hb, hF⟩
      · refine RN.ict (cd := .lt) (off := 54) (tgt := 76) (by decide +kernel) (mif_lt hb) ?_
        exact RN.sub (hK0 _ hF) sub_nil
      · refine RN.icf (cd := .lt) (off := 54) (tgt := 76) (by decide +kernel) (mif_ltn hb) ?_
        obtain ⟨hc, hF⟩ := gd_of hF
        refine RN.blk (ops := [(25, .aload_n 0), (26, .dup), (27, .getfield 162), (30, .iconst 1), (31, .isub), (32, .putfield 162), (35, .aload_n 0), (36, .aload_n 0), (37, .getfield 29), (40, .aload_n 0), (41, .getfield 162), (44, .iaload), (45, .iconst 0)]) (pc' := 46) (lv' := [(0, .inr (.inr u0)), (1, .inl u1)]) (st' := [.inl 0, .inl (m_rd (m_wr h1 u0 16 (m_w32 ((m_rd h1 u0 16) - 1))) (m_rd (m_wr h1 u0 16 (m_w32 ((m_rd h1 u0 16) - 1))) u0 15) (m_rd (m_wr h1 u0 16 (m_w32 ((m_rd h1 u0 16) - 1))) u0 16)), .inr (.inr u0)]) (h' := (m_wr h1 u0 16 (m_w32 ((m_rd h1 u0 16) - 1)))) (cs := [GK h1 u0 12, GK h1 u0 12, GK h1 u0 12, GK h1 u0 12, GI h1 (m_rd (m_wr h1 u0 16 (m_w32 ((m_rd h1 u0 16) - 1))) u0 15) 1 (m_rd (m_wr h1 u0 16 (m_w32 ((m_rd h1 u0 16) - 1))) u0 16)]) (by decide +kernel) rfl hc ?_
        obtain ⟨hc, hF⟩ := gd_of hF
        obtain ⟨h3, hG, hF⟩ := bv_of hF
        refine RN.cv (i := 169) (k := 172) (q2 := iX12_puts) (as := [.inr (.inr u0), .inl (m_rd (m_wr h1 u0 16 (m_w32 ((m_rd h1 u0 16) - 1))) (m_rd (m_wr h1 u0 16 (m_w32 ((m_rd h1 u0 16) - 1))) u0 15) (m_rd (m_wr h1 u0 16 (m_w32 ((m_rd h1 u0 16) - 1))) u0 16)), .inl 0]) (r := []) (v := none) (h1 := h3) (by decide +kernel) rfl rfl rfl rfl rfl (rcv_ok hc.1) (CX12_puts (d := d) hG) ?_
        obtain ⟨hc, hF⟩ := gd_of hF
        refine RN.blk (ops := [(49, .aload_n 0), (50, .getfield 29), (53, .aload_n 0), (54, .getfield 162), (57, .iaload), (58, .bipush 11)]) (pc' := 60) (lv' := [(0, .inr (.inr u0)), (1, .inl u1)]) (st' := [.inl 11, .inl (m_rd h3 (m_rd h3 u0 15) (m_rd h3 u0 16))]) (h' := h3) (cs := [GK h3 u0 12, GK h3 u0 12, GI h3 (m_rd h3 u0 15) 1 (m_rd h3 u0 16)]) (by decide +kernel) rfl hc ?_
        rcases it_of hF with ⟨hb, hF⟩ | ⟨hb, hF⟩
        · refine RN.icf (cd := .ne) (off := -60) (tgt := 0) (by decide +kernel) (mif_nen hb) ?_
          obtain ⟨hc, hF⟩ := gd_of hF
          refine RN.blk (ops := [(63, .aload_n 0), (64, .dup), (65, .getfield 159), (68, .iconst 1), (69, .isub), (70, .putfield 159)]) (pc' := 73) (lv' := [(0, .inr (.inr u0)), (1, .inl u1)]) (st' := []) (h' := (m_wr h3 u0 13 (m_w32 ((m_rd h3 u0 13) - 1)))) (cs := [GK h3 u0 12, GK h3 u0 12]) (by decide +kernel) rfl hc ?_
          refine RN.goto (off := -73) (tgt := 0) (by decide +kernel) ?_
          exact RN.sub (ih _ hF) (sub_cons rfl (sub_cons rfl sub_nil))
        · refine RN.ict (cd := .ne) (off := -60) (tgt := 0) (by decide +kernel) (mif_ne hb) ?_
          exact RN.sub (ih _ hF) (sub_cons rfl (sub_cons rfl sub_nil))
    · refine RN.ift (cd := .le) (off := 72) (tgt := 76) (by decide +kernel) (mif_le hb) ?_
      exact RN.sub (hK0 _ hF) sub_nil
noncomputable def FX12_layDown (t : Int) (a1 : Int) (h : MH) : Option (MH) :=
  FX12_layDown_L0 t a1 (fun h1 =>
   some h1) FU h
theorem CX12_layDown {d : Nat} {t : Int} {a1 : Int} {h : MH} {r : MH} (hF : FX12_layDown t a1 h = some r) : RN xs L iX12_layDown (d + 1) 0 (lvE 0 [.inr (.inr t), .inl a1]) [] h (RVo r) := by
  unfold FX12_layDown at hF
  refine RN.sub (CX12_layDown_L0 ?_ _ _ hF) (sub_cons rfl (sub_cons rfl sub_nil))
  · intro h1 hF
    exact RN.vR (by decide +kernel) rfl hF
noncomputable def FX12_value (t : Int) (h : MH) : Option (Int × MH) :=
  gd [GK h t 12] (bd (FX12_see t h) (fun x2 h1 =>
   gd [GK h1 t 12, GK h1 t 12] (
    gd [GK h1 t 12] (bd (FX12_isDigit t (m_rd h1 t 8) h1) (fun x4 h3 =>
     (if x4 = 0 then
      gd [GK h3 t 12] (bd (FX12_wordHere t h3) (fun x6 h5 =>
       (if x6 < 0 then
        gd [GK h5 t 12] (bd (FX12_fails t 0 (m_rd h1 t 8) h5) (fun x12 h11 =>
         gd [GT x12] (some (x12, h11))))
       else
        gd [GK h5 t 12] (bd (FX12_makes t (m_rd h1 t 8) h5) (fun x8 h7 =>
         (if x8 = 0 then
          some (0, h7)
         else
          gd [GK h7 t 12] (bv (FX12_passWord t h7) (fun h9 =>
           gd [GK h9 t 12] (bv (FX12_puts t 1 x6 h9) (fun h10 =>
            some (1, h10)))))))))))
     else
      gd [GK h3 t 12] (bd (FX12_numberHere t 0 99999 h3) (fun x14 h13 =>
       (if x14 = 0 then
        some (0, h13)
       else
        gd [GK h13 t 12] (bd (FX12_makes t (m_rd h1 t 8) h13) (fun x16 h15 =>
         (if x16 = 0 then
          some (0, h15)
         else
          gd [GK h15 t 12] (
           gd [GK h15 t 12] (bv (FX12_puts t 0 (m_rd h15 t 10) h15) (fun h17 =>
            some (1, h17))))))))))))))))
theorem CX12_value {d : Nat} {t : Int} {h : MH} {r : Int × MH} (hF : FX12_value t h = some r) : RN xs L iX12_value (d + 3) 0 (lvE 0 [.inr (.inr t)]) [] h (RIo r) := by
  unfold FX12_value at hF
  refine RN.blk (ops := [(0, .aload_n 0)]) (pc' := 1) (lv' := [(0, .inr (.inr t))]) (st' := [.inr (.inr t)]) (h' := h) (cs := []) (by decide +kernel) rfl trivial ?_
  obtain ⟨hc, hF⟩ := gd_of hF
  obtain ⟨x2, h1, hG, hF⟩ := bd_of hF
  refine RN.cv (i := 102) (k := 164) (q2 := iX12_see) (as := [.inr (.inr t)]) (r := []) (v := some (.inl x2)) (h1 := h1) (by decide +kernel) rfl rfl rfl rfl rfl (rcv_ok hc.1) (CX12_see (d := d + 2) hG) ?_
  obtain ⟨hc, hF⟩ := gd_of hF
  refine RN.blk (ops := [(4, .pop), (5, .aload_n 0), (6, .getfield 99), (9, .istore_n 1), (10, .aload_n 0), (11, .aload_n 0), (12, .getfield 99)]) (pc' := 15) (lv' := [(1, .inl (m_rd h1 t 8)), (0, .inr (.inr t))]) (st' := [.inl (m_rd h1 t 8), .inr (.inr t)]) (h' := h1) (cs := [GK h1 t 12, GK h1 t 12]) (by decide +kernel) rfl hc ?_
  obtain ⟨hc, hF⟩ := gd_of hF
  obtain ⟨x4, h3, hG, hF⟩ := bd_of hF
  refine RN.cv (i := 117) (k := 165) (q2 := iX12_isDigit) (as := [.inr (.inr t), .inl (m_rd h1 t 8)]) (r := []) (v := some (.inl x4)) (h1 := h3) (by decide +kernel) rfl rfl rfl rfl rfl (rcv_ok hc.1) (CX12_isDigit (d := d + 2) hG) ?_
  rcases it_of hF with ⟨hb, hF⟩ | ⟨hb, hF⟩
  · refine RN.ift (cd := .eq) (off := 34) (tgt := 52) (by decide +kernel) (mif_eq hb) ?_
    refine RN.blk (ops := [(52, .aload_n 0)]) (pc' := 53) (lv' := [(1, .inl (m_rd h1 t 8)), (0, .inr (.inr t))]) (st' := [.inr (.inr t)]) (h' := h3) (cs := []) (by decide +kernel) rfl trivial ?_
    obtain ⟨hc, hF⟩ := gd_of hF
    obtain ⟨x6, h5, hG, hF⟩ := bd_of hF
    refine RN.cv (i := 180) (k := 171) (q2 := iX12_wordHere) (as := [.inr (.inr t)]) (r := []) (v := some (.inl x6)) (h1 := h5) (by decide +kernel) rfl rfl rfl rfl rfl (rcv_ok hc.1) (CX12_wordHere (d := d) hG) ?_
    refine RN.blk (ops := [(56, .istore_n 2), (57, .iload_n 2)]) (pc' := 58) (lv' := [(2, .inl x6), (1, .inl (m_rd h1 t 8)), (0, .inr (.inr t))]) (st' := [.inl x6]) (h' := h5) (cs := []) (by decide +kernel) rfl trivial ?_
    rcases it_of hF with ⟨hb, hF⟩ | ⟨hb, hF⟩
    · refine RN.iff (cd := .ge) (off := 10) (tgt := 68) (by decide +kernel) (mif_gen hb) ?_
      refine RN.blk (ops := [(61, .aload_n 0), (62, .iconst 0), (63, .iload_n 1)]) (pc' := 64) (lv' := [(2, .inl x6), (1, .inl (m_rd h1 t 8)), (0, .inr (.inr t))]) (st' := [.inl (m_rd h1 t 8), .inl 0, .inr (.inr t)]) (h' := h5) (cs := []) (by decide +kernel) rfl trivial ?_
      obtain ⟨hc, hF⟩ := gd_of hF
      obtain ⟨x12, h11, hG, hF⟩ := bd_of hF
      refine RN.cv (i := 120) (k := 163) (q2 := iX12_fails) (as := [.inr (.inr t), .inl 0, .inl (m_rd h1 t 8)]) (r := []) (v := some (.inl x12)) (h1 := h11) (by decide +kernel) rfl rfl rfl rfl rfl (rcv_ok hc.1) (CX12_fails (d := d + 2) hG) ?_
      obtain ⟨hc, hF⟩ := gd_of hF
      exact RN.zR (by decide +kernel) rfl hc.1 hF
    · refine RN.ift (cd := .ge) (off := 10) (tgt := 68) (by decide +kernel) (mif_ge hb) ?_
      refine RN.blk (ops := [(68, .aload_n 0), (69, .iload_n 1)]) (pc' := 70) (lv' := [(2, .inl x6), (1, .inl (m_rd h1 t 8)), (0, .inr (.inr t))]) (st' := [.inl (m_rd h1 t 8), .inr (.inr t)]) (h' := h5) (cs := []) (by decide +kernel) rfl trivial ?_
      obtain ⟨hc, hF⟩ := gd_of hF
      obtain ⟨x8, h7, hG, hF⟩ := bd_of hF
      refine RN.cv (i := 177) (k := 173) (q2 := iX12_makes) (as := [.inr (.inr t), .inl (m_rd h1 t 8)]) (r := []) (v := some (.inl x8)) (h1 := h7) (by decide +kernel) rfl rfl rfl rfl rfl (rcv_ok hc.1) (CX12_makes (d := d + 1) hG) ?_
      rcases it_of hF with ⟨hb, hF⟩ | ⟨hb, hF⟩
      · refine RN.iff (cd := .ne) (off := 5) (tgt := 78) (by decide +kernel) (mif_nen hb) ?_
        refine RN.blk (ops := [(76, .iconst 0)]) (pc' := 77) (lv' := [(2, .inl x6), (1, .inl (m_rd h1 t 8)), (0, .inr (.inr t))]) (st' := [.inl 0]) (h' := h7) (cs := []) (by decide +kernel) rfl trivial ?_
        exact RN.zR (by decide +kernel) rfl (Or.inl rfl) hF
      · refine RN.ift (cd := .ne) (off := 5) (tgt := 78) (by decide +kernel) (mif_ne hb) ?_
        refine RN.blk (ops := [(78, .aload_n 0)]) (pc' := 79) (lv' := [(2, .inl x6), (1, .inl (m_rd h1 t 8)), (0, .inr (.inr t))]) (st' := [.inr (.inr t)]) (h' := h7) (cs := []) (by decide +kernel) rfl trivial ?_
        obtain ⟨hc, hF⟩ := gd_of hF
        obtain ⟨h9, hG, hF⟩ := bv_of hF
        refine RN.cv (i := 114) (k := 168) (q2 := iX12_passWord) (as := [.inr (.inr t)]) (r := []) (v := none) (h1 := h9) (by decide +kernel) rfl rfl rfl rfl rfl (rcv_ok hc.1) (CX12_passWord (d := d + 1) hG) ?_
        refine RN.blk (ops := [(82, .aload_n 0), (83, .iconst 1), (84, .iload_n 2)]) (pc' := 85) (lv' := [(2, .inl x6), (1, .inl (m_rd h1 t 8)), (0, .inr (.inr t))]) (st' := [.inl x6, .inl 1, .inr (.inr t)]) (h' := h9) (cs := []) (by decide +kernel) rfl trivial ?_
        obtain ⟨hc, hF⟩ := gd_of hF
        obtain ⟨h10, hG, hF⟩ := bv_of hF
        refine RN.cv (i := 169) (k := 172) (q2 := iX12_puts) (as := [.inr (.inr t), .inl 1, .inl x6]) (r := []) (v := none) (h1 := h10) (by decide +kernel) rfl rfl rfl rfl rfl (rcv_ok hc.1) (CX12_puts (d := d + 2) hG) ?_
        refine RN.blk (ops := [(88, .iconst 1)]) (pc' := 89) (lv' := [(2, .inl x6), (1, .inl (m_rd h1 t 8)), (0, .inr (.inr t))]) (st' := [.inl 1]) (h' := h10) (cs := []) (by decide +kernel) rfl trivial ?_
        exact RN.zR (by decide +kernel) rfl (Or.inr rfl) hF
  · refine RN.iff (cd := .eq) (off := 34) (tgt := 52) (by decide +kernel) (mif_eqn hb) ?_
    refine RN.blk (ops := [(21, .aload_n 0), (22, .iconst 0), (23, .ldc 173)]) (pc' := 25) (lv' := [(1, .inl (m_rd h1 t 8)), (0, .inr (.inr t))]) (st' := [.inl 99999, .inl 0, .inr (.inr t)]) (h' := h3) (cs := []) (by decide +kernel) rfl trivial ?_
    obtain ⟨hc, hF⟩ := gd_of hF
    obtain ⟨x14, h13, hG, hF⟩ := bd_of hF
    refine RN.cv (i := 174) (k := 170) (q2 := iX12_numberHere) (as := [.inr (.inr t), .inl 0, .inl 99999]) (r := []) (v := some (.inl x14)) (h1 := h13) (by decide +kernel) rfl rfl rfl rfl rfl (rcv_ok hc.1) (CX12_numberHere (d := d + 1) hG) ?_
    rcases it_of hF with ⟨hb, hF⟩ | ⟨hb, hF⟩
    · refine RN.ift (cd := .eq) (off := 11) (tgt := 39) (by decide +kernel) (mif_eq hb) ?_
      refine RN.blk (ops := [(39, .iconst 0)]) (pc' := 40) (lv' := [(1, .inl (m_rd h1 t 8)), (0, .inr (.inr t))]) (st' := [.inl 0]) (h' := h13) (cs := []) (by decide +kernel) rfl trivial ?_
      exact RN.zR (by decide +kernel) rfl (Or.inl rfl) hF
    · refine RN.iff (cd := .eq) (off := 11) (tgt := 39) (by decide +kernel) (mif_eqn hb) ?_
      refine RN.blk (ops := [(31, .aload_n 0), (32, .iload_n 1)]) (pc' := 33) (lv' := [(1, .inl (m_rd h1 t 8)), (0, .inr (.inr t))]) (st' := [.inl (m_rd h1 t 8), .inr (.inr t)]) (h' := h13) (cs := []) (by decide +kernel) rfl trivial ?_
      obtain ⟨hc, hF⟩ := gd_of hF
      obtain ⟨x16, h15, hG, hF⟩ := bd_of hF
      refine RN.cv (i := 177) (k := 173) (q2 := iX12_makes) (as := [.inr (.inr t), .inl (m_rd h1 t 8)]) (r := []) (v := some (.inl x16)) (h1 := h15) (by decide +kernel) rfl rfl rfl rfl rfl (rcv_ok hc.1) (CX12_makes (d := d + 1) hG) ?_
      rcases it_of hF with ⟨hb, hF⟩ | ⟨hb, hF⟩
      · refine RN.iff (cd := .ne) (off := 5) (tgt := 41) (by decide +kernel) (mif_nen hb) ?_
        refine RN.blk (ops := [(39, .iconst 0)]) (pc' := 40) (lv' := [(1, .inl (m_rd h1 t 8)), (0, .inr (.inr t))]) (st' := [.inl 0]) (h' := h15) (cs := []) (by decide +kernel) rfl trivial ?_
        exact RN.zR (by decide +kernel) rfl (Or.inl rfl) hF
      · refine RN.ift (cd := .ne) (off := 5) (tgt := 41) (by decide +kernel) (mif_ne hb) ?_
        obtain ⟨hc, hF⟩ := gd_of hF
        refine RN.blk (ops := [(41, .aload_n 0), (42, .iconst 0), (43, .aload_n 0), (44, .getfield 124)]) (pc' := 47) (lv' := [(1, .inl (m_rd h1 t 8)), (0, .inr (.inr t))]) (st' := [.inl (m_rd h15 t 10), .inl 0, .inr (.inr t)]) (h' := h15) (cs := [GK h15 t 12]) (by decide +kernel) rfl hc ?_
        obtain ⟨hc, hF⟩ := gd_of hF
        obtain ⟨h17, hG, hF⟩ := bv_of hF
        refine RN.cv (i := 169) (k := 172) (q2 := iX12_puts) (as := [.inr (.inr t), .inl 0, .inl (m_rd h15 t 10)]) (r := []) (v := none) (h1 := h17) (by decide +kernel) rfl rfl rfl rfl rfl (rcv_ok hc.1) (CX12_puts (d := d + 2) hG) ?_
        refine RN.blk (ops := [(50, .iconst 1)]) (pc' := 51) (lv' := [(1, .inl (m_rd h1 t 8)), (0, .inr (.inr t))]) (st' := [.inl 1]) (h' := h17) (cs := []) (by decide +kernel) rfl trivial ?_
        exact RN.zR (by decide +kernel) rfl (Or.inr rfl) hF
noncomputable def FX12_term_L9 (u0 : Int) (K0 : MH → Option (Int × MH)) (K1 : MH → Option (Int × MH)) : Nat → MH → Option (Int × MH)
  | 0, _ => none
  | f + 1, h =>
    gd [GK h u0 12] (bd (FX12_see u0 h) (fun x2 h1 =>
     jn (fun (h4 : MH) =>
      gd [GK h4 u0 12, GK h4 u0 12, GB h4 (m_rd h4 u0 0) (m_rd h4 u0 8)] (
       jn (fun (s6 : Int) =>
        gd [GK h4 u0 12, GK h4 u0 12] (
         gd [GK h4 u0 12] (bd (FX12_value u0 (m_wr h4 u0 8 (m_w32 ((m_rd h4 u0 8) + 1)))) (fun x8 h7 =>
          (if x8 = 0 then
           K0 h7
          else
           gd [GK h7 u0 12] (bv (FX12_puts u0 s6 0 h7) (fun h9 =>
            FX12_term_L9 u0 K0 K1 f h9))))))) (fun j5 =>
        (if (m_rd h4 (m_rd h4 u0 0) (m_rd h4 u0 8)) = 42 then
         j5 4
        else
         gd [GK h4 u0 12, GK h4 u0 12, GB h4 (m_rd h4 u0 0) (m_rd h4 u0 8)] (
          (if (m_rd h4 (m_rd h4 u0 0) (m_rd h4 u0 8)) = 47 then
           j5 5
          else
           j5 14)))))) (fun j3 =>
      (if x2 = 42 then
       j3 h1
      else
       gd [GK h1 u0 12] (bd (FX12_see u0 h1) (fun x11 h10 =>
        (if x11 = 47 then
         j3 h10
        else
         gd [GK h10 u0 12] (bd (FX12_see u0 h10) (fun x13 h12 =>
          (if x13 = 37 then
           j3 h12
          else
           K1 h12))))))))))
theorem CX12_term_L9 {d : Nat} {u0 : Int} {K0 : MH → Option (Int × MH)} {K1 : MH → Option (Int × MH)} {r : Int × MH} (hK0 : ∀ (h : MH), K0 h = some r → RN xs L iX12_term (d + 4) 92 [] [] h (RIo r)) (hK1 : ∀ (h : MH), K1 h = some r → RN xs L iX12_term (d + 4) 103 [] [] h (RIo r)) : ∀ (f : Nat) (h : MH), FX12_term_L9 u0 K0 K1 f  h = some r → RN xs L iX12_term (d + 4) 9 [(0, .inr (.inr u0))] [] h (RIo r) := by
  intro f
  induction f with
  | zero =>
    intro h hF
    cases hF
  | succ f ih =>
    intro h hF
    unfold FX12_term_L9 at hF
    refine RN.blk (ops := [(9, .aload_n 0)]) (pc' := 10) (lv' := [(0, .inr (.inr u0))]) (st' := [.inr (.inr u0)]) (h' := h) (cs := []) (by decide +kernel) rfl trivial ?_
    obtain ⟨hc, hF⟩ := gd_of hF
    obtain ⟨x2, h1, hG, hF⟩ := bd_of hF
    refine RN.cv (i := 102) (k := 164) (q2 := iX12_see) (as := [.inr (.inr u0)]) (r := []) (v := some (.inl x2)) (h1 := h1) (by decide +kernel) rfl rfl rfl rfl rfl (rcv_ok hc.1) (CX12_see (d := d + 3) hG) ?_
    refine RN.blk (ops := [(13, .bipush 42)]) (pc' := 15) (lv' := [(0, .inr (.inr u0))]) (st' := [.inl 42, .inl x2]) (h' := h1) (cs := []) (by decide +kernel) rfl trivial ?_
    refine jn_use (fun j3 => ∀ (h4 : MH), j3 h4 = some r → RN xs L iX12_term (d + 4) 36 [(0, .inr (.inr u0))] [] h4 (RIo r)) ?_ ?_ hF
    · intro h4 hF
      obtain ⟨hc, hF⟩ := gd_of hF
      refine RN.blk (ops := [(36, .aload_n 0), (37, .getfield 7), (40, .aload_n 0), (41, .getfield 99), (44, .baload), (45, .bipush 42)]) (pc' := 47) (lv' := [(0, .inr (.inr u0))]) (st' := [.inl 42, .inl (m_rd h4 (m_rd h4 u0 0) (m_rd h4 u0 8))]) (h' := h4) (cs := [GK h4 u0 12, GK h4 u0 12, GB h4 (m_rd h4 u0 0) (m_rd h4 u0 8)]) (by decide +kernel) rfl hc ?_
      refine jn_use (fun j5 => ∀ (s6 : Int), j5 s6 = some r → RN xs L iX12_term (d + 4) 74 [(0, .inr (.inr u0))] [.inl s6] h4 (RIo r)) ?_ ?_ hF
      · intro s6 hF
        obtain ⟨hc, hF⟩ := gd_of hF
        refine RN.blk (ops := [(74, .istore_n 1), (75, .aload_n 0), (76, .dup), (77, .getfield 99), (80, .iconst 1), (81, .iadd), (82, .putfield 99), (85, .aload_n 0)]) (pc' := 86) (lv' := [(1, .inl s6), (0, .inr (.inr u0))]) (st' := [.inr (.inr u0)]) (h' := (m_wr h4 u0 8 (m_w32 ((m_rd h4 u0 8) + 1)))) (cs := [GK h4 u0 12, GK h4 u0 12]) (by decide +kernel) rfl hc ?_
        obtain ⟨hc, hF⟩ := gd_of hF
        obtain ⟨x8, h7, hG, hF⟩ := bd_of hF
        refine RN.cv (i := 183) (k := 177) (q2 := iX12_value) (as := [.inr (.inr u0)]) (r := []) (v := some (.inl x8)) (h1 := h7) (by decide +kernel) rfl rfl rfl rfl rfl (rcv_ok hc.1) (CX12_value (d := d) hG) ?_
        rcases it_of hF with ⟨hb, hF⟩ | ⟨hb, hF⟩
        · refine RN.iff (cd := .ne) (off := 5) (tgt := 94) (by decide +kernel) (mif_nen hb) ?_
          exact RN.sub (hK0 _ hF) sub_nil
        · refine RN.ift (cd := .ne) (off := 5) (tgt := 94) (by decide +kernel) (mif_ne hb) ?_
          refine RN.blk (ops := [(94, .aload_n 0), (95, .iload_n 1), (96, .iconst 0)]) (pc' := 97) (lv' := [(1, .inl s6), (0, .inr (.inr u0))]) (st' := [.inl 0, .inl s6, .inr (.inr u0)]) (h' := h7) (cs := []) (by decide +kernel) rfl trivial ?_
          obtain ⟨hc, hF⟩ := gd_of hF
          obtain ⟨h9, hG, hF⟩ := bv_of hF
          refine RN.cv (i := 169) (k := 172) (q2 := iX12_puts) (as := [.inr (.inr u0), .inl s6, .inl 0]) (r := []) (v := none) (h1 := h9) (by decide +kernel) rfl rfl rfl rfl rfl (rcv_ok hc.1) (CX12_puts (d := d + 3) hG) ?_
          refine RN.goto (off := -91) (tgt := 9) (by decide +kernel) ?_
          exact RN.sub (ih _ hF) (sub_cons rfl sub_nil)
      · intro j5 Jj5 hF
        rcases it_of hF with ⟨hb, hF⟩ | ⟨hb, hF⟩
        · refine RN.icf (cd := .ne) (off := 7) (tgt := 54) (by decide +kernel) (mif_nen hb) ?_
          refine RN.blk (ops := [(50, .iconst 4)]) (pc' := 51) (lv' := [(0, .inr (.inr u0))]) (st' := [.inl 4]) (h' := h4) (cs := []) (by decide +kernel) rfl trivial ?_
          refine RN.goto (off := 23) (tgt := 74) (by decide +kernel) ?_
          exact RN.sub (Jj5 _ hF) (sub_cons rfl sub_nil)
        · refine RN.ict (cd := .ne) (off := 7) (tgt := 54) (by decide +kernel) (mif_ne hb) ?_
          obtain ⟨hc, hF⟩ := gd_of hF
          refine RN.blk (ops := [(54, .aload_n 0), (55, .getfield 7), (58, .aload_n 0), (59, .getfield 99), (62, .baload), (63, .bipush 47)]) (pc' := 65) (lv' := [(0, .inr (.inr u0))]) (st' := [.inl 47, .inl (m_rd h4 (m_rd h4 u0 0) (m_rd h4 u0 8))]) (h' := h4) (cs := [GK h4 u0 12, GK h4 u0 12, GB h4 (m_rd h4 u0 0) (m_rd h4 u0 8)]) (by decide +kernel) rfl hc ?_
          rcases it_of hF with ⟨hb, hF⟩ | ⟨hb, hF⟩
          · refine RN.icf (cd := .ne) (off := 7) (tgt := 72) (by decide +kernel) (mif_nen hb) ?_
            refine RN.blk (ops := [(68, .iconst 5)]) (pc' := 69) (lv' := [(0, .inr (.inr u0))]) (st' := [.inl 5]) (h' := h4) (cs := []) (by decide +kernel) rfl trivial ?_
            refine RN.goto (off := 5) (tgt := 74) (by decide +kernel) ?_
            exact RN.sub (Jj5 _ hF) (sub_cons rfl sub_nil)
          · refine RN.ict (cd := .ne) (off := 7) (tgt := 72) (by decide +kernel) (mif_ne hb) ?_
            refine RN.blk (ops := [(72, .bipush 14)]) (pc' := 74) (lv' := [(0, .inr (.inr u0))]) (st' := [.inl 14]) (h' := h4) (cs := []) (by decide +kernel) rfl trivial ?_
            exact RN.sub (Jj5 _ hF) (sub_cons rfl sub_nil)
    · intro j3 Jj3 hF
      rcases it_of hF with ⟨hb, hF⟩ | ⟨hb, hF⟩
      · refine RN.ict (cd := .eq) (off := 21) (tgt := 36) (by decide +kernel) (mif_eq hb) ?_
        exact RN.sub (Jj3 _ hF) (sub_cons rfl sub_nil)
      · refine RN.icf (cd := .eq) (off := 21) (tgt := 36) (by decide +kernel) (mif_eqn hb) ?_
        refine RN.blk (ops := [(18, .aload_n 0)]) (pc' := 19) (lv' := [(0, .inr (.inr u0))]) (st' := [.inr (.inr u0)]) (h' := h1) (cs := []) (by decide +kernel) rfl trivial ?_
        obtain ⟨hc, hF⟩ := gd_of hF
        obtain ⟨x11, h10, hG, hF⟩ := bd_of hF
        refine RN.cv (i := 102) (k := 164) (q2 := iX12_see) (as := [.inr (.inr u0)]) (r := []) (v := some (.inl x11)) (h1 := h10) (by decide +kernel) rfl rfl rfl rfl rfl (rcv_ok hc.1) (CX12_see (d := d + 3) hG) ?_
        refine RN.blk (ops := [(22, .bipush 47)]) (pc' := 24) (lv' := [(0, .inr (.inr u0))]) (st' := [.inl 47, .inl x11]) (h' := h10) (cs := []) (by decide +kernel) rfl trivial ?_
        rcases it_of hF with ⟨hb, hF⟩ | ⟨hb, hF⟩
        · refine RN.ict (cd := .eq) (off := 12) (tgt := 36) (by decide +kernel) (mif_eq hb) ?_
          exact RN.sub (Jj3 _ hF) (sub_cons rfl sub_nil)
        · refine RN.icf (cd := .eq) (off := 12) (tgt := 36) (by decide +kernel) (mif_eqn hb) ?_
          refine RN.blk (ops := [(27, .aload_n 0)]) (pc' := 28) (lv' := [(0, .inr (.inr u0))]) (st' := [.inr (.inr u0)]) (h' := h10) (cs := []) (by decide +kernel) rfl trivial ?_
          obtain ⟨hc, hF⟩ := gd_of hF
          obtain ⟨x13, h12, hG, hF⟩ := bd_of hF
          refine RN.cv (i := 102) (k := 164) (q2 := iX12_see) (as := [.inr (.inr u0)]) (r := []) (v := some (.inl x13)) (h1 := h12) (by decide +kernel) rfl rfl rfl rfl rfl (rcv_ok hc.1) (CX12_see (d := d + 3) hG) ?_
          refine RN.blk (ops := [(31, .bipush 37)]) (pc' := 33) (lv' := [(0, .inr (.inr u0))]) (st' := [.inl 37, .inl x13]) (h' := h12) (cs := []) (by decide +kernel) rfl trivial ?_
          rcases it_of hF with ⟨hb, hF⟩ | ⟨hb, hF⟩
          · refine RN.icf (cd := .ne) (off := 70) (tgt := 103) (by decide +kernel) (mif_nen hb) ?_
            exact RN.sub (Jj3 _ hF) (sub_cons rfl sub_nil)
          · refine RN.ict (cd := .ne) (off := 70) (tgt := 103) (by decide +kernel) (mif_ne hb) ?_
            exact RN.sub (hK1 _ hF) sub_nil
noncomputable def FX12_term (t : Int) (h : MH) : Option (Int × MH) :=
  gd [GK h t 12] (bd (FX12_value t h) (fun x2 h1 =>
   (if x2 = 0 then
    some (0, h1)
   else
    FX12_term_L9 t (fun h3 =>
     some (0, h3)) (fun h4 =>
     some (1, h4)) FU h1)))
theorem CX12_term {d : Nat} {t : Int} {h : MH} {r : Int × MH} (hF : FX12_term t h = some r) : RN xs L iX12_term (d + 4) 0 (lvE 0 [.inr (.inr t)]) [] h (RIo r) := by
  unfold FX12_term at hF
  refine RN.blk (ops := [(0, .aload_n 0)]) (pc' := 1) (lv' := [(0, .inr (.inr t))]) (st' := [.inr (.inr t)]) (h' := h) (cs := []) (by decide +kernel) rfl trivial ?_
  obtain ⟨hc, hF⟩ := gd_of hF
  obtain ⟨x2, h1, hG, hF⟩ := bd_of hF
  refine RN.cv (i := 183) (k := 177) (q2 := iX12_value) (as := [.inr (.inr t)]) (r := []) (v := some (.inl x2)) (h1 := h1) (by decide +kernel) rfl rfl rfl rfl rfl (rcv_ok hc.1) (CX12_value (d := d) hG) ?_
  rcases it_of hF with ⟨hb, hF⟩ | ⟨hb, hF⟩
  · refine RN.iff (cd := .ne) (off := 5) (tgt := 9) (by decide +kernel) (mif_nen hb) ?_
    refine RN.blk (ops := [(7, .iconst 0)]) (pc' := 8) (lv' := [(0, .inr (.inr t))]) (st' := [.inl 0]) (h' := h1) (cs := []) (by decide +kernel) rfl trivial ?_
    exact RN.zR (by decide +kernel) rfl (Or.inl rfl) hF
  · refine RN.ift (cd := .ne) (off := 5) (tgt := 9) (by decide +kernel) (mif_ne hb) ?_
    refine RN.sub (CX12_term_L9 ?_ ?_ _ _ hF) (sub_cons rfl sub_nil)
    · intro h3 hF
      refine RN.blk (ops := [(92, .iconst 0)]) (pc' := 93) (lv' := []) (st' := [.inl 0]) (h' := h3) (cs := []) (by decide +kernel) rfl trivial ?_
      exact RN.zR (by decide +kernel) rfl (Or.inl rfl) hF
    · intro h4 hF
      refine RN.blk (ops := [(103, .iconst 1)]) (pc' := 104) (lv' := []) (st' := [.inl 1]) (h' := h4) (cs := []) (by decide +kernel) rfl trivial ?_
      exact RN.zR (by decide +kernel) rfl (Or.inr rfl) hF
end Dc
