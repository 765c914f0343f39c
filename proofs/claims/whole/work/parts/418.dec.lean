/-! METHODS AS FUNCTIONS, and their certificates (by program): X12_fillsCanBe, X12_said, X12_sent, X12_seed, X12_draw, X12_posts, X12_count, X12_image, X12_back -/
section Dc
variable {xs : Int → Int} {L : Int}
noncomputable def FX12_fillsCanBe_L14 (u0 : Int) (u1 : Int) (u2 : Int) (u3 : Int) (K0 : MH → Option (MH)) : Nat → Int → MH → Option (MH)
  | 0, _, _ => none
  | f + 1, v4, h =>
    (if v4 < u2 then
     gd [GK h u0 12, GI h (m_rd h u0 20) 1 u1] (
      gd [GK h u0 12] (bv (FX12_begins u0 (m_wr h (m_rd h u0 20) u1 v4)) (fun h1 =>
       gd [GK h1 u0 12] (
        gd [GK h1 u0 12] (bd (FX12_areAllSo u0 0 (-1) h1) (fun x3 h2 =>
         gd [GB h2 (m_rd h1 u0 36) v4] (
          FX12_fillsCanBe_L14 u0 u1 u2 u3 K0 f (m_w32 (v4 + 1)) (m_wr h2 (m_rd h1 u0 36) v4 (m_bst h2 (m_rd h1 u0 36) x3)))))))))
    else
     K0 h)
theorem CX12_fillsCanBe_L14 {d : Nat} {u0 : Int} {u1 : Int} {u2 : Int} {u3 : Int} {K0 : MH → Option (MH)} {r : MH} (hK0 : ∀ (h : MH), K0 h = some r → RN xs L iX12_fillsCanBe (d + 8) 51 [(0, .inr (.inr u0)), (1, .inl u1), (3, .inl u3)] [] h (RVo r)) : ∀ (f : Nat) (v4 : Int) (h : MH), FX12_fillsCanBe_L14 u0 u1 u2 u3 K0 f v4 h = some r → RN xs L iX12_fillsCanBe (d + 8) 14 [(0, .inr (.inr u0)), (1, .inl u1), (2, .inl u2), (3, .inl u3), (4, .inl v4)] [] h (RVo r) := by
  intro f
  induction f with
  | zero =>
    intro v4 h hF
    cases hF
  | succ f ih =>
    intro v4 h hF
    unfold FX12_fillsCanBe_L14 at hF
    refine RN.blk (ops := [(14, .iload 4), (16, .iload_n 2)]) (pc' := 17) (lv' := [(0, .inr (.inr u0)), (1, .inl u1), (2, .inl u2), (3, .inl u3), (4, .inl v4)]) (st' := [.inl u2, .inl v4]) (h' := h) (cs := []) (by decide +kernel) rfl trivial ?_
    rcases it_of hF with ⟨hb, hF⟩ | ⟨hb, hF⟩
    · refine RN.icf (cd := .ge) (off := 34) (tgt := 51) (by decide +kernel) (mif_gen hb) ?_
      obtain ⟨hc, hF⟩ := gd_of hF
      refine RN.blk (ops := [(20, .aload_n 0), (21, .getfield 39), (24, .iload_n 1), (25, .iload 4), (27, .iastore), (28, .aload_n 0)]) (pc' := 29) (lv' := [(0, .inr (.inr u0)), (1, .inl u1), (2, .inl u2), (3, .inl u3), (4, .inl v4)]) (st' := [.inr (.inr u0)]) (h' := (m_wr h (m_rd h u0 20) u1 v4)) (cs := [GK h u0 12, GI h (m_rd h u0 20) 1 u1]) (by decide +kernel) rfl hc ?_
      obtain ⟨hc, hF⟩ := gd_of hF
      obtain ⟨h1, hG, hF⟩ := bv_of hF
      refine RN.cv (i := 274) (k := 211) (q2 := iX12_begins) (as := [.inr (.inr u0)]) (r := []) (v := none) (h1 := h1) (by decide +kernel) rfl rfl rfl rfl rfl (rcv_ok hc.1) (CX12_begins (d := d + 7) hG) ?_
      obtain ⟨hc, hF⟩ := gd_of hF
      refine RN.blk (ops := [(32, .aload_n 0), (33, .getfield 74), (36, .iload 4), (38, .aload_n 0), (39, .iconst 0), (40, .iconst (-1))]) (pc' := 41) (lv' := [(0, .inr (.inr u0)), (1, .inl u1), (2, .inl u2), (3, .inl u3), (4, .inl v4)]) (st' := [.inl (-1), .inl 0, .inr (.inr u0), .inl v4, .inr (.inr (m_rd h1 u0 36))]) (h' := h1) (cs := [GK h1 u0 12]) (by decide +kernel) rfl hc ?_
      obtain ⟨hc, hF⟩ := gd_of hF
      obtain ⟨x3, h2, hG, hF⟩ := bd_of hF
      refine RN.cv (i := 453) (k := 268) (q2 := iX12_areAllSo) (as := [.inr (.inr u0), .inl 0, .inl (-1)]) (r := [.inl v4, .inr (.inr (m_rd h1 u0 36))]) (v := some (.inl x3)) (h1 := h2) (by decide +kernel) rfl rfl rfl rfl rfl (rcv_ok hc.1) (CX12_areAllSo (d := d) hG) ?_
      obtain ⟨hc, hF⟩ := gd_of hF
      refine RN.blk (ops := [(44, .bastore), (45, .iinc 4 1)]) (pc' := 48) (lv' := [(4, .inl (m_w32 (v4 + 1))), (0, .inr (.inr u0)), (1, .inl u1), (2, .inl u2), (3, .inl u3)]) (st' := []) (h' := (m_wr h2 (m_rd h1 u0 36) v4 (m_bst h2 (m_rd h1 u0 36) x3))) (cs := [GB h2 (m_rd h1 u0 36) v4]) (by decide +kernel) rfl hc ?_
      refine RN.goto (off := -34) (tgt := 14) (by decide +kernel) ?_
      exact RN.sub (ih _ _ hF) (sub_cons rfl (sub_cons rfl (sub_cons rfl (sub_cons rfl (sub_cons rfl sub_nil)))))
    · refine RN.ict (cd := .ge) (off := 34) (tgt := 51) (by decide +kernel) (mif_ge hb) ?_
      exact RN.sub (hK0 _ hF) (sub_cons rfl (sub_cons rfl (sub_cons rfl sub_nil)))
noncomputable def FX12_fillsCanBe (t : Int) (a1 : Int) (a2 : Int) (h : MH) : Option (MH) :=
  gd [GK h t 12, GI h (m_rd h t 20) 1 a1] (
   gd [GK h t 12] (bv (FX12_keeps t h) (fun h1 =>
    FX12_fillsCanBe_L14 t a1 a2 (m_rd h (m_rd h t 20) a1) (fun h2 =>
     gd [GK h2 t 12, GI h2 (m_rd h2 t 20) 1 a1] (
      gd [GK h2 t 12] (bv (FX12_laysBack t (m_wr h2 (m_rd h2 t 20) a1 (m_rd h (m_rd h t 20) a1))) (fun h3 =>
       some h3)))) FU 0 h1)))
theorem CX12_fillsCanBe {d : Nat} {t : Int} {a1 : Int} {a2 : Int} {h : MH} {r : MH} (hF : FX12_fillsCanBe t a1 a2 h = some r) : RN xs L iX12_fillsCanBe (d + 8) 0 (lvE 0 [.inr (.inr t), .inl a1, .inl a2]) [] h (RVo r) := by
  unfold FX12_fillsCanBe at hF
  obtain ⟨hc, hF⟩ := gd_of hF
  refine RN.blk (ops := [(0, .aload_n 0), (1, .getfield 39), (4, .iload_n 1), (5, .iaload), (6, .istore_n 3), (7, .aload_n 0)]) (pc' := 8) (lv' := [(3, .inl (m_rd h (m_rd h t 20) a1)), (0, .inr (.inr t)), (1, .inl a1), (2, .inl a2)]) (st' := [.inr (.inr t)]) (h' := h) (cs := [GK h t 12, GI h (m_rd h t 20) 1 a1]) (by decide +kernel) rfl hc ?_
  obtain ⟨hc, hF⟩ := gd_of hF
  obtain ⟨h1, hG, hF⟩ := bv_of hF
  refine RN.cv (i := 422) (k := 253) (q2 := iX12_keeps) (as := [.inr (.inr t)]) (r := []) (v := none) (h1 := h1) (by decide +kernel) rfl rfl rfl rfl rfl (rcv_ok hc.1) (CX12_keeps (d := d + 7) hG) ?_
  refine RN.blk (ops := [(11, .iconst 0), (12, .istore 4)]) (pc' := 14) (lv' := [(4, .inl 0), (3, .inl (m_rd h (m_rd h t 20) a1)), (0, .inr (.inr t)), (1, .inl a1), (2, .inl a2)]) (st' := []) (h' := h1) (cs := []) (by decide +kernel) rfl trivial ?_
  refine RN.sub (CX12_fillsCanBe_L14 ?_ _ _ _ hF) (sub_cons rfl (sub_cons rfl (sub_cons rfl (sub_cons rfl (sub_cons rfl sub_nil)))))
  · intro h2 hF
    obtain ⟨hc, hF⟩ := gd_of hF
    refine RN.blk (ops := [(51, .aload_n 0), (52, .getfield 39), (55, .iload_n 1), (56, .iload_n 3), (57, .iastore), (58, .aload_n 0)]) (pc' := 59) (lv' := [(0, .inr (.inr t)), (1, .inl a1), (3, .inl (m_rd h (m_rd h t 20) a1))]) (st' := [.inr (.inr t)]) (h' := (m_wr h2 (m_rd h2 t 20) a1 (m_rd h (m_rd h t 20) a1))) (cs := [GK h2 t 12, GI h2 (m_rd h2 t 20) 1 a1]) (by decide +kernel) rfl hc ?_
    obtain ⟨hc, hF⟩ := gd_of hF
    obtain ⟨h3, hG, hF⟩ := bv_of hF
    refine RN.cv (i := 414) (k := 254) (q2 := iX12_laysBack) (as := [.inr (.inr t)]) (r := []) (v := none) (h1 := h3) (by decide +kernel) rfl rfl rfl rfl rfl (rcv_ok hc.1) (CX12_laysBack (d := d + 7) hG) ?_
    exact RN.vR (by decide +kernel) rfl hF
noncomputable def FX12_said_L52 (u0 : Int) (u2 : Int) (K0 : Int → Int → MH → Option (Int × MH)) : Nat → Int → Int → Int → MH → Option (Int × MH)
  | 0, _, _, _, _ => none
  | f + 1, v3, v4, v5, h =>
    (if v5 < 0 then
     K0 v3 v4 h
    else
     gd [GK h u0 12, GB h (m_rd h u0 36) v5] (
      (if (m_rd h (m_rd h u0 36) v5) = 0 then
       FX12_said_L52 u0 u2 K0 f v3 v4 (m_w32 (v5 + (-1))) h
      else
       FX12_said_L52 u0 u2 K0 f (m_w32 (v3 + 1)) v5 (m_w32 (v5 + (-1))) h)))
theorem CX12_said_L52 {d : Nat} {u0 : Int} {u2 : Int} {K0 : Int → Int → MH → Option (Int × MH)} {r : Int × MH} (hK0 : ∀ (w3 : Int) (w4 : Int) (h : MH), K0 w3 w4 h = some r → RN xs L iX12_said (d + 9) 83 [(2, .inl u2), (3, .inl w3), (4, .inl w4)] [] h (RIo r)) : ∀ (f : Nat) (v3 : Int) (v4 : Int) (v5 : Int) (h : MH), FX12_said_L52 u0 u2 K0 f v3 v4 v5 h = some r → RN xs L iX12_said (d + 9) 52 [(0, .inr (.inr u0)), (2, .inl u2), (3, .inl v3), (4, .inl v4), (5, .inl v5)] [] h (RIo r) := by
  intro f
  induction f with
  | zero =>
    intro v3 v4 v5 h hF
    cases hF
  | succ f ih =>
    intro v3 v4 v5 h hF
    unfold FX12_said_L52 at hF
    refine RN.blk (ops := [(52, .iload 5)]) (pc' := 54) (lv' := [(0, .inr (.inr u0)), (2, .inl u2), (3, .inl v3), (4, .inl v4), (5, .inl v5)]) (st' := [.inl v5]) (h' := h) (cs := []) (by decide +kernel) rfl trivial ?_
    rcases it_of hF with ⟨hb, hF⟩ | ⟨hb, hF⟩
    · refine RN.ift (cd := .lt) (off := 29) (tgt := 83) (by decide +kernel) (mif_lt hb) ?_
      exact RN.sub (hK0 _ _ _ hF) (sub_cons rfl (sub_cons rfl (sub_cons rfl sub_nil)))
    · refine RN.iff (cd := .lt) (off := 29) (tgt := 83) (by decide +kernel) (mif_ltn hb) ?_
      obtain ⟨hc, hF⟩ := gd_of hF
      refine RN.blk (ops := [(57, .aload_n 0), (58, .getfield 74), (61, .iload 5), (63, .baload)]) (pc' := 64) (lv' := [(0, .inr (.inr u0)), (2, .inl u2), (3, .inl v3), (4, .inl v4), (5, .inl v5)]) (st' := [.inl (m_rd h (m_rd h u0 36) v5)]) (h' := h) (cs := [GK h u0 12, GB h (m_rd h u0 36) v5]) (by decide +kernel) rfl hc ?_
      rcases it_of hF with ⟨hb, hF⟩ | ⟨hb, hF⟩
      · refine RN.iff (cd := .ne) (off := 6) (tgt := 70) (by decide +kernel) (mif_nen hb) ?_
        refine RN.goto (off := 10) (tgt := 77) (by decide +kernel) ?_
        refine RN.blk (ops := [(77, .iinc 5 (-1))]) (pc' := 80) (lv' := [(5, .inl (m_w32 (v5 + (-1)))), (0, .inr (.inr u0)), (2, .inl u2), (3, .inl v3), (4, .inl v4)]) (st' := []) (h' := h) (cs := []) (by decide +kernel) rfl trivial ?_
        refine RN.goto (off := -28) (tgt := 52) (by decide +kernel) ?_
        exact RN.sub (ih _ _ _ _ hF) (sub_cons rfl (sub_cons rfl (sub_cons rfl (sub_cons rfl (sub_cons rfl sub_nil)))))
      · refine RN.ift (cd := .ne) (off := 6) (tgt := 70) (by decide +kernel) (mif_ne hb) ?_
        refine RN.blk (ops := [(70, .iinc 3 1), (73, .iload 5), (75, .istore 4)]) (pc' := 77) (lv' := [(4, .inl v5), (3, .inl (m_w32 (v3 + 1))), (0, .inr (.inr u0)), (2, .inl u2), (5, .inl v5)]) (st' := []) (h' := h) (cs := []) (by decide +kernel) rfl trivial ?_
        refine RN.blk (ops := [(77, .iinc 5 (-1))]) (pc' := 80) (lv' := [(5, .inl (m_w32 (v5 + (-1)))), (4, .inl v5), (3, .inl (m_w32 (v3 + 1))), (0, .inr (.inr u0)), (2, .inl u2)]) (st' := []) (h' := h) (cs := []) (by decide +kernel) rfl trivial ?_
        refine RN.goto (off := -28) (tgt := 52) (by decide +kernel) ?_
        exact RN.sub (ih _ _ _ _ hF) (sub_cons rfl (sub_cons rfl (sub_cons rfl (sub_cons rfl (sub_cons rfl sub_nil)))))
noncomputable def FX12_said (t : Int) (a1 : Int) (a2 : Int) (h : MH) : Option (Int × MH) :=
  (if a1 < 0 then
   some ((-1), h)
  else
   gd [GK h t 12, GI h (m_rd h t 20) 1 5] (
    (if a1 < (m_rd h (m_rd h t 20) 5) then
     (bd (FX12_in a2 0 1 h) (fun x2 h1 =>
      (if x2 = 0 then
       some ((-1), h1)
      else
       gd [GK h1 t 12] (bd (FX12_codesMany t h1) (fun x4 h3 =>
        gd [GK h3 t 12] (bv (FX12_fillsCanBe t (m_w32 (124 + a1)) x4 h3) (fun h5 =>
         gd [GK h5 t 12] (bd (FX12_codesMany t h5) (fun x7 h6 =>
          FX12_said_L52 t a2 (fun w8 w9 h10 =>
           (if a2 = 0 then
            some (w8, h10)
           else
            some (w9, h10))) FU 0 (-2) (m_w32 (x7 - 1)) h6)))))))))
    else
     some ((-1), h))))
theorem CX12_said {d : Nat} {t : Int} {a1 : Int} {a2 : Int} {h : MH} {r : Int × MH} (hF : FX12_said t a1 a2 h = some r) : RN xs L iX12_said (d + 9) 0 (lvE 0 [.inr (.inr t), .inl a1, .inl a2]) [] h (RIo r) := by
  unfold FX12_said at hF
  refine RN.blk (ops := [(0, .iload_n 1)]) (pc' := 1) (lv' := [(0, .inr (.inr t)), (1, .inl a1), (2, .inl a2)]) (st' := [.inl a1]) (h' := h) (cs := []) (by decide +kernel) rfl trivial ?_
  rcases it_of hF with ⟨hb, hF⟩ | ⟨hb, hF⟩
  · refine RN.ift (cd := .lt) (off := 23) (tgt := 24) (by decide +kernel) (mif_lt hb) ?_
    refine RN.blk (ops := [(24, .iconst (-1))]) (pc' := 25) (lv' := [(0, .inr (.inr t)), (1, .inl a1), (2, .inl a2)]) (st' := [.inl (-1)]) (h' := h) (cs := []) (by decide +kernel) rfl trivial ?_
    exact RN.iR (by decide +kernel) rfl hF
  · refine RN.iff (cd := .lt) (off := 23) (tgt := 24) (by decide +kernel) (mif_ltn hb) ?_
    obtain ⟨hc, hF⟩ := gd_of hF
    refine RN.blk (ops := [(4, .iload_n 1), (5, .aload_n 0), (6, .getfield 39), (9, .iconst 5), (10, .iaload)]) (pc' := 11) (lv' := [(0, .inr (.inr t)), (1, .inl a1), (2, .inl a2)]) (st' := [.inl (m_rd h (m_rd h t 20) 5), .inl a1]) (h' := h) (cs := [GK h t 12, GI h (m_rd h t 20) 1 5]) (by decide +kernel) rfl hc ?_
    rcases it_of hF with ⟨hb, hF⟩ | ⟨hb, hF⟩
    · refine RN.icf (cd := .ge) (off := 13) (tgt := 24) (by decide +kernel) (mif_gen hb) ?_
      refine RN.blk (ops := [(14, .iload_n 2), (15, .i2l), (16, .lconst 0), (17, .lconst 1)]) (pc' := 18) (lv' := [(0, .inr (.inr t)), (1, .inl a1), (2, .inl a2)]) (st' := [.inr (.inl 1), .inr (.inl 0), .inr (.inl a2)]) (h' := h) (cs := []) (by decide +kernel) rfl trivial ?_
      obtain ⟨x2, h1, hG, hF⟩ := bd_of hF
      refine RN.cst (i := 127) (k := 156) (q2 := iX12_in) (as := [.inr (.inl a2), .inr (.inl 0), .inr (.inl 1)]) (r := []) (v := some (.inl x2)) (h1 := h1) (by decide +kernel) rfl rfl rfl rfl rfl (CX12_in (d := d + 8) hG) ?_
      rcases it_of hF with ⟨hb, hF⟩ | ⟨hb, hF⟩
      · refine RN.iff (cd := .ne) (off := 5) (tgt := 26) (by decide +kernel) (mif_nen hb) ?_
        refine RN.blk (ops := [(24, .iconst (-1))]) (pc' := 25) (lv' := [(0, .inr (.inr t)), (1, .inl a1), (2, .inl a2)]) (st' := [.inl (-1)]) (h' := h1) (cs := []) (by decide +kernel) rfl trivial ?_
        exact RN.iR (by decide +kernel) rfl hF
      · refine RN.ift (cd := .ne) (off := 5) (tgt := 26) (by decide +kernel) (mif_ne hb) ?_
        refine RN.blk (ops := [(26, .iconst 0), (27, .istore_n 3), (28, .bipush (-2)), (30, .istore 4), (32, .aload_n 0), (33, .bipush 124), (35, .iload_n 1), (36, .iadd), (37, .aload_n 0)]) (pc' := 38) (lv' := [(4, .inl (-2)), (3, .inl 0), (0, .inr (.inr t)), (1, .inl a1), (2, .inl a2)]) (st' := [.inr (.inr t), .inl (m_w32 (124 + a1)), .inr (.inr t)]) (h' := h1) (cs := []) (by decide +kernel) rfl trivial ?_
        obtain ⟨hc, hF⟩ := gd_of hF
        obtain ⟨x4, h3, hG, hF⟩ := bd_of hF
        refine RN.cv (i := 298) (k := 203) (q2 := iX12_codesMany) (as := [.inr (.inr t)]) (r := [.inl (m_w32 (124 + a1)), .inr (.inr t)]) (v := some (.inl x4)) (h1 := h3) (by decide +kernel) rfl rfl rfl rfl rfl (rcv_ok hc.1) (CX12_codesMany (d := d + 7) hG) ?_
        obtain ⟨hc, hF⟩ := gd_of hF
        obtain ⟨h5, hG, hF⟩ := bv_of hF
        refine RN.cv (i := 462) (k := 273) (q2 := iX12_fillsCanBe) (as := [.inr (.inr t), .inl (m_w32 (124 + a1)), .inl x4]) (r := []) (v := none) (h1 := h5) (by decide +kernel) rfl rfl rfl rfl rfl (rcv_ok hc.1) (CX12_fillsCanBe (d := d) hG) ?_
        refine RN.blk (ops := [(44, .aload_n 0)]) (pc' := 45) (lv' := [(4, .inl (-2)), (3, .inl 0), (0, .inr (.inr t)), (1, .inl a1), (2, .inl a2)]) (st' := [.inr (.inr t)]) (h' := h5) (cs := []) (by decide +kernel) rfl trivial ?_
        obtain ⟨hc, hF⟩ := gd_of hF
        obtain ⟨x7, h6, hG, hF⟩ := bd_of hF
        refine RN.cv (i := 298) (k := 203) (q2 := iX12_codesMany) (as := [.inr (.inr t)]) (r := []) (v := some (.inl x7)) (h1 := h6) (by decide +kernel) rfl rfl rfl rfl rfl (rcv_ok hc.1) (CX12_codesMany (d := d + 7) hG) ?_
        refine RN.blk (ops := [(48, .iconst 1), (49, .isub), (50, .istore 5)]) (pc' := 52) (lv' := [(5, .inl (m_w32 (x7 - 1))), (4, .inl (-2)), (3, .inl 0), (0, .inr (.inr t)), (1, .inl a1), (2, .inl a2)]) (st' := []) (h' := h6) (cs := []) (by decide +kernel) rfl trivial ?_
        refine RN.sub (CX12_said_L52 ?_ _ _ _ _ _ hF) (sub_cons rfl (sub_cons rfl (sub_cons rfl (sub_cons rfl (sub_cons rfl sub_nil)))))
        · intro w8 w9 h10 hF
          refine RN.blk (ops := [(83, .iload_n 2)]) (pc' := 84) (lv' := [(2, .inl a2), (3, .inl w8), (4, .inl w9)]) (st' := [.inl a2]) (h' := h10) (cs := []) (by decide +kernel) rfl trivial ?_
          rcases it_of hF with ⟨hb, hF⟩ | ⟨hb, hF⟩
          · refine RN.iff (cd := .ne) (off := 7) (tgt := 91) (by decide +kernel) (mif_nen hb) ?_
            refine RN.blk (ops := [(87, .iload_n 3)]) (pc' := 88) (lv' := [(2, .inl a2), (3, .inl w8), (4, .inl w9)]) (st' := [.inl w8]) (h' := h10) (cs := []) (by decide +kernel) rfl trivial ?_
            refine RN.goto (off := 5) (tgt := 93) (by decide +kernel) ?_
            exact RN.iR (by decide +kernel) rfl hF
          · refine RN.ift (cd := .ne) (off := 7) (tgt := 91) (by decide +kernel) (mif_ne hb) ?_
            refine RN.blk (ops := [(91, .iload 4)]) (pc' := 93) (lv' := [(2, .inl a2), (3, .inl w8), (4, .inl w9)]) (st' := [.inl w9]) (h' := h10) (cs := []) (by decide +kernel) rfl trivial ?_
            exact RN.iR (by decide +kernel) rfl hF
    · refine RN.ict (cd := .ge) (off := 13) (tgt := 24) (by decide +kernel) (mif_ge hb) ?_
      refine RN.blk (ops := [(24, .iconst (-1))]) (pc' := 25) (lv' := [(0, .inr (.inr t)), (1, .inl a1), (2, .inl a2)]) (st' := [.inl (-1)]) (h' := h) (cs := []) (by decide +kernel) rfl trivial ?_
      exact RN.iR (by decide +kernel) rfl hF
noncomputable def FX12_sent_L38 (u0 : Int) (K0 : Int → MH → Option (Int × MH)) : Nat → Int → Int → MH → Option (Int × MH)
  | 0, _, _, _ => none
  | f + 1, v2, v3, h =>
    gd [GK h u0 12, GI h (m_rd h u0 20) 1 3] (
     (if v3 < (m_rd h (m_rd h u0 20) 3) then
      gd [GK h u0 12, GB h (m_rd h u0 36) v3] (
       (if (m_rd h (m_rd h u0 36) v3) = 0 then
        FX12_sent_L38 u0 K0 f (m_bor v2 0) (m_w32 (v3 + 1)) h
       else
        FX12_sent_L38 u0 K0 f (m_bor v2 (m_shl 1 v3)) (m_w32 (v3 + 1)) h))
     else
      K0 v2 h))
theorem CX12_sent_L38 {d : Nat} {u0 : Int} {K0 : Int → MH → Option (Int × MH)} {r : Int × MH} (hK0 : ∀ (w2 : Int) (h : MH), K0 w2 h = some r → RN xs L iX12_sent (d + 9) 73 [(2, .inl w2)] [] h (RIo r)) : ∀ (f : Nat) (v2 : Int) (v3 : Int) (h : MH), FX12_sent_L38 u0 K0 f v2 v3 h = some r → RN xs L iX12_sent (d + 9) 38 [(0, .inr (.inr u0)), (2, .inl v2), (3, .inl v3)] [] h (RIo r) := by
  intro f
  induction f with
  | zero =>
    intro v2 v3 h hF
    cases hF
  | succ f ih =>
    intro v2 v3 h hF
    unfold FX12_sent_L38 at hF
    obtain ⟨hc, hF⟩ := gd_of hF
    refine RN.blk (ops := [(38, .iload_n 3), (39, .aload_n 0), (40, .getfield 39), (43, .iconst 3), (44, .iaload)]) (pc' := 45) (lv' := [(0, .inr (.inr u0)), (2, .inl v2), (3, .inl v3)]) (st' := [.inl (m_rd h (m_rd h u0 20) 3), .inl v3]) (h' := h) (cs := [GK h u0 12, GI h (m_rd h u0 20) 1 3]) (by decide +kernel) rfl hc ?_
    rcases it_of hF with ⟨hb, hF⟩ | ⟨hb, hF⟩
    · refine RN.icf (cd := .ge) (off := 28) (tgt := 73) (by decide +kernel) (mif_gen hb) ?_
      obtain ⟨hc, hF⟩ := gd_of hF
      refine RN.blk (ops := [(48, .iload_n 2), (49, .aload_n 0), (50, .getfield 74), (53, .iload_n 3), (54, .baload)]) (pc' := 55) (lv' := [(0, .inr (.inr u0)), (2, .inl v2), (3, .inl v3)]) (st' := [.inl (m_rd h (m_rd h u0 36) v3), .inl v2]) (h' := h) (cs := [GK h u0 12, GB h (m_rd h u0 36) v3]) (by decide +kernel) rfl hc ?_
      rcases it_of hF with ⟨hb, hF⟩ | ⟨hb, hF⟩
      · refine RN.ift (cd := .eq) (off := 9) (tgt := 64) (by decide +kernel) (mif_eq hb) ?_
        refine RN.blk (ops := [(64, .iconst 0)]) (pc' := 65) (lv' := [(0, .inr (.inr u0)), (2, .inl v2), (3, .inl v3)]) (st' := [.inl 0, .inl v2]) (h' := h) (cs := []) (by decide +kernel) rfl trivial ?_
        refine RN.blk (ops := [(65, .ior), (66, .istore_n 2), (67, .iinc 3 1)]) (pc' := 70) (lv' := [(3, .inl (m_w32 (v3 + 1))), (2, .inl (m_bor v2 0)), (0, .inr (.inr u0))]) (st' := []) (h' := h) (cs := []) (by decide +kernel) rfl trivial ?_
        refine RN.goto (off := -32) (tgt := 38) (by decide +kernel) ?_
        exact RN.sub (ih _ _ _ hF) (sub_cons rfl (sub_cons rfl (sub_cons rfl sub_nil)))
      · refine RN.iff (cd := .eq) (off := 9) (tgt := 64) (by decide +kernel) (mif_eqn hb) ?_
        refine RN.blk (ops := [(58, .iconst 1), (59, .iload_n 3), (60, .ishl)]) (pc' := 61) (lv' := [(0, .inr (.inr u0)), (2, .inl v2), (3, .inl v3)]) (st' := [.inl (m_shl 1 v3), .inl v2]) (h' := h) (cs := []) (by decide +kernel) rfl trivial ?_
        refine RN.goto (off := 4) (tgt := 65) (by decide +kernel) ?_
        refine RN.blk (ops := [(65, .ior), (66, .istore_n 2), (67, .iinc 3 1)]) (pc' := 70) (lv' := [(3, .inl (m_w32 (v3 + 1))), (2, .inl (m_bor v2 (m_shl 1 v3))), (0, .inr (.inr u0))]) (st' := []) (h' := h) (cs := []) (by decide +kernel) rfl trivial ?_
        refine RN.goto (off := -32) (tgt := 38) (by decide +kernel) ?_
        exact RN.sub (ih _ _ _ hF) (sub_cons rfl (sub_cons rfl (sub_cons rfl sub_nil)))
    · refine RN.ict (cd := .ge) (off := 28) (tgt := 73) (by decide +kernel) (mif_ge hb) ?_
      exact RN.sub (hK0 _ _ hF) (sub_cons rfl sub_nil)
noncomputable def FX12_sent (t : Int) (a1 : Int) (h : MH) : Option (Int × MH) :=
  (if a1 < 0 then
   some ((-1), h)
  else
   gd [GK h t 12, GI h (m_rd h t 20) 1 4] (
    (if a1 < (m_rd h (m_rd h t 20) 4) then
     gd [GK h t 12, GI h (m_rd h t 20) 1 3] (
      gd [GK h t 12] (bv (FX12_fillsCanBe t (m_w32 ((m_w32 (88 + (m_w32 (3 * a1)))) + 2)) (m_rd h (m_rd h t 20) 3) h) (fun h1 =>
       FX12_sent_L38 t (fun w2 h3 =>
        some (w2, h3)) FU 0 0 h1)))
    else
     some ((-1), h))))
theorem CX12_sent {d : Nat} {t : Int} {a1 : Int} {h : MH} {r : Int × MH} (hF : FX12_sent t a1 h = some r) : RN xs L iX12_sent (d + 9) 0 (lvE 0 [.inr (.inr t), .inl a1]) [] h (RIo r) := by
  unfold FX12_sent at hF
  refine RN.blk (ops := [(0, .iload_n 1)]) (pc' := 1) (lv' := [(0, .inr (.inr t)), (1, .inl a1)]) (st' := [.inl a1]) (h' := h) (cs := []) (by decide +kernel) rfl trivial ?_
  rcases it_of hF with ⟨hb, hF⟩ | ⟨hb, hF⟩
  · refine RN.ift (cd := .lt) (off := 13) (tgt := 14) (by decide +kernel) (mif_lt hb) ?_
    refine RN.blk (ops := [(14, .iconst (-1))]) (pc' := 15) (lv' := [(0, .inr (.inr t)), (1, .inl a1)]) (st' := [.inl (-1)]) (h' := h) (cs := []) (by decide +kernel) rfl trivial ?_
    exact RN.iR (by decide +kernel) rfl hF
  · refine RN.iff (cd := .lt) (off := 13) (tgt := 14) (by decide +kernel) (mif_ltn hb) ?_
    obtain ⟨hc, hF⟩ := gd_of hF
    refine RN.blk (ops := [(4, .iload_n 1), (5, .aload_n 0), (6, .getfield 39), (9, .iconst 4), (10, .iaload)]) (pc' := 11) (lv' := [(0, .inr (.inr t)), (1, .inl a1)]) (st' := [.inl (m_rd h (m_rd h t 20) 4), .inl a1]) (h' := h) (cs := [GK h t 12, GI h (m_rd h t 20) 1 4]) (by decide +kernel) rfl hc ?_
    rcases it_of hF with ⟨hb, hF⟩ | ⟨hb, hF⟩
    · refine RN.ict (cd := .lt) (off := 5) (tgt := 16) (by decide +kernel) (mif_lt hb) ?_
      obtain ⟨hc, hF⟩ := gd_of hF
      refine RN.blk (ops := [(16, .iconst 0), (17, .istore_n 2), (18, .aload_n 0), (19, .bipush 88), (21, .iconst 3), (22, .iload_n 1), (23, .imul), (24, .iadd), (25, .iconst 2), (26, .iadd), (27, .aload_n 0), (28, .getfield 39), (31, .iconst 3), (32, .iaload)]) (pc' := 33) (lv' := [(2, .inl 0), (0, .inr (.inr t)), (1, .inl a1)]) (st' := [.inl (m_rd h (m_rd h t 20) 3), .inl (m_w32 ((m_w32 (88 + (m_w32 (3 * a1)))) + 2)), .inr (.inr t)]) (h' := h) (cs := [GK h t 12, GI h (m_rd h t 20) 1 3]) (by decide +kernel) rfl hc ?_
      obtain ⟨hc, hF⟩ := gd_of hF
      obtain ⟨h1, hG, hF⟩ := bv_of hF
      refine RN.cv (i := 462) (k := 273) (q2 := iX12_fillsCanBe) (as := [.inr (.inr t), .inl (m_w32 ((m_w32 (88 + (m_w32 (3 * a1)))) + 2)), .inl (m_rd h (m_rd h t 20) 3)]) (r := []) (v := none) (h1 := h1) (by decide +kernel) rfl rfl rfl rfl rfl (rcv_ok hc.1) (CX12_fillsCanBe (d := d) hG) ?_
      refine RN.blk (ops := [(36, .iconst 0), (37, .istore_n 3)]) (pc' := 38) (lv' := [(3, .inl 0), (2, .inl 0), (0, .inr (.inr t)), (1, .inl a1)]) (st' := []) (h' := h1) (cs := []) (by decide +kernel) rfl trivial ?_
      refine RN.sub (CX12_sent_L38 ?_ _ _ _ _ hF) (sub_cons rfl (sub_cons rfl (sub_cons rfl sub_nil)))
      · intro w2 h3 hF
        refine RN.blk (ops := [(73, .iload_n 2)]) (pc' := 74) (lv' := [(2, .inl w2)]) (st' := [.inl w2]) (h' := h3) (cs := []) (by decide +kernel) rfl trivial ?_
        exact RN.iR (by decide +kernel) rfl hF
    · refine RN.icf (cd := .lt) (off := 5) (tgt := 16) (by decide +kernel) (mif_ltn hb) ?_
      refine RN.blk (ops := [(14, .iconst (-1))]) (pc' := 15) (lv' := [(0, .inr (.inr t)), (1, .inl a1)]) (st' := [.inl (-1)]) (h' := h) (cs := []) (by decide +kernel) rfl trivial ?_
      exact RN.iR (by decide +kernel) rfl hF
noncomputable def FX12_seed (t : Int) (a1 : Int) (h : MH) : Option (Int × MH) :=
  (if a1 < 0 then
   some ((-1), h)
  else
   gd [GK h t 12, GK h t 12] (
    some ((m_rd h t 22), (m_wr h t 22 a1))))
theorem CX12_seed {d : Nat} {t : Int} {a1 : Int} {h : MH} {r : Int × MH} (hF : FX12_seed t a1 h = some r) : RN xs L iX12_seed (d) 0 (lvE 0 [.inr (.inr t), .inl a1]) [] h (RIo r) := by
  unfold FX12_seed at hF
  refine RN.blk (ops := [(0, .iload_n 1)]) (pc' := 1) (lv' := [(0, .inr (.inr t)), (1, .inl a1)]) (st' := [.inl a1]) (h' := h) (cs := []) (by decide +kernel) rfl trivial ?_
  rcases it_of hF with ⟨hb, hF⟩ | ⟨hb, hF⟩
  · refine RN.iff (cd := .ge) (off := 5) (tgt := 6) (by decide +kernel) (mif_gen hb) ?_
    refine RN.blk (ops := [(4, .iconst (-1))]) (pc' := 5) (lv' := [(0, .inr (.inr t)), (1, .inl a1)]) (st' := [.inl (-1)]) (h' := h) (cs := []) (by decide +kernel) rfl trivial ?_
    exact RN.iR (by decide +kernel) rfl hF
  · refine RN.ift (cd := .ge) (off := 5) (tgt := 6) (by decide +kernel) (mif_ge hb) ?_
    obtain ⟨hc, hF⟩ := gd_of hF
    refine RN.blk (ops := [(6, .aload_n 0), (7, .getfield 465), (10, .istore_n 2), (11, .aload_n 0), (12, .iload_n 1), (13, .putfield 465), (16, .iload_n 2)]) (pc' := 17) (lv' := [(2, .inl (m_rd h t 22)), (0, .inr (.inr t)), (1, .inl a1)]) (st' := [.inl (m_rd h t 22)]) (h' := (m_wr h t 22 a1)) (cs := [GK h t 12, GK h t 12]) (by decide +kernel) rfl hc ?_
    exact RN.iR (by decide +kernel) rfl hF
noncomputable def FX12_draw (t : Int) (a1 : Int) (h : MH) : Option (Int × MH) :=
  gd [GK h t 12, (2147483648 : Int) ≠ 0, GK h t 12] (
   hl (m_wr h t 37 (Int.tmod (m_w64 ((m_w64 ((m_rd h t 37) * 1103515245)) + 12345)) 2147483648)) (fun h1 =>
    gd [GK h1 t 12, (65536 : Int) ≠ 0, (a1 : Int) ≠ 0] (
     some ((m_w32 (Int.tmod (m_w64 (Int.tdiv (m_rd h1 t 37) 65536)) a1)), h1))))
theorem CX12_draw {d : Nat} {t : Int} {a1 : Int} {h : MH} {r : Int × MH} (hF : FX12_draw t a1 h = some r) : RN xs L iX12_draw (d) 0 (lvE 0 [.inr (.inr t), .inl a1]) [] h (RIo r) := by
  unfold FX12_draw at hF
  obtain ⟨hc, hF⟩ := gd_of hF
  refine RN.blk (ops := [(0, .aload_n 0), (1, .aload_n 0), (2, .getfield 468), (5, .ldc2_w 472), (8, .lmul), (9, .ldc2_w 474), (12, .ladd), (13, .ldc2_w 476), (16, .lrem), (17, .putfield 468)]) (pc' := 20) (lv' := [(0, .inr (.inr t)), (1, .inl a1)]) (st' := []) (h' := (m_wr h t 37 (Int.tmod (m_w64 ((m_w64 ((m_rd h t 37) * 1103515245)) + 12345)) 2147483648))) (cs := [GK h t 12, (2147483648 : Int) ≠ 0, GK h t 12]) (by decide +kernel) rfl hc ?_
  obtain ⟨h1, he, hF⟩ := hl_of hF
  refine RN.hl he ?_
  obtain ⟨hc, hF⟩ := gd_of hF
  refine RN.blk (ops := [(20, .aload_n 0), (21, .getfield 468), (24, .ldc2_w 478), (27, .ldiv), (28, .iload_n 1), (29, .i2l), (30, .lrem), (31, .l2i)]) (pc' := 32) (lv' := [(0, .inr (.inr t)), (1, .inl a1)]) (st' := [.inl (m_w32 (Int.tmod (m_w64 (Int.tdiv (m_rd h1 t 37) 65536)) a1))]) (h' := h1) (cs := [GK h1 t 12, (65536 : Int) ≠ 0, (a1 : Int) ≠ 0]) (by decide +kernel) rfl hc ?_
  exact RN.iR (by decide +kernel) rfl hF
noncomputable def FX12_posts_L87 (u0 : Int) (u1 : Int) (u2 : Int) (u3 : Int) (u4 : Int) (u5 : Int) (u6 : Int) (u7 : Int) (K0 : MH → Option (Int × MH)) : Nat → Int → MH → Option (Int × MH)
  | 0, _, _ => none
  | f + 1, v8, h =>
    (if v8 < u2 then
     gd [GK h u0 12] (bd (FX12_draw u0 100 h) (fun x2 h1 =>
      jn (fun (h4 : MH) =>
       gd [GK h4 u0 12] (bd (FX12_passes u0 h4) (fun x6 h5 =>
        FX12_posts_L87 u0 u1 u2 u3 u4 u5 u6 u7 K0 f (m_w32 (v8 + 1)) h5))) (fun j3 =>
       (if x2 < u3 then
        gd [GK h1 u0 12] (bd (FX12_codesMany u0 h1) (fun x8 h7 =>
         gd [GK h7 u0 12] (bd (FX12_draw u0 x8 h7) (fun x10 h9 =>
          gd [GK h9 u0 12] (bv (FX12_comes u0 x10 h9) (fun h11 =>
           j3 h11))))))
       else
        j3 h1))))
    else
     K0 h)
theorem CX12_posts_L87 {d : Nat} {u0 : Int} {u1 : Int} {u2 : Int} {u3 : Int} {u4 : Int} {u5 : Int} {u6 : Int} {u7 : Int} {K0 : MH → Option (Int × MH)} {r : Int × MH} (hK0 : ∀ (h : MH), K0 h = some r → RN xs L iX12_posts (d + 7) 126 [(0, .inr (.inr u0)), (1, .inl u1), (2, .inl u2), (3, .inl u3), (4, .inl u4), (5, .inl u5), (6, .inl u6), (7, .inl u7)] [] h (RIo r)) : ∀ (f : Nat) (v8 : Int) (h : MH), FX12_posts_L87 u0 u1 u2 u3 u4 u5 u6 u7 K0 f v8 h = some r → RN xs L iX12_posts (d + 7) 87 [(0, .inr (.inr u0)), (1, .inl u1), (2, .inl u2), (3, .inl u3), (4, .inl u4), (5, .inl u5), (6, .inl u6), (7, .inl u7), (8, .inl v8)] [] h (RIo r) := by
  intro f
  induction f with
  | zero =>
    intro v8 h hF
    cases hF
  | succ f ih =>
    intro v8 h hF
    unfold FX12_posts_L87 at hF
    refine RN.blk (ops := [(87, .iload 8), (89, .iload_n 2)]) (pc' := 90) (lv' := [(0, .inr (.inr u0)), (1, .inl u1), (2, .inl u2), (3, .inl u3), (4, .inl u4), (5, .inl u5), (6, .inl u6), (7, .inl u7), (8, .inl v8)]) (st' := [.inl u2, .inl v8]) (h' := h) (cs := []) (by decide +kernel) rfl trivial ?_
    rcases it_of hF with ⟨hb, hF⟩ | ⟨hb, hF⟩
    · refine RN.icf (cd := .ge) (off := 36) (tgt := 126) (by decide +kernel) (mif_gen hb) ?_
      refine RN.blk (ops := [(93, .aload_n 0), (94, .bipush 100)]) (pc' := 96) (lv' := [(0, .inr (.inr u0)), (1, .inl u1), (2, .inl u2), (3, .inl u3), (4, .inl u4), (5, .inl u5), (6, .inl u6), (7, .inl u7), (8, .inl v8)]) (st' := [.inl 100, .inr (.inr u0)]) (h' := h) (cs := []) (by decide +kernel) rfl trivial ?_
      obtain ⟨hc, hF⟩ := gd_of hF
      obtain ⟨x2, h1, hG, hF⟩ := bd_of hF
      refine RN.cv (i := 482) (k := 277) (q2 := iX12_draw) (as := [.inr (.inr u0), .inl 100]) (r := []) (v := some (.inl x2)) (h1 := h1) (by decide +kernel) rfl rfl rfl rfl rfl (rcv_ok hc.1) (CX12_draw (d := d + 6) hG) ?_
      refine RN.blk (ops := [(99, .iload_n 3)]) (pc' := 100) (lv' := [(0, .inr (.inr u0)), (1, .inl u1), (2, .inl u2), (3, .inl u3), (4, .inl u4), (5, .inl u5), (6, .inl u6), (7, .inl u7), (8, .inl v8)]) (st' := [.inl u3, .inl x2]) (h' := h1) (cs := []) (by decide +kernel) rfl trivial ?_
      refine jn_use (fun j3 => ∀ (h4 : MH), j3 h4 = some r → RN xs L iX12_posts (d + 7) 115 [(0, .inr (.inr u0)), (1, .inl u1), (2, .inl u2), (3, .inl u3), (4, .inl u4), (5, .inl u5), (6, .inl u6), (7, .inl u7), (8, .inl v8)] [] h4 (RIo r)) ?_ ?_ hF
      · intro h4 hF
        refine RN.blk (ops := [(115, .aload_n 0)]) (pc' := 116) (lv' := [(0, .inr (.inr u0)), (1, .inl u1), (2, .inl u2), (3, .inl u3), (4, .inl u4), (5, .inl u5), (6, .inl u6), (7, .inl u7), (8, .inl v8)]) (st' := [.inr (.inr u0)]) (h' := h4) (cs := []) (by decide +kernel) rfl trivial ?_
        obtain ⟨hc, hF⟩ := gd_of hF
        obtain ⟨x6, h5, hG, hF⟩ := bd_of hF
        refine RN.cv (i := 350) (k := 222) (q2 := iX12_passes) (as := [.inr (.inr u0)]) (r := []) (v := some (.inl x6)) (h1 := h5) (by decide +kernel) rfl rfl rfl rfl rfl (rcv_ok hc.1) (CX12_passes (d := d) hG) ?_
        refine RN.blk (ops := [(119, .pop), (120, .iinc 8 1)]) (pc' := 123) (lv' := [(8, .inl (m_w32 (v8 + 1))), (0, .inr (.inr u0)), (1, .inl u1), (2, .inl u2), (3, .inl u3), (4, .inl u4), (5, .inl u5), (6, .inl u6), (7, .inl u7)]) (st' := []) (h' := h5) (cs := []) (by decide +kernel) rfl trivial ?_
        refine RN.goto (off := -36) (tgt := 87) (by decide +kernel) ?_
        exact RN.sub (ih _ _ hF) (sub_cons rfl (sub_cons rfl (sub_cons rfl (sub_cons rfl (sub_cons rfl (sub_cons rfl (sub_cons rfl (sub_cons rfl (sub_cons rfl sub_nil)))))))))
      · intro j3 Jj3 hF
        rcases it_of hF with ⟨hb, hF⟩ | ⟨hb, hF⟩
        · refine RN.icf (cd := .ge) (off := 15) (tgt := 115) (by decide +kernel) (mif_gen hb) ?_
          refine RN.blk (ops := [(103, .aload_n 0), (104, .aload_n 0), (105, .aload_n 0)]) (pc' := 106) (lv' := [(0, .inr (.inr u0)), (1, .inl u1), (2, .inl u2), (3, .inl u3), (4, .inl u4), (5, .inl u5), (6, .inl u6), (7, .inl u7), (8, .inl v8)]) (st' := [.inr (.inr u0), .inr (.inr u0), .inr (.inr u0)]) (h' := h1) (cs := []) (by decide +kernel) rfl trivial ?_
          obtain ⟨hc, hF⟩ := gd_of hF
          obtain ⟨x8, h7, hG, hF⟩ := bd_of hF
          refine RN.cv (i := 298) (k := 203) (q2 := iX12_codesMany) (as := [.inr (.inr u0)]) (r := [.inr (.inr u0), .inr (.inr u0)]) (v := some (.inl x8)) (h1 := h7) (by decide +kernel) rfl rfl rfl rfl rfl (rcv_ok hc.1) (CX12_codesMany (d := d + 5) hG) ?_
          obtain ⟨hc, hF⟩ := gd_of hF
          obtain ⟨x10, h9, hG, hF⟩ := bd_of hF
          refine RN.cv (i := 482) (k := 277) (q2 := iX12_draw) (as := [.inr (.inr u0), .inl x8]) (r := [.inr (.inr u0)]) (v := some (.inl x10)) (h1 := h9) (by decide +kernel) rfl rfl rfl rfl rfl (rcv_ok hc.1) (CX12_draw (d := d + 6) hG) ?_
          obtain ⟨hc, hF⟩ := gd_of hF
          obtain ⟨h11, hG, hF⟩ := bv_of hF
          refine RN.cv (i := 359) (k := 227) (q2 := iX12_comes) (as := [.inr (.inr u0), .inl x10]) (r := []) (v := none) (h1 := h11) (by decide +kernel) rfl rfl rfl rfl rfl (rcv_ok hc.1) (CX12_comes (d := d + 6) hG) ?_
          exact RN.sub (Jj3 _ hF) (sub_cons rfl (sub_cons rfl (sub_cons rfl (sub_cons rfl (sub_cons rfl (sub_cons rfl (sub_cons rfl (sub_cons rfl (sub_cons rfl sub_nil)))))))))
        · refine RN.ict (cd := .ge) (off := 15) (tgt := 115) (by decide +kernel) (mif_ge hb) ?_
          exact RN.sub (Jj3 _ hF) (sub_cons rfl (sub_cons rfl (sub_cons rfl (sub_cons rfl (sub_cons rfl (sub_cons rfl (sub_cons rfl (sub_cons rfl (sub_cons rfl sub_nil)))))))))
    · refine RN.ict (cd := .ge) (off := 36) (tgt := 126) (by decide +kernel) (mif_ge hb) ?_
      exact RN.sub (hK0 _ hF) (sub_cons rfl (sub_cons rfl (sub_cons rfl (sub_cons rfl (sub_cons rfl (sub_cons rfl (sub_cons rfl (sub_cons rfl sub_nil))))))))
noncomputable def FX12_posts_L78 (u0 : Int) (u1 : Int) (u2 : Int) (u3 : Int) (u4 : Int) (K0 : Int → Int → MH → Option (Int × MH)) : Nat → Int → Int → Int → MH → Option (Int × MH)
  | 0, _, _, _, _ => none
  | f + 1, v5, v6, v7, h =>
    (if v7 < u1 then
     FX12_posts_L87 u0 u1 u2 u3 u4 v5 v6 v7 (fun h1 =>
      gd [GK h1 u0 12] (bd (FX12_sumOver u0 20 h1) (fun x3 h2 =>
       gd [GK h2 u0 12, GI h2 (m_rd h2 u0 20) 1 11] (
        gd [GK h2 u0 12] (bv (FX12_laysBack u0 h2) (fun h4 =>
         FX12_posts_L78 u0 u1 u2 u3 u4 K0 f (m_w32 (v5 + x3)) (m_w32 (v6 + (m_rd h2 (m_rd h2 u0 20) 11))) (m_w32 (v7 + 1)) h4)))))) FU 0 h
    else
     K0 v5 v6 h)
theorem CX12_posts_L78 {d : Nat} {u0 : Int} {u1 : Int} {u2 : Int} {u3 : Int} {u4 : Int} {K0 : Int → Int → MH → Option (Int × MH)} {r : Int × MH} (hK0 : ∀ (w5 : Int) (w6 : Int) (h : MH), K0 w5 w6 h = some r → RN xs L iX12_posts (d + 7) 159 [(4, .inl u4), (5, .inl w5), (6, .inl w6)] [] h (RIo r)) : ∀ (f : Nat) (v5 : Int) (v6 : Int) (v7 : Int) (h : MH), FX12_posts_L78 u0 u1 u2 u3 u4 K0 f v5 v6 v7 h = some r → RN xs L iX12_posts (d + 7) 78 [(0, .inr (.inr u0)), (1, .inl u1), (2, .inl u2), (3, .inl u3), (4, .inl u4), (5, .inl v5), (6, .inl v6), (7, .inl v7)] [] h (RIo r) := by
  intro f
  induction f with
  | zero =>
    intro v5 v6 v7 h hF
    cases hF
  | succ f ih =>
    intro v5 v6 v7 h hF
    unfold FX12_posts_L78 at hF
    refine RN.blk (ops := [(78, .iload 7), (80, .iload_n 1)]) (pc' := 81) (lv' := [(0, .inr (.inr u0)), (1, .inl u1), (2, .inl u2), (3, .inl u3), (4, .inl u4), (5, .inl v5), (6, .inl v6), (7, .inl v7)]) (st' := [.inl u1, .inl v7]) (h' := h) (cs := []) (by decide +kernel) rfl trivial ?_
    rcases it_of hF with ⟨hb, hF⟩ | ⟨hb, hF⟩
    · refine RN.icf (cd := .ge) (off := 78) (tgt := 159) (by decide +kernel) (mif_gen hb) ?_
      refine RN.blk (ops := [(84, .iconst 0), (85, .istore 8)]) (pc' := 87) (lv' := [(8, .inl 0), (0, .inr (.inr u0)), (1, .inl u1), (2, .inl u2), (3, .inl u3), (4, .inl u4), (5, .inl v5), (6, .inl v6), (7, .inl v7)]) (st' := []) (h' := h) (cs := []) (by decide +kernel) rfl trivial ?_
      refine RN.sub (CX12_posts_L87 ?_ _ _ _ hF) (sub_cons rfl (sub_cons rfl (sub_cons rfl (sub_cons rfl (sub_cons rfl (sub_cons rfl (sub_cons rfl (sub_cons rfl (sub_cons rfl sub_nil)))))))))
      · intro h1 hF
        refine RN.blk (ops := [(126, .iload 5), (128, .aload_n 0), (129, .bipush 20)]) (pc' := 131) (lv' := [(0, .inr (.inr u0)), (1, .inl u1), (2, .inl u2), (3, .inl u3), (4, .inl u4), (5, .inl v5), (6, .inl v6), (7, .inl v7)]) (st' := [.inl 20, .inr (.inr u0), .inl v5]) (h' := h1) (cs := []) (by decide +kernel) rfl trivial ?_
        obtain ⟨hc, hF⟩ := gd_of hF
        obtain ⟨x3, h2, hG, hF⟩ := bd_of hF
        refine RN.cv (i := 325) (k := 210) (q2 := iX12_sumOver) (as := [.inr (.inr u0), .inl 20]) (r := [.inl v5]) (v := some (.inl x3)) (h1 := h2) (by decide +kernel) rfl rfl rfl rfl rfl (rcv_ok hc.1) (CX12_sumOver (d := d + 6) hG) ?_
        obtain ⟨hc, hF⟩ := gd_of hF
        refine RN.blk (ops := [(134, .iadd), (135, .istore 5), (137, .iload 6), (139, .aload_n 0), (140, .getfield 39), (143, .bipush 11), (145, .iaload), (146, .iadd), (147, .istore 6), (149, .aload_n 0)]) (pc' := 150) (lv' := [(6, .inl (m_w32 (v6 + (m_rd h2 (m_rd h2 u0 20) 11)))), (5, .inl (m_w32 (v5 + x3))), (0, .inr (.inr u0)), (1, .inl u1), (2, .inl u2), (3, .inl u3), (4, .inl u4), (7, .inl v7)]) (st' := [.inr (.inr u0)]) (h' := h2) (cs := [GK h2 u0 12, GI h2 (m_rd h2 u0 20) 1 11]) (by decide +kernel) rfl hc ?_
        obtain ⟨hc, hF⟩ := gd_of hF
        obtain ⟨h4, hG, hF⟩ := bv_of hF
        refine RN.cv (i := 414) (k := 254) (q2 := iX12_laysBack) (as := [.inr (.inr u0)]) (r := []) (v := none) (h1 := h4) (by decide +kernel) rfl rfl rfl rfl rfl (rcv_ok hc.1) (CX12_laysBack (d := d + 6) hG) ?_
        refine RN.blk (ops := [(153, .iinc 7 1)]) (pc' := 156) (lv' := [(7, .inl (m_w32 (v7 + 1))), (6, .inl (m_w32 (v6 + (m_rd h2 (m_rd h2 u0 20) 11)))), (5, .inl (m_w32 (v5 + x3))), (0, .inr (.inr u0)), (1, .inl u1), (2, .inl u2), (3, .inl u3), (4, .inl u4)]) (st' := []) (h' := h4) (cs := []) (by decide +kernel) rfl trivial ?_
        refine RN.goto (off := -78) (tgt := 78) (by decide +kernel) ?_
        exact RN.sub (ih _ _ _ _ hF) (sub_cons rfl (sub_cons rfl (sub_cons rfl (sub_cons rfl (sub_cons rfl (sub_cons rfl (sub_cons rfl (sub_cons rfl sub_nil))))))))
    · refine RN.ict (cd := .ge) (off := 78) (tgt := 159) (by decide +kernel) (mif_ge hb) ?_
      exact RN.sub (hK0 _ _ _ hF) (sub_cons rfl (sub_cons rfl (sub_cons rfl sub_nil)))
noncomputable def FX12_posts (t : Int) (a1 : Int) (a2 : Int) (a3 : Int) (a4 : Int) (h : MH) : Option (Int × MH) :=
  gd [GK h t 12] (bd (FX12_isFrame t h) (fun x2 h1 =>
   (if x2 = 0 then
    some ((-1), h1)
   else
    (bd (FX12_in a1 1 10 h1) (fun x4 h3 =>
     (if x4 = 0 then
      some ((-1), h3)
     else
      (bd (FX12_in a2 1 60 h3) (fun x6 h5 =>
       (if x6 = 0 then
        some ((-1), h5)
       else
        (bd (FX12_in a3 0 100 h5) (fun x8 h7 =>
         (if x8 = 0 then
          some ((-1), h7)
         else
          (bd (FX12_in a4 0 1 h7) (fun x10 h9 =>
           (if x10 = 0 then
            some ((-1), h9)
           else
            gd [GK h9 t 12, GK h9 t 12] (
             gd [GK h9 t 12] (bv (FX12_keeps t (m_wr h9 t 37 (m_rd h9 t 22))) (fun h11 =>
              FX12_posts_L78 t a1 a2 a3 a4 (fun w12 w13 h14 =>
               (if a4 = 0 then
                some (w12, h14)
               else
                some (w13, h14))) FU 0 0 0 h11))))))))))))))))))
theorem CX12_posts {d : Nat} {t : Int} {a1 : Int} {a2 : Int} {a3 : Int} {a4 : Int} {h : MH} {r : Int × MH} (hF : FX12_posts t a1 a2 a3 a4 h = some r) : RN xs L iX12_posts (d + 7) 0 (lvE 0 [.inr (.inr t), .inl a1, .inl a2, .inl a3, .inl a4]) [] h (RIo r) := by
  unfold FX12_posts at hF
  refine RN.blk (ops := [(0, .aload_n 0)]) (pc' := 1) (lv' := [(0, .inr (.inr t)), (1, .inl a1), (2, .inl a2), (3, .inl a3), (4, .inl a4)]) (st' := [.inr (.inr t)]) (h' := h) (cs := []) (by decide +kernel) rfl trivial ?_
  obtain ⟨hc, hF⟩ := gd_of hF
  obtain ⟨x2, h1, hG, hF⟩ := bd_of hF
  refine RN.cv (i := 295) (k := 202) (q2 := iX12_isFrame) (as := [.inr (.inr t)]) (r := []) (v := some (.inl x2)) (h1 := h1) (by decide +kernel) rfl rfl rfl rfl rfl (rcv_ok hc.1) (CX12_isFrame (d := d + 6) hG) ?_
  rcases it_of hF with ⟨hb, hF⟩ | ⟨hb, hF⟩
  · refine RN.ift (cd := .eq) (off := 50) (tgt := 54) (by decide +kernel) (mif_eq hb) ?_
    refine RN.blk (ops := [(54, .iconst (-1))]) (pc' := 55) (lv' := [(0, .inr (.inr t)), (1, .inl a1), (2, .inl a2), (3, .inl a3), (4, .inl a4)]) (st' := [.inl (-1)]) (h' := h1) (cs := []) (by decide +kernel) rfl trivial ?_
    exact RN.iR (by decide +kernel) rfl hF
  · refine RN.iff (cd := .eq) (off := 50) (tgt := 54) (by decide +kernel) (mif_eqn hb) ?_
    refine RN.blk (ops := [(7, .iload_n 1), (8, .i2l), (9, .lconst 1), (10, .ldc2_w 480)]) (pc' := 13) (lv' := [(0, .inr (.inr t)), (1, .inl a1), (2, .inl a2), (3, .inl a3), (4, .inl a4)]) (st' := [.inr (.inl 10), .inr (.inl 1), .inr (.inl a1)]) (h' := h1) (cs := []) (by decide +kernel) rfl trivial ?_
    obtain ⟨x4, h3, hG, hF⟩ := bd_of hF
    refine RN.cst (i := 127) (k := 156) (q2 := iX12_in) (as := [.inr (.inl a1), .inr (.inl 1), .inr (.inl 10)]) (r := []) (v := some (.inl x4)) (h1 := h3) (by decide +kernel) rfl rfl rfl rfl rfl (CX12_in (d := d + 6) hG) ?_
    rcases it_of hF with ⟨hb, hF⟩ | ⟨hb, hF⟩
    · refine RN.ift (cd := .eq) (off := 38) (tgt := 54) (by decide +kernel) (mif_eq hb) ?_
      refine RN.blk (ops := [(54, .iconst (-1))]) (pc' := 55) (lv' := [(0, .inr (.inr t)), (1, .inl a1), (2, .inl a2), (3, .inl a3), (4, .inl a4)]) (st' := [.inl (-1)]) (h' := h3) (cs := []) (by decide +kernel) rfl trivial ?_
      exact RN.iR (by decide +kernel) rfl hF
    · refine RN.iff (cd := .eq) (off := 38) (tgt := 54) (by decide +kernel) (mif_eqn hb) ?_
      refine RN.blk (ops := [(19, .iload_n 2), (20, .i2l), (21, .lconst 1), (22, .ldc2_w 446)]) (pc' := 25) (lv' := [(0, .inr (.inr t)), (1, .inl a1), (2, .inl a2), (3, .inl a3), (4, .inl a4)]) (st' := [.inr (.inl 60), .inr (.inl 1), .inr (.inl a2)]) (h' := h3) (cs := []) (by decide +kernel) rfl trivial ?_
      obtain ⟨x6, h5, hG, hF⟩ := bd_of hF
      refine RN.cst (i := 127) (k := 156) (q2 := iX12_in) (as := [.inr (.inl a2), .inr (.inl 1), .inr (.inl 60)]) (r := []) (v := some (.inl x6)) (h1 := h5) (by decide +kernel) rfl rfl rfl rfl rfl (CX12_in (d := d + 6) hG) ?_
      rcases it_of hF with ⟨hb, hF⟩ | ⟨hb, hF⟩
      · refine RN.ift (cd := .eq) (off := 26) (tgt := 54) (by decide +kernel) (mif_eq hb) ?_
        refine RN.blk (ops := [(54, .iconst (-1))]) (pc' := 55) (lv' := [(0, .inr (.inr t)), (1, .inl a1), (2, .inl a2), (3, .inl a3), (4, .inl a4)]) (st' := [.inl (-1)]) (h' := h5) (cs := []) (by decide +kernel) rfl trivial ?_
        exact RN.iR (by decide +kernel) rfl hF
      · refine RN.iff (cd := .eq) (off := 26) (tgt := 54) (by decide +kernel) (mif_eqn hb) ?_
        refine RN.blk (ops := [(31, .iload_n 3), (32, .i2l), (33, .lconst 0), (34, .ldc2_w 432)]) (pc' := 37) (lv' := [(0, .inr (.inr t)), (1, .inl a1), (2, .inl a2), (3, .inl a3), (4, .inl a4)]) (st' := [.inr (.inl 100), .inr (.inl 0), .inr (.inl a3)]) (h' := h5) (cs := []) (by decide +kernel) rfl trivial ?_
        obtain ⟨x8, h7, hG, hF⟩ := bd_of hF
        refine RN.cst (i := 127) (k := 156) (q2 := iX12_in) (as := [.inr (.inl a3), .inr (.inl 0), .inr (.inl 100)]) (r := []) (v := some (.inl x8)) (h1 := h7) (by decide +kernel) rfl rfl rfl rfl rfl (CX12_in (d := d + 6) hG) ?_
        rcases it_of hF with ⟨hb, hF⟩ | ⟨hb, hF⟩
        · refine RN.ift (cd := .eq) (off := 14) (tgt := 54) (by decide +kernel) (mif_eq hb) ?_
          refine RN.blk (ops := [(54, .iconst (-1))]) (pc' := 55) (lv' := [(0, .inr (.inr t)), (1, .inl a1), (2, .inl a2), (3, .inl a3), (4, .inl a4)]) (st' := [.inl (-1)]) (h' := h7) (cs := []) (by decide +kernel) rfl trivial ?_
          exact RN.iR (by decide +kernel) rfl hF
        · refine RN.iff (cd := .eq) (off := 14) (tgt := 54) (by decide +kernel) (mif_eqn hb) ?_
          refine RN.blk (ops := [(43, .iload 4), (45, .i2l), (46, .lconst 0), (47, .lconst 1)]) (pc' := 48) (lv' := [(0, .inr (.inr t)), (1, .inl a1), (2, .inl a2), (3, .inl a3), (4, .inl a4)]) (st' := [.inr (.inl 1), .inr (.inl 0), .inr (.inl a4)]) (h' := h7) (cs := []) (by decide +kernel) rfl trivial ?_
          obtain ⟨x10, h9, hG, hF⟩ := bd_of hF
          refine RN.cst (i := 127) (k := 156) (q2 := iX12_in) (as := [.inr (.inl a4), .inr (.inl 0), .inr (.inl 1)]) (r := []) (v := some (.inl x10)) (h1 := h9) (by decide +kernel) rfl rfl rfl rfl rfl (CX12_in (d := d + 6) hG) ?_
          rcases it_of hF with ⟨hb, hF⟩ | ⟨hb, hF⟩
          · refine RN.iff (cd := .ne) (off := 5) (tgt := 56) (by decide +kernel) (mif_nen hb) ?_
            refine RN.blk (ops := [(54, .iconst (-1))]) (pc' := 55) (lv' := [(0, .inr (.inr t)), (1, .inl a1), (2, .inl a2), (3, .inl a3), (4, .inl a4)]) (st' := [.inl (-1)]) (h' := h9) (cs := []) (by decide +kernel) rfl trivial ?_
            exact RN.iR (by decide +kernel) rfl hF
          · refine RN.ift (cd := .ne) (off := 5) (tgt := 56) (by decide +kernel) (mif_ne hb) ?_
            obtain ⟨hc, hF⟩ := gd_of hF
            refine RN.blk (ops := [(56, .aload_n 0), (57, .aload_n 0), (58, .getfield 465), (61, .i2l), (62, .putfield 468), (65, .iconst 0), (66, .istore 5), (68, .iconst 0), (69, .istore 6), (71, .aload_n 0)]) (pc' := 72) (lv' := [(6, .inl 0), (5, .inl 0), (0, .inr (.inr t)), (1, .inl a1), (2, .inl a2), (3, .inl a3), (4, .inl a4)]) (st' := [.inr (.inr t)]) (h' := (m_wr h9 t 37 (m_rd h9 t 22))) (cs := [GK h9 t 12, GK h9 t 12]) (by decide +kernel) rfl hc ?_
            obtain ⟨hc, hF⟩ := gd_of hF
            obtain ⟨h11, hG, hF⟩ := bv_of hF
            refine RN.cv (i := 422) (k := 253) (q2 := iX12_keeps) (as := [.inr (.inr t)]) (r := []) (v := none) (h1 := h11) (by decide +kernel) rfl rfl rfl rfl rfl (rcv_ok hc.1) (CX12_keeps (d := d + 6) hG) ?_
            refine RN.blk (ops := [(75, .iconst 0), (76, .istore 7)]) (pc' := 78) (lv' := [(7, .inl 0), (6, .inl 0), (5, .inl 0), (0, .inr (.inr t)), (1, .inl a1), (2, .inl a2), (3, .inl a3), (4, .inl a4)]) (st' := []) (h' := h11) (cs := []) (by decide +kernel) rfl trivial ?_
            refine RN.sub (CX12_posts_L78 ?_ _ _ _ _ _ hF) (sub_cons rfl (sub_cons rfl (sub_cons rfl (sub_cons rfl (sub_cons rfl (sub_cons rfl (sub_cons rfl (sub_cons rfl sub_nil))))))))
            · intro w12 w13 h14 hF
              refine RN.blk (ops := [(159, .iload 4)]) (pc' := 161) (lv' := [(4, .inl a4), (5, .inl w12), (6, .inl w13)]) (st' := [.inl a4]) (h' := h14) (cs := []) (by decide +kernel) rfl trivial ?_
              rcases it_of hF with ⟨hb, hF⟩ | ⟨hb, hF⟩
              · refine RN.iff (cd := .ne) (off := 8) (tgt := 169) (by decide +kernel) (mif_nen hb) ?_
                refine RN.blk (ops := [(164, .iload 5)]) (pc' := 166) (lv' := [(4, .inl a4), (5, .inl w12), (6, .inl w13)]) (st' := [.inl w12]) (h' := h14) (cs := []) (by decide +kernel) rfl trivial ?_
                refine RN.goto (off := 5) (tgt := 171) (by decide +kernel) ?_
                exact RN.iR (by decide +kernel) rfl hF
              · refine RN.ift (cd := .ne) (off := 8) (tgt := 169) (by decide +kernel) (mif_ne hb) ?_
                refine RN.blk (ops := [(169, .iload 6)]) (pc' := 171) (lv' := [(4, .inl a4), (5, .inl w12), (6, .inl w13)]) (st' := [.inl w13]) (h' := h14) (cs := []) (by decide +kernel) rfl trivial ?_
                exact RN.iR (by decide +kernel) rfl hF
noncomputable def FX12_count (t : Int) (a1 : Int) (h : MH) : Option (Int × MH) :=
  (if a1 = 0 then
   gd [GK h t 12, GI h (m_rd h t 20) 1 (m_w32 (a1 + 1))] (
    some ((m_rd h (m_rd h t 20) (m_w32 (a1 + 1))), h))
  else
  (if a1 = 1 then
   gd [GK h t 12, GI h (m_rd h t 20) 1 (m_w32 (a1 + 1))] (
    some ((m_rd h (m_rd h t 20) (m_w32 (a1 + 1))), h))
  else
  (if a1 = 2 then
   gd [GK h t 12, GI h (m_rd h t 20) 1 (m_w32 (a1 + 1))] (
    some ((m_rd h (m_rd h t 20) (m_w32 (a1 + 1))), h))
  else
  (if a1 = 3 then
   gd [GK h t 12, GI h (m_rd h t 20) 1 13] (
    some ((m_rd h (m_rd h t 20) 13), h))
  else
  (if a1 = 4 then
   gd [GK h t 12, GI h (m_rd h t 20) 1 12] (
    some ((m_rd h (m_rd h t 20) 12), h))
  else
  (if a1 = 5 then
   gd [GK h t 12] (
    some ((m_rd h t 2), h))
  else
  (if a1 = 6 then
   gd [GK h t 12] (
    some ((m_rd h t 21), h))
  else
  (if a1 = 7 then
   gd [GK h t 12, GI h (m_rd h t 20) 1 10] (
    some ((m_rd h (m_rd h t 20) 10), h))
  else
  (if a1 = 8 then
   gd [GK h t 12] (bd (FX12_sumOver t 14 h) (fun x2 h1 =>
    some (x2, h1)))
  else
  (if a1 = 9 then
   gd [GK h t 12] (bd (FX12_sumOver t 20 h) (fun x4 h3 =>
    some (x4, h3)))
  else
  (if a1 = 10 then
   gd [GK h t 12, GI h (m_rd h t 20) 1 11] (
    some ((m_rd h (m_rd h t 20) 11), h))
  else
  (if a1 = 11 then
   gd [GK h t 12, GI h (m_rd h t 20) 1 166] (
    some ((m_rd h (m_rd h t 20) 166), h))
  else
  (if a1 = 12 then
   gd [GK h t 12] (
    some ((m_rd h t 25), h))
  else
  (if a1 = 13 then
   gd [GK h t 12] (
    some ((m_rd h t 22), h))
  else
  (if a1 = 14 then
   gd [GK h t 12] (
    some ((m_rd h t 1), h))
  else
   some ((-1), h))))))))))))))))
theorem CX12_count {d : Nat} {t : Int} {a1 : Int} {h : MH} {r : Int × MH} (hF : FX12_count t a1 h = some r) : RN xs L iX12_count (d + 1) 0 (lvE 0 [.inr (.inr t), .inl a1]) [] h (RIo r) := by
  unfold FX12_count at hF
  refine RN.blk (ops := [(0, .iload_n 1)]) (pc' := 1) (lv' := [(0, .inr (.inr t)), (1, .inl a1)]) (st' := [.inl a1]) (h' := h) (cs := []) (by decide +kernel) rfl trivial ?_
  rcases it_of hF with ⟨hb0, hF⟩ | ⟨hb0, hF⟩
  · refine RN.tsw (dflt := 164) (lo := 0) (hi := 14) (offs := #[75, 75, 75, 84, 92, 100, 105, 110, 118, 125, 132, 140, 149, 154, 159]) (by decide +kernel) (RN.sth hb0 (tgt := 76) rfl ?_)
    obtain ⟨hc, hF⟩ := gd_of hF
    refine RN.blk (ops := [(76, .aload_n 0), (77, .getfield 39), (80, .iload_n 1), (81, .iconst 1), (82, .iadd), (83, .iaload)]) (pc' := 84) (lv' := [(0, .inr (.inr t)), (1, .inl a1)]) (st' := [.inl (m_rd h (m_rd h t 20) (m_w32 (a1 + 1)))]) (h' := h) (cs := [GK h t 12, GI h (m_rd h t 20) 1 (m_w32 (a1 + 1))]) (by decide +kernel) rfl hc ?_
    exact RN.iR (by decide +kernel) rfl hF
  rcases it_of hF with ⟨hb1, hF⟩ | ⟨hb1, hF⟩
  · refine RN.tsw (dflt := 164) (lo := 0) (hi := 14) (offs := #[75, 75, 75, 84, 92, 100, 105, 110, 118, 125, 132, 140, 149, 154, 159]) (by decide +kernel) (RN.stm hb0 (RN.sth hb1 (tgt := 76) rfl ?_))
    obtain ⟨hc, hF⟩ := gd_of hF
    refine RN.blk (ops := [(76, .aload_n 0), (77, .getfield 39), (80, .iload_n 1), (81, .iconst 1), (82, .iadd), (83, .iaload)]) (pc' := 84) (lv' := [(0, .inr (.inr t)), (1, .inl a1)]) (st' := [.inl (m_rd h (m_rd h t 20) (m_w32 (a1 + 1)))]) (h' := h) (cs := [GK h t 12, GI h (m_rd h t 20) 1 (m_w32 (a1 + 1))]) (by decide +kernel) rfl hc ?_
    exact RN.iR (by decide +kernel) rfl hF
  rcases it_of hF with ⟨hb2, hF⟩ | ⟨hb2, hF⟩
  · refine RN.tsw (dflt := 164) (lo := 0) (hi := 14) (offs := #[75, 75, 75, 84, 92, 100, 105, 110, 118, 125, 132, 140, 149, 154, 159]) (by decide +kernel) (RN.stm hb0 (RN.stm hb1 (RN.sth hb2 (tgt := 76) rfl ?_)))
    obtain ⟨hc, hF⟩ := gd_of hF
    refine RN.blk (ops := [(76, .aload_n 0), (77, .getfield 39), (80, .iload_n 1), (81, .iconst 1), (82, .iadd), (83, .iaload)]) (pc' := 84) (lv' := [(0, .inr (.inr t)), (1, .inl a1)]) (st' := [.inl (m_rd h (m_rd h t 20) (m_w32 (a1 + 1)))]) (h' := h) (cs := [GK h t 12, GI h (m_rd h t 20) 1 (m_w32 (a1 + 1))]) (by decide +kernel) rfl hc ?_
    exact RN.iR (by decide +kernel) rfl hF
  rcases it_of hF with ⟨hb3, hF⟩ | ⟨hb3, hF⟩
  · refine RN.tsw (dflt := 164) (lo := 0) (hi := 14) (offs := #[75, 75, 75, 84, 92, 100, 105, 110, 118, 125, 132, 140, 149, 154, 159]) (by decide +kernel) (RN.stm hb0 (RN.stm hb1 (RN.stm hb2 (RN.sth hb3 (tgt := 85) rfl ?_))))
    obtain ⟨hc, hF⟩ := gd_of hF
    refine RN.blk (ops := [(85, .aload_n 0), (86, .getfield 39), (89, .bipush 13), (91, .iaload)]) (pc' := 92) (lv' := [(0, .inr (.inr t)), (1, .inl a1)]) (st' := [.inl (m_rd h (m_rd h t 20) 13)]) (h' := h) (cs := [GK h t 12, GI h (m_rd h t 20) 1 13]) (by decide +kernel) rfl hc ?_
    exact RN.iR (by decide +kernel) rfl hF
  rcases it_of hF with ⟨hb4, hF⟩ | ⟨hb4, hF⟩
  · refine RN.tsw (dflt := 164) (lo := 0) (hi := 14) (offs := #[75, 75, 75, 84, 92, 100, 105, 110, 118, 125, 132, 140, 149, 154, 159]) (by decide +kernel) (RN.stm hb0 (RN.stm hb1 (RN.stm hb2 (RN.stm hb3 (RN.sth hb4 (tgt := 93) rfl ?_)))))
    obtain ⟨hc, hF⟩ := gd_of hF
    refine RN.blk (ops := [(93, .aload_n 0), (94, .getfield 39), (97, .bipush 12), (99, .iaload)]) (pc' := 100) (lv' := [(0, .inr (.inr t)), (1, .inl a1)]) (st' := [.inl (m_rd h (m_rd h t 20) 12)]) (h' := h) (cs := [GK h t 12, GI h (m_rd h t 20) 1 12]) (by decide +kernel) rfl hc ?_
    exact RN.iR (by decide +kernel) rfl hF
  rcases it_of hF with ⟨hb5, hF⟩ | ⟨hb5, hF⟩
  · refine RN.tsw (dflt := 164) (lo := 0) (hi := 14) (offs := #[75, 75, 75, 84, 92, 100, 105, 110, 118, 125, 132, 140, 149, 154, 159]) (by decide +kernel) (RN.stm hb0 (RN.stm hb1 (RN.stm hb2 (RN.stm hb3 (RN.stm hb4 (RN.sth hb5 (tgt := 101) rfl ?_))))))
    obtain ⟨hc, hF⟩ := gd_of hF
    refine RN.blk (ops := [(101, .aload_n 0), (102, .getfield 268)]) (pc' := 105) (lv' := [(0, .inr (.inr t)), (1, .inl a1)]) (st' := [.inl (m_rd h t 2)]) (h' := h) (cs := [GK h t 12]) (by decide +kernel) rfl hc ?_
    exact RN.iR (by decide +kernel) rfl hF
  rcases it_of hF with ⟨hb6, hF⟩ | ⟨hb6, hF⟩
  · refine RN.tsw (dflt := 164) (lo := 0) (hi := 14) (offs := #[75, 75, 75, 84, 92, 100, 105, 110, 118, 125, 132, 140, 149, 154, 159]) (by decide +kernel) (RN.stm hb0 (RN.stm hb1 (RN.stm hb2 (RN.stm hb3 (RN.stm hb4 (RN.stm hb5 (RN.sth hb6 (tgt := 106) rfl ?_)))))))
    obtain ⟨hc, hF⟩ := gd_of hF
    refine RN.blk (ops := [(106, .aload_n 0), (107, .getfield 42)]) (pc' := 110) (lv' := [(0, .inr (.inr t)), (1, .inl a1)]) (st' := [.inl (m_rd h t 21)]) (h' := h) (cs := [GK h t 12]) (by decide +kernel) rfl hc ?_
    exact RN.iR (by decide +kernel) rfl hF
  rcases it_of hF with ⟨hb7, hF⟩ | ⟨hb7, hF⟩
  · refine RN.tsw (dflt := 164) (lo := 0) (hi := 14) (offs := #[75, 75, 75, 84, 92, 100, 105, 110, 118, 125, 132, 140, 149, 154, 159]) (by decide +kernel) (RN.stm hb0 (RN.stm hb1 (RN.stm hb2 (RN.stm hb3 (RN.stm hb4 (RN.stm hb5 (RN.stm hb6 (RN.sth hb7 (tgt := 111) rfl ?_))))))))
    obtain ⟨hc, hF⟩ := gd_of hF
    refine RN.blk (ops := [(111, .aload_n 0), (112, .getfield 39), (115, .bipush 10), (117, .iaload)]) (pc' := 118) (lv' := [(0, .inr (.inr t)), (1, .inl a1)]) (st' := [.inl (m_rd h (m_rd h t 20) 10)]) (h' := h) (cs := [GK h t 12, GI h (m_rd h t 20) 1 10]) (by decide +kernel) rfl hc ?_
    exact RN.iR (by decide +kernel) rfl hF
  rcases it_of hF with ⟨hb8, hF⟩ | ⟨hb8, hF⟩
  · refine RN.tsw (dflt := 164) (lo := 0) (hi := 14) (offs := #[75, 75, 75, 84, 92, 100, 105, 110, 118, 125, 132, 140, 149, 154, 159]) (by decide +kernel) (RN.stm hb0 (RN.stm hb1 (RN.stm hb2 (RN.stm hb3 (RN.stm hb4 (RN.stm hb5 (RN.stm hb6 (RN.stm hb7 (RN.sth hb8 (tgt := 119) rfl ?_)))))))))
    refine RN.blk (ops := [(119, .aload_n 0), (120, .bipush 14)]) (pc' := 122) (lv' := [(0, .inr (.inr t)), (1, .inl a1)]) (st' := [.inl 14, .inr (.inr t)]) (h' := h) (cs := []) (by decide +kernel) rfl trivial ?_
    obtain ⟨hc, hF⟩ := gd_of hF
    obtain ⟨x2, h1, hG, hF⟩ := bd_of hF
    refine RN.cv (i := 325) (k := 210) (q2 := iX12_sumOver) (as := [.inr (.inr t), .inl 14]) (r := []) (v := some (.inl x2)) (h1 := h1) (by decide +kernel) rfl rfl rfl rfl rfl (rcv_ok hc.1) (CX12_sumOver (d := d) hG) ?_
    exact RN.iR (by decide +kernel) rfl hF
  rcases it_of hF with ⟨hb9, hF⟩ | ⟨hb9, hF⟩
  · refine RN.tsw (dflt := 164) (lo := 0) (hi := 14) (offs := #[75, 75, 75, 84, 92, 100, 105, 110, 118, 125, 132, 140, 149, 154, 159]) (by decide +kernel) (RN.stm hb0 (RN.stm hb1 (RN.stm hb2 (RN.stm hb3 (RN.stm hb4 (RN.stm hb5 (RN.stm hb6 (RN.stm hb7 (RN.stm hb8 (RN.sth hb9 (tgt := 126) rfl ?_))))))))))
    refine RN.blk (ops := [(126, .aload_n 0), (127, .bipush 20)]) (pc' := 129) (lv' := [(0, .inr (.inr t)), (1, .inl a1)]) (st' := [.inl 20, .inr (.inr t)]) (h' := h) (cs := []) (by decide +kernel) rfl trivial ?_
    obtain ⟨hc, hF⟩ := gd_of hF
    obtain ⟨x4, h3, hG, hF⟩ := bd_of hF
    refine RN.cv (i := 325) (k := 210) (q2 := iX12_sumOver) (as := [.inr (.inr t), .inl 20]) (r := []) (v := some (.inl x4)) (h1 := h3) (by decide +kernel) rfl rfl rfl rfl rfl (rcv_ok hc.1) (CX12_sumOver (d := d) hG) ?_
    exact RN.iR (by decide +kernel) rfl hF
  rcases it_of hF with ⟨hb10, hF⟩ | ⟨hb10, hF⟩
  · refine RN.tsw (dflt := 164) (lo := 0) (hi := 14) (offs := #[75, 75, 75, 84, 92, 100, 105, 110, 118, 125, 132, 140, 149, 154, 159]) (by decide +kernel) (RN.stm hb0 (RN.stm hb1 (RN.stm hb2 (RN.stm hb3 (RN.stm hb4 (RN.stm hb5 (RN.stm hb6 (RN.stm hb7 (RN.stm hb8 (RN.stm hb9 (RN.sth hb10 (tgt := 133) rfl ?_)))))))))))
    obtain ⟨hc, hF⟩ := gd_of hF
    refine RN.blk (ops := [(133, .aload_n 0), (134, .getfield 39), (137, .bipush 11), (139, .iaload)]) (pc' := 140) (lv' := [(0, .inr (.inr t)), (1, .inl a1)]) (st' := [.inl (m_rd h (m_rd h t 20) 11)]) (h' := h) (cs := [GK h t 12, GI h (m_rd h t 20) 1 11]) (by decide +kernel) rfl hc ?_
    exact RN.iR (by decide +kernel) rfl hF
  rcases it_of hF with ⟨hb11, hF⟩ | ⟨hb11, hF⟩
  · refine RN.tsw (dflt := 164) (lo := 0) (hi := 14) (offs := #[75, 75, 75, 84, 92, 100, 105, 110, 118, 125, 132, 140, 149, 154, 159]) (by decide +kernel) (RN.stm hb0 (RN.stm hb1 (RN.stm hb2 (RN.stm hb3 (RN.stm hb4 (RN.stm hb5 (RN.stm hb6 (RN.stm hb7 (RN.stm hb8 (RN.stm hb9 (RN.stm hb10 (RN.sth hb11 (tgt := 141) rfl ?_))))))))))))
    obtain ⟨hc, hF⟩ := gd_of hF
    refine RN.blk (ops := [(141, .aload_n 0), (142, .getfield 39), (145, .sipush 166), (148, .iaload)]) (pc' := 149) (lv' := [(0, .inr (.inr t)), (1, .inl a1)]) (st' := [.inl (m_rd h (m_rd h t 20) 166)]) (h' := h) (cs := [GK h t 12, GI h (m_rd h t 20) 1 166]) (by decide +kernel) rfl hc ?_
    exact RN.iR (by decide +kernel) rfl hF
  rcases it_of hF with ⟨hb12, hF⟩ | ⟨hb12, hF⟩
  · refine RN.tsw (dflt := 164) (lo := 0) (hi := 14) (offs := #[75, 75, 75, 84, 92, 100, 105, 110, 118, 125, 132, 140, 149, 154, 159]) (by decide +kernel) (RN.stm hb0 (RN.stm hb1 (RN.stm hb2 (RN.stm hb3 (RN.stm hb4 (RN.stm hb5 (RN.stm hb6 (RN.stm hb7 (RN.stm hb8 (RN.stm hb9 (RN.stm hb10 (RN.stm hb11 (RN.sth hb12 (tgt := 150) rfl ?_)))))))))))))
    obtain ⟨hc, hF⟩ := gd_of hF
    refine RN.blk (ops := [(150, .aload_n 0), (151, .getfield 277)]) (pc' := 154) (lv' := [(0, .inr (.inr t)), (1, .inl a1)]) (st' := [.inl (m_rd h t 25)]) (h' := h) (cs := [GK h t 12]) (by decide +kernel) rfl hc ?_
    exact RN.iR (by decide +kernel) rfl hF
  rcases it_of hF with ⟨hb13, hF⟩ | ⟨hb13, hF⟩
  · refine RN.tsw (dflt := 164) (lo := 0) (hi := 14) (offs := #[75, 75, 75, 84, 92, 100, 105, 110, 118, 125, 132, 140, 149, 154, 159]) (by decide +kernel) (RN.stm hb0 (RN.stm hb1 (RN.stm hb2 (RN.stm hb3 (RN.stm hb4 (RN.stm hb5 (RN.stm hb6 (RN.stm hb7 (RN.stm hb8 (RN.stm hb9 (RN.stm hb10 (RN.stm hb11 (RN.stm hb12 (RN.sth hb13 (tgt := 155) rfl ?_))))))))))))))
    obtain ⟨hc, hF⟩ := gd_of hF
    refine RN.blk (ops := [(155, .aload_n 0), (156, .getfield 465)]) (pc' := 159) (lv' := [(0, .inr (.inr t)), (1, .inl a1)]) (st' := [.inl (m_rd h t 22)]) (h' := h) (cs := [GK h t 12]) (by decide +kernel) rfl hc ?_
    exact RN.iR (by decide +kernel) rfl hF
  rcases it_of hF with ⟨hb14, hF⟩ | ⟨hb14, hF⟩
  · refine RN.tsw (dflt := 164) (lo := 0) (hi := 14) (offs := #[75, 75, 75, 84, 92, 100, 105, 110, 118, 125, 132, 140, 149, 154, 159]) (by decide +kernel) (RN.stm hb0 (RN.stm hb1 (RN.stm hb2 (RN.stm hb3 (RN.stm hb4 (RN.stm hb5 (RN.stm hb6 (RN.stm hb7 (RN.stm hb8 (RN.stm hb9 (RN.stm hb10 (RN.stm hb11 (RN.stm hb12 (RN.stm hb13 (RN.sth hb14 (tgt := 160) rfl ?_)))))))))))))))
    obtain ⟨hc, hF⟩ := gd_of hF
    refine RN.blk (ops := [(160, .aload_n 0), (161, .getfield 89)]) (pc' := 164) (lv' := [(0, .inr (.inr t)), (1, .inl a1)]) (st' := [.inl (m_rd h t 1)]) (h' := h) (cs := [GK h t 12]) (by decide +kernel) rfl hc ?_
    exact RN.iR (by decide +kernel) rfl hF
  refine RN.tsw (dflt := 164) (lo := 0) (hi := 14) (offs := #[75, 75, 75, 84, 92, 100, 105, 110, 118, 125, 132, 140, 149, 154, 159]) (by decide +kernel) (RN.stm hb0 (RN.stm hb1 (RN.stm hb2 (RN.stm hb3 (RN.stm hb4 (RN.stm hb5 (RN.stm hb6 (RN.stm hb7 (RN.stm hb8 (RN.stm hb9 (RN.stm hb10 (RN.stm hb11 (RN.stm hb12 (RN.stm hb13 (RN.stm hb14 (RN.std (tgt := 165) rfl ?_))))))))))))))))
  refine RN.blk (ops := [(165, .iconst (-1))]) (pc' := 166) (lv' := [(0, .inr (.inr t)), (1, .inl a1)]) (st' := [.inl (-1)]) (h' := h) (cs := []) (by decide +kernel) rfl trivial ?_
  exact RN.iR (by decide +kernel) rfl hF
noncomputable def FX12_image_L43 (u0 : Int) (u1 : Int) (K0 : MH → Option (Int × MH)) : Nat → Int → MH → Option (Int × MH)
  | 0, _, _ => none
  | f + 1, v2, h =>
    (if v2 < 167 then
     gd [GK h u0 12, GK h u0 12, GI h (m_rd h u0 20) 1 v2, GI h (m_rd h u0 38) 1 (m_w32 ((m_w32 (167 * u1)) + v2))] (
      hl (m_wr h (m_rd h u0 38) (m_w32 ((m_w32 (167 * u1)) + v2)) (m_rd h (m_rd h u0 20) v2)) (fun h1 =>
       FX12_image_L43 u0 u1 K0 f (m_w32 (v2 + 1)) h1))
    else
     K0 h)
theorem CX12_image_L43 {d : Nat} {u0 : Int} {u1 : Int} {K0 : MH → Option (Int × MH)} {r : Int × MH} (hK0 : ∀ (h : MH), K0 h = some r → RN xs L iX12_image (d + 1) 74 [(0, .inr (.inr u0))] [] h (RIo r)) : ∀ (f : Nat) (v2 : Int) (h : MH), FX12_image_L43 u0 u1 K0 f v2 h = some r → RN xs L iX12_image (d + 1) 43 [(0, .inr (.inr u0)), (1, .inl u1), (2, .inl v2)] [] h (RIo r) := by
  intro f
  induction f with
  | zero =>
    intro v2 h hF
    cases hF
  | succ f ih =>
    intro v2 h hF
    unfold FX12_image_L43 at hF
    refine RN.blk (ops := [(43, .iload_n 2), (44, .sipush 167)]) (pc' := 47) (lv' := [(0, .inr (.inr u0)), (1, .inl u1), (2, .inl v2)]) (st' := [.inl 167, .inl v2]) (h' := h) (cs := []) (by decide +kernel) rfl trivial ?_
    rcases it_of hF with ⟨hb, hF⟩ | ⟨hb, hF⟩
    · refine RN.icf (cd := .ge) (off := 27) (tgt := 74) (by decide +kernel) (mif_gen hb) ?_
      obtain ⟨hc, hF⟩ := gd_of hF
      refine RN.blk (ops := [(50, .aload_n 0), (51, .getfield 77), (54, .sipush 167), (57, .iload_n 1), (58, .imul), (59, .iload_n 2), (60, .iadd), (61, .aload_n 0), (62, .getfield 39), (65, .iload_n 2), (66, .iaload), (67, .iastore)]) (pc' := 68) (lv' := [(0, .inr (.inr u0)), (1, .inl u1), (2, .inl v2)]) (st' := []) (h' := (m_wr h (m_rd h u0 38) (m_w32 ((m_w32 (167 * u1)) + v2)) (m_rd h (m_rd h u0 20) v2))) (cs := [GK h u0 12, GK h u0 12, GI h (m_rd h u0 20) 1 v2, GI h (m_rd h u0 38) 1 (m_w32 ((m_w32 (167 * u1)) + v2))]) (by decide +kernel) rfl hc ?_
      obtain ⟨h1, he, hF⟩ := hl_of hF
      refine RN.hl he ?_
      refine RN.blk (ops := [(68, .iinc 2 1)]) (pc' := 71) (lv' := [(2, .inl (m_w32 (v2 + 1))), (0, .inr (.inr u0)), (1, .inl u1)]) (st' := []) (h' := h1) (cs := []) (by decide +kernel) rfl trivial ?_
      refine RN.goto (off := -28) (tgt := 43) (by decide +kernel) ?_
      exact RN.sub (ih _ _ hF) (sub_cons rfl (sub_cons rfl (sub_cons rfl sub_nil)))
    · refine RN.ict (cd := .ge) (off := 27) (tgt := 74) (by decide +kernel) (mif_ge hb) ?_
      exact RN.sub (hK0 _ hF) (sub_cons rfl sub_nil)
noncomputable def FX12_image (t : Int) (a1 : Int) (h : MH) : Option (Int × MH) :=
  (bd (FX12_in a1 0 3 h) (fun x2 h1 =>
   (if x2 = 0 then
    some ((-1), h1)
   else
    gd [GK h1 t 12, GB h1 (m_rd h1 t 41) a1, GK h1 t 12, GK h1 t 12, GI h1 (m_rd (m_wr h1 (m_rd h1 t 41) a1 (m_bst h1 (m_rd h1 t 41) 1)) t 39) 1 a1] (
     hl (m_wr (m_wr h1 (m_rd h1 t 41) a1 (m_bst h1 (m_rd h1 t 41) 1)) (m_rd (m_wr h1 (m_rd h1 t 41) a1 (m_bst h1 (m_rd h1 t 41) 1)) t 39) a1 (m_rd (m_wr h1 (m_rd h1 t 41) a1 (m_bst h1 (m_rd h1 t 41) 1)) t 21)) (fun h3 =>
      gd [GK h3 t 12, GK h3 t 12, GI h3 (m_rd h3 t 40) 1 a1] (
       FX12_image_L43 t a1 (fun h4 =>
        gd [GK h4 t 12, GI h4 (m_rd h4 t 20) 1 10] (
         some ((m_rd h4 (m_rd h4 t 20) 10), h4))) FU 0 (m_wr h3 (m_rd h3 t 40) a1 (m_rd h3 t 22))))))))
theorem CX12_image {d : Nat} {t : Int} {a1 : Int} {h : MH} {r : Int × MH} (hF : FX12_image t a1 h = some r) : RN xs L iX12_image (d + 1) 0 (lvE 0 [.inr (.inr t), .inl a1]) [] h (RIo r) := by
  unfold FX12_image at hF
  refine RN.blk (ops := [(0, .iload_n 1), (1, .i2l), (2, .lconst 0), (3, .ldc2_w 434)]) (pc' := 6) (lv' := [(0, .inr (.inr t)), (1, .inl a1)]) (st' := [.inr (.inl 3), .inr (.inl 0), .inr (.inl a1)]) (h' := h) (cs := []) (by decide +kernel) rfl trivial ?_
  obtain ⟨x2, h1, hG, hF⟩ := bd_of hF
  refine RN.cst (i := 127) (k := 156) (q2 := iX12_in) (as := [.inr (.inl a1), .inr (.inl 0), .inr (.inl 3)]) (r := []) (v := some (.inl x2)) (h1 := h1) (by decide +kernel) rfl rfl rfl rfl rfl (CX12_in (d := d) hG) ?_
  rcases it_of hF with ⟨hb, hF⟩ | ⟨hb, hF⟩
  · refine RN.iff (cd := .ne) (off := 5) (tgt := 14) (by decide +kernel) (mif_nen hb) ?_
    refine RN.blk (ops := [(12, .iconst (-1))]) (pc' := 13) (lv' := [(0, .inr (.inr t)), (1, .inl a1)]) (st' := [.inl (-1)]) (h' := h1) (cs := []) (by decide +kernel) rfl trivial ?_
    exact RN.iR (by decide +kernel) rfl hF
  · refine RN.ift (cd := .ne) (off := 5) (tgt := 14) (by decide +kernel) (mif_ne hb) ?_
    obtain ⟨hc, hF⟩ := gd_of hF
    refine RN.blk (ops := [(14, .aload_n 0), (15, .getfield 86), (18, .iload_n 1), (19, .iconst 1), (20, .bastore), (21, .aload_n 0), (22, .getfield 80), (25, .iload_n 1), (26, .aload_n 0), (27, .getfield 42), (30, .iastore)]) (pc' := 31) (lv' := [(0, .inr (.inr t)), (1, .inl a1)]) (st' := []) (h' := (m_wr (m_wr h1 (m_rd h1 t 41) a1 (m_bst h1 (m_rd h1 t 41) 1)) (m_rd (m_wr h1 (m_rd h1 t 41) a1 (m_bst h1 (m_rd h1 t 41) 1)) t 39) a1 (m_rd (m_wr h1 (m_rd h1 t 41) a1 (m_bst h1 (m_rd h1 t 41) 1)) t 21))) (cs := [GK h1 t 12, GB h1 (m_rd h1 t 41) a1, GK h1 t 12, GK h1 t 12, GI h1 (m_rd (m_wr h1 (m_rd h1 t 41) a1 (m_bst h1 (m_rd h1 t 41) 1)) t 39) 1 a1]) (by decide +kernel) rfl hc ?_
    obtain ⟨h3, he, hF⟩ := hl_of hF
    refine RN.hl he ?_
    obtain ⟨hc, hF⟩ := gd_of hF
    refine RN.blk (ops := [(31, .aload_n 0), (32, .getfield 83), (35, .iload_n 1), (36, .aload_n 0), (37, .getfield 465), (40, .iastore), (41, .iconst 0), (42, .istore_n 2)]) (pc' := 43) (lv' := [(2, .inl 0), (0, .inr (.inr t)), (1, .inl a1)]) (st' := []) (h' := (m_wr h3 (m_rd h3 t 40) a1 (m_rd h3 t 22))) (cs := [GK h3 t 12, GK h3 t 12, GI h3 (m_rd h3 t 40) 1 a1]) (by decide +kernel) rfl hc ?_
    refine RN.sub (CX12_image_L43 ?_ _ _ _ hF) (sub_cons rfl (sub_cons rfl (sub_cons rfl sub_nil)))
    · intro h4 hF
      obtain ⟨hc, hF⟩ := gd_of hF
      refine RN.blk (ops := [(74, .aload_n 0), (75, .getfield 39), (78, .bipush 10), (80, .iaload)]) (pc' := 81) (lv' := [(0, .inr (.inr t))]) (st' := [.inl (m_rd h4 (m_rd h4 t 20) 10)]) (h' := h4) (cs := [GK h4 t 12, GI h4 (m_rd h4 t 20) 1 10]) (by decide +kernel) rfl hc ?_
      exact RN.iR (by decide +kernel) rfl hF
noncomputable def FX12_back_L50 (u0 : Int) (u1 : Int) (K0 : MH → Option (Int × MH)) : Nat → Int → MH → Option (Int × MH)
  | 0, _, _ => none
  | f + 1, v2, h =>
    (if v2 < 167 then
     gd [GK h u0 12, GK h u0 12, GI h (m_rd h u0 38) 1 (m_w32 ((m_w32 (167 * u1)) + v2)), GI h (m_rd h u0 20) 1 v2] (
      hl (m_wr h (m_rd h u0 20) v2 (m_rd h (m_rd h u0 38) (m_w32 ((m_w32 (167 * u1)) + v2)))) (fun h1 =>
       FX12_back_L50 u0 u1 K0 f (m_w32 (v2 + 1)) h1))
    else
     K0 h)
theorem CX12_back_L50 {d : Nat} {u0 : Int} {u1 : Int} {K0 : MH → Option (Int × MH)} {r : Int × MH} (hK0 : ∀ (h : MH), K0 h = some r → RN xs L iX12_back (d + 1) 81 [(0, .inr (.inr u0))] [] h (RIo r)) : ∀ (f : Nat) (v2 : Int) (h : MH), FX12_back_L50 u0 u1 K0 f v2 h = some r → RN xs L iX12_back (d + 1) 50 [(0, .inr (.inr u0)), (1, .inl u1), (2, .inl v2)] [] h (RIo r) := by
  intro f
  induction f with
  | zero =>
    intro v2 h hF
    cases hF
  | succ f ih =>
    intro v2 h hF
    unfold FX12_back_L50 at hF
    refine RN.blk (ops := [(50, .iload_n 2), (51, .sipush 167)]) (pc' := 54) (lv' := [(0, .inr (.inr u0)), (1, .inl u1), (2, .inl v2)]) (st' := [.inl 167, .inl v2]) (h' := h) (cs := []) (by decide +kernel) rfl trivial ?_
    rcases it_of hF with ⟨hb, hF⟩ | ⟨hb, hF⟩
    · refine RN.icf (cd := .ge) (off := 27) (tgt := 81) (by decide +kernel) (mif_gen hb) ?_
      obtain ⟨hc, hF⟩ := gd_of hF
      refine RN.blk (ops := [(57, .aload_n 0), (58, .getfield 39), (61, .iload_n 2), (62, .aload_n 0), (63, .getfield 77), (66, .sipush 167), (69, .iload_n 1), (70, .imul), (71, .iload_n 2), (72, .iadd), (73, .iaload), (74, .iastore)]) (pc' := 75) (lv' := [(0, .inr (.inr u0)), (1, .inl u1), (2, .inl v2)]) (st' := []) (h' := (m_wr h (m_rd h u0 20) v2 (m_rd h (m_rd h u0 38) (m_w32 ((m_w32 (167 * u1)) + v2))))) (cs := [GK h u0 12, GK h u0 12, GI h (m_rd h u0 38) 1 (m_w32 ((m_w32 (167 * u1)) + v2)), GI h (m_rd h u0 20) 1 v2]) (by decide +kernel) rfl hc ?_
      obtain ⟨h1, he, hF⟩ := hl_of hF
      refine RN.hl he ?_
      refine RN.blk (ops := [(75, .iinc 2 1)]) (pc' := 78) (lv' := [(2, .inl (m_w32 (v2 + 1))), (0, .inr (.inr u0)), (1, .inl u1)]) (st' := []) (h' := h1) (cs := []) (by decide +kernel) rfl trivial ?_
      refine RN.goto (off := -28) (tgt := 50) (by decide +kernel) ?_
      exact RN.sub (ih _ _ hF) (sub_cons rfl (sub_cons rfl (sub_cons rfl sub_nil)))
    · refine RN.ict (cd := .ge) (off := 27) (tgt := 81) (by decide +kernel) (mif_ge hb) ?_
      exact RN.sub (hK0 _ hF) (sub_cons rfl sub_nil)
noncomputable def FX12_back (t : Int) (a1 : Int) (h : MH) : Option (Int × MH) :=
  (bd (FX12_in a1 0 3 h) (fun x2 h1 =>
   (if x2 = 0 then
    some ((-1), h1)
   else
    gd [GK h1 t 12, GB h1 (m_rd h1 t 41) a1] (
     (if (m_rd h1 (m_rd h1 t 41) a1) = 0 then
      some ((-1), h1)
     else
      gd [GK h1 t 12, GI h1 (m_rd h1 t 39) 1 a1, GK h1 t 12, GK h1 t 12, GI h1 (m_rd (m_wr h1 t 21 (m_rd h1 (m_rd h1 t 39) a1)) t 40) 1 a1, GK h1 t 12] (
       hl (m_wr (m_wr h1 t 21 (m_rd h1 (m_rd h1 t 39) a1)) t 22 (m_rd (m_wr h1 t 21 (m_rd h1 (m_rd h1 t 39) a1)) (m_rd (m_wr h1 t 21 (m_rd h1 (m_rd h1 t 39) a1)) t 40) a1)) (fun h3 =>
        gd [GK h3 t 12] (
         FX12_back_L50 t a1 (fun h4 =>
          gd [GK h4 t 12, GI h4 (m_rd h4 t 20) 1 10] (
           some ((m_rd h4 (m_rd h4 t 20) 10), h4))) FU 0 (m_wr h3 t 25 0)))))))))
theorem CX12_back {d : Nat} {t : Int} {a1 : Int} {h : MH} {r : Int × MH} (hF : FX12_back t a1 h = some r) : RN xs L iX12_back (d + 1) 0 (lvE 0 [.inr (.inr t), .inl a1]) [] h (RIo r) := by
  unfold FX12_back at hF
  refine RN.blk (ops := [(0, .iload_n 1), (1, .i2l), (2, .lconst 0), (3, .ldc2_w 434)]) (pc' := 6) (lv' := [(0, .inr (.inr t)), (1, .inl a1)]) (st' := [.inr (.inl 3), .inr (.inl 0), .inr (.inl a1)]) (h' := h) (cs := []) (by decide +kernel) rfl trivial ?_
  obtain ⟨x2, h1, hG, hF⟩ := bd_of hF
  refine RN.cst (i := 127) (k := 156) (q2 := iX12_in) (as := [.inr (.inl a1), .inr (.inl 0), .inr (.inl 3)]) (r := []) (v := some (.inl x2)) (h1 := h1) (by decide +kernel) rfl rfl rfl rfl rfl (CX12_in (d := d) hG) ?_
  rcases it_of hF with ⟨hb, hF⟩ | ⟨hb, hF⟩
  · refine RN.ift (cd := .eq) (off := 12) (tgt := 21) (by decide +kernel) (mif_eq hb) ?_
    refine RN.blk (ops := [(21, .iconst (-1))]) (pc' := 22) (lv' := [(0, .inr (.inr t)), (1, .inl a1)]) (st' := [.inl (-1)]) (h' := h1) (cs := []) (by decide +kernel) rfl trivial ?_
    exact RN.iR (by decide +kernel) rfl hF
  · refine RN.iff (cd := .eq) (off := 12) (tgt := 21) (by decide +kernel) (mif_eqn hb) ?_
    obtain ⟨hc, hF⟩ := gd_of hF
    refine RN.blk (ops := [(12, .aload_n 0), (13, .getfield 86), (16, .iload_n 1), (17, .baload)]) (pc' := 18) (lv' := [(0, .inr (.inr t)), (1, .inl a1)]) (st' := [.inl (m_rd h1 (m_rd h1 t 41) a1)]) (h' := h1) (cs := [GK h1 t 12, GB h1 (m_rd h1 t 41) a1]) (by decide +kernel) rfl hc ?_
    rcases it_of hF with ⟨hb, hF⟩ | ⟨hb, hF⟩
    · refine RN.iff (cd := .ne) (off := 5) (tgt := 23) (by decide +kernel) (mif_nen hb) ?_
      refine RN.blk (ops := [(21, .iconst (-1))]) (pc' := 22) (lv' := [(0, .inr (.inr t)), (1, .inl a1)]) (st' := [.inl (-1)]) (h' := h1) (cs := []) (by decide +kernel) rfl trivial ?_
      exact RN.iR (by decide +kernel) rfl hF
    · refine RN.ift (cd := .ne) (off := 5) (tgt := 23) (by decide +kernel) (mif_ne hb) ?_
      obtain ⟨hc, hF⟩ := gd_of hF
      refine RN.blk (ops := [(23, .aload_n 0), (24, .aload_n 0), (25, .getfield 80), (28, .iload_n 1), (29, .iaload), (30, .putfield 42), (33, .aload_n 0), (34, .aload_n 0), (35, .getfield 83), (38, .iload_n 1), (39, .iaload), (40, .putfield 465)]) (pc' := 43) (lv' := [(0, .inr (.inr t)), (1, .inl a1)]) (st' := []) (h' := (m_wr (m_wr h1 t 21 (m_rd h1 (m_rd h1 t 39) a1)) t 22 (m_rd (m_wr h1 t 21 (m_rd h1 (m_rd h1 t 39) a1)) (m_rd (m_wr h1 t 21 (m_rd h1 (m_rd h1 t 39) a1)) t 40) a1))) (cs := [GK h1 t 12, GI h1 (m_rd h1 t 39) 1 a1, GK h1 t 12, GK h1 t 12, GI h1 (m_rd (m_wr h1 t 21 (m_rd h1 (m_rd h1 t 39) a1)) t 40) 1 a1, GK h1 t 12]) (by decide +kernel) rfl hc ?_
      obtain ⟨h3, he, hF⟩ := hl_of hF
      refine RN.hl he ?_
      obtain ⟨hc, hF⟩ := gd_of hF
      refine RN.blk (ops := [(43, .aload_n 0), (44, .iconst 0), (45, .putfield 277), (48, .iconst 0), (49, .istore_n 2)]) (pc' := 50) (lv' := [(2, .inl 0), (0, .inr (.inr t)), (1, .inl a1)]) (st' := []) (h' := (m_wr h3 t 25 0)) (cs := [GK h3 t 12]) (by decide +kernel) rfl hc ?_
      refine RN.sub (CX12_back_L50 ?_ _ _ _ hF) (sub_cons rfl (sub_cons rfl (sub_cons rfl sub_nil)))
      · intro h4 hF
        obtain ⟨hc, hF⟩ := gd_of hF
        refine RN.blk (ops := [(81, .aload_n 0), (82, .getfield 39), (85, .bipush 10), (87, .iaload)]) (pc' := 88) (lv' := [(0, .inr (.inr t))]) (st' := [.inl (m_rd h4 (m_rd h4 t 20) 10)]) (h' := h4) (cs := [GK h4 t 12, GI h4 (m_rd h4 t 20) 1 10]) (by decide +kernel) rfl hc ?_
        exact RN.iR (by decide +kernel) rfl hF
end Dc
