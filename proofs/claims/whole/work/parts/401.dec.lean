/-! METHODS AS FUNCTIONS, and their certificates (by program): X0_addSight, X0_mostAlike, X0_seekSight, X1_lay, X1_draw, X1_howManyTo, X1_leastTo, X1_takeReading, X8_digitOf, X1_isMeant, X1_meantHoles, X1_decides, X1_setToRead, X1_slipsOf, X1_mostSlipping -/
section Dc
variable {xs : Int → Int} {L : Int}
noncomputable def FX0_addSight (t : Int) (a1 : Int) (h : MH) : Option (MH) :=
  gd [GK h t 0, GK h t 0, GL h (m_rd h t 11)] (
   (if (m_rd h t 6) < (m_ln h (m_rd h t 11)) then
    gd [GK h t 0, GK h t 0, GA h (m_rd h t 11) (m_rd h t 6)] (
     gd [GC h a1 0 (m_rd h (m_rd h t 11) (m_rd h t 6)) 0 6] (
      gd [GK h t 0, GK h t 0] (
       some (m_wr (m_cpy h a1 0 (m_rd h (m_rd h t 11) (m_rd h t 6)) 0 6) t 6 (m_w32 ((m_rd (m_cpy h a1 0 (m_rd h (m_rd h t 11) (m_rd h t 6)) 0 6) t 6) + 1))))))
   else
    some h))
theorem CX0_addSight {d : Nat} {t : Int} {a1 : Int} {h : MH} {r : MH} (hF : FX0_addSight t a1 h = some r) : RN xs L iX0_addSight (d + 1) 0 (lvE 0 [.inr (.inr t), .inr (.inr a1)]) [] h (RVo r) := by
  unfold FX0_addSight at hF
  obtain ⟨hc, hF⟩ := gd_of hF
  refine RN.blk (ops := [(0, .aload_n 0), (1, .getfield 125), (4, .aload_n 0), (5, .getfield 20), (8, .arraylength)]) (pc' := 9) (lv' := [(0, .inr (.inr t)), (1, .inr (.inr a1))]) (st' := [.inl (m_ln h (m_rd h t 11)), .inl (m_rd h t 6)]) (h' := h) (cs := [GK h t 0, GK h t 0, GL h (m_rd h t 11)]) (by decide +kernel) rfl hc ?_
  rcases it_of hF with ⟨hb, hF⟩ | ⟨hb, hF⟩
  · refine RN.icf (cd := .ge) (off := 30) (tgt := 39) (by decide +kernel) (mif_gen hb) ?_
    obtain ⟨hc, hF⟩ := gd_of hF
    refine RN.blk (ops := [(12, .aload_n 1), (13, .iconst 0), (14, .aload_n 0), (15, .getfield 20), (18, .aload_n 0), (19, .getfield 125), (22, .aaload), (23, .iconst 0), (24, .bipush 6)]) (pc' := 26) (lv' := [(0, .inr (.inr t)), (1, .inr (.inr a1))]) (st' := [.inl 6, .inl 0, .inr (.inr (m_rd h (m_rd h t 11) (m_rd h t 6))), .inl 0, .inr (.inr a1)]) (h' := h) (cs := [GK h t 0, GK h t 0, GA h (m_rd h t 11) (m_rd h t 6)]) (by decide +kernel) rfl hc ?_
    obtain ⟨hc, hF⟩ := gd_of hF
    refine RN.cp (i := 37) (by decide +kernel) rfl rfl hc.1 ?_
    obtain ⟨hc, hF⟩ := gd_of hF
    refine RN.blk (ops := [(29, .aload_n 0), (30, .dup), (31, .getfield 125), (34, .iconst 1), (35, .iadd), (36, .putfield 125)]) (pc' := 39) (lv' := [(0, .inr (.inr t)), (1, .inr (.inr a1))]) (st' := []) (h' := (m_wr (m_cpy h a1 0 (m_rd h (m_rd h t 11) (m_rd h t 6)) 0 6) t 6 (m_w32 ((m_rd (m_cpy h a1 0 (m_rd h (m_rd h t 11) (m_rd h t 6)) 0 6) t 6) + 1)))) (cs := [GK h t 0, GK h t 0]) (by decide +kernel) rfl hc ?_
    exact RN.vR (by decide +kernel) rfl hF
  · refine RN.ict (cd := .ge) (off := 30) (tgt := 39) (by decide +kernel) (mif_ge hb) ?_
    exact RN.vR (by decide +kernel) rfl hF
noncomputable def FX0_mostAlike_L18 (u0 : Int) (u1 : Int) (u2 : Int) (u3 : Int) (K0 : Int → MH → Option (Int × MH)) : Nat → Int → Int → MH → Option (Int × MH)
  | 0, _, _, _ => none
  | f + 1, v4, v5, h =>
    gd [GK h u0 0] (
     (if v5 < (m_rd h u0 6) then
      gd [GK h u0 0, GA h (m_rd h u0 11) v5, GI h (m_rd h (m_rd h u0 11) v5) 1 u1, GK h u0 0, GA h (m_rd h u0 11) u3, GI h (m_rd h (m_rd h u0 11) u3) 1 u1] (
       (if (m_rd h (m_rd h (m_rd h u0 11) v5) u1) = (m_rd h (m_rd h (m_rd h u0 11) u3) u1) then
        FX0_mostAlike_L18 u0 u1 u2 u3 K0 f (m_w32 (v4 + 1)) (m_w32 (v5 + 1)) h
       else
        FX0_mostAlike_L18 u0 u1 u2 u3 K0 f v4 (m_w32 (v5 + 1)) h))
     else
      K0 v4 h))
theorem CX0_mostAlike_L18 {d : Nat} {u0 : Int} {u1 : Int} {u2 : Int} {u3 : Int} {K0 : Int → MH → Option (Int × MH)} {r : Int × MH} (hK0 : ∀ (w4 : Int) (h : MH), K0 w4 h = some r → RN xs L iX0_mostAlike (d + 1) 56 [(0, .inr (.inr u0)), (1, .inl u1), (2, .inl u2), (3, .inl u3), (4, .inl w4)] [] h (RIo r)) : ∀ (f : Nat) (v4 : Int) (v5 : Int) (h : MH), FX0_mostAlike_L18 u0 u1 u2 u3 K0 f v4 v5 h = some r → RN xs L iX0_mostAlike (d + 1) 18 [(0, .inr (.inr u0)), (1, .inl u1), (2, .inl u2), (3, .inl u3), (4, .inl v4), (5, .inl v5)] [] h (RIo r) := by
  intro f
  induction f with
  | zero =>
    intro v4 v5 h hF
    cases hF
  | succ f ih =>
    intro v4 v5 h hF
    unfold FX0_mostAlike_L18 at hF
    obtain ⟨hc, hF⟩ := gd_of hF
    refine RN.blk (ops := [(18, .iload 5), (20, .aload_n 0), (21, .getfield 125)]) (pc' := 24) (lv' := [(0, .inr (.inr u0)), (1, .inl u1), (2, .inl u2), (3, .inl u3), (4, .inl v4), (5, .inl v5)]) (st' := [.inl (m_rd h u0 6), .inl v5]) (h' := h) (cs := [GK h u0 0]) (by decide +kernel) rfl hc ?_
    rcases it_of hF with ⟨hb, hF⟩ | ⟨hb, hF⟩
    · refine RN.icf (cd := .ge) (off := 32) (tgt := 56) (by decide +kernel) (mif_gen hb) ?_
      obtain ⟨hc, hF⟩ := gd_of hF
      refine RN.blk (ops := [(27, .aload_n 0), (28, .getfield 20), (31, .iload 5), (33, .aaload), (34, .iload_n 1), (35, .iaload), (36, .aload_n 0), (37, .getfield 20), (40, .iload_n 3), (41, .aaload), (42, .iload_n 1), (43, .iaload)]) (pc' := 44) (lv' := [(0, .inr (.inr u0)), (1, .inl u1), (2, .inl u2), (3, .inl u3), (4, .inl v4), (5, .inl v5)]) (st' := [.inl (m_rd h (m_rd h (m_rd h u0 11) u3) u1), .inl (m_rd h (m_rd h (m_rd h u0 11) v5) u1)]) (h' := h) (cs := [GK h u0 0, GA h (m_rd h u0 11) v5, GI h (m_rd h (m_rd h u0 11) v5) 1 u1, GK h u0 0, GA h (m_rd h u0 11) u3, GI h (m_rd h (m_rd h u0 11) u3) 1 u1]) (by decide +kernel) rfl hc ?_
      rcases it_of hF with ⟨hb, hF⟩ | ⟨hb, hF⟩
      · refine RN.icf (cd := .ne) (off := 6) (tgt := 50) (by decide +kernel) (mif_nen hb) ?_
        refine RN.blk (ops := [(47, .iinc 4 1)]) (pc' := 50) (lv' := [(4, .inl (m_w32 (v4 + 1))), (0, .inr (.inr u0)), (1, .inl u1), (2, .inl u2), (3, .inl u3), (5, .inl v5)]) (st' := []) (h' := h) (cs := []) (by decide +kernel) rfl trivial ?_
        refine RN.blk (ops := [(50, .iinc 5 1)]) (pc' := 53) (lv' := [(5, .inl (m_w32 (v5 + 1))), (4, .inl (m_w32 (v4 + 1))), (0, .inr (.inr u0)), (1, .inl u1), (2, .inl u2), (3, .inl u3)]) (st' := []) (h' := h) (cs := []) (by decide +kernel) rfl trivial ?_
        refine RN.goto (off := -35) (tgt := 18) (by decide +kernel) ?_
        exact RN.sub (ih _ _ _ hF) (sub_cons rfl (sub_cons rfl (sub_cons rfl (sub_cons rfl (sub_cons rfl (sub_cons rfl sub_nil))))))
      · refine RN.ict (cd := .ne) (off := 6) (tgt := 50) (by decide +kernel) (mif_ne hb) ?_
        refine RN.blk (ops := [(50, .iinc 5 1)]) (pc' := 53) (lv' := [(5, .inl (m_w32 (v5 + 1))), (0, .inr (.inr u0)), (1, .inl u1), (2, .inl u2), (3, .inl u3), (4, .inl v4)]) (st' := []) (h' := h) (cs := []) (by decide +kernel) rfl trivial ?_
        refine RN.goto (off := -35) (tgt := 18) (by decide +kernel) ?_
        exact RN.sub (ih _ _ _ hF) (sub_cons rfl (sub_cons rfl (sub_cons rfl (sub_cons rfl (sub_cons rfl (sub_cons rfl sub_nil))))))
    · refine RN.ict (cd := .ge) (off := 32) (tgt := 56) (by decide +kernel) (mif_ge hb) ?_
      exact RN.sub (hK0 _ _ hF) (sub_cons rfl (sub_cons rfl (sub_cons rfl (sub_cons rfl (sub_cons rfl sub_nil)))))
noncomputable def FX0_mostAlike_L4 (u0 : Int) (u1 : Int) (K0 : Int → MH → Option (Int × MH)) : Nat → Int → Int → MH → Option (Int × MH)
  | 0, _, _, _ => none
  | f + 1, v2, v3, h =>
    gd [GK h u0 0] (
     (if v3 < (m_rd h u0 6) then
      FX0_mostAlike_L18 u0 u1 v2 v3 (fun w1 h2 =>
       FX0_mostAlike_L4 u0 u1 K0 f (m_mx v2 w1) (m_w32 (v3 + 1)) h2) FU 0 0 h
     else
      K0 v2 h))
theorem CX0_mostAlike_L4 {d : Nat} {u0 : Int} {u1 : Int} {K0 : Int → MH → Option (Int × MH)} {r : Int × MH} (hK0 : ∀ (w2 : Int) (h : MH), K0 w2 h = some r → RN xs L iX0_mostAlike (d + 1) 69 [(2, .inl w2)] [] h (RIo r)) : ∀ (f : Nat) (v2 : Int) (v3 : Int) (h : MH), FX0_mostAlike_L4 u0 u1 K0 f v2 v3 h = some r → RN xs L iX0_mostAlike (d + 1) 4 [(0, .inr (.inr u0)), (1, .inl u1), (2, .inl v2), (3, .inl v3)] [] h (RIo r) := by
  intro f
  induction f with
  | zero =>
    intro v2 v3 h hF
    cases hF
  | succ f ih =>
    intro v2 v3 h hF
    unfold FX0_mostAlike_L4 at hF
    obtain ⟨hc, hF⟩ := gd_of hF
    refine RN.blk (ops := [(4, .iload_n 3), (5, .aload_n 0), (6, .getfield 125)]) (pc' := 9) (lv' := [(0, .inr (.inr u0)), (1, .inl u1), (2, .inl v2), (3, .inl v3)]) (st' := [.inl (m_rd h u0 6), .inl v3]) (h' := h) (cs := [GK h u0 0]) (by decide +kernel) rfl hc ?_
    rcases it_of hF with ⟨hb, hF⟩ | ⟨hb, hF⟩
    · refine RN.icf (cd := .ge) (off := 60) (tgt := 69) (by decide +kernel) (mif_gen hb) ?_
      refine RN.blk (ops := [(12, .iconst 0), (13, .istore 4), (15, .iconst 0), (16, .istore 5)]) (pc' := 18) (lv' := [(5, .inl 0), (4, .inl 0), (0, .inr (.inr u0)), (1, .inl u1), (2, .inl v2), (3, .inl v3)]) (st' := []) (h' := h) (cs := []) (by decide +kernel) rfl trivial ?_
      refine RN.sub (CX0_mostAlike_L18 ?_ _ _ _ _ hF) (sub_cons rfl (sub_cons rfl (sub_cons rfl (sub_cons rfl (sub_cons rfl (sub_cons rfl sub_nil))))))
      · intro w1 h2 hF
        refine RN.blk (ops := [(56, .iload_n 2), (57, .iload 4)]) (pc' := 59) (lv' := [(0, .inr (.inr u0)), (1, .inl u1), (2, .inl v2), (3, .inl v3), (4, .inl w1)]) (st' := [.inl w1, .inl v2]) (h' := h2) (cs := []) (by decide +kernel) rfl trivial ?_
        refine RN.mx (i := 134) (by decide +kernel) rfl rfl ?_
        refine RN.blk (ops := [(62, .istore_n 2), (63, .iinc 3 1)]) (pc' := 66) (lv' := [(3, .inl (m_w32 (v3 + 1))), (2, .inl (m_mx v2 w1)), (0, .inr (.inr u0)), (1, .inl u1), (4, .inl w1)]) (st' := []) (h' := h2) (cs := []) (by decide +kernel) rfl trivial ?_
        refine RN.goto (off := -62) (tgt := 4) (by decide +kernel) ?_
        exact RN.sub (ih _ _ _ hF) (sub_cons rfl (sub_cons rfl (sub_cons rfl (sub_cons rfl sub_nil))))
    · refine RN.ict (cd := .ge) (off := 60) (tgt := 69) (by decide +kernel) (mif_ge hb) ?_
      exact RN.sub (hK0 _ _ hF) (sub_cons rfl sub_nil)
noncomputable def FX0_mostAlike (t : Int) (a1 : Int) (h : MH) : Option (Int × MH) :=
  FX0_mostAlike_L4 t a1 (fun w1 h2 =>
   some (w1, h2)) FU 0 0 h
theorem CX0_mostAlike {d : Nat} {t : Int} {a1 : Int} {h : MH} {r : Int × MH} (hF : FX0_mostAlike t a1 h = some r) : RN xs L iX0_mostAlike (d + 1) 0 (lvE 0 [.inr (.inr t), .inl a1]) [] h (RIo r) := by
  unfold FX0_mostAlike at hF
  refine RN.blk (ops := [(0, .iconst 0), (1, .istore_n 2), (2, .iconst 0), (3, .istore_n 3)]) (pc' := 4) (lv' := [(3, .inl 0), (2, .inl 0), (0, .inr (.inr t)), (1, .inl a1)]) (st' := []) (h' := h) (cs := []) (by decide +kernel) rfl trivial ?_
  refine RN.sub (CX0_mostAlike_L4 ?_ _ _ _ _ hF) (sub_cons rfl (sub_cons rfl (sub_cons rfl (sub_cons rfl sub_nil))))
  · intro w1 h2 hF
    refine RN.blk (ops := [(69, .iload_n 2)]) (pc' := 70) (lv' := [(2, .inl w1)]) (st' := [.inl w1]) (h' := h2) (cs := []) (by decide +kernel) rfl trivial ?_
    exact RN.iR (by decide +kernel) rfl hF
noncomputable def FX0_seekSight_L16 (u0 : Int) (u1 : Int) (K0 : MH → Option (MH)) : Nat → Int → MH → Option (MH)
  | 0, _, _ => none
  | f + 1, v2, h =>
    (if v2 < u1 then
     gd [GK h u0 0] (bd (FX0_mostAlike u0 v2 h) (fun x2 h1 =>
      gd [GK h1 u0 0] (
       (if x2 < (m_rd h1 u0 7) then
        gd [GK h1 u0 0, GK h1 u0 0] (
         FX0_seekSight_L16 u0 u1 K0 f (m_w32 (v2 + 1)) (m_wr (m_wr h1 u0 7 x2) u0 4 v2))
       else
        FX0_seekSight_L16 u0 u1 K0 f (m_w32 (v2 + 1)) h1))))
    else
     K0 h)
theorem CX0_seekSight_L16 {d : Nat} {u0 : Int} {u1 : Int} {K0 : MH → Option (MH)} {r : MH} (hK0 : ∀ (h : MH), K0 h = some r → RN xs L iX0_seekSight (d + 2) 51 [] [] h (RVo r)) : ∀ (f : Nat) (v2 : Int) (h : MH), FX0_seekSight_L16 u0 u1 K0 f v2 h = some r → RN xs L iX0_seekSight (d + 2) 16 [(0, .inr (.inr u0)), (1, .inl u1), (2, .inl v2)] [] h (RVo r) := by
  intro f
  induction f with
  | zero =>
    intro v2 h hF
    cases hF
  | succ f ih =>
    intro v2 h hF
    unfold FX0_seekSight_L16 at hF
    refine RN.blk (ops := [(16, .iload_n 2), (17, .iload_n 1)]) (pc' := 18) (lv' := [(0, .inr (.inr u0)), (1, .inl u1), (2, .inl v2)]) (st' := [.inl u1, .inl v2]) (h' := h) (cs := []) (by decide +kernel) rfl trivial ?_
    rcases it_of hF with ⟨hb, hF⟩ | ⟨hb, hF⟩
    · refine RN.icf (cd := .ge) (off := 33) (tgt := 51) (by decide +kernel) (mif_gen hb) ?_
      refine RN.blk (ops := [(21, .aload_n 0), (22, .iload_n 2)]) (pc' := 23) (lv' := [(0, .inr (.inr u0)), (1, .inl u1), (2, .inl v2)]) (st' := [.inl v2, .inr (.inr u0)]) (h' := h) (cs := []) (by decide +kernel) rfl trivial ?_
      obtain ⟨hc, hF⟩ := gd_of hF
      obtain ⟨x2, h1, hG, hF⟩ := bd_of hF
      refine RN.cv (i := 128) (k := 10) (q2 := iX0_mostAlike) (as := [.inr (.inr u0), .inl v2]) (r := []) (v := some (.inl x2)) (h1 := h1) (by decide +kernel) rfl rfl rfl rfl rfl (rcv_ok hc.1) (CX0_mostAlike (d := d) hG) ?_
      obtain ⟨hc, hF⟩ := gd_of hF
      refine RN.blk (ops := [(26, .istore_n 3), (27, .iload_n 3), (28, .aload_n 0), (29, .getfield 131)]) (pc' := 32) (lv' := [(3, .inl x2), (0, .inr (.inr u0)), (1, .inl u1), (2, .inl v2)]) (st' := [.inl (m_rd h1 u0 7), .inl x2]) (h' := h1) (cs := [GK h1 u0 0]) (by decide +kernel) rfl hc ?_
      rcases it_of hF with ⟨hb, hF⟩ | ⟨hb, hF⟩
      · refine RN.icf (cd := .ge) (off := 13) (tgt := 45) (by decide +kernel) (mif_gen hb) ?_
        obtain ⟨hc, hF⟩ := gd_of hF
        refine RN.blk (ops := [(35, .aload_n 0), (36, .iload_n 3), (37, .putfield 131), (40, .aload_n 0), (41, .iload_n 2), (42, .putfield 80)]) (pc' := 45) (lv' := [(3, .inl x2), (0, .inr (.inr u0)), (1, .inl u1), (2, .inl v2)]) (st' := []) (h' := (m_wr (m_wr h1 u0 7 x2) u0 4 v2)) (cs := [GK h1 u0 0, GK h1 u0 0]) (by decide +kernel) rfl hc ?_
        refine RN.blk (ops := [(45, .iinc 2 1)]) (pc' := 48) (lv' := [(2, .inl (m_w32 (v2 + 1))), (3, .inl x2), (0, .inr (.inr u0)), (1, .inl u1)]) (st' := []) (h' := (m_wr (m_wr h1 u0 7 x2) u0 4 v2)) (cs := []) (by decide +kernel) rfl trivial ?_
        refine RN.goto (off := -32) (tgt := 16) (by decide +kernel) ?_
        exact RN.sub (ih _ _ hF) (sub_cons rfl (sub_cons rfl (sub_cons rfl sub_nil)))
      · refine RN.ict (cd := .ge) (off := 13) (tgt := 45) (by decide +kernel) (mif_ge hb) ?_
        refine RN.blk (ops := [(45, .iinc 2 1)]) (pc' := 48) (lv' := [(2, .inl (m_w32 (v2 + 1))), (3, .inl x2), (0, .inr (.inr u0)), (1, .inl u1)]) (st' := []) (h' := h1) (cs := []) (by decide +kernel) rfl trivial ?_
        refine RN.goto (off := -32) (tgt := 16) (by decide +kernel) ?_
        exact RN.sub (ih _ _ hF) (sub_cons rfl (sub_cons rfl (sub_cons rfl sub_nil)))
    · refine RN.ict (cd := .ge) (off := 33) (tgt := 51) (by decide +kernel) (mif_ge hb) ?_
      exact RN.sub (hK0 _ hF) sub_nil
noncomputable def FX0_seekSight (t : Int) (a1 : Int) (h : MH) : Option (MH) :=
  gd [GK h t 0] (
   gd [GK h t 0] (bd (FX0_mostAlike t 0 (m_wr h t 4 0)) (fun x2 h1 =>
    gd [GK h1 t 0] (
     FX0_seekSight_L16 t a1 (fun h3 =>
      some h3) FU 1 (m_wr h1 t 7 x2)))))
theorem CX0_seekSight {d : Nat} {t : Int} {a1 : Int} {h : MH} {r : MH} (hF : FX0_seekSight t a1 h = some r) : RN xs L iX0_seekSight (d + 2) 0 (lvE 0 [.inr (.inr t), .inl a1]) [] h (RVo r) := by
  unfold FX0_seekSight at hF
  obtain ⟨hc, hF⟩ := gd_of hF
  refine RN.blk (ops := [(0, .aload_n 0), (1, .iconst 0), (2, .putfield 80), (5, .aload_n 0), (6, .aload_n 0), (7, .iconst 0)]) (pc' := 8) (lv' := [(0, .inr (.inr t)), (1, .inl a1)]) (st' := [.inl 0, .inr (.inr t), .inr (.inr t)]) (h' := (m_wr h t 4 0)) (cs := [GK h t 0]) (by decide +kernel) rfl hc ?_
  obtain ⟨hc, hF⟩ := gd_of hF
  obtain ⟨x2, h1, hG, hF⟩ := bd_of hF
  refine RN.cv (i := 128) (k := 10) (q2 := iX0_mostAlike) (as := [.inr (.inr t), .inl 0]) (r := [.inr (.inr t)]) (v := some (.inl x2)) (h1 := h1) (by decide +kernel) rfl rfl rfl rfl rfl (rcv_ok hc.1) (CX0_mostAlike (d := d) hG) ?_
  obtain ⟨hc, hF⟩ := gd_of hF
  refine RN.blk (ops := [(11, .putfield 131), (14, .iconst 1), (15, .istore_n 2)]) (pc' := 16) (lv' := [(2, .inl 1), (0, .inr (.inr t)), (1, .inl a1)]) (st' := []) (h' := (m_wr h1 t 7 x2)) (cs := [GK h1 t 0]) (by decide +kernel) rfl hc ?_
  refine RN.sub (CX0_seekSight_L16 ?_ _ _ _ hF) (sub_cons rfl (sub_cons rfl (sub_cons rfl sub_nil)))
  · intro h3 hF
    exact RN.vR (by decide +kernel) rfl hF
noncomputable def FX1_lay_L32 (u0 : Int) (u1 : Int) (u2 : Int) (u3 : Int) (K0 : MH → Option (MH)) : Nat → Int → MH → Option (MH)
  | 0, _, _ => none
  | f + 1, v4, h =>
    (if v4 < (m_w32 (u3 + u2)) then
     (if v4 < 256 then
      gd [GK h u0 1, GI h (m_rd h u0 2) 1 v4] (
       FX1_lay_L32 u0 u1 u2 u3 K0 f (m_w32 (v4 + 1)) (m_wr h (m_rd h u0 2) v4 u1))
     else
      K0 h)
    else
     K0 h)
theorem CX1_lay_L32 {d : Nat} {u0 : Int} {u1 : Int} {u2 : Int} {u3 : Int} {K0 : MH → Option (MH)} {r : MH} (hK0 : ∀ (h : MH), K0 h = some r → RN xs L iX1_lay (d + 1) 62 [] [] h (RVo r)) : ∀ (f : Nat) (v4 : Int) (h : MH), FX1_lay_L32 u0 u1 u2 u3 K0 f v4 h = some r → RN xs L iX1_lay (d + 1) 32 [(0, .inr (.inr u0)), (1, .inl u1), (2, .inl u2), (3, .inl u3), (4, .inl v4)] [] h (RVo r) := by
  intro f
  induction f with
  | zero =>
    intro v4 h hF
    cases hF
  | succ f ih =>
    intro v4 h hF
    unfold FX1_lay_L32 at hF
    refine RN.blk (ops := [(32, .iload 4), (34, .iload_n 3), (35, .iload_n 2), (36, .iadd)]) (pc' := 37) (lv' := [(0, .inr (.inr u0)), (1, .inl u1), (2, .inl u2), (3, .inl u3), (4, .inl v4)]) (st' := [.inl (m_w32 (u3 + u2)), .inl v4]) (h' := h) (cs := []) (by decide +kernel) rfl trivial ?_
    rcases it_of hF with ⟨hb, hF⟩ | ⟨hb, hF⟩
    · refine RN.icf (cd := .ge) (off := 25) (tgt := 62) (by decide +kernel) (mif_gen hb) ?_
      refine RN.blk (ops := [(40, .iload 4), (42, .sipush 256)]) (pc' := 45) (lv' := [(0, .inr (.inr u0)), (1, .inl u1), (2, .inl u2), (3, .inl u3), (4, .inl v4)]) (st' := [.inl 256, .inl v4]) (h' := h) (cs := []) (by decide +kernel) rfl trivial ?_
      rcases it_of hF with ⟨hb, hF⟩ | ⟨hb, hF⟩
      · refine RN.icf (cd := .ge) (off := 17) (tgt := 62) (by decide +kernel) (mif_gen hb) ?_
        obtain ⟨hc, hF⟩ := gd_of hF
        refine RN.blk (ops := [(48, .aload_n 0), (49, .getfield 25), (52, .iload 4), (54, .iload_n 1), (55, .iastore), (56, .iinc 4 1)]) (pc' := 59) (lv' := [(4, .inl (m_w32 (v4 + 1))), (0, .inr (.inr u0)), (1, .inl u1), (2, .inl u2), (3, .inl u3)]) (st' := []) (h' := (m_wr h (m_rd h u0 2) v4 u1)) (cs := [GK h u0 1, GI h (m_rd h u0 2) 1 v4]) (by decide +kernel) rfl hc ?_
        refine RN.goto (off := -27) (tgt := 32) (by decide +kernel) ?_
        exact RN.sub (ih _ _ hF) (sub_cons rfl (sub_cons rfl (sub_cons rfl (sub_cons rfl (sub_cons rfl sub_nil)))))
      · refine RN.ict (cd := .ge) (off := 17) (tgt := 62) (by decide +kernel) (mif_ge hb) ?_
        exact RN.sub (hK0 _ hF) sub_nil
    · refine RN.ict (cd := .ge) (off := 25) (tgt := 62) (by decide +kernel) (mif_ge hb) ?_
      exact RN.sub (hK0 _ hF) sub_nil
noncomputable def FX1_lay (t : Int) (a1 : Int) (h : MH) : Option (MH) :=
  gd [GK h t 1, GK h t 1, GK h (m_rd h t 1) 4, GI h (m_rd h (m_rd h t 1) 1) 1 a1] (
   gd [GK h (m_rd h t 0) 8] (bd (FX8_spanOf (m_rd h t 0) (m_rd h (m_rd h (m_rd h t 1) 1) a1) h) (fun x2 h1 =>
    gd [GK h1 t 1, GK h1 (m_rd h1 t 1) 4, GI h1 (m_rd h1 (m_rd h1 t 1) 2) 1 a1] (
     FX1_lay_L32 t a1 x2 (m_w32 ((m_rd h1 (m_rd h1 (m_rd h1 t 1) 2) a1) * x2)) (fun h3 =>
      some h3) FU (m_w32 ((m_rd h1 (m_rd h1 (m_rd h1 t 1) 2) a1) * x2)) h1))))
theorem CX1_lay {d : Nat} {t : Int} {a1 : Int} {h : MH} {r : MH} (hF : FX1_lay t a1 h = some r) : RN xs L iX1_lay (d + 1) 0 (lvE 0 [.inr (.inr t), .inl a1]) [] h (RVo r) := by
  unfold FX1_lay at hF
  obtain ⟨hc, hF⟩ := gd_of hF
  refine RN.blk (ops := [(0, .aload_n 0), (1, .getfield 12), (4, .aload_n 0), (5, .getfield 21), (8, .getfield 48), (11, .iload_n 1), (12, .iaload)]) (pc' := 13) (lv' := [(0, .inr (.inr t)), (1, .inl a1)]) (st' := [.inl (m_rd h (m_rd h (m_rd h t 1) 1) a1), .inr (.inr (m_rd h t 0))]) (h' := h) (cs := [GK h t 1, GK h t 1, GK h (m_rd h t 1) 4, GI h (m_rd h (m_rd h t 1) 1) 1 a1]) (by decide +kernel) rfl hc ?_
  obtain ⟨hc, hF⟩ := gd_of hF
  obtain ⟨x2, h1, hG, hF⟩ := bd_of hF
  refine RN.cv (i := 54) (k := 85) (q2 := iX8_spanOf) (as := [.inr (.inr (m_rd h t 0)), .inl (m_rd h (m_rd h (m_rd h t 1) 1) a1)]) (r := []) (v := some (.inl x2)) (h1 := h1) (by decide +kernel) rfl rfl rfl rfl rfl (rcv_ok hc.1) (CX8_spanOf (d := d) hG) ?_
  obtain ⟨hc, hF⟩ := gd_of hF
  refine RN.blk (ops := [(16, .istore_n 2), (17, .aload_n 0), (18, .getfield 21), (21, .getfield 58), (24, .iload_n 1), (25, .iaload), (26, .iload_n 2), (27, .imul), (28, .istore_n 3), (29, .iload_n 3), (30, .istore 4)]) (pc' := 32) (lv' := [(4, .inl (m_w32 ((m_rd h1 (m_rd h1 (m_rd h1 t 1) 2) a1) * x2))), (3, .inl (m_w32 ((m_rd h1 (m_rd h1 (m_rd h1 t 1) 2) a1) * x2))), (2, .inl x2), (0, .inr (.inr t)), (1, .inl a1)]) (st' := []) (h' := h1) (cs := [GK h1 t 1, GK h1 (m_rd h1 t 1) 4, GI h1 (m_rd h1 (m_rd h1 t 1) 2) 1 a1]) (by decide +kernel) rfl hc ?_
  refine RN.sub (CX1_lay_L32 ?_ _ _ _ hF) (sub_cons rfl (sub_cons rfl (sub_cons rfl (sub_cons rfl (sub_cons rfl sub_nil)))))
  · intro h3 hF
    exact RN.vR (by decide +kernel) rfl hF
noncomputable def FX1_draw_L12 (u0 : Int) (K0 : MH → Option (MH)) : Nat → Int → MH → Option (MH)
  | 0, _, _ => none
  | f + 1, v3, h =>
    gd [GK h u0 1, GK h (m_rd h u0 0) 8] (
     (if v3 < (m_rd h (m_rd h u0 0) 3) then
      (if v3 < 256 then
       gd [GK h u0 1, GI h (m_rd h u0 2) 1 v3] (
        FX1_draw_L12 u0 K0 f (m_w32 (v3 + 1)) (m_wr h (m_rd h u0 2) v3 (-1)))
      else
       K0 h)
     else
      K0 h))
theorem CX1_draw_L12 {d : Nat} {u0 : Int} {K0 : MH → Option (MH)} {r : MH} (hK0 : ∀ (h : MH), K0 h = some r → RN xs L iX1_draw (d + 2) 43 [(0, .inr (.inr u0))] [] h (RVo r)) : ∀ (f : Nat) (v3 : Int) (h : MH), FX1_draw_L12 u0 K0 f v3 h = some r → RN xs L iX1_draw (d + 2) 12 [(0, .inr (.inr u0)), (3, .inl v3)] [] h (RVo r) := by
  intro f
  induction f with
  | zero =>
    intro v3 h hF
    cases hF
  | succ f ih =>
    intro v3 h hF
    unfold FX1_draw_L12 at hF
    obtain ⟨hc, hF⟩ := gd_of hF
    refine RN.blk (ops := [(12, .iload_n 3), (13, .aload_n 0), (14, .getfield 12), (17, .getfield 38)]) (pc' := 20) (lv' := [(0, .inr (.inr u0)), (3, .inl v3)]) (st' := [.inl (m_rd h (m_rd h u0 0) 3), .inl v3]) (h' := h) (cs := [GK h u0 1, GK h (m_rd h u0 0) 8]) (by decide +kernel) rfl hc ?_
    rcases it_of hF with ⟨hb, hF⟩ | ⟨hb, hF⟩
    · refine RN.icf (cd := .ge) (off := 23) (tgt := 43) (by decide +kernel) (mif_gen hb) ?_
      refine RN.blk (ops := [(23, .iload_n 3), (24, .sipush 256)]) (pc' := 27) (lv' := [(0, .inr (.inr u0)), (3, .inl v3)]) (st' := [.inl 256, .inl v3]) (h' := h) (cs := []) (by decide +kernel) rfl trivial ?_
      rcases it_of hF with ⟨hb, hF⟩ | ⟨hb, hF⟩
      · refine RN.icf (cd := .ge) (off := 16) (tgt := 43) (by decide +kernel) (mif_gen hb) ?_
        obtain ⟨hc, hF⟩ := gd_of hF
        refine RN.blk (ops := [(30, .aload_n 0), (31, .getfield 25), (34, .iload_n 3), (35, .iconst (-1)), (36, .iastore), (37, .iinc 3 1)]) (pc' := 40) (lv' := [(3, .inl (m_w32 (v3 + 1))), (0, .inr (.inr u0))]) (st' := []) (h' := (m_wr h (m_rd h u0 2) v3 (-1))) (cs := [GK h u0 1, GI h (m_rd h u0 2) 1 v3]) (by decide +kernel) rfl hc ?_
        refine RN.goto (off := -28) (tgt := 12) (by decide +kernel) ?_
        exact RN.sub (ih _ _ hF) (sub_cons rfl (sub_cons rfl sub_nil))
      · refine RN.ict (cd := .ge) (off := 16) (tgt := 43) (by decide +kernel) (mif_ge hb) ?_
        exact RN.sub (hK0 _ hF) (sub_cons rfl sub_nil)
    · refine RN.ict (cd := .ge) (off := 23) (tgt := 43) (by decide +kernel) (mif_ge hb) ?_
      exact RN.sub (hK0 _ hF) (sub_cons rfl sub_nil)
noncomputable def FX1_draw_L59 (u0 : Int) (u3 : Int) (K0 : MH → Option (MH)) : Nat → Int → MH → Option (MH)
  | 0, _, _ => none
  | f + 1, v4, h =>
    gd [GK h u0 1, GK h (m_rd h u0 1) 4] (
     (if v4 < (m_rd h (m_rd h u0 1) 0) then
      gd [GK h u0 1, GK h (m_rd h u0 1) 4, GI h (m_rd h (m_rd h u0 1) 1) 1 v4] (
       (if (m_rd h (m_rd h (m_rd h u0 1) 1) v4) = u3 then
        gd [GK h u0 1] (bv (FX1_lay u0 v4 h) (fun h1 =>
         FX1_draw_L59 u0 u3 K0 f (m_w32 (v4 + 1)) h1))
       else
        FX1_draw_L59 u0 u3 K0 f (m_w32 (v4 + 1)) h))
     else
      K0 h))
theorem CX1_draw_L59 {d : Nat} {u0 : Int} {u3 : Int} {K0 : MH → Option (MH)} {r : MH} (hK0 : ∀ (h : MH), K0 h = some r → RN xs L iX1_draw (d + 2) 97 [(0, .inr (.inr u0)), (3, .inl u3)] [] h (RVo r)) : ∀ (f : Nat) (v4 : Int) (h : MH), FX1_draw_L59 u0 u3 K0 f v4 h = some r → RN xs L iX1_draw (d + 2) 59 [(0, .inr (.inr u0)), (3, .inl u3), (4, .inl v4)] [] h (RVo r) := by
  intro f
  induction f with
  | zero =>
    intro v4 h hF
    cases hF
  | succ f ih =>
    intro v4 h hF
    unfold FX1_draw_L59 at hF
    obtain ⟨hc, hF⟩ := gd_of hF
    refine RN.blk (ops := [(59, .iload 4), (61, .aload_n 0), (62, .getfield 21), (65, .getfield 45)]) (pc' := 68) (lv' := [(0, .inr (.inr u0)), (3, .inl u3), (4, .inl v4)]) (st' := [.inl (m_rd h (m_rd h u0 1) 0), .inl v4]) (h' := h) (cs := [GK h u0 1, GK h (m_rd h u0 1) 4]) (by decide +kernel) rfl hc ?_
    rcases it_of hF with ⟨hb, hF⟩ | ⟨hb, hF⟩
    · refine RN.icf (cd := .ge) (off := 29) (tgt := 97) (by decide +kernel) (mif_gen hb) ?_
      obtain ⟨hc, hF⟩ := gd_of hF
      refine RN.blk (ops := [(71, .aload_n 0), (72, .getfield 21), (75, .getfield 48), (78, .iload 4), (80, .iaload), (81, .iload_n 3)]) (pc' := 82) (lv' := [(0, .inr (.inr u0)), (3, .inl u3), (4, .inl v4)]) (st' := [.inl u3, .inl (m_rd h (m_rd h (m_rd h u0 1) 1) v4)]) (h' := h) (cs := [GK h u0 1, GK h (m_rd h u0 1) 4, GI h (m_rd h (m_rd h u0 1) 1) 1 v4]) (by decide +kernel) rfl hc ?_
      rcases it_of hF with ⟨hb, hF⟩ | ⟨hb, hF⟩
      · refine RN.icf (cd := .ne) (off := 9) (tgt := 91) (by decide +kernel) (mif_nen hb) ?_
        refine RN.blk (ops := [(85, .aload_n 0), (86, .iload 4)]) (pc' := 88) (lv' := [(0, .inr (.inr u0)), (3, .inl u3), (4, .inl v4)]) (st' := [.inl v4, .inr (.inr u0)]) (h' := h) (cs := []) (by decide +kernel) rfl trivial ?_
        obtain ⟨hc, hF⟩ := gd_of hF
        obtain ⟨h1, hG, hF⟩ := bv_of hF
        refine RN.cv (i := 50) (k := 13) (q2 := iX1_lay) (as := [.inr (.inr u0), .inl v4]) (r := []) (v := none) (h1 := h1) (by decide +kernel) rfl rfl rfl rfl rfl (rcv_ok hc.1) (CX1_lay (d := d) hG) ?_
        refine RN.blk (ops := [(91, .iinc 4 1)]) (pc' := 94) (lv' := [(4, .inl (m_w32 (v4 + 1))), (0, .inr (.inr u0)), (3, .inl u3)]) (st' := []) (h' := h1) (cs := []) (by decide +kernel) rfl trivial ?_
        refine RN.goto (off := -35) (tgt := 59) (by decide +kernel) ?_
        exact RN.sub (ih _ _ hF) (sub_cons rfl (sub_cons rfl (sub_cons rfl sub_nil)))
      · refine RN.ict (cd := .ne) (off := 9) (tgt := 91) (by decide +kernel) (mif_ne hb) ?_
        refine RN.blk (ops := [(91, .iinc 4 1)]) (pc' := 94) (lv' := [(4, .inl (m_w32 (v4 + 1))), (0, .inr (.inr u0)), (3, .inl u3)]) (st' := []) (h' := h) (cs := []) (by decide +kernel) rfl trivial ?_
        refine RN.goto (off := -35) (tgt := 59) (by decide +kernel) ?_
        exact RN.sub (ih _ _ hF) (sub_cons rfl (sub_cons rfl (sub_cons rfl sub_nil)))
    · refine RN.ict (cd := .ge) (off := 29) (tgt := 97) (by decide +kernel) (mif_ge hb) ?_
      exact RN.sub (hK0 _ hF) (sub_cons rfl (sub_cons rfl sub_nil))
noncomputable def FX1_draw_L45 (u0 : Int) (K0 : MH → Option (MH)) : Nat → Int → MH → Option (MH)
  | 0, _, _ => none
  | f + 1, v3, h =>
    gd [GK h u0 1, GK h (m_rd h u0 0) 8] (
     (if (m_rd h (m_rd h u0 0) 1) < v3 then
      K0 h
     else
      FX1_draw_L59 u0 v3 (fun h1 =>
       FX1_draw_L45 u0 K0 f (m_w32 (v3 + 1)) h1) FU 0 h))
theorem CX1_draw_L45 {d : Nat} {u0 : Int} {K0 : MH → Option (MH)} {r : MH} (hK0 : ∀ (h : MH), K0 h = some r → RN xs L iX1_draw (d + 2) 103 [] [] h (RVo r)) : ∀ (f : Nat) (v3 : Int) (h : MH), FX1_draw_L45 u0 K0 f v3 h = some r → RN xs L iX1_draw (d + 2) 45 [(0, .inr (.inr u0)), (3, .inl v3)] [] h (RVo r) := by
  intro f
  induction f with
  | zero =>
    intro v3 h hF
    cases hF
  | succ f ih =>
    intro v3 h hF
    unfold FX1_draw_L45 at hF
    obtain ⟨hc, hF⟩ := gd_of hF
    refine RN.blk (ops := [(45, .iload_n 3), (46, .aload_n 0), (47, .getfield 12), (50, .getfield 42)]) (pc' := 53) (lv' := [(0, .inr (.inr u0)), (3, .inl v3)]) (st' := [.inl (m_rd h (m_rd h u0 0) 1), .inl v3]) (h' := h) (cs := [GK h u0 1, GK h (m_rd h u0 0) 8]) (by decide +kernel) rfl hc ?_
    rcases it_of hF with ⟨hb, hF⟩ | ⟨hb, hF⟩
    · refine RN.ict (cd := .gt) (off := 50) (tgt := 103) (by decide +kernel) (mif_gt hb) ?_
      exact RN.sub (hK0 _ hF) sub_nil
    · refine RN.icf (cd := .gt) (off := 50) (tgt := 103) (by decide +kernel) (mif_gtn hb) ?_
      refine RN.blk (ops := [(56, .iconst 0), (57, .istore 4)]) (pc' := 59) (lv' := [(4, .inl 0), (0, .inr (.inr u0)), (3, .inl v3)]) (st' := []) (h' := h) (cs := []) (by decide +kernel) rfl trivial ?_
      refine RN.sub (CX1_draw_L59 ?_ _ _ _ hF) (sub_cons rfl (sub_cons rfl (sub_cons rfl sub_nil)))
      · intro h1 hF
        refine RN.blk (ops := [(97, .iinc 3 1)]) (pc' := 100) (lv' := [(3, .inl (m_w32 (v3 + 1))), (0, .inr (.inr u0))]) (st' := []) (h' := h1) (cs := []) (by decide +kernel) rfl trivial ?_
        refine RN.goto (off := -55) (tgt := 45) (by decide +kernel) ?_
        exact RN.sub (ih _ _ hF) (sub_cons rfl (sub_cons rfl sub_nil))
noncomputable def FX1_draw (t : Int) (a1 : Int) (a2 : Int) (h : MH) : Option (MH) :=
  gd [GK h t 1, GK h t 1] (
   FX1_draw_L12 t (fun h1 =>
    FX1_draw_L45 t (fun h2 =>
     some h2) FU 0 h1) FU 0 (m_wr (m_wr h t 0 a1) t 1 a2))
theorem CX1_draw {d : Nat} {t : Int} {a1 : Int} {a2 : Int} {h : MH} {r : MH} (hF : FX1_draw t a1 a2 h = some r) : RN xs L iX1_draw (d + 2) 0 (lvE 0 [.inr (.inr t), .inr (.inr a1), .inr (.inr a2)]) [] h (RVo r) := by
  unfold FX1_draw at hF
  obtain ⟨hc, hF⟩ := gd_of hF
  refine RN.blk (ops := [(0, .aload_n 0), (1, .aload_n 1), (2, .putfield 12), (5, .aload_n 0), (6, .aload_n 2), (7, .putfield 21), (10, .iconst 0), (11, .istore_n 3)]) (pc' := 12) (lv' := [(3, .inl 0), (0, .inr (.inr t)), (1, .inr (.inr a1)), (2, .inr (.inr a2))]) (st' := []) (h' := (m_wr (m_wr h t 0 a1) t 1 a2)) (cs := [GK h t 1, GK h t 1]) (by decide +kernel) rfl hc ?_
  refine RN.sub (CX1_draw_L12 ?_ _ _ _ hF) (sub_cons rfl (sub_cons rfl sub_nil))
  · intro h1 hF
    refine RN.blk (ops := [(43, .iconst 0), (44, .istore_n 3)]) (pc' := 45) (lv' := [(3, .inl 0), (0, .inr (.inr t))]) (st' := []) (h' := h1) (cs := []) (by decide +kernel) rfl trivial ?_
    refine RN.sub (CX1_draw_L45 ?_ _ _ _ hF) (sub_cons rfl (sub_cons rfl sub_nil))
    · intro h2 hF
      exact RN.vR (by decide +kernel) rfl hF
noncomputable def FX1_howManyTo_L4 (u0 : Int) (u1 : Int) (K0 : Int → MH → Option (Int × MH)) : Nat → Int → Int → MH → Option (Int × MH)
  | 0, _, _, _ => none
  | f + 1, v2, v3, h =>
    gd [GK h u0 1, GK h (m_rd h u0 0) 8] (
     (if v3 < (m_rd h (m_rd h u0 0) 3) then
      gd [GK h u0 1] (bd (FX1_holeFor u0 v3 h) (fun x2 h1 =>
       (if x2 = u1 then
        FX1_howManyTo_L4 u0 u1 K0 f (m_w32 (v2 + 1)) (m_w32 (v3 + 1)) h1
       else
        FX1_howManyTo_L4 u0 u1 K0 f v2 (m_w32 (v3 + 1)) h1)))
     else
      K0 v2 h))
theorem CX1_howManyTo_L4 {d : Nat} {u0 : Int} {u1 : Int} {K0 : Int → MH → Option (Int × MH)} {r : Int × MH} (hK0 : ∀ (w2 : Int) (h : MH), K0 w2 h = some r → RN xs L iX1_howManyTo (d + 3) 33 [(2, .inl w2)] [] h (RIo r)) : ∀ (f : Nat) (v2 : Int) (v3 : Int) (h : MH), FX1_howManyTo_L4 u0 u1 K0 f v2 v3 h = some r → RN xs L iX1_howManyTo (d + 3) 4 [(0, .inr (.inr u0)), (1, .inl u1), (2, .inl v2), (3, .inl v3)] [] h (RIo r) := by
  intro f
  induction f with
  | zero =>
    intro v2 v3 h hF
    cases hF
  | succ f ih =>
    intro v2 v3 h hF
    unfold FX1_howManyTo_L4 at hF
    obtain ⟨hc, hF⟩ := gd_of hF
    refine RN.blk (ops := [(4, .iload_n 3), (5, .aload_n 0), (6, .getfield 12), (9, .getfield 38)]) (pc' := 12) (lv' := [(0, .inr (.inr u0)), (1, .inl u1), (2, .inl v2), (3, .inl v3)]) (st' := [.inl (m_rd h (m_rd h u0 0) 3), .inl v3]) (h' := h) (cs := [GK h u0 1, GK h (m_rd h u0 0) 8]) (by decide +kernel) rfl hc ?_
    rcases it_of hF with ⟨hb, hF⟩ | ⟨hb, hF⟩
    · refine RN.icf (cd := .ge) (off := 21) (tgt := 33) (by decide +kernel) (mif_gen hb) ?_
      refine RN.blk (ops := [(15, .aload_n 0), (16, .iload_n 3)]) (pc' := 17) (lv' := [(0, .inr (.inr u0)), (1, .inl u1), (2, .inl v2), (3, .inl v3)]) (st' := [.inl v3, .inr (.inr u0)]) (h' := h) (cs := []) (by decide +kernel) rfl trivial ?_
      obtain ⟨hc, hF⟩ := gd_of hF
      obtain ⟨x2, h1, hG, hF⟩ := bd_of hF
      refine RN.cv (i := 74) (k := 15) (q2 := iX1_holeFor) (as := [.inr (.inr u0), .inl v3]) (r := []) (v := some (.inl x2)) (h1 := h1) (by decide +kernel) rfl rfl rfl rfl rfl (rcv_ok hc.1) (CX1_holeFor (d := d) hG) ?_
      refine RN.blk (ops := [(20, .iload_n 1)]) (pc' := 21) (lv' := [(0, .inr (.inr u0)), (1, .inl u1), (2, .inl v2), (3, .inl v3)]) (st' := [.inl u1, .inl x2]) (h' := h1) (cs := []) (by decide +kernel) rfl trivial ?_
      rcases it_of hF with ⟨hb, hF⟩ | ⟨hb, hF⟩
      · refine RN.icf (cd := .ne) (off := 6) (tgt := 27) (by decide +kernel) (mif_nen hb) ?_
        refine RN.blk (ops := [(24, .iinc 2 1)]) (pc' := 27) (lv' := [(2, .inl (m_w32 (v2 + 1))), (0, .inr (.inr u0)), (1, .inl u1), (3, .inl v3)]) (st' := []) (h' := h1) (cs := []) (by decide +kernel) rfl trivial ?_
        refine RN.blk (ops := [(27, .iinc 3 1)]) (pc' := 30) (lv' := [(3, .inl (m_w32 (v3 + 1))), (2, .inl (m_w32 (v2 + 1))), (0, .inr (.inr u0)), (1, .inl u1)]) (st' := []) (h' := h1) (cs := []) (by decide +kernel) rfl trivial ?_
        refine RN.goto (off := -26) (tgt := 4) (by decide +kernel) ?_
        exact RN.sub (ih _ _ _ hF) (sub_cons rfl (sub_cons rfl (sub_cons rfl (sub_cons rfl sub_nil))))
      · refine RN.ict (cd := .ne) (off := 6) (tgt := 27) (by decide +kernel) (mif_ne hb) ?_
        refine RN.blk (ops := [(27, .iinc 3 1)]) (pc' := 30) (lv' := [(3, .inl (m_w32 (v3 + 1))), (0, .inr (.inr u0)), (1, .inl u1), (2, .inl v2)]) (st' := []) (h' := h1) (cs := []) (by decide +kernel) rfl trivial ?_
        refine RN.goto (off := -26) (tgt := 4) (by decide +kernel) ?_
        exact RN.sub (ih _ _ _ hF) (sub_cons rfl (sub_cons rfl (sub_cons rfl (sub_cons rfl sub_nil))))
    · refine RN.ict (cd := .ge) (off := 21) (tgt := 33) (by decide +kernel) (mif_ge hb) ?_
      exact RN.sub (hK0 _ _ hF) (sub_cons rfl sub_nil)
noncomputable def FX1_howManyTo (t : Int) (a1 : Int) (h : MH) : Option (Int × MH) :=
  FX1_howManyTo_L4 t a1 (fun w1 h2 =>
   some (w1, h2)) FU 0 0 h
theorem CX1_howManyTo {d : Nat} {t : Int} {a1 : Int} {h : MH} {r : Int × MH} (hF : FX1_howManyTo t a1 h = some r) : RN xs L iX1_howManyTo (d + 3) 0 (lvE 0 [.inr (.inr t), .inl a1]) [] h (RIo r) := by
  unfold FX1_howManyTo at hF
  refine RN.blk (ops := [(0, .iconst 0), (1, .istore_n 2), (2, .iconst 0), (3, .istore_n 3)]) (pc' := 4) (lv' := [(3, .inl 0), (2, .inl 0), (0, .inr (.inr t)), (1, .inl a1)]) (st' := []) (h' := h) (cs := []) (by decide +kernel) rfl trivial ?_
  refine RN.sub (CX1_howManyTo_L4 ?_ _ _ _ _ hF) (sub_cons rfl (sub_cons rfl (sub_cons rfl (sub_cons rfl sub_nil))))
  · intro w1 h2 hF
    refine RN.blk (ops := [(33, .iload_n 2)]) (pc' := 34) (lv' := [(2, .inl w1)]) (st' := [.inl w1]) (h' := h2) (cs := []) (by decide +kernel) rfl trivial ?_
    exact RN.iR (by decide +kernel) rfl hF
noncomputable def FX1_leastTo_L2 (u0 : Int) (u1 : Int) (K0 : Int → MH → Option (Int × MH)) (K1 : MH → Option (Int × MH)) : Nat → Int → MH → Option (Int × MH)
  | 0, _, _ => none
  | f + 1, v2, h =>
    gd [GK h u0 1, GK h (m_rd h u0 0) 8] (
     (if v2 < (m_rd h (m_rd h u0 0) 3) then
      gd [GK h u0 1] (bd (FX1_holeFor u0 v2 h) (fun x2 h1 =>
       (if x2 = u1 then
        K0 v2 h1
       else
        FX1_leastTo_L2 u0 u1 K0 K1 f (m_w32 (v2 + 1)) h1)))
     else
      K1 h))
theorem CX1_leastTo_L2 {d : Nat} {u0 : Int} {u1 : Int} {K0 : Int → MH → Option (Int × MH)} {K1 : MH → Option (Int × MH)} {r : Int × MH} (hK0 : ∀ (w2 : Int) (h : MH), K0 w2 h = some r → RN xs L iX1_leastTo (d + 3) 22 [(2, .inl w2)] [] h (RIo r)) (hK1 : ∀ (h : MH), K1 h = some r → RN xs L iX1_leastTo (d + 3) 30 [] [] h (RIo r)) : ∀ (f : Nat) (v2 : Int) (h : MH), FX1_leastTo_L2 u0 u1 K0 K1 f v2 h = some r → RN xs L iX1_leastTo (d + 3) 2 [(0, .inr (.inr u0)), (1, .inl u1), (2, .inl v2)] [] h (RIo r) := by
  intro f
  induction f with
  | zero =>
    intro v2 h hF
    cases hF
  | succ f ih =>
    intro v2 h hF
    unfold FX1_leastTo_L2 at hF
    obtain ⟨hc, hF⟩ := gd_of hF
    refine RN.blk (ops := [(2, .iload_n 2), (3, .aload_n 0), (4, .getfield 12), (7, .getfield 38)]) (pc' := 10) (lv' := [(0, .inr (.inr u0)), (1, .inl u1), (2, .inl v2)]) (st' := [.inl (m_rd h (m_rd h u0 0) 3), .inl v2]) (h' := h) (cs := [GK h u0 1, GK h (m_rd h u0 0) 8]) (by decide +kernel) rfl hc ?_
    rcases it_of hF with ⟨hb, hF⟩ | ⟨hb, hF⟩
    · refine RN.icf (cd := .ge) (off := 20) (tgt := 30) (by decide +kernel) (mif_gen hb) ?_
      refine RN.blk (ops := [(13, .aload_n 0), (14, .iload_n 2)]) (pc' := 15) (lv' := [(0, .inr (.inr u0)), (1, .inl u1), (2, .inl v2)]) (st' := [.inl v2, .inr (.inr u0)]) (h' := h) (cs := []) (by decide +kernel) rfl trivial ?_
      obtain ⟨hc, hF⟩ := gd_of hF
      obtain ⟨x2, h1, hG, hF⟩ := bd_of hF
      refine RN.cv (i := 74) (k := 15) (q2 := iX1_holeFor) (as := [.inr (.inr u0), .inl v2]) (r := []) (v := some (.inl x2)) (h1 := h1) (by decide +kernel) rfl rfl rfl rfl rfl (rcv_ok hc.1) (CX1_holeFor (d := d) hG) ?_
      refine RN.blk (ops := [(18, .iload_n 1)]) (pc' := 19) (lv' := [(0, .inr (.inr u0)), (1, .inl u1), (2, .inl v2)]) (st' := [.inl u1, .inl x2]) (h' := h1) (cs := []) (by decide +kernel) rfl trivial ?_
      rcases it_of hF with ⟨hb, hF⟩ | ⟨hb, hF⟩
      · refine RN.icf (cd := .ne) (off := 5) (tgt := 24) (by decide +kernel) (mif_nen hb) ?_
        exact RN.sub (hK0 _ _ hF) (sub_cons rfl sub_nil)
      · refine RN.ict (cd := .ne) (off := 5) (tgt := 24) (by decide +kernel) (mif_ne hb) ?_
        refine RN.blk (ops := [(24, .iinc 2 1)]) (pc' := 27) (lv' := [(2, .inl (m_w32 (v2 + 1))), (0, .inr (.inr u0)), (1, .inl u1)]) (st' := []) (h' := h1) (cs := []) (by decide +kernel) rfl trivial ?_
        refine RN.goto (off := -25) (tgt := 2) (by decide +kernel) ?_
        exact RN.sub (ih _ _ hF) (sub_cons rfl (sub_cons rfl (sub_cons rfl sub_nil)))
    · refine RN.ict (cd := .ge) (off := 20) (tgt := 30) (by decide +kernel) (mif_ge hb) ?_
      exact RN.sub (hK1 _ hF) sub_nil
noncomputable def FX1_leastTo (t : Int) (a1 : Int) (h : MH) : Option (Int × MH) :=
  FX1_leastTo_L2 t a1 (fun w1 h2 =>
   some (w1, h2)) (fun h3 =>
   some ((-2), h3)) FU 0 h
theorem CX1_leastTo {d : Nat} {t : Int} {a1 : Int} {h : MH} {r : Int × MH} (hF : FX1_leastTo t a1 h = some r) : RN xs L iX1_leastTo (d + 3) 0 (lvE 0 [.inr (.inr t), .inl a1]) [] h (RIo r) := by
  unfold FX1_leastTo at hF
  refine RN.blk (ops := [(0, .iconst 0), (1, .istore_n 2)]) (pc' := 2) (lv' := [(2, .inl 0), (0, .inr (.inr t)), (1, .inl a1)]) (st' := []) (h' := h) (cs := []) (by decide +kernel) rfl trivial ?_
  refine RN.sub (CX1_leastTo_L2 ?_ ?_ _ _ _ hF) (sub_cons rfl (sub_cons rfl (sub_cons rfl sub_nil)))
  · intro w1 h2 hF
    refine RN.blk (ops := [(22, .iload_n 2)]) (pc' := 23) (lv' := [(2, .inl w1)]) (st' := [.inl w1]) (h' := h2) (cs := []) (by decide +kernel) rfl trivial ?_
    exact RN.iR (by decide +kernel) rfl hF
  · intro h3 hF
    refine RN.blk (ops := [(30, .bipush (-2))]) (pc' := 32) (lv' := []) (st' := [.inl (-2)]) (h' := h3) (cs := []) (by decide +kernel) rfl trivial ?_
    exact RN.iR (by decide +kernel) rfl hF
noncomputable def FX1_takeReading_L28 (u0 : Int) (K0 : MH → Option (Int × MH)) (K1 : Int → MH → Option (Int × MH)) : Nat → Int → Int → MH → Option (Int × MH)
  | 0, _, _, _ => none
  | f + 1, v2, v3, h =>
    (if v3 < 0 then
     K1 v2 h
    else
     gd [GK h u0 1, (10 : Int) ≠ 0, GI h (m_rd h u0 3) 1 v3, (10 : Int) ≠ 0, GK h u0 1, GI h (m_rd (m_wr h (m_rd h u0 3) v3 (Int.tmod v2 10)) u0 3) 1 v3] (
      (if (m_rd (m_wr h (m_rd h u0 3) v3 (Int.tmod v2 10)) (m_rd (m_wr h (m_rd h u0 3) v3 (Int.tmod v2 10)) u0 3) v3) = 9 then
       FX1_takeReading_L28 u0 K0 K1 f (m_w32 (Int.tdiv v2 10)) (m_w32 (v3 + (-1))) (m_wr h (m_rd h u0 3) v3 (Int.tmod v2 10))
      else
       gd [GK h u0 1, GI h (m_rd (m_wr h (m_rd h u0 3) v3 (Int.tmod v2 10)) u0 3) 1 v3, GK h u0 1, GK h (m_rd (m_wr h (m_rd h u0 3) v3 (Int.tmod v2 10)) u0 0) 8] (
        (if (m_rd (m_wr h (m_rd h u0 3) v3 (Int.tmod v2 10)) (m_rd (m_wr h (m_rd h u0 3) v3 (Int.tmod v2 10)) u0 3) v3) < (m_rd (m_wr h (m_rd h u0 3) v3 (Int.tmod v2 10)) (m_rd (m_wr h (m_rd h u0 3) v3 (Int.tmod v2 10)) u0 0) 0) then
         FX1_takeReading_L28 u0 K0 K1 f (m_w32 (Int.tdiv v2 10)) (m_w32 (v3 + (-1))) (m_wr h (m_rd h u0 3) v3 (Int.tmod v2 10))
        else
         K0 (m_wr h (m_rd h u0 3) v3 (Int.tmod v2 10)))))))
theorem CX1_takeReading_L28 {d : Nat} {u0 : Int} {K0 : MH → Option (Int × MH)} {K1 : Int → MH → Option (Int × MH)} {r : Int × MH} (hK0 : ∀ (h : MH), K0 h = some r → RN xs L iX1_takeReading (d) 74 [] [] h (RIo r)) (hK1 : ∀ (w2 : Int) (h : MH), K1 w2 h = some r → RN xs L iX1_takeReading (d) 82 [(2, .inl w2)] [] h (RIo r)) : ∀ (f : Nat) (v2 : Int) (v3 : Int) (h : MH), FX1_takeReading_L28 u0 K0 K1 f v2 v3 h = some r → RN xs L iX1_takeReading (d) 28 [(0, .inr (.inr u0)), (2, .inl v2), (3, .inl v3)] [] h (RIo r) := by
  intro f
  induction f with
  | zero =>
    intro v2 v3 h hF
    cases hF
  | succ f ih =>
    intro v2 v3 h hF
    unfold FX1_takeReading_L28 at hF
    refine RN.blk (ops := [(28, .iload_n 3)]) (pc' := 29) (lv' := [(0, .inr (.inr u0)), (2, .inl v2), (3, .inl v3)]) (st' := [.inl v3]) (h' := h) (cs := []) (by decide +kernel) rfl trivial ?_
    rcases it_of hF with ⟨hb, hF⟩ | ⟨hb, hF⟩
    · refine RN.ift (cd := .lt) (off := 53) (tgt := 82) (by decide +kernel) (mif_lt hb) ?_
      exact RN.sub (hK1 _ _ hF) (sub_cons rfl sub_nil)
    · refine RN.iff (cd := .lt) (off := 53) (tgt := 82) (by decide +kernel) (mif_ltn hb) ?_
      obtain ⟨hc, hF⟩ := gd_of hF
      refine RN.blk (ops := [(32, .aload_n 0), (33, .getfield 29), (36, .iload_n 3), (37, .iload_n 2), (38, .bipush 10), (40, .irem), (41, .iastore), (42, .iload_n 2), (43, .bipush 10), (45, .idiv), (46, .istore_n 2), (47, .aload_n 0), (48, .getfield 29), (51, .iload_n 3), (52, .iaload), (53, .bipush 9)]) (pc' := 55) (lv' := [(2, .inl (m_w32 (Int.tdiv v2 10))), (0, .inr (.inr u0)), (3, .inl v3)]) (st' := [.inl 9, .inl (m_rd (m_wr h (m_rd h u0 3) v3 (Int.tmod v2 10)) (m_rd (m_wr h (m_rd h u0 3) v3 (Int.tmod v2 10)) u0 3) v3)]) (h' := (m_wr h (m_rd h u0 3) v3 (Int.tmod v2 10))) (cs := [GK h u0 1, (10 : Int) ≠ 0, GI h (m_rd h u0 3) 1 v3, (10 : Int) ≠ 0, GK h u0 1, GI h (m_rd (m_wr h (m_rd h u0 3) v3 (Int.tmod v2 10)) u0 3) 1 v3]) (by decide +kernel) rfl hc ?_
      rcases it_of hF with ⟨hb, hF⟩ | ⟨hb, hF⟩
      · refine RN.ict (cd := .eq) (off := 21) (tgt := 76) (by decide +kernel) (mif_eq hb) ?_
        refine RN.blk (ops := [(76, .iinc 3 (-1))]) (pc' := 79) (lv' := [(3, .inl (m_w32 (v3 + (-1)))), (2, .inl (m_w32 (Int.tdiv v2 10))), (0, .inr (.inr u0))]) (st' := []) (h' := (m_wr h (m_rd h u0 3) v3 (Int.tmod v2 10))) (cs := []) (by decide +kernel) rfl trivial ?_
        refine RN.goto (off := -51) (tgt := 28) (by decide +kernel) ?_
        exact RN.sub (ih _ _ _ hF) (sub_cons rfl (sub_cons rfl (sub_cons rfl sub_nil)))
      · refine RN.icf (cd := .eq) (off := 21) (tgt := 76) (by decide +kernel) (mif_eqn hb) ?_
        obtain ⟨hc, hF⟩ := gd_of hF
        refine RN.blk (ops := [(58, .aload_n 0), (59, .getfield 29), (62, .iload_n 3), (63, .iaload), (64, .aload_n 0), (65, .getfield 12), (68, .getfield 77)]) (pc' := 71) (lv' := [(2, .inl (m_w32 (Int.tdiv v2 10))), (0, .inr (.inr u0)), (3, .inl v3)]) (st' := [.inl (m_rd (m_wr h (m_rd h u0 3) v3 (Int.tmod v2 10)) (m_rd (m_wr h (m_rd h u0 3) v3 (Int.tmod v2 10)) u0 0) 0), .inl (m_rd (m_wr h (m_rd h u0 3) v3 (Int.tmod v2 10)) (m_rd (m_wr h (m_rd h u0 3) v3 (Int.tmod v2 10)) u0 3) v3)]) (h' := (m_wr h (m_rd h u0 3) v3 (Int.tmod v2 10))) (cs := [GK h u0 1, GI h (m_rd (m_wr h (m_rd h u0 3) v3 (Int.tmod v2 10)) u0 3) 1 v3, GK h u0 1, GK h (m_rd (m_wr h (m_rd h u0 3) v3 (Int.tmod v2 10)) u0 0) 8]) (by decide +kernel) rfl hc ?_
        rcases it_of hF with ⟨hb, hF⟩ | ⟨hb, hF⟩
        · refine RN.ict (cd := .lt) (off := 5) (tgt := 76) (by decide +kernel) (mif_lt hb) ?_
          refine RN.blk (ops := [(76, .iinc 3 (-1))]) (pc' := 79) (lv' := [(3, .inl (m_w32 (v3 + (-1)))), (2, .inl (m_w32 (Int.tdiv v2 10))), (0, .inr (.inr u0))]) (st' := []) (h' := (m_wr h (m_rd h u0 3) v3 (Int.tmod v2 10))) (cs := []) (by decide +kernel) rfl trivial ?_
          refine RN.goto (off := -51) (tgt := 28) (by decide +kernel) ?_
          exact RN.sub (ih _ _ _ hF) (sub_cons rfl (sub_cons rfl (sub_cons rfl sub_nil)))
        · refine RN.icf (cd := .lt) (off := 5) (tgt := 76) (by decide +kernel) (mif_ltn hb) ?_
          exact RN.sub (hK0 _ hF) sub_nil
noncomputable def FX1_takeReading (t : Int) (a1 : Int) (h : MH) : Option (Int × MH) :=
  gd [GK h t 1, GK h (m_rd h t 0) 8] (
   (if (m_rd h (m_rd h t 0) 3) = 0 then
    some (0, h)
   else
    (if a1 < 0 then
     some (0, h)
    else
     gd [GK h t 1, GK h (m_rd h t 0) 8] (
      FX1_takeReading_L28 t (fun h1 =>
       some (0, h1)) (fun w2 h3 =>
       (if w2 = 0 then
        some (1, h3)
       else
        some (0, h3))) FU a1 (m_w32 ((m_rd h (m_rd h t 0) 1) - 1)) h))))
theorem CX1_takeReading {d : Nat} {t : Int} {a1 : Int} {h : MH} {r : Int × MH} (hF : FX1_takeReading t a1 h = some r) : RN xs L iX1_takeReading (d) 0 (lvE 0 [.inr (.inr t), .inl a1]) [] h (RIo r) := by
  unfold FX1_takeReading at hF
  obtain ⟨hc, hF⟩ := gd_of hF
  refine RN.blk (ops := [(0, .aload_n 0), (1, .getfield 12), (4, .getfield 38)]) (pc' := 7) (lv' := [(0, .inr (.inr t)), (1, .inl a1)]) (st' := [.inl (m_rd h (m_rd h t 0) 3)]) (h' := h) (cs := [GK h t 1, GK h (m_rd h t 0) 8]) (by decide +kernel) rfl hc ?_
  rcases it_of hF with ⟨hb, hF⟩ | ⟨hb, hF⟩
  · refine RN.ift (cd := .eq) (off := 7) (tgt := 14) (by decide +kernel) (mif_eq hb) ?_
    refine RN.blk (ops := [(14, .iconst 0)]) (pc' := 15) (lv' := [(0, .inr (.inr t)), (1, .inl a1)]) (st' := [.inl 0]) (h' := h) (cs := []) (by decide +kernel) rfl trivial ?_
    exact RN.zR (by decide +kernel) rfl (Or.inl rfl) hF
  · refine RN.iff (cd := .eq) (off := 7) (tgt := 14) (by decide +kernel) (mif_eqn hb) ?_
    refine RN.blk (ops := [(10, .iload_n 1)]) (pc' := 11) (lv' := [(0, .inr (.inr t)), (1, .inl a1)]) (st' := [.inl a1]) (h' := h) (cs := []) (by decide +kernel) rfl trivial ?_
    rcases it_of hF with ⟨hb, hF⟩ | ⟨hb, hF⟩
    · refine RN.iff (cd := .ge) (off := 5) (tgt := 16) (by decide +kernel) (mif_gen hb) ?_
      refine RN.blk (ops := [(14, .iconst 0)]) (pc' := 15) (lv' := [(0, .inr (.inr t)), (1, .inl a1)]) (st' := [.inl 0]) (h' := h) (cs := []) (by decide +kernel) rfl trivial ?_
      exact RN.zR (by decide +kernel) rfl (Or.inl rfl) hF
    · refine RN.ift (cd := .ge) (off := 5) (tgt := 16) (by decide +kernel) (mif_ge hb) ?_
      obtain ⟨hc, hF⟩ := gd_of hF
      refine RN.blk (ops := [(16, .iload_n 1), (17, .istore_n 2), (18, .aload_n 0), (19, .getfield 12), (22, .getfield 42), (25, .iconst 1), (26, .isub), (27, .istore_n 3)]) (pc' := 28) (lv' := [(3, .inl (m_w32 ((m_rd h (m_rd h t 0) 1) - 1))), (2, .inl a1), (0, .inr (.inr t)), (1, .inl a1)]) (st' := []) (h' := h) (cs := [GK h t 1, GK h (m_rd h t 0) 8]) (by decide +kernel) rfl hc ?_
      refine RN.sub (CX1_takeReading_L28 ?_ ?_ _ _ _ _ hF) (sub_cons rfl (sub_cons rfl (sub_cons rfl sub_nil)))
      · intro h1 hF
        refine RN.blk (ops := [(74, .iconst 0)]) (pc' := 75) (lv' := []) (st' := [.inl 0]) (h' := h1) (cs := []) (by decide +kernel) rfl trivial ?_
        exact RN.zR (by decide +kernel) rfl (Or.inl rfl) hF
      · intro w2 h3 hF
        refine RN.blk (ops := [(82, .iload_n 2)]) (pc' := 83) (lv' := [(2, .inl w2)]) (st' := [.inl w2]) (h' := h3) (cs := []) (by decide +kernel) rfl trivial ?_
        rcases it_of hF with ⟨hb, hF⟩ | ⟨hb, hF⟩
        · refine RN.iff (cd := .ne) (off := 7) (tgt := 90) (by decide +kernel) (mif_nen hb) ?_
          refine RN.blk (ops := [(86, .iconst 1)]) (pc' := 87) (lv' := [(2, .inl w2)]) (st' := [.inl 1]) (h' := h3) (cs := []) (by decide +kernel) rfl trivial ?_
          refine RN.goto (off := 4) (tgt := 91) (by decide +kernel) ?_
          exact RN.zR (by decide +kernel) rfl (Or.inr rfl) hF
        · refine RN.ift (cd := .ne) (off := 7) (tgt := 90) (by decide +kernel) (mif_ne hb) ?_
          refine RN.blk (ops := [(90, .iconst 0)]) (pc' := 91) (lv' := [(2, .inl w2)]) (st' := [.inl 0]) (h' := h3) (cs := []) (by decide +kernel) rfl trivial ?_
          exact RN.zR (by decide +kernel) rfl (Or.inl rfl) hF
noncomputable def FX8_digitOf (t : Int) (a1 : Int) (a2 : Int) (h : MH) : Option (Int × MH) :=
  gd [GK h t 8] (bd (FX8_spanOf t (m_w32 (a2 + 1)) h) (fun x2 h1 =>
   (if x2 = 0 then
    some (0, h1)
   else
    gd [GK h1 t 8] (
     (if (m_rd h1 t 0) = 0 then
      some (0, h1)
     else
      gd [(x2 : Int) ≠ 0, GK h1 t 8, ((m_rd h1 t 0) : Int) ≠ 0] (
       some ((Int.tmod (m_w32 (Int.tdiv a1 x2)) (m_rd h1 t 0)), h1)))))))
theorem CX8_digitOf {d : Nat} {t : Int} {a1 : Int} {a2 : Int} {h : MH} {r : Int × MH} (hF : FX8_digitOf t a1 a2 h = some r) : RN xs L iX8_digitOf (d + 1) 0 (lvE 0 [.inr (.inr t), .inl a1, .inl a2]) [] h (RIo r) := by
  unfold FX8_digitOf at hF
  refine RN.blk (ops := [(0, .aload_n 0), (1, .iload_n 2), (2, .iconst 1), (3, .iadd)]) (pc' := 4) (lv' := [(0, .inr (.inr t)), (1, .inl a1), (2, .inl a2)]) (st' := [.inl (m_w32 (a2 + 1)), .inr (.inr t)]) (h' := h) (cs := []) (by decide +kernel) rfl trivial ?_
  obtain ⟨hc, hF⟩ := gd_of hF
  obtain ⟨x2, h1, hG, hF⟩ := bd_of hF
  refine RN.cv (i := 41) (k := 85) (q2 := iX8_spanOf) (as := [.inr (.inr t), .inl (m_w32 (a2 + 1))]) (r := []) (v := some (.inl x2)) (h1 := h1) (by decide +kernel) rfl rfl rfl rfl rfl (rcv_ok hc.1) (CX8_spanOf (d := d) hG) ?_
  refine RN.blk (ops := [(7, .istore_n 3), (8, .iload_n 3)]) (pc' := 9) (lv' := [(3, .inl x2), (0, .inr (.inr t)), (1, .inl a1), (2, .inl a2)]) (st' := [.inl x2]) (h' := h1) (cs := []) (by decide +kernel) rfl trivial ?_
  rcases it_of hF with ⟨hb, hF⟩ | ⟨hb, hF⟩
  · refine RN.ift (cd := .eq) (off := 10) (tgt := 19) (by decide +kernel) (mif_eq hb) ?_
    refine RN.blk (ops := [(19, .iconst 0)]) (pc' := 20) (lv' := [(3, .inl x2), (0, .inr (.inr t)), (1, .inl a1), (2, .inl a2)]) (st' := [.inl 0]) (h' := h1) (cs := []) (by decide +kernel) rfl trivial ?_
    refine RN.goto (off := 11) (tgt := 31) (by decide +kernel) ?_
    exact RN.iR (by decide +kernel) rfl hF
  · refine RN.iff (cd := .eq) (off := 10) (tgt := 19) (by decide +kernel) (mif_eqn hb) ?_
    obtain ⟨hc, hF⟩ := gd_of hF
    refine RN.blk (ops := [(12, .aload_n 0), (13, .getfield 18)]) (pc' := 16) (lv' := [(3, .inl x2), (0, .inr (.inr t)), (1, .inl a1), (2, .inl a2)]) (st' := [.inl (m_rd h1 t 0)]) (h' := h1) (cs := [GK h1 t 8]) (by decide +kernel) rfl hc ?_
    rcases it_of hF with ⟨hb, hF⟩ | ⟨hb, hF⟩
    · refine RN.iff (cd := .ne) (off := 7) (tgt := 23) (by decide +kernel) (mif_nen hb) ?_
      refine RN.blk (ops := [(19, .iconst 0)]) (pc' := 20) (lv' := [(3, .inl x2), (0, .inr (.inr t)), (1, .inl a1), (2, .inl a2)]) (st' := [.inl 0]) (h' := h1) (cs := []) (by decide +kernel) rfl trivial ?_
      refine RN.goto (off := 11) (tgt := 31) (by decide +kernel) ?_
      exact RN.iR (by decide +kernel) rfl hF
    · refine RN.ift (cd := .ne) (off := 7) (tgt := 23) (by decide +kernel) (mif_ne hb) ?_
      obtain ⟨hc, hF⟩ := gd_of hF
      refine RN.blk (ops := [(23, .iload_n 1), (24, .iload_n 3), (25, .idiv), (26, .aload_n 0), (27, .getfield 18), (30, .irem)]) (pc' := 31) (lv' := [(3, .inl x2), (0, .inr (.inr t)), (1, .inl a1), (2, .inl a2)]) (st' := [.inl (Int.tmod (m_w32 (Int.tdiv a1 x2)) (m_rd h1 t 0))]) (h' := h1) (cs := [(x2 : Int) ≠ 0, GK h1 t 8, ((m_rd h1 t 0) : Int) ≠ 0]) (by decide +kernel) rfl hc ?_
      exact RN.iR (by decide +kernel) rfl hF
noncomputable def FX1_isMeant_L2 (u0 : Int) (u1 : Int) (K0 : MH → Option (Int × MH)) (K1 : MH → Option (Int × MH)) : Nat → Int → MH → Option (Int × MH)
  | 0, _, _ => none
  | f + 1, v2, h =>
    gd [GK h u0 1, GK h (m_rd h u0 0) 8] (
     (if v2 < (m_rd h (m_rd h u0 0) 1) then
      gd [GK h u0 1, GI h (m_rd h u0 3) 1 v2] (
       (if (m_rd h (m_rd h u0 3) v2) = 9 then
        FX1_isMeant_L2 u0 u1 K0 K1 f (m_w32 (v2 + 1)) h
       else
        gd [GK h u0 1, GI h (m_rd h u0 3) 1 v2, GK h u0 1] (
         gd [GK h (m_rd h u0 0) 8] (bd (FX8_digitOf (m_rd h u0 0) u1 v2 h) (fun x2 h1 =>
          (if (m_rd h (m_rd h u0 3) v2) = x2 then
           FX1_isMeant_L2 u0 u1 K0 K1 f (m_w32 (v2 + 1)) h1
          else
           K0 h1))))))
     else
      K1 h))
theorem CX1_isMeant_L2 {d : Nat} {u0 : Int} {u1 : Int} {K0 : MH → Option (Int × MH)} {K1 : MH → Option (Int × MH)} {r : Int × MH} (hK0 : ∀ (h : MH), K0 h = some r → RN xs L iX1_isMeant (d + 2) 42 [] [] h (RIo r)) (hK1 : ∀ (h : MH), K1 h = some r → RN xs L iX1_isMeant (d + 2) 50 [] [] h (RIo r)) : ∀ (f : Nat) (v2 : Int) (h : MH), FX1_isMeant_L2 u0 u1 K0 K1 f v2 h = some r → RN xs L iX1_isMeant (d + 2) 2 [(0, .inr (.inr u0)), (1, .inl u1), (2, .inl v2)] [] h (RIo r) := by
  intro f
  induction f with
  | zero =>
    intro v2 h hF
    cases hF
  | succ f ih =>
    intro v2 h hF
    unfold FX1_isMeant_L2 at hF
    obtain ⟨hc, hF⟩ := gd_of hF
    refine RN.blk (ops := [(2, .iload_n 2), (3, .aload_n 0), (4, .getfield 12), (7, .getfield 42)]) (pc' := 10) (lv' := [(0, .inr (.inr u0)), (1, .inl u1), (2, .inl v2)]) (st' := [.inl (m_rd h (m_rd h u0 0) 1), .inl v2]) (h' := h) (cs := [GK h u0 1, GK h (m_rd h u0 0) 8]) (by decide +kernel) rfl hc ?_
    rcases it_of hF with ⟨hb, hF⟩ | ⟨hb, hF⟩
    · refine RN.icf (cd := .ge) (off := 40) (tgt := 50) (by decide +kernel) (mif_gen hb) ?_
      obtain ⟨hc, hF⟩ := gd_of hF
      refine RN.blk (ops := [(13, .aload_n 0), (14, .getfield 29), (17, .iload_n 2), (18, .iaload), (19, .bipush 9)]) (pc' := 21) (lv' := [(0, .inr (.inr u0)), (1, .inl u1), (2, .inl v2)]) (st' := [.inl 9, .inl (m_rd h (m_rd h u0 3) v2)]) (h' := h) (cs := [GK h u0 1, GI h (m_rd h u0 3) 1 v2]) (by decide +kernel) rfl hc ?_
      rcases it_of hF with ⟨hb, hF⟩ | ⟨hb, hF⟩
      · refine RN.ict (cd := .eq) (off := 23) (tgt := 44) (by decide +kernel) (mif_eq hb) ?_
        refine RN.blk (ops := [(44, .iinc 2 1)]) (pc' := 47) (lv' := [(2, .inl (m_w32 (v2 + 1))), (0, .inr (.inr u0)), (1, .inl u1)]) (st' := []) (h' := h) (cs := []) (by decide +kernel) rfl trivial ?_
        refine RN.goto (off := -45) (tgt := 2) (by decide +kernel) ?_
        exact RN.sub (ih _ _ hF) (sub_cons rfl (sub_cons rfl (sub_cons rfl sub_nil)))
      · refine RN.icf (cd := .eq) (off := 23) (tgt := 44) (by decide +kernel) (mif_eqn hb) ?_
        obtain ⟨hc, hF⟩ := gd_of hF
        refine RN.blk (ops := [(24, .aload_n 0), (25, .getfield 29), (28, .iload_n 2), (29, .iaload), (30, .aload_n 0), (31, .getfield 12), (34, .iload_n 1), (35, .iload_n 2)]) (pc' := 36) (lv' := [(0, .inr (.inr u0)), (1, .inl u1), (2, .inl v2)]) (st' := [.inl v2, .inl u1, .inr (.inr (m_rd h u0 0)), .inl (m_rd h (m_rd h u0 3) v2)]) (h' := h) (cs := [GK h u0 1, GI h (m_rd h u0 3) 1 v2, GK h u0 1]) (by decide +kernel) rfl hc ?_
        obtain ⟨hc, hF⟩ := gd_of hF
        obtain ⟨x2, h1, hG, hF⟩ := bd_of hF
        refine RN.cv (i := 80) (k := 87) (q2 := iX8_digitOf) (as := [.inr (.inr (m_rd h u0 0)), .inl u1, .inl v2]) (r := [.inl (m_rd h (m_rd h u0 3) v2)]) (v := some (.inl x2)) (h1 := h1) (by decide +kernel) rfl rfl rfl rfl rfl (rcv_ok hc.1) (CX8_digitOf (d := d) hG) ?_
        rcases it_of hF with ⟨hb, hF⟩ | ⟨hb, hF⟩
        · refine RN.ict (cd := .eq) (off := 5) (tgt := 44) (by decide +kernel) (mif_eq hb) ?_
          refine RN.blk (ops := [(44, .iinc 2 1)]) (pc' := 47) (lv' := [(2, .inl (m_w32 (v2 + 1))), (0, .inr (.inr u0)), (1, .inl u1)]) (st' := []) (h' := h1) (cs := []) (by decide +kernel) rfl trivial ?_
          refine RN.goto (off := -45) (tgt := 2) (by decide +kernel) ?_
          exact RN.sub (ih _ _ hF) (sub_cons rfl (sub_cons rfl (sub_cons rfl sub_nil)))
        · refine RN.icf (cd := .eq) (off := 5) (tgt := 44) (by decide +kernel) (mif_eqn hb) ?_
          exact RN.sub (hK0 _ hF) sub_nil
    · refine RN.ict (cd := .ge) (off := 40) (tgt := 50) (by decide +kernel) (mif_ge hb) ?_
      exact RN.sub (hK1 _ hF) sub_nil
noncomputable def FX1_isMeant (t : Int) (a1 : Int) (h : MH) : Option (Int × MH) :=
  FX1_isMeant_L2 t a1 (fun h1 =>
   some (0, h1)) (fun h2 =>
   some (1, h2)) FU 0 h
theorem CX1_isMeant {d : Nat} {t : Int} {a1 : Int} {h : MH} {r : Int × MH} (hF : FX1_isMeant t a1 h = some r) : RN xs L iX1_isMeant (d + 2) 0 (lvE 0 [.inr (.inr t), .inl a1]) [] h (RIo r) := by
  unfold FX1_isMeant at hF
  refine RN.blk (ops := [(0, .iconst 0), (1, .istore_n 2)]) (pc' := 2) (lv' := [(2, .inl 0), (0, .inr (.inr t)), (1, .inl a1)]) (st' := []) (h' := h) (cs := []) (by decide +kernel) rfl trivial ?_
  refine RN.sub (CX1_isMeant_L2 ?_ ?_ _ _ _ hF) (sub_cons rfl (sub_cons rfl (sub_cons rfl sub_nil)))
  · intro h1 hF
    refine RN.blk (ops := [(42, .iconst 0)]) (pc' := 43) (lv' := []) (st' := [.inl 0]) (h' := h1) (cs := []) (by decide +kernel) rfl trivial ?_
    exact RN.zR (by decide +kernel) rfl (Or.inl rfl) hF
  · intro h2 hF
    refine RN.blk (ops := [(50, .iconst 1)]) (pc' := 51) (lv' := []) (st' := [.inl 1]) (h' := h2) (cs := []) (by decide +kernel) rfl trivial ?_
    exact RN.zR (by decide +kernel) rfl (Or.inr rfl) hF
noncomputable def FX1_meantHoles_L4 (u0 : Int) (K0 : Int → MH → Option (Int × MH)) : Nat → Int → Int → MH → Option (Int × MH)
  | 0, _, _, _ => none
  | f + 1, v1, v2, h =>
    gd [GK h u0 1, GK h (m_rd h u0 0) 8] (
     (if v2 < (m_rd h (m_rd h u0 0) 3) then
      gd [GK h u0 1] (bd (FX1_isMeant u0 v2 h) (fun x2 h1 =>
       (if x2 = 0 then
        FX1_meantHoles_L4 u0 K0 f v1 (m_w32 (v2 + 1)) h1
       else
        gd [GK h1 u0 1] (bd (FX1_holeFor u0 v2 h1) (fun x4 h3 =>
         (if x4 = (-1) then
          FX1_meantHoles_L4 u0 K0 f (m_bor v1 64) (m_w32 (v2 + 1)) h3
         else
          FX1_meantHoles_L4 u0 K0 f (m_bor v1 (m_shl 1 x4)) (m_w32 (v2 + 1)) h3))))))
     else
      K0 v1 h))
theorem CX1_meantHoles_L4 {d : Nat} {u0 : Int} {K0 : Int → MH → Option (Int × MH)} {r : Int × MH} (hK0 : ∀ (w1 : Int) (h : MH), K0 w1 h = some r → RN xs L iX1_meantHoles (d + 3) 51 [(1, .inl w1)] [] h (RIo r)) : ∀ (f : Nat) (v1 : Int) (v2 : Int) (h : MH), FX1_meantHoles_L4 u0 K0 f v1 v2 h = some r → RN xs L iX1_meantHoles (d + 3) 4 [(0, .inr (.inr u0)), (1, .inl v1), (2, .inl v2)] [] h (RIo r) := by
  intro f
  induction f with
  | zero =>
    intro v1 v2 h hF
    cases hF
  | succ f ih =>
    intro v1 v2 h hF
    unfold FX1_meantHoles_L4 at hF
    obtain ⟨hc, hF⟩ := gd_of hF
    refine RN.blk (ops := [(4, .iload_n 2), (5, .aload_n 0), (6, .getfield 12), (9, .getfield 38)]) (pc' := 12) (lv' := [(0, .inr (.inr u0)), (1, .inl v1), (2, .inl v2)]) (st' := [.inl (m_rd h (m_rd h u0 0) 3), .inl v2]) (h' := h) (cs := [GK h u0 1, GK h (m_rd h u0 0) 8]) (by decide +kernel) rfl hc ?_
    rcases it_of hF with ⟨hb, hF⟩ | ⟨hb, hF⟩
    · refine RN.icf (cd := .ge) (off := 39) (tgt := 51) (by decide +kernel) (mif_gen hb) ?_
      refine RN.blk (ops := [(15, .aload_n 0), (16, .iload_n 2)]) (pc' := 17) (lv' := [(0, .inr (.inr u0)), (1, .inl v1), (2, .inl v2)]) (st' := [.inl v2, .inr (.inr u0)]) (h' := h) (cs := []) (by decide +kernel) rfl trivial ?_
      obtain ⟨hc, hF⟩ := gd_of hF
      obtain ⟨x2, h1, hG, hF⟩ := bd_of hF
      refine RN.cv (i := 84) (k := 20) (q2 := iX1_isMeant) (as := [.inr (.inr u0), .inl v2]) (r := []) (v := some (.inl x2)) (h1 := h1) (by decide +kernel) rfl rfl rfl rfl rfl (rcv_ok hc.1) (CX1_isMeant (d := d) hG) ?_
      rcases it_of hF with ⟨hb, hF⟩ | ⟨hb, hF⟩
      · refine RN.ift (cd := .eq) (off := 25) (tgt := 45) (by decide +kernel) (mif_eq hb) ?_
        refine RN.blk (ops := [(45, .iinc 2 1)]) (pc' := 48) (lv' := [(2, .inl (m_w32 (v2 + 1))), (0, .inr (.inr u0)), (1, .inl v1)]) (st' := []) (h' := h1) (cs := []) (by decide +kernel) rfl trivial ?_
        refine RN.goto (off := -44) (tgt := 4) (by decide +kernel) ?_
        exact RN.sub (ih _ _ _ hF) (sub_cons rfl (sub_cons rfl (sub_cons rfl sub_nil)))
      · refine RN.iff (cd := .eq) (off := 25) (tgt := 45) (by decide +kernel) (mif_eqn hb) ?_
        refine RN.blk (ops := [(23, .aload_n 0), (24, .iload_n 2)]) (pc' := 25) (lv' := [(0, .inr (.inr u0)), (1, .inl v1), (2, .inl v2)]) (st' := [.inl v2, .inr (.inr u0)]) (h' := h1) (cs := []) (by decide +kernel) rfl trivial ?_
        obtain ⟨hc, hF⟩ := gd_of hF
        obtain ⟨x4, h3, hG, hF⟩ := bd_of hF
        refine RN.cv (i := 74) (k := 15) (q2 := iX1_holeFor) (as := [.inr (.inr u0), .inl v2]) (r := []) (v := some (.inl x4)) (h1 := h3) (by decide +kernel) rfl rfl rfl rfl rfl (rcv_ok hc.1) (CX1_holeFor (d := d) hG) ?_
        refine RN.blk (ops := [(28, .istore_n 3), (29, .iload_n 1), (30, .iload_n 3), (31, .iconst (-1))]) (pc' := 32) (lv' := [(3, .inl x4), (0, .inr (.inr u0)), (1, .inl v1), (2, .inl v2)]) (st' := [.inl (-1), .inl x4, .inl v1]) (h' := h3) (cs := []) (by decide +kernel) rfl trivial ?_
        rcases it_of hF with ⟨hb, hF⟩ | ⟨hb, hF⟩
        · refine RN.icf (cd := .ne) (off := 8) (tgt := 40) (by decide +kernel) (mif_nen hb) ?_
          refine RN.blk (ops := [(35, .bipush 64)]) (pc' := 37) (lv' := [(3, .inl x4), (0, .inr (.inr u0)), (1, .inl v1), (2, .inl v2)]) (st' := [.inl 64, .inl v1]) (h' := h3) (cs := []) (by decide +kernel) rfl trivial ?_
          refine RN.goto (off := 6) (tgt := 43) (by decide +kernel) ?_
          refine RN.blk (ops := [(43, .ior), (44, .istore_n 1)]) (pc' := 45) (lv' := [(1, .inl (m_bor v1 64)), (3, .inl x4), (0, .inr (.inr u0)), (2, .inl v2)]) (st' := []) (h' := h3) (cs := []) (by decide +kernel) rfl trivial ?_
          refine RN.blk (ops := [(45, .iinc 2 1)]) (pc' := 48) (lv' := [(2, .inl (m_w32 (v2 + 1))), (1, .inl (m_bor v1 64)), (3, .inl x4), (0, .inr (.inr u0))]) (st' := []) (h' := h3) (cs := []) (by decide +kernel) rfl trivial ?_
          refine RN.goto (off := -44) (tgt := 4) (by decide +kernel) ?_
          exact RN.sub (ih _ _ _ hF) (sub_cons rfl (sub_cons rfl (sub_cons rfl sub_nil)))
        · refine RN.ict (cd := .ne) (off := 8) (tgt := 40) (by decide +kernel) (mif_ne hb) ?_
          refine RN.blk (ops := [(40, .iconst 1), (41, .iload_n 3), (42, .ishl)]) (pc' := 43) (lv' := [(3, .inl x4), (0, .inr (.inr u0)), (1, .inl v1), (2, .inl v2)]) (st' := [.inl (m_shl 1 x4), .inl v1]) (h' := h3) (cs := []) (by decide +kernel) rfl trivial ?_
          refine RN.blk (ops := [(43, .ior), (44, .istore_n 1)]) (pc' := 45) (lv' := [(1, .inl (m_bor v1 (m_shl 1 x4))), (3, .inl x4), (0, .inr (.inr u0)), (2, .inl v2)]) (st' := []) (h' := h3) (cs := []) (by decide +kernel) rfl trivial ?_
          refine RN.blk (ops := [(45, .iinc 2 1)]) (pc' := 48) (lv' := [(2, .inl (m_w32 (v2 + 1))), (1, .inl (m_bor v1 (m_shl 1 x4))), (3, .inl x4), (0, .inr (.inr u0))]) (st' := []) (h' := h3) (cs := []) (by decide +kernel) rfl trivial ?_
          refine RN.goto (off := -44) (tgt := 4) (by decide +kernel) ?_
          exact RN.sub (ih _ _ _ hF) (sub_cons rfl (sub_cons rfl (sub_cons rfl sub_nil)))
    · refine RN.ict (cd := .ge) (off := 39) (tgt := 51) (by decide +kernel) (mif_ge hb) ?_
      exact RN.sub (hK0 _ _ hF) (sub_cons rfl sub_nil)
noncomputable def FX1_meantHoles (t : Int) (h : MH) : Option (Int × MH) :=
  FX1_meantHoles_L4 t (fun w1 h2 =>
   some (w1, h2)) FU 0 0 h
theorem CX1_meantHoles {d : Nat} {t : Int} {h : MH} {r : Int × MH} (hF : FX1_meantHoles t h = some r) : RN xs L iX1_meantHoles (d + 3) 0 (lvE 0 [.inr (.inr t)]) [] h (RIo r) := by
  unfold FX1_meantHoles at hF
  refine RN.blk (ops := [(0, .iconst 0), (1, .istore_n 1), (2, .iconst 0), (3, .istore_n 2)]) (pc' := 4) (lv' := [(2, .inl 0), (1, .inl 0), (0, .inr (.inr t))]) (st' := []) (h' := h) (cs := []) (by decide +kernel) rfl trivial ?_
  refine RN.sub (CX1_meantHoles_L4 ?_ _ _ _ _ hF) (sub_cons rfl (sub_cons rfl (sub_cons rfl sub_nil)))
  · intro w1 h2 hF
    refine RN.blk (ops := [(51, .iload_n 1)]) (pc' := 52) (lv' := [(1, .inl w1)]) (st' := [.inl w1]) (h' := h2) (cs := []) (by decide +kernel) rfl trivial ?_
    exact RN.iR (by decide +kernel) rfl hF
noncomputable def FX1_decides_L13 (u0 : Int) (u1 : Int) (u2 : Int) (K0 : MH → Option (Int × MH)) (K1 : MH → Option (Int × MH)) : Nat → Int → MH → Option (Int × MH)
  | 0, _, _ => none
  | f + 1, v3, h =>
    gd [GK h u0 1, GK h (m_rd h u0 0) 8] (
     (if v3 < (m_rd h (m_rd h u0 0) 3) then
      gd [GK h u0 1] (
       gd [GK h (m_rd h u0 0) 8] (bd (FX8_digitOf (m_rd h u0 0) v3 u1 h) (fun x2 h1 =>
        gd [GK h1 u0 1] (bd (FX1_isMeant u0 v3 h1) (fun x4 h3 =>
         (if x4 = 0 then
          FX1_decides_L13 u0 u1 u2 K0 K1 f (m_w32 (v3 + 1)) h3
         else
          gd [GK h3 u0 1] (bd (FX1_holeFor u0 v3 h3) (fun x6 h5 =>
           gd [GK h5 u0 1] (bd (FX1_holeFor u0 (m_w32 (v3 - (m_w32 (x2 * u2)))) h5) (fun x8 h7 =>
            (if x6 = x8 then
             FX1_decides_L13 u0 u1 u2 K0 K1 f (m_w32 (v3 + 1)) h7
            else
             K0 h7)))))))))))
     else
      K1 h))
theorem CX1_decides_L13 {d : Nat} {u0 : Int} {u1 : Int} {u2 : Int} {K0 : MH → Option (Int × MH)} {K1 : MH → Option (Int × MH)} {r : Int × MH} (hK0 : ∀ (h : MH), K0 h = some r → RN xs L iX1_decides (d + 3) 61 [] [] h (RIo r)) (hK1 : ∀ (h : MH), K1 h = some r → RN xs L iX1_decides (d + 3) 69 [] [] h (RIo r)) : ∀ (f : Nat) (v3 : Int) (h : MH), FX1_decides_L13 u0 u1 u2 K0 K1 f v3 h = some r → RN xs L iX1_decides (d + 3) 13 [(0, .inr (.inr u0)), (1, .inl u1), (2, .inl u2), (3, .inl v3)] [] h (RIo r) := by
  intro f
  induction f with
  | zero =>
    intro v3 h hF
    cases hF
  | succ f ih =>
    intro v3 h hF
    unfold FX1_decides_L13 at hF
    obtain ⟨hc, hF⟩ := gd_of hF
    refine RN.blk (ops := [(13, .iload_n 3), (14, .aload_n 0), (15, .getfield 12), (18, .getfield 38)]) (pc' := 21) (lv' := [(0, .inr (.inr u0)), (1, .inl u1), (2, .inl u2), (3, .inl v3)]) (st' := [.inl (m_rd h (m_rd h u0 0) 3), .inl v3]) (h' := h) (cs := [GK h u0 1, GK h (m_rd h u0 0) 8]) (by decide +kernel) rfl hc ?_
    rcases it_of hF with ⟨hb, hF⟩ | ⟨hb, hF⟩
    · refine RN.icf (cd := .ge) (off := 48) (tgt := 69) (by decide +kernel) (mif_gen hb) ?_
      obtain ⟨hc, hF⟩ := gd_of hF
      refine RN.blk (ops := [(24, .iload_n 3), (25, .aload_n 0), (26, .getfield 12), (29, .iload_n 3), (30, .iload_n 1)]) (pc' := 31) (lv' := [(0, .inr (.inr u0)), (1, .inl u1), (2, .inl u2), (3, .inl v3)]) (st' := [.inl u1, .inl v3, .inr (.inr (m_rd h u0 0)), .inl v3]) (h' := h) (cs := [GK h u0 1]) (by decide +kernel) rfl hc ?_
      obtain ⟨hc, hF⟩ := gd_of hF
      obtain ⟨x2, h1, hG, hF⟩ := bd_of hF
      refine RN.cv (i := 80) (k := 87) (q2 := iX8_digitOf) (as := [.inr (.inr (m_rd h u0 0)), .inl v3, .inl u1]) (r := [.inl v3]) (v := some (.inl x2)) (h1 := h1) (by decide +kernel) rfl rfl rfl rfl rfl (rcv_ok hc.1) (CX8_digitOf (d := d + 1) hG) ?_
      refine RN.blk (ops := [(34, .iload_n 2), (35, .imul), (36, .isub), (37, .istore 4), (39, .aload_n 0), (40, .iload_n 3)]) (pc' := 41) (lv' := [(4, .inl (m_w32 (v3 - (m_w32 (x2 * u2))))), (0, .inr (.inr u0)), (1, .inl u1), (2, .inl u2), (3, .inl v3)]) (st' := [.inl v3, .inr (.inr u0)]) (h' := h1) (cs := []) (by decide +kernel) rfl trivial ?_
      obtain ⟨hc, hF⟩ := gd_of hF
      obtain ⟨x4, h3, hG, hF⟩ := bd_of hF
      refine RN.cv (i := 84) (k := 20) (q2 := iX1_isMeant) (as := [.inr (.inr u0), .inl v3]) (r := []) (v := some (.inl x4)) (h1 := h3) (by decide +kernel) rfl rfl rfl rfl rfl (rcv_ok hc.1) (CX1_isMeant (d := d) hG) ?_
      rcases it_of hF with ⟨hb, hF⟩ | ⟨hb, hF⟩
      · refine RN.ift (cd := .eq) (off := 19) (tgt := 63) (by decide +kernel) (mif_eq hb) ?_
        refine RN.blk (ops := [(63, .iinc 3 1)]) (pc' := 66) (lv' := [(3, .inl (m_w32 (v3 + 1))), (4, .inl (m_w32 (v3 - (m_w32 (x2 * u2))))), (0, .inr (.inr u0)), (1, .inl u1), (2, .inl u2)]) (st' := []) (h' := h3) (cs := []) (by decide +kernel) rfl trivial ?_
        refine RN.goto (off := -53) (tgt := 13) (by decide +kernel) ?_
        exact RN.sub (ih _ _ hF) (sub_cons rfl (sub_cons rfl (sub_cons rfl (sub_cons rfl sub_nil))))
      · refine RN.iff (cd := .eq) (off := 19) (tgt := 63) (by decide +kernel) (mif_eqn hb) ?_
        refine RN.blk (ops := [(47, .aload_n 0), (48, .iload_n 3)]) (pc' := 49) (lv' := [(4, .inl (m_w32 (v3 - (m_w32 (x2 * u2))))), (0, .inr (.inr u0)), (1, .inl u1), (2, .inl u2), (3, .inl v3)]) (st' := [.inl v3, .inr (.inr u0)]) (h' := h3) (cs := []) (by decide +kernel) rfl trivial ?_
        obtain ⟨hc, hF⟩ := gd_of hF
        obtain ⟨x6, h5, hG, hF⟩ := bd_of hF
        refine RN.cv (i := 74) (k := 15) (q2 := iX1_holeFor) (as := [.inr (.inr u0), .inl v3]) (r := []) (v := some (.inl x6)) (h1 := h5) (by decide +kernel) rfl rfl rfl rfl rfl (rcv_ok hc.1) (CX1_holeFor (d := d) hG) ?_
        refine RN.blk (ops := [(52, .aload_n 0), (53, .iload 4)]) (pc' := 55) (lv' := [(4, .inl (m_w32 (v3 - (m_w32 (x2 * u2))))), (0, .inr (.inr u0)), (1, .inl u1), (2, .inl u2), (3, .inl v3)]) (st' := [.inl (m_w32 (v3 - (m_w32 (x2 * u2)))), .inr (.inr u0), .inl x6]) (h' := h5) (cs := []) (by decide +kernel) rfl trivial ?_
        obtain ⟨hc, hF⟩ := gd_of hF
        obtain ⟨x8, h7, hG, hF⟩ := bd_of hF
        refine RN.cv (i := 74) (k := 15) (q2 := iX1_holeFor) (as := [.inr (.inr u0), .inl (m_w32 (v3 - (m_w32 (x2 * u2))))]) (r := [.inl x6]) (v := some (.inl x8)) (h1 := h7) (by decide +kernel) rfl rfl rfl rfl rfl (rcv_ok hc.1) (CX1_holeFor (d := d) hG) ?_
        rcases it_of hF with ⟨hb, hF⟩ | ⟨hb, hF⟩
        · refine RN.ict (cd := .eq) (off := 5) (tgt := 63) (by decide +kernel) (mif_eq hb) ?_
          refine RN.blk (ops := [(63, .iinc 3 1)]) (pc' := 66) (lv' := [(3, .inl (m_w32 (v3 + 1))), (4, .inl (m_w32 (v3 - (m_w32 (x2 * u2))))), (0, .inr (.inr u0)), (1, .inl u1), (2, .inl u2)]) (st' := []) (h' := h7) (cs := []) (by decide +kernel) rfl trivial ?_
          refine RN.goto (off := -53) (tgt := 13) (by decide +kernel) ?_
          exact RN.sub (ih _ _ hF) (sub_cons rfl (sub_cons rfl (sub_cons rfl (sub_cons rfl sub_nil))))
        · refine RN.icf (cd := .eq) (off := 5) (tgt := 63) (by decide +kernel) (mif_eqn hb) ?_
          exact RN.sub (hK0 _ hF) sub_nil
    · refine RN.ict (cd := .ge) (off := 48) (tgt := 69) (by decide +kernel) (mif_ge hb) ?_
      exact RN.sub (hK1 _ hF) sub_nil
noncomputable def FX1_decides (t : Int) (a1 : Int) (h : MH) : Option (Int × MH) :=
  gd [GK h t 1] (
   gd [GK h (m_rd h t 0) 8] (bd (FX8_spanOf (m_rd h t 0) (m_w32 (a1 + 1)) h) (fun x2 h1 =>
    FX1_decides_L13 t a1 x2 (fun h3 =>
     some (1, h3)) (fun h4 =>
     some (0, h4)) FU 0 h1)))
theorem CX1_decides {d : Nat} {t : Int} {a1 : Int} {h : MH} {r : Int × MH} (hF : FX1_decides t a1 h = some r) : RN xs L iX1_decides (d + 3) 0 (lvE 0 [.inr (.inr t), .inl a1]) [] h (RIo r) := by
  unfold FX1_decides at hF
  obtain ⟨hc, hF⟩ := gd_of hF
  refine RN.blk (ops := [(0, .aload_n 0), (1, .getfield 12), (4, .iload_n 1), (5, .iconst 1), (6, .iadd)]) (pc' := 7) (lv' := [(0, .inr (.inr t)), (1, .inl a1)]) (st' := [.inl (m_w32 (a1 + 1)), .inr (.inr (m_rd h t 0))]) (h' := h) (cs := [GK h t 1]) (by decide +kernel) rfl hc ?_
  obtain ⟨hc, hF⟩ := gd_of hF
  obtain ⟨x2, h1, hG, hF⟩ := bd_of hF
  refine RN.cv (i := 54) (k := 85) (q2 := iX8_spanOf) (as := [.inr (.inr (m_rd h t 0)), .inl (m_w32 (a1 + 1))]) (r := []) (v := some (.inl x2)) (h1 := h1) (by decide +kernel) rfl rfl rfl rfl rfl (rcv_ok hc.1) (CX8_spanOf (d := d + 2) hG) ?_
  refine RN.blk (ops := [(10, .istore_n 2), (11, .iconst 0), (12, .istore_n 3)]) (pc' := 13) (lv' := [(3, .inl 0), (2, .inl x2), (0, .inr (.inr t)), (1, .inl a1)]) (st' := []) (h' := h1) (cs := []) (by decide +kernel) rfl trivial ?_
  refine RN.sub (CX1_decides_L13 ?_ ?_ _ _ _ hF) (sub_cons rfl (sub_cons rfl (sub_cons rfl (sub_cons rfl sub_nil))))
  · intro h3 hF
    refine RN.blk (ops := [(61, .iconst 1)]) (pc' := 62) (lv' := []) (st' := [.inl 1]) (h' := h3) (cs := []) (by decide +kernel) rfl trivial ?_
    exact RN.zR (by decide +kernel) rfl (Or.inr rfl) hF
  · intro h4 hF
    refine RN.blk (ops := [(69, .iconst 0)]) (pc' := 70) (lv' := []) (st' := [.inl 0]) (h' := h4) (cs := []) (by decide +kernel) rfl trivial ?_
    exact RN.zR (by decide +kernel) rfl (Or.inl rfl) hF
noncomputable def FX1_setToRead_L4 (u0 : Int) (K0 : Int → MH → Option (Int × MH)) : Nat → Int → Int → MH → Option (Int × MH)
  | 0, _, _, _ => none
  | f + 1, v1, v2, h =>
    gd [GK h u0 1, GK h (m_rd h u0 0) 8] (
     (if v2 < (m_rd h (m_rd h u0 0) 1) then
      gd [GK h u0 1, GI h (m_rd h u0 3) 1 v2] (
       (if (m_rd h (m_rd h u0 3) v2) = 9 then
        gd [GK h u0 1] (bd (FX1_decides u0 v2 h) (fun x2 h1 =>
         (if x2 = 0 then
          FX1_setToRead_L4 u0 K0 f v1 (m_w32 (v2 + 1)) h1
         else
          FX1_setToRead_L4 u0 K0 f (m_bor v1 (m_shl 1 v2)) (m_w32 (v2 + 1)) h1)))
       else
        FX1_setToRead_L4 u0 K0 f v1 (m_w32 (v2 + 1)) h))
     else
      K0 v1 h))
theorem CX1_setToRead_L4 {d : Nat} {u0 : Int} {K0 : Int → MH → Option (Int × MH)} {r : Int × MH} (hK0 : ∀ (w1 : Int) (h : MH), K0 w1 h = some r → RN xs L iX1_setToRead (d + 4) 46 [(1, .inl w1)] [] h (RIo r)) : ∀ (f : Nat) (v1 : Int) (v2 : Int) (h : MH), FX1_setToRead_L4 u0 K0 f v1 v2 h = some r → RN xs L iX1_setToRead (d + 4) 4 [(0, .inr (.inr u0)), (1, .inl v1), (2, .inl v2)] [] h (RIo r) := by
  intro f
  induction f with
  | zero =>
    intro v1 v2 h hF
    cases hF
  | succ f ih =>
    intro v1 v2 h hF
    unfold FX1_setToRead_L4 at hF
    obtain ⟨hc, hF⟩ := gd_of hF
    refine RN.blk (ops := [(4, .iload_n 2), (5, .aload_n 0), (6, .getfield 12), (9, .getfield 42)]) (pc' := 12) (lv' := [(0, .inr (.inr u0)), (1, .inl v1), (2, .inl v2)]) (st' := [.inl (m_rd h (m_rd h u0 0) 1), .inl v2]) (h' := h) (cs := [GK h u0 1, GK h (m_rd h u0 0) 8]) (by decide +kernel) rfl hc ?_
    rcases it_of hF with ⟨hb, hF⟩ | ⟨hb, hF⟩
    · refine RN.icf (cd := .ge) (off := 34) (tgt := 46) (by decide +kernel) (mif_gen hb) ?_
      obtain ⟨hc, hF⟩ := gd_of hF
      refine RN.blk (ops := [(15, .aload_n 0), (16, .getfield 29), (19, .iload_n 2), (20, .iaload), (21, .bipush 9)]) (pc' := 23) (lv' := [(0, .inr (.inr u0)), (1, .inl v1), (2, .inl v2)]) (st' := [.inl 9, .inl (m_rd h (m_rd h u0 3) v2)]) (h' := h) (cs := [GK h u0 1, GI h (m_rd h u0 3) 1 v2]) (by decide +kernel) rfl hc ?_
      rcases it_of hF with ⟨hb, hF⟩ | ⟨hb, hF⟩
      · refine RN.icf (cd := .ne) (off := 17) (tgt := 40) (by decide +kernel) (mif_nen hb) ?_
        refine RN.blk (ops := [(26, .aload_n 0), (27, .iload_n 2)]) (pc' := 28) (lv' := [(0, .inr (.inr u0)), (1, .inl v1), (2, .inl v2)]) (st' := [.inl v2, .inr (.inr u0)]) (h' := h) (cs := []) (by decide +kernel) rfl trivial ?_
        obtain ⟨hc, hF⟩ := gd_of hF
        obtain ⟨x2, h1, hG, hF⟩ := bd_of hF
        refine RN.cv (i := 87) (k := 23) (q2 := iX1_decides) (as := [.inr (.inr u0), .inl v2]) (r := []) (v := some (.inl x2)) (h1 := h1) (by decide +kernel) rfl rfl rfl rfl rfl (rcv_ok hc.1) (CX1_decides (d := d) hG) ?_
        rcases it_of hF with ⟨hb, hF⟩ | ⟨hb, hF⟩
        · refine RN.ift (cd := .eq) (off := 9) (tgt := 40) (by decide +kernel) (mif_eq hb) ?_
          refine RN.blk (ops := [(40, .iinc 2 1)]) (pc' := 43) (lv' := [(2, .inl (m_w32 (v2 + 1))), (0, .inr (.inr u0)), (1, .inl v1)]) (st' := []) (h' := h1) (cs := []) (by decide +kernel) rfl trivial ?_
          refine RN.goto (off := -39) (tgt := 4) (by decide +kernel) ?_
          exact RN.sub (ih _ _ _ hF) (sub_cons rfl (sub_cons rfl (sub_cons rfl sub_nil)))
        · refine RN.iff (cd := .eq) (off := 9) (tgt := 40) (by decide +kernel) (mif_eqn hb) ?_
          refine RN.blk (ops := [(34, .iload_n 1), (35, .iconst 1), (36, .iload_n 2), (37, .ishl), (38, .ior), (39, .istore_n 1)]) (pc' := 40) (lv' := [(1, .inl (m_bor v1 (m_shl 1 v2))), (0, .inr (.inr u0)), (2, .inl v2)]) (st' := []) (h' := h1) (cs := []) (by decide +kernel) rfl trivial ?_
          refine RN.blk (ops := [(40, .iinc 2 1)]) (pc' := 43) (lv' := [(2, .inl (m_w32 (v2 + 1))), (1, .inl (m_bor v1 (m_shl 1 v2))), (0, .inr (.inr u0))]) (st' := []) (h' := h1) (cs := []) (by decide +kernel) rfl trivial ?_
          refine RN.goto (off := -39) (tgt := 4) (by decide +kernel) ?_
          exact RN.sub (ih _ _ _ hF) (sub_cons rfl (sub_cons rfl (sub_cons rfl sub_nil)))
      · refine RN.ict (cd := .ne) (off := 17) (tgt := 40) (by decide +kernel) (mif_ne hb) ?_
        refine RN.blk (ops := [(40, .iinc 2 1)]) (pc' := 43) (lv' := [(2, .inl (m_w32 (v2 + 1))), (0, .inr (.inr u0)), (1, .inl v1)]) (st' := []) (h' := h) (cs := []) (by decide +kernel) rfl trivial ?_
        refine RN.goto (off := -39) (tgt := 4) (by decide +kernel) ?_
        exact RN.sub (ih _ _ _ hF) (sub_cons rfl (sub_cons rfl (sub_cons rfl sub_nil)))
    · refine RN.ict (cd := .ge) (off := 34) (tgt := 46) (by decide +kernel) (mif_ge hb) ?_
      exact RN.sub (hK0 _ _ hF) (sub_cons rfl sub_nil)
noncomputable def FX1_setToRead (t : Int) (h : MH) : Option (Int × MH) :=
  FX1_setToRead_L4 t (fun w1 h2 =>
   some (w1, h2)) FU 0 0 h
theorem CX1_setToRead {d : Nat} {t : Int} {h : MH} {r : Int × MH} (hF : FX1_setToRead t h = some r) : RN xs L iX1_setToRead (d + 4) 0 (lvE 0 [.inr (.inr t)]) [] h (RIo r) := by
  unfold FX1_setToRead at hF
  refine RN.blk (ops := [(0, .iconst 0), (1, .istore_n 1), (2, .iconst 0), (3, .istore_n 2)]) (pc' := 4) (lv' := [(2, .inl 0), (1, .inl 0), (0, .inr (.inr t))]) (st' := []) (h' := h) (cs := []) (by decide +kernel) rfl trivial ?_
  refine RN.sub (CX1_setToRead_L4 ?_ _ _ _ _ hF) (sub_cons rfl (sub_cons rfl (sub_cons rfl sub_nil)))
  · intro w1 h2 hF
    refine RN.blk (ops := [(46, .iload_n 1)]) (pc' := 47) (lv' := [(1, .inl w1)]) (st' := [.inl w1]) (h' := h2) (cs := []) (by decide +kernel) rfl trivial ?_
    exact RN.iR (by decide +kernel) rfl hF
noncomputable def FX1_slipsOf_L56 (u0 : Int) (u1 : Int) (u3 : Int) (u4 : Int) (u5 : Int) (u6 : Int) (K0 : Int → MH → Option (Int × MH)) : Nat → Int → Int → MH → Option (Int × MH)
  | 0, _, _, _ => none
  | f + 1, v2, v7, h =>
    gd [GK h u0 1, GK h (m_rd h u0 0) 8] (
     (if v7 < (m_rd h (m_rd h u0 0) 0) then
      gd [GK h u0 1] (bd (FX1_holeFor u0 (m_w32 (u6 + (m_w32 (v7 * u5)))) h) (fun x2 h1 =>
       (if x2 = u3 then
        FX1_slipsOf_L56 u0 u1 u3 u4 u5 u6 K0 f v2 (m_w32 (v7 + 1)) h1
       else
        FX1_slipsOf_L56 u0 u1 u3 u4 u5 u6 K0 f (m_w32 (v2 + 1)) (m_w32 (v7 + 1)) h1)))
     else
      K0 v2 h))
theorem CX1_slipsOf_L56 {d : Nat} {u0 : Int} {u1 : Int} {u3 : Int} {u4 : Int} {u5 : Int} {u6 : Int} {K0 : Int → MH → Option (Int × MH)} {r : Int × MH} (hK0 : ∀ (w2 : Int) (h : MH), K0 w2 h = some r → RN xs L iX1_slipsOf (d + 3) 93 [(0, .inr (.inr u0)), (1, .inl u1), (2, .inl w2), (3, .inl u3), (4, .inl u4)] [] h (RIo r)) : ∀ (f : Nat) (v2 : Int) (v7 : Int) (h : MH), FX1_slipsOf_L56 u0 u1 u3 u4 u5 u6 K0 f v2 v7 h = some r → RN xs L iX1_slipsOf (d + 3) 56 [(0, .inr (.inr u0)), (1, .inl u1), (2, .inl v2), (3, .inl u3), (4, .inl u4), (5, .inl u5), (6, .inl u6), (7, .inl v7)] [] h (RIo r) := by
  intro f
  induction f with
  | zero =>
    intro v2 v7 h hF
    cases hF
  | succ f ih =>
    intro v2 v7 h hF
    unfold FX1_slipsOf_L56 at hF
    obtain ⟨hc, hF⟩ := gd_of hF
    refine RN.blk (ops := [(56, .iload 7), (58, .aload_n 0), (59, .getfield 12), (62, .getfield 77)]) (pc' := 65) (lv' := [(0, .inr (.inr u0)), (1, .inl u1), (2, .inl v2), (3, .inl u3), (4, .inl u4), (5, .inl u5), (6, .inl u6), (7, .inl v7)]) (st' := [.inl (m_rd h (m_rd h u0 0) 0), .inl v7]) (h' := h) (cs := [GK h u0 1, GK h (m_rd h u0 0) 8]) (by decide +kernel) rfl hc ?_
    rcases it_of hF with ⟨hb, hF⟩ | ⟨hb, hF⟩
    · refine RN.icf (cd := .ge) (off := 28) (tgt := 93) (by decide +kernel) (mif_gen hb) ?_
      refine RN.blk (ops := [(68, .aload_n 0), (69, .iload 6), (71, .iload 7), (73, .iload 5), (75, .imul), (76, .iadd)]) (pc' := 77) (lv' := [(0, .inr (.inr u0)), (1, .inl u1), (2, .inl v2), (3, .inl u3), (4, .inl u4), (5, .inl u5), (6, .inl u6), (7, .inl v7)]) (st' := [.inl (m_w32 (u6 + (m_w32 (v7 * u5)))), .inr (.inr u0)]) (h' := h) (cs := []) (by decide +kernel) rfl trivial ?_
      obtain ⟨hc, hF⟩ := gd_of hF
      obtain ⟨x2, h1, hG, hF⟩ := bd_of hF
      refine RN.cv (i := 74) (k := 15) (q2 := iX1_holeFor) (as := [.inr (.inr u0), .inl (m_w32 (u6 + (m_w32 (v7 * u5))))]) (r := []) (v := some (.inl x2)) (h1 := h1) (by decide +kernel) rfl rfl rfl rfl rfl (rcv_ok hc.1) (CX1_holeFor (d := d) hG) ?_
      refine RN.blk (ops := [(80, .iload_n 3)]) (pc' := 81) (lv' := [(0, .inr (.inr u0)), (1, .inl u1), (2, .inl v2), (3, .inl u3), (4, .inl u4), (5, .inl u5), (6, .inl u6), (7, .inl v7)]) (st' := [.inl u3, .inl x2]) (h' := h1) (cs := []) (by decide +kernel) rfl trivial ?_
      rcases it_of hF with ⟨hb, hF⟩ | ⟨hb, hF⟩
      · refine RN.ict (cd := .eq) (off := 6) (tgt := 87) (by decide +kernel) (mif_eq hb) ?_
        refine RN.blk (ops := [(87, .iinc 7 1)]) (pc' := 90) (lv' := [(7, .inl (m_w32 (v7 + 1))), (0, .inr (.inr u0)), (1, .inl u1), (2, .inl v2), (3, .inl u3), (4, .inl u4), (5, .inl u5), (6, .inl u6)]) (st' := []) (h' := h1) (cs := []) (by decide +kernel) rfl trivial ?_
        refine RN.goto (off := -34) (tgt := 56) (by decide +kernel) ?_
        exact RN.sub (ih _ _ _ hF) (sub_cons rfl (sub_cons rfl (sub_cons rfl (sub_cons rfl (sub_cons rfl (sub_cons rfl (sub_cons rfl (sub_cons rfl sub_nil))))))))
      · refine RN.icf (cd := .eq) (off := 6) (tgt := 87) (by decide +kernel) (mif_eqn hb) ?_
        refine RN.blk (ops := [(84, .iinc 2 1)]) (pc' := 87) (lv' := [(2, .inl (m_w32 (v2 + 1))), (0, .inr (.inr u0)), (1, .inl u1), (3, .inl u3), (4, .inl u4), (5, .inl u5), (6, .inl u6), (7, .inl v7)]) (st' := []) (h' := h1) (cs := []) (by decide +kernel) rfl trivial ?_
        refine RN.blk (ops := [(87, .iinc 7 1)]) (pc' := 90) (lv' := [(7, .inl (m_w32 (v7 + 1))), (2, .inl (m_w32 (v2 + 1))), (0, .inr (.inr u0)), (1, .inl u1), (3, .inl u3), (4, .inl u4), (5, .inl u5), (6, .inl u6)]) (st' := []) (h' := h1) (cs := []) (by decide +kernel) rfl trivial ?_
        refine RN.goto (off := -34) (tgt := 56) (by decide +kernel) ?_
        exact RN.sub (ih _ _ _ hF) (sub_cons rfl (sub_cons rfl (sub_cons rfl (sub_cons rfl (sub_cons rfl (sub_cons rfl (sub_cons rfl (sub_cons rfl sub_nil))))))))
    · refine RN.ict (cd := .ge) (off := 28) (tgt := 93) (by decide +kernel) (mif_ge hb) ?_
      exact RN.sub (hK0 _ _ hF) (sub_cons rfl (sub_cons rfl (sub_cons rfl (sub_cons rfl (sub_cons rfl sub_nil)))))
noncomputable def FX1_slipsOf_L11 (u0 : Int) (u1 : Int) (u3 : Int) (K0 : Int → MH → Option (Int × MH)) : Nat → Int → Int → MH → Option (Int × MH)
  | 0, _, _, _ => none
  | f + 1, v2, v4, h =>
    gd [GK h u0 1, GK h (m_rd h u0 0) 8] (
     (if v4 < (m_rd h (m_rd h u0 0) 1) then
      gd [GK h u0 1] (
       gd [GK h (m_rd h u0 0) 8] (bd (FX8_spanOf (m_rd h u0 0) (m_w32 (v4 + 1)) h) (fun x2 h1 =>
        gd [GK h1 u0 1] (
         gd [GK h1 (m_rd h1 u0 0) 8] (bd (FX8_digitOf (m_rd h1 u0 0) u1 v4 h1) (fun x4 h3 =>
          FX1_slipsOf_L56 u0 u1 u3 v4 x2 (m_w32 (u1 - (m_w32 (x4 * x2)))) (fun w5 h6 =>
           FX1_slipsOf_L11 u0 u1 u3 K0 f w5 (m_w32 (v4 + 1)) h6) FU v2 0 h3))))))
     else
      K0 v2 h))
theorem CX1_slipsOf_L11 {d : Nat} {u0 : Int} {u1 : Int} {u3 : Int} {K0 : Int → MH → Option (Int × MH)} {r : Int × MH} (hK0 : ∀ (w2 : Int) (h : MH), K0 w2 h = some r → RN xs L iX1_slipsOf (d + 3) 99 [(2, .inl w2)] [] h (RIo r)) : ∀ (f : Nat) (v2 : Int) (v4 : Int) (h : MH), FX1_slipsOf_L11 u0 u1 u3 K0 f v2 v4 h = some r → RN xs L iX1_slipsOf (d + 3) 11 [(0, .inr (.inr u0)), (1, .inl u1), (2, .inl v2), (3, .inl u3), (4, .inl v4)] [] h (RIo r) := by
  intro f
  induction f with
  | zero =>
    intro v2 v4 h hF
    cases hF
  | succ f ih =>
    intro v2 v4 h hF
    unfold FX1_slipsOf_L11 at hF
    obtain ⟨hc, hF⟩ := gd_of hF
    refine RN.blk (ops := [(11, .iload 4), (13, .aload_n 0), (14, .getfield 12), (17, .getfield 42)]) (pc' := 20) (lv' := [(0, .inr (.inr u0)), (1, .inl u1), (2, .inl v2), (3, .inl u3), (4, .inl v4)]) (st' := [.inl (m_rd h (m_rd h u0 0) 1), .inl v4]) (h' := h) (cs := [GK h u0 1, GK h (m_rd h u0 0) 8]) (by decide +kernel) rfl hc ?_
    rcases it_of hF with ⟨hb, hF⟩ | ⟨hb, hF⟩
    · refine RN.icf (cd := .ge) (off := 79) (tgt := 99) (by decide +kernel) (mif_gen hb) ?_
      obtain ⟨hc, hF⟩ := gd_of hF
      refine RN.blk (ops := [(23, .aload_n 0), (24, .getfield 12), (27, .iload 4), (29, .iconst 1), (30, .iadd)]) (pc' := 31) (lv' := [(0, .inr (.inr u0)), (1, .inl u1), (2, .inl v2), (3, .inl u3), (4, .inl v4)]) (st' := [.inl (m_w32 (v4 + 1)), .inr (.inr (m_rd h u0 0))]) (h' := h) (cs := [GK h u0 1]) (by decide +kernel) rfl hc ?_
      obtain ⟨hc, hF⟩ := gd_of hF
      obtain ⟨x2, h1, hG, hF⟩ := bd_of hF
      refine RN.cv (i := 54) (k := 85) (q2 := iX8_spanOf) (as := [.inr (.inr (m_rd h u0 0)), .inl (m_w32 (v4 + 1))]) (r := []) (v := some (.inl x2)) (h1 := h1) (by decide +kernel) rfl rfl rfl rfl rfl (rcv_ok hc.1) (CX8_spanOf (d := d + 2) hG) ?_
      obtain ⟨hc, hF⟩ := gd_of hF
      refine RN.blk (ops := [(34, .istore 5), (36, .iload_n 1), (37, .aload_n 0), (38, .getfield 12), (41, .iload_n 1), (42, .iload 4)]) (pc' := 44) (lv' := [(5, .inl x2), (0, .inr (.inr u0)), (1, .inl u1), (2, .inl v2), (3, .inl u3), (4, .inl v4)]) (st' := [.inl v4, .inl u1, .inr (.inr (m_rd h1 u0 0)), .inl u1]) (h' := h1) (cs := [GK h1 u0 1]) (by decide +kernel) rfl hc ?_
      obtain ⟨hc, hF⟩ := gd_of hF
      obtain ⟨x4, h3, hG, hF⟩ := bd_of hF
      refine RN.cv (i := 80) (k := 87) (q2 := iX8_digitOf) (as := [.inr (.inr (m_rd h1 u0 0)), .inl u1, .inl v4]) (r := [.inl u1]) (v := some (.inl x4)) (h1 := h3) (by decide +kernel) rfl rfl rfl rfl rfl (rcv_ok hc.1) (CX8_digitOf (d := d + 1) hG) ?_
      refine RN.blk (ops := [(47, .iload 5), (49, .imul), (50, .isub), (51, .istore 6), (53, .iconst 0), (54, .istore 7)]) (pc' := 56) (lv' := [(7, .inl 0), (6, .inl (m_w32 (u1 - (m_w32 (x4 * x2))))), (5, .inl x2), (0, .inr (.inr u0)), (1, .inl u1), (2, .inl v2), (3, .inl u3), (4, .inl v4)]) (st' := []) (h' := h3) (cs := []) (by decide +kernel) rfl trivial ?_
      refine RN.sub (CX1_slipsOf_L56 ?_ _ _ _ _ hF) (sub_cons rfl (sub_cons rfl (sub_cons rfl (sub_cons rfl (sub_cons rfl (sub_cons rfl (sub_cons rfl (sub_cons rfl sub_nil))))))))
      · intro w5 h6 hF
        refine RN.blk (ops := [(93, .iinc 4 1)]) (pc' := 96) (lv' := [(4, .inl (m_w32 (v4 + 1))), (0, .inr (.inr u0)), (1, .inl u1), (2, .inl w5), (3, .inl u3)]) (st' := []) (h' := h6) (cs := []) (by decide +kernel) rfl trivial ?_
        refine RN.goto (off := -85) (tgt := 11) (by decide +kernel) ?_
        exact RN.sub (ih _ _ _ hF) (sub_cons rfl (sub_cons rfl (sub_cons rfl (sub_cons rfl (sub_cons rfl sub_nil)))))
    · refine RN.ict (cd := .ge) (off := 79) (tgt := 99) (by decide +kernel) (mif_ge hb) ?_
      exact RN.sub (hK0 _ _ hF) (sub_cons rfl sub_nil)
noncomputable def FX1_slipsOf (t : Int) (a1 : Int) (h : MH) : Option (Int × MH) :=
  gd [GK h t 1] (bd (FX1_holeFor t a1 h) (fun x2 h1 =>
   FX1_slipsOf_L11 t a1 x2 (fun w3 h4 =>
    some (w3, h4)) FU 0 0 h1))
theorem CX1_slipsOf {d : Nat} {t : Int} {a1 : Int} {h : MH} {r : Int × MH} (hF : FX1_slipsOf t a1 h = some r) : RN xs L iX1_slipsOf (d + 3) 0 (lvE 0 [.inr (.inr t), .inl a1]) [] h (RIo r) := by
  unfold FX1_slipsOf at hF
  refine RN.blk (ops := [(0, .iconst 0), (1, .istore_n 2), (2, .aload_n 0), (3, .iload_n 1)]) (pc' := 4) (lv' := [(2, .inl 0), (0, .inr (.inr t)), (1, .inl a1)]) (st' := [.inl a1, .inr (.inr t)]) (h' := h) (cs := []) (by decide +kernel) rfl trivial ?_
  obtain ⟨hc, hF⟩ := gd_of hF
  obtain ⟨x2, h1, hG, hF⟩ := bd_of hF
  refine RN.cv (i := 74) (k := 15) (q2 := iX1_holeFor) (as := [.inr (.inr t), .inl a1]) (r := []) (v := some (.inl x2)) (h1 := h1) (by decide +kernel) rfl rfl rfl rfl rfl (rcv_ok hc.1) (CX1_holeFor (d := d) hG) ?_
  refine RN.blk (ops := [(7, .istore_n 3), (8, .iconst 0), (9, .istore 4)]) (pc' := 11) (lv' := [(4, .inl 0), (3, .inl x2), (2, .inl 0), (0, .inr (.inr t)), (1, .inl a1)]) (st' := []) (h' := h1) (cs := []) (by decide +kernel) rfl trivial ?_
  refine RN.sub (CX1_slipsOf_L11 ?_ _ _ _ _ hF) (sub_cons rfl (sub_cons rfl (sub_cons rfl (sub_cons rfl (sub_cons rfl sub_nil)))))
  · intro w3 h4 hF
    refine RN.blk (ops := [(99, .iload_n 2)]) (pc' := 100) (lv' := [(2, .inl w3)]) (st' := [.inl w3]) (h' := h4) (cs := []) (by decide +kernel) rfl trivial ?_
    exact RN.iR (by decide +kernel) rfl hF
noncomputable def FX1_mostSlipping_L10 (u0 : Int) (K0 : Int → MH → Option (Int × MH)) : Nat → Int → Int → Int → MH → Option (Int × MH)
  | 0, _, _, _, _ => none
  | f + 1, v1, v2, v3, h =>
    gd [GK h u0 1, GK h (m_rd h u0 0) 8] (
     (if v3 < (m_rd h (m_rd h u0 0) 3) then
      gd [GK h u0 1] (bd (FX1_slipsOf u0 v3 h) (fun x2 h1 =>
       (if v2 < x2 then
        FX1_mostSlipping_L10 u0 K0 f v3 x2 (m_w32 (v3 + 1)) h1
       else
        FX1_mostSlipping_L10 u0 K0 f v1 v2 (m_w32 (v3 + 1)) h1)))
     else
      K0 v1 h))
theorem CX1_mostSlipping_L10 {d : Nat} {u0 : Int} {K0 : Int → MH → Option (Int × MH)} {r : Int × MH} (hK0 : ∀ (w1 : Int) (h : MH), K0 w1 h = some r → RN xs L iX1_mostSlipping (d + 4) 45 [(1, .inl w1)] [] h (RIo r)) : ∀ (f : Nat) (v1 : Int) (v2 : Int) (v3 : Int) (h : MH), FX1_mostSlipping_L10 u0 K0 f v1 v2 v3 h = some r → RN xs L iX1_mostSlipping (d + 4) 10 [(0, .inr (.inr u0)), (1, .inl v1), (2, .inl v2), (3, .inl v3)] [] h (RIo r) := by
  intro f
  induction f with
  | zero =>
    intro v1 v2 v3 h hF
    cases hF
  | succ f ih =>
    intro v1 v2 v3 h hF
    unfold FX1_mostSlipping_L10 at hF
    obtain ⟨hc, hF⟩ := gd_of hF
    refine RN.blk (ops := [(10, .iload_n 3), (11, .aload_n 0), (12, .getfield 12), (15, .getfield 38)]) (pc' := 18) (lv' := [(0, .inr (.inr u0)), (1, .inl v1), (2, .inl v2), (3, .inl v3)]) (st' := [.inl (m_rd h (m_rd h u0 0) 3), .inl v3]) (h' := h) (cs := [GK h u0 1, GK h (m_rd h u0 0) 8]) (by decide +kernel) rfl hc ?_
    rcases it_of hF with ⟨hb, hF⟩ | ⟨hb, hF⟩
    · refine RN.icf (cd := .ge) (off := 27) (tgt := 45) (by decide +kernel) (mif_gen hb) ?_
      refine RN.blk (ops := [(21, .aload_n 0), (22, .iload_n 3)]) (pc' := 23) (lv' := [(0, .inr (.inr u0)), (1, .inl v1), (2, .inl v2), (3, .inl v3)]) (st' := [.inl v3, .inr (.inr u0)]) (h' := h) (cs := []) (by decide +kernel) rfl trivial ?_
      obtain ⟨hc, hF⟩ := gd_of hF
      obtain ⟨x2, h1, hG, hF⟩ := bd_of hF
      refine RN.cv (i := 90) (k := 24) (q2 := iX1_slipsOf) (as := [.inr (.inr u0), .inl v3]) (r := []) (v := some (.inl x2)) (h1 := h1) (by decide +kernel) rfl rfl rfl rfl rfl (rcv_ok hc.1) (CX1_slipsOf (d := d) hG) ?_
      refine RN.blk (ops := [(26, .istore 4), (28, .iload 4), (30, .iload_n 2)]) (pc' := 31) (lv' := [(4, .inl x2), (0, .inr (.inr u0)), (1, .inl v1), (2, .inl v2), (3, .inl v3)]) (st' := [.inl v2, .inl x2]) (h' := h1) (cs := []) (by decide +kernel) rfl trivial ?_
      rcases it_of hF with ⟨hb, hF⟩ | ⟨hb, hF⟩
      · refine RN.icf (cd := .le) (off := 8) (tgt := 39) (by decide +kernel) (mif_len hb) ?_
        refine RN.blk (ops := [(34, .iload 4), (36, .istore_n 2), (37, .iload_n 3), (38, .istore_n 1)]) (pc' := 39) (lv' := [(1, .inl v3), (2, .inl x2), (4, .inl x2), (0, .inr (.inr u0)), (3, .inl v3)]) (st' := []) (h' := h1) (cs := []) (by decide +kernel) rfl trivial ?_
        refine RN.blk (ops := [(39, .iinc 3 1)]) (pc' := 42) (lv' := [(3, .inl (m_w32 (v3 + 1))), (1, .inl v3), (2, .inl x2), (4, .inl x2), (0, .inr (.inr u0))]) (st' := []) (h' := h1) (cs := []) (by decide +kernel) rfl trivial ?_
        refine RN.goto (off := -32) (tgt := 10) (by decide +kernel) ?_
        exact RN.sub (ih _ _ _ _ hF) (sub_cons rfl (sub_cons rfl (sub_cons rfl (sub_cons rfl sub_nil))))
      · refine RN.ict (cd := .le) (off := 8) (tgt := 39) (by decide +kernel) (mif_le hb) ?_
        refine RN.blk (ops := [(39, .iinc 3 1)]) (pc' := 42) (lv' := [(3, .inl (m_w32 (v3 + 1))), (4, .inl x2), (0, .inr (.inr u0)), (1, .inl v1), (2, .inl v2)]) (st' := []) (h' := h1) (cs := []) (by decide +kernel) rfl trivial ?_
        refine RN.goto (off := -32) (tgt := 10) (by decide +kernel) ?_
        exact RN.sub (ih _ _ _ _ hF) (sub_cons rfl (sub_cons rfl (sub_cons rfl (sub_cons rfl sub_nil))))
    · refine RN.ict (cd := .ge) (off := 27) (tgt := 45) (by decide +kernel) (mif_ge hb) ?_
      exact RN.sub (hK0 _ _ hF) (sub_cons rfl sub_nil)
noncomputable def FX1_mostSlipping (t : Int) (h : MH) : Option (Int × MH) :=
  gd [GK h t 1] (bd (FX1_slipsOf t 0 h) (fun x2 h1 =>
   FX1_mostSlipping_L10 t (fun w3 h4 =>
    some (w3, h4)) FU 0 x2 1 h1))
theorem CX1_mostSlipping {d : Nat} {t : Int} {h : MH} {r : Int × MH} (hF : FX1_mostSlipping t h = some r) : RN xs L iX1_mostSlipping (d + 4) 0 (lvE 0 [.inr (.inr t)]) [] h (RIo r) := by
  unfold FX1_mostSlipping at hF
  refine RN.blk (ops := [(0, .iconst 0), (1, .istore_n 1), (2, .aload_n 0), (3, .iconst 0)]) (pc' := 4) (lv' := [(1, .inl 0), (0, .inr (.inr t))]) (st' := [.inl 0, .inr (.inr t)]) (h' := h) (cs := []) (by decide +kernel) rfl trivial ?_
  obtain ⟨hc, hF⟩ := gd_of hF
  obtain ⟨x2, h1, hG, hF⟩ := bd_of hF
  refine RN.cv (i := 90) (k := 24) (q2 := iX1_slipsOf) (as := [.inr (.inr t), .inl 0]) (r := []) (v := some (.inl x2)) (h1 := h1) (by decide +kernel) rfl rfl rfl rfl rfl (rcv_ok hc.1) (CX1_slipsOf (d := d) hG) ?_
  refine RN.blk (ops := [(7, .istore_n 2), (8, .iconst 1), (9, .istore_n 3)]) (pc' := 10) (lv' := [(3, .inl 1), (2, .inl x2), (1, .inl 0), (0, .inr (.inr t))]) (st' := []) (h' := h1) (cs := []) (by decide +kernel) rfl trivial ?_
  refine RN.sub (CX1_mostSlipping_L10 ?_ _ _ _ _ _ hF) (sub_cons rfl (sub_cons rfl (sub_cons rfl (sub_cons rfl sub_nil))))
  · intro w3 h4 hF
    refine RN.blk (ops := [(45, .iload_n 1)]) (pc' := 46) (lv' := [(1, .inl w3)]) (st' := [.inl w3]) (h' := h4) (cs := []) (by decide +kernel) rfl trivial ?_
    exact RN.iR (by decide +kernel) rfl hF
end Dc
