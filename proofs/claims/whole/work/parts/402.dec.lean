/-! METHODS AS FUNCTIONS, and their certificates (by program): X1_idleEntries, X1_joinCosts, X1_fewestEntries, X4_copyFrom, X10_copyFrom, X8_copyFrom, X2_take, X2_copyFrom, X2_addNote, X2_lastNotedTurn, X2_notesHold, X10_clear, X4_put -/
section Dc
variable {xs : Int → Int} {L : Int}
noncomputable def FX1_idleEntries_L14 (u0 : Int) (K0 : Int → MH → Option (Int × MH)) : Nat → Int → Int → MH → Option (Int × MH)
  | 0, _, _, _ => none
  | f + 1, v1, v2, h =>
    gd [GK h u0 1, GK h (m_rd h u0 0) 8] (
     (if v2 < (m_rd h (m_rd h u0 0) 3) then
      gd [GK h u0 1] (bd (FX1_entryFor u0 v2 h) (fun x2 h1 =>
       (if x2 = (-1) then
        FX1_idleEntries_L14 u0 K0 f v1 (m_w32 (v2 + 1)) h1
       else
        FX1_idleEntries_L14 u0 K0 f (m_band v1 (m_bxor (m_shl 1 x2) (-1))) (m_w32 (v2 + 1)) h1)))
     else
      K0 v1 h))
theorem CX1_idleEntries_L14 {d : Nat} {u0 : Int} {K0 : Int → MH → Option (Int × MH)} {r : Int × MH} (hK0 : ∀ (w1 : Int) (h : MH), K0 w1 h = some r → RN xs L iX1_idleEntries (d + 2) 50 [(1, .inl w1)] [] h (RIo r)) : ∀ (f : Nat) (v1 : Int) (v2 : Int) (h : MH), FX1_idleEntries_L14 u0 K0 f v1 v2 h = some r → RN xs L iX1_idleEntries (d + 2) 14 [(0, .inr (.inr u0)), (1, .inl v1), (2, .inl v2)] [] h (RIo r) := by
  intro f
  induction f with
  | zero =>
    intro v1 v2 h hF
    cases hF
  | succ f ih =>
    intro v1 v2 h hF
    unfold FX1_idleEntries_L14 at hF
    obtain ⟨hc, hF⟩ := gd_of hF
    refine RN.blk (ops := [(14, .iload_n 2), (15, .aload_n 0), (16, .getfield 12), (19, .getfield 38)]) (pc' := 22) (lv' := [(0, .inr (.inr u0)), (1, .inl v1), (2, .inl v2)]) (st' := [.inl (m_rd h (m_rd h u0 0) 3), .inl v2]) (h' := h) (cs := [GK h u0 1, GK h (m_rd h u0 0) 8]) (by decide +kernel) rfl hc ?_
    rcases it_of hF with ⟨hb, hF⟩ | ⟨hb, hF⟩
    · refine RN.icf (cd := .ge) (off := 28) (tgt := 50) (by decide +kernel) (mif_gen hb) ?_
      refine RN.blk (ops := [(25, .aload_n 0), (26, .iload_n 2)]) (pc' := 27) (lv' := [(0, .inr (.inr u0)), (1, .inl v1), (2, .inl v2)]) (st' := [.inl v2, .inr (.inr u0)]) (h' := h) (cs := []) (by decide +kernel) rfl trivial ?_
      obtain ⟨hc, hF⟩ := gd_of hF
      obtain ⟨x2, h1, hG, hF⟩ := bd_of hF
      refine RN.cv (i := 68) (k := 14) (q2 := iX1_entryFor) (as := [.inr (.inr u0), .inl v2]) (r := []) (v := some (.inl x2)) (h1 := h1) (by decide +kernel) rfl rfl rfl rfl rfl (rcv_ok hc.1) (CX1_entryFor (d := d) hG) ?_
      refine RN.blk (ops := [(30, .istore_n 3), (31, .iload_n 3), (32, .iconst (-1))]) (pc' := 33) (lv' := [(3, .inl x2), (0, .inr (.inr u0)), (1, .inl v1), (2, .inl v2)]) (st' := [.inl (-1), .inl x2]) (h' := h1) (cs := []) (by decide +kernel) rfl trivial ?_
      rcases it_of hF with ⟨hb, hF⟩ | ⟨hb, hF⟩
      · refine RN.ict (cd := .eq) (off := 11) (tgt := 44) (by decide +kernel) (mif_eq hb) ?_
        refine RN.blk (ops := [(44, .iinc 2 1)]) (pc' := 47) (lv' := [(2, .inl (m_w32 (v2 + 1))), (3, .inl x2), (0, .inr (.inr u0)), (1, .inl v1)]) (st' := []) (h' := h1) (cs := []) (by decide +kernel) rfl trivial ?_
        refine RN.goto (off := -33) (tgt := 14) (by decide +kernel) ?_
        exact RN.sub (ih _ _ _ hF) (sub_cons rfl (sub_cons rfl (sub_cons rfl sub_nil)))
      · refine RN.icf (cd := .eq) (off := 11) (tgt := 44) (by decide +kernel) (mif_eqn hb) ?_
        refine RN.blk (ops := [(36, .iload_n 1), (37, .iconst 1), (38, .iload_n 3), (39, .ishl), (40, .iconst (-1)), (41, .ixor), (42, .iand), (43, .istore_n 1)]) (pc' := 44) (lv' := [(1, .inl (m_band v1 (m_bxor (m_shl 1 x2) (-1)))), (3, .inl x2), (0, .inr (.inr u0)), (2, .inl v2)]) (st' := []) (h' := h1) (cs := []) (by decide +kernel) rfl trivial ?_
        refine RN.blk (ops := [(44, .iinc 2 1)]) (pc' := 47) (lv' := [(2, .inl (m_w32 (v2 + 1))), (1, .inl (m_band v1 (m_bxor (m_shl 1 x2) (-1)))), (3, .inl x2), (0, .inr (.inr u0))]) (st' := []) (h' := h1) (cs := []) (by decide +kernel) rfl trivial ?_
        refine RN.goto (off := -33) (tgt := 14) (by decide +kernel) ?_
        exact RN.sub (ih _ _ _ hF) (sub_cons rfl (sub_cons rfl (sub_cons rfl sub_nil)))
    · refine RN.ict (cd := .ge) (off := 28) (tgt := 50) (by decide +kernel) (mif_ge hb) ?_
      exact RN.sub (hK0 _ _ hF) (sub_cons rfl sub_nil)
noncomputable def FX1_idleEntries (t : Int) (h : MH) : Option (Int × MH) :=
  gd [GK h t 1, GK h (m_rd h t 1) 4] (
   FX1_idleEntries_L14 t (fun w1 h2 =>
    some (w1, h2)) FU (m_w32 ((m_shl 1 (m_rd h (m_rd h t 1) 0)) - 1)) 0 h)
theorem CX1_idleEntries {d : Nat} {t : Int} {h : MH} {r : Int × MH} (hF : FX1_idleEntries t h = some r) : RN xs L iX1_idleEntries (d + 2) 0 (lvE 0 [.inr (.inr t)]) [] h (RIo r) := by
  unfold FX1_idleEntries at hF
  obtain ⟨hc, hF⟩ := gd_of hF
  refine RN.blk (ops := [(0, .iconst 1), (1, .aload_n 0), (2, .getfield 21), (5, .getfield 45), (8, .ishl), (9, .iconst 1), (10, .isub), (11, .istore_n 1), (12, .iconst 0), (13, .istore_n 2)]) (pc' := 14) (lv' := [(2, .inl 0), (1, .inl (m_w32 ((m_shl 1 (m_rd h (m_rd h t 1) 0)) - 1))), (0, .inr (.inr t))]) (st' := []) (h' := h) (cs := [GK h t 1, GK h (m_rd h t 1) 4]) (by decide +kernel) rfl hc ?_
  refine RN.sub (CX1_idleEntries_L14 ?_ _ _ _ _ hF) (sub_cons rfl (sub_cons rfl (sub_cons rfl sub_nil)))
  · intro w1 h2 hF
    refine RN.blk (ops := [(50, .iload_n 1)]) (pc' := 51) (lv' := [(1, .inl w1)]) (st' := [.inl w1]) (h' := h2) (cs := []) (by decide +kernel) rfl trivial ?_
    exact RN.iR (by decide +kernel) rfl hF
noncomputable def FX1_joinCosts_L22 (u0 : Int) (u1 : Int) (u2 : Int) (u3 : Int) (u4 : Int) (K0 : Int → MH → Option (MH)) : Nat → Int → Int → MH → Option (MH)
  | 0, _, _, _ => none
  | f + 1, v5, v6, h =>
    gd [GK h u0 1, GK h (m_rd h u0 0) 8] (
     (if v6 < (m_rd h (m_rd h u0 0) 0) then
      gd [GK h u0 1, GK h u0 1, GK h (m_rd h u0 0) 8, GI h (m_rd h u0 4) 1 (m_w32 ((m_w32 ((m_w32 ((m_w32 (u1 * (m_rd h (m_rd h u0 0) 0))) + v6)) * u2)) + u4))] (
       FX1_joinCosts_L22 u0 u1 u2 u3 u4 K0 f (m_w32 (v5 + (m_rd h (m_rd h u0 4) (m_w32 ((m_w32 ((m_w32 ((m_w32 (u1 * (m_rd h (m_rd h u0 0) 0))) + v6)) * u2)) + u4))))) (m_w32 (v6 + 1)) h)
     else
      K0 v5 h))
theorem CX1_joinCosts_L22 {d : Nat} {u0 : Int} {u1 : Int} {u2 : Int} {u3 : Int} {u4 : Int} {K0 : Int → MH → Option (MH)} {r : MH} (hK0 : ∀ (w5 : Int) (h : MH), K0 w5 h = some r → RN xs L iX1_joinCosts (d + 1) 67 [(0, .inr (.inr u0)), (1, .inl u1), (2, .inl u2), (3, .inl u3), (4, .inl u4), (5, .inl w5)] [] h (RVo r)) : ∀ (f : Nat) (v5 : Int) (v6 : Int) (h : MH), FX1_joinCosts_L22 u0 u1 u2 u3 u4 K0 f v5 v6 h = some r → RN xs L iX1_joinCosts (d + 1) 22 [(0, .inr (.inr u0)), (1, .inl u1), (2, .inl u2), (3, .inl u3), (4, .inl u4), (5, .inl v5), (6, .inl v6)] [] h (RVo r) := by
  intro f
  induction f with
  | zero =>
    intro v5 v6 h hF
    cases hF
  | succ f ih =>
    intro v5 v6 h hF
    unfold FX1_joinCosts_L22 at hF
    obtain ⟨hc, hF⟩ := gd_of hF
    refine RN.blk (ops := [(22, .iload 6), (24, .aload_n 0), (25, .getfield 12), (28, .getfield 77)]) (pc' := 31) (lv' := [(0, .inr (.inr u0)), (1, .inl u1), (2, .inl u2), (3, .inl u3), (4, .inl u4), (5, .inl v5), (6, .inl v6)]) (st' := [.inl (m_rd h (m_rd h u0 0) 0), .inl v6]) (h' := h) (cs := [GK h u0 1, GK h (m_rd h u0 0) 8]) (by decide +kernel) rfl hc ?_
    rcases it_of hF with ⟨hb, hF⟩ | ⟨hb, hF⟩
    · refine RN.icf (cd := .ge) (off := 36) (tgt := 67) (by decide +kernel) (mif_gen hb) ?_
      obtain ⟨hc, hF⟩ := gd_of hF
      refine RN.blk (ops := [(34, .iload 5), (36, .aload_n 0), (37, .getfield 32), (40, .iload_n 1), (41, .aload_n 0), (42, .getfield 12), (45, .getfield 77), (48, .imul), (49, .iload 6), (51, .iadd), (52, .iload_n 2), (53, .imul), (54, .iload 4), (56, .iadd), (57, .iaload), (58, .iadd), (59, .istore 5), (61, .iinc 6 1)]) (pc' := 64) (lv' := [(6, .inl (m_w32 (v6 + 1))), (5, .inl (m_w32 (v5 + (m_rd h (m_rd h u0 4) (m_w32 ((m_w32 ((m_w32 ((m_w32 (u1 * (m_rd h (m_rd h u0 0) 0))) + v6)) * u2)) + u4)))))), (0, .inr (.inr u0)), (1, .inl u1), (2, .inl u2), (3, .inl u3), (4, .inl u4)]) (st' := []) (h' := h) (cs := [GK h u0 1, GK h u0 1, GK h (m_rd h u0 0) 8, GI h (m_rd h u0 4) 1 (m_w32 ((m_w32 ((m_w32 ((m_w32 (u1 * (m_rd h (m_rd h u0 0) 0))) + v6)) * u2)) + u4))]) (by decide +kernel) rfl hc ?_
      refine RN.goto (off := -42) (tgt := 22) (by decide +kernel) ?_
      exact RN.sub (ih _ _ _ hF) (sub_cons rfl (sub_cons rfl (sub_cons rfl (sub_cons rfl (sub_cons rfl (sub_cons rfl (sub_cons rfl sub_nil)))))))
    · refine RN.ict (cd := .ge) (off := 36) (tgt := 67) (by decide +kernel) (mif_ge hb) ?_
      exact RN.sub (hK0 _ _ hF) (sub_cons rfl (sub_cons rfl (sub_cons rfl (sub_cons rfl (sub_cons rfl (sub_cons rfl sub_nil))))))
noncomputable def FX1_joinCosts_L10 (u0 : Int) (u1 : Int) (u2 : Int) (K0 : Int → MH → Option (MH)) : Nat → Int → Int → MH → Option (MH)
  | 0, _, _, _ => none
  | f + 1, v3, v4, h =>
    (if v4 < u2 then
     FX1_joinCosts_L22 u0 u1 u2 v3 v4 (fun w1 h2 =>
      gd [GK h2 u0 1] (
       gd [GI h2 (m_rd h2 u0 5) 1 v4, GK h2 u0 1, GK h2 (m_rd (m_wr h2 (m_rd h2 u0 5) v4 (m_mn w1 10000)) u0 0) 8] (
        (if v4 < (m_rd (m_wr h2 (m_rd h2 u0 5) v4 (m_mn w1 10000)) (m_rd (m_wr h2 (m_rd h2 u0 5) v4 (m_mn w1 10000)) u0 0) 2) then
         gd [GK h2 u0 1, GI h2 (m_rd (m_wr h2 (m_rd h2 u0 5) v4 (m_mn w1 10000)) u0 5) 1 v4] (
          FX1_joinCosts_L10 u0 u1 u2 K0 f (m_mn v3 (m_rd (m_wr h2 (m_rd h2 u0 5) v4 (m_mn w1 10000)) (m_rd (m_wr h2 (m_rd h2 u0 5) v4 (m_mn w1 10000)) u0 5) v4)) (m_w32 (v4 + 1)) (m_wr h2 (m_rd h2 u0 5) v4 (m_mn w1 10000)))
        else
         FX1_joinCosts_L10 u0 u1 u2 K0 f v3 (m_w32 (v4 + 1)) (m_wr h2 (m_rd h2 u0 5) v4 (m_mn w1 10000)))))) FU 0 0 h
    else
     K0 v3 h)
theorem CX1_joinCosts_L10 {d : Nat} {u0 : Int} {u1 : Int} {u2 : Int} {K0 : Int → MH → Option (MH)} {r : MH} (hK0 : ∀ (w3 : Int) (h : MH), K0 w3 h = some r → RN xs L iX1_joinCosts (d + 1) 112 [(0, .inr (.inr u0)), (1, .inl u1), (2, .inl u2), (3, .inl w3)] [] h (RVo r)) : ∀ (f : Nat) (v3 : Int) (v4 : Int) (h : MH), FX1_joinCosts_L10 u0 u1 u2 K0 f v3 v4 h = some r → RN xs L iX1_joinCosts (d + 1) 10 [(0, .inr (.inr u0)), (1, .inl u1), (2, .inl u2), (3, .inl v3), (4, .inl v4)] [] h (RVo r) := by
  intro f
  induction f with
  | zero =>
    intro v3 v4 h hF
    cases hF
  | succ f ih =>
    intro v3 v4 h hF
    unfold FX1_joinCosts_L10 at hF
    refine RN.blk (ops := [(10, .iload 4), (12, .iload_n 2)]) (pc' := 13) (lv' := [(0, .inr (.inr u0)), (1, .inl u1), (2, .inl u2), (3, .inl v3), (4, .inl v4)]) (st' := [.inl u2, .inl v4]) (h' := h) (cs := []) (by decide +kernel) rfl trivial ?_
    rcases it_of hF with ⟨hb, hF⟩ | ⟨hb, hF⟩
    · refine RN.icf (cd := .ge) (off := 99) (tgt := 112) (by decide +kernel) (mif_gen hb) ?_
      refine RN.blk (ops := [(16, .iconst 0), (17, .istore 5), (19, .iconst 0), (20, .istore 6)]) (pc' := 22) (lv' := [(6, .inl 0), (5, .inl 0), (0, .inr (.inr u0)), (1, .inl u1), (2, .inl u2), (3, .inl v3), (4, .inl v4)]) (st' := []) (h' := h) (cs := []) (by decide +kernel) rfl trivial ?_
      refine RN.sub (CX1_joinCosts_L22 ?_ _ _ _ _ hF) (sub_cons rfl (sub_cons rfl (sub_cons rfl (sub_cons rfl (sub_cons rfl (sub_cons rfl (sub_cons rfl sub_nil)))))))
      · intro w1 h2 hF
        obtain ⟨hc, hF⟩ := gd_of hF
        refine RN.blk (ops := [(67, .aload_n 0), (68, .getfield 35), (71, .iload 4), (73, .iload 5), (75, .sipush 10000)]) (pc' := 78) (lv' := [(0, .inr (.inr u0)), (1, .inl u1), (2, .inl u2), (3, .inl v3), (4, .inl v4), (5, .inl w1)]) (st' := [.inl 10000, .inl w1, .inl v4, .inr (.inr (m_rd h2 u0 5))]) (h' := h2) (cs := [GK h2 u0 1]) (by decide +kernel) rfl hc ?_
        refine RN.mn (i := 99) (by decide +kernel) rfl rfl ?_
        obtain ⟨hc, hF⟩ := gd_of hF
        refine RN.blk (ops := [(81, .iastore), (82, .iload 4), (84, .aload_n 0), (85, .getfield 12), (88, .getfield 104)]) (pc' := 91) (lv' := [(0, .inr (.inr u0)), (1, .inl u1), (2, .inl u2), (3, .inl v3), (4, .inl v4), (5, .inl w1)]) (st' := [.inl (m_rd (m_wr h2 (m_rd h2 u0 5) v4 (m_mn w1 10000)) (m_rd (m_wr h2 (m_rd h2 u0 5) v4 (m_mn w1 10000)) u0 0) 2), .inl v4]) (h' := (m_wr h2 (m_rd h2 u0 5) v4 (m_mn w1 10000))) (cs := [GI h2 (m_rd h2 u0 5) 1 v4, GK h2 u0 1, GK h2 (m_rd (m_wr h2 (m_rd h2 u0 5) v4 (m_mn w1 10000)) u0 0) 8]) (by decide +kernel) rfl hc ?_
        rcases it_of hF with ⟨hb, hF⟩ | ⟨hb, hF⟩
        · refine RN.icf (cd := .ge) (off := 15) (tgt := 106) (by decide +kernel) (mif_gen hb) ?_
          obtain ⟨hc, hF⟩ := gd_of hF
          refine RN.blk (ops := [(94, .iload_n 3), (95, .aload_n 0), (96, .getfield 35), (99, .iload 4), (101, .iaload)]) (pc' := 102) (lv' := [(0, .inr (.inr u0)), (1, .inl u1), (2, .inl u2), (3, .inl v3), (4, .inl v4), (5, .inl w1)]) (st' := [.inl (m_rd (m_wr h2 (m_rd h2 u0 5) v4 (m_mn w1 10000)) (m_rd (m_wr h2 (m_rd h2 u0 5) v4 (m_mn w1 10000)) u0 5) v4), .inl v3]) (h' := (m_wr h2 (m_rd h2 u0 5) v4 (m_mn w1 10000))) (cs := [GK h2 u0 1, GI h2 (m_rd (m_wr h2 (m_rd h2 u0 5) v4 (m_mn w1 10000)) u0 5) 1 v4]) (by decide +kernel) rfl hc ?_
          refine RN.mn (i := 99) (by decide +kernel) rfl rfl ?_
          refine RN.blk (ops := [(105, .istore_n 3)]) (pc' := 106) (lv' := [(3, .inl (m_mn v3 (m_rd (m_wr h2 (m_rd h2 u0 5) v4 (m_mn w1 10000)) (m_rd (m_wr h2 (m_rd h2 u0 5) v4 (m_mn w1 10000)) u0 5) v4))), (0, .inr (.inr u0)), (1, .inl u1), (2, .inl u2), (4, .inl v4), (5, .inl w1)]) (st' := []) (h' := (m_wr h2 (m_rd h2 u0 5) v4 (m_mn w1 10000))) (cs := []) (by decide +kernel) rfl trivial ?_
          refine RN.blk (ops := [(106, .iinc 4 1)]) (pc' := 109) (lv' := [(4, .inl (m_w32 (v4 + 1))), (3, .inl (m_mn v3 (m_rd (m_wr h2 (m_rd h2 u0 5) v4 (m_mn w1 10000)) (m_rd (m_wr h2 (m_rd h2 u0 5) v4 (m_mn w1 10000)) u0 5) v4))), (0, .inr (.inr u0)), (1, .inl u1), (2, .inl u2), (5, .inl w1)]) (st' := []) (h' := (m_wr h2 (m_rd h2 u0 5) v4 (m_mn w1 10000))) (cs := []) (by decide +kernel) rfl trivial ?_
          refine RN.goto (off := -99) (tgt := 10) (by decide +kernel) ?_
          exact RN.sub (ih _ _ _ hF) (sub_cons rfl (sub_cons rfl (sub_cons rfl (sub_cons rfl (sub_cons rfl sub_nil)))))
        · refine RN.ict (cd := .ge) (off := 15) (tgt := 106) (by decide +kernel) (mif_ge hb) ?_
          refine RN.blk (ops := [(106, .iinc 4 1)]) (pc' := 109) (lv' := [(4, .inl (m_w32 (v4 + 1))), (0, .inr (.inr u0)), (1, .inl u1), (2, .inl u2), (3, .inl v3), (5, .inl w1)]) (st' := []) (h' := (m_wr h2 (m_rd h2 u0 5) v4 (m_mn w1 10000))) (cs := []) (by decide +kernel) rfl trivial ?_
          refine RN.goto (off := -99) (tgt := 10) (by decide +kernel) ?_
          exact RN.sub (ih _ _ _ hF) (sub_cons rfl (sub_cons rfl (sub_cons rfl (sub_cons rfl (sub_cons rfl sub_nil)))))
    · refine RN.ict (cd := .ge) (off := 99) (tgt := 112) (by decide +kernel) (mif_ge hb) ?_
      exact RN.sub (hK0 _ _ hF) (sub_cons rfl (sub_cons rfl (sub_cons rfl (sub_cons rfl sub_nil))))
noncomputable def FX1_joinCosts_L115 (u0 : Int) (u1 : Int) (u2 : Int) (u3 : Int) (K0 : MH → Option (MH)) : Nat → Int → MH → Option (MH)
  | 0, _, _ => none
  | f + 1, v4, h =>
    (if v4 < u2 then
     gd [GK h u0 1, GK h u0 1, GI h (m_rd h u0 5) 1 v4] (
      gd [GI h (m_rd h u0 4) 1 (m_w32 ((m_w32 (u1 * u2)) + v4))] (
       hl (m_wr h (m_rd h u0 4) (m_w32 ((m_w32 (u1 * u2)) + v4)) (m_mn (m_rd h (m_rd h u0 5) v4) (m_mn (m_w32 (u3 + 1)) 10000))) (fun h1 =>
        FX1_joinCosts_L115 u0 u1 u2 u3 K0 f (m_w32 (v4 + 1)) h1)))
    else
     K0 h)
theorem CX1_joinCosts_L115 {d : Nat} {u0 : Int} {u1 : Int} {u2 : Int} {u3 : Int} {K0 : MH → Option (MH)} {r : MH} (hK0 : ∀ (h : MH), K0 h = some r → RN xs L iX1_joinCosts (d + 1) 157 [] [] h (RVo r)) : ∀ (f : Nat) (v4 : Int) (h : MH), FX1_joinCosts_L115 u0 u1 u2 u3 K0 f v4 h = some r → RN xs L iX1_joinCosts (d + 1) 115 [(0, .inr (.inr u0)), (1, .inl u1), (2, .inl u2), (3, .inl u3), (4, .inl v4)] [] h (RVo r) := by
  intro f
  induction f with
  | zero =>
    intro v4 h hF
    cases hF
  | succ f ih =>
    intro v4 h hF
    unfold FX1_joinCosts_L115 at hF
    refine RN.blk (ops := [(115, .iload 4), (117, .iload_n 2)]) (pc' := 118) (lv' := [(0, .inr (.inr u0)), (1, .inl u1), (2, .inl u2), (3, .inl u3), (4, .inl v4)]) (st' := [.inl u2, .inl v4]) (h' := h) (cs := []) (by decide +kernel) rfl trivial ?_
    rcases it_of hF with ⟨hb, hF⟩ | ⟨hb, hF⟩
    · refine RN.icf (cd := .ge) (off := 39) (tgt := 157) (by decide +kernel) (mif_gen hb) ?_
      obtain ⟨hc, hF⟩ := gd_of hF
      refine RN.blk (ops := [(121, .aload_n 0), (122, .getfield 32), (125, .iload_n 1), (126, .iload_n 2), (127, .imul), (128, .iload 4), (130, .iadd), (131, .aload_n 0), (132, .getfield 35), (135, .iload 4), (137, .iaload), (138, .iload_n 3), (139, .iconst 1), (140, .iadd), (141, .sipush 10000)]) (pc' := 144) (lv' := [(0, .inr (.inr u0)), (1, .inl u1), (2, .inl u2), (3, .inl u3), (4, .inl v4)]) (st' := [.inl 10000, .inl (m_w32 (u3 + 1)), .inl (m_rd h (m_rd h u0 5) v4), .inl (m_w32 ((m_w32 (u1 * u2)) + v4)), .inr (.inr (m_rd h u0 4))]) (h' := h) (cs := [GK h u0 1, GK h u0 1, GI h (m_rd h u0 5) 1 v4]) (by decide +kernel) rfl hc ?_
      refine RN.mn (i := 99) (by decide +kernel) rfl rfl ?_
      refine RN.mn (i := 99) (by decide +kernel) rfl rfl ?_
      obtain ⟨hc, hF⟩ := gd_of hF
      refine RN.blk (ops := [(150, .iastore)]) (pc' := 151) (lv' := [(0, .inr (.inr u0)), (1, .inl u1), (2, .inl u2), (3, .inl u3), (4, .inl v4)]) (st' := []) (h' := (m_wr h (m_rd h u0 4) (m_w32 ((m_w32 (u1 * u2)) + v4)) (m_mn (m_rd h (m_rd h u0 5) v4) (m_mn (m_w32 (u3 + 1)) 10000)))) (cs := [GI h (m_rd h u0 4) 1 (m_w32 ((m_w32 (u1 * u2)) + v4))]) (by decide +kernel) rfl hc ?_
      obtain ⟨h1, he, hF⟩ := hl_of hF
      refine RN.hl he ?_
      refine RN.blk (ops := [(151, .iinc 4 1)]) (pc' := 154) (lv' := [(4, .inl (m_w32 (v4 + 1))), (0, .inr (.inr u0)), (1, .inl u1), (2, .inl u2), (3, .inl u3)]) (st' := []) (h' := h1) (cs := []) (by decide +kernel) rfl trivial ?_
      refine RN.goto (off := -39) (tgt := 115) (by decide +kernel) ?_
      exact RN.sub (ih _ _ hF) (sub_cons rfl (sub_cons rfl (sub_cons rfl (sub_cons rfl (sub_cons rfl sub_nil)))))
    · refine RN.ict (cd := .ge) (off := 39) (tgt := 157) (by decide +kernel) (mif_ge hb) ?_
      exact RN.sub (hK0 _ hF) sub_nil
noncomputable def FX1_joinCosts (t : Int) (a1 : Int) (h : MH) : Option (MH) :=
  FX1_joinCosts_L10 t a1 7 (fun w1 h2 =>
   FX1_joinCosts_L115 t a1 7 w1 (fun h3 =>
    some h3) FU 0 h2) FU 10000 0 h
theorem CX1_joinCosts {d : Nat} {t : Int} {a1 : Int} {h : MH} {r : MH} (hF : FX1_joinCosts t a1 h = some r) : RN xs L iX1_joinCosts (d + 1) 0 (lvE 0 [.inr (.inr t), .inl a1]) [] h (RVo r) := by
  unfold FX1_joinCosts at hF
  refine RN.blk (ops := [(0, .bipush 7), (2, .istore_n 2), (3, .sipush 10000), (6, .istore_n 3), (7, .iconst 0), (8, .istore 4)]) (pc' := 10) (lv' := [(4, .inl 0), (3, .inl 10000), (2, .inl 7), (0, .inr (.inr t)), (1, .inl a1)]) (st' := []) (h' := h) (cs := []) (by decide +kernel) rfl trivial ?_
  refine RN.sub (CX1_joinCosts_L10 ?_ _ _ _ _ hF) (sub_cons rfl (sub_cons rfl (sub_cons rfl (sub_cons rfl (sub_cons rfl sub_nil)))))
  · intro w1 h2 hF
    refine RN.blk (ops := [(112, .iconst 0), (113, .istore 4)]) (pc' := 115) (lv' := [(4, .inl 0), (0, .inr (.inr t)), (1, .inl a1), (2, .inl 7), (3, .inl w1)]) (st' := []) (h' := h2) (cs := []) (by decide +kernel) rfl trivial ?_
    refine RN.sub (CX1_joinCosts_L115 ?_ _ _ _ hF) (sub_cons rfl (sub_cons rfl (sub_cons rfl (sub_cons rfl (sub_cons rfl sub_nil)))))
    · intro h3 hF
      exact RN.vR (by decide +kernel) rfl hF
noncomputable def FX1_fewestEntries_L32 (u0 : Int) (u1 : Int) (u2 : Int) (u3 : Int) (K0 : MH → Option (Int × MH)) : Nat → Int → MH → Option (Int × MH)
  | 0, _, _ => none
  | f + 1, v4, h =>
    (if v4 < u1 then
     jn (fun (s2 : Int) =>
      jn (fun (s4 : Int) =>
       gd [GK h u0 1] (
        (if s4 = 0 then
         (if u3 = (-1) then
          gd [GI h (m_rd h u0 4) 1 (m_w32 ((m_w32 (u2 * u1)) + v4))] (
           FX1_fewestEntries_L32 u0 u1 u2 u3 K0 f (m_w32 (v4 + 1)) (m_wr h (m_rd h u0 4) (m_w32 ((m_w32 (u2 * u1)) + v4)) 10000))
         else
          gd [GI h (m_rd h u0 4) 1 (m_w32 ((m_w32 (u2 * u1)) + v4))] (
           FX1_fewestEntries_L32 u0 u1 u2 u3 K0 f (m_w32 (v4 + 1)) (m_wr h (m_rd h u0 4) (m_w32 ((m_w32 (u2 * u1)) + v4)) 1)))
        else
         gd [GI h (m_rd h u0 4) 1 (m_w32 ((m_w32 (u2 * u1)) + v4))] (
          FX1_fewestEntries_L32 u0 u1 u2 u3 K0 f (m_w32 (v4 + 1)) (m_wr h (m_rd h u0 4) (m_w32 ((m_w32 (u2 * u1)) + v4)) 0))))) (fun j3 =>
       (if u3 = s2 then
        j3 1
       else
        j3 0))) (fun j1 =>
      (if v4 = 6 then
       j1 (-1)
      else
       j1 v4))
    else
     K0 h)
theorem CX1_fewestEntries_L32 {d : Nat} {u0 : Int} {u1 : Int} {u2 : Int} {u3 : Int} {K0 : MH → Option (Int × MH)} {r : Int × MH} (hK0 : ∀ (h : MH), K0 h = some r → RN xs L iX1_fewestEntries (d + 3) 100 [(0, .inr (.inr u0)), (1, .inl u1), (2, .inl u2)] [] h (RIo r)) : ∀ (f : Nat) (v4 : Int) (h : MH), FX1_fewestEntries_L32 u0 u1 u2 u3 K0 f v4 h = some r → RN xs L iX1_fewestEntries (d + 3) 32 [(0, .inr (.inr u0)), (1, .inl u1), (2, .inl u2), (3, .inl u3), (4, .inl v4)] [] h (RIo r) := by
  intro f
  induction f with
  | zero =>
    intro v4 h hF
    cases hF
  | succ f ih =>
    intro v4 h hF
    unfold FX1_fewestEntries_L32 at hF
    refine RN.blk (ops := [(32, .iload 4), (34, .iload_n 1)]) (pc' := 35) (lv' := [(0, .inr (.inr u0)), (1, .inl u1), (2, .inl u2), (3, .inl u3), (4, .inl v4)]) (st' := [.inl u1, .inl v4]) (h' := h) (cs := []) (by decide +kernel) rfl trivial ?_
    rcases it_of hF with ⟨hb, hF⟩ | ⟨hb, hF⟩
    · refine RN.icf (cd := .ge) (off := 65) (tgt := 100) (by decide +kernel) (mif_gen hb) ?_
      refine RN.blk (ops := [(38, .iload_n 3), (39, .iload 4), (41, .bipush 6)]) (pc' := 43) (lv' := [(0, .inr (.inr u0)), (1, .inl u1), (2, .inl u2), (3, .inl u3), (4, .inl v4)]) (st' := [.inl 6, .inl v4, .inl u3]) (h' := h) (cs := []) (by decide +kernel) rfl trivial ?_
      refine jn_use (fun j1 => ∀ (s2 : Int), j1 s2 = some r → RN xs L iX1_fewestEntries (d + 3) 52 [(0, .inr (.inr u0)), (1, .inl u1), (2, .inl u2), (3, .inl u3), (4, .inl v4)] [.inl s2, .inl u3] h (RIo r)) ?_ ?_ hF
      · intro s2 hF
        refine jn_use (fun j3 => ∀ (s4 : Int), j3 s4 = some r → RN xs L iX1_fewestEntries (d + 3) 60 [(0, .inr (.inr u0)), (1, .inl u1), (2, .inl u2), (3, .inl u3), (4, .inl v4)] [.inl s4] h (RIo r)) ?_ ?_ hF
        · intro s4 hF
          obtain ⟨hc, hF⟩ := gd_of hF
          refine RN.blk (ops := [(60, .istore 5), (62, .aload_n 0), (63, .getfield 32), (66, .iload_n 2), (67, .iload_n 1), (68, .imul), (69, .iload 4), (71, .iadd), (72, .iload 5)]) (pc' := 74) (lv' := [(5, .inl s4), (0, .inr (.inr u0)), (1, .inl u1), (2, .inl u2), (3, .inl u3), (4, .inl v4)]) (st' := [.inl s4, .inl (m_w32 ((m_w32 (u2 * u1)) + v4)), .inr (.inr (m_rd h u0 4))]) (h' := h) (cs := [GK h u0 1]) (by decide +kernel) rfl hc ?_
          rcases it_of hF with ⟨hb, hF⟩ | ⟨hb, hF⟩
          · refine RN.ift (cd := .eq) (off := 7) (tgt := 81) (by decide +kernel) (mif_eq hb) ?_
            refine RN.blk (ops := [(81, .iload_n 3), (82, .iconst (-1))]) (pc' := 83) (lv' := [(5, .inl s4), (0, .inr (.inr u0)), (1, .inl u1), (2, .inl u2), (3, .inl u3), (4, .inl v4)]) (st' := [.inl (-1), .inl u3, .inl (m_w32 ((m_w32 (u2 * u1)) + v4)), .inr (.inr (m_rd h u0 4))]) (h' := h) (cs := []) (by decide +kernel) rfl trivial ?_
            rcases it_of hF with ⟨hb, hF⟩ | ⟨hb, hF⟩
            · refine RN.icf (cd := .ne) (off := 9) (tgt := 92) (by decide +kernel) (mif_nen hb) ?_
              refine RN.blk (ops := [(86, .sipush 10000)]) (pc' := 89) (lv' := [(5, .inl s4), (0, .inr (.inr u0)), (1, .inl u1), (2, .inl u2), (3, .inl u3), (4, .inl v4)]) (st' := [.inl 10000, .inl (m_w32 ((m_w32 (u2 * u1)) + v4)), .inr (.inr (m_rd h u0 4))]) (h' := h) (cs := []) (by decide +kernel) rfl trivial ?_
              refine RN.goto (off := 4) (tgt := 93) (by decide +kernel) ?_
              obtain ⟨hc, hF⟩ := gd_of hF
              refine RN.blk (ops := [(93, .iastore), (94, .iinc 4 1)]) (pc' := 97) (lv' := [(4, .inl (m_w32 (v4 + 1))), (5, .inl s4), (0, .inr (.inr u0)), (1, .inl u1), (2, .inl u2), (3, .inl u3)]) (st' := []) (h' := (m_wr h (m_rd h u0 4) (m_w32 ((m_w32 (u2 * u1)) + v4)) 10000)) (cs := [GI h (m_rd h u0 4) 1 (m_w32 ((m_w32 (u2 * u1)) + v4))]) (by decide +kernel) rfl hc ?_
              refine RN.goto (off := -65) (tgt := 32) (by decide +kernel) ?_
              exact RN.sub (ih _ _ hF) (sub_cons rfl (sub_cons rfl (sub_cons rfl (sub_cons rfl (sub_cons rfl sub_nil)))))
            · refine RN.ict (cd := .ne) (off := 9) (tgt := 92) (by decide +kernel) (mif_ne hb) ?_
              refine RN.blk (ops := [(92, .iconst 1)]) (pc' := 93) (lv' := [(5, .inl s4), (0, .inr (.inr u0)), (1, .inl u1), (2, .inl u2), (3, .inl u3), (4, .inl v4)]) (st' := [.inl 1, .inl (m_w32 ((m_w32 (u2 * u1)) + v4)), .inr (.inr (m_rd h u0 4))]) (h' := h) (cs := []) (by decide +kernel) rfl trivial ?_
              obtain ⟨hc, hF⟩ := gd_of hF
              refine RN.blk (ops := [(93, .iastore), (94, .iinc 4 1)]) (pc' := 97) (lv' := [(4, .inl (m_w32 (v4 + 1))), (5, .inl s4), (0, .inr (.inr u0)), (1, .inl u1), (2, .inl u2), (3, .inl u3)]) (st' := []) (h' := (m_wr h (m_rd h u0 4) (m_w32 ((m_w32 (u2 * u1)) + v4)) 1)) (cs := [GI h (m_rd h u0 4) 1 (m_w32 ((m_w32 (u2 * u1)) + v4))]) (by decide +kernel) rfl hc ?_
              refine RN.goto (off := -65) (tgt := 32) (by decide +kernel) ?_
              exact RN.sub (ih _ _ hF) (sub_cons rfl (sub_cons rfl (sub_cons rfl (sub_cons rfl (sub_cons rfl sub_nil)))))
          · refine RN.iff (cd := .eq) (off := 7) (tgt := 81) (by decide +kernel) (mif_eqn hb) ?_
            refine RN.blk (ops := [(77, .iconst 0)]) (pc' := 78) (lv' := [(5, .inl s4), (0, .inr (.inr u0)), (1, .inl u1), (2, .inl u2), (3, .inl u3), (4, .inl v4)]) (st' := [.inl 0, .inl (m_w32 ((m_w32 (u2 * u1)) + v4)), .inr (.inr (m_rd h u0 4))]) (h' := h) (cs := []) (by decide +kernel) rfl trivial ?_
            refine RN.goto (off := 15) (tgt := 93) (by decide +kernel) ?_
            obtain ⟨hc, hF⟩ := gd_of hF
            refine RN.blk (ops := [(93, .iastore), (94, .iinc 4 1)]) (pc' := 97) (lv' := [(4, .inl (m_w32 (v4 + 1))), (5, .inl s4), (0, .inr (.inr u0)), (1, .inl u1), (2, .inl u2), (3, .inl u3)]) (st' := []) (h' := (m_wr h (m_rd h u0 4) (m_w32 ((m_w32 (u2 * u1)) + v4)) 0)) (cs := [GI h (m_rd h u0 4) 1 (m_w32 ((m_w32 (u2 * u1)) + v4))]) (by decide +kernel) rfl hc ?_
            refine RN.goto (off := -65) (tgt := 32) (by decide +kernel) ?_
            exact RN.sub (ih _ _ hF) (sub_cons rfl (sub_cons rfl (sub_cons rfl (sub_cons rfl (sub_cons rfl sub_nil)))))
        · intro j3 Jj3 hF
          rcases it_of hF with ⟨hb, hF⟩ | ⟨hb, hF⟩
          · refine RN.icf (cd := .ne) (off := 7) (tgt := 59) (by decide +kernel) (mif_nen hb) ?_
            refine RN.blk (ops := [(55, .iconst 1)]) (pc' := 56) (lv' := [(0, .inr (.inr u0)), (1, .inl u1), (2, .inl u2), (3, .inl u3), (4, .inl v4)]) (st' := [.inl 1]) (h' := h) (cs := []) (by decide +kernel) rfl trivial ?_
            refine RN.goto (off := 4) (tgt := 60) (by decide +kernel) ?_
            exact RN.sub (Jj3 _ hF) (sub_cons rfl (sub_cons rfl (sub_cons rfl (sub_cons rfl (sub_cons rfl sub_nil)))))
          · refine RN.ict (cd := .ne) (off := 7) (tgt := 59) (by decide +kernel) (mif_ne hb) ?_
            refine RN.blk (ops := [(59, .iconst 0)]) (pc' := 60) (lv' := [(0, .inr (.inr u0)), (1, .inl u1), (2, .inl u2), (3, .inl u3), (4, .inl v4)]) (st' := [.inl 0]) (h' := h) (cs := []) (by decide +kernel) rfl trivial ?_
            exact RN.sub (Jj3 _ hF) (sub_cons rfl (sub_cons rfl (sub_cons rfl (sub_cons rfl (sub_cons rfl sub_nil)))))
      · intro j1 Jj1 hF
        rcases it_of hF with ⟨hb, hF⟩ | ⟨hb, hF⟩
        · refine RN.icf (cd := .ne) (off := 7) (tgt := 50) (by decide +kernel) (mif_nen hb) ?_
          refine RN.blk (ops := [(46, .iconst (-1))]) (pc' := 47) (lv' := [(0, .inr (.inr u0)), (1, .inl u1), (2, .inl u2), (3, .inl u3), (4, .inl v4)]) (st' := [.inl (-1), .inl u3]) (h' := h) (cs := []) (by decide +kernel) rfl trivial ?_
          refine RN.goto (off := 5) (tgt := 52) (by decide +kernel) ?_
          exact RN.sub (Jj1 _ hF) (sub_cons rfl (sub_cons rfl (sub_cons rfl (sub_cons rfl (sub_cons rfl sub_nil)))))
        · refine RN.ict (cd := .ne) (off := 7) (tgt := 50) (by decide +kernel) (mif_ne hb) ?_
          refine RN.blk (ops := [(50, .iload 4)]) (pc' := 52) (lv' := [(0, .inr (.inr u0)), (1, .inl u1), (2, .inl u2), (3, .inl u3), (4, .inl v4)]) (st' := [.inl v4, .inl u3]) (h' := h) (cs := []) (by decide +kernel) rfl trivial ?_
          exact RN.sub (Jj1 _ hF) (sub_cons rfl (sub_cons rfl (sub_cons rfl (sub_cons rfl (sub_cons rfl sub_nil)))))
    · refine RN.ict (cd := .ge) (off := 65) (tgt := 100) (by decide +kernel) (mif_ge hb) ?_
      exact RN.sub (hK0 _ hF) (sub_cons rfl (sub_cons rfl (sub_cons rfl sub_nil)))
noncomputable def FX1_fewestEntries_L5 (u0 : Int) (u1 : Int) (K0 : MH → Option (Int × MH)) : Nat → Int → MH → Option (Int × MH)
  | 0, _, _ => none
  | f + 1, v2, h =>
    gd [GK h u0 1, GK h (m_rd h u0 0) 8] (
     (if v2 < (m_rd h (m_rd h u0 0) 3) then
      (if v2 < 256 then
       gd [GK h u0 1] (bd (FX1_holeFor u0 v2 h) (fun x2 h1 =>
        FX1_fewestEntries_L32 u0 u1 v2 x2 (fun h3 =>
         FX1_fewestEntries_L5 u0 u1 K0 f (m_w32 (v2 + 1)) h3) FU 0 h1))
      else
       K0 h)
     else
      K0 h))
theorem CX1_fewestEntries_L5 {d : Nat} {u0 : Int} {u1 : Int} {K0 : MH → Option (Int × MH)} {r : Int × MH} (hK0 : ∀ (h : MH), K0 h = some r → RN xs L iX1_fewestEntries (d + 3) 106 [(0, .inr (.inr u0))] [] h (RIo r)) : ∀ (f : Nat) (v2 : Int) (h : MH), FX1_fewestEntries_L5 u0 u1 K0 f v2 h = some r → RN xs L iX1_fewestEntries (d + 3) 5 [(0, .inr (.inr u0)), (1, .inl u1), (2, .inl v2)] [] h (RIo r) := by
  intro f
  induction f with
  | zero =>
    intro v2 h hF
    cases hF
  | succ f ih =>
    intro v2 h hF
    unfold FX1_fewestEntries_L5 at hF
    obtain ⟨hc, hF⟩ := gd_of hF
    refine RN.blk (ops := [(5, .iload_n 2), (6, .aload_n 0), (7, .getfield 12), (10, .getfield 38)]) (pc' := 13) (lv' := [(0, .inr (.inr u0)), (1, .inl u1), (2, .inl v2)]) (st' := [.inl (m_rd h (m_rd h u0 0) 3), .inl v2]) (h' := h) (cs := [GK h u0 1, GK h (m_rd h u0 0) 8]) (by decide +kernel) rfl hc ?_
    rcases it_of hF with ⟨hb, hF⟩ | ⟨hb, hF⟩
    · refine RN.icf (cd := .ge) (off := 93) (tgt := 106) (by decide +kernel) (mif_gen hb) ?_
      refine RN.blk (ops := [(16, .iload_n 2), (17, .sipush 256)]) (pc' := 20) (lv' := [(0, .inr (.inr u0)), (1, .inl u1), (2, .inl v2)]) (st' := [.inl 256, .inl v2]) (h' := h) (cs := []) (by decide +kernel) rfl trivial ?_
      rcases it_of hF with ⟨hb, hF⟩ | ⟨hb, hF⟩
      · refine RN.icf (cd := .ge) (off := 86) (tgt := 106) (by decide +kernel) (mif_gen hb) ?_
        refine RN.blk (ops := [(23, .aload_n 0), (24, .iload_n 2)]) (pc' := 25) (lv' := [(0, .inr (.inr u0)), (1, .inl u1), (2, .inl v2)]) (st' := [.inl v2, .inr (.inr u0)]) (h' := h) (cs := []) (by decide +kernel) rfl trivial ?_
        obtain ⟨hc, hF⟩ := gd_of hF
        obtain ⟨x2, h1, hG, hF⟩ := bd_of hF
        refine RN.cv (i := 74) (k := 15) (q2 := iX1_holeFor) (as := [.inr (.inr u0), .inl v2]) (r := []) (v := some (.inl x2)) (h1 := h1) (by decide +kernel) rfl rfl rfl rfl rfl (rcv_ok hc.1) (CX1_holeFor (d := d) hG) ?_
        refine RN.blk (ops := [(28, .istore_n 3), (29, .iconst 0), (30, .istore 4)]) (pc' := 32) (lv' := [(4, .inl 0), (3, .inl x2), (0, .inr (.inr u0)), (1, .inl u1), (2, .inl v2)]) (st' := []) (h' := h1) (cs := []) (by decide +kernel) rfl trivial ?_
        refine RN.sub (CX1_fewestEntries_L32 ?_ _ _ _ hF) (sub_cons rfl (sub_cons rfl (sub_cons rfl (sub_cons rfl (sub_cons rfl sub_nil)))))
        · intro h3 hF
          refine RN.blk (ops := [(100, .iinc 2 1)]) (pc' := 103) (lv' := [(2, .inl (m_w32 (v2 + 1))), (0, .inr (.inr u0)), (1, .inl u1)]) (st' := []) (h' := h3) (cs := []) (by decide +kernel) rfl trivial ?_
          refine RN.goto (off := -98) (tgt := 5) (by decide +kernel) ?_
          exact RN.sub (ih _ _ hF) (sub_cons rfl (sub_cons rfl (sub_cons rfl sub_nil)))
      · refine RN.ict (cd := .ge) (off := 86) (tgt := 106) (by decide +kernel) (mif_ge hb) ?_
        exact RN.sub (hK0 _ hF) (sub_cons rfl sub_nil)
    · refine RN.ict (cd := .ge) (off := 93) (tgt := 106) (by decide +kernel) (mif_ge hb) ?_
      exact RN.sub (hK0 _ hF) (sub_cons rfl sub_nil)
noncomputable def FX1_fewestEntries_L122 (u0 : Int) (u2 : Int) (K0 : MH → Option (Int × MH)) : Nat → Int → MH → Option (Int × MH)
  | 0, _, _ => none
  | f + 1, v3, h =>
    gd [GK h u0 1] (
     gd [GK h (m_rd h u0 0) 8] (bd (FX8_prefixesOf (m_rd h u0 0) u2 h) (fun x2 h1 =>
      (if v3 < x2 then
       gd [GK h1 u0 1] (bv (FX1_joinCosts u0 v3 h1) (fun h3 =>
        FX1_fewestEntries_L122 u0 u2 K0 f (m_w32 (v3 + 1)) h3))
      else
       K0 h1))))
theorem CX1_fewestEntries_L122 {d : Nat} {u0 : Int} {u2 : Int} {K0 : MH → Option (Int × MH)} {r : Int × MH} (hK0 : ∀ (h : MH), K0 h = some r → RN xs L iX1_fewestEntries (d + 3) 145 [(0, .inr (.inr u0)), (2, .inl u2)] [] h (RIo r)) : ∀ (f : Nat) (v3 : Int) (h : MH), FX1_fewestEntries_L122 u0 u2 K0 f v3 h = some r → RN xs L iX1_fewestEntries (d + 3) 122 [(0, .inr (.inr u0)), (2, .inl u2), (3, .inl v3)] [] h (RIo r) := by
  intro f
  induction f with
  | zero =>
    intro v3 h hF
    cases hF
  | succ f ih =>
    intro v3 h hF
    unfold FX1_fewestEntries_L122 at hF
    obtain ⟨hc, hF⟩ := gd_of hF
    refine RN.blk (ops := [(122, .iload_n 3), (123, .aload_n 0), (124, .getfield 12), (127, .iload_n 2)]) (pc' := 128) (lv' := [(0, .inr (.inr u0)), (2, .inl u2), (3, .inl v3)]) (st' := [.inl u2, .inr (.inr (m_rd h u0 0)), .inl v3]) (h' := h) (cs := [GK h u0 1]) (by decide +kernel) rfl hc ?_
    obtain ⟨hc, hF⟩ := gd_of hF
    obtain ⟨x2, h1, hG, hF⟩ := bd_of hF
    refine RN.cv (i := 93) (k := 84) (q2 := iX8_prefixesOf) (as := [.inr (.inr (m_rd h u0 0)), .inl u2]) (r := [.inl v3]) (v := some (.inl x2)) (h1 := h1) (by decide +kernel) rfl rfl rfl rfl rfl (rcv_ok hc.1) (CX8_prefixesOf (d := d + 2) hG) ?_
    rcases it_of hF with ⟨hb, hF⟩ | ⟨hb, hF⟩
    · refine RN.icf (cd := .ge) (off := 14) (tgt := 145) (by decide +kernel) (mif_gen hb) ?_
      refine RN.blk (ops := [(134, .aload_n 0), (135, .iload_n 3)]) (pc' := 136) (lv' := [(0, .inr (.inr u0)), (2, .inl u2), (3, .inl v3)]) (st' := [.inl v3, .inr (.inr u0)]) (h' := h1) (cs := []) (by decide +kernel) rfl trivial ?_
      obtain ⟨hc, hF⟩ := gd_of hF
      obtain ⟨h3, hG, hF⟩ := bv_of hF
      refine RN.cv (i := 96) (k := 28) (q2 := iX1_joinCosts) (as := [.inr (.inr u0), .inl v3]) (r := []) (v := none) (h1 := h3) (by decide +kernel) rfl rfl rfl rfl rfl (rcv_ok hc.1) (CX1_joinCosts (d := d + 1) hG) ?_
      refine RN.blk (ops := [(139, .iinc 3 1)]) (pc' := 142) (lv' := [(3, .inl (m_w32 (v3 + 1))), (0, .inr (.inr u0)), (2, .inl u2)]) (st' := []) (h' := h3) (cs := []) (by decide +kernel) rfl trivial ?_
      refine RN.goto (off := -20) (tgt := 122) (by decide +kernel) ?_
      exact RN.sub (ih _ _ hF) (sub_cons rfl (sub_cons rfl (sub_cons rfl sub_nil)))
    · refine RN.ict (cd := .ge) (off := 14) (tgt := 145) (by decide +kernel) (mif_ge hb) ?_
      exact RN.sub (hK0 _ hF) (sub_cons rfl (sub_cons rfl sub_nil))
noncomputable def FX1_fewestEntries_L116 (u0 : Int) (K0 : MH → Option (Int × MH)) : Nat → Int → MH → Option (Int × MH)
  | 0, _, _ => none
  | f + 1, v2, h =>
    (if v2 < 0 then
     K0 h
    else
     FX1_fewestEntries_L122 u0 v2 (fun h1 =>
      FX1_fewestEntries_L116 u0 K0 f (m_w32 (v2 + (-1))) h1) FU 0 h)
theorem CX1_fewestEntries_L116 {d : Nat} {u0 : Int} {K0 : MH → Option (Int × MH)} {r : Int × MH} (hK0 : ∀ (h : MH), K0 h = some r → RN xs L iX1_fewestEntries (d + 3) 151 [(0, .inr (.inr u0))] [] h (RIo r)) : ∀ (f : Nat) (v2 : Int) (h : MH), FX1_fewestEntries_L116 u0 K0 f v2 h = some r → RN xs L iX1_fewestEntries (d + 3) 116 [(0, .inr (.inr u0)), (2, .inl v2)] [] h (RIo r) := by
  intro f
  induction f with
  | zero =>
    intro v2 h hF
    cases hF
  | succ f ih =>
    intro v2 h hF
    unfold FX1_fewestEntries_L116 at hF
    refine RN.blk (ops := [(116, .iload_n 2)]) (pc' := 117) (lv' := [(0, .inr (.inr u0)), (2, .inl v2)]) (st' := [.inl v2]) (h' := h) (cs := []) (by decide +kernel) rfl trivial ?_
    rcases it_of hF with ⟨hb, hF⟩ | ⟨hb, hF⟩
    · refine RN.ift (cd := .lt) (off := 34) (tgt := 151) (by decide +kernel) (mif_lt hb) ?_
      exact RN.sub (hK0 _ hF) (sub_cons rfl sub_nil)
    · refine RN.iff (cd := .lt) (off := 34) (tgt := 151) (by decide +kernel) (mif_ltn hb) ?_
      refine RN.blk (ops := [(120, .iconst 0), (121, .istore_n 3)]) (pc' := 122) (lv' := [(3, .inl 0), (0, .inr (.inr u0)), (2, .inl v2)]) (st' := []) (h' := h) (cs := []) (by decide +kernel) rfl trivial ?_
      refine RN.sub (CX1_fewestEntries_L122 ?_ _ _ _ hF) (sub_cons rfl (sub_cons rfl (sub_cons rfl sub_nil)))
      · intro h1 hF
        refine RN.blk (ops := [(145, .iinc 2 (-1))]) (pc' := 148) (lv' := [(2, .inl (m_w32 (v2 + (-1)))), (0, .inr (.inr u0))]) (st' := []) (h' := h1) (cs := []) (by decide +kernel) rfl trivial ?_
        refine RN.goto (off := -32) (tgt := 116) (by decide +kernel) ?_
        exact RN.sub (ih _ _ hF) (sub_cons rfl (sub_cons rfl sub_nil))
noncomputable def FX1_fewestEntries (t : Int) (h : MH) : Option (Int × MH) :=
  FX1_fewestEntries_L5 t 7 (fun h1 =>
   gd [GK h1 t 1, GK h1 (m_rd h1 t 0) 8] (
    FX1_fewestEntries_L116 t (fun h2 =>
     gd [GK h2 t 1, GI h2 (m_rd h2 t 4) 1 6] (
      some ((m_rd h2 (m_rd h2 t 4) 6), h2))) FU (m_w32 ((m_rd h1 (m_rd h1 t 0) 1) - 1)) h1)) FU 0 h
theorem CX1_fewestEntries {d : Nat} {t : Int} {h : MH} {r : Int × MH} (hF : FX1_fewestEntries t h = some r) : RN xs L iX1_fewestEntries (d + 3) 0 (lvE 0 [.inr (.inr t)]) [] h (RIo r) := by
  unfold FX1_fewestEntries at hF
  refine RN.blk (ops := [(0, .bipush 7), (2, .istore_n 1), (3, .iconst 0), (4, .istore_n 2)]) (pc' := 5) (lv' := [(2, .inl 0), (1, .inl 7), (0, .inr (.inr t))]) (st' := []) (h' := h) (cs := []) (by decide +kernel) rfl trivial ?_
  refine RN.sub (CX1_fewestEntries_L5 ?_ _ _ _ hF) (sub_cons rfl (sub_cons rfl (sub_cons rfl sub_nil)))
  · intro h1 hF
    obtain ⟨hc, hF⟩ := gd_of hF
    refine RN.blk (ops := [(106, .aload_n 0), (107, .getfield 12), (110, .getfield 42), (113, .iconst 1), (114, .isub), (115, .istore_n 2)]) (pc' := 116) (lv' := [(2, .inl (m_w32 ((m_rd h1 (m_rd h1 t 0) 1) - 1))), (0, .inr (.inr t))]) (st' := []) (h' := h1) (cs := [GK h1 t 1, GK h1 (m_rd h1 t 0) 8]) (by decide +kernel) rfl hc ?_
    refine RN.sub (CX1_fewestEntries_L116 ?_ _ _ _ hF) (sub_cons rfl (sub_cons rfl sub_nil))
    · intro h2 hF
      obtain ⟨hc, hF⟩ := gd_of hF
      refine RN.blk (ops := [(151, .aload_n 0), (152, .getfield 32), (155, .bipush 6), (157, .iaload)]) (pc' := 158) (lv' := [(0, .inr (.inr t))]) (st' := [.inl (m_rd h2 (m_rd h2 t 4) 6)]) (h' := h2) (cs := [GK h2 t 1, GI h2 (m_rd h2 t 4) 1 6]) (by decide +kernel) rfl hc ?_
      exact RN.iR (by decide +kernel) rfl hF
noncomputable def FX4_copyFrom (t : Int) (a1 : Int) (h : MH) : Option (MH) :=
  gd [GK h a1 4, GK h t 4, GK h a1 4, GK h t 4] (
   gd [GC h (m_rd (m_wr h t 0 (m_rd h a1 0)) a1 1) 0 (m_rd (m_wr h t 0 (m_rd h a1 0)) t 1) 0 12] (
    gd [GK h a1 4, GK h t 4] (
     gd [GC h (m_rd (m_cpy (m_wr h t 0 (m_rd h a1 0)) (m_rd (m_wr h t 0 (m_rd h a1 0)) a1 1) 0 (m_rd (m_wr h t 0 (m_rd h a1 0)) t 1) 0 12) a1 2) 0 (m_rd (m_cpy (m_wr h t 0 (m_rd h a1 0)) (m_rd (m_wr h t 0 (m_rd h a1 0)) a1 1) 0 (m_rd (m_wr h t 0 (m_rd h a1 0)) t 1) 0 12) t 2) 0 12] (
      gd [GK h a1 4, GK h t 4] (
       gd [GC h (m_rd (m_cpy (m_cpy (m_wr h t 0 (m_rd h a1 0)) (m_rd (m_wr h t 0 (m_rd h a1 0)) a1 1) 0 (m_rd (m_wr h t 0 (m_rd h a1 0)) t 1) 0 12) (m_rd (m_cpy (m_wr h t 0 (m_rd h a1 0)) (m_rd (m_wr h t 0 (m_rd h a1 0)) a1 1) 0 (m_rd (m_wr h t 0 (m_rd h a1 0)) t 1) 0 12) a1 2) 0 (m_rd (m_cpy (m_wr h t 0 (m_rd h a1 0)) (m_rd (m_wr h t 0 (m_rd h a1 0)) a1 1) 0 (m_rd (m_wr h t 0 (m_rd h a1 0)) t 1) 0 12) t 2) 0 12) a1 3) 0 (m_rd (m_cpy (m_cpy (m_wr h t 0 (m_rd h a1 0)) (m_rd (m_wr h t 0 (m_rd h a1 0)) a1 1) 0 (m_rd (m_wr h t 0 (m_rd h a1 0)) t 1) 0 12) (m_rd (m_cpy (m_wr h t 0 (m_rd h a1 0)) (m_rd (m_wr h t 0 (m_rd h a1 0)) a1 1) 0 (m_rd (m_wr h t 0 (m_rd h a1 0)) t 1) 0 12) a1 2) 0 (m_rd (m_cpy (m_wr h t 0 (m_rd h a1 0)) (m_rd (m_wr h t 0 (m_rd h a1 0)) a1 1) 0 (m_rd (m_wr h t 0 (m_rd h a1 0)) t 1) 0 12) t 2) 0 12) t 3) 0 12] (
        some (m_cpy (m_cpy (m_cpy (m_wr h t 0 (m_rd h a1 0)) (m_rd (m_wr h t 0 (m_rd h a1 0)) a1 1) 0 (m_rd (m_wr h t 0 (m_rd h a1 0)) t 1) 0 12) (m_rd (m_cpy (m_wr h t 0 (m_rd h a1 0)) (m_rd (m_wr h t 0 (m_rd h a1 0)) a1 1) 0 (m_rd (m_wr h t 0 (m_rd h a1 0)) t 1) 0 12) a1 2) 0 (m_rd (m_cpy (m_wr h t 0 (m_rd h a1 0)) (m_rd (m_wr h t 0 (m_rd h a1 0)) a1 1) 0 (m_rd (m_wr h t 0 (m_rd h a1 0)) t 1) 0 12) t 2) 0 12) (m_rd (m_cpy (m_cpy (m_wr h t 0 (m_rd h a1 0)) (m_rd (m_wr h t 0 (m_rd h a1 0)) a1 1) 0 (m_rd (m_wr h t 0 (m_rd h a1 0)) t 1) 0 12) (m_rd (m_cpy (m_wr h t 0 (m_rd h a1 0)) (m_rd (m_wr h t 0 (m_rd h a1 0)) a1 1) 0 (m_rd (m_wr h t 0 (m_rd h a1 0)) t 1) 0 12) a1 2) 0 (m_rd (m_cpy (m_wr h t 0 (m_rd h a1 0)) (m_rd (m_wr h t 0 (m_rd h a1 0)) a1 1) 0 (m_rd (m_wr h t 0 (m_rd h a1 0)) t 1) 0 12) t 2) 0 12) a1 3) 0 (m_rd (m_cpy (m_cpy (m_wr h t 0 (m_rd h a1 0)) (m_rd (m_wr h t 0 (m_rd h a1 0)) a1 1) 0 (m_rd (m_wr h t 0 (m_rd h a1 0)) t 1) 0 12) (m_rd (m_cpy (m_wr h t 0 (m_rd h a1 0)) (m_rd (m_wr h t 0 (m_rd h a1 0)) a1 1) 0 (m_rd (m_wr h t 0 (m_rd h a1 0)) t 1) 0 12) a1 2) 0 (m_rd (m_cpy (m_wr h t 0 (m_rd h a1 0)) (m_rd (m_wr h t 0 (m_rd h a1 0)) a1 1) 0 (m_rd (m_wr h t 0 (m_rd h a1 0)) t 1) 0 12) t 2) 0 12) t 3) 0 12)))))))
theorem CX4_copyFrom {d : Nat} {t : Int} {a1 : Int} {h : MH} {r : MH} (hF : FX4_copyFrom t a1 h = some r) : RN xs L iX4_copyFrom (d + 1) 0 (lvE 0 [.inr (.inr t), .inr (.inr a1)]) [] h (RVo r) := by
  unfold FX4_copyFrom at hF
  obtain ⟨hc, hF⟩ := gd_of hF
  refine RN.blk (ops := [(0, .aload_n 0), (1, .aload_n 1), (2, .getfield 21), (5, .putfield 21), (8, .aload_n 1), (9, .getfield 9), (12, .iconst 0), (13, .aload_n 0), (14, .getfield 9), (17, .iconst 0), (18, .bipush 12)]) (pc' := 20) (lv' := [(0, .inr (.inr t)), (1, .inr (.inr a1))]) (st' := [.inl 12, .inl 0, .inr (.inr (m_rd (m_wr h t 0 (m_rd h a1 0)) t 1)), .inl 0, .inr (.inr (m_rd (m_wr h t 0 (m_rd h a1 0)) a1 1))]) (h' := (m_wr h t 0 (m_rd h a1 0))) (cs := [GK h a1 4, GK h t 4, GK h a1 4, GK h t 4]) (by decide +kernel) rfl hc ?_
  obtain ⟨hc, hF⟩ := gd_of hF
  refine RN.cp (i := 25) (by decide +kernel) rfl rfl hc.1 ?_
  obtain ⟨hc, hF⟩ := gd_of hF
  refine RN.blk (ops := [(23, .aload_n 1), (24, .getfield 15), (27, .iconst 0), (28, .aload_n 0), (29, .getfield 15), (32, .iconst 0), (33, .bipush 12)]) (pc' := 35) (lv' := [(0, .inr (.inr t)), (1, .inr (.inr a1))]) (st' := [.inl 12, .inl 0, .inr (.inr (m_rd (m_cpy (m_wr h t 0 (m_rd h a1 0)) (m_rd (m_wr h t 0 (m_rd h a1 0)) a1 1) 0 (m_rd (m_wr h t 0 (m_rd h a1 0)) t 1) 0 12) t 2)), .inl 0, .inr (.inr (m_rd (m_cpy (m_wr h t 0 (m_rd h a1 0)) (m_rd (m_wr h t 0 (m_rd h a1 0)) a1 1) 0 (m_rd (m_wr h t 0 (m_rd h a1 0)) t 1) 0 12) a1 2))]) (h' := (m_cpy (m_wr h t 0 (m_rd h a1 0)) (m_rd (m_wr h t 0 (m_rd h a1 0)) a1 1) 0 (m_rd (m_wr h t 0 (m_rd h a1 0)) t 1) 0 12)) (cs := [GK h a1 4, GK h t 4]) (by decide +kernel) rfl hc ?_
  obtain ⟨hc, hF⟩ := gd_of hF
  refine RN.cp (i := 25) (by decide +kernel) rfl rfl hc.1 ?_
  obtain ⟨hc, hF⟩ := gd_of hF
  refine RN.blk (ops := [(38, .aload_n 1), (39, .getfield 18), (42, .iconst 0), (43, .aload_n 0), (44, .getfield 18), (47, .iconst 0), (48, .bipush 12)]) (pc' := 50) (lv' := [(0, .inr (.inr t)), (1, .inr (.inr a1))]) (st' := [.inl 12, .inl 0, .inr (.inr (m_rd (m_cpy (m_cpy (m_wr h t 0 (m_rd h a1 0)) (m_rd (m_wr h t 0 (m_rd h a1 0)) a1 1) 0 (m_rd (m_wr h t 0 (m_rd h a1 0)) t 1) 0 12) (m_rd (m_cpy (m_wr h t 0 (m_rd h a1 0)) (m_rd (m_wr h t 0 (m_rd h a1 0)) a1 1) 0 (m_rd (m_wr h t 0 (m_rd h a1 0)) t 1) 0 12) a1 2) 0 (m_rd (m_cpy (m_wr h t 0 (m_rd h a1 0)) (m_rd (m_wr h t 0 (m_rd h a1 0)) a1 1) 0 (m_rd (m_wr h t 0 (m_rd h a1 0)) t 1) 0 12) t 2) 0 12) t 3)), .inl 0, .inr (.inr (m_rd (m_cpy (m_cpy (m_wr h t 0 (m_rd h a1 0)) (m_rd (m_wr h t 0 (m_rd h a1 0)) a1 1) 0 (m_rd (m_wr h t 0 (m_rd h a1 0)) t 1) 0 12) (m_rd (m_cpy (m_wr h t 0 (m_rd h a1 0)) (m_rd (m_wr h t 0 (m_rd h a1 0)) a1 1) 0 (m_rd (m_wr h t 0 (m_rd h a1 0)) t 1) 0 12) a1 2) 0 (m_rd (m_cpy (m_wr h t 0 (m_rd h a1 0)) (m_rd (m_wr h t 0 (m_rd h a1 0)) a1 1) 0 (m_rd (m_wr h t 0 (m_rd h a1 0)) t 1) 0 12) t 2) 0 12) a1 3))]) (h' := (m_cpy (m_cpy (m_wr h t 0 (m_rd h a1 0)) (m_rd (m_wr h t 0 (m_rd h a1 0)) a1 1) 0 (m_rd (m_wr h t 0 (m_rd h a1 0)) t 1) 0 12) (m_rd (m_cpy (m_wr h t 0 (m_rd h a1 0)) (m_rd (m_wr h t 0 (m_rd h a1 0)) a1 1) 0 (m_rd (m_wr h t 0 (m_rd h a1 0)) t 1) 0 12) a1 2) 0 (m_rd (m_cpy (m_wr h t 0 (m_rd h a1 0)) (m_rd (m_wr h t 0 (m_rd h a1 0)) a1 1) 0 (m_rd (m_wr h t 0 (m_rd h a1 0)) t 1) 0 12) t 2) 0 12)) (cs := [GK h a1 4, GK h t 4]) (by decide +kernel) rfl hc ?_
  obtain ⟨hc, hF⟩ := gd_of hF
  refine RN.cp (i := 25) (by decide +kernel) rfl rfl hc.1 ?_
  exact RN.vR (by decide +kernel) rfl hF
noncomputable def FX10_copyFrom (t : Int) (a1 : Int) (h : MH) : Option (MH) :=
  gd [GK h t 10, GK h a1 10] (
   gd [GK h (m_rd h t 0) 4] (bv (FX4_copyFrom (m_rd h t 0) (m_rd h a1 0) h) (fun h1 =>
    gd [GK h1 a1 10, GK h1 t 10, GK h1 a1 10, GK h1 t 10] (
     hl (m_wr (m_wr h1 t 1 (m_rd h1 a1 1)) t 5 (m_rd (m_wr h1 t 1 (m_rd h1 a1 1)) a1 5)) (fun h2 =>
      gd [GK h2 a1 10, GK h2 t 10, GK h2 a1 10, GK h2 t 10] (
       gd [GC h2 (m_rd (m_wr h2 t 6 (m_rd h2 a1 6)) a1 2) 0 (m_rd (m_wr h2 t 6 (m_rd h2 a1 6)) t 2) 0 20] (
        gd [GK h2 a1 10, GK h2 t 10] (
         gd [GC h2 (m_rd (m_cpy (m_wr h2 t 6 (m_rd h2 a1 6)) (m_rd (m_wr h2 t 6 (m_rd h2 a1 6)) a1 2) 0 (m_rd (m_wr h2 t 6 (m_rd h2 a1 6)) t 2) 0 20) a1 3) 0 (m_rd (m_cpy (m_wr h2 t 6 (m_rd h2 a1 6)) (m_rd (m_wr h2 t 6 (m_rd h2 a1 6)) a1 2) 0 (m_rd (m_wr h2 t 6 (m_rd h2 a1 6)) t 2) 0 20) t 3) 0 6] (
          gd [GK h2 a1 10, GK h2 t 10] (
           gd [GC h2 (m_rd (m_cpy (m_cpy (m_wr h2 t 6 (m_rd h2 a1 6)) (m_rd (m_wr h2 t 6 (m_rd h2 a1 6)) a1 2) 0 (m_rd (m_wr h2 t 6 (m_rd h2 a1 6)) t 2) 0 20) (m_rd (m_cpy (m_wr h2 t 6 (m_rd h2 a1 6)) (m_rd (m_wr h2 t 6 (m_rd h2 a1 6)) a1 2) 0 (m_rd (m_wr h2 t 6 (m_rd h2 a1 6)) t 2) 0 20) a1 3) 0 (m_rd (m_cpy (m_wr h2 t 6 (m_rd h2 a1 6)) (m_rd (m_wr h2 t 6 (m_rd h2 a1 6)) a1 2) 0 (m_rd (m_wr h2 t 6 (m_rd h2 a1 6)) t 2) 0 20) t 3) 0 6) a1 4) 0 (m_rd (m_cpy (m_cpy (m_wr h2 t 6 (m_rd h2 a1 6)) (m_rd (m_wr h2 t 6 (m_rd h2 a1 6)) a1 2) 0 (m_rd (m_wr h2 t 6 (m_rd h2 a1 6)) t 2) 0 20) (m_rd (m_cpy (m_wr h2 t 6 (m_rd h2 a1 6)) (m_rd (m_wr h2 t 6 (m_rd h2 a1 6)) a1 2) 0 (m_rd (m_wr h2 t 6 (m_rd h2 a1 6)) t 2) 0 20) a1 3) 0 (m_rd (m_cpy (m_wr h2 t 6 (m_rd h2 a1 6)) (m_rd (m_wr h2 t 6 (m_rd h2 a1 6)) a1 2) 0 (m_rd (m_wr h2 t 6 (m_rd h2 a1 6)) t 2) 0 20) t 3) 0 6) t 4) 0 6] (
            some (m_cpy (m_cpy (m_cpy (m_wr h2 t 6 (m_rd h2 a1 6)) (m_rd (m_wr h2 t 6 (m_rd h2 a1 6)) a1 2) 0 (m_rd (m_wr h2 t 6 (m_rd h2 a1 6)) t 2) 0 20) (m_rd (m_cpy (m_wr h2 t 6 (m_rd h2 a1 6)) (m_rd (m_wr h2 t 6 (m_rd h2 a1 6)) a1 2) 0 (m_rd (m_wr h2 t 6 (m_rd h2 a1 6)) t 2) 0 20) a1 3) 0 (m_rd (m_cpy (m_wr h2 t 6 (m_rd h2 a1 6)) (m_rd (m_wr h2 t 6 (m_rd h2 a1 6)) a1 2) 0 (m_rd (m_wr h2 t 6 (m_rd h2 a1 6)) t 2) 0 20) t 3) 0 6) (m_rd (m_cpy (m_cpy (m_wr h2 t 6 (m_rd h2 a1 6)) (m_rd (m_wr h2 t 6 (m_rd h2 a1 6)) a1 2) 0 (m_rd (m_wr h2 t 6 (m_rd h2 a1 6)) t 2) 0 20) (m_rd (m_cpy (m_wr h2 t 6 (m_rd h2 a1 6)) (m_rd (m_wr h2 t 6 (m_rd h2 a1 6)) a1 2) 0 (m_rd (m_wr h2 t 6 (m_rd h2 a1 6)) t 2) 0 20) a1 3) 0 (m_rd (m_cpy (m_wr h2 t 6 (m_rd h2 a1 6)) (m_rd (m_wr h2 t 6 (m_rd h2 a1 6)) a1 2) 0 (m_rd (m_wr h2 t 6 (m_rd h2 a1 6)) t 2) 0 20) t 3) 0 6) a1 4) 0 (m_rd (m_cpy (m_cpy (m_wr h2 t 6 (m_rd h2 a1 6)) (m_rd (m_wr h2 t 6 (m_rd h2 a1 6)) a1 2) 0 (m_rd (m_wr h2 t 6 (m_rd h2 a1 6)) t 2) 0 20) (m_rd (m_cpy (m_wr h2 t 6 (m_rd h2 a1 6)) (m_rd (m_wr h2 t 6 (m_rd h2 a1 6)) a1 2) 0 (m_rd (m_wr h2 t 6 (m_rd h2 a1 6)) t 2) 0 20) a1 3) 0 (m_rd (m_cpy (m_wr h2 t 6 (m_rd h2 a1 6)) (m_rd (m_wr h2 t 6 (m_rd h2 a1 6)) a1 2) 0 (m_rd (m_wr h2 t 6 (m_rd h2 a1 6)) t 2) 0 20) t 3) 0 6) t 4) 0 6))))))))))))
theorem CX10_copyFrom {d : Nat} {t : Int} {a1 : Int} {h : MH} {r : MH} (hF : FX10_copyFrom t a1 h = some r) : RN xs L iX10_copyFrom (d + 2) 0 (lvE 0 [.inr (.inr t), .inr (.inr a1)]) [] h (RVo r) := by
  unfold FX10_copyFrom at hF
  obtain ⟨hc, hF⟩ := gd_of hF
  refine RN.blk (ops := [(0, .aload_n 0), (1, .getfield 12), (4, .aload_n 1), (5, .getfield 12)]) (pc' := 8) (lv' := [(0, .inr (.inr t)), (1, .inr (.inr a1))]) (st' := [.inr (.inr (m_rd h a1 0)), .inr (.inr (m_rd h t 0))]) (h' := h) (cs := [GK h t 10, GK h a1 10]) (by decide +kernel) rfl hc ?_
  obtain ⟨hc, hF⟩ := gd_of hF
  obtain ⟨h1, hG, hF⟩ := bv_of hF
  refine RN.cv (i := 41) (k := 45) (q2 := iX4_copyFrom) (as := [.inr (.inr (m_rd h t 0)), .inr (.inr (m_rd h a1 0))]) (r := []) (v := none) (h1 := h1) (by decide +kernel) rfl rfl rfl rfl rfl (rcv_ok hc.1) (CX4_copyFrom (d := d) hG) ?_
  obtain ⟨hc, hF⟩ := gd_of hF
  refine RN.blk (ops := [(11, .aload_n 0), (12, .aload_n 1), (13, .getfield 32), (16, .putfield 32), (19, .aload_n 0), (20, .aload_n 1), (21, .getfield 35), (24, .putfield 35)]) (pc' := 27) (lv' := [(0, .inr (.inr t)), (1, .inr (.inr a1))]) (st' := []) (h' := (m_wr (m_wr h1 t 1 (m_rd h1 a1 1)) t 5 (m_rd (m_wr h1 t 1 (m_rd h1 a1 1)) a1 5))) (cs := [GK h1 a1 10, GK h1 t 10, GK h1 a1 10, GK h1 t 10]) (by decide +kernel) rfl hc ?_
  obtain ⟨h2, he, hF⟩ := hl_of hF
  refine RN.hl he ?_
  obtain ⟨hc, hF⟩ := gd_of hF
  refine RN.blk (ops := [(27, .aload_n 0), (28, .aload_n 1), (29, .getfield 38), (32, .putfield 38), (35, .aload_n 1), (36, .getfield 18), (39, .iconst 0), (40, .aload_n 0), (41, .getfield 18), (44, .iconst 0), (45, .bipush 20)]) (pc' := 47) (lv' := [(0, .inr (.inr t)), (1, .inr (.inr a1))]) (st' := [.inl 20, .inl 0, .inr (.inr (m_rd (m_wr h2 t 6 (m_rd h2 a1 6)) t 2)), .inl 0, .inr (.inr (m_rd (m_wr h2 t 6 (m_rd h2 a1 6)) a1 2))]) (h' := (m_wr h2 t 6 (m_rd h2 a1 6))) (cs := [GK h2 a1 10, GK h2 t 10, GK h2 a1 10, GK h2 t 10]) (by decide +kernel) rfl hc ?_
  obtain ⟨hc, hF⟩ := gd_of hF
  refine RN.cp (i := 45) (by decide +kernel) rfl rfl hc.1 ?_
  obtain ⟨hc, hF⟩ := gd_of hF
  refine RN.blk (ops := [(50, .aload_n 1), (51, .getfield 22), (54, .iconst 0), (55, .aload_n 0), (56, .getfield 22), (59, .iconst 0), (60, .bipush 6)]) (pc' := 62) (lv' := [(0, .inr (.inr t)), (1, .inr (.inr a1))]) (st' := [.inl 6, .inl 0, .inr (.inr (m_rd (m_cpy (m_wr h2 t 6 (m_rd h2 a1 6)) (m_rd (m_wr h2 t 6 (m_rd h2 a1 6)) a1 2) 0 (m_rd (m_wr h2 t 6 (m_rd h2 a1 6)) t 2) 0 20) t 3)), .inl 0, .inr (.inr (m_rd (m_cpy (m_wr h2 t 6 (m_rd h2 a1 6)) (m_rd (m_wr h2 t 6 (m_rd h2 a1 6)) a1 2) 0 (m_rd (m_wr h2 t 6 (m_rd h2 a1 6)) t 2) 0 20) a1 3))]) (h' := (m_cpy (m_wr h2 t 6 (m_rd h2 a1 6)) (m_rd (m_wr h2 t 6 (m_rd h2 a1 6)) a1 2) 0 (m_rd (m_wr h2 t 6 (m_rd h2 a1 6)) t 2) 0 20)) (cs := [GK h2 a1 10, GK h2 t 10]) (by decide +kernel) rfl hc ?_
  obtain ⟨hc, hF⟩ := gd_of hF
  refine RN.cp (i := 45) (by decide +kernel) rfl rfl hc.1 ?_
  obtain ⟨hc, hF⟩ := gd_of hF
  refine RN.blk (ops := [(65, .aload_n 1), (66, .getfield 25), (69, .iconst 0), (70, .aload_n 0), (71, .getfield 25), (74, .iconst 0), (75, .bipush 6)]) (pc' := 77) (lv' := [(0, .inr (.inr t)), (1, .inr (.inr a1))]) (st' := [.inl 6, .inl 0, .inr (.inr (m_rd (m_cpy (m_cpy (m_wr h2 t 6 (m_rd h2 a1 6)) (m_rd (m_wr h2 t 6 (m_rd h2 a1 6)) a1 2) 0 (m_rd (m_wr h2 t 6 (m_rd h2 a1 6)) t 2) 0 20) (m_rd (m_cpy (m_wr h2 t 6 (m_rd h2 a1 6)) (m_rd (m_wr h2 t 6 (m_rd h2 a1 6)) a1 2) 0 (m_rd (m_wr h2 t 6 (m_rd h2 a1 6)) t 2) 0 20) a1 3) 0 (m_rd (m_cpy (m_wr h2 t 6 (m_rd h2 a1 6)) (m_rd (m_wr h2 t 6 (m_rd h2 a1 6)) a1 2) 0 (m_rd (m_wr h2 t 6 (m_rd h2 a1 6)) t 2) 0 20) t 3) 0 6) t 4)), .inl 0, .inr (.inr (m_rd (m_cpy (m_cpy (m_wr h2 t 6 (m_rd h2 a1 6)) (m_rd (m_wr h2 t 6 (m_rd h2 a1 6)) a1 2) 0 (m_rd (m_wr h2 t 6 (m_rd h2 a1 6)) t 2) 0 20) (m_rd (m_cpy (m_wr h2 t 6 (m_rd h2 a1 6)) (m_rd (m_wr h2 t 6 (m_rd h2 a1 6)) a1 2) 0 (m_rd (m_wr h2 t 6 (m_rd h2 a1 6)) t 2) 0 20) a1 3) 0 (m_rd (m_cpy (m_wr h2 t 6 (m_rd h2 a1 6)) (m_rd (m_wr h2 t 6 (m_rd h2 a1 6)) a1 2) 0 (m_rd (m_wr h2 t 6 (m_rd h2 a1 6)) t 2) 0 20) t 3) 0 6) a1 4))]) (h' := (m_cpy (m_cpy (m_wr h2 t 6 (m_rd h2 a1 6)) (m_rd (m_wr h2 t 6 (m_rd h2 a1 6)) a1 2) 0 (m_rd (m_wr h2 t 6 (m_rd h2 a1 6)) t 2) 0 20) (m_rd (m_cpy (m_wr h2 t 6 (m_rd h2 a1 6)) (m_rd (m_wr h2 t 6 (m_rd h2 a1 6)) a1 2) 0 (m_rd (m_wr h2 t 6 (m_rd h2 a1 6)) t 2) 0 20) a1 3) 0 (m_rd (m_cpy (m_wr h2 t 6 (m_rd h2 a1 6)) (m_rd (m_wr h2 t 6 (m_rd h2 a1 6)) a1 2) 0 (m_rd (m_wr h2 t 6 (m_rd h2 a1 6)) t 2) 0 20) t 3) 0 6)) (cs := [GK h2 a1 10, GK h2 t 10]) (by decide +kernel) rfl hc ?_
  obtain ⟨hc, hF⟩ := gd_of hF
  refine RN.cp (i := 45) (by decide +kernel) rfl rfl hc.1 ?_
  exact RN.vR (by decide +kernel) rfl hF
noncomputable def FX8_copyFrom (t : Int) (a1 : Int) (h : MH) : Option (MH) :=
  gd [GK h a1 8, GK h t 8, GK h a1 8, GK h t 8] (
   hl (m_wr (m_wr h t 0 (m_rd h a1 0)) t 1 (m_rd (m_wr h t 0 (m_rd h a1 0)) a1 1)) (fun h1 =>
    gd [GK h1 a1 8, GK h1 t 8, GK h1 a1 8, GK h1 t 8] (
     hl (m_wr (m_wr h1 t 2 (m_rd h1 a1 2)) t 3 (m_rd (m_wr h1 t 2 (m_rd h1 a1 2)) a1 3)) (fun h2 =>
      gd [GK h2 a1 8, GK h2 t 8, GK h2 t 8, GL h2 (m_rd h2 t 4)] (
       gd [GC h2 (m_rd h2 a1 4) 0 (m_rd h2 t 4) 0 (m_ln h2 (m_rd h2 t 4))] (
        gd [GK h2 a1 8, GK h2 t 8, GK h2 t 8, GL h2 (m_rd (m_cpy h2 (m_rd h2 a1 4) 0 (m_rd h2 t 4) 0 (m_ln h2 (m_rd h2 t 4))) t 5)] (
         gd [GC h2 (m_rd (m_cpy h2 (m_rd h2 a1 4) 0 (m_rd h2 t 4) 0 (m_ln h2 (m_rd h2 t 4))) a1 5) 0 (m_rd (m_cpy h2 (m_rd h2 a1 4) 0 (m_rd h2 t 4) 0 (m_ln h2 (m_rd h2 t 4))) t 5) 0 (m_ln h2 (m_rd (m_cpy h2 (m_rd h2 a1 4) 0 (m_rd h2 t 4) 0 (m_ln h2 (m_rd h2 t 4))) t 5))] (
          some (m_cpy (m_cpy h2 (m_rd h2 a1 4) 0 (m_rd h2 t 4) 0 (m_ln h2 (m_rd h2 t 4))) (m_rd (m_cpy h2 (m_rd h2 a1 4) 0 (m_rd h2 t 4) 0 (m_ln h2 (m_rd h2 t 4))) a1 5) 0 (m_rd (m_cpy h2 (m_rd h2 a1 4) 0 (m_rd h2 t 4) 0 (m_ln h2 (m_rd h2 t 4))) t 5) 0 (m_ln h2 (m_rd (m_cpy h2 (m_rd h2 a1 4) 0 (m_rd h2 t 4) 0 (m_ln h2 (m_rd h2 t 4))) t 5)))))))))))
theorem CX8_copyFrom {d : Nat} {t : Int} {a1 : Int} {h : MH} {r : MH} (hF : FX8_copyFrom t a1 h = some r) : RN xs L iX8_copyFrom (d + 1) 0 (lvE 0 [.inr (.inr t), .inr (.inr a1)]) [] h (RVo r) := by
  unfold FX8_copyFrom at hF
  obtain ⟨hc, hF⟩ := gd_of hF
  refine RN.blk (ops := [(0, .aload_n 0), (1, .aload_n 1), (2, .getfield 18), (5, .putfield 18), (8, .aload_n 0), (9, .aload_n 1), (10, .getfield 22), (13, .putfield 22)]) (pc' := 16) (lv' := [(0, .inr (.inr t)), (1, .inr (.inr a1))]) (st' := []) (h' := (m_wr (m_wr h t 0 (m_rd h a1 0)) t 1 (m_rd (m_wr h t 0 (m_rd h a1 0)) a1 1))) (cs := [GK h a1 8, GK h t 8, GK h a1 8, GK h t 8]) (by decide +kernel) rfl hc ?_
  obtain ⟨h1, he, hF⟩ := hl_of hF
  refine RN.hl he ?_
  obtain ⟨hc, hF⟩ := gd_of hF
  refine RN.blk (ops := [(16, .aload_n 0), (17, .aload_n 1), (18, .getfield 25), (21, .putfield 25), (24, .aload_n 0), (25, .aload_n 1), (26, .getfield 32), (29, .putfield 32)]) (pc' := 32) (lv' := [(0, .inr (.inr t)), (1, .inr (.inr a1))]) (st' := []) (h' := (m_wr (m_wr h1 t 2 (m_rd h1 a1 2)) t 3 (m_rd (m_wr h1 t 2 (m_rd h1 a1 2)) a1 3))) (cs := [GK h1 a1 8, GK h1 t 8, GK h1 a1 8, GK h1 t 8]) (by decide +kernel) rfl hc ?_
  obtain ⟨h2, he, hF⟩ := hl_of hF
  refine RN.hl he ?_
  obtain ⟨hc, hF⟩ := gd_of hF
  refine RN.blk (ops := [(32, .aload_n 1), (33, .getfield 9), (36, .iconst 0), (37, .aload_n 0), (38, .getfield 9), (41, .iconst 0), (42, .aload_n 0), (43, .getfield 9), (46, .arraylength)]) (pc' := 47) (lv' := [(0, .inr (.inr t)), (1, .inr (.inr a1))]) (st' := [.inl (m_ln h2 (m_rd h2 t 4)), .inl 0, .inr (.inr (m_rd h2 t 4)), .inl 0, .inr (.inr (m_rd h2 a1 4))]) (h' := h2) (cs := [GK h2 a1 8, GK h2 t 8, GK h2 t 8, GL h2 (m_rd h2 t 4)]) (by decide +kernel) rfl hc ?_
  obtain ⟨hc, hF⟩ := gd_of hF
  refine RN.cp (i := 35) (by decide +kernel) rfl rfl hc.1 ?_
  obtain ⟨hc, hF⟩ := gd_of hF
  refine RN.blk (ops := [(50, .aload_n 1), (51, .getfield 15), (54, .iconst 0), (55, .aload_n 0), (56, .getfield 15), (59, .iconst 0), (60, .aload_n 0), (61, .getfield 15), (64, .arraylength)]) (pc' := 65) (lv' := [(0, .inr (.inr t)), (1, .inr (.inr a1))]) (st' := [.inl (m_ln h2 (m_rd (m_cpy h2 (m_rd h2 a1 4) 0 (m_rd h2 t 4) 0 (m_ln h2 (m_rd h2 t 4))) t 5)), .inl 0, .inr (.inr (m_rd (m_cpy h2 (m_rd h2 a1 4) 0 (m_rd h2 t 4) 0 (m_ln h2 (m_rd h2 t 4))) t 5)), .inl 0, .inr (.inr (m_rd (m_cpy h2 (m_rd h2 a1 4) 0 (m_rd h2 t 4) 0 (m_ln h2 (m_rd h2 t 4))) a1 5))]) (h' := (m_cpy h2 (m_rd h2 a1 4) 0 (m_rd h2 t 4) 0 (m_ln h2 (m_rd h2 t 4)))) (cs := [GK h2 a1 8, GK h2 t 8, GK h2 t 8, GL h2 (m_rd (m_cpy h2 (m_rd h2 a1 4) 0 (m_rd h2 t 4) 0 (m_ln h2 (m_rd h2 t 4))) t 5)]) (by decide +kernel) rfl hc ?_
  obtain ⟨hc, hF⟩ := gd_of hF
  refine RN.cp (i := 35) (by decide +kernel) rfl rfl hc.1 ?_
  exact RN.vR (by decide +kernel) rfl hF
noncomputable def FX2_take (t : Int) (a1 : Int) (a2 : Int) (h : MH) : Option (MH) :=
  gd [GK h t 2] (
   gd [GK h (m_rd h t 0) 8] (bv (FX8_copyFrom (m_rd h t 0) a1 h) (fun h1 =>
    gd [GK h1 t 2] (
     gd [GK h1 (m_rd h1 t 1) 10] (bv (FX10_copyFrom (m_rd h1 t 1) a2 h1) (fun h2 =>
      gd [GK h2 t 2] (
       gd [GK h2 (m_rd h2 t 2) 10] (bv (FX10_copyFrom (m_rd h2 t 2) a2 h2) (fun h3 =>
        gd [GK h3 t 2] (
         some (m_wr h3 t 5 0)))))))))))
theorem CX2_take {d : Nat} {t : Int} {a1 : Int} {a2 : Int} {h : MH} {r : MH} (hF : FX2_take t a1 a2 h = some r) : RN xs L iX2_take (d + 3) 0 (lvE 0 [.inr (.inr t), .inr (.inr a1), .inr (.inr a2)]) [] h (RVo r) := by
  unfold FX2_take at hF
  obtain ⟨hc, hF⟩ := gd_of hF
  refine RN.blk (ops := [(0, .aload_n 0), (1, .getfield 12), (4, .aload_n 1)]) (pc' := 5) (lv' := [(0, .inr (.inr t)), (1, .inr (.inr a1)), (2, .inr (.inr a2))]) (st' := [.inr (.inr a1), .inr (.inr (m_rd h t 0))]) (h' := h) (cs := [GK h t 2]) (by decide +kernel) rfl hc ?_
  obtain ⟨hc, hF⟩ := gd_of hF
  obtain ⟨h1, hG, hF⟩ := bv_of hF
  refine RN.cv (i := 42) (k := 80) (q2 := iX8_copyFrom) (as := [.inr (.inr (m_rd h t 0)), .inr (.inr a1)]) (r := []) (v := none) (h1 := h1) (by decide +kernel) rfl rfl rfl rfl rfl (rcv_ok hc.1) (CX8_copyFrom (d := d + 1) hG) ?_
  obtain ⟨hc, hF⟩ := gd_of hF
  refine RN.blk (ops := [(8, .aload_n 0), (9, .getfield 21), (12, .aload_n 2)]) (pc' := 13) (lv' := [(0, .inr (.inr t)), (1, .inr (.inr a1)), (2, .inr (.inr a2))]) (st' := [.inr (.inr a2), .inr (.inr (m_rd h1 t 1))]) (h' := h1) (cs := [GK h1 t 2]) (by decide +kernel) rfl hc ?_
  obtain ⟨hc, hF⟩ := gd_of hF
  obtain ⟨h2, hG, hF⟩ := bv_of hF
  refine RN.cv (i := 46) (k := 101) (q2 := iX10_copyFrom) (as := [.inr (.inr (m_rd h1 t 1)), .inr (.inr a2)]) (r := []) (v := none) (h1 := h2) (by decide +kernel) rfl rfl rfl rfl rfl (rcv_ok hc.1) (CX10_copyFrom (d := d) hG) ?_
  obtain ⟨hc, hF⟩ := gd_of hF
  refine RN.blk (ops := [(16, .aload_n 0), (17, .getfield 25), (20, .aload_n 2)]) (pc' := 21) (lv' := [(0, .inr (.inr t)), (1, .inr (.inr a1)), (2, .inr (.inr a2))]) (st' := [.inr (.inr a2), .inr (.inr (m_rd h2 t 2))]) (h' := h2) (cs := [GK h2 t 2]) (by decide +kernel) rfl hc ?_
  obtain ⟨hc, hF⟩ := gd_of hF
  obtain ⟨h3, hG, hF⟩ := bv_of hF
  refine RN.cv (i := 46) (k := 101) (q2 := iX10_copyFrom) (as := [.inr (.inr (m_rd h2 t 2)), .inr (.inr a2)]) (r := []) (v := none) (h1 := h3) (by decide +kernel) rfl rfl rfl rfl rfl (rcv_ok hc.1) (CX10_copyFrom (d := d) hG) ?_
  obtain ⟨hc, hF⟩ := gd_of hF
  refine RN.blk (ops := [(24, .aload_n 0), (25, .iconst 0), (26, .putfield 49)]) (pc' := 29) (lv' := [(0, .inr (.inr t)), (1, .inr (.inr a1)), (2, .inr (.inr a2))]) (st' := []) (h' := (m_wr h3 t 5 0)) (cs := [GK h3 t 2]) (by decide +kernel) rfl hc ?_
  exact RN.vR (by decide +kernel) rfl hF
noncomputable def FX2_copyFrom (t : Int) (a1 : Int) (h : MH) : Option (MH) :=
  gd [GK h t 2, GK h a1 2] (
   gd [GK h (m_rd h t 0) 8] (bv (FX8_copyFrom (m_rd h t 0) (m_rd h a1 0) h) (fun h1 =>
    gd [GK h1 t 2, GK h1 a1 2] (
     gd [GK h1 (m_rd h1 t 1) 10] (bv (FX10_copyFrom (m_rd h1 t 1) (m_rd h1 a1 1) h1) (fun h2 =>
      gd [GK h2 t 2, GK h2 a1 2] (
       gd [GK h2 (m_rd h2 t 2) 10] (bv (FX10_copyFrom (m_rd h2 t 2) (m_rd h2 a1 2) h2) (fun h3 =>
        gd [GK h3 a1 2, GK h3 t 2, GK h3 a1 2, GK h3 t 2] (
         hl (m_wr (m_wr h3 t 3 (m_rd h3 a1 3)) t 4 (m_rd (m_wr h3 t 3 (m_rd h3 a1 3)) a1 4)) (fun h4 =>
          gd [GK h4 a1 2, GK h4 t 2, GK h4 a1 2, GK h4 t 2] (
           gd [GC h4 (m_rd (m_wr h4 t 5 (m_rd h4 a1 5)) a1 6) 0 (m_rd (m_wr h4 t 5 (m_rd h4 a1 5)) t 6) 0 10] (
            gd [GK h4 a1 2, GK h4 t 2] (
             gd [GC h4 (m_rd (m_cpy (m_wr h4 t 5 (m_rd h4 a1 5)) (m_rd (m_wr h4 t 5 (m_rd h4 a1 5)) a1 6) 0 (m_rd (m_wr h4 t 5 (m_rd h4 a1 5)) t 6) 0 10) a1 7) 0 (m_rd (m_cpy (m_wr h4 t 5 (m_rd h4 a1 5)) (m_rd (m_wr h4 t 5 (m_rd h4 a1 5)) a1 6) 0 (m_rd (m_wr h4 t 5 (m_rd h4 a1 5)) t 6) 0 10) t 7) 0 10] (
              gd [GK h4 a1 2, GK h4 t 2] (
               gd [GC h4 (m_rd (m_cpy (m_cpy (m_wr h4 t 5 (m_rd h4 a1 5)) (m_rd (m_wr h4 t 5 (m_rd h4 a1 5)) a1 6) 0 (m_rd (m_wr h4 t 5 (m_rd h4 a1 5)) t 6) 0 10) (m_rd (m_cpy (m_wr h4 t 5 (m_rd h4 a1 5)) (m_rd (m_wr h4 t 5 (m_rd h4 a1 5)) a1 6) 0 (m_rd (m_wr h4 t 5 (m_rd h4 a1 5)) t 6) 0 10) a1 7) 0 (m_rd (m_cpy (m_wr h4 t 5 (m_rd h4 a1 5)) (m_rd (m_wr h4 t 5 (m_rd h4 a1 5)) a1 6) 0 (m_rd (m_wr h4 t 5 (m_rd h4 a1 5)) t 6) 0 10) t 7) 0 10) a1 8) 0 (m_rd (m_cpy (m_cpy (m_wr h4 t 5 (m_rd h4 a1 5)) (m_rd (m_wr h4 t 5 (m_rd h4 a1 5)) a1 6) 0 (m_rd (m_wr h4 t 5 (m_rd h4 a1 5)) t 6) 0 10) (m_rd (m_cpy (m_wr h4 t 5 (m_rd h4 a1 5)) (m_rd (m_wr h4 t 5 (m_rd h4 a1 5)) a1 6) 0 (m_rd (m_wr h4 t 5 (m_rd h4 a1 5)) t 6) 0 10) a1 7) 0 (m_rd (m_cpy (m_wr h4 t 5 (m_rd h4 a1 5)) (m_rd (m_wr h4 t 5 (m_rd h4 a1 5)) a1 6) 0 (m_rd (m_wr h4 t 5 (m_rd h4 a1 5)) t 6) 0 10) t 7) 0 10) t 8) 0 10] (
                some (m_cpy (m_cpy (m_cpy (m_wr h4 t 5 (m_rd h4 a1 5)) (m_rd (m_wr h4 t 5 (m_rd h4 a1 5)) a1 6) 0 (m_rd (m_wr h4 t 5 (m_rd h4 a1 5)) t 6) 0 10) (m_rd (m_cpy (m_wr h4 t 5 (m_rd h4 a1 5)) (m_rd (m_wr h4 t 5 (m_rd h4 a1 5)) a1 6) 0 (m_rd (m_wr h4 t 5 (m_rd h4 a1 5)) t 6) 0 10) a1 7) 0 (m_rd (m_cpy (m_wr h4 t 5 (m_rd h4 a1 5)) (m_rd (m_wr h4 t 5 (m_rd h4 a1 5)) a1 6) 0 (m_rd (m_wr h4 t 5 (m_rd h4 a1 5)) t 6) 0 10) t 7) 0 10) (m_rd (m_cpy (m_cpy (m_wr h4 t 5 (m_rd h4 a1 5)) (m_rd (m_wr h4 t 5 (m_rd h4 a1 5)) a1 6) 0 (m_rd (m_wr h4 t 5 (m_rd h4 a1 5)) t 6) 0 10) (m_rd (m_cpy (m_wr h4 t 5 (m_rd h4 a1 5)) (m_rd (m_wr h4 t 5 (m_rd h4 a1 5)) a1 6) 0 (m_rd (m_wr h4 t 5 (m_rd h4 a1 5)) t 6) 0 10) a1 7) 0 (m_rd (m_cpy (m_wr h4 t 5 (m_rd h4 a1 5)) (m_rd (m_wr h4 t 5 (m_rd h4 a1 5)) a1 6) 0 (m_rd (m_wr h4 t 5 (m_rd h4 a1 5)) t 6) 0 10) t 7) 0 10) a1 8) 0 (m_rd (m_cpy (m_cpy (m_wr h4 t 5 (m_rd h4 a1 5)) (m_rd (m_wr h4 t 5 (m_rd h4 a1 5)) a1 6) 0 (m_rd (m_wr h4 t 5 (m_rd h4 a1 5)) t 6) 0 10) (m_rd (m_cpy (m_wr h4 t 5 (m_rd h4 a1 5)) (m_rd (m_wr h4 t 5 (m_rd h4 a1 5)) a1 6) 0 (m_rd (m_wr h4 t 5 (m_rd h4 a1 5)) t 6) 0 10) a1 7) 0 (m_rd (m_cpy (m_wr h4 t 5 (m_rd h4 a1 5)) (m_rd (m_wr h4 t 5 (m_rd h4 a1 5)) a1 6) 0 (m_rd (m_wr h4 t 5 (m_rd h4 a1 5)) t 6) 0 10) t 7) 0 10) t 8) 0 10))))))))))))))))))
theorem CX2_copyFrom {d : Nat} {t : Int} {a1 : Int} {h : MH} {r : MH} (hF : FX2_copyFrom t a1 h = some r) : RN xs L iX2_copyFrom (d + 3) 0 (lvE 0 [.inr (.inr t), .inr (.inr a1)]) [] h (RVo r) := by
  unfold FX2_copyFrom at hF
  obtain ⟨hc, hF⟩ := gd_of hF
  refine RN.blk (ops := [(0, .aload_n 0), (1, .getfield 12), (4, .aload_n 1), (5, .getfield 12)]) (pc' := 8) (lv' := [(0, .inr (.inr t)), (1, .inr (.inr a1))]) (st' := [.inr (.inr (m_rd h a1 0)), .inr (.inr (m_rd h t 0))]) (h' := h) (cs := [GK h t 2, GK h a1 2]) (by decide +kernel) rfl hc ?_
  obtain ⟨hc, hF⟩ := gd_of hF
  obtain ⟨h1, hG, hF⟩ := bv_of hF
  refine RN.cv (i := 42) (k := 80) (q2 := iX8_copyFrom) (as := [.inr (.inr (m_rd h t 0)), .inr (.inr (m_rd h a1 0))]) (r := []) (v := none) (h1 := h1) (by decide +kernel) rfl rfl rfl rfl rfl (rcv_ok hc.1) (CX8_copyFrom (d := d + 1) hG) ?_
  obtain ⟨hc, hF⟩ := gd_of hF
  refine RN.blk (ops := [(11, .aload_n 0), (12, .getfield 21), (15, .aload_n 1), (16, .getfield 21)]) (pc' := 19) (lv' := [(0, .inr (.inr t)), (1, .inr (.inr a1))]) (st' := [.inr (.inr (m_rd h1 a1 1)), .inr (.inr (m_rd h1 t 1))]) (h' := h1) (cs := [GK h1 t 2, GK h1 a1 2]) (by decide +kernel) rfl hc ?_
  obtain ⟨hc, hF⟩ := gd_of hF
  obtain ⟨h2, hG, hF⟩ := bv_of hF
  refine RN.cv (i := 46) (k := 101) (q2 := iX10_copyFrom) (as := [.inr (.inr (m_rd h1 t 1)), .inr (.inr (m_rd h1 a1 1))]) (r := []) (v := none) (h1 := h2) (by decide +kernel) rfl rfl rfl rfl rfl (rcv_ok hc.1) (CX10_copyFrom (d := d) hG) ?_
  obtain ⟨hc, hF⟩ := gd_of hF
  refine RN.blk (ops := [(22, .aload_n 0), (23, .getfield 25), (26, .aload_n 1), (27, .getfield 25)]) (pc' := 30) (lv' := [(0, .inr (.inr t)), (1, .inr (.inr a1))]) (st' := [.inr (.inr (m_rd h2 a1 2)), .inr (.inr (m_rd h2 t 2))]) (h' := h2) (cs := [GK h2 t 2, GK h2 a1 2]) (by decide +kernel) rfl hc ?_
  obtain ⟨hc, hF⟩ := gd_of hF
  obtain ⟨h3, hG, hF⟩ := bv_of hF
  refine RN.cv (i := 46) (k := 101) (q2 := iX10_copyFrom) (as := [.inr (.inr (m_rd h2 t 2)), .inr (.inr (m_rd h2 a1 2))]) (r := []) (v := none) (h1 := h3) (by decide +kernel) rfl rfl rfl rfl rfl (rcv_ok hc.1) (CX10_copyFrom (d := d) hG) ?_
  obtain ⟨hc, hF⟩ := gd_of hF
  refine RN.blk (ops := [(33, .aload_n 0), (34, .aload_n 1), (35, .getfield 28), (38, .putfield 28), (41, .aload_n 0), (42, .aload_n 1), (43, .getfield 52), (46, .putfield 52)]) (pc' := 49) (lv' := [(0, .inr (.inr t)), (1, .inr (.inr a1))]) (st' := []) (h' := (m_wr (m_wr h3 t 3 (m_rd h3 a1 3)) t 4 (m_rd (m_wr h3 t 3 (m_rd h3 a1 3)) a1 4))) (cs := [GK h3 a1 2, GK h3 t 2, GK h3 a1 2, GK h3 t 2]) (by decide +kernel) rfl hc ?_
  obtain ⟨h4, he, hF⟩ := hl_of hF
  refine RN.hl he ?_
  obtain ⟨hc, hF⟩ := gd_of hF
  refine RN.blk (ops := [(49, .aload_n 0), (50, .aload_n 1), (51, .getfield 49), (54, .putfield 49), (57, .aload_n 1), (58, .getfield 32), (61, .iconst 0), (62, .aload_n 0), (63, .getfield 32), (66, .iconst 0), (67, .bipush 10)]) (pc' := 69) (lv' := [(0, .inr (.inr t)), (1, .inr (.inr a1))]) (st' := [.inl 10, .inl 0, .inr (.inr (m_rd (m_wr h4 t 5 (m_rd h4 a1 5)) t 6)), .inl 0, .inr (.inr (m_rd (m_wr h4 t 5 (m_rd h4 a1 5)) a1 6))]) (h' := (m_wr h4 t 5 (m_rd h4 a1 5))) (cs := [GK h4 a1 2, GK h4 t 2, GK h4 a1 2, GK h4 t 2]) (by decide +kernel) rfl hc ?_
  obtain ⟨hc, hF⟩ := gd_of hF
  refine RN.cp (i := 55) (by decide +kernel) rfl rfl hc.1 ?_
  obtain ⟨hc, hF⟩ := gd_of hF
  refine RN.blk (ops := [(72, .aload_n 1), (73, .getfield 36), (76, .iconst 0), (77, .aload_n 0), (78, .getfield 36), (81, .iconst 0), (82, .bipush 10)]) (pc' := 84) (lv' := [(0, .inr (.inr t)), (1, .inr (.inr a1))]) (st' := [.inl 10, .inl 0, .inr (.inr (m_rd (m_cpy (m_wr h4 t 5 (m_rd h4 a1 5)) (m_rd (m_wr h4 t 5 (m_rd h4 a1 5)) a1 6) 0 (m_rd (m_wr h4 t 5 (m_rd h4 a1 5)) t 6) 0 10) t 7)), .inl 0, .inr (.inr (m_rd (m_cpy (m_wr h4 t 5 (m_rd h4 a1 5)) (m_rd (m_wr h4 t 5 (m_rd h4 a1 5)) a1 6) 0 (m_rd (m_wr h4 t 5 (m_rd h4 a1 5)) t 6) 0 10) a1 7))]) (h' := (m_cpy (m_wr h4 t 5 (m_rd h4 a1 5)) (m_rd (m_wr h4 t 5 (m_rd h4 a1 5)) a1 6) 0 (m_rd (m_wr h4 t 5 (m_rd h4 a1 5)) t 6) 0 10)) (cs := [GK h4 a1 2, GK h4 t 2]) (by decide +kernel) rfl hc ?_
  obtain ⟨hc, hF⟩ := gd_of hF
  refine RN.cp (i := 55) (by decide +kernel) rfl rfl hc.1 ?_
  obtain ⟨hc, hF⟩ := gd_of hF
  refine RN.blk (ops := [(87, .aload_n 1), (88, .getfield 39), (91, .iconst 0), (92, .aload_n 0), (93, .getfield 39), (96, .iconst 0), (97, .bipush 10)]) (pc' := 99) (lv' := [(0, .inr (.inr t)), (1, .inr (.inr a1))]) (st' := [.inl 10, .inl 0, .inr (.inr (m_rd (m_cpy (m_cpy (m_wr h4 t 5 (m_rd h4 a1 5)) (m_rd (m_wr h4 t 5 (m_rd h4 a1 5)) a1 6) 0 (m_rd (m_wr h4 t 5 (m_rd h4 a1 5)) t 6) 0 10) (m_rd (m_cpy (m_wr h4 t 5 (m_rd h4 a1 5)) (m_rd (m_wr h4 t 5 (m_rd h4 a1 5)) a1 6) 0 (m_rd (m_wr h4 t 5 (m_rd h4 a1 5)) t 6) 0 10) a1 7) 0 (m_rd (m_cpy (m_wr h4 t 5 (m_rd h4 a1 5)) (m_rd (m_wr h4 t 5 (m_rd h4 a1 5)) a1 6) 0 (m_rd (m_wr h4 t 5 (m_rd h4 a1 5)) t 6) 0 10) t 7) 0 10) t 8)), .inl 0, .inr (.inr (m_rd (m_cpy (m_cpy (m_wr h4 t 5 (m_rd h4 a1 5)) (m_rd (m_wr h4 t 5 (m_rd h4 a1 5)) a1 6) 0 (m_rd (m_wr h4 t 5 (m_rd h4 a1 5)) t 6) 0 10) (m_rd (m_cpy (m_wr h4 t 5 (m_rd h4 a1 5)) (m_rd (m_wr h4 t 5 (m_rd h4 a1 5)) a1 6) 0 (m_rd (m_wr h4 t 5 (m_rd h4 a1 5)) t 6) 0 10) a1 7) 0 (m_rd (m_cpy (m_wr h4 t 5 (m_rd h4 a1 5)) (m_rd (m_wr h4 t 5 (m_rd h4 a1 5)) a1 6) 0 (m_rd (m_wr h4 t 5 (m_rd h4 a1 5)) t 6) 0 10) t 7) 0 10) a1 8))]) (h' := (m_cpy (m_cpy (m_wr h4 t 5 (m_rd h4 a1 5)) (m_rd (m_wr h4 t 5 (m_rd h4 a1 5)) a1 6) 0 (m_rd (m_wr h4 t 5 (m_rd h4 a1 5)) t 6) 0 10) (m_rd (m_cpy (m_wr h4 t 5 (m_rd h4 a1 5)) (m_rd (m_wr h4 t 5 (m_rd h4 a1 5)) a1 6) 0 (m_rd (m_wr h4 t 5 (m_rd h4 a1 5)) t 6) 0 10) a1 7) 0 (m_rd (m_cpy (m_wr h4 t 5 (m_rd h4 a1 5)) (m_rd (m_wr h4 t 5 (m_rd h4 a1 5)) a1 6) 0 (m_rd (m_wr h4 t 5 (m_rd h4 a1 5)) t 6) 0 10) t 7) 0 10)) (cs := [GK h4 a1 2, GK h4 t 2]) (by decide +kernel) rfl hc ?_
  obtain ⟨hc, hF⟩ := gd_of hF
  refine RN.cp (i := 55) (by decide +kernel) rfl rfl hc.1 ?_
  exact RN.vR (by decide +kernel) rfl hF
noncomputable def FX2_addNote (t : Int) (a1 : Int) (a2 : Int) (a3 : Int) (h : MH) : Option (MH) :=
  gd [GK h t 2] (
   (if (m_rd h t 5) < 10 then
    gd [GK h t 2, GK h t 2, GI h (m_rd h t 6) 1 (m_rd h t 5), GK h t 2, GK h t 2, GI h (m_rd (m_wr h (m_rd h t 6) (m_rd h t 5) a1) t 7) 1 (m_rd (m_wr h (m_rd h t 6) (m_rd h t 5) a1) t 5)] (
     hl (m_wr (m_wr h (m_rd h t 6) (m_rd h t 5) a1) (m_rd (m_wr h (m_rd h t 6) (m_rd h t 5) a1) t 7) (m_rd (m_wr h (m_rd h t 6) (m_rd h t 5) a1) t 5) a2) (fun h1 =>
      gd [GK h1 t 2, GK h1 t 2, GI h1 (m_rd h1 t 8) 1 (m_rd h1 t 5), GK h1 t 2, GK h1 t 2] (
       some (m_wr (m_wr h1 (m_rd h1 t 8) (m_rd h1 t 5) a3) t 5 (m_w32 ((m_rd (m_wr h1 (m_rd h1 t 8) (m_rd h1 t 5) a3) t 5) + 1))))))
   else
    some h))
theorem CX2_addNote {d : Nat} {t : Int} {a1 : Int} {a2 : Int} {a3 : Int} {h : MH} {r : MH} (hF : FX2_addNote t a1 a2 a3 h = some r) : RN xs L iX2_addNote (d) 0 (lvE 0 [.inr (.inr t), .inl a1, .inl a2, .inl a3]) [] h (RVo r) := by
  unfold FX2_addNote at hF
  obtain ⟨hc, hF⟩ := gd_of hF
  refine RN.blk (ops := [(0, .aload_n 0), (1, .getfield 49), (4, .bipush 10)]) (pc' := 6) (lv' := [(0, .inr (.inr t)), (1, .inl a1), (2, .inl a2), (3, .inl a3)]) (st' := [.inl 10, .inl (m_rd h t 5)]) (h' := h) (cs := [GK h t 2]) (by decide +kernel) rfl hc ?_
  rcases it_of hF with ⟨hb, hF⟩ | ⟨hb, hF⟩
  · refine RN.icf (cd := .ge) (off := 43) (tgt := 49) (by decide +kernel) (mif_gen hb) ?_
    obtain ⟨hc, hF⟩ := gd_of hF
    refine RN.blk (ops := [(9, .aload_n 0), (10, .getfield 32), (13, .aload_n 0), (14, .getfield 49), (17, .iload_n 1), (18, .iastore), (19, .aload_n 0), (20, .getfield 36), (23, .aload_n 0), (24, .getfield 49), (27, .iload_n 2), (28, .iastore)]) (pc' := 29) (lv' := [(0, .inr (.inr t)), (1, .inl a1), (2, .inl a2), (3, .inl a3)]) (st' := []) (h' := (m_wr (m_wr h (m_rd h t 6) (m_rd h t 5) a1) (m_rd (m_wr h (m_rd h t 6) (m_rd h t 5) a1) t 7) (m_rd (m_wr h (m_rd h t 6) (m_rd h t 5) a1) t 5) a2)) (cs := [GK h t 2, GK h t 2, GI h (m_rd h t 6) 1 (m_rd h t 5), GK h t 2, GK h t 2, GI h (m_rd (m_wr h (m_rd h t 6) (m_rd h t 5) a1) t 7) 1 (m_rd (m_wr h (m_rd h t 6) (m_rd h t 5) a1) t 5)]) (by decide +kernel) rfl hc ?_
    obtain ⟨h1, he, hF⟩ := hl_of hF
    refine RN.hl he ?_
    obtain ⟨hc, hF⟩ := gd_of hF
    refine RN.blk (ops := [(29, .aload_n 0), (30, .getfield 39), (33, .aload_n 0), (34, .getfield 49), (37, .iload_n 3), (38, .iastore), (39, .aload_n 0), (40, .dup), (41, .getfield 49), (44, .iconst 1), (45, .iadd), (46, .putfield 49)]) (pc' := 49) (lv' := [(0, .inr (.inr t)), (1, .inl a1), (2, .inl a2), (3, .inl a3)]) (st' := []) (h' := (m_wr (m_wr h1 (m_rd h1 t 8) (m_rd h1 t 5) a3) t 5 (m_w32 ((m_rd (m_wr h1 (m_rd h1 t 8) (m_rd h1 t 5) a3) t 5) + 1)))) (cs := [GK h1 t 2, GK h1 t 2, GI h1 (m_rd h1 t 8) 1 (m_rd h1 t 5), GK h1 t 2, GK h1 t 2]) (by decide +kernel) rfl hc ?_
    exact RN.vR (by decide +kernel) rfl hF
  · refine RN.ict (cd := .ge) (off := 43) (tgt := 49) (by decide +kernel) (mif_ge hb) ?_
    exact RN.vR (by decide +kernel) rfl hF
noncomputable def FX2_lastNotedTurn_L4 (u0 : Int) (K0 : Int → MH → Option (Int × MH)) : Nat → Int → Int → MH → Option (Int × MH)
  | 0, _, _, _ => none
  | f + 1, v1, v2, h =>
    gd [GK h u0 2] (
     (if v2 < (m_rd h u0 5) then
      gd [GK h u0 2, GI h (m_rd h u0 6) 1 v2] (
       FX2_lastNotedTurn_L4 u0 K0 f (m_mx v1 (m_rd h (m_rd h u0 6) v2)) (m_w32 (v2 + 1)) h)
     else
      K0 v1 h))
theorem CX2_lastNotedTurn_L4 {d : Nat} {u0 : Int} {K0 : Int → MH → Option (Int × MH)} {r : Int × MH} (hK0 : ∀ (w1 : Int) (h : MH), K0 w1 h = some r → RN xs L iX2_lastNotedTurn (d + 1) 29 [(1, .inl w1)] [] h (RIo r)) : ∀ (f : Nat) (v1 : Int) (v2 : Int) (h : MH), FX2_lastNotedTurn_L4 u0 K0 f v1 v2 h = some r → RN xs L iX2_lastNotedTurn (d + 1) 4 [(0, .inr (.inr u0)), (1, .inl v1), (2, .inl v2)] [] h (RIo r) := by
  intro f
  induction f with
  | zero =>
    intro v1 v2 h hF
    cases hF
  | succ f ih =>
    intro v1 v2 h hF
    unfold FX2_lastNotedTurn_L4 at hF
    obtain ⟨hc, hF⟩ := gd_of hF
    refine RN.blk (ops := [(4, .iload_n 2), (5, .aload_n 0), (6, .getfield 49)]) (pc' := 9) (lv' := [(0, .inr (.inr u0)), (1, .inl v1), (2, .inl v2)]) (st' := [.inl (m_rd h u0 5), .inl v2]) (h' := h) (cs := [GK h u0 2]) (by decide +kernel) rfl hc ?_
    rcases it_of hF with ⟨hb, hF⟩ | ⟨hb, hF⟩
    · refine RN.icf (cd := .ge) (off := 20) (tgt := 29) (by decide +kernel) (mif_gen hb) ?_
      obtain ⟨hc, hF⟩ := gd_of hF
      refine RN.blk (ops := [(12, .iload_n 1), (13, .aload_n 0), (14, .getfield 32), (17, .iload_n 2), (18, .iaload)]) (pc' := 19) (lv' := [(0, .inr (.inr u0)), (1, .inl v1), (2, .inl v2)]) (st' := [.inl (m_rd h (m_rd h u0 6) v2), .inl v1]) (h' := h) (cs := [GK h u0 2, GI h (m_rd h u0 6) 1 v2]) (by decide +kernel) rfl hc ?_
      refine RN.mx (i := 61) (by decide +kernel) rfl rfl ?_
      refine RN.blk (ops := [(22, .istore_n 1), (23, .iinc 2 1)]) (pc' := 26) (lv' := [(2, .inl (m_w32 (v2 + 1))), (1, .inl (m_mx v1 (m_rd h (m_rd h u0 6) v2))), (0, .inr (.inr u0))]) (st' := []) (h' := h) (cs := []) (by decide +kernel) rfl trivial ?_
      refine RN.goto (off := -22) (tgt := 4) (by decide +kernel) ?_
      exact RN.sub (ih _ _ _ hF) (sub_cons rfl (sub_cons rfl (sub_cons rfl sub_nil)))
    · refine RN.ict (cd := .ge) (off := 20) (tgt := 29) (by decide +kernel) (mif_ge hb) ?_
      exact RN.sub (hK0 _ _ hF) (sub_cons rfl sub_nil)
noncomputable def FX2_lastNotedTurn (t : Int) (h : MH) : Option (Int × MH) :=
  FX2_lastNotedTurn_L4 t (fun w1 h2 =>
   some (w1, h2)) FU (-1) 0 h
theorem CX2_lastNotedTurn {d : Nat} {t : Int} {h : MH} {r : Int × MH} (hF : FX2_lastNotedTurn t h = some r) : RN xs L iX2_lastNotedTurn (d + 1) 0 (lvE 0 [.inr (.inr t)]) [] h (RIo r) := by
  unfold FX2_lastNotedTurn at hF
  refine RN.blk (ops := [(0, .iconst (-1)), (1, .istore_n 1), (2, .iconst 0), (3, .istore_n 2)]) (pc' := 4) (lv' := [(2, .inl 0), (1, .inl (-1)), (0, .inr (.inr t))]) (st' := []) (h' := h) (cs := []) (by decide +kernel) rfl trivial ?_
  refine RN.sub (CX2_lastNotedTurn_L4 ?_ _ _ _ _ hF) (sub_cons rfl (sub_cons rfl (sub_cons rfl sub_nil)))
  · intro w1 h2 hF
    refine RN.blk (ops := [(29, .iload_n 1)]) (pc' := 30) (lv' := [(1, .inl w1)]) (st' := [.inl w1]) (h' := h2) (cs := []) (by decide +kernel) rfl trivial ?_
    exact RN.iR (by decide +kernel) rfl hF
noncomputable def FX2_notesHold_L3 (u0 : Int) (u1 : Int) (u2 : Int) (u3 : Int) (K0 : MH → Option (Int × MH)) (K1 : MH → Option (Int × MH)) : Nat → Int → MH → Option (Int × MH)
  | 0, _, _ => none
  | f + 1, v4, h =>
    gd [GK h u0 2] (
     (if v4 < (m_rd h u0 5) then
      gd [GK h u0 2, GI h (m_rd h u0 6) 1 v4] (
       jn (fun (s2 : Int) =>
        (if s2 = 0 then
         FX2_notesHold_L3 u0 u1 u2 u3 K0 K1 f (m_w32 (v4 + 1)) h
        else
         gd [GK h u0 2, GI h (m_rd h u0 7) 1 v4, GI h u3 1 (m_rd h (m_rd h u0 7) v4), GK h u0 2, GI h (m_rd h u0 8) 1 v4] (
          (if (m_rd h u3 (m_rd h (m_rd h u0 7) v4)) = (m_rd h (m_rd h u0 8) v4) then
           FX2_notesHold_L3 u0 u1 u2 u3 K0 K1 f (m_w32 (v4 + 1)) h
          else
           K0 h)))) (fun j1 =>
        jn (
         j1 0) (fun j3 =>
         (if (m_rd h (m_rd h u0 6) v4) < u1 then
          j3
         else
          gd [GK h u0 2, GI h (m_rd h u0 6) 1 v4] (
           (if u2 < (m_rd h (m_rd h u0 6) v4) then
            j3
           else
            j1 1))))))
     else
      K1 h))
theorem CX2_notesHold_L3 {d : Nat} {u0 : Int} {u1 : Int} {u2 : Int} {u3 : Int} {K0 : MH → Option (Int × MH)} {K1 : MH → Option (Int × MH)} {r : Int × MH} (hK0 : ∀ (h : MH), K0 h = some r → RN xs L iX2_notesHold (d) 65 [] [] h (RIo r)) (hK1 : ∀ (h : MH), K1 h = some r → RN xs L iX2_notesHold (d) 73 [] [] h (RIo r)) : ∀ (f : Nat) (v4 : Int) (h : MH), FX2_notesHold_L3 u0 u1 u2 u3 K0 K1 f v4 h = some r → RN xs L iX2_notesHold (d) 3 [(0, .inr (.inr u0)), (1, .inl u1), (2, .inl u2), (3, .inr (.inr u3)), (4, .inl v4)] [] h (RIo r) := by
  intro f
  induction f with
  | zero =>
    intro v4 h hF
    cases hF
  | succ f ih =>
    intro v4 h hF
    unfold FX2_notesHold_L3 at hF
    obtain ⟨hc, hF⟩ := gd_of hF
    refine RN.blk (ops := [(3, .iload 4), (5, .aload_n 0), (6, .getfield 49)]) (pc' := 9) (lv' := [(0, .inr (.inr u0)), (1, .inl u1), (2, .inl u2), (3, .inr (.inr u3)), (4, .inl v4)]) (st' := [.inl (m_rd h u0 5), .inl v4]) (h' := h) (cs := [GK h u0 2]) (by decide +kernel) rfl hc ?_
    rcases it_of hF with ⟨hb, hF⟩ | ⟨hb, hF⟩
    · refine RN.icf (cd := .ge) (off := 64) (tgt := 73) (by decide +kernel) (mif_gen hb) ?_
      obtain ⟨hc, hF⟩ := gd_of hF
      refine RN.blk (ops := [(12, .aload_n 0), (13, .getfield 32), (16, .iload 4), (18, .iaload), (19, .iload_n 1)]) (pc' := 20) (lv' := [(0, .inr (.inr u0)), (1, .inl u1), (2, .inl u2), (3, .inr (.inr u3)), (4, .inl v4)]) (st' := [.inl u1, .inl (m_rd h (m_rd h u0 6) v4)]) (h' := h) (cs := [GK h u0 2, GI h (m_rd h u0 6) 1 v4]) (by decide +kernel) rfl hc ?_
      refine jn_use (fun j1 => ∀ (s2 : Int), j1 s2 = some r → RN xs L iX2_notesHold (d) 39 [(0, .inr (.inr u0)), (1, .inl u1), (2, .inl u2), (3, .inr (.inr u3)), (4, .inl v4)] [.inl s2] h (RIo r)) ?_ ?_ hF
      · intro s2 hF
        refine RN.blk (ops := [(39, .istore 5), (41, .iload 5)]) (pc' := 43) (lv' := [(5, .inl s2), (0, .inr (.inr u0)), (1, .inl u1), (2, .inl u2), (3, .inr (.inr u3)), (4, .inl v4)]) (st' := [.inl s2]) (h' := h) (cs := []) (by decide +kernel) rfl trivial ?_
        rcases it_of hF with ⟨hb, hF⟩ | ⟨hb, hF⟩
        · refine RN.ift (cd := .eq) (off := 24) (tgt := 67) (by decide +kernel) (mif_eq hb) ?_
          refine RN.blk (ops := [(67, .iinc 4 1)]) (pc' := 70) (lv' := [(4, .inl (m_w32 (v4 + 1))), (5, .inl s2), (0, .inr (.inr u0)), (1, .inl u1), (2, .inl u2), (3, .inr (.inr u3))]) (st' := []) (h' := h) (cs := []) (by decide +kernel) rfl trivial ?_
          refine RN.goto (off := -67) (tgt := 3) (by decide +kernel) ?_
          exact RN.sub (ih _ _ hF) (sub_cons rfl (sub_cons rfl (sub_cons rfl (sub_cons rfl (sub_cons rfl sub_nil)))))
        · refine RN.iff (cd := .eq) (off := 24) (tgt := 67) (by decide +kernel) (mif_eqn hb) ?_
          obtain ⟨hc, hF⟩ := gd_of hF
          refine RN.blk (ops := [(46, .aload_n 3), (47, .aload_n 0), (48, .getfield 36), (51, .iload 4), (53, .iaload), (54, .iaload), (55, .aload_n 0), (56, .getfield 39), (59, .iload 4), (61, .iaload)]) (pc' := 62) (lv' := [(5, .inl s2), (0, .inr (.inr u0)), (1, .inl u1), (2, .inl u2), (3, .inr (.inr u3)), (4, .inl v4)]) (st' := [.inl (m_rd h (m_rd h u0 8) v4), .inl (m_rd h u3 (m_rd h (m_rd h u0 7) v4))]) (h' := h) (cs := [GK h u0 2, GI h (m_rd h u0 7) 1 v4, GI h u3 1 (m_rd h (m_rd h u0 7) v4), GK h u0 2, GI h (m_rd h u0 8) 1 v4]) (by decide +kernel) rfl hc ?_
          rcases it_of hF with ⟨hb, hF⟩ | ⟨hb, hF⟩
          · refine RN.ict (cd := .eq) (off := 5) (tgt := 67) (by decide +kernel) (mif_eq hb) ?_
            refine RN.blk (ops := [(67, .iinc 4 1)]) (pc' := 70) (lv' := [(4, .inl (m_w32 (v4 + 1))), (5, .inl s2), (0, .inr (.inr u0)), (1, .inl u1), (2, .inl u2), (3, .inr (.inr u3))]) (st' := []) (h' := h) (cs := []) (by decide +kernel) rfl trivial ?_
            refine RN.goto (off := -67) (tgt := 3) (by decide +kernel) ?_
            exact RN.sub (ih _ _ hF) (sub_cons rfl (sub_cons rfl (sub_cons rfl (sub_cons rfl (sub_cons rfl sub_nil)))))
          · refine RN.icf (cd := .eq) (off := 5) (tgt := 67) (by decide +kernel) (mif_eqn hb) ?_
            exact RN.sub (hK0 _ hF) sub_nil
      · intro j1 Jj1 hF
        refine jn_use (fun j3 => j3 = some r → RN xs L iX2_notesHold (d) 38 [(0, .inr (.inr u0)), (1, .inl u1), (2, .inl u2), (3, .inr (.inr u3)), (4, .inl v4)] [] h (RIo r)) ?_ ?_ hF
        · intro  hF
          refine RN.blk (ops := [(38, .iconst 0)]) (pc' := 39) (lv' := [(0, .inr (.inr u0)), (1, .inl u1), (2, .inl u2), (3, .inr (.inr u3)), (4, .inl v4)]) (st' := [.inl 0]) (h' := h) (cs := []) (by decide +kernel) rfl trivial ?_
          exact RN.sub (Jj1 _ hF) (sub_cons rfl (sub_cons rfl (sub_cons rfl (sub_cons rfl (sub_cons rfl sub_nil)))))
        · intro j3 Jj3 hF
          rcases it_of hF with ⟨hb, hF⟩ | ⟨hb, hF⟩
          · refine RN.ict (cd := .lt) (off := 18) (tgt := 38) (by decide +kernel) (mif_lt hb) ?_
            exact RN.sub (Jj3 hF) (sub_cons rfl (sub_cons rfl (sub_cons rfl (sub_cons rfl (sub_cons rfl sub_nil)))))
          · refine RN.icf (cd := .lt) (off := 18) (tgt := 38) (by decide +kernel) (mif_ltn hb) ?_
            obtain ⟨hc, hF⟩ := gd_of hF
            refine RN.blk (ops := [(23, .aload_n 0), (24, .getfield 32), (27, .iload 4), (29, .iaload), (30, .iload_n 2)]) (pc' := 31) (lv' := [(0, .inr (.inr u0)), (1, .inl u1), (2, .inl u2), (3, .inr (.inr u3)), (4, .inl v4)]) (st' := [.inl u2, .inl (m_rd h (m_rd h u0 6) v4)]) (h' := h) (cs := [GK h u0 2, GI h (m_rd h u0 6) 1 v4]) (by decide +kernel) rfl hc ?_
            rcases it_of hF with ⟨hb, hF⟩ | ⟨hb, hF⟩
            · refine RN.ict (cd := .gt) (off := 7) (tgt := 38) (by decide +kernel) (mif_gt hb) ?_
              exact RN.sub (Jj3 hF) (sub_cons rfl (sub_cons rfl (sub_cons rfl (sub_cons rfl (sub_cons rfl sub_nil)))))
            · refine RN.icf (cd := .gt) (off := 7) (tgt := 38) (by decide +kernel) (mif_gtn hb) ?_
              refine RN.blk (ops := [(34, .iconst 1)]) (pc' := 35) (lv' := [(0, .inr (.inr u0)), (1, .inl u1), (2, .inl u2), (3, .inr (.inr u3)), (4, .inl v4)]) (st' := [.inl 1]) (h' := h) (cs := []) (by decide +kernel) rfl trivial ?_
              refine RN.goto (off := 4) (tgt := 39) (by decide +kernel) ?_
              exact RN.sub (Jj1 _ hF) (sub_cons rfl (sub_cons rfl (sub_cons rfl (sub_cons rfl (sub_cons rfl sub_nil)))))
    · refine RN.ict (cd := .ge) (off := 64) (tgt := 73) (by decide +kernel) (mif_ge hb) ?_
      exact RN.sub (hK1 _ hF) sub_nil
noncomputable def FX2_notesHold (t : Int) (a1 : Int) (a2 : Int) (a3 : Int) (h : MH) : Option (Int × MH) :=
  FX2_notesHold_L3 t a1 a2 a3 (fun h1 =>
   some (0, h1)) (fun h2 =>
   some (1, h2)) FU 0 h
theorem CX2_notesHold {d : Nat} {t : Int} {a1 : Int} {a2 : Int} {a3 : Int} {h : MH} {r : Int × MH} (hF : FX2_notesHold t a1 a2 a3 h = some r) : RN xs L iX2_notesHold (d) 0 (lvE 0 [.inr (.inr t), .inl a1, .inl a2, .inr (.inr a3)]) [] h (RIo r) := by
  unfold FX2_notesHold at hF
  refine RN.blk (ops := [(0, .iconst 0), (1, .istore 4)]) (pc' := 3) (lv' := [(4, .inl 0), (0, .inr (.inr t)), (1, .inl a1), (2, .inl a2), (3, .inr (.inr a3))]) (st' := []) (h' := h) (cs := []) (by decide +kernel) rfl trivial ?_
  refine RN.sub (CX2_notesHold_L3 ?_ ?_ _ _ _ hF) (sub_cons rfl (sub_cons rfl (sub_cons rfl (sub_cons rfl (sub_cons rfl sub_nil)))))
  · intro h1 hF
    refine RN.blk (ops := [(65, .iconst 0)]) (pc' := 66) (lv' := []) (st' := [.inl 0]) (h' := h1) (cs := []) (by decide +kernel) rfl trivial ?_
    exact RN.zR (by decide +kernel) rfl (Or.inl rfl) hF
  · intro h2 hF
    refine RN.blk (ops := [(73, .iconst 1)]) (pc' := 74) (lv' := []) (st' := [.inl 1]) (h' := h2) (cs := []) (by decide +kernel) rfl trivial ?_
    exact RN.zR (by decide +kernel) rfl (Or.inr rfl) hF
noncomputable def FX10_clear_L25 (u0 : Int) (K0 : MH → Option (MH)) : Nat → Int → MH → Option (MH)
  | 0, _, _ => none
  | f + 1, v1, h =>
    (if v1 < 6 then
     gd [GK h u0 10, GI h (m_rd h u0 3) 1 v1, GK h u0 10, GI h (m_rd (m_wr h (m_rd h u0 3) v1 0) u0 4) 1 v1] (
      hl (m_wr (m_wr h (m_rd h u0 3) v1 0) (m_rd (m_wr h (m_rd h u0 3) v1 0) u0 4) v1 0) (fun h1 =>
       FX10_clear_L25 u0 K0 f (m_w32 (v1 + 1)) h1))
    else
     K0 h)
theorem CX10_clear_L25 {d : Nat} {u0 : Int} {K0 : MH → Option (MH)} {r : MH} (hK0 : ∀ (h : MH), K0 h = some r → RN xs L iX10_clear (d) 51 [] [] h (RVo r)) : ∀ (f : Nat) (v1 : Int) (h : MH), FX10_clear_L25 u0 K0 f v1 h = some r → RN xs L iX10_clear (d) 25 [(0, .inr (.inr u0)), (1, .inl v1)] [] h (RVo r) := by
  intro f
  induction f with
  | zero =>
    intro v1 h hF
    cases hF
  | succ f ih =>
    intro v1 h hF
    unfold FX10_clear_L25 at hF
    refine RN.blk (ops := [(25, .iload_n 1), (26, .bipush 6)]) (pc' := 28) (lv' := [(0, .inr (.inr u0)), (1, .inl v1)]) (st' := [.inl 6, .inl v1]) (h' := h) (cs := []) (by decide +kernel) rfl trivial ?_
    rcases it_of hF with ⟨hb, hF⟩ | ⟨hb, hF⟩
    · refine RN.icf (cd := .ge) (off := 23) (tgt := 51) (by decide +kernel) (mif_gen hb) ?_
      obtain ⟨hc, hF⟩ := gd_of hF
      refine RN.blk (ops := [(31, .aload_n 0), (32, .getfield 22), (35, .iload_n 1), (36, .iconst 0), (37, .iastore), (38, .aload_n 0), (39, .getfield 25), (42, .iload_n 1), (43, .iconst 0), (44, .iastore)]) (pc' := 45) (lv' := [(0, .inr (.inr u0)), (1, .inl v1)]) (st' := []) (h' := (m_wr (m_wr h (m_rd h u0 3) v1 0) (m_rd (m_wr h (m_rd h u0 3) v1 0) u0 4) v1 0)) (cs := [GK h u0 10, GI h (m_rd h u0 3) 1 v1, GK h u0 10, GI h (m_rd (m_wr h (m_rd h u0 3) v1 0) u0 4) 1 v1]) (by decide +kernel) rfl hc ?_
      obtain ⟨h1, he, hF⟩ := hl_of hF
      refine RN.hl he ?_
      refine RN.blk (ops := [(45, .iinc 1 1)]) (pc' := 48) (lv' := [(1, .inl (m_w32 (v1 + 1))), (0, .inr (.inr u0))]) (st' := []) (h' := h1) (cs := []) (by decide +kernel) rfl trivial ?_
      refine RN.goto (off := -23) (tgt := 25) (by decide +kernel) ?_
      exact RN.sub (ih _ _ hF) (sub_cons rfl (sub_cons rfl sub_nil))
    · refine RN.ict (cd := .ge) (off := 23) (tgt := 51) (by decide +kernel) (mif_ge hb) ?_
      exact RN.sub (hK0 _ hF) sub_nil
noncomputable def FX10_clear (t : Int) (h : MH) : Option (MH) :=
  gd [GK h t 10, GK h (m_rd h t 0) 4, GK h t 10, GK h t 10, GK h t 10] (
   FX10_clear_L25 t (fun h1 =>
    some h1) FU 0 (m_wr (m_wr (m_wr (m_wr h (m_rd h t 0) 0 0) t 1 0) t 5 0) t 6 0))
theorem CX10_clear {d : Nat} {t : Int} {h : MH} {r : MH} (hF : FX10_clear t h = some r) : RN xs L iX10_clear (d) 0 (lvE 0 [.inr (.inr t)]) [] h (RVo r) := by
  unfold FX10_clear at hF
  obtain ⟨hc, hF⟩ := gd_of hF
  refine RN.blk (ops := [(0, .aload_n 0), (1, .getfield 12), (4, .iconst 0), (5, .putfield 28), (8, .aload_n 0), (9, .iconst 0), (10, .putfield 32), (13, .aload_n 0), (14, .iconst 0), (15, .putfield 35), (18, .aload_n 0), (19, .iconst 0), (20, .putfield 38), (23, .iconst 0), (24, .istore_n 1)]) (pc' := 25) (lv' := [(1, .inl 0), (0, .inr (.inr t))]) (st' := []) (h' := (m_wr (m_wr (m_wr (m_wr h (m_rd h t 0) 0 0) t 1 0) t 5 0) t 6 0)) (cs := [GK h t 10, GK h (m_rd h t 0) 4, GK h t 10, GK h t 10, GK h t 10]) (by decide +kernel) rfl hc ?_
  refine RN.sub (CX10_clear_L25 ?_ _ _ _ hF) (sub_cons rfl (sub_cons rfl sub_nil))
  · intro h1 hF
    exact RN.vR (by decide +kernel) rfl hF
noncomputable def FX4_put (t : Int) (a1 : Int) (a2 : Int) (a3 : Int) (h : MH) : Option (Int × MH) :=
  gd [GK h t 4] (bd (FX4_find t a1 a2 h) (fun x2 h1 =>
   (if x2 = (-1) then
    gd [GK h1 t 4] (
     (if (m_rd h1 t 0) < 12 then
      gd [GK h1 t 4, GK h1 t 4, GK h1 t 4, GK h1 t 4, GI h1 (m_rd (m_wr h1 t 0 (m_w32 ((m_rd h1 t 0) + 1))) t 1) 1 (m_rd h1 t 0)] (
       hl (m_wr (m_wr h1 t 0 (m_w32 ((m_rd h1 t 0) + 1))) (m_rd (m_wr h1 t 0 (m_w32 ((m_rd h1 t 0) + 1))) t 1) (m_rd h1 t 0) a1) (fun h3 =>
        gd [GK h3 t 4, GI h3 (m_rd h3 t 2) 1 (m_rd h1 t 0)] (
         gd [GK h3 t 4, GI h3 (m_rd (m_wr h3 (m_rd h3 t 2) (m_rd h1 t 0) a2) t 3) 1 (m_rd h1 t 0)] (
          hl (m_wr (m_wr h3 (m_rd h3 t 2) (m_rd h1 t 0) a2) (m_rd (m_wr h3 (m_rd h3 t 2) (m_rd h1 t 0) a2) t 3) (m_rd h1 t 0) a3) (fun h4 =>
           some ((m_rd h1 t 0), h4))))))
     else
      some ((-1), h1)))
   else
    gd [GK h1 t 4, GI h1 (m_rd h1 t 3) 1 x2] (
     some (x2, (m_wr h1 (m_rd h1 t 3) x2 a3))))))
theorem CX4_put {d : Nat} {t : Int} {a1 : Int} {a2 : Int} {a3 : Int} {h : MH} {r : Int × MH} (hF : FX4_put t a1 a2 a3 h = some r) : RN xs L iX4_put (d + 1) 0 (lvE 0 [.inr (.inr t), .inl a1, .inl a2, .inl a3]) [] h (RIo r) := by
  unfold FX4_put at hF
  refine RN.blk (ops := [(0, .aload_n 0), (1, .iload_n 1), (2, .iload_n 2)]) (pc' := 3) (lv' := [(0, .inr (.inr t)), (1, .inl a1), (2, .inl a2), (3, .inl a3)]) (st' := [.inl a2, .inl a1, .inr (.inr t)]) (h' := h) (cs := []) (by decide +kernel) rfl trivial ?_
  obtain ⟨hc, hF⟩ := gd_of hF
  obtain ⟨x2, h1, hG, hF⟩ := bd_of hF
  refine RN.cv (i := 31) (k := 47) (q2 := iX4_find) (as := [.inr (.inr t), .inl a1, .inl a2]) (r := []) (v := some (.inl x2)) (h1 := h1) (by decide +kernel) rfl rfl rfl rfl rfl (rcv_ok hc.1) (CX4_find (d := d) hG) ?_
  refine RN.blk (ops := [(6, .istore 4), (8, .iload 4), (10, .iconst (-1))]) (pc' := 11) (lv' := [(4, .inl x2), (0, .inr (.inr t)), (1, .inl a1), (2, .inl a2), (3, .inl a3)]) (st' := [.inl (-1), .inl x2]) (h' := h1) (cs := []) (by decide +kernel) rfl trivial ?_
  rcases it_of hF with ⟨hb, hF⟩ | ⟨hb, hF⟩
  · refine RN.icf (cd := .ne) (off := 46) (tgt := 57) (by decide +kernel) (mif_nen hb) ?_
    obtain ⟨hc, hF⟩ := gd_of hF
    refine RN.blk (ops := [(14, .aload_n 0), (15, .getfield 21), (18, .bipush 12)]) (pc' := 20) (lv' := [(4, .inl x2), (0, .inr (.inr t)), (1, .inl a1), (2, .inl a2), (3, .inl a3)]) (st' := [.inl 12, .inl (m_rd h1 t 0)]) (h' := h1) (cs := [GK h1 t 4]) (by decide +kernel) rfl hc ?_
    rcases it_of hF with ⟨hb, hF⟩ | ⟨hb, hF⟩
    · refine RN.ict (cd := .lt) (off := 5) (tgt := 25) (by decide +kernel) (mif_lt hb) ?_
      obtain ⟨hc, hF⟩ := gd_of hF
      refine RN.blk (ops := [(25, .aload_n 0), (26, .getfield 21), (29, .istore 4), (31, .aload_n 0), (32, .dup), (33, .getfield 21), (36, .iconst 1), (37, .iadd), (38, .putfield 21), (41, .aload_n 0), (42, .getfield 9), (45, .iload 4), (47, .iload_n 1), (48, .iastore)]) (pc' := 49) (lv' := [(4, .inl (m_rd h1 t 0)), (0, .inr (.inr t)), (1, .inl a1), (2, .inl a2), (3, .inl a3)]) (st' := []) (h' := (m_wr (m_wr h1 t 0 (m_w32 ((m_rd h1 t 0) + 1))) (m_rd (m_wr h1 t 0 (m_w32 ((m_rd h1 t 0) + 1))) t 1) (m_rd h1 t 0) a1)) (cs := [GK h1 t 4, GK h1 t 4, GK h1 t 4, GK h1 t 4, GI h1 (m_rd (m_wr h1 t 0 (m_w32 ((m_rd h1 t 0) + 1))) t 1) 1 (m_rd h1 t 0)]) (by decide +kernel) rfl hc ?_
      obtain ⟨h3, he, hF⟩ := hl_of hF
      refine RN.hl he ?_
      obtain ⟨hc, hF⟩ := gd_of hF
      refine RN.blk (ops := [(49, .aload_n 0), (50, .getfield 15), (53, .iload 4), (55, .iload_n 2), (56, .iastore)]) (pc' := 57) (lv' := [(4, .inl (m_rd h1 t 0)), (0, .inr (.inr t)), (1, .inl a1), (2, .inl a2), (3, .inl a3)]) (st' := []) (h' := (m_wr h3 (m_rd h3 t 2) (m_rd h1 t 0) a2)) (cs := [GK h3 t 4, GI h3 (m_rd h3 t 2) 1 (m_rd h1 t 0)]) (by decide +kernel) rfl hc ?_
      obtain ⟨hc, hF⟩ := gd_of hF
      refine RN.blk (ops := [(57, .aload_n 0), (58, .getfield 18), (61, .iload 4), (63, .iload_n 3), (64, .iastore)]) (pc' := 65) (lv' := [(4, .inl (m_rd h1 t 0)), (0, .inr (.inr t)), (1, .inl a1), (2, .inl a2), (3, .inl a3)]) (st' := []) (h' := (m_wr (m_wr h3 (m_rd h3 t 2) (m_rd h1 t 0) a2) (m_rd (m_wr h3 (m_rd h3 t 2) (m_rd h1 t 0) a2) t 3) (m_rd h1 t 0) a3)) (cs := [GK h3 t 4, GI h3 (m_rd (m_wr h3 (m_rd h3 t 2) (m_rd h1 t 0) a2) t 3) 1 (m_rd h1 t 0)]) (by decide +kernel) rfl hc ?_
      obtain ⟨h4, he, hF⟩ := hl_of hF
      refine RN.hl he ?_
      refine RN.blk (ops := [(65, .iload 4)]) (pc' := 67) (lv' := [(4, .inl (m_rd h1 t 0)), (0, .inr (.inr t)), (1, .inl a1), (2, .inl a2), (3, .inl a3)]) (st' := [.inl (m_rd h1 t 0)]) (h' := h4) (cs := []) (by decide +kernel) rfl trivial ?_
      exact RN.iR (by decide +kernel) rfl hF
    · refine RN.icf (cd := .lt) (off := 5) (tgt := 25) (by decide +kernel) (mif_ltn hb) ?_
      refine RN.blk (ops := [(23, .iconst (-1))]) (pc' := 24) (lv' := [(4, .inl x2), (0, .inr (.inr t)), (1, .inl a1), (2, .inl a2), (3, .inl a3)]) (st' := [.inl (-1)]) (h' := h1) (cs := []) (by decide +kernel) rfl trivial ?_
      exact RN.iR (by decide +kernel) rfl hF
  · refine RN.ict (cd := .ne) (off := 46) (tgt := 57) (by decide +kernel) (mif_ne hb) ?_
    obtain ⟨hc, hF⟩ := gd_of hF
    refine RN.blk (ops := [(57, .aload_n 0), (58, .getfield 18), (61, .iload 4), (63, .iload_n 3), (64, .iastore), (65, .iload 4)]) (pc' := 67) (lv' := [(4, .inl x2), (0, .inr (.inr t)), (1, .inl a1), (2, .inl a2), (3, .inl a3)]) (st' := [.inl x2]) (h' := (m_wr h1 (m_rd h1 t 3) x2 a3)) (cs := [GK h1 t 4, GI h1 (m_rd h1 t 3) 1 x2]) (by decide +kernel) rfl hc ?_
    exact RN.iR (by decide +kernel) rfl hF
end Dc
