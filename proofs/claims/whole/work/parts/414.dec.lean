/-! METHODS AS FUNCTIONS, and their certificates (by program): X12_passesAll, X12_keepsAct, X12_undo, X12_turn, X12_comes, X12_post, X12_tie, X12_numberOf, X12_canEnter, X12_enters, X12_enter, X12_strike, X12_where, X12_isReading, X12_digitOf, X12_canMean, X12_may, X12_areLike -/
section Dc
variable {xs : Int → Int} {L : Int}
noncomputable def FX12_passesAll_L2 (u0 : Int) (u1 : Int) (K0 : MH → Option (MH)) : Nat → Int → MH → Option (MH)
  | 0, _, _ => none
  | f + 1, v2, h =>
    (if v2 < u1 then
     gd [GK h u0 12] (bd (FX12_passes u0 h) (fun x2 h1 =>
      FX12_passesAll_L2 u0 u1 K0 f (m_w32 (v2 + 1)) h1))
    else
     K0 h)
theorem CX12_passesAll_L2 {d : Nat} {u0 : Int} {u1 : Int} {K0 : MH → Option (MH)} {r : MH} (hK0 : ∀ (h : MH), K0 h = some r → RN xs L iX12_passesAll (d + 7) 18 [] [] h (RVo r)) : ∀ (f : Nat) (v2 : Int) (h : MH), FX12_passesAll_L2 u0 u1 K0 f v2 h = some r → RN xs L iX12_passesAll (d + 7) 2 [(0, .inr (.inr u0)), (1, .inl u1), (2, .inl v2)] [] h (RVo r) := by
  intro f
  induction f with
  | zero =>
    intro v2 h hF
    cases hF
  | succ f ih =>
    intro v2 h hF
    unfold FX12_passesAll_L2 at hF
    refine RN.blk (ops := [(2, .iload_n 2), (3, .iload_n 1)]) (pc' := 4) (lv' := [(0, .inr (.inr u0)), (1, .inl u1), (2, .inl v2)]) (st' := [.inl u1, .inl v2]) (h' := h) (cs := []) (by decide +kernel) rfl trivial ?_
    rcases it_of hF with ⟨hb, hF⟩ | ⟨hb, hF⟩
    · refine RN.icf (cd := .ge) (off := 14) (tgt := 18) (by decide +kernel) (mif_gen hb) ?_
      refine RN.blk (ops := [(7, .aload_n 0)]) (pc' := 8) (lv' := [(0, .inr (.inr u0)), (1, .inl u1), (2, .inl v2)]) (st' := [.inr (.inr u0)]) (h' := h) (cs := []) (by decide +kernel) rfl trivial ?_
      obtain ⟨hc, hF⟩ := gd_of hF
      obtain ⟨x2, h1, hG, hF⟩ := bd_of hF
      refine RN.cv (i := 350) (k := 222) (q2 := iX12_passes) (as := [.inr (.inr u0)]) (r := []) (v := some (.inl x2)) (h1 := h1) (by decide +kernel) rfl rfl rfl rfl rfl (rcv_ok hc.1) (CX12_passes (d := d) hG) ?_
      refine RN.blk (ops := [(11, .pop), (12, .iinc 2 1)]) (pc' := 15) (lv' := [(2, .inl (m_w32 (v2 + 1))), (0, .inr (.inr u0)), (1, .inl u1)]) (st' := []) (h' := h1) (cs := []) (by decide +kernel) rfl trivial ?_
      refine RN.goto (off := -13) (tgt := 2) (by decide +kernel) ?_
      exact RN.sub (ih _ _ hF) (sub_cons rfl (sub_cons rfl (sub_cons rfl sub_nil)))
    · refine RN.ict (cd := .ge) (off := 14) (tgt := 18) (by decide +kernel) (mif_ge hb) ?_
      exact RN.sub (hK0 _ hF) sub_nil
noncomputable def FX12_passesAll (t : Int) (a1 : Int) (h : MH) : Option (MH) :=
  FX12_passesAll_L2 t a1 (fun h1 =>
   some h1) FU 0 h
theorem CX12_passesAll {d : Nat} {t : Int} {a1 : Int} {h : MH} {r : MH} (hF : FX12_passesAll t a1 h = some r) : RN xs L iX12_passesAll (d + 7) 0 (lvE 0 [.inr (.inr t), .inl a1]) [] h (RVo r) := by
  unfold FX12_passesAll at hF
  refine RN.blk (ops := [(0, .iconst 0), (1, .istore_n 2)]) (pc' := 2) (lv' := [(2, .inl 0), (0, .inr (.inr t)), (1, .inl a1)]) (st' := []) (h' := h) (cs := []) (by decide +kernel) rfl trivial ?_
  refine RN.sub (CX12_passesAll_L2 ?_ _ _ _ hF) (sub_cons rfl (sub_cons rfl (sub_cons rfl sub_nil)))
  · intro h1 hF
    exact RN.vR (by decide +kernel) rfl hF
noncomputable def FX12_keepsAct_L52 (u0 : Int) (K0 : MH → Option (MH)) : Nat → Int → MH → Option (MH)
  | 0, _, _ => none
  | f + 1, v1, h =>
    (if v1 < 72 then
     gd [GK h u0 12, GK h u0 12, GK h u0 12, GI h (m_rd h u0 20) 1 (m_w32 (10 + v1)), GI h (m_rd h u0 24) 1 (m_w32 ((m_w32 (72 * (m_rd h u0 25))) + v1))] (
      hl (m_wr h (m_rd h u0 24) (m_w32 ((m_w32 (72 * (m_rd h u0 25))) + v1)) (m_rd h (m_rd h u0 20) (m_w32 (10 + v1)))) (fun h1 =>
       FX12_keepsAct_L52 u0 K0 f (m_w32 (v1 + 1)) h1))
    else
     K0 h)
theorem CX12_keepsAct_L52 {d : Nat} {u0 : Int} {K0 : MH → Option (MH)} {r : MH} (hK0 : ∀ (h : MH), K0 h = some r → RN xs L iX12_keepsAct (d) 87 [(0, .inr (.inr u0))] [] h (RVo r)) : ∀ (f : Nat) (v1 : Int) (h : MH), FX12_keepsAct_L52 u0 K0 f v1 h = some r → RN xs L iX12_keepsAct (d) 52 [(0, .inr (.inr u0)), (1, .inl v1)] [] h (RVo r) := by
  intro f
  induction f with
  | zero =>
    intro v1 h hF
    cases hF
  | succ f ih =>
    intro v1 h hF
    unfold FX12_keepsAct_L52 at hF
    refine RN.blk (ops := [(52, .iload_n 1), (53, .bipush 72)]) (pc' := 55) (lv' := [(0, .inr (.inr u0)), (1, .inl v1)]) (st' := [.inl 72, .inl v1]) (h' := h) (cs := []) (by decide +kernel) rfl trivial ?_
    rcases it_of hF with ⟨hb, hF⟩ | ⟨hb, hF⟩
    · refine RN.icf (cd := .ge) (off := 32) (tgt := 87) (by decide +kernel) (mif_gen hb) ?_
      obtain ⟨hc, hF⟩ := gd_of hF
      refine RN.blk (ops := [(58, .aload_n 0), (59, .getfield 46), (62, .bipush 72), (64, .aload_n 0), (65, .getfield 277), (68, .imul), (69, .iload_n 1), (70, .iadd), (71, .aload_n 0), (72, .getfield 39), (75, .bipush 10), (77, .iload_n 1), (78, .iadd), (79, .iaload), (80, .iastore)]) (pc' := 81) (lv' := [(0, .inr (.inr u0)), (1, .inl v1)]) (st' := []) (h' := (m_wr h (m_rd h u0 24) (m_w32 ((m_w32 (72 * (m_rd h u0 25))) + v1)) (m_rd h (m_rd h u0 20) (m_w32 (10 + v1))))) (cs := [GK h u0 12, GK h u0 12, GK h u0 12, GI h (m_rd h u0 20) 1 (m_w32 (10 + v1)), GI h (m_rd h u0 24) 1 (m_w32 ((m_w32 (72 * (m_rd h u0 25))) + v1))]) (by decide +kernel) rfl hc ?_
      obtain ⟨h1, he, hF⟩ := hl_of hF
      refine RN.hl he ?_
      refine RN.blk (ops := [(81, .iinc 1 1)]) (pc' := 84) (lv' := [(1, .inl (m_w32 (v1 + 1))), (0, .inr (.inr u0))]) (st' := []) (h' := h1) (cs := []) (by decide +kernel) rfl trivial ?_
      refine RN.goto (off := -32) (tgt := 52) (by decide +kernel) ?_
      exact RN.sub (ih _ _ hF) (sub_cons rfl (sub_cons rfl sub_nil))
    · refine RN.ict (cd := .ge) (off := 32) (tgt := 87) (by decide +kernel) (mif_ge hb) ?_
      exact RN.sub (hK0 _ hF) (sub_cons rfl sub_nil)
noncomputable def FX12_keepsAct_L12 (u0 : Int) (K0 : MH → Option (MH)) : Nat → Int → MH → Option (MH)
  | 0, _, _ => none
  | f + 1, v1, h =>
    (if v1 < 1440 then
     gd [GK h u0 12, GK h u0 12, GI h (m_rd h u0 24) 1 v1, GI h (m_rd h u0 24) 1 (m_w32 (v1 - 72))] (
      FX12_keepsAct_L12 u0 K0 f (m_w32 (v1 + 1)) (m_wr h (m_rd h u0 24) (m_w32 (v1 - 72)) (m_rd h (m_rd h u0 24) v1)))
    else
     K0 h)
theorem CX12_keepsAct_L12 {d : Nat} {u0 : Int} {K0 : MH → Option (MH)} {r : MH} (hK0 : ∀ (h : MH), K0 h = some r → RN xs L iX12_keepsAct (d) 40 [(0, .inr (.inr u0))] [] h (RVo r)) : ∀ (f : Nat) (v1 : Int) (h : MH), FX12_keepsAct_L12 u0 K0 f v1 h = some r → RN xs L iX12_keepsAct (d) 12 [(0, .inr (.inr u0)), (1, .inl v1)] [] h (RVo r) := by
  intro f
  induction f with
  | zero =>
    intro v1 h hF
    cases hF
  | succ f ih =>
    intro v1 h hF
    unfold FX12_keepsAct_L12 at hF
    refine RN.blk (ops := [(12, .iload_n 1), (13, .sipush 1440)]) (pc' := 16) (lv' := [(0, .inr (.inr u0)), (1, .inl v1)]) (st' := [.inl 1440, .inl v1]) (h' := h) (cs := []) (by decide +kernel) rfl trivial ?_
    rcases it_of hF with ⟨hb, hF⟩ | ⟨hb, hF⟩
    · refine RN.icf (cd := .ge) (off := 24) (tgt := 40) (by decide +kernel) (mif_gen hb) ?_
      obtain ⟨hc, hF⟩ := gd_of hF
      refine RN.blk (ops := [(19, .aload_n 0), (20, .getfield 46), (23, .iload_n 1), (24, .bipush 72), (26, .isub), (27, .aload_n 0), (28, .getfield 46), (31, .iload_n 1), (32, .iaload), (33, .iastore), (34, .iinc 1 1)]) (pc' := 37) (lv' := [(1, .inl (m_w32 (v1 + 1))), (0, .inr (.inr u0))]) (st' := []) (h' := (m_wr h (m_rd h u0 24) (m_w32 (v1 - 72)) (m_rd h (m_rd h u0 24) v1))) (cs := [GK h u0 12, GK h u0 12, GI h (m_rd h u0 24) 1 v1, GI h (m_rd h u0 24) 1 (m_w32 (v1 - 72))]) (by decide +kernel) rfl hc ?_
      refine RN.goto (off := -25) (tgt := 12) (by decide +kernel) ?_
      exact RN.sub (ih _ _ hF) (sub_cons rfl (sub_cons rfl sub_nil))
    · refine RN.ict (cd := .ge) (off := 24) (tgt := 40) (by decide +kernel) (mif_ge hb) ?_
      exact RN.sub (hK0 _ hF) (sub_cons rfl sub_nil)
noncomputable def FX12_keepsAct (t : Int) (h : MH) : Option (MH) :=
  gd [GK h t 12] (
   jn (fun (h2 : MH) =>
    FX12_keepsAct_L52 t (fun h3 =>
     gd [GK h3 t 12, GK h3 t 12] (
      some (m_wr h3 t 25 (m_w32 ((m_rd h3 t 25) + 1))))) FU 0 h2) (fun j1 =>
    (if (m_rd h t 25) = 20 then
     FX12_keepsAct_L12 t (fun h4 =>
      gd [GK h4 t 12, GK h4 t 12] (
       j1 (m_wr h4 t 25 (m_w32 ((m_rd h4 t 25) - 1))))) FU 72 h
    else
     j1 h)))
theorem CX12_keepsAct {d : Nat} {t : Int} {h : MH} {r : MH} (hF : FX12_keepsAct t h = some r) : RN xs L iX12_keepsAct (d) 0 (lvE 0 [.inr (.inr t)]) [] h (RVo r) := by
  unfold FX12_keepsAct at hF
  obtain ⟨hc, hF⟩ := gd_of hF
  refine RN.blk (ops := [(0, .aload_n 0), (1, .getfield 277), (4, .bipush 20)]) (pc' := 6) (lv' := [(0, .inr (.inr t))]) (st' := [.inl 20, .inl (m_rd h t 25)]) (h' := h) (cs := [GK h t 12]) (by decide +kernel) rfl hc ?_
  refine jn_use (fun j1 => ∀ (h2 : MH), j1 h2 = some r → RN xs L iX12_keepsAct (d) 50 [(0, .inr (.inr t))] [] h2 (RVo r)) ?_ ?_ hF
  · intro h2 hF
    refine RN.blk (ops := [(50, .iconst 0), (51, .istore_n 1)]) (pc' := 52) (lv' := [(1, .inl 0), (0, .inr (.inr t))]) (st' := []) (h' := h2) (cs := []) (by decide +kernel) rfl trivial ?_
    refine RN.sub (CX12_keepsAct_L52 ?_ _ _ _ hF) (sub_cons rfl (sub_cons rfl sub_nil))
    · intro h3 hF
      obtain ⟨hc, hF⟩ := gd_of hF
      refine RN.blk (ops := [(87, .aload_n 0), (88, .dup), (89, .getfield 277), (92, .iconst 1), (93, .iadd), (94, .putfield 277)]) (pc' := 97) (lv' := [(0, .inr (.inr t))]) (st' := []) (h' := (m_wr h3 t 25 (m_w32 ((m_rd h3 t 25) + 1)))) (cs := [GK h3 t 12, GK h3 t 12]) (by decide +kernel) rfl hc ?_
      exact RN.vR (by decide +kernel) rfl hF
  · intro j1 Jj1 hF
    rcases it_of hF with ⟨hb, hF⟩ | ⟨hb, hF⟩
    · refine RN.icf (cd := .ne) (off := 44) (tgt := 50) (by decide +kernel) (mif_nen hb) ?_
      refine RN.blk (ops := [(9, .bipush 72), (11, .istore_n 1)]) (pc' := 12) (lv' := [(1, .inl 72), (0, .inr (.inr t))]) (st' := []) (h' := h) (cs := []) (by decide +kernel) rfl trivial ?_
      refine RN.sub (CX12_keepsAct_L12 ?_ _ _ _ hF) (sub_cons rfl (sub_cons rfl sub_nil))
      · intro h4 hF
        obtain ⟨hc, hF⟩ := gd_of hF
        refine RN.blk (ops := [(40, .aload_n 0), (41, .dup), (42, .getfield 277), (45, .iconst 1), (46, .isub), (47, .putfield 277)]) (pc' := 50) (lv' := [(0, .inr (.inr t))]) (st' := []) (h' := (m_wr h4 t 25 (m_w32 ((m_rd h4 t 25) - 1)))) (cs := [GK h4 t 12, GK h4 t 12]) (by decide +kernel) rfl hc ?_
        exact RN.sub (Jj1 _ hF) (sub_cons rfl sub_nil)
    · refine RN.ict (cd := .ne) (off := 44) (tgt := 50) (by decide +kernel) (mif_ne hb) ?_
      exact RN.sub (Jj1 _ hF) (sub_cons rfl sub_nil)
noncomputable def FX12_undo_L21 (u0 : Int) (K0 : MH → Option (Int × MH)) : Nat → Int → MH → Option (Int × MH)
  | 0, _, _ => none
  | f + 1, v1, h =>
    (if v1 < 72 then
     gd [GK h u0 12, GK h u0 12, GK h u0 12, GI h (m_rd h u0 24) 1 (m_w32 ((m_w32 (72 * (m_rd h u0 25))) + v1)), GI h (m_rd h u0 20) 1 (m_w32 (10 + v1))] (
      hl (m_wr h (m_rd h u0 20) (m_w32 (10 + v1)) (m_rd h (m_rd h u0 24) (m_w32 ((m_w32 (72 * (m_rd h u0 25))) + v1)))) (fun h1 =>
       FX12_undo_L21 u0 K0 f (m_w32 (v1 + 1)) h1))
    else
     K0 h)
theorem CX12_undo_L21 {d : Nat} {u0 : Int} {K0 : MH → Option (Int × MH)} {r : Int × MH} (hK0 : ∀ (h : MH), K0 h = some r → RN xs L iX12_undo (d) 56 [(0, .inr (.inr u0))] [] h (RIo r)) : ∀ (f : Nat) (v1 : Int) (h : MH), FX12_undo_L21 u0 K0 f v1 h = some r → RN xs L iX12_undo (d) 21 [(0, .inr (.inr u0)), (1, .inl v1)] [] h (RIo r) := by
  intro f
  induction f with
  | zero =>
    intro v1 h hF
    cases hF
  | succ f ih =>
    intro v1 h hF
    unfold FX12_undo_L21 at hF
    refine RN.blk (ops := [(21, .iload_n 1), (22, .bipush 72)]) (pc' := 24) (lv' := [(0, .inr (.inr u0)), (1, .inl v1)]) (st' := [.inl 72, .inl v1]) (h' := h) (cs := []) (by decide +kernel) rfl trivial ?_
    rcases it_of hF with ⟨hb, hF⟩ | ⟨hb, hF⟩
    · refine RN.icf (cd := .ge) (off := 32) (tgt := 56) (by decide +kernel) (mif_gen hb) ?_
      obtain ⟨hc, hF⟩ := gd_of hF
      refine RN.blk (ops := [(27, .aload_n 0), (28, .getfield 39), (31, .bipush 10), (33, .iload_n 1), (34, .iadd), (35, .aload_n 0), (36, .getfield 46), (39, .bipush 72), (41, .aload_n 0), (42, .getfield 277), (45, .imul), (46, .iload_n 1), (47, .iadd), (48, .iaload), (49, .iastore)]) (pc' := 50) (lv' := [(0, .inr (.inr u0)), (1, .inl v1)]) (st' := []) (h' := (m_wr h (m_rd h u0 20) (m_w32 (10 + v1)) (m_rd h (m_rd h u0 24) (m_w32 ((m_w32 (72 * (m_rd h u0 25))) + v1))))) (cs := [GK h u0 12, GK h u0 12, GK h u0 12, GI h (m_rd h u0 24) 1 (m_w32 ((m_w32 (72 * (m_rd h u0 25))) + v1)), GI h (m_rd h u0 20) 1 (m_w32 (10 + v1))]) (by decide +kernel) rfl hc ?_
      obtain ⟨h1, he, hF⟩ := hl_of hF
      refine RN.hl he ?_
      refine RN.blk (ops := [(50, .iinc 1 1)]) (pc' := 53) (lv' := [(1, .inl (m_w32 (v1 + 1))), (0, .inr (.inr u0))]) (st' := []) (h' := h1) (cs := []) (by decide +kernel) rfl trivial ?_
      refine RN.goto (off := -32) (tgt := 21) (by decide +kernel) ?_
      exact RN.sub (ih _ _ hF) (sub_cons rfl (sub_cons rfl sub_nil))
    · refine RN.ict (cd := .ge) (off := 32) (tgt := 56) (by decide +kernel) (mif_ge hb) ?_
      exact RN.sub (hK0 _ hF) (sub_cons rfl sub_nil)
noncomputable def FX12_undo (t : Int) (h : MH) : Option (Int × MH) :=
  gd [GK h t 12] (
   (if (m_rd h t 25) = 0 then
    some ((-1), h)
   else
    gd [GK h t 12, GK h t 12] (
     FX12_undo_L21 t (fun h1 =>
      gd [GK h1 t 12] (
       some ((m_rd h1 t 25), h1))) FU 0 (m_wr h t 25 (m_w32 ((m_rd h t 25) - 1))))))
theorem CX12_undo {d : Nat} {t : Int} {h : MH} {r : Int × MH} (hF : FX12_undo t h = some r) : RN xs L iX12_undo (d) 0 (lvE 0 [.inr (.inr t)]) [] h (RIo r) := by
  unfold FX12_undo at hF
  obtain ⟨hc, hF⟩ := gd_of hF
  refine RN.blk (ops := [(0, .aload_n 0), (1, .getfield 277)]) (pc' := 4) (lv' := [(0, .inr (.inr t))]) (st' := [.inl (m_rd h t 25)]) (h' := h) (cs := [GK h t 12]) (by decide +kernel) rfl hc ?_
  rcases it_of hF with ⟨hb, hF⟩ | ⟨hb, hF⟩
  · refine RN.iff (cd := .ne) (off := 5) (tgt := 9) (by decide +kernel) (mif_nen hb) ?_
    refine RN.blk (ops := [(7, .iconst (-1))]) (pc' := 8) (lv' := [(0, .inr (.inr t))]) (st' := [.inl (-1)]) (h' := h) (cs := []) (by decide +kernel) rfl trivial ?_
    exact RN.iR (by decide +kernel) rfl hF
  · refine RN.ift (cd := .ne) (off := 5) (tgt := 9) (by decide +kernel) (mif_ne hb) ?_
    obtain ⟨hc, hF⟩ := gd_of hF
    refine RN.blk (ops := [(9, .aload_n 0), (10, .dup), (11, .getfield 277), (14, .iconst 1), (15, .isub), (16, .putfield 277), (19, .iconst 0), (20, .istore_n 1)]) (pc' := 21) (lv' := [(1, .inl 0), (0, .inr (.inr t))]) (st' := []) (h' := (m_wr h t 25 (m_w32 ((m_rd h t 25) - 1)))) (cs := [GK h t 12, GK h t 12]) (by decide +kernel) rfl hc ?_
    refine RN.sub (CX12_undo_L21 ?_ _ _ _ hF) (sub_cons rfl (sub_cons rfl sub_nil))
    · intro h1 hF
      obtain ⟨hc, hF⟩ := gd_of hF
      refine RN.blk (ops := [(56, .aload_n 0), (57, .getfield 277)]) (pc' := 60) (lv' := [(0, .inr (.inr t))]) (st' := [.inl (m_rd h1 t 25)]) (h' := h1) (cs := [GK h1 t 12]) (by decide +kernel) rfl hc ?_
      exact RN.iR (by decide +kernel) rfl hF
noncomputable def FX12_turn (t : Int) (h : MH) : Option (Int × MH) :=
  gd [GK h t 12] (bd (FX12_isFrame t h) (fun x2 h1 =>
   (if x2 = 0 then
    some ((-1), h1)
   else
    gd [GK h1 t 12, GI h1 (m_rd h1 t 20) 1 10] (
     (if (m_rd h1 (m_rd h1 t 20) 10) = 999 then
      some ((-1), h1)
     else
      gd [GK h1 t 12] (bv (FX12_keepsAct t h1) (fun h3 =>
       gd [GK h3 t 12] (bd (FX12_passes t h3) (fun x5 h4 =>
        (if x5 < 0 then
         some ((-2), h4)
        else
         some (x5, h4)))))))))))
theorem CX12_turn {d : Nat} {t : Int} {h : MH} {r : Int × MH} (hF : FX12_turn t h = some r) : RN xs L iX12_turn (d + 7) 0 (lvE 0 [.inr (.inr t)]) [] h (RIo r) := by
  unfold FX12_turn at hF
  refine RN.blk (ops := [(0, .aload_n 0)]) (pc' := 1) (lv' := [(0, .inr (.inr t))]) (st' := [.inr (.inr t)]) (h' := h) (cs := []) (by decide +kernel) rfl trivial ?_
  obtain ⟨hc, hF⟩ := gd_of hF
  obtain ⟨x2, h1, hG, hF⟩ := bd_of hF
  refine RN.cv (i := 295) (k := 202) (q2 := iX12_isFrame) (as := [.inr (.inr t)]) (r := []) (v := some (.inl x2)) (h1 := h1) (by decide +kernel) rfl rfl rfl rfl rfl (rcv_ok hc.1) (CX12_isFrame (d := d + 6) hG) ?_
  rcases it_of hF with ⟨hb, hF⟩ | ⟨hb, hF⟩
  · refine RN.ift (cd := .eq) (off := 16) (tgt := 20) (by decide +kernel) (mif_eq hb) ?_
    refine RN.blk (ops := [(20, .iconst (-1))]) (pc' := 21) (lv' := [(0, .inr (.inr t))]) (st' := [.inl (-1)]) (h' := h1) (cs := []) (by decide +kernel) rfl trivial ?_
    exact RN.iR (by decide +kernel) rfl hF
  · refine RN.iff (cd := .eq) (off := 16) (tgt := 20) (by decide +kernel) (mif_eqn hb) ?_
    obtain ⟨hc, hF⟩ := gd_of hF
    refine RN.blk (ops := [(7, .aload_n 0), (8, .getfield 39), (11, .bipush 10), (13, .iaload), (14, .sipush 999)]) (pc' := 17) (lv' := [(0, .inr (.inr t))]) (st' := [.inl 999, .inl (m_rd h1 (m_rd h1 t 20) 10)]) (h' := h1) (cs := [GK h1 t 12, GI h1 (m_rd h1 t 20) 1 10]) (by decide +kernel) rfl hc ?_
    rcases it_of hF with ⟨hb, hF⟩ | ⟨hb, hF⟩
    · refine RN.icf (cd := .ne) (off := 5) (tgt := 22) (by decide +kernel) (mif_nen hb) ?_
      refine RN.blk (ops := [(20, .iconst (-1))]) (pc' := 21) (lv' := [(0, .inr (.inr t))]) (st' := [.inl (-1)]) (h' := h1) (cs := []) (by decide +kernel) rfl trivial ?_
      exact RN.iR (by decide +kernel) rfl hF
    · refine RN.ict (cd := .ne) (off := 5) (tgt := 22) (by decide +kernel) (mif_ne hb) ?_
      refine RN.blk (ops := [(22, .aload_n 0)]) (pc' := 23) (lv' := [(0, .inr (.inr t))]) (st' := [.inr (.inr t)]) (h' := h1) (cs := []) (by decide +kernel) rfl trivial ?_
      obtain ⟨hc, hF⟩ := gd_of hF
      obtain ⟨h3, hG, hF⟩ := bv_of hF
      refine RN.cv (i := 353) (k := 224) (q2 := iX12_keepsAct) (as := [.inr (.inr t)]) (r := []) (v := none) (h1 := h3) (by decide +kernel) rfl rfl rfl rfl rfl (rcv_ok hc.1) (CX12_keepsAct (d := d + 6) hG) ?_
      refine RN.blk (ops := [(26, .aload_n 0)]) (pc' := 27) (lv' := [(0, .inr (.inr t))]) (st' := [.inr (.inr t)]) (h' := h3) (cs := []) (by decide +kernel) rfl trivial ?_
      obtain ⟨hc, hF⟩ := gd_of hF
      obtain ⟨x5, h4, hG, hF⟩ := bd_of hF
      refine RN.cv (i := 350) (k := 222) (q2 := iX12_passes) (as := [.inr (.inr t)]) (r := []) (v := some (.inl x5)) (h1 := h4) (by decide +kernel) rfl rfl rfl rfl rfl (rcv_ok hc.1) (CX12_passes (d := d) hG) ?_
      refine RN.blk (ops := [(30, .istore_n 1), (31, .iload_n 1)]) (pc' := 32) (lv' := [(1, .inl x5), (0, .inr (.inr t))]) (st' := [.inl x5]) (h' := h4) (cs := []) (by decide +kernel) rfl trivial ?_
      rcases it_of hF with ⟨hb, hF⟩ | ⟨hb, hF⟩
      · refine RN.iff (cd := .ge) (off := 8) (tgt := 40) (by decide +kernel) (mif_gen hb) ?_
        refine RN.blk (ops := [(35, .bipush (-2))]) (pc' := 37) (lv' := [(1, .inl x5), (0, .inr (.inr t))]) (st' := [.inl (-2)]) (h' := h4) (cs := []) (by decide +kernel) rfl trivial ?_
        refine RN.goto (off := 4) (tgt := 41) (by decide +kernel) ?_
        exact RN.iR (by decide +kernel) rfl hF
      · refine RN.ift (cd := .ge) (off := 8) (tgt := 40) (by decide +kernel) (mif_ge hb) ?_
        refine RN.blk (ops := [(40, .iload_n 1)]) (pc' := 41) (lv' := [(1, .inl x5), (0, .inr (.inr t))]) (st' := [.inl x5]) (h' := h4) (cs := []) (by decide +kernel) rfl trivial ?_
        exact RN.iR (by decide +kernel) rfl hF
noncomputable def FX12_comes (t : Int) (a1 : Int) (h : MH) : Option (MH) :=
  gd [GK h t 12, GI h (m_rd h t 20) 1 12] (
   (if (m_rd h (m_rd h t 20) 12) = 20 then
    some h
   else
    gd [GK h t 12, GK h t 12, GI h (m_rd h t 20) 1 12, GI h (m_rd h t 20) 1 (m_w32 (26 + (m_rd h (m_rd h t 20) 12))), GK h t 12, GI h (m_rd (m_wr h (m_rd h t 20) (m_w32 (26 + (m_rd h (m_rd h t 20) 12))) a1) t 20) 1 12, GI h (m_rd (m_wr h (m_rd h t 20) (m_w32 (26 + (m_rd h (m_rd h t 20) 12))) a1) t 20) 1 12] (
     some (m_wr (m_wr h (m_rd h t 20) (m_w32 (26 + (m_rd h (m_rd h t 20) 12))) a1) (m_rd (m_wr h (m_rd h t 20) (m_w32 (26 + (m_rd h (m_rd h t 20) 12))) a1) t 20) 12 (m_w32 ((m_rd (m_wr h (m_rd h t 20) (m_w32 (26 + (m_rd h (m_rd h t 20) 12))) a1) (m_rd (m_wr h (m_rd h t 20) (m_w32 (26 + (m_rd h (m_rd h t 20) 12))) a1) t 20) 12) + 1))))))
theorem CX12_comes {d : Nat} {t : Int} {a1 : Int} {h : MH} {r : MH} (hF : FX12_comes t a1 h = some r) : RN xs L iX12_comes (d) 0 (lvE 0 [.inr (.inr t), .inl a1]) [] h (RVo r) := by
  unfold FX12_comes at hF
  obtain ⟨hc, hF⟩ := gd_of hF
  refine RN.blk (ops := [(0, .aload_n 0), (1, .getfield 39), (4, .bipush 12), (6, .iaload), (7, .bipush 20)]) (pc' := 9) (lv' := [(0, .inr (.inr t)), (1, .inl a1)]) (st' := [.inl 20, .inl (m_rd h (m_rd h t 20) 12)]) (h' := h) (cs := [GK h t 12, GI h (m_rd h t 20) 1 12]) (by decide +kernel) rfl hc ?_
  rcases it_of hF with ⟨hb, hF⟩ | ⟨hb, hF⟩
  · refine RN.icf (cd := .ne) (off := 4) (tgt := 13) (by decide +kernel) (mif_nen hb) ?_
    exact RN.vR (by decide +kernel) rfl hF
  · refine RN.ict (cd := .ne) (off := 4) (tgt := 13) (by decide +kernel) (mif_ne hb) ?_
    obtain ⟨hc, hF⟩ := gd_of hF
    refine RN.blk (ops := [(13, .aload_n 0), (14, .getfield 39), (17, .bipush 26), (19, .aload_n 0), (20, .getfield 39), (23, .bipush 12), (25, .iaload), (26, .iadd), (27, .iload_n 1), (28, .iastore), (29, .aload_n 0), (30, .getfield 39), (33, .bipush 12), (35, .dup2), (36, .iaload), (37, .iconst 1), (38, .iadd), (39, .iastore)]) (pc' := 40) (lv' := [(0, .inr (.inr t)), (1, .inl a1)]) (st' := []) (h' := (m_wr (m_wr h (m_rd h t 20) (m_w32 (26 + (m_rd h (m_rd h t 20) 12))) a1) (m_rd (m_wr h (m_rd h t 20) (m_w32 (26 + (m_rd h (m_rd h t 20) 12))) a1) t 20) 12 (m_w32 ((m_rd (m_wr h (m_rd h t 20) (m_w32 (26 + (m_rd h (m_rd h t 20) 12))) a1) (m_rd (m_wr h (m_rd h t 20) (m_w32 (26 + (m_rd h (m_rd h t 20) 12))) a1) t 20) 12) + 1)))) (cs := [GK h t 12, GK h t 12, GI h (m_rd h t 20) 1 12, GI h (m_rd h t 20) 1 (m_w32 (26 + (m_rd h (m_rd h t 20) 12))), GK h t 12, GI h (m_rd (m_wr h (m_rd h t 20) (m_w32 (26 + (m_rd h (m_rd h t 20) 12))) a1) t 20) 1 12, GI h (m_rd (m_wr h (m_rd h t 20) (m_w32 (26 + (m_rd h (m_rd h t 20) 12))) a1) t 20) 1 12]) (by decide +kernel) rfl hc ?_
    exact RN.vR (by decide +kernel) rfl hF
noncomputable def FX12_post (t : Int) (a1 : Int) (h : MH) : Option (Int × MH) :=
  gd [GK h t 12] (bd (FX12_isCode t a1 h) (fun x2 h1 =>
   (if x2 = 0 then
    some ((-1), h1)
   else
    gd [GK h1 t 12, GI h1 (m_rd h1 t 20) 1 12] (
     (if (m_rd h1 (m_rd h1 t 20) 12) = 20 then
      some ((-1), h1)
     else
      gd [GK h1 t 12] (bv (FX12_keepsAct t h1) (fun h3 =>
       gd [GK h3 t 12] (bv (FX12_comes t a1 h3) (fun h4 =>
        gd [GK h4 t 12, GI h4 (m_rd h4 t 20) 1 12] (
         some ((m_rd h4 (m_rd h4 t 20) 12), h4)))))))))))
theorem CX12_post {d : Nat} {t : Int} {a1 : Int} {h : MH} {r : Int × MH} (hF : FX12_post t a1 h = some r) : RN xs L iX12_post (d + 3) 0 (lvE 0 [.inr (.inr t), .inl a1]) [] h (RIo r) := by
  unfold FX12_post at hF
  refine RN.blk (ops := [(0, .aload_n 0), (1, .iload_n 1)]) (pc' := 2) (lv' := [(0, .inr (.inr t)), (1, .inl a1)]) (st' := [.inl a1, .inr (.inr t)]) (h' := h) (cs := []) (by decide +kernel) rfl trivial ?_
  obtain ⟨hc, hF⟩ := gd_of hF
  obtain ⟨x2, h1, hG, hF⟩ := bd_of hF
  refine RN.cv (i := 356) (k := 206) (q2 := iX12_isCode) (as := [.inr (.inr t), .inl a1]) (r := []) (v := some (.inl x2)) (h1 := h1) (by decide +kernel) rfl rfl rfl rfl rfl (rcv_ok hc.1) (CX12_isCode (d := d) hG) ?_
  rcases it_of hF with ⟨hb, hF⟩ | ⟨hb, hF⟩
  · refine RN.ift (cd := .eq) (off := 15) (tgt := 20) (by decide +kernel) (mif_eq hb) ?_
    refine RN.blk (ops := [(20, .iconst (-1))]) (pc' := 21) (lv' := [(0, .inr (.inr t)), (1, .inl a1)]) (st' := [.inl (-1)]) (h' := h1) (cs := []) (by decide +kernel) rfl trivial ?_
    exact RN.iR (by decide +kernel) rfl hF
  · refine RN.iff (cd := .eq) (off := 15) (tgt := 20) (by decide +kernel) (mif_eqn hb) ?_
    obtain ⟨hc, hF⟩ := gd_of hF
    refine RN.blk (ops := [(8, .aload_n 0), (9, .getfield 39), (12, .bipush 12), (14, .iaload), (15, .bipush 20)]) (pc' := 17) (lv' := [(0, .inr (.inr t)), (1, .inl a1)]) (st' := [.inl 20, .inl (m_rd h1 (m_rd h1 t 20) 12)]) (h' := h1) (cs := [GK h1 t 12, GI h1 (m_rd h1 t 20) 1 12]) (by decide +kernel) rfl hc ?_
    rcases it_of hF with ⟨hb, hF⟩ | ⟨hb, hF⟩
    · refine RN.icf (cd := .ne) (off := 5) (tgt := 22) (by decide +kernel) (mif_nen hb) ?_
      refine RN.blk (ops := [(20, .iconst (-1))]) (pc' := 21) (lv' := [(0, .inr (.inr t)), (1, .inl a1)]) (st' := [.inl (-1)]) (h' := h1) (cs := []) (by decide +kernel) rfl trivial ?_
      exact RN.iR (by decide +kernel) rfl hF
    · refine RN.ict (cd := .ne) (off := 5) (tgt := 22) (by decide +kernel) (mif_ne hb) ?_
      refine RN.blk (ops := [(22, .aload_n 0)]) (pc' := 23) (lv' := [(0, .inr (.inr t)), (1, .inl a1)]) (st' := [.inr (.inr t)]) (h' := h1) (cs := []) (by decide +kernel) rfl trivial ?_
      obtain ⟨hc, hF⟩ := gd_of hF
      obtain ⟨h3, hG, hF⟩ := bv_of hF
      refine RN.cv (i := 353) (k := 224) (q2 := iX12_keepsAct) (as := [.inr (.inr t)]) (r := []) (v := none) (h1 := h3) (by decide +kernel) rfl rfl rfl rfl rfl (rcv_ok hc.1) (CX12_keepsAct (d := d + 2) hG) ?_
      refine RN.blk (ops := [(26, .aload_n 0), (27, .iload_n 1)]) (pc' := 28) (lv' := [(0, .inr (.inr t)), (1, .inl a1)]) (st' := [.inl a1, .inr (.inr t)]) (h' := h3) (cs := []) (by decide +kernel) rfl trivial ?_
      obtain ⟨hc, hF⟩ := gd_of hF
      obtain ⟨h4, hG, hF⟩ := bv_of hF
      refine RN.cv (i := 359) (k := 227) (q2 := iX12_comes) (as := [.inr (.inr t), .inl a1]) (r := []) (v := none) (h1 := h4) (by decide +kernel) rfl rfl rfl rfl rfl (rcv_ok hc.1) (CX12_comes (d := d + 2) hG) ?_
      obtain ⟨hc, hF⟩ := gd_of hF
      refine RN.blk (ops := [(31, .aload_n 0), (32, .getfield 39), (35, .bipush 12), (37, .iaload)]) (pc' := 38) (lv' := [(0, .inr (.inr t)), (1, .inl a1)]) (st' := [.inl (m_rd h4 (m_rd h4 t 20) 12)]) (h' := h4) (cs := [GK h4 t 12, GI h4 (m_rd h4 t 20) 1 12]) (by decide +kernel) rfl hc ?_
      exact RN.iR (by decide +kernel) rfl hF
noncomputable def FX12_tie (t : Int) (a1 : Int) (h : MH) : Option (Int × MH) :=
  gd [GK h t 12] (bd (FX12_isHole t a1 h) (fun x2 h1 =>
   (if x2 = 0 then
    some ((-1), h1)
   else
    gd [GK h1 t 12, GI h1 (m_rd h1 t 20) 1 (m_w32 (14 + a1))] (
     (if (m_rd h1 (m_rd h1 t 20) (m_w32 (14 + a1))) = 0 then
      some ((-1), h1)
     else
      gd [GK h1 t 12] (bv (FX12_keepsAct t h1) (fun h3 =>
       gd [GK h3 t 12, GI h3 (m_rd h3 t 20) 1 (m_w32 (14 + a1))] (
        gd [GK h3 t 12] (bv (FX12_ties t a1 h3) (fun h4 =>
         some ((m_rd h3 (m_rd h3 t 20) (m_w32 (14 + a1))), h4)))))))))))
theorem CX12_tie {d : Nat} {t : Int} {a1 : Int} {h : MH} {r : Int × MH} (hF : FX12_tie t a1 h = some r) : RN xs L iX12_tie (d + 1) 0 (lvE 0 [.inr (.inr t), .inl a1]) [] h (RIo r) := by
  unfold FX12_tie at hF
  refine RN.blk (ops := [(0, .aload_n 0), (1, .iload_n 1)]) (pc' := 2) (lv' := [(0, .inr (.inr t)), (1, .inl a1)]) (st' := [.inl a1, .inr (.inr t)]) (h' := h) (cs := []) (by decide +kernel) rfl trivial ?_
  obtain ⟨hc, hF⟩ := gd_of hF
  obtain ⟨x2, h1, hG, hF⟩ := bd_of hF
  refine RN.cv (i := 310) (k := 204) (q2 := iX12_isHole) (as := [.inr (.inr t), .inl a1]) (r := []) (v := some (.inl x2)) (h1 := h1) (by decide +kernel) rfl rfl rfl rfl rfl (rcv_ok hc.1) (CX12_isHole (d := d) hG) ?_
  rcases it_of hF with ⟨hb, hF⟩ | ⟨hb, hF⟩
  · refine RN.ift (cd := .eq) (off := 15) (tgt := 20) (by decide +kernel) (mif_eq hb) ?_
    refine RN.blk (ops := [(20, .iconst (-1))]) (pc' := 21) (lv' := [(0, .inr (.inr t)), (1, .inl a1)]) (st' := [.inl (-1)]) (h' := h1) (cs := []) (by decide +kernel) rfl trivial ?_
    exact RN.iR (by decide +kernel) rfl hF
  · refine RN.iff (cd := .eq) (off := 15) (tgt := 20) (by decide +kernel) (mif_eqn hb) ?_
    obtain ⟨hc, hF⟩ := gd_of hF
    refine RN.blk (ops := [(8, .aload_n 0), (9, .getfield 39), (12, .bipush 14), (14, .iload_n 1), (15, .iadd), (16, .iaload)]) (pc' := 17) (lv' := [(0, .inr (.inr t)), (1, .inl a1)]) (st' := [.inl (m_rd h1 (m_rd h1 t 20) (m_w32 (14 + a1)))]) (h' := h1) (cs := [GK h1 t 12, GI h1 (m_rd h1 t 20) 1 (m_w32 (14 + a1))]) (by decide +kernel) rfl hc ?_
    rcases it_of hF with ⟨hb, hF⟩ | ⟨hb, hF⟩
    · refine RN.iff (cd := .ne) (off := 5) (tgt := 22) (by decide +kernel) (mif_nen hb) ?_
      refine RN.blk (ops := [(20, .iconst (-1))]) (pc' := 21) (lv' := [(0, .inr (.inr t)), (1, .inl a1)]) (st' := [.inl (-1)]) (h' := h1) (cs := []) (by decide +kernel) rfl trivial ?_
      exact RN.iR (by decide +kernel) rfl hF
    · refine RN.ift (cd := .ne) (off := 5) (tgt := 22) (by decide +kernel) (mif_ne hb) ?_
      refine RN.blk (ops := [(22, .aload_n 0)]) (pc' := 23) (lv' := [(0, .inr (.inr t)), (1, .inl a1)]) (st' := [.inr (.inr t)]) (h' := h1) (cs := []) (by decide +kernel) rfl trivial ?_
      obtain ⟨hc, hF⟩ := gd_of hF
      obtain ⟨h3, hG, hF⟩ := bv_of hF
      refine RN.cv (i := 353) (k := 224) (q2 := iX12_keepsAct) (as := [.inr (.inr t)]) (r := []) (v := none) (h1 := h3) (by decide +kernel) rfl rfl rfl rfl rfl (rcv_ok hc.1) (CX12_keepsAct (d := d) hG) ?_
      obtain ⟨hc, hF⟩ := gd_of hF
      refine RN.blk (ops := [(26, .aload_n 0), (27, .getfield 39), (30, .bipush 14), (32, .iload_n 1), (33, .iadd), (34, .iaload), (35, .istore_n 2), (36, .aload_n 0), (37, .iload_n 1)]) (pc' := 38) (lv' := [(2, .inl (m_rd h3 (m_rd h3 t 20) (m_w32 (14 + a1)))), (0, .inr (.inr t)), (1, .inl a1)]) (st' := [.inl a1, .inr (.inr t)]) (h' := h3) (cs := [GK h3 t 12, GI h3 (m_rd h3 t 20) 1 (m_w32 (14 + a1))]) (by decide +kernel) rfl hc ?_
      obtain ⟨hc, hF⟩ := gd_of hF
      obtain ⟨h4, hG, hF⟩ := bv_of hF
      refine RN.cv (i := 338) (k := 219) (q2 := iX12_ties) (as := [.inr (.inr t), .inl a1]) (r := []) (v := none) (h1 := h4) (by decide +kernel) rfl rfl rfl rfl rfl (rcv_ok hc.1) (CX12_ties (d := d) hG) ?_
      refine RN.blk (ops := [(41, .iload_n 2)]) (pc' := 42) (lv' := [(2, .inl (m_rd h3 (m_rd h3 t 20) (m_w32 (14 + a1)))), (0, .inr (.inr t)), (1, .inl a1)]) (st' := [.inl (m_rd h3 (m_rd h3 t 20) (m_w32 (14 + a1)))]) (h' := h4) (cs := []) (by decide +kernel) rfl trivial ?_
      exact RN.iR (by decide +kernel) rfl hF
noncomputable def FX12_numberOf_L2 (u0 : Int) (u1 : Int) (u2 : Int) (K0 : Int → MH → Option (Int × MH)) : Nat → Int → MH → Option (Int × MH)
  | 0, _, _ => none
  | f + 1, v3, h =>
    gd [GK h u0 12, GI h (m_rd h u0 20) 1 13] (
     (if v3 < (m_rd h (m_rd h u0 20) 13) then
      gd [GK h u0 12, GI h (m_rd h u0 20) 1 (m_w32 (46 + (m_w32 (3 * v3))))] (
       (if (m_rd h (m_rd h u0 20) (m_w32 (46 + (m_w32 (3 * v3))))) = u1 then
        gd [GK h u0 12, GI h (m_rd h u0 20) 1 (m_w32 ((m_w32 (46 + (m_w32 (3 * v3)))) + 1))] (
         (if (m_rd h (m_rd h u0 20) (m_w32 ((m_w32 (46 + (m_w32 (3 * v3)))) + 1))) = u2 then
          K0 v3 h
         else
          FX12_numberOf_L2 u0 u1 u2 K0 f (m_w32 (v3 + 1)) h))
       else
        FX12_numberOf_L2 u0 u1 u2 K0 f (m_w32 (v3 + 1)) h))
     else
      K0 v3 h))
theorem CX12_numberOf_L2 {d : Nat} {u0 : Int} {u1 : Int} {u2 : Int} {K0 : Int → MH → Option (Int × MH)} {r : Int × MH} (hK0 : ∀ (w3 : Int) (h : MH), K0 w3 h = some r → RN xs L iX12_numberOf (d) 51 [(3, .inl w3)] [] h (RIo r)) : ∀ (f : Nat) (v3 : Int) (h : MH), FX12_numberOf_L2 u0 u1 u2 K0 f v3 h = some r → RN xs L iX12_numberOf (d) 2 [(0, .inr (.inr u0)), (1, .inl u1), (2, .inl u2), (3, .inl v3)] [] h (RIo r) := by
  intro f
  induction f with
  | zero =>
    intro v3 h hF
    cases hF
  | succ f ih =>
    intro v3 h hF
    unfold FX12_numberOf_L2 at hF
    obtain ⟨hc, hF⟩ := gd_of hF
    refine RN.blk (ops := [(2, .iload_n 3), (3, .aload_n 0), (4, .getfield 39), (7, .bipush 13), (9, .iaload)]) (pc' := 10) (lv' := [(0, .inr (.inr u0)), (1, .inl u1), (2, .inl u2), (3, .inl v3)]) (st' := [.inl (m_rd h (m_rd h u0 20) 13), .inl v3]) (h' := h) (cs := [GK h u0 12, GI h (m_rd h u0 20) 1 13]) (by decide +kernel) rfl hc ?_
    rcases it_of hF with ⟨hb, hF⟩ | ⟨hb, hF⟩
    · refine RN.icf (cd := .ge) (off := 41) (tgt := 51) (by decide +kernel) (mif_gen hb) ?_
      obtain ⟨hc, hF⟩ := gd_of hF
      refine RN.blk (ops := [(13, .aload_n 0), (14, .getfield 39), (17, .bipush 46), (19, .iconst 3), (20, .iload_n 3), (21, .imul), (22, .iadd), (23, .iaload), (24, .iload_n 1)]) (pc' := 25) (lv' := [(0, .inr (.inr u0)), (1, .inl u1), (2, .inl u2), (3, .inl v3)]) (st' := [.inl u1, .inl (m_rd h (m_rd h u0 20) (m_w32 (46 + (m_w32 (3 * v3)))))]) (h' := h) (cs := [GK h u0 12, GI h (m_rd h u0 20) 1 (m_w32 (46 + (m_w32 (3 * v3))))]) (by decide +kernel) rfl hc ?_
      rcases it_of hF with ⟨hb, hF⟩ | ⟨hb, hF⟩
      · refine RN.icf (cd := .ne) (off := 20) (tgt := 45) (by decide +kernel) (mif_nen hb) ?_
        obtain ⟨hc, hF⟩ := gd_of hF
        refine RN.blk (ops := [(28, .aload_n 0), (29, .getfield 39), (32, .bipush 46), (34, .iconst 3), (35, .iload_n 3), (36, .imul), (37, .iadd), (38, .iconst 1), (39, .iadd), (40, .iaload), (41, .iload_n 2)]) (pc' := 42) (lv' := [(0, .inr (.inr u0)), (1, .inl u1), (2, .inl u2), (3, .inl v3)]) (st' := [.inl u2, .inl (m_rd h (m_rd h u0 20) (m_w32 ((m_w32 (46 + (m_w32 (3 * v3)))) + 1)))]) (h' := h) (cs := [GK h u0 12, GI h (m_rd h u0 20) 1 (m_w32 ((m_w32 (46 + (m_w32 (3 * v3)))) + 1))]) (by decide +kernel) rfl hc ?_
        rcases it_of hF with ⟨hb, hF⟩ | ⟨hb, hF⟩
        · refine RN.ict (cd := .eq) (off := 9) (tgt := 51) (by decide +kernel) (mif_eq hb) ?_
          exact RN.sub (hK0 _ _ hF) (sub_cons rfl sub_nil)
        · refine RN.icf (cd := .eq) (off := 9) (tgt := 51) (by decide +kernel) (mif_eqn hb) ?_
          refine RN.blk (ops := [(45, .iinc 3 1)]) (pc' := 48) (lv' := [(3, .inl (m_w32 (v3 + 1))), (0, .inr (.inr u0)), (1, .inl u1), (2, .inl u2)]) (st' := []) (h' := h) (cs := []) (by decide +kernel) rfl trivial ?_
          refine RN.goto (off := -46) (tgt := 2) (by decide +kernel) ?_
          exact RN.sub (ih _ _ hF) (sub_cons rfl (sub_cons rfl (sub_cons rfl (sub_cons rfl sub_nil))))
      · refine RN.ict (cd := .ne) (off := 20) (tgt := 45) (by decide +kernel) (mif_ne hb) ?_
        refine RN.blk (ops := [(45, .iinc 3 1)]) (pc' := 48) (lv' := [(3, .inl (m_w32 (v3 + 1))), (0, .inr (.inr u0)), (1, .inl u1), (2, .inl u2)]) (st' := []) (h' := h) (cs := []) (by decide +kernel) rfl trivial ?_
        refine RN.goto (off := -46) (tgt := 2) (by decide +kernel) ?_
        exact RN.sub (ih _ _ hF) (sub_cons rfl (sub_cons rfl (sub_cons rfl (sub_cons rfl sub_nil))))
    · refine RN.ict (cd := .ge) (off := 41) (tgt := 51) (by decide +kernel) (mif_ge hb) ?_
      exact RN.sub (hK0 _ _ hF) (sub_cons rfl sub_nil)
noncomputable def FX12_numberOf (t : Int) (a1 : Int) (a2 : Int) (h : MH) : Option (Int × MH) :=
  FX12_numberOf_L2 t a1 a2 (fun w1 h2 =>
   some (w1, h2)) FU 0 h
theorem CX12_numberOf {d : Nat} {t : Int} {a1 : Int} {a2 : Int} {h : MH} {r : Int × MH} (hF : FX12_numberOf t a1 a2 h = some r) : RN xs L iX12_numberOf (d) 0 (lvE 0 [.inr (.inr t), .inl a1, .inl a2]) [] h (RIo r) := by
  unfold FX12_numberOf at hF
  refine RN.blk (ops := [(0, .iconst 0), (1, .istore_n 3)]) (pc' := 2) (lv' := [(3, .inl 0), (0, .inr (.inr t)), (1, .inl a1), (2, .inl a2)]) (st' := []) (h' := h) (cs := []) (by decide +kernel) rfl trivial ?_
  refine RN.sub (CX12_numberOf_L2 ?_ _ _ _ hF) (sub_cons rfl (sub_cons rfl (sub_cons rfl (sub_cons rfl sub_nil))))
  · intro w1 h2 hF
    refine RN.blk (ops := [(51, .iload_n 3)]) (pc' := 52) (lv' := [(3, .inl w1)]) (st' := [.inl w1]) (h' := h2) (cs := []) (by decide +kernel) rfl trivial ?_
    exact RN.iR (by decide +kernel) rfl hF
noncomputable def FX12_canEnter (t : Int) (a1 : Int) (a2 : Int) (a3 : Int) (h : MH) : Option (Int × MH) :=
  gd [GK h t 12] (bd (FX12_isFrame t h) (fun x2 h1 =>
   (if x2 = 0 then
    some (0, h1)
   else
    gd [GK h1 t 12, GI h1 (m_rd h1 t 20) 1 2] (
     (bd (FX12_in a1 0 (m_rd h1 (m_rd h1 t 20) 2) h1) (fun x4 h3 =>
      (if x4 = 0 then
       some (0, h3)
      else
       gd [GK h3 t 12] (bd (FX12_isHole t a3 h3) (fun x6 h5 =>
        (if x6 = 0 then
         some (0, h5)
        else
         gd [GK h5 t 12, GI h5 (m_rd h5 t 20) 1 1] (
          (bd (FX12_power (m_rd h5 (m_rd h5 t 20) 1) a1 h5) (fun x8 h7 =>
           (bd (FX12_in a2 0 (m_w32 (x8 - 1)) h7) (fun x10 h9 =>
            (if x10 = 0 then
             some (0, h9)
            else
             gd [GK h9 t 12] (bd (FX12_numberOf t a1 a2 h9) (fun x12 h11 =>
              (if x12 < 12 then
               some (1, h11)
              else
               some (0, h11))))))))))))))))))))
theorem CX12_canEnter {d : Nat} {t : Int} {a1 : Int} {a2 : Int} {a3 : Int} {h : MH} {r : Int × MH} (hF : FX12_canEnter t a1 a2 a3 h = some r) : RN xs L iX12_canEnter (d + 1) 0 (lvE 0 [.inr (.inr t), .inl a1, .inl a2, .inl a3]) [] h (RIo r) := by
  unfold FX12_canEnter at hF
  refine RN.blk (ops := [(0, .aload_n 0)]) (pc' := 1) (lv' := [(0, .inr (.inr t)), (1, .inl a1), (2, .inl a2), (3, .inl a3)]) (st' := [.inr (.inr t)]) (h' := h) (cs := []) (by decide +kernel) rfl trivial ?_
  obtain ⟨hc, hF⟩ := gd_of hF
  obtain ⟨x2, h1, hG, hF⟩ := bd_of hF
  refine RN.cv (i := 295) (k := 202) (q2 := iX12_isFrame) (as := [.inr (.inr t)]) (r := []) (v := some (.inl x2)) (h1 := h1) (by decide +kernel) rfl rfl rfl rfl rfl (rcv_ok hc.1) (CX12_isFrame (d := d) hG) ?_
  rcases it_of hF with ⟨hb, hF⟩ | ⟨hb, hF⟩
  · refine RN.ift (cd := .eq) (off := 27) (tgt := 31) (by decide +kernel) (mif_eq hb) ?_
    refine RN.blk (ops := [(31, .iconst 0)]) (pc' := 32) (lv' := [(0, .inr (.inr t)), (1, .inl a1), (2, .inl a2), (3, .inl a3)]) (st' := [.inl 0]) (h' := h1) (cs := []) (by decide +kernel) rfl trivial ?_
    exact RN.zR (by decide +kernel) rfl (Or.inl rfl) hF
  · refine RN.iff (cd := .eq) (off := 27) (tgt := 31) (by decide +kernel) (mif_eqn hb) ?_
    obtain ⟨hc, hF⟩ := gd_of hF
    refine RN.blk (ops := [(7, .iload_n 1), (8, .i2l), (9, .lconst 0), (10, .aload_n 0), (11, .getfield 39), (14, .iconst 2), (15, .iaload), (16, .i2l)]) (pc' := 17) (lv' := [(0, .inr (.inr t)), (1, .inl a1), (2, .inl a2), (3, .inl a3)]) (st' := [.inr (.inl (m_rd h1 (m_rd h1 t 20) 2)), .inr (.inl 0), .inr (.inl a1)]) (h' := h1) (cs := [GK h1 t 12, GI h1 (m_rd h1 t 20) 1 2]) (by decide +kernel) rfl hc ?_
    obtain ⟨x4, h3, hG, hF⟩ := bd_of hF
    refine RN.cst (i := 127) (k := 156) (q2 := iX12_in) (as := [.inr (.inl a1), .inr (.inl 0), .inr (.inl (m_rd h1 (m_rd h1 t 20) 2))]) (r := []) (v := some (.inl x4)) (h1 := h3) (by decide +kernel) rfl rfl rfl rfl rfl (CX12_in (d := d) hG) ?_
    rcases it_of hF with ⟨hb, hF⟩ | ⟨hb, hF⟩
    · refine RN.ift (cd := .eq) (off := 11) (tgt := 31) (by decide +kernel) (mif_eq hb) ?_
      refine RN.blk (ops := [(31, .iconst 0)]) (pc' := 32) (lv' := [(0, .inr (.inr t)), (1, .inl a1), (2, .inl a2), (3, .inl a3)]) (st' := [.inl 0]) (h' := h3) (cs := []) (by decide +kernel) rfl trivial ?_
      exact RN.zR (by decide +kernel) rfl (Or.inl rfl) hF
    · refine RN.iff (cd := .eq) (off := 11) (tgt := 31) (by decide +kernel) (mif_eqn hb) ?_
      refine RN.blk (ops := [(23, .aload_n 0), (24, .iload_n 3)]) (pc' := 25) (lv' := [(0, .inr (.inr t)), (1, .inl a1), (2, .inl a2), (3, .inl a3)]) (st' := [.inl a3, .inr (.inr t)]) (h' := h3) (cs := []) (by decide +kernel) rfl trivial ?_
      obtain ⟨hc, hF⟩ := gd_of hF
      obtain ⟨x6, h5, hG, hF⟩ := bd_of hF
      refine RN.cv (i := 310) (k := 204) (q2 := iX12_isHole) (as := [.inr (.inr t), .inl a3]) (r := []) (v := some (.inl x6)) (h1 := h5) (by decide +kernel) rfl rfl rfl rfl rfl (rcv_ok hc.1) (CX12_isHole (d := d) hG) ?_
      rcases it_of hF with ⟨hb, hF⟩ | ⟨hb, hF⟩
      · refine RN.iff (cd := .ne) (off := 5) (tgt := 33) (by decide +kernel) (mif_nen hb) ?_
        refine RN.blk (ops := [(31, .iconst 0)]) (pc' := 32) (lv' := [(0, .inr (.inr t)), (1, .inl a1), (2, .inl a2), (3, .inl a3)]) (st' := [.inl 0]) (h' := h5) (cs := []) (by decide +kernel) rfl trivial ?_
        exact RN.zR (by decide +kernel) rfl (Or.inl rfl) hF
      · refine RN.ift (cd := .ne) (off := 5) (tgt := 33) (by decide +kernel) (mif_ne hb) ?_
        obtain ⟨hc, hF⟩ := gd_of hF
        refine RN.blk (ops := [(33, .iload_n 2), (34, .i2l), (35, .lconst 0), (36, .aload_n 0), (37, .getfield 39), (40, .iconst 1), (41, .iaload), (42, .iload_n 1)]) (pc' := 43) (lv' := [(0, .inr (.inr t)), (1, .inl a1), (2, .inl a2), (3, .inl a3)]) (st' := [.inl a1, .inl (m_rd h5 (m_rd h5 t 20) 1), .inr (.inl 0), .inr (.inl a2)]) (h' := h5) (cs := [GK h5 t 12, GI h5 (m_rd h5 t 20) 1 1]) (by decide +kernel) rfl hc ?_
        obtain ⟨x8, h7, hG, hF⟩ := bd_of hF
        refine RN.cst (i := 229) (k := 159) (q2 := iX12_power) (as := [.inl (m_rd h5 (m_rd h5 t 20) 1), .inl a1]) (r := [.inr (.inl 0), .inr (.inl a2)]) (v := some (.inl x8)) (h1 := h7) (by decide +kernel) rfl rfl rfl rfl rfl (CX12_power (d := d) hG) ?_
        refine RN.blk (ops := [(46, .iconst 1), (47, .isub), (48, .i2l)]) (pc' := 49) (lv' := [(0, .inr (.inr t)), (1, .inl a1), (2, .inl a2), (3, .inl a3)]) (st' := [.inr (.inl (m_w32 (x8 - 1))), .inr (.inl 0), .inr (.inl a2)]) (h' := h7) (cs := []) (by decide +kernel) rfl trivial ?_
        obtain ⟨x10, h9, hG, hF⟩ := bd_of hF
        refine RN.cst (i := 127) (k := 156) (q2 := iX12_in) (as := [.inr (.inl a2), .inr (.inl 0), .inr (.inl (m_w32 (x8 - 1)))]) (r := []) (v := some (.inl x10)) (h1 := h9) (by decide +kernel) rfl rfl rfl rfl rfl (CX12_in (d := d) hG) ?_
        rcases it_of hF with ⟨hb, hF⟩ | ⟨hb, hF⟩
        · refine RN.ift (cd := .eq) (off := 18) (tgt := 70) (by decide +kernel) (mif_eq hb) ?_
          refine RN.blk (ops := [(70, .iconst 0)]) (pc' := 71) (lv' := [(0, .inr (.inr t)), (1, .inl a1), (2, .inl a2), (3, .inl a3)]) (st' := [.inl 0]) (h' := h9) (cs := []) (by decide +kernel) rfl trivial ?_
          exact RN.zR (by decide +kernel) rfl (Or.inl rfl) hF
        · refine RN.iff (cd := .eq) (off := 18) (tgt := 70) (by decide +kernel) (mif_eqn hb) ?_
          refine RN.blk (ops := [(55, .aload_n 0), (56, .iload_n 1), (57, .iload_n 2)]) (pc' := 58) (lv' := [(0, .inr (.inr t)), (1, .inl a1), (2, .inl a2), (3, .inl a3)]) (st' := [.inl a2, .inl a1, .inr (.inr t)]) (h' := h9) (cs := []) (by decide +kernel) rfl trivial ?_
          obtain ⟨hc, hF⟩ := gd_of hF
          obtain ⟨x12, h11, hG, hF⟩ := bd_of hF
          refine RN.cv (i := 362) (k := 230) (q2 := iX12_numberOf) (as := [.inr (.inr t), .inl a1, .inl a2]) (r := []) (v := some (.inl x12)) (h1 := h11) (by decide +kernel) rfl rfl rfl rfl rfl (rcv_ok hc.1) (CX12_numberOf (d := d) hG) ?_
          refine RN.blk (ops := [(61, .bipush 12)]) (pc' := 63) (lv' := [(0, .inr (.inr t)), (1, .inl a1), (2, .inl a2), (3, .inl a3)]) (st' := [.inl 12, .inl x12]) (h' := h11) (cs := []) (by decide +kernel) rfl trivial ?_
          rcases it_of hF with ⟨hb, hF⟩ | ⟨hb, hF⟩
          · refine RN.icf (cd := .ge) (off := 7) (tgt := 70) (by decide +kernel) (mif_gen hb) ?_
            refine RN.blk (ops := [(66, .iconst 1)]) (pc' := 67) (lv' := [(0, .inr (.inr t)), (1, .inl a1), (2, .inl a2), (3, .inl a3)]) (st' := [.inl 1]) (h' := h11) (cs := []) (by decide +kernel) rfl trivial ?_
            refine RN.goto (off := 4) (tgt := 71) (by decide +kernel) ?_
            exact RN.zR (by decide +kernel) rfl (Or.inr rfl) hF
          · refine RN.ict (cd := .ge) (off := 7) (tgt := 70) (by decide +kernel) (mif_ge hb) ?_
            refine RN.blk (ops := [(70, .iconst 0)]) (pc' := 71) (lv' := [(0, .inr (.inr t)), (1, .inl a1), (2, .inl a2), (3, .inl a3)]) (st' := [.inl 0]) (h' := h11) (cs := []) (by decide +kernel) rfl trivial ?_
            exact RN.zR (by decide +kernel) rfl (Or.inl rfl) hF
noncomputable def FX12_enters (t : Int) (a1 : Int) (a2 : Int) (a3 : Int) (h : MH) : Option (Int × MH) :=
  gd [GK h t 12] (bd (FX12_numberOf t a1 a2 h) (fun x2 h1 =>
   gd [GK h1 t 12, GI h1 (m_rd h1 t 20) 1 13] (
    jn (fun (h4 : MH) =>
     gd [GK h4 t 12, GI h4 (m_rd h4 t 20) 1 (m_w32 (46 + (m_w32 (3 * x2)))), GK h4 t 12, GI h4 (m_rd (m_wr h4 (m_rd h4 t 20) (m_w32 (46 + (m_w32 (3 * x2)))) a1) t 20) 1 (m_w32 ((m_w32 (46 + (m_w32 (3 * x2)))) + 1))] (
      hl (m_wr (m_wr h4 (m_rd h4 t 20) (m_w32 (46 + (m_w32 (3 * x2)))) a1) (m_rd (m_wr h4 (m_rd h4 t 20) (m_w32 (46 + (m_w32 (3 * x2)))) a1) t 20) (m_w32 ((m_w32 (46 + (m_w32 (3 * x2)))) + 1)) a2) (fun h5 =>
       gd [GK h5 t 12, GI h5 (m_rd h5 t 20) 1 (m_w32 ((m_w32 (46 + (m_w32 (3 * x2)))) + 2))] (
        hl (m_wr h5 (m_rd h5 t 20) (m_w32 ((m_w32 (46 + (m_w32 (3 * x2)))) + 2)) a3) (fun h6 =>
         some (x2, h6)))))) (fun j3 =>
     (if x2 = (m_rd h1 (m_rd h1 t 20) 13) then
      gd [GK h1 t 12, GI h1 (m_rd h1 t 20) 1 13, GI h1 (m_rd h1 t 20) 1 13] (
       j3 (m_wr h1 (m_rd h1 t 20) 13 (m_w32 ((m_rd h1 (m_rd h1 t 20) 13) + 1))))
     else
      j3 h1)))))
theorem CX12_enters {d : Nat} {t : Int} {a1 : Int} {a2 : Int} {a3 : Int} {h : MH} {r : Int × MH} (hF : FX12_enters t a1 a2 a3 h = some r) : RN xs L iX12_enters (d + 1) 0 (lvE 0 [.inr (.inr t), .inl a1, .inl a2, .inl a3]) [] h (RIo r) := by
  unfold FX12_enters at hF
  refine RN.blk (ops := [(0, .aload_n 0), (1, .iload_n 1), (2, .iload_n 2)]) (pc' := 3) (lv' := [(0, .inr (.inr t)), (1, .inl a1), (2, .inl a2), (3, .inl a3)]) (st' := [.inl a2, .inl a1, .inr (.inr t)]) (h' := h) (cs := []) (by decide +kernel) rfl trivial ?_
  obtain ⟨hc, hF⟩ := gd_of hF
  obtain ⟨x2, h1, hG, hF⟩ := bd_of hF
  refine RN.cv (i := 362) (k := 230) (q2 := iX12_numberOf) (as := [.inr (.inr t), .inl a1, .inl a2]) (r := []) (v := some (.inl x2)) (h1 := h1) (by decide +kernel) rfl rfl rfl rfl rfl (rcv_ok hc.1) (CX12_numberOf (d := d) hG) ?_
  obtain ⟨hc, hF⟩ := gd_of hF
  refine RN.blk (ops := [(6, .istore 4), (8, .iload 4), (10, .aload_n 0), (11, .getfield 39), (14, .bipush 13), (16, .iaload)]) (pc' := 17) (lv' := [(4, .inl x2), (0, .inr (.inr t)), (1, .inl a1), (2, .inl a2), (3, .inl a3)]) (st' := [.inl (m_rd h1 (m_rd h1 t 20) 13), .inl x2]) (h' := h1) (cs := [GK h1 t 12, GI h1 (m_rd h1 t 20) 1 13]) (by decide +kernel) rfl hc ?_
  refine jn_use (fun j3 => ∀ (h4 : MH), j3 h4 = some r → RN xs L iX12_enters (d + 1) 31 [(0, .inr (.inr t)), (1, .inl a1), (2, .inl a2), (3, .inl a3), (4, .inl x2)] [] h4 (RIo r)) ?_ ?_ hF
  · intro h4 hF
    obtain ⟨hc, hF⟩ := gd_of hF
    refine RN.blk (ops := [(31, .aload_n 0), (32, .getfield 39), (35, .bipush 46), (37, .iconst 3), (38, .iload 4), (40, .imul), (41, .iadd), (42, .iload_n 1), (43, .iastore), (44, .aload_n 0), (45, .getfield 39), (48, .bipush 46), (50, .iconst 3), (51, .iload 4), (53, .imul), (54, .iadd), (55, .iconst 1), (56, .iadd), (57, .iload_n 2), (58, .iastore)]) (pc' := 59) (lv' := [(0, .inr (.inr t)), (1, .inl a1), (2, .inl a2), (3, .inl a3), (4, .inl x2)]) (st' := []) (h' := (m_wr (m_wr h4 (m_rd h4 t 20) (m_w32 (46 + (m_w32 (3 * x2)))) a1) (m_rd (m_wr h4 (m_rd h4 t 20) (m_w32 (46 + (m_w32 (3 * x2)))) a1) t 20) (m_w32 ((m_w32 (46 + (m_w32 (3 * x2)))) + 1)) a2)) (cs := [GK h4 t 12, GI h4 (m_rd h4 t 20) 1 (m_w32 (46 + (m_w32 (3 * x2)))), GK h4 t 12, GI h4 (m_rd (m_wr h4 (m_rd h4 t 20) (m_w32 (46 + (m_w32 (3 * x2)))) a1) t 20) 1 (m_w32 ((m_w32 (46 + (m_w32 (3 * x2)))) + 1))]) (by decide +kernel) rfl hc ?_
    obtain ⟨h5, he, hF⟩ := hl_of hF
    refine RN.hl he ?_
    obtain ⟨hc, hF⟩ := gd_of hF
    refine RN.blk (ops := [(59, .aload_n 0), (60, .getfield 39), (63, .bipush 46), (65, .iconst 3), (66, .iload 4), (68, .imul), (69, .iadd), (70, .iconst 2), (71, .iadd), (72, .iload_n 3), (73, .iastore)]) (pc' := 74) (lv' := [(0, .inr (.inr t)), (1, .inl a1), (2, .inl a2), (3, .inl a3), (4, .inl x2)]) (st' := []) (h' := (m_wr h5 (m_rd h5 t 20) (m_w32 ((m_w32 (46 + (m_w32 (3 * x2)))) + 2)) a3)) (cs := [GK h5 t 12, GI h5 (m_rd h5 t 20) 1 (m_w32 ((m_w32 (46 + (m_w32 (3 * x2)))) + 2))]) (by decide +kernel) rfl hc ?_
    obtain ⟨h6, he, hF⟩ := hl_of hF
    refine RN.hl he ?_
    refine RN.blk (ops := [(74, .iload 4)]) (pc' := 76) (lv' := [(0, .inr (.inr t)), (1, .inl a1), (2, .inl a2), (3, .inl a3), (4, .inl x2)]) (st' := [.inl x2]) (h' := h6) (cs := []) (by decide +kernel) rfl trivial ?_
    exact RN.iR (by decide +kernel) rfl hF
  · intro j3 Jj3 hF
    rcases it_of hF with ⟨hb, hF⟩ | ⟨hb, hF⟩
    · refine RN.icf (cd := .ne) (off := 14) (tgt := 31) (by decide +kernel) (mif_nen hb) ?_
      obtain ⟨hc, hF⟩ := gd_of hF
      refine RN.blk (ops := [(20, .aload_n 0), (21, .getfield 39), (24, .bipush 13), (26, .dup2), (27, .iaload), (28, .iconst 1), (29, .iadd), (30, .iastore)]) (pc' := 31) (lv' := [(4, .inl x2), (0, .inr (.inr t)), (1, .inl a1), (2, .inl a2), (3, .inl a3)]) (st' := []) (h' := (m_wr h1 (m_rd h1 t 20) 13 (m_w32 ((m_rd h1 (m_rd h1 t 20) 13) + 1)))) (cs := [GK h1 t 12, GI h1 (m_rd h1 t 20) 1 13, GI h1 (m_rd h1 t 20) 1 13]) (by decide +kernel) rfl hc ?_
      exact RN.sub (Jj3 _ hF) (sub_cons rfl (sub_cons rfl (sub_cons rfl (sub_cons rfl (sub_cons rfl sub_nil)))))
    · refine RN.ict (cd := .ne) (off := 14) (tgt := 31) (by decide +kernel) (mif_ne hb) ?_
      exact RN.sub (Jj3 _ hF) (sub_cons rfl (sub_cons rfl (sub_cons rfl (sub_cons rfl (sub_cons rfl sub_nil)))))
noncomputable def FX12_enter (t : Int) (a1 : Int) (a2 : Int) (a3 : Int) (h : MH) : Option (Int × MH) :=
  gd [GK h t 12] (bd (FX12_canEnter t a1 a2 a3 h) (fun x2 h1 =>
   (if x2 = 0 then
    some ((-1), h1)
   else
    gd [GK h1 t 12] (bv (FX12_keepsAct t h1) (fun h3 =>
     gd [GK h3 t 12] (bd (FX12_enters t a1 a2 a3 h3) (fun x5 h4 =>
      some (x5, h4))))))))
theorem CX12_enter {d : Nat} {t : Int} {a1 : Int} {a2 : Int} {a3 : Int} {h : MH} {r : Int × MH} (hF : FX12_enter t a1 a2 a3 h = some r) : RN xs L iX12_enter (d + 2) 0 (lvE 0 [.inr (.inr t), .inl a1, .inl a2, .inl a3]) [] h (RIo r) := by
  unfold FX12_enter at hF
  refine RN.blk (ops := [(0, .aload_n 0), (1, .iload_n 1), (2, .iload_n 2), (3, .iload_n 3)]) (pc' := 4) (lv' := [(0, .inr (.inr t)), (1, .inl a1), (2, .inl a2), (3, .inl a3)]) (st' := [.inl a3, .inl a2, .inl a1, .inr (.inr t)]) (h' := h) (cs := []) (by decide +kernel) rfl trivial ?_
  obtain ⟨hc, hF⟩ := gd_of hF
  obtain ⟨x2, h1, hG, hF⟩ := bd_of hF
  refine RN.cv (i := 365) (k := 231) (q2 := iX12_canEnter) (as := [.inr (.inr t), .inl a1, .inl a2, .inl a3]) (r := []) (v := some (.inl x2)) (h1 := h1) (by decide +kernel) rfl rfl rfl rfl rfl (rcv_ok hc.1) (CX12_canEnter (d := d) hG) ?_
  rcases it_of hF with ⟨hb, hF⟩ | ⟨hb, hF⟩
  · refine RN.iff (cd := .ne) (off := 5) (tgt := 12) (by decide +kernel) (mif_nen hb) ?_
    refine RN.blk (ops := [(10, .iconst (-1))]) (pc' := 11) (lv' := [(0, .inr (.inr t)), (1, .inl a1), (2, .inl a2), (3, .inl a3)]) (st' := [.inl (-1)]) (h' := h1) (cs := []) (by decide +kernel) rfl trivial ?_
    exact RN.iR (by decide +kernel) rfl hF
  · refine RN.ift (cd := .ne) (off := 5) (tgt := 12) (by decide +kernel) (mif_ne hb) ?_
    refine RN.blk (ops := [(12, .aload_n 0)]) (pc' := 13) (lv' := [(0, .inr (.inr t)), (1, .inl a1), (2, .inl a2), (3, .inl a3)]) (st' := [.inr (.inr t)]) (h' := h1) (cs := []) (by decide +kernel) rfl trivial ?_
    obtain ⟨hc, hF⟩ := gd_of hF
    obtain ⟨h3, hG, hF⟩ := bv_of hF
    refine RN.cv (i := 353) (k := 224) (q2 := iX12_keepsAct) (as := [.inr (.inr t)]) (r := []) (v := none) (h1 := h3) (by decide +kernel) rfl rfl rfl rfl rfl (rcv_ok hc.1) (CX12_keepsAct (d := d + 1) hG) ?_
    refine RN.blk (ops := [(16, .aload_n 0), (17, .iload_n 1), (18, .iload_n 2), (19, .iload_n 3)]) (pc' := 20) (lv' := [(0, .inr (.inr t)), (1, .inl a1), (2, .inl a2), (3, .inl a3)]) (st' := [.inl a3, .inl a2, .inl a1, .inr (.inr t)]) (h' := h3) (cs := []) (by decide +kernel) rfl trivial ?_
    obtain ⟨hc, hF⟩ := gd_of hF
    obtain ⟨x5, h4, hG, hF⟩ := bd_of hF
    refine RN.cv (i := 368) (k := 232) (q2 := iX12_enters) (as := [.inr (.inr t), .inl a1, .inl a2, .inl a3]) (r := []) (v := some (.inl x5)) (h1 := h4) (by decide +kernel) rfl rfl rfl rfl rfl (rcv_ok hc.1) (CX12_enters (d := d) hG) ?_
    exact RN.iR (by decide +kernel) rfl hF
noncomputable def FX12_strike_L29 (u0 : Int) (K0 : MH → Option (Int × MH)) : Nat → Int → MH → Option (Int × MH)
  | 0, _, _ => none
  | f + 1, v2, h =>
    gd [GK h u0 12, GI h (m_rd h u0 20) 1 13] (
     (if v2 < (m_w32 (3 * (m_rd h (m_rd h u0 20) 13))) then
      gd [GK h u0 12, GK h u0 12, GI h (m_rd h u0 20) 1 (m_w32 ((m_w32 (46 + v2)) + 3)), GI h (m_rd h u0 20) 1 (m_w32 (46 + v2))] (
       hl (m_wr h (m_rd h u0 20) (m_w32 (46 + v2)) (m_rd h (m_rd h u0 20) (m_w32 ((m_w32 (46 + v2)) + 3)))) (fun h1 =>
        FX12_strike_L29 u0 K0 f (m_w32 (v2 + 1)) h1))
     else
      K0 h))
theorem CX12_strike_L29 {d : Nat} {u0 : Int} {K0 : MH → Option (Int × MH)} {r : Int × MH} (hK0 : ∀ (h : MH), K0 h = some r → RN xs L iX12_strike (d + 1) 68 [(0, .inr (.inr u0))] [] h (RIo r)) : ∀ (f : Nat) (v2 : Int) (h : MH), FX12_strike_L29 u0 K0 f v2 h = some r → RN xs L iX12_strike (d + 1) 29 [(0, .inr (.inr u0)), (2, .inl v2)] [] h (RIo r) := by
  intro f
  induction f with
  | zero =>
    intro v2 h hF
    cases hF
  | succ f ih =>
    intro v2 h hF
    unfold FX12_strike_L29 at hF
    obtain ⟨hc, hF⟩ := gd_of hF
    refine RN.blk (ops := [(29, .iload_n 2), (30, .iconst 3), (31, .aload_n 0), (32, .getfield 39), (35, .bipush 13), (37, .iaload), (38, .imul)]) (pc' := 39) (lv' := [(0, .inr (.inr u0)), (2, .inl v2)]) (st' := [.inl (m_w32 (3 * (m_rd h (m_rd h u0 20) 13))), .inl v2]) (h' := h) (cs := [GK h u0 12, GI h (m_rd h u0 20) 1 13]) (by decide +kernel) rfl hc ?_
    rcases it_of hF with ⟨hb, hF⟩ | ⟨hb, hF⟩
    · refine RN.icf (cd := .ge) (off := 29) (tgt := 68) (by decide +kernel) (mif_gen hb) ?_
      obtain ⟨hc, hF⟩ := gd_of hF
      refine RN.blk (ops := [(42, .aload_n 0), (43, .getfield 39), (46, .bipush 46), (48, .iload_n 2), (49, .iadd), (50, .aload_n 0), (51, .getfield 39), (54, .bipush 46), (56, .iload_n 2), (57, .iadd), (58, .iconst 3), (59, .iadd), (60, .iaload), (61, .iastore)]) (pc' := 62) (lv' := [(0, .inr (.inr u0)), (2, .inl v2)]) (st' := []) (h' := (m_wr h (m_rd h u0 20) (m_w32 (46 + v2)) (m_rd h (m_rd h u0 20) (m_w32 ((m_w32 (46 + v2)) + 3))))) (cs := [GK h u0 12, GK h u0 12, GI h (m_rd h u0 20) 1 (m_w32 ((m_w32 (46 + v2)) + 3)), GI h (m_rd h u0 20) 1 (m_w32 (46 + v2))]) (by decide +kernel) rfl hc ?_
      obtain ⟨h1, he, hF⟩ := hl_of hF
      refine RN.hl he ?_
      refine RN.blk (ops := [(62, .iinc 2 1)]) (pc' := 65) (lv' := [(2, .inl (m_w32 (v2 + 1))), (0, .inr (.inr u0))]) (st' := []) (h' := h1) (cs := []) (by decide +kernel) rfl trivial ?_
      refine RN.goto (off := -36) (tgt := 29) (by decide +kernel) ?_
      exact RN.sub (ih _ _ hF) (sub_cons rfl (sub_cons rfl sub_nil))
    · refine RN.ict (cd := .ge) (off := 29) (tgt := 68) (by decide +kernel) (mif_ge hb) ?_
      exact RN.sub (hK0 _ hF) (sub_cons rfl sub_nil)
noncomputable def FX12_strike (t : Int) (a1 : Int) (h : MH) : Option (Int × MH) :=
  gd [GK h t 12] (bd (FX12_isEntry t a1 h) (fun x2 h1 =>
   (if x2 = 0 then
    some ((-1), h1)
   else
    gd [GK h1 t 12] (bv (FX12_keepsAct t h1) (fun h3 =>
     gd [GK h3 t 12, GI h3 (m_rd h3 t 20) 1 13, GI h3 (m_rd h3 t 20) 1 13] (
      FX12_strike_L29 t (fun h4 =>
       gd [GK h4 t 12, GI h4 (m_rd h4 t 20) 1 13] (
        some ((m_rd h4 (m_rd h4 t 20) 13), h4))) FU (m_w32 (3 * a1)) (m_wr h3 (m_rd h3 t 20) 13 (m_w32 ((m_rd h3 (m_rd h3 t 20) 13) - 1)))))))))
theorem CX12_strike {d : Nat} {t : Int} {a1 : Int} {h : MH} {r : Int × MH} (hF : FX12_strike t a1 h = some r) : RN xs L iX12_strike (d + 1) 0 (lvE 0 [.inr (.inr t), .inl a1]) [] h (RIo r) := by
  unfold FX12_strike at hF
  refine RN.blk (ops := [(0, .aload_n 0), (1, .iload_n 1)]) (pc' := 2) (lv' := [(0, .inr (.inr t)), (1, .inl a1)]) (st' := [.inl a1, .inr (.inr t)]) (h' := h) (cs := []) (by decide +kernel) rfl trivial ?_
  obtain ⟨hc, hF⟩ := gd_of hF
  obtain ⟨x2, h1, hG, hF⟩ := bd_of hF
  refine RN.cv (i := 315) (k := 205) (q2 := iX12_isEntry) (as := [.inr (.inr t), .inl a1]) (r := []) (v := some (.inl x2)) (h1 := h1) (by decide +kernel) rfl rfl rfl rfl rfl (rcv_ok hc.1) (CX12_isEntry (d := d) hG) ?_
  rcases it_of hF with ⟨hb, hF⟩ | ⟨hb, hF⟩
  · refine RN.iff (cd := .ne) (off := 5) (tgt := 10) (by decide +kernel) (mif_nen hb) ?_
    refine RN.blk (ops := [(8, .iconst (-1))]) (pc' := 9) (lv' := [(0, .inr (.inr t)), (1, .inl a1)]) (st' := [.inl (-1)]) (h' := h1) (cs := []) (by decide +kernel) rfl trivial ?_
    exact RN.iR (by decide +kernel) rfl hF
  · refine RN.ift (cd := .ne) (off := 5) (tgt := 10) (by decide +kernel) (mif_ne hb) ?_
    refine RN.blk (ops := [(10, .aload_n 0)]) (pc' := 11) (lv' := [(0, .inr (.inr t)), (1, .inl a1)]) (st' := [.inr (.inr t)]) (h' := h1) (cs := []) (by decide +kernel) rfl trivial ?_
    obtain ⟨hc, hF⟩ := gd_of hF
    obtain ⟨h3, hG, hF⟩ := bv_of hF
    refine RN.cv (i := 353) (k := 224) (q2 := iX12_keepsAct) (as := [.inr (.inr t)]) (r := []) (v := none) (h1 := h3) (by decide +kernel) rfl rfl rfl rfl rfl (rcv_ok hc.1) (CX12_keepsAct (d := d) hG) ?_
    obtain ⟨hc, hF⟩ := gd_of hF
    refine RN.blk (ops := [(14, .aload_n 0), (15, .getfield 39), (18, .bipush 13), (20, .dup2), (21, .iaload), (22, .iconst 1), (23, .isub), (24, .iastore), (25, .iconst 3), (26, .iload_n 1), (27, .imul), (28, .istore_n 2)]) (pc' := 29) (lv' := [(2, .inl (m_w32 (3 * a1))), (0, .inr (.inr t)), (1, .inl a1)]) (st' := []) (h' := (m_wr h3 (m_rd h3 t 20) 13 (m_w32 ((m_rd h3 (m_rd h3 t 20) 13) - 1)))) (cs := [GK h3 t 12, GI h3 (m_rd h3 t 20) 1 13, GI h3 (m_rd h3 t 20) 1 13]) (by decide +kernel) rfl hc ?_
    refine RN.sub (CX12_strike_L29 ?_ _ _ _ hF) (sub_cons rfl (sub_cons rfl sub_nil))
    · intro h4 hF
      obtain ⟨hc, hF⟩ := gd_of hF
      refine RN.blk (ops := [(68, .aload_n 0), (69, .getfield 39), (72, .bipush 13), (74, .iaload)]) (pc' := 75) (lv' := [(0, .inr (.inr t))]) (st' := [.inl (m_rd h4 (m_rd h4 t 20) 13)]) (h' := h4) (cs := [GK h4 t 12, GI h4 (m_rd h4 t 20) 1 13]) (by decide +kernel) rfl hc ?_
      exact RN.iR (by decide +kernel) rfl hF
noncomputable def FX12_where (t : Int) (a1 : Int) (a2 : Int) (h : MH) : Option (Int × MH) :=
  gd [GK h t 12] (bd (FX12_isCode t a1 h) (fun x2 h1 =>
   (if x2 = 0 then
    some ((-1), h1)
   else
    (bd (FX12_in a2 0 1 h1) (fun x4 h3 =>
     (if x4 = 0 then
      some ((-1), h3)
     else
      gd [GK h3 t 12] (bd (FX12_entryOf t a1 h3) (fun x6 h5 =>
       (if x6 < 0 then
        some ((-2), h5)
       else
        (if a2 = 0 then
         gd [GK h5 t 12, GI h5 (m_rd h5 t 20) 1 (m_w32 ((m_w32 (46 + (m_w32 (3 * x6)))) + 2))] (
          some ((m_rd h5 (m_rd h5 t 20) (m_w32 ((m_w32 (46 + (m_w32 (3 * x6)))) + 2))), h5))
        else
         gd [GK h5 t 12, GI h5 (m_rd h5 t 20) 1 (m_w32 (46 + (m_w32 (3 * x6))))] (
          some ((m_rd h5 (m_rd h5 t 20) (m_w32 (46 + (m_w32 (3 * x6))))), h5))))))))))))
theorem CX12_where {d : Nat} {t : Int} {a1 : Int} {a2 : Int} {h : MH} {r : Int × MH} (hF : FX12_where t a1 a2 h = some r) : RN xs L iX12_where (d + 3) 0 (lvE 0 [.inr (.inr t), .inl a1, .inl a2]) [] h (RIo r) := by
  unfold FX12_where at hF
  refine RN.blk (ops := [(0, .aload_n 0), (1, .iload_n 1)]) (pc' := 2) (lv' := [(0, .inr (.inr t)), (1, .inl a1), (2, .inl a2)]) (st' := [.inl a1, .inr (.inr t)]) (h' := h) (cs := []) (by decide +kernel) rfl trivial ?_
  obtain ⟨hc, hF⟩ := gd_of hF
  obtain ⟨x2, h1, hG, hF⟩ := bd_of hF
  refine RN.cv (i := 356) (k := 206) (q2 := iX12_isCode) (as := [.inr (.inr t), .inl a1]) (r := []) (v := some (.inl x2)) (h1 := h1) (by decide +kernel) rfl rfl rfl rfl rfl (rcv_ok hc.1) (CX12_isCode (d := d) hG) ?_
  rcases it_of hF with ⟨hb, hF⟩ | ⟨hb, hF⟩
  · refine RN.ift (cd := .eq) (off := 13) (tgt := 18) (by decide +kernel) (mif_eq hb) ?_
    refine RN.blk (ops := [(18, .iconst (-1))]) (pc' := 19) (lv' := [(0, .inr (.inr t)), (1, .inl a1), (2, .inl a2)]) (st' := [.inl (-1)]) (h' := h1) (cs := []) (by decide +kernel) rfl trivial ?_
    exact RN.iR (by decide +kernel) rfl hF
  · refine RN.iff (cd := .eq) (off := 13) (tgt := 18) (by decide +kernel) (mif_eqn hb) ?_
    refine RN.blk (ops := [(8, .iload_n 2), (9, .i2l), (10, .lconst 0), (11, .lconst 1)]) (pc' := 12) (lv' := [(0, .inr (.inr t)), (1, .inl a1), (2, .inl a2)]) (st' := [.inr (.inl 1), .inr (.inl 0), .inr (.inl a2)]) (h' := h1) (cs := []) (by decide +kernel) rfl trivial ?_
    obtain ⟨x4, h3, hG, hF⟩ := bd_of hF
    refine RN.cst (i := 127) (k := 156) (q2 := iX12_in) (as := [.inr (.inl a2), .inr (.inl 0), .inr (.inl 1)]) (r := []) (v := some (.inl x4)) (h1 := h3) (by decide +kernel) rfl rfl rfl rfl rfl (CX12_in (d := d + 2) hG) ?_
    rcases it_of hF with ⟨hb, hF⟩ | ⟨hb, hF⟩
    · refine RN.iff (cd := .ne) (off := 5) (tgt := 20) (by decide +kernel) (mif_nen hb) ?_
      refine RN.blk (ops := [(18, .iconst (-1))]) (pc' := 19) (lv' := [(0, .inr (.inr t)), (1, .inl a1), (2, .inl a2)]) (st' := [.inl (-1)]) (h' := h3) (cs := []) (by decide +kernel) rfl trivial ?_
      exact RN.iR (by decide +kernel) rfl hF
    · refine RN.ift (cd := .ne) (off := 5) (tgt := 20) (by decide +kernel) (mif_ne hb) ?_
      refine RN.blk (ops := [(20, .aload_n 0), (21, .iload_n 1)]) (pc' := 22) (lv' := [(0, .inr (.inr t)), (1, .inl a1), (2, .inl a2)]) (st' := [.inl a1, .inr (.inr t)]) (h' := h3) (cs := []) (by decide +kernel) rfl trivial ?_
      obtain ⟨hc, hF⟩ := gd_of hF
      obtain ⟨x6, h5, hG, hF⟩ := bd_of hF
      refine RN.cv (i := 304) (k := 208) (q2 := iX12_entryOf) (as := [.inr (.inr t), .inl a1]) (r := []) (v := some (.inl x6)) (h1 := h5) (by decide +kernel) rfl rfl rfl rfl rfl (rcv_ok hc.1) (CX12_entryOf (d := d) hG) ?_
      refine RN.blk (ops := [(25, .istore_n 3), (26, .iload_n 3)]) (pc' := 27) (lv' := [(3, .inl x6), (0, .inr (.inr t)), (1, .inl a1), (2, .inl a2)]) (st' := [.inl x6]) (h' := h5) (cs := []) (by decide +kernel) rfl trivial ?_
      rcases it_of hF with ⟨hb, hF⟩ | ⟨hb, hF⟩
      · refine RN.iff (cd := .ge) (off := 6) (tgt := 33) (by decide +kernel) (mif_gen hb) ?_
        refine RN.blk (ops := [(30, .bipush (-2))]) (pc' := 32) (lv' := [(3, .inl x6), (0, .inr (.inr t)), (1, .inl a1), (2, .inl a2)]) (st' := [.inl (-2)]) (h' := h5) (cs := []) (by decide +kernel) rfl trivial ?_
        exact RN.iR (by decide +kernel) rfl hF
      · refine RN.ift (cd := .ge) (off := 6) (tgt := 33) (by decide +kernel) (mif_ge hb) ?_
        refine RN.blk (ops := [(33, .iload_n 2)]) (pc' := 34) (lv' := [(3, .inl x6), (0, .inr (.inr t)), (1, .inl a1), (2, .inl a2)]) (st' := [.inl a2]) (h' := h5) (cs := []) (by decide +kernel) rfl trivial ?_
        rcases it_of hF with ⟨hb, hF⟩ | ⟨hb, hF⟩
        · refine RN.iff (cd := .ne) (off := 19) (tgt := 53) (by decide +kernel) (mif_nen hb) ?_
          obtain ⟨hc, hF⟩ := gd_of hF
          refine RN.blk (ops := [(37, .aload_n 0), (38, .getfield 39), (41, .bipush 46), (43, .iconst 3), (44, .iload_n 3), (45, .imul), (46, .iadd), (47, .iconst 2), (48, .iadd), (49, .iaload)]) (pc' := 50) (lv' := [(3, .inl x6), (0, .inr (.inr t)), (1, .inl a1), (2, .inl a2)]) (st' := [.inl (m_rd h5 (m_rd h5 t 20) (m_w32 ((m_w32 (46 + (m_w32 (3 * x6)))) + 2)))]) (h' := h5) (cs := [GK h5 t 12, GI h5 (m_rd h5 t 20) 1 (m_w32 ((m_w32 (46 + (m_w32 (3 * x6)))) + 2))]) (by decide +kernel) rfl hc ?_
          refine RN.goto (off := 14) (tgt := 64) (by decide +kernel) ?_
          exact RN.iR (by decide +kernel) rfl hF
        · refine RN.ift (cd := .ne) (off := 19) (tgt := 53) (by decide +kernel) (mif_ne hb) ?_
          obtain ⟨hc, hF⟩ := gd_of hF
          refine RN.blk (ops := [(53, .aload_n 0), (54, .getfield 39), (57, .bipush 46), (59, .iconst 3), (60, .iload_n 3), (61, .imul), (62, .iadd), (63, .iaload)]) (pc' := 64) (lv' := [(3, .inl x6), (0, .inr (.inr t)), (1, .inl a1), (2, .inl a2)]) (st' := [.inl (m_rd h5 (m_rd h5 t 20) (m_w32 (46 + (m_w32 (3 * x6)))))]) (h' := h5) (cs := [GK h5 t 12, GI h5 (m_rd h5 t 20) 1 (m_w32 (46 + (m_w32 (3 * x6))))]) (by decide +kernel) rfl hc ?_
          exact RN.iR (by decide +kernel) rfl hF
noncomputable def FX12_isReading_L24 (u0 : Int) (K0 : MH → Option (Int × MH)) (K1 : Int → MH → Option (Int × MH)) : Nat → Int → Int → MH → Option (Int × MH)
  | 0, _, _, _ => none
  | f + 1, v2, v3, h =>
    (if v3 < 0 then
     K1 v2 h
    else
     gd [GK h u0 12, (10 : Int) ≠ 0, GI h (m_rd h u0 26) 1 v3, (10 : Int) ≠ 0, GK h u0 12, GI h (m_rd (m_wr h (m_rd h u0 26) v3 (Int.tmod v2 10)) u0 26) 1 v3] (
      (if (m_rd (m_wr h (m_rd h u0 26) v3 (Int.tmod v2 10)) (m_rd (m_wr h (m_rd h u0 26) v3 (Int.tmod v2 10)) u0 26) v3) = 9 then
       FX12_isReading_L24 u0 K0 K1 f (m_w32 (Int.tdiv v2 10)) (m_w32 (v3 + (-1))) (m_wr h (m_rd h u0 26) v3 (Int.tmod v2 10))
      else
       gd [GK h u0 12, GI h (m_rd (m_wr h (m_rd h u0 26) v3 (Int.tmod v2 10)) u0 26) 1 v3, GK h u0 12, GI h (m_rd (m_wr h (m_rd h u0 26) v3 (Int.tmod v2 10)) u0 20) 1 1] (
        (if (m_rd (m_wr h (m_rd h u0 26) v3 (Int.tmod v2 10)) (m_rd (m_wr h (m_rd h u0 26) v3 (Int.tmod v2 10)) u0 26) v3) < (m_rd (m_wr h (m_rd h u0 26) v3 (Int.tmod v2 10)) (m_rd (m_wr h (m_rd h u0 26) v3 (Int.tmod v2 10)) u0 20) 1) then
         FX12_isReading_L24 u0 K0 K1 f (m_w32 (Int.tdiv v2 10)) (m_w32 (v3 + (-1))) (m_wr h (m_rd h u0 26) v3 (Int.tmod v2 10))
        else
         K0 (m_wr h (m_rd h u0 26) v3 (Int.tmod v2 10)))))))
theorem CX12_isReading_L24 {d : Nat} {u0 : Int} {K0 : MH → Option (Int × MH)} {K1 : Int → MH → Option (Int × MH)} {r : Int × MH} (hK0 : ∀ (h : MH), K0 h = some r → RN xs L iX12_isReading (d + 1) 69 [] [] h (RIo r)) (hK1 : ∀ (w2 : Int) (h : MH), K1 w2 h = some r → RN xs L iX12_isReading (d + 1) 77 [(2, .inl w2)] [] h (RIo r)) : ∀ (f : Nat) (v2 : Int) (v3 : Int) (h : MH), FX12_isReading_L24 u0 K0 K1 f v2 v3 h = some r → RN xs L iX12_isReading (d + 1) 24 [(0, .inr (.inr u0)), (2, .inl v2), (3, .inl v3)] [] h (RIo r) := by
  intro f
  induction f with
  | zero =>
    intro v2 v3 h hF
    cases hF
  | succ f ih =>
    intro v2 v3 h hF
    unfold FX12_isReading_L24 at hF
    refine RN.blk (ops := [(24, .iload_n 3)]) (pc' := 25) (lv' := [(0, .inr (.inr u0)), (2, .inl v2), (3, .inl v3)]) (st' := [.inl v3]) (h' := h) (cs := []) (by decide +kernel) rfl trivial ?_
    rcases it_of hF with ⟨hb, hF⟩ | ⟨hb, hF⟩
    · refine RN.ift (cd := .lt) (off := 52) (tgt := 77) (by decide +kernel) (mif_lt hb) ?_
      exact RN.sub (hK1 _ _ hF) (sub_cons rfl sub_nil)
    · refine RN.iff (cd := .lt) (off := 52) (tgt := 77) (by decide +kernel) (mif_ltn hb) ?_
      obtain ⟨hc, hF⟩ := gd_of hF
      refine RN.blk (ops := [(28, .aload_n 0), (29, .getfield 49), (32, .iload_n 3), (33, .iload_n 2), (34, .bipush 10), (36, .irem), (37, .iastore), (38, .iload_n 2), (39, .bipush 10), (41, .idiv), (42, .istore_n 2), (43, .aload_n 0), (44, .getfield 49), (47, .iload_n 3), (48, .iaload), (49, .bipush 9)]) (pc' := 51) (lv' := [(2, .inl (m_w32 (Int.tdiv v2 10))), (0, .inr (.inr u0)), (3, .inl v3)]) (st' := [.inl 9, .inl (m_rd (m_wr h (m_rd h u0 26) v3 (Int.tmod v2 10)) (m_rd (m_wr h (m_rd h u0 26) v3 (Int.tmod v2 10)) u0 26) v3)]) (h' := (m_wr h (m_rd h u0 26) v3 (Int.tmod v2 10))) (cs := [GK h u0 12, (10 : Int) ≠ 0, GI h (m_rd h u0 26) 1 v3, (10 : Int) ≠ 0, GK h u0 12, GI h (m_rd (m_wr h (m_rd h u0 26) v3 (Int.tmod v2 10)) u0 26) 1 v3]) (by decide +kernel) rfl hc ?_
      rcases it_of hF with ⟨hb, hF⟩ | ⟨hb, hF⟩
      · refine RN.ict (cd := .eq) (off := 20) (tgt := 71) (by decide +kernel) (mif_eq hb) ?_
        refine RN.blk (ops := [(71, .iinc 3 (-1))]) (pc' := 74) (lv' := [(3, .inl (m_w32 (v3 + (-1)))), (2, .inl (m_w32 (Int.tdiv v2 10))), (0, .inr (.inr u0))]) (st' := []) (h' := (m_wr h (m_rd h u0 26) v3 (Int.tmod v2 10))) (cs := []) (by decide +kernel) rfl trivial ?_
        refine RN.goto (off := -50) (tgt := 24) (by decide +kernel) ?_
        exact RN.sub (ih _ _ _ hF) (sub_cons rfl (sub_cons rfl (sub_cons rfl sub_nil)))
      · refine RN.icf (cd := .eq) (off := 20) (tgt := 71) (by decide +kernel) (mif_eqn hb) ?_
        obtain ⟨hc, hF⟩ := gd_of hF
        refine RN.blk (ops := [(54, .aload_n 0), (55, .getfield 49), (58, .iload_n 3), (59, .iaload), (60, .aload_n 0), (61, .getfield 39), (64, .iconst 1), (65, .iaload)]) (pc' := 66) (lv' := [(2, .inl (m_w32 (Int.tdiv v2 10))), (0, .inr (.inr u0)), (3, .inl v3)]) (st' := [.inl (m_rd (m_wr h (m_rd h u0 26) v3 (Int.tmod v2 10)) (m_rd (m_wr h (m_rd h u0 26) v3 (Int.tmod v2 10)) u0 20) 1), .inl (m_rd (m_wr h (m_rd h u0 26) v3 (Int.tmod v2 10)) (m_rd (m_wr h (m_rd h u0 26) v3 (Int.tmod v2 10)) u0 26) v3)]) (h' := (m_wr h (m_rd h u0 26) v3 (Int.tmod v2 10))) (cs := [GK h u0 12, GI h (m_rd (m_wr h (m_rd h u0 26) v3 (Int.tmod v2 10)) u0 26) 1 v3, GK h u0 12, GI h (m_rd (m_wr h (m_rd h u0 26) v3 (Int.tmod v2 10)) u0 20) 1 1]) (by decide +kernel) rfl hc ?_
        rcases it_of hF with ⟨hb, hF⟩ | ⟨hb, hF⟩
        · refine RN.ict (cd := .lt) (off := 5) (tgt := 71) (by decide +kernel) (mif_lt hb) ?_
          refine RN.blk (ops := [(71, .iinc 3 (-1))]) (pc' := 74) (lv' := [(3, .inl (m_w32 (v3 + (-1)))), (2, .inl (m_w32 (Int.tdiv v2 10))), (0, .inr (.inr u0))]) (st' := []) (h' := (m_wr h (m_rd h u0 26) v3 (Int.tmod v2 10))) (cs := []) (by decide +kernel) rfl trivial ?_
          refine RN.goto (off := -50) (tgt := 24) (by decide +kernel) ?_
          exact RN.sub (ih _ _ _ hF) (sub_cons rfl (sub_cons rfl (sub_cons rfl sub_nil)))
        · refine RN.icf (cd := .lt) (off := 5) (tgt := 71) (by decide +kernel) (mif_ltn hb) ?_
          exact RN.sub (hK0 _ hF) sub_nil
noncomputable def FX12_isReading (t : Int) (a1 : Int) (h : MH) : Option (Int × MH) :=
  gd [GK h t 12] (bd (FX12_isFrame t h) (fun x2 h1 =>
   (if x2 = 0 then
    some (0, h1)
   else
    (if a1 < 0 then
     some (0, h1)
    else
     gd [GK h1 t 12, GI h1 (m_rd h1 t 20) 1 2] (
      FX12_isReading_L24 t (fun h3 =>
       some (0, h3)) (fun w4 h5 =>
       (if w4 = 0 then
        some (1, h5)
       else
        some (0, h5))) FU a1 (m_w32 ((m_rd h1 (m_rd h1 t 20) 2) - 1)) h1)))))
theorem CX12_isReading {d : Nat} {t : Int} {a1 : Int} {h : MH} {r : Int × MH} (hF : FX12_isReading t a1 h = some r) : RN xs L iX12_isReading (d + 1) 0 (lvE 0 [.inr (.inr t), .inl a1]) [] h (RIo r) := by
  unfold FX12_isReading at hF
  refine RN.blk (ops := [(0, .aload_n 0)]) (pc' := 1) (lv' := [(0, .inr (.inr t)), (1, .inl a1)]) (st' := [.inr (.inr t)]) (h' := h) (cs := []) (by decide +kernel) rfl trivial ?_
  obtain ⟨hc, hF⟩ := gd_of hF
  obtain ⟨x2, h1, hG, hF⟩ := bd_of hF
  refine RN.cv (i := 295) (k := 202) (q2 := iX12_isFrame) (as := [.inr (.inr t)]) (r := []) (v := some (.inl x2)) (h1 := h1) (by decide +kernel) rfl rfl rfl rfl rfl (rcv_ok hc.1) (CX12_isFrame (d := d) hG) ?_
  rcases it_of hF with ⟨hb, hF⟩ | ⟨hb, hF⟩
  · refine RN.ift (cd := .eq) (off := 7) (tgt := 11) (by decide +kernel) (mif_eq hb) ?_
    refine RN.blk (ops := [(11, .iconst 0)]) (pc' := 12) (lv' := [(0, .inr (.inr t)), (1, .inl a1)]) (st' := [.inl 0]) (h' := h1) (cs := []) (by decide +kernel) rfl trivial ?_
    exact RN.zR (by decide +kernel) rfl (Or.inl rfl) hF
  · refine RN.iff (cd := .eq) (off := 7) (tgt := 11) (by decide +kernel) (mif_eqn hb) ?_
    refine RN.blk (ops := [(7, .iload_n 1)]) (pc' := 8) (lv' := [(0, .inr (.inr t)), (1, .inl a1)]) (st' := [.inl a1]) (h' := h1) (cs := []) (by decide +kernel) rfl trivial ?_
    rcases it_of hF with ⟨hb, hF⟩ | ⟨hb, hF⟩
    · refine RN.iff (cd := .ge) (off := 5) (tgt := 13) (by decide +kernel) (mif_gen hb) ?_
      refine RN.blk (ops := [(11, .iconst 0)]) (pc' := 12) (lv' := [(0, .inr (.inr t)), (1, .inl a1)]) (st' := [.inl 0]) (h' := h1) (cs := []) (by decide +kernel) rfl trivial ?_
      exact RN.zR (by decide +kernel) rfl (Or.inl rfl) hF
    · refine RN.ift (cd := .ge) (off := 5) (tgt := 13) (by decide +kernel) (mif_ge hb) ?_
      obtain ⟨hc, hF⟩ := gd_of hF
      refine RN.blk (ops := [(13, .iload_n 1), (14, .istore_n 2), (15, .aload_n 0), (16, .getfield 39), (19, .iconst 2), (20, .iaload), (21, .iconst 1), (22, .isub), (23, .istore_n 3)]) (pc' := 24) (lv' := [(3, .inl (m_w32 ((m_rd h1 (m_rd h1 t 20) 2) - 1))), (2, .inl a1), (0, .inr (.inr t)), (1, .inl a1)]) (st' := []) (h' := h1) (cs := [GK h1 t 12, GI h1 (m_rd h1 t 20) 1 2]) (by decide +kernel) rfl hc ?_
      refine RN.sub (CX12_isReading_L24 ?_ ?_ _ _ _ _ hF) (sub_cons rfl (sub_cons rfl (sub_cons rfl sub_nil)))
      · intro h3 hF
        refine RN.blk (ops := [(69, .iconst 0)]) (pc' := 70) (lv' := []) (st' := [.inl 0]) (h' := h3) (cs := []) (by decide +kernel) rfl trivial ?_
        exact RN.zR (by decide +kernel) rfl (Or.inl rfl) hF
      · intro w4 h5 hF
        refine RN.blk (ops := [(77, .iload_n 2)]) (pc' := 78) (lv' := [(2, .inl w4)]) (st' := [.inl w4]) (h' := h5) (cs := []) (by decide +kernel) rfl trivial ?_
        rcases it_of hF with ⟨hb, hF⟩ | ⟨hb, hF⟩
        · refine RN.iff (cd := .ne) (off := 7) (tgt := 85) (by decide +kernel) (mif_nen hb) ?_
          refine RN.blk (ops := [(81, .iconst 1)]) (pc' := 82) (lv' := [(2, .inl w4)]) (st' := [.inl 1]) (h' := h5) (cs := []) (by decide +kernel) rfl trivial ?_
          refine RN.goto (off := 4) (tgt := 86) (by decide +kernel) ?_
          exact RN.zR (by decide +kernel) rfl (Or.inr rfl) hF
        · refine RN.ift (cd := .ne) (off := 7) (tgt := 85) (by decide +kernel) (mif_ne hb) ?_
          refine RN.blk (ops := [(85, .iconst 0)]) (pc' := 86) (lv' := [(2, .inl w4)]) (st' := [.inl 0]) (h' := h5) (cs := []) (by decide +kernel) rfl trivial ?_
          exact RN.zR (by decide +kernel) rfl (Or.inl rfl) hF
noncomputable def FX12_digitOf (t : Int) (a1 : Int) (a2 : Int) (h : MH) : Option (Int × MH) :=
  gd [GK h t 12, GI h (m_rd h t 20) 1 1, GK h t 12, GI h (m_rd h t 20) 1 2] (
   (bd (FX12_power (m_rd h (m_rd h t 20) 1) (m_w32 ((m_w32 ((m_rd h (m_rd h t 20) 2) - 1)) - a2)) h) (fun x2 h1 =>
    gd [(x2 : Int) ≠ 0, GK h1 t 12, GI h1 (m_rd h1 t 20) 1 1, ((m_rd h1 (m_rd h1 t 20) 1) : Int) ≠ 0] (
     some ((Int.tmod (m_w32 (Int.tdiv a1 x2)) (m_rd h1 (m_rd h1 t 20) 1)), h1)))))
theorem CX12_digitOf {d : Nat} {t : Int} {a1 : Int} {a2 : Int} {h : MH} {r : Int × MH} (hF : FX12_digitOf t a1 a2 h = some r) : RN xs L iX12_digitOf (d + 1) 0 (lvE 0 [.inr (.inr t), .inl a1, .inl a2]) [] h (RIo r) := by
  unfold FX12_digitOf at hF
  obtain ⟨hc, hF⟩ := gd_of hF
  refine RN.blk (ops := [(0, .iload_n 1), (1, .aload_n 0), (2, .getfield 39), (5, .iconst 1), (6, .iaload), (7, .aload_n 0), (8, .getfield 39), (11, .iconst 2), (12, .iaload), (13, .iconst 1), (14, .isub), (15, .iload_n 2), (16, .isub)]) (pc' := 17) (lv' := [(0, .inr (.inr t)), (1, .inl a1), (2, .inl a2)]) (st' := [.inl (m_w32 ((m_w32 ((m_rd h (m_rd h t 20) 2) - 1)) - a2)), .inl (m_rd h (m_rd h t 20) 1), .inl a1]) (h' := h) (cs := [GK h t 12, GI h (m_rd h t 20) 1 1, GK h t 12, GI h (m_rd h t 20) 1 2]) (by decide +kernel) rfl hc ?_
  obtain ⟨x2, h1, hG, hF⟩ := bd_of hF
  refine RN.cst (i := 229) (k := 159) (q2 := iX12_power) (as := [.inl (m_rd h (m_rd h t 20) 1), .inl (m_w32 ((m_w32 ((m_rd h (m_rd h t 20) 2) - 1)) - a2))]) (r := [.inl a1]) (v := some (.inl x2)) (h1 := h1) (by decide +kernel) rfl rfl rfl rfl rfl (CX12_power (d := d) hG) ?_
  obtain ⟨hc, hF⟩ := gd_of hF
  refine RN.blk (ops := [(20, .idiv), (21, .aload_n 0), (22, .getfield 39), (25, .iconst 1), (26, .iaload), (27, .irem)]) (pc' := 28) (lv' := [(0, .inr (.inr t)), (1, .inl a1), (2, .inl a2)]) (st' := [.inl (Int.tmod (m_w32 (Int.tdiv a1 x2)) (m_rd h1 (m_rd h1 t 20) 1))]) (h' := h1) (cs := [(x2 : Int) ≠ 0, GK h1 t 12, GI h1 (m_rd h1 t 20) 1 1, ((m_rd h1 (m_rd h1 t 20) 1) : Int) ≠ 0]) (by decide +kernel) rfl hc ?_
  exact RN.iR (by decide +kernel) rfl hF
noncomputable def FX12_canMean_L2 (u0 : Int) (u1 : Int) (K0 : MH → Option (Int × MH)) (K1 : MH → Option (Int × MH)) : Nat → Int → MH → Option (Int × MH)
  | 0, _, _ => none
  | f + 1, v2, h =>
    gd [GK h u0 12, GI h (m_rd h u0 20) 1 2] (
     (if v2 < (m_rd h (m_rd h u0 20) 2) then
      gd [GK h u0 12, GI h (m_rd h u0 26) 1 v2] (
       (if (m_rd h (m_rd h u0 26) v2) = 9 then
        FX12_canMean_L2 u0 u1 K0 K1 f (m_w32 (v2 + 1)) h
       else
        gd [GK h u0 12, GI h (m_rd h u0 26) 1 v2] (
         gd [GK h u0 12] (bd (FX12_digitOf u0 u1 v2 h) (fun x2 h1 =>
          (if (m_rd h (m_rd h u0 26) v2) = x2 then
           FX12_canMean_L2 u0 u1 K0 K1 f (m_w32 (v2 + 1)) h1
          else
           K0 h1))))))
     else
      K1 h))
theorem CX12_canMean_L2 {d : Nat} {u0 : Int} {u1 : Int} {K0 : MH → Option (Int × MH)} {K1 : MH → Option (Int × MH)} {r : Int × MH} (hK0 : ∀ (h : MH), K0 h = some r → RN xs L iX12_canMean (d + 2) 38 [] [] h (RIo r)) (hK1 : ∀ (h : MH), K1 h = some r → RN xs L iX12_canMean (d + 2) 46 [] [] h (RIo r)) : ∀ (f : Nat) (v2 : Int) (h : MH), FX12_canMean_L2 u0 u1 K0 K1 f v2 h = some r → RN xs L iX12_canMean (d + 2) 2 [(0, .inr (.inr u0)), (1, .inl u1), (2, .inl v2)] [] h (RIo r) := by
  intro f
  induction f with
  | zero =>
    intro v2 h hF
    cases hF
  | succ f ih =>
    intro v2 h hF
    unfold FX12_canMean_L2 at hF
    obtain ⟨hc, hF⟩ := gd_of hF
    refine RN.blk (ops := [(2, .iload_n 2), (3, .aload_n 0), (4, .getfield 39), (7, .iconst 2), (8, .iaload)]) (pc' := 9) (lv' := [(0, .inr (.inr u0)), (1, .inl u1), (2, .inl v2)]) (st' := [.inl (m_rd h (m_rd h u0 20) 2), .inl v2]) (h' := h) (cs := [GK h u0 12, GI h (m_rd h u0 20) 1 2]) (by decide +kernel) rfl hc ?_
    rcases it_of hF with ⟨hb, hF⟩ | ⟨hb, hF⟩
    · refine RN.icf (cd := .ge) (off := 37) (tgt := 46) (by decide +kernel) (mif_gen hb) ?_
      obtain ⟨hc, hF⟩ := gd_of hF
      refine RN.blk (ops := [(12, .aload_n 0), (13, .getfield 49), (16, .iload_n 2), (17, .iaload), (18, .bipush 9)]) (pc' := 20) (lv' := [(0, .inr (.inr u0)), (1, .inl u1), (2, .inl v2)]) (st' := [.inl 9, .inl (m_rd h (m_rd h u0 26) v2)]) (h' := h) (cs := [GK h u0 12, GI h (m_rd h u0 26) 1 v2]) (by decide +kernel) rfl hc ?_
      rcases it_of hF with ⟨hb, hF⟩ | ⟨hb, hF⟩
      · refine RN.ict (cd := .eq) (off := 20) (tgt := 40) (by decide +kernel) (mif_eq hb) ?_
        refine RN.blk (ops := [(40, .iinc 2 1)]) (pc' := 43) (lv' := [(2, .inl (m_w32 (v2 + 1))), (0, .inr (.inr u0)), (1, .inl u1)]) (st' := []) (h' := h) (cs := []) (by decide +kernel) rfl trivial ?_
        refine RN.goto (off := -41) (tgt := 2) (by decide +kernel) ?_
        exact RN.sub (ih _ _ hF) (sub_cons rfl (sub_cons rfl (sub_cons rfl sub_nil)))
      · refine RN.icf (cd := .eq) (off := 20) (tgt := 40) (by decide +kernel) (mif_eqn hb) ?_
        obtain ⟨hc, hF⟩ := gd_of hF
        refine RN.blk (ops := [(23, .aload_n 0), (24, .getfield 49), (27, .iload_n 2), (28, .iaload), (29, .aload_n 0), (30, .iload_n 1), (31, .iload_n 2)]) (pc' := 32) (lv' := [(0, .inr (.inr u0)), (1, .inl u1), (2, .inl v2)]) (st' := [.inl v2, .inl u1, .inr (.inr u0), .inl (m_rd h (m_rd h u0 26) v2)]) (h' := h) (cs := [GK h u0 12, GI h (m_rd h u0 26) 1 v2]) (by decide +kernel) rfl hc ?_
        obtain ⟨hc, hF⟩ := gd_of hF
        obtain ⟨x2, h1, hG, hF⟩ := bd_of hF
        refine RN.cv (i := 372) (k := 237) (q2 := iX12_digitOf) (as := [.inr (.inr u0), .inl u1, .inl v2]) (r := [.inl (m_rd h (m_rd h u0 26) v2)]) (v := some (.inl x2)) (h1 := h1) (by decide +kernel) rfl rfl rfl rfl rfl (rcv_ok hc.1) (CX12_digitOf (d := d) hG) ?_
        rcases it_of hF with ⟨hb, hF⟩ | ⟨hb, hF⟩
        · refine RN.ict (cd := .eq) (off := 5) (tgt := 40) (by decide +kernel) (mif_eq hb) ?_
          refine RN.blk (ops := [(40, .iinc 2 1)]) (pc' := 43) (lv' := [(2, .inl (m_w32 (v2 + 1))), (0, .inr (.inr u0)), (1, .inl u1)]) (st' := []) (h' := h1) (cs := []) (by decide +kernel) rfl trivial ?_
          refine RN.goto (off := -41) (tgt := 2) (by decide +kernel) ?_
          exact RN.sub (ih _ _ hF) (sub_cons rfl (sub_cons rfl (sub_cons rfl sub_nil)))
        · refine RN.icf (cd := .eq) (off := 5) (tgt := 40) (by decide +kernel) (mif_eqn hb) ?_
          exact RN.sub (hK0 _ hF) sub_nil
    · refine RN.ict (cd := .ge) (off := 37) (tgt := 46) (by decide +kernel) (mif_ge hb) ?_
      exact RN.sub (hK1 _ hF) sub_nil
noncomputable def FX12_canMean (t : Int) (a1 : Int) (h : MH) : Option (Int × MH) :=
  FX12_canMean_L2 t a1 (fun h1 =>
   some (0, h1)) (fun h2 =>
   some (1, h2)) FU 0 h
theorem CX12_canMean {d : Nat} {t : Int} {a1 : Int} {h : MH} {r : Int × MH} (hF : FX12_canMean t a1 h = some r) : RN xs L iX12_canMean (d + 2) 0 (lvE 0 [.inr (.inr t), .inl a1]) [] h (RIo r) := by
  unfold FX12_canMean at hF
  refine RN.blk (ops := [(0, .iconst 0), (1, .istore_n 2)]) (pc' := 2) (lv' := [(2, .inl 0), (0, .inr (.inr t)), (1, .inl a1)]) (st' := []) (h' := h) (cs := []) (by decide +kernel) rfl trivial ?_
  refine RN.sub (CX12_canMean_L2 ?_ ?_ _ _ _ hF) (sub_cons rfl (sub_cons rfl (sub_cons rfl sub_nil)))
  · intro h1 hF
    refine RN.blk (ops := [(38, .iconst 0)]) (pc' := 39) (lv' := []) (st' := [.inl 0]) (h' := h1) (cs := []) (by decide +kernel) rfl trivial ?_
    exact RN.zR (by decide +kernel) rfl (Or.inl rfl) hF
  · intro h2 hF
    refine RN.blk (ops := [(46, .iconst 1)]) (pc' := 47) (lv' := []) (st' := [.inl 1]) (h' := h2) (cs := []) (by decide +kernel) rfl trivial ?_
    exact RN.zR (by decide +kernel) rfl (Or.inr rfl) hF
noncomputable def FX12_may_L14 (u0 : Int) (K0 : Int → MH → Option (Int × MH)) : Nat → Int → Int → MH → Option (Int × MH)
  | 0, _, _, _ => none
  | f + 1, v2, v3, h =>
    gd [GK h u0 12] (bd (FX12_codesMany u0 h) (fun x2 h1 =>
     (if v3 < x2 then
      gd [GK h1 u0 12] (bd (FX12_canMean u0 v3 h1) (fun x4 h3 =>
       (if x4 = 0 then
        FX12_may_L14 u0 K0 f v2 (m_w32 (v3 + 1)) h3
       else
        gd [GK h3 u0 12] (bd (FX12_holeOf u0 v3 h3) (fun x6 h5 =>
         (if x6 < 0 then
          FX12_may_L14 u0 K0 f (m_bor v2 64) (m_w32 (v3 + 1)) h5
         else
          gd [GK h5 u0 12] (bd (FX12_holeOf u0 v3 h5) (fun x8 h7 =>
           FX12_may_L14 u0 K0 f (m_bor v2 (m_shl 1 x8)) (m_w32 (v3 + 1)) h7))))))))
     else
      K0 v2 h1)))
theorem CX12_may_L14 {d : Nat} {u0 : Int} {K0 : Int → MH → Option (Int × MH)} {r : Int × MH} (hK0 : ∀ (w2 : Int) (h : MH), K0 w2 h = some r → RN xs L iX12_may (d + 4) 59 [(2, .inl w2)] [] h (RIo r)) : ∀ (f : Nat) (v2 : Int) (v3 : Int) (h : MH), FX12_may_L14 u0 K0 f v2 v3 h = some r → RN xs L iX12_may (d + 4) 14 [(0, .inr (.inr u0)), (2, .inl v2), (3, .inl v3)] [] h (RIo r) := by
  intro f
  induction f with
  | zero =>
    intro v2 v3 h hF
    cases hF
  | succ f ih =>
    intro v2 v3 h hF
    unfold FX12_may_L14 at hF
    refine RN.blk (ops := [(14, .iload_n 3), (15, .aload_n 0)]) (pc' := 16) (lv' := [(0, .inr (.inr u0)), (2, .inl v2), (3, .inl v3)]) (st' := [.inr (.inr u0), .inl v3]) (h' := h) (cs := []) (by decide +kernel) rfl trivial ?_
    obtain ⟨hc, hF⟩ := gd_of hF
    obtain ⟨x2, h1, hG, hF⟩ := bd_of hF
    refine RN.cv (i := 298) (k := 203) (q2 := iX12_codesMany) (as := [.inr (.inr u0)]) (r := [.inl v3]) (v := some (.inl x2)) (h1 := h1) (by decide +kernel) rfl rfl rfl rfl rfl (rcv_ok hc.1) (CX12_codesMany (d := d + 2) hG) ?_
    rcases it_of hF with ⟨hb, hF⟩ | ⟨hb, hF⟩
    · refine RN.icf (cd := .ge) (off := 40) (tgt := 59) (by decide +kernel) (mif_gen hb) ?_
      refine RN.blk (ops := [(22, .aload_n 0), (23, .iload_n 3)]) (pc' := 24) (lv' := [(0, .inr (.inr u0)), (2, .inl v2), (3, .inl v3)]) (st' := [.inl v3, .inr (.inr u0)]) (h' := h1) (cs := []) (by decide +kernel) rfl trivial ?_
      obtain ⟨hc, hF⟩ := gd_of hF
      obtain ⟨x4, h3, hG, hF⟩ := bd_of hF
      refine RN.cv (i := 378) (k := 238) (q2 := iX12_canMean) (as := [.inr (.inr u0), .inl v3]) (r := []) (v := some (.inl x4)) (h1 := h3) (by decide +kernel) rfl rfl rfl rfl rfl (rcv_ok hc.1) (CX12_canMean (d := d + 1) hG) ?_
      rcases it_of hF with ⟨hb, hF⟩ | ⟨hb, hF⟩
      · refine RN.ift (cd := .eq) (off := 26) (tgt := 53) (by decide +kernel) (mif_eq hb) ?_
        refine RN.blk (ops := [(53, .iinc 3 1)]) (pc' := 56) (lv' := [(3, .inl (m_w32 (v3 + 1))), (0, .inr (.inr u0)), (2, .inl v2)]) (st' := []) (h' := h3) (cs := []) (by decide +kernel) rfl trivial ?_
        refine RN.goto (off := -42) (tgt := 14) (by decide +kernel) ?_
        exact RN.sub (ih _ _ _ hF) (sub_cons rfl (sub_cons rfl (sub_cons rfl sub_nil)))
      · refine RN.iff (cd := .eq) (off := 26) (tgt := 53) (by decide +kernel) (mif_eqn hb) ?_
        refine RN.blk (ops := [(30, .iload_n 2), (31, .aload_n 0), (32, .iload_n 3)]) (pc' := 33) (lv' := [(0, .inr (.inr u0)), (2, .inl v2), (3, .inl v3)]) (st' := [.inl v3, .inr (.inr u0), .inl v2]) (h' := h3) (cs := []) (by decide +kernel) rfl trivial ?_
        obtain ⟨hc, hF⟩ := gd_of hF
        obtain ⟨x6, h5, hG, hF⟩ := bd_of hF
        refine RN.cv (i := 322) (k := 209) (q2 := iX12_holeOf) (as := [.inr (.inr u0), .inl v3]) (r := [.inl v2]) (v := some (.inl x6)) (h1 := h5) (by decide +kernel) rfl rfl rfl rfl rfl (rcv_ok hc.1) (CX12_holeOf (d := d) hG) ?_
        rcases it_of hF with ⟨hb, hF⟩ | ⟨hb, hF⟩
        · refine RN.iff (cd := .ge) (off := 8) (tgt := 44) (by decide +kernel) (mif_gen hb) ?_
          refine RN.blk (ops := [(39, .bipush 64)]) (pc' := 41) (lv' := [(0, .inr (.inr u0)), (2, .inl v2), (3, .inl v3)]) (st' := [.inl 64, .inl v2]) (h' := h5) (cs := []) (by decide +kernel) rfl trivial ?_
          refine RN.goto (off := 10) (tgt := 51) (by decide +kernel) ?_
          refine RN.blk (ops := [(51, .ior), (52, .istore_n 2)]) (pc' := 53) (lv' := [(2, .inl (m_bor v2 64)), (0, .inr (.inr u0)), (3, .inl v3)]) (st' := []) (h' := h5) (cs := []) (by decide +kernel) rfl trivial ?_
          refine RN.blk (ops := [(53, .iinc 3 1)]) (pc' := 56) (lv' := [(3, .inl (m_w32 (v3 + 1))), (2, .inl (m_bor v2 64)), (0, .inr (.inr u0))]) (st' := []) (h' := h5) (cs := []) (by decide +kernel) rfl trivial ?_
          refine RN.goto (off := -42) (tgt := 14) (by decide +kernel) ?_
          exact RN.sub (ih _ _ _ hF) (sub_cons rfl (sub_cons rfl (sub_cons rfl sub_nil)))
        · refine RN.ift (cd := .ge) (off := 8) (tgt := 44) (by decide +kernel) (mif_ge hb) ?_
          refine RN.blk (ops := [(44, .iconst 1), (45, .aload_n 0), (46, .iload_n 3)]) (pc' := 47) (lv' := [(0, .inr (.inr u0)), (2, .inl v2), (3, .inl v3)]) (st' := [.inl v3, .inr (.inr u0), .inl 1, .inl v2]) (h' := h5) (cs := []) (by decide +kernel) rfl trivial ?_
          obtain ⟨hc, hF⟩ := gd_of hF
          obtain ⟨x8, h7, hG, hF⟩ := bd_of hF
          refine RN.cv (i := 322) (k := 209) (q2 := iX12_holeOf) (as := [.inr (.inr u0), .inl v3]) (r := [.inl 1, .inl v2]) (v := some (.inl x8)) (h1 := h7) (by decide +kernel) rfl rfl rfl rfl rfl (rcv_ok hc.1) (CX12_holeOf (d := d) hG) ?_
          refine RN.blk (ops := [(50, .ishl)]) (pc' := 51) (lv' := [(0, .inr (.inr u0)), (2, .inl v2), (3, .inl v3)]) (st' := [.inl (m_shl 1 x8), .inl v2]) (h' := h7) (cs := []) (by decide +kernel) rfl trivial ?_
          refine RN.blk (ops := [(51, .ior), (52, .istore_n 2)]) (pc' := 53) (lv' := [(2, .inl (m_bor v2 (m_shl 1 x8))), (0, .inr (.inr u0)), (3, .inl v3)]) (st' := []) (h' := h7) (cs := []) (by decide +kernel) rfl trivial ?_
          refine RN.blk (ops := [(53, .iinc 3 1)]) (pc' := 56) (lv' := [(3, .inl (m_w32 (v3 + 1))), (2, .inl (m_bor v2 (m_shl 1 x8))), (0, .inr (.inr u0))]) (st' := []) (h' := h7) (cs := []) (by decide +kernel) rfl trivial ?_
          refine RN.goto (off := -42) (tgt := 14) (by decide +kernel) ?_
          exact RN.sub (ih _ _ _ hF) (sub_cons rfl (sub_cons rfl (sub_cons rfl sub_nil)))
    · refine RN.ict (cd := .ge) (off := 40) (tgt := 59) (by decide +kernel) (mif_ge hb) ?_
      exact RN.sub (hK0 _ _ hF) (sub_cons rfl sub_nil)
noncomputable def FX12_may (t : Int) (a1 : Int) (h : MH) : Option (Int × MH) :=
  gd [GK h t 12] (bd (FX12_isReading t a1 h) (fun x2 h1 =>
   (if x2 = 0 then
    some ((-1), h1)
   else
    FX12_may_L14 t (fun w3 h4 =>
     some (w3, h4)) FU 0 0 h1)))
theorem CX12_may {d : Nat} {t : Int} {a1 : Int} {h : MH} {r : Int × MH} (hF : FX12_may t a1 h = some r) : RN xs L iX12_may (d + 4) 0 (lvE 0 [.inr (.inr t), .inl a1]) [] h (RIo r) := by
  unfold FX12_may at hF
  refine RN.blk (ops := [(0, .aload_n 0), (1, .iload_n 1)]) (pc' := 2) (lv' := [(0, .inr (.inr t)), (1, .inl a1)]) (st' := [.inl a1, .inr (.inr t)]) (h' := h) (cs := []) (by decide +kernel) rfl trivial ?_
  obtain ⟨hc, hF⟩ := gd_of hF
  obtain ⟨x2, h1, hG, hF⟩ := bd_of hF
  refine RN.cv (i := 375) (k := 236) (q2 := iX12_isReading) (as := [.inr (.inr t), .inl a1]) (r := []) (v := some (.inl x2)) (h1 := h1) (by decide +kernel) rfl rfl rfl rfl rfl (rcv_ok hc.1) (CX12_isReading (d := d + 2) hG) ?_
  rcases it_of hF with ⟨hb, hF⟩ | ⟨hb, hF⟩
  · refine RN.iff (cd := .ne) (off := 5) (tgt := 10) (by decide +kernel) (mif_nen hb) ?_
    refine RN.blk (ops := [(8, .iconst (-1))]) (pc' := 9) (lv' := [(0, .inr (.inr t)), (1, .inl a1)]) (st' := [.inl (-1)]) (h' := h1) (cs := []) (by decide +kernel) rfl trivial ?_
    exact RN.iR (by decide +kernel) rfl hF
  · refine RN.ift (cd := .ne) (off := 5) (tgt := 10) (by decide +kernel) (mif_ne hb) ?_
    refine RN.blk (ops := [(10, .iconst 0), (11, .istore_n 2), (12, .iconst 0), (13, .istore_n 3)]) (pc' := 14) (lv' := [(3, .inl 0), (2, .inl 0), (0, .inr (.inr t)), (1, .inl a1)]) (st' := []) (h' := h1) (cs := []) (by decide +kernel) rfl trivial ?_
    refine RN.sub (CX12_may_L14 ?_ _ _ _ _ hF) (sub_cons rfl (sub_cons rfl (sub_cons rfl sub_nil)))
    · intro w3 h4 hF
      refine RN.blk (ops := [(59, .iload_n 2)]) (pc' := 60) (lv' := [(2, .inl w3)]) (st' := [.inl w3]) (h' := h4) (cs := []) (by decide +kernel) rfl trivial ?_
      exact RN.iR (by decide +kernel) rfl hF
noncomputable def FX12_areLike_L3 (u0 : Int) (u1 : Int) (u2 : Int) (u3 : Int) (K0 : MH → Option (Int × MH)) (K1 : MH → Option (Int × MH)) : Nat → Int → MH → Option (Int × MH)
  | 0, _, _ => none
  | f + 1, v4, h =>
    gd [GK h u0 12, GI h (m_rd h u0 20) 1 2] (
     (if v4 < (m_rd h (m_rd h u0 20) 2) then
      (bd (FX12_isOf u3 v4 h) (fun x2 h1 =>
       (if x2 = 0 then
        FX12_areLike_L3 u0 u1 u2 u3 K0 K1 f (m_w32 (v4 + 1)) h1
       else
        gd [GK h1 u0 12] (bd (FX12_digitOf u0 u1 v4 h1) (fun x4 h3 =>
         gd [GK h3 u0 12] (bd (FX12_digitOf u0 u2 v4 h3) (fun x6 h5 =>
          (if x4 = x6 then
           FX12_areLike_L3 u0 u1 u2 u3 K0 K1 f (m_w32 (v4 + 1)) h5
          else
           K0 h5))))))))
     else
      K1 h))
theorem CX12_areLike_L3 {d : Nat} {u0 : Int} {u1 : Int} {u2 : Int} {u3 : Int} {K0 : MH → Option (Int × MH)} {K1 : MH → Option (Int × MH)} {r : Int × MH} (hK0 : ∀ (h : MH), K0 h = some r → RN xs L iX12_areLike (d + 2) 40 [] [] h (RIo r)) (hK1 : ∀ (h : MH), K1 h = some r → RN xs L iX12_areLike (d + 2) 48 [] [] h (RIo r)) : ∀ (f : Nat) (v4 : Int) (h : MH), FX12_areLike_L3 u0 u1 u2 u3 K0 K1 f v4 h = some r → RN xs L iX12_areLike (d + 2) 3 [(0, .inr (.inr u0)), (1, .inl u1), (2, .inl u2), (3, .inl u3), (4, .inl v4)] [] h (RIo r) := by
  intro f
  induction f with
  | zero =>
    intro v4 h hF
    cases hF
  | succ f ih =>
    intro v4 h hF
    unfold FX12_areLike_L3 at hF
    obtain ⟨hc, hF⟩ := gd_of hF
    refine RN.blk (ops := [(3, .iload 4), (5, .aload_n 0), (6, .getfield 39), (9, .iconst 2), (10, .iaload)]) (pc' := 11) (lv' := [(0, .inr (.inr u0)), (1, .inl u1), (2, .inl u2), (3, .inl u3), (4, .inl v4)]) (st' := [.inl (m_rd h (m_rd h u0 20) 2), .inl v4]) (h' := h) (cs := [GK h u0 12, GI h (m_rd h u0 20) 1 2]) (by decide +kernel) rfl hc ?_
    rcases it_of hF with ⟨hb, hF⟩ | ⟨hb, hF⟩
    · refine RN.icf (cd := .ge) (off := 37) (tgt := 48) (by decide +kernel) (mif_gen hb) ?_
      refine RN.blk (ops := [(14, .iload_n 3), (15, .iload 4)]) (pc' := 17) (lv' := [(0, .inr (.inr u0)), (1, .inl u1), (2, .inl u2), (3, .inl u3), (4, .inl v4)]) (st' := [.inl v4, .inl u3]) (h' := h) (cs := []) (by decide +kernel) rfl trivial ?_
      obtain ⟨x2, h1, hG, hF⟩ := bd_of hF
      refine RN.cst (i := 381) (k := 157) (q2 := iX12_isOf) (as := [.inl u3, .inl v4]) (r := []) (v := some (.inl x2)) (h1 := h1) (by decide +kernel) rfl rfl rfl rfl rfl (CX12_isOf (d := d + 1) hG) ?_
      rcases it_of hF with ⟨hb, hF⟩ | ⟨hb, hF⟩
      · refine RN.ift (cd := .eq) (off := 22) (tgt := 42) (by decide +kernel) (mif_eq hb) ?_
        refine RN.blk (ops := [(42, .iinc 4 1)]) (pc' := 45) (lv' := [(4, .inl (m_w32 (v4 + 1))), (0, .inr (.inr u0)), (1, .inl u1), (2, .inl u2), (3, .inl u3)]) (st' := []) (h' := h1) (cs := []) (by decide +kernel) rfl trivial ?_
        refine RN.goto (off := -42) (tgt := 3) (by decide +kernel) ?_
        exact RN.sub (ih _ _ hF) (sub_cons rfl (sub_cons rfl (sub_cons rfl (sub_cons rfl (sub_cons rfl sub_nil)))))
      · refine RN.iff (cd := .eq) (off := 22) (tgt := 42) (by decide +kernel) (mif_eqn hb) ?_
        refine RN.blk (ops := [(23, .aload_n 0), (24, .iload_n 1), (25, .iload 4)]) (pc' := 27) (lv' := [(0, .inr (.inr u0)), (1, .inl u1), (2, .inl u2), (3, .inl u3), (4, .inl v4)]) (st' := [.inl v4, .inl u1, .inr (.inr u0)]) (h' := h1) (cs := []) (by decide +kernel) rfl trivial ?_
        obtain ⟨hc, hF⟩ := gd_of hF
        obtain ⟨x4, h3, hG, hF⟩ := bd_of hF
        refine RN.cv (i := 372) (k := 237) (q2 := iX12_digitOf) (as := [.inr (.inr u0), .inl u1, .inl v4]) (r := []) (v := some (.inl x4)) (h1 := h3) (by decide +kernel) rfl rfl rfl rfl rfl (rcv_ok hc.1) (CX12_digitOf (d := d) hG) ?_
        refine RN.blk (ops := [(30, .aload_n 0), (31, .iload_n 2), (32, .iload 4)]) (pc' := 34) (lv' := [(0, .inr (.inr u0)), (1, .inl u1), (2, .inl u2), (3, .inl u3), (4, .inl v4)]) (st' := [.inl v4, .inl u2, .inr (.inr u0), .inl x4]) (h' := h3) (cs := []) (by decide +kernel) rfl trivial ?_
        obtain ⟨hc, hF⟩ := gd_of hF
        obtain ⟨x6, h5, hG, hF⟩ := bd_of hF
        refine RN.cv (i := 372) (k := 237) (q2 := iX12_digitOf) (as := [.inr (.inr u0), .inl u2, .inl v4]) (r := [.inl x4]) (v := some (.inl x6)) (h1 := h5) (by decide +kernel) rfl rfl rfl rfl rfl (rcv_ok hc.1) (CX12_digitOf (d := d) hG) ?_
        rcases it_of hF with ⟨hb, hF⟩ | ⟨hb, hF⟩
        · refine RN.ict (cd := .eq) (off := 5) (tgt := 42) (by decide +kernel) (mif_eq hb) ?_
          refine RN.blk (ops := [(42, .iinc 4 1)]) (pc' := 45) (lv' := [(4, .inl (m_w32 (v4 + 1))), (0, .inr (.inr u0)), (1, .inl u1), (2, .inl u2), (3, .inl u3)]) (st' := []) (h' := h5) (cs := []) (by decide +kernel) rfl trivial ?_
          refine RN.goto (off := -42) (tgt := 3) (by decide +kernel) ?_
          exact RN.sub (ih _ _ hF) (sub_cons rfl (sub_cons rfl (sub_cons rfl (sub_cons rfl (sub_cons rfl sub_nil)))))
        · refine RN.icf (cd := .eq) (off := 5) (tgt := 42) (by decide +kernel) (mif_eqn hb) ?_
          exact RN.sub (hK0 _ hF) sub_nil
    · refine RN.ict (cd := .ge) (off := 37) (tgt := 48) (by decide +kernel) (mif_ge hb) ?_
      exact RN.sub (hK1 _ hF) sub_nil
noncomputable def FX12_areLike (t : Int) (a1 : Int) (a2 : Int) (a3 : Int) (h : MH) : Option (Int × MH) :=
  FX12_areLike_L3 t a1 a2 a3 (fun h1 =>
   some (0, h1)) (fun h2 =>
   some (1, h2)) FU 0 h
theorem CX12_areLike {d : Nat} {t : Int} {a1 : Int} {a2 : Int} {a3 : Int} {h : MH} {r : Int × MH} (hF : FX12_areLike t a1 a2 a3 h = some r) : RN xs L iX12_areLike (d + 2) 0 (lvE 0 [.inr (.inr t), .inl a1, .inl a2, .inl a3]) [] h (RIo r) := by
  unfold FX12_areLike at hF
  refine RN.blk (ops := [(0, .iconst 0), (1, .istore 4)]) (pc' := 3) (lv' := [(4, .inl 0), (0, .inr (.inr t)), (1, .inl a1), (2, .inl a2), (3, .inl a3)]) (st' := []) (h' := h) (cs := []) (by decide +kernel) rfl trivial ?_
  refine RN.sub (CX12_areLike_L3 ?_ ?_ _ _ _ hF) (sub_cons rfl (sub_cons rfl (sub_cons rfl (sub_cons rfl (sub_cons rfl sub_nil)))))
  · intro h1 hF
    refine RN.blk (ops := [(40, .iconst 0)]) (pc' := 41) (lv' := []) (st' := [.inl 0]) (h' := h1) (cs := []) (by decide +kernel) rfl trivial ?_
    exact RN.zR (by decide +kernel) rfl (Or.inl rfl) hF
  · intro h2 hF
    refine RN.blk (ops := [(48, .iconst 1)]) (pc' := 49) (lv' := []) (st' := [.inl 1]) (h' := h2) (cs := []) (by decide +kernel) rfl trivial ?_
    exact RN.zR (by decide +kernel) rfl (Or.inr rfl) hF
end Dc
