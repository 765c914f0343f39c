/-! METHODS AS FUNCTIONS, and their certificates (by program): X12_isFrame, X12_codesMany, X12_isHole, X12_isEntry, X12_isCode, X12_prefixOf, X12_entryOf, X12_holeOf, X12_sumOver, X12_force, X12_hole, X12_entry, X12_waits, X12_summedBy, X12_sumOf, X12_choice, X12_ties, X12_sorts, X12_leaves, X12_passes -/
section Dc
variable {xs : Int → Int} {L : Int}
noncomputable def FX12_isFrame (t : Int) (h : MH) : Option (Int × MH) :=
  gd [GK h t 12, GI h (m_rd h t 20) 1 0] (
   (if (m_rd h (m_rd h t 20) 0) = 1 then
    some (1, h)
   else
    some (0, h)))
theorem CX12_isFrame {d : Nat} {t : Int} {h : MH} {r : Int × MH} (hF : FX12_isFrame t h = some r) : RN xs L iX12_isFrame (d) 0 (lvE 0 [.inr (.inr t)]) [] h (RIo r) := by
  unfold FX12_isFrame at hF
  obtain ⟨hc, hF⟩ := gd_of hF
  refine RN.blk (ops := [(0, .aload_n 0), (1, .getfield 39), (4, .iconst 0), (5, .iaload), (6, .iconst 1)]) (pc' := 7) (lv' := [(0, .inr (.inr t))]) (st' := [.inl 1, .inl (m_rd h (m_rd h t 20) 0)]) (h' := h) (cs := [GK h t 12, GI h (m_rd h t 20) 1 0]) (by decide +kernel) rfl hc ?_
  rcases it_of hF with ⟨hb, hF⟩ | ⟨hb, hF⟩
  · refine RN.icf (cd := .ne) (off := 7) (tgt := 14) (by decide +kernel) (mif_nen hb) ?_
    refine RN.blk (ops := [(10, .iconst 1)]) (pc' := 11) (lv' := [(0, .inr (.inr t))]) (st' := [.inl 1]) (h' := h) (cs := []) (by decide +kernel) rfl trivial ?_
    refine RN.goto (off := 4) (tgt := 15) (by decide +kernel) ?_
    exact RN.zR (by decide +kernel) rfl (Or.inr rfl) hF
  · refine RN.ict (cd := .ne) (off := 7) (tgt := 14) (by decide +kernel) (mif_ne hb) ?_
    refine RN.blk (ops := [(14, .iconst 0)]) (pc' := 15) (lv' := [(0, .inr (.inr t))]) (st' := [.inl 0]) (h' := h) (cs := []) (by decide +kernel) rfl trivial ?_
    exact RN.zR (by decide +kernel) rfl (Or.inl rfl) hF
noncomputable def FX12_codesMany (t : Int) (h : MH) : Option (Int × MH) :=
  gd [GK h t 12] (bd (FX12_isFrame t h) (fun x2 h1 =>
   (if x2 = 0 then
    some (0, h1)
   else
    gd [GK h1 t 12, GI h1 (m_rd h1 t 20) 1 1, GK h1 t 12, GI h1 (m_rd h1 t 20) 1 2] (
     (bd (FX12_power (m_rd h1 (m_rd h1 t 20) 1) (m_rd h1 (m_rd h1 t 20) 2) h1) (fun x4 h3 =>
      some (x4, h3)))))))
theorem CX12_codesMany {d : Nat} {t : Int} {h : MH} {r : Int × MH} (hF : FX12_codesMany t h = some r) : RN xs L iX12_codesMany (d + 1) 0 (lvE 0 [.inr (.inr t)]) [] h (RIo r) := by
  unfold FX12_codesMany at hF
  refine RN.blk (ops := [(0, .aload_n 0)]) (pc' := 1) (lv' := [(0, .inr (.inr t))]) (st' := [.inr (.inr t)]) (h' := h) (cs := []) (by decide +kernel) rfl trivial ?_
  obtain ⟨hc, hF⟩ := gd_of hF
  obtain ⟨x2, h1, hG, hF⟩ := bd_of hF
  refine RN.cv (i := 295) (k := 202) (q2 := iX12_isFrame) (as := [.inr (.inr t)]) (r := []) (v := some (.inl x2)) (h1 := h1) (by decide +kernel) rfl rfl rfl rfl rfl (rcv_ok hc.1) (CX12_isFrame (d := d) hG) ?_
  rcases it_of hF with ⟨hb, hF⟩ | ⟨hb, hF⟩
  · refine RN.ift (cd := .eq) (off := 21) (tgt := 25) (by decide +kernel) (mif_eq hb) ?_
    refine RN.blk (ops := [(25, .iconst 0)]) (pc' := 26) (lv' := [(0, .inr (.inr t))]) (st' := [.inl 0]) (h' := h1) (cs := []) (by decide +kernel) rfl trivial ?_
    exact RN.iR (by decide +kernel) rfl hF
  · refine RN.iff (cd := .eq) (off := 21) (tgt := 25) (by decide +kernel) (mif_eqn hb) ?_
    obtain ⟨hc, hF⟩ := gd_of hF
    refine RN.blk (ops := [(7, .aload_n 0), (8, .getfield 39), (11, .iconst 1), (12, .iaload), (13, .aload_n 0), (14, .getfield 39), (17, .iconst 2), (18, .iaload)]) (pc' := 19) (lv' := [(0, .inr (.inr t))]) (st' := [.inl (m_rd h1 (m_rd h1 t 20) 2), .inl (m_rd h1 (m_rd h1 t 20) 1)]) (h' := h1) (cs := [GK h1 t 12, GI h1 (m_rd h1 t 20) 1 1, GK h1 t 12, GI h1 (m_rd h1 t 20) 1 2]) (by decide +kernel) rfl hc ?_
    obtain ⟨x4, h3, hG, hF⟩ := bd_of hF
    refine RN.cst (i := 229) (k := 159) (q2 := iX12_power) (as := [.inl (m_rd h1 (m_rd h1 t 20) 1), .inl (m_rd h1 (m_rd h1 t 20) 2)]) (r := []) (v := some (.inl x4)) (h1 := h3) (by decide +kernel) rfl rfl rfl rfl rfl (CX12_power (d := d) hG) ?_
    refine RN.goto (off := 4) (tgt := 26) (by decide +kernel) ?_
    exact RN.iR (by decide +kernel) rfl hF
noncomputable def FX12_isHole (t : Int) (a1 : Int) (h : MH) : Option (Int × MH) :=
  (if a1 < 0 then
   some (0, h)
  else
   gd [GK h t 12, GI h (m_rd h t 20) 1 3] (
    (if a1 < (m_rd h (m_rd h t 20) 3) then
     some (1, h)
    else
     some (0, h))))
theorem CX12_isHole {d : Nat} {t : Int} {a1 : Int} {h : MH} {r : Int × MH} (hF : FX12_isHole t a1 h = some r) : RN xs L iX12_isHole (d) 0 (lvE 0 [.inr (.inr t), .inl a1]) [] h (RIo r) := by
  unfold FX12_isHole at hF
  refine RN.blk (ops := [(0, .iload_n 1)]) (pc' := 1) (lv' := [(0, .inr (.inr t)), (1, .inl a1)]) (st' := [.inl a1]) (h' := h) (cs := []) (by decide +kernel) rfl trivial ?_
  rcases it_of hF with ⟨hb, hF⟩ | ⟨hb, hF⟩
  · refine RN.ift (cd := .lt) (off := 17) (tgt := 18) (by decide +kernel) (mif_lt hb) ?_
    refine RN.blk (ops := [(18, .iconst 0)]) (pc' := 19) (lv' := [(0, .inr (.inr t)), (1, .inl a1)]) (st' := [.inl 0]) (h' := h) (cs := []) (by decide +kernel) rfl trivial ?_
    exact RN.zR (by decide +kernel) rfl (Or.inl rfl) hF
  · refine RN.iff (cd := .lt) (off := 17) (tgt := 18) (by decide +kernel) (mif_ltn hb) ?_
    obtain ⟨hc, hF⟩ := gd_of hF
    refine RN.blk (ops := [(4, .iload_n 1), (5, .aload_n 0), (6, .getfield 39), (9, .iconst 3), (10, .iaload)]) (pc' := 11) (lv' := [(0, .inr (.inr t)), (1, .inl a1)]) (st' := [.inl (m_rd h (m_rd h t 20) 3), .inl a1]) (h' := h) (cs := [GK h t 12, GI h (m_rd h t 20) 1 3]) (by decide +kernel) rfl hc ?_
    rcases it_of hF with ⟨hb, hF⟩ | ⟨hb, hF⟩
    · refine RN.icf (cd := .ge) (off := 7) (tgt := 18) (by decide +kernel) (mif_gen hb) ?_
      refine RN.blk (ops := [(14, .iconst 1)]) (pc' := 15) (lv' := [(0, .inr (.inr t)), (1, .inl a1)]) (st' := [.inl 1]) (h' := h) (cs := []) (by decide +kernel) rfl trivial ?_
      refine RN.goto (off := 4) (tgt := 19) (by decide +kernel) ?_
      exact RN.zR (by decide +kernel) rfl (Or.inr rfl) hF
    · refine RN.ict (cd := .ge) (off := 7) (tgt := 18) (by decide +kernel) (mif_ge hb) ?_
      refine RN.blk (ops := [(18, .iconst 0)]) (pc' := 19) (lv' := [(0, .inr (.inr t)), (1, .inl a1)]) (st' := [.inl 0]) (h' := h) (cs := []) (by decide +kernel) rfl trivial ?_
      exact RN.zR (by decide +kernel) rfl (Or.inl rfl) hF
noncomputable def FX12_isEntry (t : Int) (a1 : Int) (h : MH) : Option (Int × MH) :=
  (if a1 < 0 then
   some (0, h)
  else
   gd [GK h t 12, GI h (m_rd h t 20) 1 13] (
    (if a1 < (m_rd h (m_rd h t 20) 13) then
     some (1, h)
    else
     some (0, h))))
theorem CX12_isEntry {d : Nat} {t : Int} {a1 : Int} {h : MH} {r : Int × MH} (hF : FX12_isEntry t a1 h = some r) : RN xs L iX12_isEntry (d) 0 (lvE 0 [.inr (.inr t), .inl a1]) [] h (RIo r) := by
  unfold FX12_isEntry at hF
  refine RN.blk (ops := [(0, .iload_n 1)]) (pc' := 1) (lv' := [(0, .inr (.inr t)), (1, .inl a1)]) (st' := [.inl a1]) (h' := h) (cs := []) (by decide +kernel) rfl trivial ?_
  rcases it_of hF with ⟨hb, hF⟩ | ⟨hb, hF⟩
  · refine RN.ift (cd := .lt) (off := 18) (tgt := 19) (by decide +kernel) (mif_lt hb) ?_
    refine RN.blk (ops := [(19, .iconst 0)]) (pc' := 20) (lv' := [(0, .inr (.inr t)), (1, .inl a1)]) (st' := [.inl 0]) (h' := h) (cs := []) (by decide +kernel) rfl trivial ?_
    exact RN.zR (by decide +kernel) rfl (Or.inl rfl) hF
  · refine RN.iff (cd := .lt) (off := 18) (tgt := 19) (by decide +kernel) (mif_ltn hb) ?_
    obtain ⟨hc, hF⟩ := gd_of hF
    refine RN.blk (ops := [(4, .iload_n 1), (5, .aload_n 0), (6, .getfield 39), (9, .bipush 13), (11, .iaload)]) (pc' := 12) (lv' := [(0, .inr (.inr t)), (1, .inl a1)]) (st' := [.inl (m_rd h (m_rd h t 20) 13), .inl a1]) (h' := h) (cs := [GK h t 12, GI h (m_rd h t 20) 1 13]) (by decide +kernel) rfl hc ?_
    rcases it_of hF with ⟨hb, hF⟩ | ⟨hb, hF⟩
    · refine RN.icf (cd := .ge) (off := 7) (tgt := 19) (by decide +kernel) (mif_gen hb) ?_
      refine RN.blk (ops := [(15, .iconst 1)]) (pc' := 16) (lv' := [(0, .inr (.inr t)), (1, .inl a1)]) (st' := [.inl 1]) (h' := h) (cs := []) (by decide +kernel) rfl trivial ?_
      refine RN.goto (off := 4) (tgt := 20) (by decide +kernel) ?_
      exact RN.zR (by decide +kernel) rfl (Or.inr rfl) hF
    · refine RN.ict (cd := .ge) (off := 7) (tgt := 19) (by decide +kernel) (mif_ge hb) ?_
      refine RN.blk (ops := [(19, .iconst 0)]) (pc' := 20) (lv' := [(0, .inr (.inr t)), (1, .inl a1)]) (st' := [.inl 0]) (h' := h) (cs := []) (by decide +kernel) rfl trivial ?_
      exact RN.zR (by decide +kernel) rfl (Or.inl rfl) hF
noncomputable def FX12_isCode (t : Int) (a1 : Int) (h : MH) : Option (Int × MH) :=
  (if a1 < 0 then
   some (0, h)
  else
   gd [GK h t 12] (bd (FX12_codesMany t h) (fun x2 h1 =>
    (if a1 < x2 then
     some (1, h1)
    else
     some (0, h1)))))
theorem CX12_isCode {d : Nat} {t : Int} {a1 : Int} {h : MH} {r : Int × MH} (hF : FX12_isCode t a1 h = some r) : RN xs L iX12_isCode (d + 2) 0 (lvE 0 [.inr (.inr t), .inl a1]) [] h (RIo r) := by
  unfold FX12_isCode at hF
  refine RN.blk (ops := [(0, .iload_n 1)]) (pc' := 1) (lv' := [(0, .inr (.inr t)), (1, .inl a1)]) (st' := [.inl a1]) (h' := h) (cs := []) (by decide +kernel) rfl trivial ?_
  rcases it_of hF with ⟨hb, hF⟩ | ⟨hb, hF⟩
  · refine RN.ift (cd := .lt) (off := 15) (tgt := 16) (by decide +kernel) (mif_lt hb) ?_
    refine RN.blk (ops := [(16, .iconst 0)]) (pc' := 17) (lv' := [(0, .inr (.inr t)), (1, .inl a1)]) (st' := [.inl 0]) (h' := h) (cs := []) (by decide +kernel) rfl trivial ?_
    exact RN.zR (by decide +kernel) rfl (Or.inl rfl) hF
  · refine RN.iff (cd := .lt) (off := 15) (tgt := 16) (by decide +kernel) (mif_ltn hb) ?_
    refine RN.blk (ops := [(4, .iload_n 1), (5, .aload_n 0)]) (pc' := 6) (lv' := [(0, .inr (.inr t)), (1, .inl a1)]) (st' := [.inr (.inr t), .inl a1]) (h' := h) (cs := []) (by decide +kernel) rfl trivial ?_
    obtain ⟨hc, hF⟩ := gd_of hF
    obtain ⟨x2, h1, hG, hF⟩ := bd_of hF
    refine RN.cv (i := 298) (k := 203) (q2 := iX12_codesMany) (as := [.inr (.inr t)]) (r := [.inl a1]) (v := some (.inl x2)) (h1 := h1) (by decide +kernel) rfl rfl rfl rfl rfl (rcv_ok hc.1) (CX12_codesMany (d := d) hG) ?_
    rcases it_of hF with ⟨hb, hF⟩ | ⟨hb, hF⟩
    · refine RN.icf (cd := .ge) (off := 7) (tgt := 16) (by decide +kernel) (mif_gen hb) ?_
      refine RN.blk (ops := [(12, .iconst 1)]) (pc' := 13) (lv' := [(0, .inr (.inr t)), (1, .inl a1)]) (st' := [.inl 1]) (h' := h1) (cs := []) (by decide +kernel) rfl trivial ?_
      refine RN.goto (off := 4) (tgt := 17) (by decide +kernel) ?_
      exact RN.zR (by decide +kernel) rfl (Or.inr rfl) hF
    · refine RN.ict (cd := .ge) (off := 7) (tgt := 16) (by decide +kernel) (mif_ge hb) ?_
      refine RN.blk (ops := [(16, .iconst 0)]) (pc' := 17) (lv' := [(0, .inr (.inr t)), (1, .inl a1)]) (st' := [.inl 0]) (h' := h1) (cs := []) (by decide +kernel) rfl trivial ?_
      exact RN.zR (by decide +kernel) rfl (Or.inl rfl) hF
noncomputable def FX12_prefixOf (t : Int) (a1 : Int) (a2 : Int) (h : MH) : Option (Int × MH) :=
  gd [GK h t 12, GI h (m_rd h t 20) 1 1, GK h t 12, GI h (m_rd h t 20) 1 2] (
   (bd (FX12_power (m_rd h (m_rd h t 20) 1) (m_w32 ((m_rd h (m_rd h t 20) 2) - a2)) h) (fun x2 h1 =>
    gd [(x2 : Int) ≠ 0] (
     some ((m_w32 (Int.tdiv a1 x2)), h1)))))
theorem CX12_prefixOf {d : Nat} {t : Int} {a1 : Int} {a2 : Int} {h : MH} {r : Int × MH} (hF : FX12_prefixOf t a1 a2 h = some r) : RN xs L iX12_prefixOf (d + 1) 0 (lvE 0 [.inr (.inr t), .inl a1, .inl a2]) [] h (RIo r) := by
  unfold FX12_prefixOf at hF
  obtain ⟨hc, hF⟩ := gd_of hF
  refine RN.blk (ops := [(0, .iload_n 1), (1, .aload_n 0), (2, .getfield 39), (5, .iconst 1), (6, .iaload), (7, .aload_n 0), (8, .getfield 39), (11, .iconst 2), (12, .iaload), (13, .iload_n 2), (14, .isub)]) (pc' := 15) (lv' := [(0, .inr (.inr t)), (1, .inl a1), (2, .inl a2)]) (st' := [.inl (m_w32 ((m_rd h (m_rd h t 20) 2) - a2)), .inl (m_rd h (m_rd h t 20) 1), .inl a1]) (h' := h) (cs := [GK h t 12, GI h (m_rd h t 20) 1 1, GK h t 12, GI h (m_rd h t 20) 1 2]) (by decide +kernel) rfl hc ?_
  obtain ⟨x2, h1, hG, hF⟩ := bd_of hF
  refine RN.cst (i := 229) (k := 159) (q2 := iX12_power) (as := [.inl (m_rd h (m_rd h t 20) 1), .inl (m_w32 ((m_rd h (m_rd h t 20) 2) - a2))]) (r := [.inl a1]) (v := some (.inl x2)) (h1 := h1) (by decide +kernel) rfl rfl rfl rfl rfl (CX12_power (d := d) hG) ?_
  obtain ⟨hc, hF⟩ := gd_of hF
  refine RN.blk (ops := [(18, .idiv)]) (pc' := 19) (lv' := [(0, .inr (.inr t)), (1, .inl a1), (2, .inl a2)]) (st' := [.inl (m_w32 (Int.tdiv a1 x2))]) (h' := h1) (cs := [(x2 : Int) ≠ 0]) (by decide +kernel) rfl hc ?_
  exact RN.iR (by decide +kernel) rfl hF
noncomputable def FX12_entryOf_L4 (u0 : Int) (u1 : Int) (K0 : Int → MH → Option (Int × MH)) : Nat → Int → Int → MH → Option (Int × MH)
  | 0, _, _, _ => none
  | f + 1, v2, v3, h =>
    gd [GK h u0 12, GI h (m_rd h u0 20) 1 13] (
     (if v3 < (m_rd h (m_rd h u0 20) 13) then
      gd [GK h u0 12, GI h (m_rd h u0 20) 1 (m_w32 ((m_w32 (46 + (m_w32 (3 * v3)))) + 1)), GK h u0 12, GI h (m_rd h u0 20) 1 (m_w32 (46 + (m_w32 (3 * v3))))] (
       gd [GK h u0 12] (bd (FX12_prefixOf u0 u1 (m_rd h (m_rd h u0 20) (m_w32 (46 + (m_w32 (3 * v3))))) h) (fun x2 h1 =>
        (if (m_rd h (m_rd h u0 20) (m_w32 ((m_w32 (46 + (m_w32 (3 * v3)))) + 1))) = x2 then
         (if v2 < 0 then
          FX12_entryOf_L4 u0 u1 K0 f v3 (m_w32 (v3 + 1)) h1
         else
          gd [GK h1 u0 12, GI h1 (m_rd h1 u0 20) 1 (m_w32 (46 + (m_w32 (3 * v3)))), GK h1 u0 12, GI h1 (m_rd h1 u0 20) 1 (m_w32 (46 + (m_w32 (3 * v2))))] (
           (if (m_rd h1 (m_rd h1 u0 20) (m_w32 (46 + (m_w32 (3 * v2))))) < (m_rd h1 (m_rd h1 u0 20) (m_w32 (46 + (m_w32 (3 * v3))))) then
            FX12_entryOf_L4 u0 u1 K0 f v3 (m_w32 (v3 + 1)) h1
           else
            FX12_entryOf_L4 u0 u1 K0 f v2 (m_w32 (v3 + 1)) h1)))
        else
         FX12_entryOf_L4 u0 u1 K0 f v2 (m_w32 (v3 + 1)) h1))))
     else
      K0 v2 h))
theorem CX12_entryOf_L4 {d : Nat} {u0 : Int} {u1 : Int} {K0 : Int → MH → Option (Int × MH)} {r : Int × MH} (hK0 : ∀ (w2 : Int) (h : MH), K0 w2 h = some r → RN xs L iX12_entryOf (d + 2) 80 [(2, .inl w2)] [] h (RIo r)) : ∀ (f : Nat) (v2 : Int) (v3 : Int) (h : MH), FX12_entryOf_L4 u0 u1 K0 f v2 v3 h = some r → RN xs L iX12_entryOf (d + 2) 4 [(0, .inr (.inr u0)), (1, .inl u1), (2, .inl v2), (3, .inl v3)] [] h (RIo r) := by
  intro f
  induction f with
  | zero =>
    intro v2 v3 h hF
    cases hF
  | succ f ih =>
    intro v2 v3 h hF
    unfold FX12_entryOf_L4 at hF
    obtain ⟨hc, hF⟩ := gd_of hF
    refine RN.blk (ops := [(4, .iload_n 3), (5, .aload_n 0), (6, .getfield 39), (9, .bipush 13), (11, .iaload)]) (pc' := 12) (lv' := [(0, .inr (.inr u0)), (1, .inl u1), (2, .inl v2), (3, .inl v3)]) (st' := [.inl (m_rd h (m_rd h u0 20) 13), .inl v3]) (h' := h) (cs := [GK h u0 12, GI h (m_rd h u0 20) 1 13]) (by decide +kernel) rfl hc ?_
    rcases it_of hF with ⟨hb, hF⟩ | ⟨hb, hF⟩
    · refine RN.icf (cd := .ge) (off := 68) (tgt := 80) (by decide +kernel) (mif_gen hb) ?_
      obtain ⟨hc, hF⟩ := gd_of hF
      refine RN.blk (ops := [(15, .bipush 46), (17, .iconst 3), (18, .iload_n 3), (19, .imul), (20, .iadd), (21, .istore 4), (23, .aload_n 0), (24, .getfield 39), (27, .iload 4), (29, .iconst 1), (30, .iadd), (31, .iaload), (32, .aload_n 0), (33, .iload_n 1), (34, .aload_n 0), (35, .getfield 39), (38, .iload 4), (40, .iaload)]) (pc' := 41) (lv' := [(4, .inl (m_w32 (46 + (m_w32 (3 * v3))))), (0, .inr (.inr u0)), (1, .inl u1), (2, .inl v2), (3, .inl v3)]) (st' := [.inl (m_rd h (m_rd h u0 20) (m_w32 (46 + (m_w32 (3 * v3))))), .inl u1, .inr (.inr u0), .inl (m_rd h (m_rd h u0 20) (m_w32 ((m_w32 (46 + (m_w32 (3 * v3)))) + 1)))]) (h' := h) (cs := [GK h u0 12, GI h (m_rd h u0 20) 1 (m_w32 ((m_w32 (46 + (m_w32 (3 * v3)))) + 1)), GK h u0 12, GI h (m_rd h u0 20) 1 (m_w32 (46 + (m_w32 (3 * v3))))]) (by decide +kernel) rfl hc ?_
      obtain ⟨hc, hF⟩ := gd_of hF
      obtain ⟨x2, h1, hG, hF⟩ := bd_of hF
      refine RN.cv (i := 301) (k := 207) (q2 := iX12_prefixOf) (as := [.inr (.inr u0), .inl u1, .inl (m_rd h (m_rd h u0 20) (m_w32 (46 + (m_w32 (3 * v3)))))]) (r := [.inl (m_rd h (m_rd h u0 20) (m_w32 ((m_w32 (46 + (m_w32 (3 * v3)))) + 1)))]) (v := some (.inl x2)) (h1 := h1) (by decide +kernel) rfl rfl rfl rfl rfl (rcv_ok hc.1) (CX12_prefixOf (d := d) hG) ?_
      rcases it_of hF with ⟨hb, hF⟩ | ⟨hb, hF⟩
      · refine RN.icf (cd := .ne) (off := 30) (tgt := 74) (by decide +kernel) (mif_nen hb) ?_
        refine RN.blk (ops := [(47, .iload_n 2)]) (pc' := 48) (lv' := [(4, .inl (m_w32 (46 + (m_w32 (3 * v3))))), (0, .inr (.inr u0)), (1, .inl u1), (2, .inl v2), (3, .inl v3)]) (st' := [.inl v2]) (h' := h1) (cs := []) (by decide +kernel) rfl trivial ?_
        rcases it_of hF with ⟨hb, hF⟩ | ⟨hb, hF⟩
        · refine RN.ift (cd := .lt) (off := 24) (tgt := 72) (by decide +kernel) (mif_lt hb) ?_
          refine RN.blk (ops := [(72, .iload_n 3), (73, .istore_n 2)]) (pc' := 74) (lv' := [(2, .inl v3), (4, .inl (m_w32 (46 + (m_w32 (3 * v3))))), (0, .inr (.inr u0)), (1, .inl u1), (3, .inl v3)]) (st' := []) (h' := h1) (cs := []) (by decide +kernel) rfl trivial ?_
          refine RN.blk (ops := [(74, .iinc 3 1)]) (pc' := 77) (lv' := [(3, .inl (m_w32 (v3 + 1))), (2, .inl v3), (4, .inl (m_w32 (46 + (m_w32 (3 * v3))))), (0, .inr (.inr u0)), (1, .inl u1)]) (st' := []) (h' := h1) (cs := []) (by decide +kernel) rfl trivial ?_
          refine RN.goto (off := -73) (tgt := 4) (by decide +kernel) ?_
          exact RN.sub (ih _ _ _ hF) (sub_cons rfl (sub_cons rfl (sub_cons rfl (sub_cons rfl sub_nil))))
        · refine RN.iff (cd := .lt) (off := 24) (tgt := 72) (by decide +kernel) (mif_ltn hb) ?_
          obtain ⟨hc, hF⟩ := gd_of hF
          refine RN.blk (ops := [(51, .aload_n 0), (52, .getfield 39), (55, .iload 4), (57, .iaload), (58, .aload_n 0), (59, .getfield 39), (62, .bipush 46), (64, .iconst 3), (65, .iload_n 2), (66, .imul), (67, .iadd), (68, .iaload)]) (pc' := 69) (lv' := [(4, .inl (m_w32 (46 + (m_w32 (3 * v3))))), (0, .inr (.inr u0)), (1, .inl u1), (2, .inl v2), (3, .inl v3)]) (st' := [.inl (m_rd h1 (m_rd h1 u0 20) (m_w32 (46 + (m_w32 (3 * v2))))), .inl (m_rd h1 (m_rd h1 u0 20) (m_w32 (46 + (m_w32 (3 * v3)))))]) (h' := h1) (cs := [GK h1 u0 12, GI h1 (m_rd h1 u0 20) 1 (m_w32 (46 + (m_w32 (3 * v3)))), GK h1 u0 12, GI h1 (m_rd h1 u0 20) 1 (m_w32 (46 + (m_w32 (3 * v2))))]) (by decide +kernel) rfl hc ?_
          rcases it_of hF with ⟨hb, hF⟩ | ⟨hb, hF⟩
          · refine RN.icf (cd := .le) (off := 5) (tgt := 74) (by decide +kernel) (mif_len hb) ?_
            refine RN.blk (ops := [(72, .iload_n 3), (73, .istore_n 2)]) (pc' := 74) (lv' := [(2, .inl v3), (4, .inl (m_w32 (46 + (m_w32 (3 * v3))))), (0, .inr (.inr u0)), (1, .inl u1), (3, .inl v3)]) (st' := []) (h' := h1) (cs := []) (by decide +kernel) rfl trivial ?_
            refine RN.blk (ops := [(74, .iinc 3 1)]) (pc' := 77) (lv' := [(3, .inl (m_w32 (v3 + 1))), (2, .inl v3), (4, .inl (m_w32 (46 + (m_w32 (3 * v3))))), (0, .inr (.inr u0)), (1, .inl u1)]) (st' := []) (h' := h1) (cs := []) (by decide +kernel) rfl trivial ?_
            refine RN.goto (off := -73) (tgt := 4) (by decide +kernel) ?_
            exact RN.sub (ih _ _ _ hF) (sub_cons rfl (sub_cons rfl (sub_cons rfl (sub_cons rfl sub_nil))))
          · refine RN.ict (cd := .le) (off := 5) (tgt := 74) (by decide +kernel) (mif_le hb) ?_
            refine RN.blk (ops := [(74, .iinc 3 1)]) (pc' := 77) (lv' := [(3, .inl (m_w32 (v3 + 1))), (4, .inl (m_w32 (46 + (m_w32 (3 * v3))))), (0, .inr (.inr u0)), (1, .inl u1), (2, .inl v2)]) (st' := []) (h' := h1) (cs := []) (by decide +kernel) rfl trivial ?_
            refine RN.goto (off := -73) (tgt := 4) (by decide +kernel) ?_
            exact RN.sub (ih _ _ _ hF) (sub_cons rfl (sub_cons rfl (sub_cons rfl (sub_cons rfl sub_nil))))
      · refine RN.ict (cd := .ne) (off := 30) (tgt := 74) (by decide +kernel) (mif_ne hb) ?_
        refine RN.blk (ops := [(74, .iinc 3 1)]) (pc' := 77) (lv' := [(3, .inl (m_w32 (v3 + 1))), (4, .inl (m_w32 (46 + (m_w32 (3 * v3))))), (0, .inr (.inr u0)), (1, .inl u1), (2, .inl v2)]) (st' := []) (h' := h1) (cs := []) (by decide +kernel) rfl trivial ?_
        refine RN.goto (off := -73) (tgt := 4) (by decide +kernel) ?_
        exact RN.sub (ih _ _ _ hF) (sub_cons rfl (sub_cons rfl (sub_cons rfl (sub_cons rfl sub_nil))))
    · refine RN.ict (cd := .ge) (off := 68) (tgt := 80) (by decide +kernel) (mif_ge hb) ?_
      exact RN.sub (hK0 _ _ hF) (sub_cons rfl sub_nil)
noncomputable def FX12_entryOf (t : Int) (a1 : Int) (h : MH) : Option (Int × MH) :=
  FX12_entryOf_L4 t a1 (fun w1 h2 =>
   some (w1, h2)) FU (-1) 0 h
theorem CX12_entryOf {d : Nat} {t : Int} {a1 : Int} {h : MH} {r : Int × MH} (hF : FX12_entryOf t a1 h = some r) : RN xs L iX12_entryOf (d + 2) 0 (lvE 0 [.inr (.inr t), .inl a1]) [] h (RIo r) := by
  unfold FX12_entryOf at hF
  refine RN.blk (ops := [(0, .iconst (-1)), (1, .istore_n 2), (2, .iconst 0), (3, .istore_n 3)]) (pc' := 4) (lv' := [(3, .inl 0), (2, .inl (-1)), (0, .inr (.inr t)), (1, .inl a1)]) (st' := []) (h' := h) (cs := []) (by decide +kernel) rfl trivial ?_
  refine RN.sub (CX12_entryOf_L4 ?_ _ _ _ _ hF) (sub_cons rfl (sub_cons rfl (sub_cons rfl (sub_cons rfl sub_nil))))
  · intro w1 h2 hF
    refine RN.blk (ops := [(80, .iload_n 2)]) (pc' := 81) (lv' := [(2, .inl w1)]) (st' := [.inl w1]) (h' := h2) (cs := []) (by decide +kernel) rfl trivial ?_
    exact RN.iR (by decide +kernel) rfl hF
noncomputable def FX12_holeOf (t : Int) (a1 : Int) (h : MH) : Option (Int × MH) :=
  gd [GK h t 12] (bd (FX12_entryOf t a1 h) (fun x2 h1 =>
   (if x2 < 0 then
    some ((-1), h1)
   else
    gd [GK h1 t 12, GI h1 (m_rd h1 t 20) 1 (m_w32 ((m_w32 (46 + (m_w32 (3 * x2)))) + 2))] (
     some ((m_rd h1 (m_rd h1 t 20) (m_w32 ((m_w32 (46 + (m_w32 (3 * x2)))) + 2))), h1)))))
theorem CX12_holeOf {d : Nat} {t : Int} {a1 : Int} {h : MH} {r : Int × MH} (hF : FX12_holeOf t a1 h = some r) : RN xs L iX12_holeOf (d + 3) 0 (lvE 0 [.inr (.inr t), .inl a1]) [] h (RIo r) := by
  unfold FX12_holeOf at hF
  refine RN.blk (ops := [(0, .aload_n 0), (1, .iload_n 1)]) (pc' := 2) (lv' := [(0, .inr (.inr t)), (1, .inl a1)]) (st' := [.inl a1, .inr (.inr t)]) (h' := h) (cs := []) (by decide +kernel) rfl trivial ?_
  obtain ⟨hc, hF⟩ := gd_of hF
  obtain ⟨x2, h1, hG, hF⟩ := bd_of hF
  refine RN.cv (i := 304) (k := 208) (q2 := iX12_entryOf) (as := [.inr (.inr t), .inl a1]) (r := []) (v := some (.inl x2)) (h1 := h1) (by decide +kernel) rfl rfl rfl rfl rfl (rcv_ok hc.1) (CX12_entryOf (d := d) hG) ?_
  refine RN.blk (ops := [(5, .istore_n 2), (6, .iload_n 2)]) (pc' := 7) (lv' := [(2, .inl x2), (0, .inr (.inr t)), (1, .inl a1)]) (st' := [.inl x2]) (h' := h1) (cs := []) (by decide +kernel) rfl trivial ?_
  rcases it_of hF with ⟨hb, hF⟩ | ⟨hb, hF⟩
  · refine RN.iff (cd := .ge) (off := 7) (tgt := 14) (by decide +kernel) (mif_gen hb) ?_
    refine RN.blk (ops := [(10, .iconst (-1))]) (pc' := 11) (lv' := [(2, .inl x2), (0, .inr (.inr t)), (1, .inl a1)]) (st' := [.inl (-1)]) (h' := h1) (cs := []) (by decide +kernel) rfl trivial ?_
    refine RN.goto (off := 16) (tgt := 27) (by decide +kernel) ?_
    exact RN.iR (by decide +kernel) rfl hF
  · refine RN.ift (cd := .ge) (off := 7) (tgt := 14) (by decide +kernel) (mif_ge hb) ?_
    obtain ⟨hc, hF⟩ := gd_of hF
    refine RN.blk (ops := [(14, .aload_n 0), (15, .getfield 39), (18, .bipush 46), (20, .iconst 3), (21, .iload_n 2), (22, .imul), (23, .iadd), (24, .iconst 2), (25, .iadd), (26, .iaload)]) (pc' := 27) (lv' := [(2, .inl x2), (0, .inr (.inr t)), (1, .inl a1)]) (st' := [.inl (m_rd h1 (m_rd h1 t 20) (m_w32 ((m_w32 (46 + (m_w32 (3 * x2)))) + 2)))]) (h' := h1) (cs := [GK h1 t 12, GI h1 (m_rd h1 t 20) 1 (m_w32 ((m_w32 (46 + (m_w32 (3 * x2)))) + 2))]) (by decide +kernel) rfl hc ?_
    exact RN.iR (by decide +kernel) rfl hF
noncomputable def FX12_sumOver_L4 (u0 : Int) (u1 : Int) (K0 : Int → MH → Option (Int × MH)) : Nat → Int → Int → MH → Option (Int × MH)
  | 0, _, _, _ => none
  | f + 1, v2, v3, h =>
    gd [GK h u0 12, GI h (m_rd h u0 20) 1 3] (
     (if v3 < (m_rd h (m_rd h u0 20) 3) then
      gd [GK h u0 12, GI h (m_rd h u0 20) 1 (m_w32 (u1 + v3))] (
       FX12_sumOver_L4 u0 u1 K0 f (m_w32 (v2 + (m_rd h (m_rd h u0 20) (m_w32 (u1 + v3))))) (m_w32 (v3 + 1)) h)
     else
      K0 v2 h))
theorem CX12_sumOver_L4 {d : Nat} {u0 : Int} {u1 : Int} {K0 : Int → MH → Option (Int × MH)} {r : Int × MH} (hK0 : ∀ (w2 : Int) (h : MH), K0 w2 h = some r → RN xs L iX12_sumOver (d) 31 [(2, .inl w2)] [] h (RIo r)) : ∀ (f : Nat) (v2 : Int) (v3 : Int) (h : MH), FX12_sumOver_L4 u0 u1 K0 f v2 v3 h = some r → RN xs L iX12_sumOver (d) 4 [(0, .inr (.inr u0)), (1, .inl u1), (2, .inl v2), (3, .inl v3)] [] h (RIo r) := by
  intro f
  induction f with
  | zero =>
    intro v2 v3 h hF
    cases hF
  | succ f ih =>
    intro v2 v3 h hF
    unfold FX12_sumOver_L4 at hF
    obtain ⟨hc, hF⟩ := gd_of hF
    refine RN.blk (ops := [(4, .iload_n 3), (5, .aload_n 0), (6, .getfield 39), (9, .iconst 3), (10, .iaload)]) (pc' := 11) (lv' := [(0, .inr (.inr u0)), (1, .inl u1), (2, .inl v2), (3, .inl v3)]) (st' := [.inl (m_rd h (m_rd h u0 20) 3), .inl v3]) (h' := h) (cs := [GK h u0 12, GI h (m_rd h u0 20) 1 3]) (by decide +kernel) rfl hc ?_
    rcases it_of hF with ⟨hb, hF⟩ | ⟨hb, hF⟩
    · refine RN.icf (cd := .ge) (off := 20) (tgt := 31) (by decide +kernel) (mif_gen hb) ?_
      obtain ⟨hc, hF⟩ := gd_of hF
      refine RN.blk (ops := [(14, .iload_n 2), (15, .aload_n 0), (16, .getfield 39), (19, .iload_n 1), (20, .iload_n 3), (21, .iadd), (22, .iaload), (23, .iadd), (24, .istore_n 2), (25, .iinc 3 1)]) (pc' := 28) (lv' := [(3, .inl (m_w32 (v3 + 1))), (2, .inl (m_w32 (v2 + (m_rd h (m_rd h u0 20) (m_w32 (u1 + v3)))))), (0, .inr (.inr u0)), (1, .inl u1)]) (st' := []) (h' := h) (cs := [GK h u0 12, GI h (m_rd h u0 20) 1 (m_w32 (u1 + v3))]) (by decide +kernel) rfl hc ?_
      refine RN.goto (off := -24) (tgt := 4) (by decide +kernel) ?_
      exact RN.sub (ih _ _ _ hF) (sub_cons rfl (sub_cons rfl (sub_cons rfl (sub_cons rfl sub_nil))))
    · refine RN.ict (cd := .ge) (off := 20) (tgt := 31) (by decide +kernel) (mif_ge hb) ?_
      exact RN.sub (hK0 _ _ hF) (sub_cons rfl sub_nil)
noncomputable def FX12_sumOver (t : Int) (a1 : Int) (h : MH) : Option (Int × MH) :=
  FX12_sumOver_L4 t a1 (fun w1 h2 =>
   some (w1, h2)) FU 0 0 h
theorem CX12_sumOver {d : Nat} {t : Int} {a1 : Int} {h : MH} {r : Int × MH} (hF : FX12_sumOver t a1 h = some r) : RN xs L iX12_sumOver (d) 0 (lvE 0 [.inr (.inr t), .inl a1]) [] h (RIo r) := by
  unfold FX12_sumOver at hF
  refine RN.blk (ops := [(0, .iconst 0), (1, .istore_n 2), (2, .iconst 0), (3, .istore_n 3)]) (pc' := 4) (lv' := [(3, .inl 0), (2, .inl 0), (0, .inr (.inr t)), (1, .inl a1)]) (st' := []) (h' := h) (cs := []) (by decide +kernel) rfl trivial ?_
  refine RN.sub (CX12_sumOver_L4 ?_ _ _ _ _ hF) (sub_cons rfl (sub_cons rfl (sub_cons rfl (sub_cons rfl sub_nil))))
  · intro w1 h2 hF
    refine RN.blk (ops := [(31, .iload_n 2)]) (pc' := 32) (lv' := [(2, .inl w1)]) (st' := [.inl w1]) (h' := h2) (cs := []) (by decide +kernel) rfl trivial ?_
    exact RN.iR (by decide +kernel) rfl hF
noncomputable def FX12_force (t : Int) (a1 : Int) (h : MH) : Option (Int × MH) :=
  (if a1 = (-1) then
   gd [GK h t 12, GK h t 12] (
    some ((m_rd h t 21), (m_wr h t 21 a1)))
  else
   gd [GK h t 12] (bd (FX12_isRule t a1 h) (fun x2 h1 =>
    (if x2 = 0 then
     some ((-2), h1)
    else
     gd [GK h1 t 12, GK h1 t 12] (
      some ((m_rd h1 t 21), (m_wr h1 t 21 a1)))))))
theorem CX12_force {d : Nat} {t : Int} {a1 : Int} {h : MH} {r : Int × MH} (hF : FX12_force t a1 h = some r) : RN xs L iX12_force (d + 1) 0 (lvE 0 [.inr (.inr t), .inl a1]) [] h (RIo r) := by
  unfold FX12_force at hF
  refine RN.blk (ops := [(0, .iload_n 1), (1, .iconst (-1))]) (pc' := 2) (lv' := [(0, .inr (.inr t)), (1, .inl a1)]) (st' := [.inl (-1), .inl a1]) (h' := h) (cs := []) (by decide +kernel) rfl trivial ?_
  rcases it_of hF with ⟨hb, hF⟩ | ⟨hb, hF⟩
  · refine RN.ict (cd := .eq) (off := 14) (tgt := 16) (by decide +kernel) (mif_eq hb) ?_
    obtain ⟨hc, hF⟩ := gd_of hF
    refine RN.blk (ops := [(16, .aload_n 0), (17, .getfield 42), (20, .istore_n 2), (21, .aload_n 0), (22, .iload_n 1), (23, .putfield 42), (26, .iload_n 2)]) (pc' := 27) (lv' := [(2, .inl (m_rd h t 21)), (0, .inr (.inr t)), (1, .inl a1)]) (st' := [.inl (m_rd h t 21)]) (h' := (m_wr h t 21 a1)) (cs := [GK h t 12, GK h t 12]) (by decide +kernel) rfl hc ?_
    exact RN.iR (by decide +kernel) rfl hF
  · refine RN.icf (cd := .eq) (off := 14) (tgt := 16) (by decide +kernel) (mif_eqn hb) ?_
    refine RN.blk (ops := [(5, .aload_n 0), (6, .iload_n 1)]) (pc' := 7) (lv' := [(0, .inr (.inr t)), (1, .inl a1)]) (st' := [.inl a1, .inr (.inr t)]) (h' := h) (cs := []) (by decide +kernel) rfl trivial ?_
    obtain ⟨hc, hF⟩ := gd_of hF
    obtain ⟨x2, h1, hG, hF⟩ := bd_of hF
    refine RN.cv (i := 307) (k := 197) (q2 := iX12_isRule) (as := [.inr (.inr t), .inl a1]) (r := []) (v := some (.inl x2)) (h1 := h1) (by decide +kernel) rfl rfl rfl rfl rfl (rcv_ok hc.1) (CX12_isRule (d := d) hG) ?_
    rcases it_of hF with ⟨hb, hF⟩ | ⟨hb, hF⟩
    · refine RN.iff (cd := .ne) (off := 6) (tgt := 16) (by decide +kernel) (mif_nen hb) ?_
      refine RN.blk (ops := [(13, .bipush (-2))]) (pc' := 15) (lv' := [(0, .inr (.inr t)), (1, .inl a1)]) (st' := [.inl (-2)]) (h' := h1) (cs := []) (by decide +kernel) rfl trivial ?_
      exact RN.iR (by decide +kernel) rfl hF
    · refine RN.ift (cd := .ne) (off := 6) (tgt := 16) (by decide +kernel) (mif_ne hb) ?_
      obtain ⟨hc, hF⟩ := gd_of hF
      refine RN.blk (ops := [(16, .aload_n 0), (17, .getfield 42), (20, .istore_n 2), (21, .aload_n 0), (22, .iload_n 1), (23, .putfield 42), (26, .iload_n 2)]) (pc' := 27) (lv' := [(2, .inl (m_rd h1 t 21)), (0, .inr (.inr t)), (1, .inl a1)]) (st' := [.inl (m_rd h1 t 21)]) (h' := (m_wr h1 t 21 a1)) (cs := [GK h1 t 12, GK h1 t 12]) (by decide +kernel) rfl hc ?_
      exact RN.iR (by decide +kernel) rfl hF
noncomputable def FX12_hole (t : Int) (a1 : Int) (a2 : Int) (h : MH) : Option (Int × MH) :=
  gd [GK h t 12] (bd (FX12_isHole t a1 h) (fun x2 h1 =>
   (if x2 = 0 then
    some ((-1), h1)
   else
    (bd (FX12_in a2 0 2 h1) (fun x4 h3 =>
     (if x4 = 0 then
      some ((-1), h3)
     else
      (if a2 = 0 then
       gd [GK h3 t 12, GI h3 (m_rd h3 t 20) 1 (m_w32 (82 + a1))] (
        some ((m_rd h3 (m_rd h3 t 20) (m_w32 (82 + a1))), h3))
      else
       (if a2 = 1 then
        gd [GK h3 t 12, GI h3 (m_rd h3 t 20) 1 (m_w32 (14 + a1))] (
         some ((m_rd h3 (m_rd h3 t 20) (m_w32 (14 + a1))), h3))
       else
        gd [GK h3 t 12, GI h3 (m_rd h3 t 20) 1 (m_w32 (20 + a1))] (
         some ((m_rd h3 (m_rd h3 t 20) (m_w32 (20 + a1))), h3))))))))))
theorem CX12_hole {d : Nat} {t : Int} {a1 : Int} {a2 : Int} {h : MH} {r : Int × MH} (hF : FX12_hole t a1 a2 h = some r) : RN xs L iX12_hole (d + 1) 0 (lvE 0 [.inr (.inr t), .inl a1, .inl a2]) [] h (RIo r) := by
  unfold FX12_hole at hF
  refine RN.blk (ops := [(0, .aload_n 0), (1, .iload_n 1)]) (pc' := 2) (lv' := [(0, .inr (.inr t)), (1, .inl a1), (2, .inl a2)]) (st' := [.inl a1, .inr (.inr t)]) (h' := h) (cs := []) (by decide +kernel) rfl trivial ?_
  obtain ⟨hc, hF⟩ := gd_of hF
  obtain ⟨x2, h1, hG, hF⟩ := bd_of hF
  refine RN.cv (i := 310) (k := 204) (q2 := iX12_isHole) (as := [.inr (.inr t), .inl a1]) (r := []) (v := some (.inl x2)) (h1 := h1) (by decide +kernel) rfl rfl rfl rfl rfl (rcv_ok hc.1) (CX12_isHole (d := d) hG) ?_
  rcases it_of hF with ⟨hb, hF⟩ | ⟨hb, hF⟩
  · refine RN.ift (cd := .eq) (off := 15) (tgt := 20) (by decide +kernel) (mif_eq hb) ?_
    refine RN.blk (ops := [(20, .iconst (-1))]) (pc' := 21) (lv' := [(0, .inr (.inr t)), (1, .inl a1), (2, .inl a2)]) (st' := [.inl (-1)]) (h' := h1) (cs := []) (by decide +kernel) rfl trivial ?_
    exact RN.iR (by decide +kernel) rfl hF
  · refine RN.iff (cd := .eq) (off := 15) (tgt := 20) (by decide +kernel) (mif_eqn hb) ?_
    refine RN.blk (ops := [(8, .iload_n 2), (9, .i2l), (10, .lconst 0), (11, .ldc2_w 313)]) (pc' := 14) (lv' := [(0, .inr (.inr t)), (1, .inl a1), (2, .inl a2)]) (st' := [.inr (.inl 2), .inr (.inl 0), .inr (.inl a2)]) (h' := h1) (cs := []) (by decide +kernel) rfl trivial ?_
    obtain ⟨x4, h3, hG, hF⟩ := bd_of hF
    refine RN.cst (i := 127) (k := 156) (q2 := iX12_in) (as := [.inr (.inl a2), .inr (.inl 0), .inr (.inl 2)]) (r := []) (v := some (.inl x4)) (h1 := h3) (by decide +kernel) rfl rfl rfl rfl rfl (CX12_in (d := d) hG) ?_
    rcases it_of hF with ⟨hb, hF⟩ | ⟨hb, hF⟩
    · refine RN.iff (cd := .ne) (off := 5) (tgt := 22) (by decide +kernel) (mif_nen hb) ?_
      refine RN.blk (ops := [(20, .iconst (-1))]) (pc' := 21) (lv' := [(0, .inr (.inr t)), (1, .inl a1), (2, .inl a2)]) (st' := [.inl (-1)]) (h' := h3) (cs := []) (by decide +kernel) rfl trivial ?_
      exact RN.iR (by decide +kernel) rfl hF
    · refine RN.ift (cd := .ne) (off := 5) (tgt := 22) (by decide +kernel) (mif_ne hb) ?_
      refine RN.blk (ops := [(22, .iload_n 2)]) (pc' := 23) (lv' := [(0, .inr (.inr t)), (1, .inl a1), (2, .inl a2)]) (st' := [.inl a2]) (h' := h3) (cs := []) (by decide +kernel) rfl trivial ?_
      rcases it_of hF with ⟨hb, hF⟩ | ⟨hb, hF⟩
      · refine RN.iff (cd := .ne) (off := 15) (tgt := 38) (by decide +kernel) (mif_nen hb) ?_
        obtain ⟨hc, hF⟩ := gd_of hF
        refine RN.blk (ops := [(26, .aload_n 0), (27, .getfield 39), (30, .bipush 82), (32, .iload_n 1), (33, .iadd), (34, .iaload)]) (pc' := 35) (lv' := [(0, .inr (.inr t)), (1, .inl a1), (2, .inl a2)]) (st' := [.inl (m_rd h3 (m_rd h3 t 20) (m_w32 (82 + a1)))]) (h' := h3) (cs := [GK h3 t 12, GI h3 (m_rd h3 t 20) 1 (m_w32 (82 + a1))]) (by decide +kernel) rfl hc ?_
        refine RN.goto (off := 29) (tgt := 64) (by decide +kernel) ?_
        exact RN.iR (by decide +kernel) rfl hF
      · refine RN.ift (cd := .ne) (off := 15) (tgt := 38) (by decide +kernel) (mif_ne hb) ?_
        refine RN.blk (ops := [(38, .iload_n 2), (39, .iconst 1)]) (pc' := 40) (lv' := [(0, .inr (.inr t)), (1, .inl a1), (2, .inl a2)]) (st' := [.inl 1, .inl a2]) (h' := h3) (cs := []) (by decide +kernel) rfl trivial ?_
        rcases it_of hF with ⟨hb, hF⟩ | ⟨hb, hF⟩
        · refine RN.icf (cd := .ne) (off := 15) (tgt := 55) (by decide +kernel) (mif_nen hb) ?_
          obtain ⟨hc, hF⟩ := gd_of hF
          refine RN.blk (ops := [(43, .aload_n 0), (44, .getfield 39), (47, .bipush 14), (49, .iload_n 1), (50, .iadd), (51, .iaload)]) (pc' := 52) (lv' := [(0, .inr (.inr t)), (1, .inl a1), (2, .inl a2)]) (st' := [.inl (m_rd h3 (m_rd h3 t 20) (m_w32 (14 + a1)))]) (h' := h3) (cs := [GK h3 t 12, GI h3 (m_rd h3 t 20) 1 (m_w32 (14 + a1))]) (by decide +kernel) rfl hc ?_
          refine RN.goto (off := 12) (tgt := 64) (by decide +kernel) ?_
          exact RN.iR (by decide +kernel) rfl hF
        · refine RN.ict (cd := .ne) (off := 15) (tgt := 55) (by decide +kernel) (mif_ne hb) ?_
          obtain ⟨hc, hF⟩ := gd_of hF
          refine RN.blk (ops := [(55, .aload_n 0), (56, .getfield 39), (59, .bipush 20), (61, .iload_n 1), (62, .iadd), (63, .iaload)]) (pc' := 64) (lv' := [(0, .inr (.inr t)), (1, .inl a1), (2, .inl a2)]) (st' := [.inl (m_rd h3 (m_rd h3 t 20) (m_w32 (20 + a1)))]) (h' := h3) (cs := [GK h3 t 12, GI h3 (m_rd h3 t 20) 1 (m_w32 (20 + a1))]) (by decide +kernel) rfl hc ?_
          exact RN.iR (by decide +kernel) rfl hF
noncomputable def FX12_entry (t : Int) (a1 : Int) (a2 : Int) (h : MH) : Option (Int × MH) :=
  gd [GK h t 12] (bd (FX12_isEntry t a1 h) (fun x2 h1 =>
   (if x2 = 0 then
    some ((-1), h1)
   else
    (bd (FX12_in a2 0 2 h1) (fun x4 h3 =>
     (if x4 = 0 then
      some ((-1), h3)
     else
      gd [GK h3 t 12, GI h3 (m_rd h3 t 20) 1 (m_w32 ((m_w32 (46 + (m_w32 (3 * a1)))) + a2))] (
       some ((m_rd h3 (m_rd h3 t 20) (m_w32 ((m_w32 (46 + (m_w32 (3 * a1)))) + a2))), h3))))))))
theorem CX12_entry {d : Nat} {t : Int} {a1 : Int} {a2 : Int} {h : MH} {r : Int × MH} (hF : FX12_entry t a1 a2 h = some r) : RN xs L iX12_entry (d + 1) 0 (lvE 0 [.inr (.inr t), .inl a1, .inl a2]) [] h (RIo r) := by
  unfold FX12_entry at hF
  refine RN.blk (ops := [(0, .aload_n 0), (1, .iload_n 1)]) (pc' := 2) (lv' := [(0, .inr (.inr t)), (1, .inl a1), (2, .inl a2)]) (st' := [.inl a1, .inr (.inr t)]) (h' := h) (cs := []) (by decide +kernel) rfl trivial ?_
  obtain ⟨hc, hF⟩ := gd_of hF
  obtain ⟨x2, h1, hG, hF⟩ := bd_of hF
  refine RN.cv (i := 315) (k := 205) (q2 := iX12_isEntry) (as := [.inr (.inr t), .inl a1]) (r := []) (v := some (.inl x2)) (h1 := h1) (by decide +kernel) rfl rfl rfl rfl rfl (rcv_ok hc.1) (CX12_isEntry (d := d) hG) ?_
  rcases it_of hF with ⟨hb, hF⟩ | ⟨hb, hF⟩
  · refine RN.ift (cd := .eq) (off := 31) (tgt := 36) (by decide +kernel) (mif_eq hb) ?_
    refine RN.blk (ops := [(36, .iconst (-1))]) (pc' := 37) (lv' := [(0, .inr (.inr t)), (1, .inl a1), (2, .inl a2)]) (st' := [.inl (-1)]) (h' := h1) (cs := []) (by decide +kernel) rfl trivial ?_
    exact RN.iR (by decide +kernel) rfl hF
  · refine RN.iff (cd := .eq) (off := 31) (tgt := 36) (by decide +kernel) (mif_eqn hb) ?_
    refine RN.blk (ops := [(8, .iload_n 2), (9, .i2l), (10, .lconst 0), (11, .ldc2_w 313)]) (pc' := 14) (lv' := [(0, .inr (.inr t)), (1, .inl a1), (2, .inl a2)]) (st' := [.inr (.inl 2), .inr (.inl 0), .inr (.inl a2)]) (h' := h1) (cs := []) (by decide +kernel) rfl trivial ?_
    obtain ⟨x4, h3, hG, hF⟩ := bd_of hF
    refine RN.cst (i := 127) (k := 156) (q2 := iX12_in) (as := [.inr (.inl a2), .inr (.inl 0), .inr (.inl 2)]) (r := []) (v := some (.inl x4)) (h1 := h3) (by decide +kernel) rfl rfl rfl rfl rfl (CX12_in (d := d) hG) ?_
    rcases it_of hF with ⟨hb, hF⟩ | ⟨hb, hF⟩
    · refine RN.ift (cd := .eq) (off := 19) (tgt := 36) (by decide +kernel) (mif_eq hb) ?_
      refine RN.blk (ops := [(36, .iconst (-1))]) (pc' := 37) (lv' := [(0, .inr (.inr t)), (1, .inl a1), (2, .inl a2)]) (st' := [.inl (-1)]) (h' := h3) (cs := []) (by decide +kernel) rfl trivial ?_
      exact RN.iR (by decide +kernel) rfl hF
    · refine RN.iff (cd := .eq) (off := 19) (tgt := 36) (by decide +kernel) (mif_eqn hb) ?_
      obtain ⟨hc, hF⟩ := gd_of hF
      refine RN.blk (ops := [(20, .aload_n 0), (21, .getfield 39), (24, .bipush 46), (26, .iconst 3), (27, .iload_n 1), (28, .imul), (29, .iadd), (30, .iload_n 2), (31, .iadd), (32, .iaload)]) (pc' := 33) (lv' := [(0, .inr (.inr t)), (1, .inl a1), (2, .inl a2)]) (st' := [.inl (m_rd h3 (m_rd h3 t 20) (m_w32 ((m_w32 (46 + (m_w32 (3 * a1)))) + a2)))]) (h' := h3) (cs := [GK h3 t 12, GI h3 (m_rd h3 t 20) 1 (m_w32 ((m_w32 (46 + (m_w32 (3 * a1)))) + a2))]) (by decide +kernel) rfl hc ?_
      refine RN.goto (off := 4) (tgt := 37) (by decide +kernel) ?_
      exact RN.iR (by decide +kernel) rfl hF
noncomputable def FX12_waits (t : Int) (a1 : Int) (h : MH) : Option (Int × MH) :=
  (if a1 < 0 then
   some ((-1), h)
  else
   gd [GK h t 12, GI h (m_rd h t 20) 1 12] (
    (if a1 < (m_rd h (m_rd h t 20) 12) then
     gd [GK h t 12, GI h (m_rd h t 20) 1 (m_w32 (26 + a1))] (
      some ((m_rd h (m_rd h t 20) (m_w32 (26 + a1))), h))
    else
     some ((-1), h))))
theorem CX12_waits {d : Nat} {t : Int} {a1 : Int} {h : MH} {r : Int × MH} (hF : FX12_waits t a1 h = some r) : RN xs L iX12_waits (d) 0 (lvE 0 [.inr (.inr t), .inl a1]) [] h (RIo r) := by
  unfold FX12_waits at hF
  refine RN.blk (ops := [(0, .iload_n 1)]) (pc' := 1) (lv' := [(0, .inr (.inr t)), (1, .inl a1)]) (st' := [.inl a1]) (h' := h) (cs := []) (by decide +kernel) rfl trivial ?_
  rcases it_of hF with ⟨hb, hF⟩ | ⟨hb, hF⟩
  · refine RN.ift (cd := .lt) (off := 26) (tgt := 27) (by decide +kernel) (mif_lt hb) ?_
    refine RN.blk (ops := [(27, .iconst (-1))]) (pc' := 28) (lv' := [(0, .inr (.inr t)), (1, .inl a1)]) (st' := [.inl (-1)]) (h' := h) (cs := []) (by decide +kernel) rfl trivial ?_
    exact RN.iR (by decide +kernel) rfl hF
  · refine RN.iff (cd := .lt) (off := 26) (tgt := 27) (by decide +kernel) (mif_ltn hb) ?_
    obtain ⟨hc, hF⟩ := gd_of hF
    refine RN.blk (ops := [(4, .iload_n 1), (5, .aload_n 0), (6, .getfield 39), (9, .bipush 12), (11, .iaload)]) (pc' := 12) (lv' := [(0, .inr (.inr t)), (1, .inl a1)]) (st' := [.inl (m_rd h (m_rd h t 20) 12), .inl a1]) (h' := h) (cs := [GK h t 12, GI h (m_rd h t 20) 1 12]) (by decide +kernel) rfl hc ?_
    rcases it_of hF with ⟨hb, hF⟩ | ⟨hb, hF⟩
    · refine RN.icf (cd := .ge) (off := 15) (tgt := 27) (by decide +kernel) (mif_gen hb) ?_
      obtain ⟨hc, hF⟩ := gd_of hF
      refine RN.blk (ops := [(15, .aload_n 0), (16, .getfield 39), (19, .bipush 26), (21, .iload_n 1), (22, .iadd), (23, .iaload)]) (pc' := 24) (lv' := [(0, .inr (.inr t)), (1, .inl a1)]) (st' := [.inl (m_rd h (m_rd h t 20) (m_w32 (26 + a1)))]) (h' := h) (cs := [GK h t 12, GI h (m_rd h t 20) 1 (m_w32 (26 + a1))]) (by decide +kernel) rfl hc ?_
      refine RN.goto (off := 4) (tgt := 28) (by decide +kernel) ?_
      exact RN.iR (by decide +kernel) rfl hF
    · refine RN.ict (cd := .ge) (off := 15) (tgt := 27) (by decide +kernel) (mif_ge hb) ?_
      refine RN.blk (ops := [(27, .iconst (-1))]) (pc' := 28) (lv' := [(0, .inr (.inr t)), (1, .inl a1)]) (st' := [.inl (-1)]) (h' := h) (cs := []) (by decide +kernel) rfl trivial ?_
      exact RN.iR (by decide +kernel) rfl hF
noncomputable def FX12_summedBy_L2 (u0 : Int) (u1 : Int) (K0 : Int → MH → Option (Int × MH)) (K1 : MH → Option (Int × MH)) : Nat → Int → MH → Option (Int × MH)
  | 0, _, _ => none
  | f + 1, v2, h =>
    gd [GK h u0 12, GI h (m_rd h u0 6) 1 u1] (
     (if v2 < (m_rd h (m_rd h u0 6) u1) then
      gd [GK h u0 12, GI h (m_rd h u0 5) 1 (m_w32 ((m_w32 ((m_w32 (48 * u1)) + (m_w32 (4 * v2)))) + 2))] (
       (if (m_rd h (m_rd h u0 5) (m_w32 ((m_w32 ((m_w32 (48 * u1)) + (m_w32 (4 * v2)))) + 2))) < 0 then
        K0 (m_w32 ((m_w32 (48 * u1)) + (m_w32 (4 * v2)))) h
       else
        gd [GK h u0 12, GI h (m_rd h u0 5) 1 (m_w32 ((m_w32 ((m_w32 (48 * u1)) + (m_w32 (4 * v2)))) + 2)), GK h u0 12, GI h (m_rd h u0 5) 1 (m_w32 ((m_w32 ((m_w32 (48 * u1)) + (m_w32 (4 * v2)))) + 3))] (
         gd [GK h u0 12] (bd (FX12_reckons u0 u1 (m_rd h (m_rd h u0 5) (m_w32 ((m_w32 ((m_w32 (48 * u1)) + (m_w32 (4 * v2)))) + 2))) (m_rd h (m_rd h u0 5) (m_w32 ((m_w32 ((m_w32 (48 * u1)) + (m_w32 (4 * v2)))) + 3))) h) (fun x2 h1 =>
          (if (m_lcmp x2 1) = 0 then
           K0 (m_w32 ((m_w32 (48 * u1)) + (m_w32 (4 * v2)))) h1
          else
           FX12_summedBy_L2 u0 u1 K0 K1 f (m_w32 (v2 + 1)) h1))))))
     else
      K1 h))
theorem CX12_summedBy_L2 {d : Nat} {u0 : Int} {u1 : Int} {K0 : Int → MH → Option (Int × MH)} {K1 : MH → Option (Int × MH)} {r : Int × MH} (hK0 : ∀ (w3 : Int) (h : MH), K0 w3 h = some r → RN xs L iX12_summedBy (d + 2) 58 [(0, .inr (.inr u0)), (1, .inl u1), (3, .inl w3)] [] h (RJo r)) (hK1 : ∀ (h : MH), K1 h = some r → RN xs L iX12_summedBy (d + 2) 84 [] [] h (RJo r)) : ∀ (f : Nat) (v2 : Int) (h : MH), FX12_summedBy_L2 u0 u1 K0 K1 f v2 h = some r → RN xs L iX12_summedBy (d + 2) 2 [(0, .inr (.inr u0)), (1, .inl u1), (2, .inl v2)] [] h (RJo r) := by
  intro f
  induction f with
  | zero =>
    intro v2 h hF
    cases hF
  | succ f ih =>
    intro v2 h hF
    unfold FX12_summedBy_L2 at hF
    obtain ⟨hc, hF⟩ := gd_of hF
    refine RN.blk (ops := [(2, .iload_n 2), (3, .aload_n 0), (4, .getfield 23), (7, .iload_n 1), (8, .iaload)]) (pc' := 9) (lv' := [(0, .inr (.inr u0)), (1, .inl u1), (2, .inl v2)]) (st' := [.inl (m_rd h (m_rd h u0 6) u1), .inl v2]) (h' := h) (cs := [GK h u0 12, GI h (m_rd h u0 6) 1 u1]) (by decide +kernel) rfl hc ?_
    rcases it_of hF with ⟨hb, hF⟩ | ⟨hb, hF⟩
    · refine RN.icf (cd := .ge) (off := 75) (tgt := 84) (by decide +kernel) (mif_gen hb) ?_
      obtain ⟨hc, hF⟩ := gd_of hF
      refine RN.blk (ops := [(12, .bipush 48), (14, .iload_n 1), (15, .imul), (16, .iconst 4), (17, .iload_n 2), (18, .imul), (19, .iadd), (20, .istore_n 3), (21, .aload_n 0), (22, .getfield 20), (25, .iload_n 3), (26, .iconst 2), (27, .iadd), (28, .iaload)]) (pc' := 29) (lv' := [(3, .inl (m_w32 ((m_w32 (48 * u1)) + (m_w32 (4 * v2))))), (0, .inr (.inr u0)), (1, .inl u1), (2, .inl v2)]) (st' := [.inl (m_rd h (m_rd h u0 5) (m_w32 ((m_w32 ((m_w32 (48 * u1)) + (m_w32 (4 * v2)))) + 2)))]) (h' := h) (cs := [GK h u0 12, GI h (m_rd h u0 5) 1 (m_w32 ((m_w32 ((m_w32 (48 * u1)) + (m_w32 (4 * v2)))) + 2))]) (by decide +kernel) rfl hc ?_
      rcases it_of hF with ⟨hb, hF⟩ | ⟨hb, hF⟩
      · refine RN.ift (cd := .lt) (off := 29) (tgt := 58) (by decide +kernel) (mif_lt hb) ?_
        exact RN.sub (hK0 _ _ hF) (sub_cons rfl (sub_cons rfl (sub_cons rfl sub_nil)))
      · refine RN.iff (cd := .lt) (off := 29) (tgt := 58) (by decide +kernel) (mif_ltn hb) ?_
        obtain ⟨hc, hF⟩ := gd_of hF
        refine RN.blk (ops := [(32, .aload_n 0), (33, .iload_n 1), (34, .aload_n 0), (35, .getfield 20), (38, .iload_n 3), (39, .iconst 2), (40, .iadd), (41, .iaload), (42, .aload_n 0), (43, .getfield 20), (46, .iload_n 3), (47, .iconst 3), (48, .iadd), (49, .iaload)]) (pc' := 50) (lv' := [(3, .inl (m_w32 ((m_w32 (48 * u1)) + (m_w32 (4 * v2))))), (0, .inr (.inr u0)), (1, .inl u1), (2, .inl v2)]) (st' := [.inl (m_rd h (m_rd h u0 5) (m_w32 ((m_w32 ((m_w32 (48 * u1)) + (m_w32 (4 * v2)))) + 3))), .inl (m_rd h (m_rd h u0 5) (m_w32 ((m_w32 ((m_w32 (48 * u1)) + (m_w32 (4 * v2)))) + 2))), .inl u1, .inr (.inr u0)]) (h' := h) (cs := [GK h u0 12, GI h (m_rd h u0 5) 1 (m_w32 ((m_w32 ((m_w32 (48 * u1)) + (m_w32 (4 * v2)))) + 2)), GK h u0 12, GI h (m_rd h u0 5) 1 (m_w32 ((m_w32 ((m_w32 (48 * u1)) + (m_w32 (4 * v2)))) + 3))]) (by decide +kernel) rfl hc ?_
        obtain ⟨hc, hF⟩ := gd_of hF
        obtain ⟨x2, h1, hG, hF⟩ := bd_of hF
        refine RN.cv (i := 318) (k := 201) (q2 := iX12_reckons) (as := [.inr (.inr u0), .inl u1, .inl (m_rd h (m_rd h u0 5) (m_w32 ((m_w32 ((m_w32 (48 * u1)) + (m_w32 (4 * v2)))) + 2))), .inl (m_rd h (m_rd h u0 5) (m_w32 ((m_w32 ((m_w32 (48 * u1)) + (m_w32 (4 * v2)))) + 3)))]) (r := []) (v := some (.inr (.inl x2))) (h1 := h1) (by decide +kernel) rfl rfl rfl rfl rfl (rcv_ok hc.1) (CX12_reckons (d := d) hG) ?_
        refine RN.blk (ops := [(53, .lconst 1), (54, .lcmp)]) (pc' := 55) (lv' := [(3, .inl (m_w32 ((m_w32 (48 * u1)) + (m_w32 (4 * v2))))), (0, .inr (.inr u0)), (1, .inl u1), (2, .inl v2)]) (st' := [.inl (m_lcmp x2 1)]) (h' := h1) (cs := []) (by decide +kernel) rfl trivial ?_
        rcases it_of hF with ⟨hb, hF⟩ | ⟨hb, hF⟩
        · refine RN.iff (cd := .ne) (off := 23) (tgt := 78) (by decide +kernel) (mif_nen hb) ?_
          exact RN.sub (hK0 _ _ hF) (sub_cons rfl (sub_cons rfl (sub_cons rfl sub_nil)))
        · refine RN.ift (cd := .ne) (off := 23) (tgt := 78) (by decide +kernel) (mif_ne hb) ?_
          refine RN.blk (ops := [(78, .iinc 2 1)]) (pc' := 81) (lv' := [(2, .inl (m_w32 (v2 + 1))), (3, .inl (m_w32 ((m_w32 (48 * u1)) + (m_w32 (4 * v2))))), (0, .inr (.inr u0)), (1, .inl u1)]) (st' := []) (h' := h1) (cs := []) (by decide +kernel) rfl trivial ?_
          refine RN.goto (off := -79) (tgt := 2) (by decide +kernel) ?_
          exact RN.sub (ih _ _ hF) (sub_cons rfl (sub_cons rfl (sub_cons rfl sub_nil)))
    · refine RN.ict (cd := .ge) (off := 75) (tgt := 84) (by decide +kernel) (mif_ge hb) ?_
      exact RN.sub (hK1 _ hF) sub_nil
noncomputable def FX12_summedBy (t : Int) (a1 : Int) (h : MH) : Option (Int × MH) :=
  FX12_summedBy_L2 t a1 (fun w1 h2 =>
   gd [GK h2 t 12, GI h2 (m_rd h2 t 5) 1 w1, GK h2 t 12, GI h2 (m_rd h2 t 5) 1 (m_w32 (w1 + 1))] (
    gd [GK h2 t 12] (bd (FX12_reckons t a1 (m_rd h2 (m_rd h2 t 5) w1) (m_rd h2 (m_rd h2 t 5) (m_w32 (w1 + 1))) h2) (fun x5 h4 =>
     some (x5, h4))))) (fun h3 =>
   some (0, h3)) FU 0 h
theorem CX12_summedBy {d : Nat} {t : Int} {a1 : Int} {h : MH} {r : Int × MH} (hF : FX12_summedBy t a1 h = some r) : RN xs L iX12_summedBy (d + 2) 0 (lvE 0 [.inr (.inr t), .inl a1]) [] h (RJo r) := by
  unfold FX12_summedBy at hF
  refine RN.blk (ops := [(0, .iconst 0), (1, .istore_n 2)]) (pc' := 2) (lv' := [(2, .inl 0), (0, .inr (.inr t)), (1, .inl a1)]) (st' := []) (h' := h) (cs := []) (by decide +kernel) rfl trivial ?_
  refine RN.sub (CX12_summedBy_L2 ?_ ?_ _ _ _ hF) (sub_cons rfl (sub_cons rfl (sub_cons rfl sub_nil)))
  · intro w1 h2 hF
    obtain ⟨hc, hF⟩ := gd_of hF
    refine RN.blk (ops := [(58, .aload_n 0), (59, .iload_n 1), (60, .aload_n 0), (61, .getfield 20), (64, .iload_n 3), (65, .iaload), (66, .aload_n 0), (67, .getfield 20), (70, .iload_n 3), (71, .iconst 1), (72, .iadd), (73, .iaload)]) (pc' := 74) (lv' := [(0, .inr (.inr t)), (1, .inl a1), (3, .inl w1)]) (st' := [.inl (m_rd h2 (m_rd h2 t 5) (m_w32 (w1 + 1))), .inl (m_rd h2 (m_rd h2 t 5) w1), .inl a1, .inr (.inr t)]) (h' := h2) (cs := [GK h2 t 12, GI h2 (m_rd h2 t 5) 1 w1, GK h2 t 12, GI h2 (m_rd h2 t 5) 1 (m_w32 (w1 + 1))]) (by decide +kernel) rfl hc ?_
    obtain ⟨hc, hF⟩ := gd_of hF
    obtain ⟨x5, h4, hG, hF⟩ := bd_of hF
    refine RN.cv (i := 318) (k := 201) (q2 := iX12_reckons) (as := [.inr (.inr t), .inl a1, .inl (m_rd h2 (m_rd h2 t 5) w1), .inl (m_rd h2 (m_rd h2 t 5) (m_w32 (w1 + 1)))]) (r := []) (v := some (.inr (.inl x5))) (h1 := h4) (by decide +kernel) rfl rfl rfl rfl rfl (rcv_ok hc.1) (CX12_reckons (d := d) hG) ?_
    exact RN.lR (by decide +kernel) rfl hF
  · intro h3 hF
    refine RN.blk (ops := [(84, .lconst 0)]) (pc' := 85) (lv' := []) (st' := [.inr (.inl 0)]) (h' := h3) (cs := []) (by decide +kernel) rfl trivial ?_
    exact RN.lR (by decide +kernel) rfl hF
noncomputable def FX12_sumOf (t : Int) (a1 : Int) (h : MH) : Option (Int × MH) :=
  gd [GK h t 12, GI h (m_rd h t 20) 1 (m_w32 (26 + a1))] (
   gd [GK h t 12] (bd (FX12_entryOf t (m_rd h (m_rd h t 20) (m_w32 (26 + a1))) h) (fun x2 h1 =>
    gd [GK h1 t 12] (bd (FX12_holeOf t (m_rd h (m_rd h t 20) (m_w32 (26 + a1))) h1) (fun x4 h3 =>
     gd [GK h3 t 12, GI h3 (m_rd h3 t 19) 2 0, GK h3 t 12, GI h3 (m_rd (m_wr h3 (m_rd h3 t 19) 0 a1) t 19) 2 1] (
      hl (m_wr (m_wr h3 (m_rd h3 t 19) 0 a1) (m_rd (m_wr h3 (m_rd h3 t 19) 0 a1) t 19) 1 (m_rd h (m_rd h t 20) (m_w32 (26 + a1)))) (fun h5 =>
       gd [GK h5 t 12] (
        gd [GK h5 t 12] (bd (FX12_prefixOf t (m_rd h (m_rd h t 20) (m_w32 (26 + a1))) 1 h5) (fun x7 h6 =>
         gd [GI h6 (m_rd h5 t 19) 2 2, GK h6 t 12, GK h6 t 12, GI h6 (m_rd (m_wr h6 (m_rd h5 t 19) 2 x7) t 20) 1 1, ((m_rd (m_wr h6 (m_rd h5 t 19) 2 x7) (m_rd (m_wr h6 (m_rd h5 t 19) 2 x7) t 20) 1) : Int) ≠ 0, GI h6 (m_rd (m_wr h6 (m_rd h5 t 19) 2 x7) t 19) 2 3] (
          hl (m_wr (m_wr h6 (m_rd h5 t 19) 2 x7) (m_rd (m_wr h6 (m_rd h5 t 19) 2 x7) t 19) 3 (Int.tmod (m_rd h (m_rd h t 20) (m_w32 (26 + a1))) (m_rd (m_wr h6 (m_rd h5 t 19) 2 x7) (m_rd (m_wr h6 (m_rd h5 t 19) 2 x7) t 20) 1))) (fun h8 =>
           gd [GK h8 t 12, GI h8 (m_rd h8 t 19) 2 4, GK h8 t 12] (
            jn (fun (s10 : Int) =>
             gd [GI h8 (m_rd (m_wr h8 (m_rd h8 t 19) 4 x4) t 19) 2 5] (
              hl (m_wr (m_wr h8 (m_rd h8 t 19) 4 x4) (m_rd (m_wr h8 (m_rd h8 t 19) 4 x4) t 19) 5 s10) (fun h11 =>
               gd [GK h11 t 12] (
                jn (fun (s13 : Int) =>
                 gd [GI h11 (m_rd h11 t 19) 2 6, GK h11 t 12] (
                  jn (fun (s15 : Int) =>
                   gd [GI h11 (m_rd (m_wr h11 (m_rd h11 t 19) 6 s13) t 19) 2 7] (
                    hl (m_wr (m_wr h11 (m_rd h11 t 19) 6 s13) (m_rd (m_wr h11 (m_rd h11 t 19) 6 s13) t 19) 7 s15) (fun h16 =>
                     gd [GK h16 t 12, GK h16 t 12, GI h16 (m_rd h16 t 20) 1 12, GI h16 (m_rd h16 t 19) 2 8, GK h16 t 12] (
                      gd [GK h16 t 12] (bd (FX12_sumOver t 20 (m_wr h16 (m_rd h16 t 19) 8 (m_rd h16 (m_rd h16 t 20) 12))) (fun x18 h17 =>
                       gd [GI h17 (m_rd (m_wr h16 (m_rd h16 t 19) 8 (m_rd h16 (m_rd h16 t 20) 12)) t 19) 2 9] (
                        hl (m_wr h17 (m_rd (m_wr h16 (m_rd h16 t 19) 8 (m_rd h16 (m_rd h16 t 20) 12)) t 19) 9 x18) (fun h19 =>
                         gd [GK h19 t 12, GK h19 t 12, GI h19 (m_rd h19 t 20) 1 10, GI h19 (m_rd h19 t 19) 2 10, GK h19 t 12] (
                          gd [GK h19 t 12] (bd (FX12_summedBy t (m_rd (m_wr h19 (m_rd h19 t 19) 10 (m_rd h19 (m_rd h19 t 20) 10)) t 21) (m_wr h19 (m_rd h19 t 19) 10 (m_rd h19 (m_rd h19 t 20) 10))) (fun x21 h20 =>
                           some (x21, h20)))))))))))) (fun j14 =>
                   (if x2 < 0 then
                    j14 0
                   else
                    gd [GK h11 t 12, GI h11 (m_rd (m_wr h11 (m_rd h11 t 19) 6 s13) t 20) 1 (m_w32 (46 + (m_w32 (3 * x2))))] (
                     j14 (m_rd (m_wr h11 (m_rd h11 t 19) 6 s13) (m_rd (m_wr h11 (m_rd h11 t 19) 6 s13) t 20) (m_w32 (46 + (m_w32 (3 * x2)))))))))) (fun j12 =>
                 (if x4 < 0 then
                  j12 0
                 else
                  gd [GK h11 t 12, GI h11 (m_rd h11 t 20) 1 (m_w32 (82 + x4))] (
                   j12 (m_rd h11 (m_rd h11 t 20) (m_w32 (82 + x4)))))))))) (fun j9 =>
             (if x4 < 0 then
              j9 0
             else
              gd [GK h8 t 12, GI h8 (m_rd (m_wr h8 (m_rd h8 t 19) 4 x4) t 20) 1 (m_w32 (14 + x4))] (
               j9 (m_rd (m_wr h8 (m_rd h8 t 19) 4 x4) (m_rd (m_wr h8 (m_rd h8 t 19) 4 x4) t 20) (m_w32 (14 + x4)))))))))))))))))))
theorem CX12_sumOf {d : Nat} {t : Int} {a1 : Int} {h : MH} {r : Int × MH} (hF : FX12_sumOf t a1 h = some r) : RN xs L iX12_sumOf (d + 4) 0 (lvE 0 [.inr (.inr t), .inl a1]) [] h (RJo r) := by
  unfold FX12_sumOf at hF
  obtain ⟨hc, hF⟩ := gd_of hF
  refine RN.blk (ops := [(0, .aload_n 0), (1, .getfield 39), (4, .bipush 26), (6, .iload_n 1), (7, .iadd), (8, .iaload), (9, .istore_n 2), (10, .aload_n 0), (11, .iload_n 2)]) (pc' := 12) (lv' := [(2, .inl (m_rd h (m_rd h t 20) (m_w32 (26 + a1)))), (0, .inr (.inr t)), (1, .inl a1)]) (st' := [.inl (m_rd h (m_rd h t 20) (m_w32 (26 + a1))), .inr (.inr t)]) (h' := h) (cs := [GK h t 12, GI h (m_rd h t 20) 1 (m_w32 (26 + a1))]) (by decide +kernel) rfl hc ?_
  obtain ⟨hc, hF⟩ := gd_of hF
  obtain ⟨x2, h1, hG, hF⟩ := bd_of hF
  refine RN.cv (i := 304) (k := 208) (q2 := iX12_entryOf) (as := [.inr (.inr t), .inl (m_rd h (m_rd h t 20) (m_w32 (26 + a1)))]) (r := []) (v := some (.inl x2)) (h1 := h1) (by decide +kernel) rfl rfl rfl rfl rfl (rcv_ok hc.1) (CX12_entryOf (d := d + 1) hG) ?_
  refine RN.blk (ops := [(15, .istore_n 3), (16, .aload_n 0), (17, .iload_n 2)]) (pc' := 18) (lv' := [(3, .inl x2), (2, .inl (m_rd h (m_rd h t 20) (m_w32 (26 + a1)))), (0, .inr (.inr t)), (1, .inl a1)]) (st' := [.inl (m_rd h (m_rd h t 20) (m_w32 (26 + a1))), .inr (.inr t)]) (h' := h1) (cs := []) (by decide +kernel) rfl trivial ?_
  obtain ⟨hc, hF⟩ := gd_of hF
  obtain ⟨x4, h3, hG, hF⟩ := bd_of hF
  refine RN.cv (i := 322) (k := 209) (q2 := iX12_holeOf) (as := [.inr (.inr t), .inl (m_rd h (m_rd h t 20) (m_w32 (26 + a1)))]) (r := []) (v := some (.inl x4)) (h1 := h3) (by decide +kernel) rfl rfl rfl rfl rfl (rcv_ok hc.1) (CX12_holeOf (d := d) hG) ?_
  obtain ⟨hc, hF⟩ := gd_of hF
  refine RN.blk (ops := [(21, .istore 4), (23, .aload_n 0), (24, .getfield 36), (27, .iconst 0), (28, .iload_n 1), (29, .i2l), (30, .lastore), (31, .aload_n 0), (32, .getfield 36), (35, .iconst 1), (36, .iload_n 2), (37, .i2l), (38, .lastore)]) (pc' := 39) (lv' := [(4, .inl x4), (3, .inl x2), (2, .inl (m_rd h (m_rd h t 20) (m_w32 (26 + a1)))), (0, .inr (.inr t)), (1, .inl a1)]) (st' := []) (h' := (m_wr (m_wr h3 (m_rd h3 t 19) 0 a1) (m_rd (m_wr h3 (m_rd h3 t 19) 0 a1) t 19) 1 (m_rd h (m_rd h t 20) (m_w32 (26 + a1))))) (cs := [GK h3 t 12, GI h3 (m_rd h3 t 19) 2 0, GK h3 t 12, GI h3 (m_rd (m_wr h3 (m_rd h3 t 19) 0 a1) t 19) 2 1]) (by decide +kernel) rfl hc ?_
  obtain ⟨h5, he, hF⟩ := hl_of hF
  refine RN.hl he ?_
  obtain ⟨hc, hF⟩ := gd_of hF
  refine RN.blk (ops := [(39, .aload_n 0), (40, .getfield 36), (43, .iconst 2), (44, .aload_n 0), (45, .iload_n 2), (46, .iconst 1)]) (pc' := 47) (lv' := [(4, .inl x4), (3, .inl x2), (2, .inl (m_rd h (m_rd h t 20) (m_w32 (26 + a1)))), (0, .inr (.inr t)), (1, .inl a1)]) (st' := [.inl 1, .inl (m_rd h (m_rd h t 20) (m_w32 (26 + a1))), .inr (.inr t), .inl 2, .inr (.inr (m_rd h5 t 19))]) (h' := h5) (cs := [GK h5 t 12]) (by decide +kernel) rfl hc ?_
  obtain ⟨hc, hF⟩ := gd_of hF
  obtain ⟨x7, h6, hG, hF⟩ := bd_of hF
  refine RN.cv (i := 301) (k := 207) (q2 := iX12_prefixOf) (as := [.inr (.inr t), .inl (m_rd h (m_rd h t 20) (m_w32 (26 + a1))), .inl 1]) (r := [.inl 2, .inr (.inr (m_rd h5 t 19))]) (v := some (.inl x7)) (h1 := h6) (by decide +kernel) rfl rfl rfl rfl rfl (rcv_ok hc.1) (CX12_prefixOf (d := d + 2) hG) ?_
  obtain ⟨hc, hF⟩ := gd_of hF
  refine RN.blk (ops := [(50, .i2l), (51, .lastore), (52, .aload_n 0), (53, .getfield 36), (56, .iconst 3), (57, .iload_n 2), (58, .aload_n 0), (59, .getfield 39), (62, .iconst 1), (63, .iaload), (64, .irem), (65, .i2l), (66, .lastore)]) (pc' := 67) (lv' := [(4, .inl x4), (3, .inl x2), (2, .inl (m_rd h (m_rd h t 20) (m_w32 (26 + a1)))), (0, .inr (.inr t)), (1, .inl a1)]) (st' := []) (h' := (m_wr (m_wr h6 (m_rd h5 t 19) 2 x7) (m_rd (m_wr h6 (m_rd h5 t 19) 2 x7) t 19) 3 (Int.tmod (m_rd h (m_rd h t 20) (m_w32 (26 + a1))) (m_rd (m_wr h6 (m_rd h5 t 19) 2 x7) (m_rd (m_wr h6 (m_rd h5 t 19) 2 x7) t 20) 1)))) (cs := [GI h6 (m_rd h5 t 19) 2 2, GK h6 t 12, GK h6 t 12, GI h6 (m_rd (m_wr h6 (m_rd h5 t 19) 2 x7) t 20) 1 1, ((m_rd (m_wr h6 (m_rd h5 t 19) 2 x7) (m_rd (m_wr h6 (m_rd h5 t 19) 2 x7) t 20) 1) : Int) ≠ 0, GI h6 (m_rd (m_wr h6 (m_rd h5 t 19) 2 x7) t 19) 2 3]) (by decide +kernel) rfl hc ?_
  obtain ⟨h8, he, hF⟩ := hl_of hF
  refine RN.hl he ?_
  obtain ⟨hc, hF⟩ := gd_of hF
  refine RN.blk (ops := [(67, .aload_n 0), (68, .getfield 36), (71, .iconst 4), (72, .iload 4), (74, .i2l), (75, .lastore), (76, .aload_n 0), (77, .getfield 36), (80, .iconst 5), (81, .iload 4)]) (pc' := 83) (lv' := [(4, .inl x4), (3, .inl x2), (2, .inl (m_rd h (m_rd h t 20) (m_w32 (26 + a1)))), (0, .inr (.inr t)), (1, .inl a1)]) (st' := [.inl x4, .inl 5, .inr (.inr (m_rd (m_wr h8 (m_rd h8 t 19) 4 x4) t 19))]) (h' := (m_wr h8 (m_rd h8 t 19) 4 x4)) (cs := [GK h8 t 12, GI h8 (m_rd h8 t 19) 2 4, GK h8 t 12]) (by decide +kernel) rfl hc ?_
  refine jn_use (fun j9 => ∀ (s10 : Int), j9 s10 = some r → RN xs L iX12_sumOf (d + 4) 101 [(0, .inr (.inr t)), (3, .inl x2), (4, .inl x4)] [.inr (.inl s10), .inl 5, .inr (.inr (m_rd (m_wr h8 (m_rd h8 t 19) 4 x4) t 19))] (m_wr h8 (m_rd h8 t 19) 4 x4) (RJo r)) ?_ ?_ hF
  · intro s10 hF
    obtain ⟨hc, hF⟩ := gd_of hF
    refine RN.blk (ops := [(101, .lastore)]) (pc' := 102) (lv' := [(0, .inr (.inr t)), (3, .inl x2), (4, .inl x4)]) (st' := []) (h' := (m_wr (m_wr h8 (m_rd h8 t 19) 4 x4) (m_rd (m_wr h8 (m_rd h8 t 19) 4 x4) t 19) 5 s10)) (cs := [GI h8 (m_rd (m_wr h8 (m_rd h8 t 19) 4 x4) t 19) 2 5]) (by decide +kernel) rfl hc ?_
    obtain ⟨h11, he, hF⟩ := hl_of hF
    refine RN.hl he ?_
    obtain ⟨hc, hF⟩ := gd_of hF
    refine RN.blk (ops := [(102, .aload_n 0), (103, .getfield 36), (106, .bipush 6), (108, .iload 4)]) (pc' := 110) (lv' := [(0, .inr (.inr t)), (3, .inl x2), (4, .inl x4)]) (st' := [.inl x4, .inl 6, .inr (.inr (m_rd h11 t 19))]) (h' := h11) (cs := [GK h11 t 12]) (by decide +kernel) rfl hc ?_
    refine jn_use (fun j12 => ∀ (s13 : Int), j12 s13 = some r → RN xs L iX12_sumOf (d + 4) 128 [(0, .inr (.inr t)), (3, .inl x2)] [.inr (.inl s13), .inl 6, .inr (.inr (m_rd h11 t 19))] h11 (RJo r)) ?_ ?_ hF
    · intro s13 hF
      obtain ⟨hc, hF⟩ := gd_of hF
      refine RN.blk (ops := [(128, .lastore), (129, .aload_n 0), (130, .getfield 36), (133, .bipush 7), (135, .iload_n 3)]) (pc' := 136) (lv' := [(0, .inr (.inr t)), (3, .inl x2)]) (st' := [.inl x2, .inl 7, .inr (.inr (m_rd (m_wr h11 (m_rd h11 t 19) 6 s13) t 19))]) (h' := (m_wr h11 (m_rd h11 t 19) 6 s13)) (cs := [GI h11 (m_rd h11 t 19) 2 6, GK h11 t 12]) (by decide +kernel) rfl hc ?_
      refine jn_use (fun j14 => ∀ (s15 : Int), j14 s15 = some r → RN xs L iX12_sumOf (d + 4) 155 [(0, .inr (.inr t))] [.inr (.inl s15), .inl 7, .inr (.inr (m_rd (m_wr h11 (m_rd h11 t 19) 6 s13) t 19))] (m_wr h11 (m_rd h11 t 19) 6 s13) (RJo r)) ?_ ?_ hF
      · intro s15 hF
        obtain ⟨hc, hF⟩ := gd_of hF
        refine RN.blk (ops := [(155, .lastore)]) (pc' := 156) (lv' := [(0, .inr (.inr t))]) (st' := []) (h' := (m_wr (m_wr h11 (m_rd h11 t 19) 6 s13) (m_rd (m_wr h11 (m_rd h11 t 19) 6 s13) t 19) 7 s15)) (cs := [GI h11 (m_rd (m_wr h11 (m_rd h11 t 19) 6 s13) t 19) 2 7]) (by decide +kernel) rfl hc ?_
        obtain ⟨h16, he, hF⟩ := hl_of hF
        refine RN.hl he ?_
        obtain ⟨hc, hF⟩ := gd_of hF
        refine RN.blk (ops := [(156, .aload_n 0), (157, .getfield 36), (160, .bipush 8), (162, .aload_n 0), (163, .getfield 39), (166, .bipush 12), (168, .iaload), (169, .i2l), (170, .lastore), (171, .aload_n 0), (172, .getfield 36), (175, .bipush 9), (177, .aload_n 0), (178, .bipush 20)]) (pc' := 180) (lv' := [(0, .inr (.inr t))]) (st' := [.inl 20, .inr (.inr t), .inl 9, .inr (.inr (m_rd (m_wr h16 (m_rd h16 t 19) 8 (m_rd h16 (m_rd h16 t 20) 12)) t 19))]) (h' := (m_wr h16 (m_rd h16 t 19) 8 (m_rd h16 (m_rd h16 t 20) 12))) (cs := [GK h16 t 12, GK h16 t 12, GI h16 (m_rd h16 t 20) 1 12, GI h16 (m_rd h16 t 19) 2 8, GK h16 t 12]) (by decide +kernel) rfl hc ?_
        obtain ⟨hc, hF⟩ := gd_of hF
        obtain ⟨x18, h17, hG, hF⟩ := bd_of hF
        refine RN.cv (i := 325) (k := 210) (q2 := iX12_sumOver) (as := [.inr (.inr t), .inl 20]) (r := [.inl 9, .inr (.inr (m_rd (m_wr h16 (m_rd h16 t 19) 8 (m_rd h16 (m_rd h16 t 20) 12)) t 19))]) (v := some (.inl x18)) (h1 := h17) (by decide +kernel) rfl rfl rfl rfl rfl (rcv_ok hc.1) (CX12_sumOver (d := d + 3) hG) ?_
        obtain ⟨hc, hF⟩ := gd_of hF
        refine RN.blk (ops := [(183, .i2l), (184, .lastore)]) (pc' := 185) (lv' := [(0, .inr (.inr t))]) (st' := []) (h' := (m_wr h17 (m_rd (m_wr h16 (m_rd h16 t 19) 8 (m_rd h16 (m_rd h16 t 20) 12)) t 19) 9 x18)) (cs := [GI h17 (m_rd (m_wr h16 (m_rd h16 t 19) 8 (m_rd h16 (m_rd h16 t 20) 12)) t 19) 2 9]) (by decide +kernel) rfl hc ?_
        obtain ⟨h19, he, hF⟩ := hl_of hF
        refine RN.hl he ?_
        obtain ⟨hc, hF⟩ := gd_of hF
        refine RN.blk (ops := [(185, .aload_n 0), (186, .getfield 36), (189, .bipush 10), (191, .aload_n 0), (192, .getfield 39), (195, .bipush 10), (197, .iaload), (198, .i2l), (199, .lastore), (200, .aload_n 0), (201, .aload_n 0), (202, .getfield 42)]) (pc' := 205) (lv' := [(0, .inr (.inr t))]) (st' := [.inl (m_rd (m_wr h19 (m_rd h19 t 19) 10 (m_rd h19 (m_rd h19 t 20) 10)) t 21), .inr (.inr t)]) (h' := (m_wr h19 (m_rd h19 t 19) 10 (m_rd h19 (m_rd h19 t 20) 10))) (cs := [GK h19 t 12, GK h19 t 12, GI h19 (m_rd h19 t 20) 1 10, GI h19 (m_rd h19 t 19) 2 10, GK h19 t 12]) (by decide +kernel) rfl hc ?_
        obtain ⟨hc, hF⟩ := gd_of hF
        obtain ⟨x21, h20, hG, hF⟩ := bd_of hF
        refine RN.cv (i := 328) (k := 216) (q2 := iX12_summedBy) (as := [.inr (.inr t), .inl (m_rd (m_wr h19 (m_rd h19 t 19) 10 (m_rd h19 (m_rd h19 t 20) 10)) t 21)]) (r := []) (v := some (.inr (.inl x21))) (h1 := h20) (by decide +kernel) rfl rfl rfl rfl rfl (rcv_ok hc.1) (CX12_summedBy (d := d + 1) hG) ?_
        exact RN.lR (by decide +kernel) rfl hF
      · intro j14 Jj14 hF
        rcases it_of hF with ⟨hb, hF⟩ | ⟨hb, hF⟩
        · refine RN.iff (cd := .ge) (off := 7) (tgt := 143) (by decide +kernel) (mif_gen hb) ?_
          refine RN.blk (ops := [(139, .lconst 0)]) (pc' := 140) (lv' := [(0, .inr (.inr t)), (3, .inl x2)]) (st' := [.inr (.inl 0), .inl 7, .inr (.inr (m_rd (m_wr h11 (m_rd h11 t 19) 6 s13) t 19))]) (h' := (m_wr h11 (m_rd h11 t 19) 6 s13)) (cs := []) (by decide +kernel) rfl trivial ?_
          refine RN.goto (off := 15) (tgt := 155) (by decide +kernel) ?_
          exact RN.sub (Jj14 _ hF) (sub_cons rfl sub_nil)
        · refine RN.ift (cd := .ge) (off := 7) (tgt := 143) (by decide +kernel) (mif_ge hb) ?_
          obtain ⟨hc, hF⟩ := gd_of hF
          refine RN.blk (ops := [(143, .aload_n 0), (144, .getfield 39), (147, .bipush 46), (149, .iconst 3), (150, .iload_n 3), (151, .imul), (152, .iadd), (153, .iaload), (154, .i2l)]) (pc' := 155) (lv' := [(0, .inr (.inr t)), (3, .inl x2)]) (st' := [.inr (.inl (m_rd (m_wr h11 (m_rd h11 t 19) 6 s13) (m_rd (m_wr h11 (m_rd h11 t 19) 6 s13) t 20) (m_w32 (46 + (m_w32 (3 * x2)))))), .inl 7, .inr (.inr (m_rd (m_wr h11 (m_rd h11 t 19) 6 s13) t 19))]) (h' := (m_wr h11 (m_rd h11 t 19) 6 s13)) (cs := [GK h11 t 12, GI h11 (m_rd (m_wr h11 (m_rd h11 t 19) 6 s13) t 20) 1 (m_w32 (46 + (m_w32 (3 * x2))))]) (by decide +kernel) rfl hc ?_
          exact RN.sub (Jj14 _ hF) (sub_cons rfl sub_nil)
    · intro j12 Jj12 hF
      rcases it_of hF with ⟨hb, hF⟩ | ⟨hb, hF⟩
      · refine RN.iff (cd := .ge) (off := 7) (tgt := 117) (by decide +kernel) (mif_gen hb) ?_
        refine RN.blk (ops := [(113, .lconst 0)]) (pc' := 114) (lv' := [(0, .inr (.inr t)), (3, .inl x2), (4, .inl x4)]) (st' := [.inr (.inl 0), .inl 6, .inr (.inr (m_rd h11 t 19))]) (h' := h11) (cs := []) (by decide +kernel) rfl trivial ?_
        refine RN.goto (off := 14) (tgt := 128) (by decide +kernel) ?_
        exact RN.sub (Jj12 _ hF) (sub_cons rfl (sub_cons rfl sub_nil))
      · refine RN.ift (cd := .ge) (off := 7) (tgt := 117) (by decide +kernel) (mif_ge hb) ?_
        obtain ⟨hc, hF⟩ := gd_of hF
        refine RN.blk (ops := [(117, .aload_n 0), (118, .getfield 39), (121, .bipush 82), (123, .iload 4), (125, .iadd), (126, .iaload), (127, .i2l)]) (pc' := 128) (lv' := [(0, .inr (.inr t)), (3, .inl x2), (4, .inl x4)]) (st' := [.inr (.inl (m_rd h11 (m_rd h11 t 20) (m_w32 (82 + x4)))), .inl 6, .inr (.inr (m_rd h11 t 19))]) (h' := h11) (cs := [GK h11 t 12, GI h11 (m_rd h11 t 20) 1 (m_w32 (82 + x4))]) (by decide +kernel) rfl hc ?_
        exact RN.sub (Jj12 _ hF) (sub_cons rfl (sub_cons rfl sub_nil))
  · intro j9 Jj9 hF
    rcases it_of hF with ⟨hb, hF⟩ | ⟨hb, hF⟩
    · refine RN.iff (cd := .ge) (off := 7) (tgt := 90) (by decide +kernel) (mif_gen hb) ?_
      refine RN.blk (ops := [(86, .lconst 0)]) (pc' := 87) (lv' := [(4, .inl x4), (3, .inl x2), (2, .inl (m_rd h (m_rd h t 20) (m_w32 (26 + a1)))), (0, .inr (.inr t)), (1, .inl a1)]) (st' := [.inr (.inl 0), .inl 5, .inr (.inr (m_rd (m_wr h8 (m_rd h8 t 19) 4 x4) t 19))]) (h' := (m_wr h8 (m_rd h8 t 19) 4 x4)) (cs := []) (by decide +kernel) rfl trivial ?_
      refine RN.goto (off := 14) (tgt := 101) (by decide +kernel) ?_
      exact RN.sub (Jj9 _ hF) (sub_cons rfl (sub_cons rfl (sub_cons rfl sub_nil)))
    · refine RN.ift (cd := .ge) (off := 7) (tgt := 90) (by decide +kernel) (mif_ge hb) ?_
      obtain ⟨hc, hF⟩ := gd_of hF
      refine RN.blk (ops := [(90, .aload_n 0), (91, .getfield 39), (94, .bipush 14), (96, .iload 4), (98, .iadd), (99, .iaload), (100, .i2l)]) (pc' := 101) (lv' := [(4, .inl x4), (3, .inl x2), (2, .inl (m_rd h (m_rd h t 20) (m_w32 (26 + a1)))), (0, .inr (.inr t)), (1, .inl a1)]) (st' := [.inr (.inl (m_rd (m_wr h8 (m_rd h8 t 19) 4 x4) (m_rd (m_wr h8 (m_rd h8 t 19) 4 x4) t 20) (m_w32 (14 + x4)))), .inl 5, .inr (.inr (m_rd (m_wr h8 (m_rd h8 t 19) 4 x4) t 19))]) (h' := (m_wr h8 (m_rd h8 t 19) 4 x4)) (cs := [GK h8 t 12, GI h8 (m_rd (m_wr h8 (m_rd h8 t 19) 4 x4) t 20) 1 (m_w32 (14 + x4))]) (by decide +kernel) rfl hc ?_
      exact RN.sub (Jj9 _ hF) (sub_cons rfl (sub_cons rfl (sub_cons rfl sub_nil)))
noncomputable def FX12_choice_L30 (u0 : Int) (K0 : Int → MH → Option (Int × MH)) : Nat → Int → Int → Int → MH → Option (Int × MH)
  | 0, _, _, _, _ => none
  | f + 1, v1, v2, v4, h =>
    gd [GK h u0 12, GI h (m_rd h u0 20) 1 12] (
     (if v4 < (m_rd h (m_rd h u0 20) 12) then
      gd [GK h u0 12] (bd (FX12_sumOf u0 v4 h) (fun x2 h1 =>
       (if 0 < (m_lcmp x2 v2) then
        FX12_choice_L30 u0 K0 f v4 x2 (m_w32 (v4 + 1)) h1
       else
        FX12_choice_L30 u0 K0 f v1 v2 (m_w32 (v4 + 1)) h1)))
     else
      K0 v1 h))
theorem CX12_choice_L30 {d : Nat} {u0 : Int} {K0 : Int → MH → Option (Int × MH)} {r : Int × MH} (hK0 : ∀ (w1 : Int) (h : MH), K0 w1 h = some r → RN xs L iX12_choice (d + 5) 72 [(1, .inl w1)] [] h (RIo r)) : ∀ (f : Nat) (v1 : Int) (v2 : Int) (v4 : Int) (h : MH), FX12_choice_L30 u0 K0 f v1 v2 v4 h = some r → RN xs L iX12_choice (d + 5) 30 [(0, .inr (.inr u0)), (1, .inl v1), (2, .inr (.inl v2)), (4, .inl v4)] [] h (RIo r) := by
  intro f
  induction f with
  | zero =>
    intro v1 v2 v4 h hF
    cases hF
  | succ f ih =>
    intro v1 v2 v4 h hF
    unfold FX12_choice_L30 at hF
    obtain ⟨hc, hF⟩ := gd_of hF
    refine RN.blk (ops := [(30, .iload 4), (32, .aload_n 0), (33, .getfield 39), (36, .bipush 12), (38, .iaload)]) (pc' := 39) (lv' := [(0, .inr (.inr u0)), (1, .inl v1), (2, .inr (.inl v2)), (4, .inl v4)]) (st' := [.inl (m_rd h (m_rd h u0 20) 12), .inl v4]) (h' := h) (cs := [GK h u0 12, GI h (m_rd h u0 20) 1 12]) (by decide +kernel) rfl hc ?_
    rcases it_of hF with ⟨hb, hF⟩ | ⟨hb, hF⟩
    · refine RN.icf (cd := .ge) (off := 33) (tgt := 72) (by decide +kernel) (mif_gen hb) ?_
      refine RN.blk (ops := [(42, .aload_n 0), (43, .iload 4)]) (pc' := 45) (lv' := [(0, .inr (.inr u0)), (1, .inl v1), (2, .inr (.inl v2)), (4, .inl v4)]) (st' := [.inl v4, .inr (.inr u0)]) (h' := h) (cs := []) (by decide +kernel) rfl trivial ?_
      obtain ⟨hc, hF⟩ := gd_of hF
      obtain ⟨x2, h1, hG, hF⟩ := bd_of hF
      refine RN.cv (i := 332) (k := 217) (q2 := iX12_sumOf) (as := [.inr (.inr u0), .inl v4]) (r := []) (v := some (.inr (.inl x2))) (h1 := h1) (by decide +kernel) rfl rfl rfl rfl rfl (rcv_ok hc.1) (CX12_sumOf (d := d) hG) ?_
      refine RN.blk (ops := [(48, .lstore 5), (50, .lload 5), (52, .lload_n 2), (53, .lcmp)]) (pc' := 54) (lv' := [(5, .inr (.inl x2)), (0, .inr (.inr u0)), (1, .inl v1), (2, .inr (.inl v2)), (4, .inl v4)]) (st' := [.inl (m_lcmp x2 v2)]) (h' := h1) (cs := []) (by decide +kernel) rfl trivial ?_
      rcases it_of hF with ⟨hb, hF⟩ | ⟨hb, hF⟩
      · refine RN.ift (cd := .gt) (off := 6) (tgt := 60) (by decide +kernel) (mif_gt hb) ?_
        refine RN.blk (ops := [(60, .iload 4), (62, .istore_n 1), (63, .lload 5), (65, .lstore_n 2)]) (pc' := 66) (lv' := [(2, .inr (.inl x2)), (1, .inl v4), (5, .inr (.inl x2)), (0, .inr (.inr u0)), (4, .inl v4)]) (st' := []) (h' := h1) (cs := []) (by decide +kernel) rfl trivial ?_
        refine RN.blk (ops := [(66, .iinc 4 1)]) (pc' := 69) (lv' := [(4, .inl (m_w32 (v4 + 1))), (2, .inr (.inl x2)), (1, .inl v4), (5, .inr (.inl x2)), (0, .inr (.inr u0))]) (st' := []) (h' := h1) (cs := []) (by decide +kernel) rfl trivial ?_
        refine RN.goto (off := -39) (tgt := 30) (by decide +kernel) ?_
        exact RN.sub (ih _ _ _ _ hF) (sub_cons rfl (sub_cons rfl (sub_cons rfl (sub_cons rfl sub_nil))))
      · refine RN.iff (cd := .gt) (off := 6) (tgt := 60) (by decide +kernel) (mif_gtn hb) ?_
        refine RN.goto (off := 9) (tgt := 66) (by decide +kernel) ?_
        refine RN.blk (ops := [(66, .iinc 4 1)]) (pc' := 69) (lv' := [(4, .inl (m_w32 (v4 + 1))), (5, .inr (.inl x2)), (0, .inr (.inr u0)), (1, .inl v1), (2, .inr (.inl v2))]) (st' := []) (h' := h1) (cs := []) (by decide +kernel) rfl trivial ?_
        refine RN.goto (off := -39) (tgt := 30) (by decide +kernel) ?_
        exact RN.sub (ih _ _ _ _ hF) (sub_cons rfl (sub_cons rfl (sub_cons rfl (sub_cons rfl sub_nil))))
    · refine RN.ict (cd := .ge) (off := 33) (tgt := 72) (by decide +kernel) (mif_ge hb) ?_
      exact RN.sub (hK0 _ _ hF) (sub_cons rfl sub_nil)
noncomputable def FX12_choice (t : Int) (h : MH) : Option (Int × MH) :=
  gd [GK h t 12] (
   (if (m_rd h t 21) < 0 then
    gd [GK h t 12, GI h (m_rd h t 20) 1 12] (
     (if 0 < (m_rd h (m_rd h t 20) 12) then
      some (0, h)
     else
      some ((-1), h)))
   else
    FX12_choice_L30 t (fun w1 h2 =>
     some (w1, h2)) FU (-1) 0 0 h))
theorem CX12_choice {d : Nat} {t : Int} {h : MH} {r : Int × MH} (hF : FX12_choice t h = some r) : RN xs L iX12_choice (d + 5) 0 (lvE 0 [.inr (.inr t)]) [] h (RIo r) := by
  unfold FX12_choice at hF
  obtain ⟨hc, hF⟩ := gd_of hF
  refine RN.blk (ops := [(0, .aload_n 0), (1, .getfield 42)]) (pc' := 4) (lv' := [(0, .inr (.inr t))]) (st' := [.inl (m_rd h t 21)]) (h' := h) (cs := [GK h t 12]) (by decide +kernel) rfl hc ?_
  rcases it_of hF with ⟨hb, hF⟩ | ⟨hb, hF⟩
  · refine RN.iff (cd := .ge) (off := 19) (tgt := 23) (by decide +kernel) (mif_gen hb) ?_
    obtain ⟨hc, hF⟩ := gd_of hF
    refine RN.blk (ops := [(7, .aload_n 0), (8, .getfield 39), (11, .bipush 12), (13, .iaload)]) (pc' := 14) (lv' := [(0, .inr (.inr t))]) (st' := [.inl (m_rd h (m_rd h t 20) 12)]) (h' := h) (cs := [GK h t 12, GI h (m_rd h t 20) 1 12]) (by decide +kernel) rfl hc ?_
    rcases it_of hF with ⟨hb, hF⟩ | ⟨hb, hF⟩
    · refine RN.iff (cd := .le) (off := 7) (tgt := 21) (by decide +kernel) (mif_len hb) ?_
      refine RN.blk (ops := [(17, .iconst 0)]) (pc' := 18) (lv' := [(0, .inr (.inr t))]) (st' := [.inl 0]) (h' := h) (cs := []) (by decide +kernel) rfl trivial ?_
      refine RN.goto (off := 4) (tgt := 22) (by decide +kernel) ?_
      exact RN.iR (by decide +kernel) rfl hF
    · refine RN.ift (cd := .le) (off := 7) (tgt := 21) (by decide +kernel) (mif_le hb) ?_
      refine RN.blk (ops := [(21, .iconst (-1))]) (pc' := 22) (lv' := [(0, .inr (.inr t))]) (st' := [.inl (-1)]) (h' := h) (cs := []) (by decide +kernel) rfl trivial ?_
      exact RN.iR (by decide +kernel) rfl hF
  · refine RN.ift (cd := .ge) (off := 19) (tgt := 23) (by decide +kernel) (mif_ge hb) ?_
    refine RN.blk (ops := [(23, .iconst (-1)), (24, .istore_n 1), (25, .lconst 0), (26, .lstore_n 2), (27, .iconst 0), (28, .istore 4)]) (pc' := 30) (lv' := [(4, .inl 0), (2, .inr (.inl 0)), (1, .inl (-1)), (0, .inr (.inr t))]) (st' := []) (h' := h) (cs := []) (by decide +kernel) rfl trivial ?_
    refine RN.sub (CX12_choice_L30 ?_ _ _ _ _ _ hF) (sub_cons rfl (sub_cons rfl (sub_cons rfl (sub_cons rfl sub_nil))))
    · intro w1 h2 hF
      refine RN.blk (ops := [(72, .iload_n 1)]) (pc' := 73) (lv' := [(1, .inl w1)]) (st' := [.inl w1]) (h' := h2) (cs := []) (by decide +kernel) rfl trivial ?_
      exact RN.iR (by decide +kernel) rfl hF
noncomputable def FX12_ties (t : Int) (a1 : Int) (h : MH) : Option (MH) :=
  gd [GK h t 12, GI h (m_rd h t 20) 1 (m_w32 (20 + a1))] (
   (if (m_rd h (m_rd h t 20) (m_w32 (20 + a1))) < 999 then
    gd [GK h t 12, GI h (m_rd h t 20) 1 (m_w32 (20 + a1)), GI h (m_rd h t 20) 1 (m_w32 (20 + a1))] (
     gd [GK h t 12, GI h (m_rd (m_wr h (m_rd h t 20) (m_w32 (20 + a1)) (m_w32 ((m_rd h (m_rd h t 20) (m_w32 (20 + a1))) + 1))) t 20) 1 (m_w32 (14 + a1))] (
      some (m_wr (m_wr h (m_rd h t 20) (m_w32 (20 + a1)) (m_w32 ((m_rd h (m_rd h t 20) (m_w32 (20 + a1))) + 1))) (m_rd (m_wr h (m_rd h t 20) (m_w32 (20 + a1)) (m_w32 ((m_rd h (m_rd h t 20) (m_w32 (20 + a1))) + 1))) t 20) (m_w32 (14 + a1)) 0)))
   else
    gd [GK h t 12, GI h (m_rd h t 20) 1 (m_w32 (14 + a1))] (
     some (m_wr h (m_rd h t 20) (m_w32 (14 + a1)) 0))))
theorem CX12_ties {d : Nat} {t : Int} {a1 : Int} {h : MH} {r : MH} (hF : FX12_ties t a1 h = some r) : RN xs L iX12_ties (d) 0 (lvE 0 [.inr (.inr t), .inl a1]) [] h (RVo r) := by
  unfold FX12_ties at hF
  obtain ⟨hc, hF⟩ := gd_of hF
  refine RN.blk (ops := [(0, .aload_n 0), (1, .getfield 39), (4, .bipush 20), (6, .iload_n 1), (7, .iadd), (8, .iaload), (9, .sipush 999)]) (pc' := 12) (lv' := [(0, .inr (.inr t)), (1, .inl a1)]) (st' := [.inl 999, .inl (m_rd h (m_rd h t 20) (m_w32 (20 + a1)))]) (h' := h) (cs := [GK h t 12, GI h (m_rd h t 20) 1 (m_w32 (20 + a1))]) (by decide +kernel) rfl hc ?_
  rcases it_of hF with ⟨hb, hF⟩ | ⟨hb, hF⟩
  · refine RN.icf (cd := .ge) (off := 16) (tgt := 28) (by decide +kernel) (mif_gen hb) ?_
    obtain ⟨hc, hF⟩ := gd_of hF
    refine RN.blk (ops := [(15, .aload_n 0), (16, .getfield 39), (19, .bipush 20), (21, .iload_n 1), (22, .iadd), (23, .dup2), (24, .iaload), (25, .iconst 1), (26, .iadd), (27, .iastore)]) (pc' := 28) (lv' := [(0, .inr (.inr t)), (1, .inl a1)]) (st' := []) (h' := (m_wr h (m_rd h t 20) (m_w32 (20 + a1)) (m_w32 ((m_rd h (m_rd h t 20) (m_w32 (20 + a1))) + 1)))) (cs := [GK h t 12, GI h (m_rd h t 20) 1 (m_w32 (20 + a1)), GI h (m_rd h t 20) 1 (m_w32 (20 + a1))]) (by decide +kernel) rfl hc ?_
    obtain ⟨hc, hF⟩ := gd_of hF
    refine RN.blk (ops := [(28, .aload_n 0), (29, .getfield 39), (32, .bipush 14), (34, .iload_n 1), (35, .iadd), (36, .iconst 0), (37, .iastore)]) (pc' := 38) (lv' := [(0, .inr (.inr t)), (1, .inl a1)]) (st' := []) (h' := (m_wr (m_wr h (m_rd h t 20) (m_w32 (20 + a1)) (m_w32 ((m_rd h (m_rd h t 20) (m_w32 (20 + a1))) + 1))) (m_rd (m_wr h (m_rd h t 20) (m_w32 (20 + a1)) (m_w32 ((m_rd h (m_rd h t 20) (m_w32 (20 + a1))) + 1))) t 20) (m_w32 (14 + a1)) 0)) (cs := [GK h t 12, GI h (m_rd (m_wr h (m_rd h t 20) (m_w32 (20 + a1)) (m_w32 ((m_rd h (m_rd h t 20) (m_w32 (20 + a1))) + 1))) t 20) 1 (m_w32 (14 + a1))]) (by decide +kernel) rfl hc ?_
    exact RN.vR (by decide +kernel) rfl hF
  · refine RN.ict (cd := .ge) (off := 16) (tgt := 28) (by decide +kernel) (mif_ge hb) ?_
    obtain ⟨hc, hF⟩ := gd_of hF
    refine RN.blk (ops := [(28, .aload_n 0), (29, .getfield 39), (32, .bipush 14), (34, .iload_n 1), (35, .iadd), (36, .iconst 0), (37, .iastore)]) (pc' := 38) (lv' := [(0, .inr (.inr t)), (1, .inl a1)]) (st' := []) (h' := (m_wr h (m_rd h t 20) (m_w32 (14 + a1)) 0)) (cs := [GK h t 12, GI h (m_rd h t 20) 1 (m_w32 (14 + a1))]) (by decide +kernel) rfl hc ?_
    exact RN.vR (by decide +kernel) rfl hF
noncomputable def FX12_sorts (t : Int) (a1 : Int) (h : MH) : Option (MH) :=
  gd [GK h t 12] (bd (FX12_holeOf t a1 h) (fun x2 h1 =>
   gd [GK h1 t 12] (
    (if x2 < 0 then
     gd [GK h1 t 12, GI h1 (m_rd (m_wr h1 t 23 (-1)) t 20) 1 11, GI h1 (m_rd (m_wr h1 t 23 (-1)) t 20) 1 11] (
      some (m_wr (m_wr h1 t 23 (-1)) (m_rd (m_wr h1 t 23 (-1)) t 20) 11 (m_w32 ((m_rd (m_wr h1 t 23 (-1)) (m_rd (m_wr h1 t 23 (-1)) t 20) 11) + 1))))
    else
     gd [GK h1 t 12, GI h1 (m_rd (m_wr h1 t 23 (-1)) t 20) 1 (m_w32 (14 + x2)), GK h1 t 12, GI h1 (m_rd (m_wr h1 t 23 (-1)) t 20) 1 (m_w32 (82 + x2))] (
      jn (fun (h4 : MH) =>
       gd [GK h4 t 12, GI h4 (m_rd h4 t 20) 1 (m_w32 (14 + x2)), GI h4 (m_rd h4 t 20) 1 (m_w32 (14 + x2))] (
        some (m_wr h4 (m_rd h4 t 20) (m_w32 (14 + x2)) (m_w32 ((m_rd h4 (m_rd h4 t 20) (m_w32 (14 + x2))) + 1))))) (fun j3 =>
       (if (m_rd (m_wr h1 t 23 (-1)) (m_rd (m_wr h1 t 23 (-1)) t 20) (m_w32 (14 + x2))) < (m_rd (m_wr h1 t 23 (-1)) (m_rd (m_wr h1 t 23 (-1)) t 20) (m_w32 (82 + x2))) then
        j3 (m_wr h1 t 23 (-1))
       else
        gd [GK h1 t 12] (bv (FX12_ties t x2 (m_wr h1 t 23 (-1))) (fun h5 =>
         gd [GK h5 t 12] (
          j3 (m_wr h5 t 23 x2)))))))))))
theorem CX12_sorts {d : Nat} {t : Int} {a1 : Int} {h : MH} {r : MH} (hF : FX12_sorts t a1 h = some r) : RN xs L iX12_sorts (d + 4) 0 (lvE 0 [.inr (.inr t), .inl a1]) [] h (RVo r) := by
  unfold FX12_sorts at hF
  refine RN.blk (ops := [(0, .aload_n 0), (1, .iload_n 1)]) (pc' := 2) (lv' := [(0, .inr (.inr t)), (1, .inl a1)]) (st' := [.inl a1, .inr (.inr t)]) (h' := h) (cs := []) (by decide +kernel) rfl trivial ?_
  obtain ⟨hc, hF⟩ := gd_of hF
  obtain ⟨x2, h1, hG, hF⟩ := bd_of hF
  refine RN.cv (i := 322) (k := 209) (q2 := iX12_holeOf) (as := [.inr (.inr t), .inl a1]) (r := []) (v := some (.inl x2)) (h1 := h1) (by decide +kernel) rfl rfl rfl rfl rfl (rcv_ok hc.1) (CX12_holeOf (d := d) hG) ?_
  obtain ⟨hc, hF⟩ := gd_of hF
  refine RN.blk (ops := [(5, .istore_n 2), (6, .aload_n 0), (7, .iconst (-1)), (8, .putfield 335), (11, .iload_n 2)]) (pc' := 12) (lv' := [(2, .inl x2), (0, .inr (.inr t)), (1, .inl a1)]) (st' := [.inl x2]) (h' := (m_wr h1 t 23 (-1))) (cs := [GK h1 t 12]) (by decide +kernel) rfl hc ?_
  rcases it_of hF with ⟨hb, hF⟩ | ⟨hb, hF⟩
  · refine RN.iff (cd := .ge) (off := 15) (tgt := 27) (by decide +kernel) (mif_gen hb) ?_
    obtain ⟨hc, hF⟩ := gd_of hF
    refine RN.blk (ops := [(15, .aload_n 0), (16, .getfield 39), (19, .bipush 11), (21, .dup2), (22, .iaload), (23, .iconst 1), (24, .iadd), (25, .iastore)]) (pc' := 26) (lv' := [(2, .inl x2), (0, .inr (.inr t)), (1, .inl a1)]) (st' := []) (h' := (m_wr (m_wr h1 t 23 (-1)) (m_rd (m_wr h1 t 23 (-1)) t 20) 11 (m_w32 ((m_rd (m_wr h1 t 23 (-1)) (m_rd (m_wr h1 t 23 (-1)) t 20) 11) + 1)))) (cs := [GK h1 t 12, GI h1 (m_rd (m_wr h1 t 23 (-1)) t 20) 1 11, GI h1 (m_rd (m_wr h1 t 23 (-1)) t 20) 1 11]) (by decide +kernel) rfl hc ?_
    exact RN.vR (by decide +kernel) rfl hF
  · refine RN.ift (cd := .ge) (off := 15) (tgt := 27) (by decide +kernel) (mif_ge hb) ?_
    obtain ⟨hc, hF⟩ := gd_of hF
    refine RN.blk (ops := [(27, .aload_n 0), (28, .getfield 39), (31, .bipush 14), (33, .iload_n 2), (34, .iadd), (35, .iaload), (36, .aload_n 0), (37, .getfield 39), (40, .bipush 82), (42, .iload_n 2), (43, .iadd), (44, .iaload)]) (pc' := 45) (lv' := [(2, .inl x2), (0, .inr (.inr t)), (1, .inl a1)]) (st' := [.inl (m_rd (m_wr h1 t 23 (-1)) (m_rd (m_wr h1 t 23 (-1)) t 20) (m_w32 (82 + x2))), .inl (m_rd (m_wr h1 t 23 (-1)) (m_rd (m_wr h1 t 23 (-1)) t 20) (m_w32 (14 + x2)))]) (h' := (m_wr h1 t 23 (-1))) (cs := [GK h1 t 12, GI h1 (m_rd (m_wr h1 t 23 (-1)) t 20) 1 (m_w32 (14 + x2)), GK h1 t 12, GI h1 (m_rd (m_wr h1 t 23 (-1)) t 20) 1 (m_w32 (82 + x2))]) (by decide +kernel) rfl hc ?_
    refine jn_use (fun j3 => ∀ (h4 : MH), j3 h4 = some r → RN xs L iX12_sorts (d + 4) 58 [(0, .inr (.inr t)), (2, .inl x2)] [] h4 (RVo r)) ?_ ?_ hF
    · intro h4 hF
      obtain ⟨hc, hF⟩ := gd_of hF
      refine RN.blk (ops := [(58, .aload_n 0), (59, .getfield 39), (62, .bipush 14), (64, .iload_n 2), (65, .iadd), (66, .dup2), (67, .iaload), (68, .iconst 1), (69, .iadd), (70, .iastore)]) (pc' := 71) (lv' := [(0, .inr (.inr t)), (2, .inl x2)]) (st' := []) (h' := (m_wr h4 (m_rd h4 t 20) (m_w32 (14 + x2)) (m_w32 ((m_rd h4 (m_rd h4 t 20) (m_w32 (14 + x2))) + 1)))) (cs := [GK h4 t 12, GI h4 (m_rd h4 t 20) 1 (m_w32 (14 + x2)), GI h4 (m_rd h4 t 20) 1 (m_w32 (14 + x2))]) (by decide +kernel) rfl hc ?_
      exact RN.vR (by decide +kernel) rfl hF
    · intro j3 Jj3 hF
      rcases it_of hF with ⟨hb, hF⟩ | ⟨hb, hF⟩
      · refine RN.ict (cd := .lt) (off := 13) (tgt := 58) (by decide +kernel) (mif_lt hb) ?_
        exact RN.sub (Jj3 _ hF) (sub_cons rfl (sub_cons rfl sub_nil))
      · refine RN.icf (cd := .lt) (off := 13) (tgt := 58) (by decide +kernel) (mif_ltn hb) ?_
        refine RN.blk (ops := [(48, .aload_n 0), (49, .iload_n 2)]) (pc' := 50) (lv' := [(2, .inl x2), (0, .inr (.inr t)), (1, .inl a1)]) (st' := [.inl x2, .inr (.inr t)]) (h' := (m_wr h1 t 23 (-1))) (cs := []) (by decide +kernel) rfl trivial ?_
        obtain ⟨hc, hF⟩ := gd_of hF
        obtain ⟨h5, hG, hF⟩ := bv_of hF
        refine RN.cv (i := 338) (k := 219) (q2 := iX12_ties) (as := [.inr (.inr t), .inl x2]) (r := []) (v := none) (h1 := h5) (by decide +kernel) rfl rfl rfl rfl rfl (rcv_ok hc.1) (CX12_ties (d := d + 3) hG) ?_
        obtain ⟨hc, hF⟩ := gd_of hF
        refine RN.blk (ops := [(53, .aload_n 0), (54, .iload_n 2), (55, .putfield 335)]) (pc' := 58) (lv' := [(2, .inl x2), (0, .inr (.inr t)), (1, .inl a1)]) (st' := []) (h' := (m_wr h5 t 23 x2)) (cs := [GK h5 t 12]) (by decide +kernel) rfl hc ?_
        exact RN.sub (Jj3 _ hF) (sub_cons rfl (sub_cons rfl sub_nil))
noncomputable def FX12_leaves_L23 (u0 : Int) (u2 : Int) (K0 : MH → Option (Int × MH)) : Nat → Int → MH → Option (Int × MH)
  | 0, _, _ => none
  | f + 1, v3, h =>
    gd [GK h u0 12, GI h (m_rd h u0 20) 1 12] (
     (if v3 < (m_rd h (m_rd h u0 20) 12) then
      gd [GK h u0 12, GK h u0 12, GI h (m_rd h u0 20) 1 (m_w32 ((m_w32 (26 + v3)) + 1)), GI h (m_rd h u0 20) 1 (m_w32 (26 + v3))] (
       hl (m_wr h (m_rd h u0 20) (m_w32 (26 + v3)) (m_rd h (m_rd h u0 20) (m_w32 ((m_w32 (26 + v3)) + 1)))) (fun h1 =>
        FX12_leaves_L23 u0 u2 K0 f (m_w32 (v3 + 1)) h1))
     else
      K0 h))
theorem CX12_leaves_L23 {d : Nat} {u0 : Int} {u2 : Int} {K0 : MH → Option (Int × MH)} {r : Int × MH} (hK0 : ∀ (h : MH), K0 h = some r → RN xs L iX12_leaves (d) 60 [(2, .inl u2)] [] h (RIo r)) : ∀ (f : Nat) (v3 : Int) (h : MH), FX12_leaves_L23 u0 u2 K0 f v3 h = some r → RN xs L iX12_leaves (d) 23 [(0, .inr (.inr u0)), (2, .inl u2), (3, .inl v3)] [] h (RIo r) := by
  intro f
  induction f with
  | zero =>
    intro v3 h hF
    cases hF
  | succ f ih =>
    intro v3 h hF
    unfold FX12_leaves_L23 at hF
    obtain ⟨hc, hF⟩ := gd_of hF
    refine RN.blk (ops := [(23, .iload_n 3), (24, .aload_n 0), (25, .getfield 39), (28, .bipush 12), (30, .iaload)]) (pc' := 31) (lv' := [(0, .inr (.inr u0)), (2, .inl u2), (3, .inl v3)]) (st' := [.inl (m_rd h (m_rd h u0 20) 12), .inl v3]) (h' := h) (cs := [GK h u0 12, GI h (m_rd h u0 20) 1 12]) (by decide +kernel) rfl hc ?_
    rcases it_of hF with ⟨hb, hF⟩ | ⟨hb, hF⟩
    · refine RN.icf (cd := .ge) (off := 29) (tgt := 60) (by decide +kernel) (mif_gen hb) ?_
      obtain ⟨hc, hF⟩ := gd_of hF
      refine RN.blk (ops := [(34, .aload_n 0), (35, .getfield 39), (38, .bipush 26), (40, .iload_n 3), (41, .iadd), (42, .aload_n 0), (43, .getfield 39), (46, .bipush 26), (48, .iload_n 3), (49, .iadd), (50, .iconst 1), (51, .iadd), (52, .iaload), (53, .iastore)]) (pc' := 54) (lv' := [(0, .inr (.inr u0)), (2, .inl u2), (3, .inl v3)]) (st' := []) (h' := (m_wr h (m_rd h u0 20) (m_w32 (26 + v3)) (m_rd h (m_rd h u0 20) (m_w32 ((m_w32 (26 + v3)) + 1))))) (cs := [GK h u0 12, GK h u0 12, GI h (m_rd h u0 20) 1 (m_w32 ((m_w32 (26 + v3)) + 1)), GI h (m_rd h u0 20) 1 (m_w32 (26 + v3))]) (by decide +kernel) rfl hc ?_
      obtain ⟨h1, he, hF⟩ := hl_of hF
      refine RN.hl he ?_
      refine RN.blk (ops := [(54, .iinc 3 1)]) (pc' := 57) (lv' := [(3, .inl (m_w32 (v3 + 1))), (0, .inr (.inr u0)), (2, .inl u2)]) (st' := []) (h' := h1) (cs := []) (by decide +kernel) rfl trivial ?_
      refine RN.goto (off := -34) (tgt := 23) (by decide +kernel) ?_
      exact RN.sub (ih _ _ hF) (sub_cons rfl (sub_cons rfl (sub_cons rfl sub_nil)))
    · refine RN.ict (cd := .ge) (off := 29) (tgt := 60) (by decide +kernel) (mif_ge hb) ?_
      exact RN.sub (hK0 _ hF) (sub_cons rfl sub_nil)
noncomputable def FX12_leaves (t : Int) (a1 : Int) (h : MH) : Option (Int × MH) :=
  gd [GK h t 12, GI h (m_rd h t 20) 1 (m_w32 (26 + a1)), GK h t 12, GI h (m_rd h t 20) 1 12, GI h (m_rd h t 20) 1 12] (
   FX12_leaves_L23 t (m_rd h (m_rd h t 20) (m_w32 (26 + a1))) (fun h1 =>
    some ((m_rd h (m_rd h t 20) (m_w32 (26 + a1))), h1)) FU a1 (m_wr h (m_rd h t 20) 12 (m_w32 ((m_rd h (m_rd h t 20) 12) - 1))))
theorem CX12_leaves {d : Nat} {t : Int} {a1 : Int} {h : MH} {r : Int × MH} (hF : FX12_leaves t a1 h = some r) : RN xs L iX12_leaves (d) 0 (lvE 0 [.inr (.inr t), .inl a1]) [] h (RIo r) := by
  unfold FX12_leaves at hF
  obtain ⟨hc, hF⟩ := gd_of hF
  refine RN.blk (ops := [(0, .aload_n 0), (1, .getfield 39), (4, .bipush 26), (6, .iload_n 1), (7, .iadd), (8, .iaload), (9, .istore_n 2), (10, .aload_n 0), (11, .getfield 39), (14, .bipush 12), (16, .dup2), (17, .iaload), (18, .iconst 1), (19, .isub), (20, .iastore), (21, .iload_n 1), (22, .istore_n 3)]) (pc' := 23) (lv' := [(3, .inl a1), (2, .inl (m_rd h (m_rd h t 20) (m_w32 (26 + a1)))), (0, .inr (.inr t)), (1, .inl a1)]) (st' := []) (h' := (m_wr h (m_rd h t 20) 12 (m_w32 ((m_rd h (m_rd h t 20) 12) - 1)))) (cs := [GK h t 12, GI h (m_rd h t 20) 1 (m_w32 (26 + a1)), GK h t 12, GI h (m_rd h t 20) 1 12, GI h (m_rd h t 20) 1 12]) (by decide +kernel) rfl hc ?_
  refine RN.sub (CX12_leaves_L23 ?_ _ _ _ hF) (sub_cons rfl (sub_cons rfl (sub_cons rfl sub_nil)))
  · intro h1 hF
    refine RN.blk (ops := [(60, .iload_n 2)]) (pc' := 61) (lv' := [(2, .inl (m_rd h (m_rd h t 20) (m_w32 (26 + a1))))]) (st' := [.inl (m_rd h (m_rd h t 20) (m_w32 (26 + a1)))]) (h' := h1) (cs := []) (by decide +kernel) rfl trivial ?_
    exact RN.iR (by decide +kernel) rfl hF
noncomputable def FX12_passes (t : Int) (h : MH) : Option (Int × MH) :=
  gd [GK h t 12] (bd (FX12_choice t h) (fun x2 h1 =>
   gd [GK h1 t 12] (
    jn (fun (p4 : Int) (h5 : MH) =>
     gd [GK h5 t 12, GI h5 (m_rd h5 t 20) 1 10, GI h5 (m_rd h5 t 20) 1 10] (
      some (p4, (m_wr h5 (m_rd h5 t 20) 10 (m_w32 ((m_rd h5 (m_rd h5 t 20) 10) + 1)))))) (fun j3 =>
     (if x2 < 0 then
      j3 (-1) (m_wr h1 t 23 (-1))
     else
      gd [GK h1 t 12] (bd (FX12_leaves t x2 (m_wr h1 t 23 (-1))) (fun x7 h6 =>
       gd [GK h6 t 12] (bv (FX12_sorts t x7 h6) (fun h8 =>
        j3 x7 h8)))))))))
theorem CX12_passes {d : Nat} {t : Int} {h : MH} {r : Int × MH} (hF : FX12_passes t h = some r) : RN xs L iX12_passes (d + 6) 0 (lvE 0 [.inr (.inr t)]) [] h (RIo r) := by
  unfold FX12_passes at hF
  refine RN.blk (ops := [(0, .aload_n 0)]) (pc' := 1) (lv' := [(0, .inr (.inr t))]) (st' := [.inr (.inr t)]) (h' := h) (cs := []) (by decide +kernel) rfl trivial ?_
  obtain ⟨hc, hF⟩ := gd_of hF
  obtain ⟨x2, h1, hG, hF⟩ := bd_of hF
  refine RN.cv (i := 341) (k := 218) (q2 := iX12_choice) (as := [.inr (.inr t)]) (r := []) (v := some (.inl x2)) (h1 := h1) (by decide +kernel) rfl rfl rfl rfl rfl (rcv_ok hc.1) (CX12_choice (d := d) hG) ?_
  obtain ⟨hc, hF⟩ := gd_of hF
  refine RN.blk (ops := [(4, .istore_n 1), (5, .iconst (-1)), (6, .istore_n 2), (7, .aload_n 0), (8, .iconst (-1)), (9, .putfield 335), (12, .iload_n 1)]) (pc' := 13) (lv' := [(2, .inl (-1)), (1, .inl x2), (0, .inr (.inr t))]) (st' := [.inl x2]) (h' := (m_wr h1 t 23 (-1))) (cs := [GK h1 t 12]) (by decide +kernel) rfl hc ?_
  refine jn_use (fun j3 => ∀ (p4 : Int) (h5 : MH), j3 p4 h5 = some r → RN xs L iX12_passes (d + 6) 27 [(0, .inr (.inr t)), (2, .inl p4)] [] h5 (RIo r)) ?_ ?_ hF
  · intro p4 h5 hF
    obtain ⟨hc, hF⟩ := gd_of hF
    refine RN.blk (ops := [(27, .aload_n 0), (28, .getfield 39), (31, .bipush 10), (33, .dup2), (34, .iaload), (35, .iconst 1), (36, .iadd), (37, .iastore), (38, .iload_n 2)]) (pc' := 39) (lv' := [(0, .inr (.inr t)), (2, .inl p4)]) (st' := [.inl p4]) (h' := (m_wr h5 (m_rd h5 t 20) 10 (m_w32 ((m_rd h5 (m_rd h5 t 20) 10) + 1)))) (cs := [GK h5 t 12, GI h5 (m_rd h5 t 20) 1 10, GI h5 (m_rd h5 t 20) 1 10]) (by decide +kernel) rfl hc ?_
    exact RN.iR (by decide +kernel) rfl hF
  · intro j3 Jj3 hF
    rcases it_of hF with ⟨hb, hF⟩ | ⟨hb, hF⟩
    · refine RN.ift (cd := .lt) (off := 14) (tgt := 27) (by decide +kernel) (mif_lt hb) ?_
      exact RN.sub (Jj3 _ _ hF) (sub_cons rfl (sub_cons rfl sub_nil))
    · refine RN.iff (cd := .lt) (off := 14) (tgt := 27) (by decide +kernel) (mif_ltn hb) ?_
      refine RN.blk (ops := [(16, .aload_n 0), (17, .iload_n 1)]) (pc' := 18) (lv' := [(2, .inl (-1)), (1, .inl x2), (0, .inr (.inr t))]) (st' := [.inl x2, .inr (.inr t)]) (h' := (m_wr h1 t 23 (-1))) (cs := []) (by decide +kernel) rfl trivial ?_
      obtain ⟨hc, hF⟩ := gd_of hF
      obtain ⟨x7, h6, hG, hF⟩ := bd_of hF
      refine RN.cv (i := 344) (k := 221) (q2 := iX12_leaves) (as := [.inr (.inr t), .inl x2]) (r := []) (v := some (.inl x7)) (h1 := h6) (by decide +kernel) rfl rfl rfl rfl rfl (rcv_ok hc.1) (CX12_leaves (d := d + 5) hG) ?_
      refine RN.blk (ops := [(21, .istore_n 2), (22, .aload_n 0), (23, .iload_n 2)]) (pc' := 24) (lv' := [(2, .inl x7), (1, .inl x2), (0, .inr (.inr t))]) (st' := [.inl x7, .inr (.inr t)]) (h' := h6) (cs := []) (by decide +kernel) rfl trivial ?_
      obtain ⟨hc, hF⟩ := gd_of hF
      obtain ⟨h8, hG, hF⟩ := bv_of hF
      refine RN.cv (i := 347) (k := 220) (q2 := iX12_sorts) (as := [.inr (.inr t), .inl x7]) (r := []) (v := none) (h1 := h8) (by decide +kernel) rfl rfl rfl rfl rfl (rcv_ok hc.1) (CX12_sorts (d := d + 1) hG) ?_
      exact RN.sub (Jj3 _ _ hF) (sub_cons rfl (sub_cons rfl sub_nil))
end Dc
