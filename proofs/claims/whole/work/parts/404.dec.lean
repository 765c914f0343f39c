/-! METHODS AS FUNCTIONS, and their certificates (by program): X4_drop, X5_init, X5_join, X5_run, X5_worth, X6_joinOf, X6_put, X6_countPart, X6_textOf, X6_takeValue -/
section Dc
variable {xs : Int → Int} {L : Int}
noncomputable def FX4_drop_L21 (u0 : Int) (K0 : MH → Option (MH)) : Nat → Int → MH → Option (MH)
  | 0, _, _ => none
  | f + 1, v2, h =>
    gd [GK h u0 4] (
     (if v2 < (m_rd h u0 0) then
      gd [GK h u0 4, GK h u0 4, GI h (m_rd h u0 1) 1 (m_w32 (v2 + 1)), GI h (m_rd h u0 1) 1 v2, GK h u0 4, GK h u0 4, GI h (m_rd (m_wr h (m_rd h u0 1) v2 (m_rd h (m_rd h u0 1) (m_w32 (v2 + 1)))) u0 2) 1 (m_w32 (v2 + 1)), GI h (m_rd (m_wr h (m_rd h u0 1) v2 (m_rd h (m_rd h u0 1) (m_w32 (v2 + 1)))) u0 2) 1 v2] (
       hl (m_wr (m_wr h (m_rd h u0 1) v2 (m_rd h (m_rd h u0 1) (m_w32 (v2 + 1)))) (m_rd (m_wr h (m_rd h u0 1) v2 (m_rd h (m_rd h u0 1) (m_w32 (v2 + 1)))) u0 2) v2 (m_rd (m_wr h (m_rd h u0 1) v2 (m_rd h (m_rd h u0 1) (m_w32 (v2 + 1)))) (m_rd (m_wr h (m_rd h u0 1) v2 (m_rd h (m_rd h u0 1) (m_w32 (v2 + 1)))) u0 2) (m_w32 (v2 + 1)))) (fun h1 =>
        gd [GK h1 u0 4, GK h1 u0 4, GI h1 (m_rd h1 u0 3) 1 (m_w32 (v2 + 1)), GI h1 (m_rd h1 u0 3) 1 v2] (
         FX4_drop_L21 u0 K0 f (m_w32 (v2 + 1)) (m_wr h1 (m_rd h1 u0 3) v2 (m_rd h1 (m_rd h1 u0 3) (m_w32 (v2 + 1)))))))
     else
      K0 h))
theorem CX4_drop_L21 {d : Nat} {u0 : Int} {K0 : MH → Option (MH)} {r : MH} (hK0 : ∀ (h : MH), K0 h = some r → RN xs L iX4_drop (d + 1) 77 [] [] h (RVo r)) : ∀ (f : Nat) (v2 : Int) (h : MH), FX4_drop_L21 u0 K0 f v2 h = some r → RN xs L iX4_drop (d + 1) 21 [(0, .inr (.inr u0)), (2, .inl v2)] [] h (RVo r) := by
  intro f
  induction f with
  | zero =>
    intro v2 h hF
    cases hF
  | succ f ih =>
    intro v2 h hF
    unfold FX4_drop_L21 at hF
    obtain ⟨hc, hF⟩ := gd_of hF
    refine RN.blk (ops := [(21, .iload_n 2), (22, .aload_n 0), (23, .getfield 21)]) (pc' := 26) (lv' := [(0, .inr (.inr u0)), (2, .inl v2)]) (st' := [.inl (m_rd h u0 0), .inl v2]) (h' := h) (cs := [GK h u0 4]) (by decide +kernel) rfl hc ?_
    rcases it_of hF with ⟨hb, hF⟩ | ⟨hb, hF⟩
    · refine RN.icf (cd := .ge) (off := 51) (tgt := 77) (by decide +kernel) (mif_gen hb) ?_
      obtain ⟨hc, hF⟩ := gd_of hF
      refine RN.blk (ops := [(29, .aload_n 0), (30, .getfield 9), (33, .iload_n 2), (34, .aload_n 0), (35, .getfield 9), (38, .iload_n 2), (39, .iconst 1), (40, .iadd), (41, .iaload), (42, .iastore), (43, .aload_n 0), (44, .getfield 15), (47, .iload_n 2), (48, .aload_n 0), (49, .getfield 15), (52, .iload_n 2), (53, .iconst 1), (54, .iadd), (55, .iaload), (56, .iastore)]) (pc' := 57) (lv' := [(0, .inr (.inr u0)), (2, .inl v2)]) (st' := []) (h' := (m_wr (m_wr h (m_rd h u0 1) v2 (m_rd h (m_rd h u0 1) (m_w32 (v2 + 1)))) (m_rd (m_wr h (m_rd h u0 1) v2 (m_rd h (m_rd h u0 1) (m_w32 (v2 + 1)))) u0 2) v2 (m_rd (m_wr h (m_rd h u0 1) v2 (m_rd h (m_rd h u0 1) (m_w32 (v2 + 1)))) (m_rd (m_wr h (m_rd h u0 1) v2 (m_rd h (m_rd h u0 1) (m_w32 (v2 + 1)))) u0 2) (m_w32 (v2 + 1))))) (cs := [GK h u0 4, GK h u0 4, GI h (m_rd h u0 1) 1 (m_w32 (v2 + 1)), GI h (m_rd h u0 1) 1 v2, GK h u0 4, GK h u0 4, GI h (m_rd (m_wr h (m_rd h u0 1) v2 (m_rd h (m_rd h u0 1) (m_w32 (v2 + 1)))) u0 2) 1 (m_w32 (v2 + 1)), GI h (m_rd (m_wr h (m_rd h u0 1) v2 (m_rd h (m_rd h u0 1) (m_w32 (v2 + 1)))) u0 2) 1 v2]) (by decide +kernel) rfl hc ?_
      obtain ⟨h1, he, hF⟩ := hl_of hF
      refine RN.hl he ?_
      obtain ⟨hc, hF⟩ := gd_of hF
      refine RN.blk (ops := [(57, .aload_n 0), (58, .getfield 18), (61, .iload_n 2), (62, .aload_n 0), (63, .getfield 18), (66, .iload_n 2), (67, .iconst 1), (68, .iadd), (69, .iaload), (70, .iastore), (71, .iinc 2 1)]) (pc' := 74) (lv' := [(2, .inl (m_w32 (v2 + 1))), (0, .inr (.inr u0))]) (st' := []) (h' := (m_wr h1 (m_rd h1 u0 3) v2 (m_rd h1 (m_rd h1 u0 3) (m_w32 (v2 + 1))))) (cs := [GK h1 u0 4, GK h1 u0 4, GI h1 (m_rd h1 u0 3) 1 (m_w32 (v2 + 1)), GI h1 (m_rd h1 u0 3) 1 v2]) (by decide +kernel) rfl hc ?_
      refine RN.goto (off := -53) (tgt := 21) (by decide +kernel) ?_
      exact RN.sub (ih _ _ hF) (sub_cons rfl (sub_cons rfl sub_nil))
    · refine RN.ict (cd := .ge) (off := 51) (tgt := 77) (by decide +kernel) (mif_ge hb) ?_
      exact RN.sub (hK0 _ hF) sub_nil
noncomputable def FX4_drop (t : Int) (a1 : Int) (h : MH) : Option (MH) :=
  gd [GK h t 4] (bd (FX4_has t a1 h) (fun x2 h1 =>
   (if x2 = 0 then
    some h1
   else
    gd [GK h1 t 4, GK h1 t 4] (
     FX4_drop_L21 t (fun h3 =>
      some h3) FU a1 (m_wr h1 t 0 (m_w32 ((m_rd h1 t 0) - 1)))))))
theorem CX4_drop {d : Nat} {t : Int} {a1 : Int} {h : MH} {r : MH} (hF : FX4_drop t a1 h = some r) : RN xs L iX4_drop (d + 1) 0 (lvE 0 [.inr (.inr t), .inl a1]) [] h (RVo r) := by
  unfold FX4_drop at hF
  refine RN.blk (ops := [(0, .aload_n 0), (1, .iload_n 1)]) (pc' := 2) (lv' := [(0, .inr (.inr t)), (1, .inl a1)]) (st' := [.inl a1, .inr (.inr t)]) (h' := h) (cs := []) (by decide +kernel) rfl trivial ?_
  obtain ⟨hc, hF⟩ := gd_of hF
  obtain ⟨x2, h1, hG, hF⟩ := bd_of hF
  refine RN.cv (i := 35) (k := 46) (q2 := iX4_has) (as := [.inr (.inr t), .inl a1]) (r := []) (v := some (.inl x2)) (h1 := h1) (by decide +kernel) rfl rfl rfl rfl rfl (rcv_ok hc.1) (CX4_has (d := d) hG) ?_
  rcases it_of hF with ⟨hb, hF⟩ | ⟨hb, hF⟩
  · refine RN.iff (cd := .ne) (off := 4) (tgt := 9) (by decide +kernel) (mif_nen hb) ?_
    exact RN.vR (by decide +kernel) rfl hF
  · refine RN.ift (cd := .ne) (off := 4) (tgt := 9) (by decide +kernel) (mif_ne hb) ?_
    obtain ⟨hc, hF⟩ := gd_of hF
    refine RN.blk (ops := [(9, .aload_n 0), (10, .dup), (11, .getfield 21), (14, .iconst 1), (15, .isub), (16, .putfield 21), (19, .iload_n 1), (20, .istore_n 2)]) (pc' := 21) (lv' := [(2, .inl a1), (0, .inr (.inr t)), (1, .inl a1)]) (st' := []) (h' := (m_wr h1 t 0 (m_w32 ((m_rd h1 t 0) - 1)))) (cs := [GK h1 t 4, GK h1 t 4]) (by decide +kernel) rfl hc ?_
    refine RN.sub (CX4_drop_L21 ?_ _ _ _ hF) (sub_cons rfl (sub_cons rfl sub_nil))
    · intro h3 hF
      exact RN.vR (by decide +kernel) rfl hF
noncomputable def FX5_init (t : Int) (a1 : Int) (h : MH) : Option (MH) :=
  gd [¬ t = -1] (
   gd [GN 60, GK (m_al h 2 60 (Int.toNat 60) (fun _ => 0)) t 5, GK (m_al h 2 60 (Int.toNat 60) (fun _ => 0)) a1 6, GN (m_rd (m_wr (m_al h 2 60 (Int.toNat 60) (fun _ => 0)) t 3 (h.1.1 : Int)) a1 2)] (
    hl (m_al (m_wr (m_al h 2 60 (Int.toNat 60) (fun _ => 0)) t 3 (h.1.1 : Int)) 1 (m_rd (m_wr (m_al h 2 60 (Int.toNat 60) (fun _ => 0)) t 3 (h.1.1 : Int)) a1 2) (Int.toNat (m_rd (m_wr (m_al h 2 60 (Int.toNat 60) (fun _ => 0)) t 3 (h.1.1 : Int)) a1 2)) (fun _ => 0)) (fun h1 =>
     gd [GK h1 t 5] (
      hl (m_wr h1 t 0 ((m_wr (m_al h 2 60 (Int.toNat 60) (fun _ => 0)) t 3 (h.1.1 : Int)).1.1 : Int)) (fun h2 =>
       gd [GK h2 a1 6, GN (m_rd h2 a1 5), GK (m_al h2 1 (m_rd h2 a1 5) (Int.toNat (m_rd h2 a1 5)) (fun _ => 0)) t 5] (
        hl (m_wr (m_al h2 1 (m_rd h2 a1 5) (Int.toNat (m_rd h2 a1 5)) (fun _ => 0)) t 1 (h2.1.1 : Int)) (fun h3 =>
         gd [GK h3 a1 6, GN (m_rd h3 a1 5), GK (m_al h3 1 (m_rd h3 a1 5) (Int.toNat (m_rd h3 a1 5)) (fun _ => 0)) t 5] (
          hl (m_wr (m_al h3 1 (m_rd h3 a1 5) (Int.toNat (m_rd h3 a1 5)) (fun _ => 0)) t 2 (h3.1.1 : Int)) (fun h4 =>
           gd [GK h4 a1 6, GK h4 t 5, GK h4 t 5, GL h4 (m_rd h4 t 0)] (
            gd [GC h4 (m_rd h4 a1 1) 0 (m_rd h4 t 0) 0 (m_ln h4 (m_rd h4 t 0))] (
             gd [GK h4 a1 6, GK h4 t 5, GK h4 t 5, GL h4 (m_rd (m_cpy h4 (m_rd h4 a1 1) 0 (m_rd h4 t 0) 0 (m_ln h4 (m_rd h4 t 0))) t 1)] (
              gd [GC h4 (m_rd (m_cpy h4 (m_rd h4 a1 1) 0 (m_rd h4 t 0) 0 (m_ln h4 (m_rd h4 t 0))) a1 3) 0 (m_rd (m_cpy h4 (m_rd h4 a1 1) 0 (m_rd h4 t 0) 0 (m_ln h4 (m_rd h4 t 0))) t 1) 0 (m_ln h4 (m_rd (m_cpy h4 (m_rd h4 a1 1) 0 (m_rd h4 t 0) 0 (m_ln h4 (m_rd h4 t 0))) t 1))] (
               gd [GK h4 a1 6, GK h4 t 5, GK h4 t 5, GL h4 (m_rd (m_cpy (m_cpy h4 (m_rd h4 a1 1) 0 (m_rd h4 t 0) 0 (m_ln h4 (m_rd h4 t 0))) (m_rd (m_cpy h4 (m_rd h4 a1 1) 0 (m_rd h4 t 0) 0 (m_ln h4 (m_rd h4 t 0))) a1 3) 0 (m_rd (m_cpy h4 (m_rd h4 a1 1) 0 (m_rd h4 t 0) 0 (m_ln h4 (m_rd h4 t 0))) t 1) 0 (m_ln h4 (m_rd (m_cpy h4 (m_rd h4 a1 1) 0 (m_rd h4 t 0) 0 (m_ln h4 (m_rd h4 t 0))) t 1))) t 2)] (
                gd [GC h4 (m_rd (m_cpy (m_cpy h4 (m_rd h4 a1 1) 0 (m_rd h4 t 0) 0 (m_ln h4 (m_rd h4 t 0))) (m_rd (m_cpy h4 (m_rd h4 a1 1) 0 (m_rd h4 t 0) 0 (m_ln h4 (m_rd h4 t 0))) a1 3) 0 (m_rd (m_cpy h4 (m_rd h4 a1 1) 0 (m_rd h4 t 0) 0 (m_ln h4 (m_rd h4 t 0))) t 1) 0 (m_ln h4 (m_rd (m_cpy h4 (m_rd h4 a1 1) 0 (m_rd h4 t 0) 0 (m_ln h4 (m_rd h4 t 0))) t 1))) a1 4) 0 (m_rd (m_cpy (m_cpy h4 (m_rd h4 a1 1) 0 (m_rd h4 t 0) 0 (m_ln h4 (m_rd h4 t 0))) (m_rd (m_cpy h4 (m_rd h4 a1 1) 0 (m_rd h4 t 0) 0 (m_ln h4 (m_rd h4 t 0))) a1 3) 0 (m_rd (m_cpy h4 (m_rd h4 a1 1) 0 (m_rd h4 t 0) 0 (m_ln h4 (m_rd h4 t 0))) t 1) 0 (m_ln h4 (m_rd (m_cpy h4 (m_rd h4 a1 1) 0 (m_rd h4 t 0) 0 (m_ln h4 (m_rd h4 t 0))) t 1))) t 2) 0 (m_ln h4 (m_rd (m_cpy (m_cpy h4 (m_rd h4 a1 1) 0 (m_rd h4 t 0) 0 (m_ln h4 (m_rd h4 t 0))) (m_rd (m_cpy h4 (m_rd h4 a1 1) 0 (m_rd h4 t 0) 0 (m_ln h4 (m_rd h4 t 0))) a1 3) 0 (m_rd (m_cpy h4 (m_rd h4 a1 1) 0 (m_rd h4 t 0) 0 (m_ln h4 (m_rd h4 t 0))) t 1) 0 (m_ln h4 (m_rd (m_cpy h4 (m_rd h4 a1 1) 0 (m_rd h4 t 0) 0 (m_ln h4 (m_rd h4 t 0))) t 1))) t 2))] (
                 some (m_cpy (m_cpy (m_cpy h4 (m_rd h4 a1 1) 0 (m_rd h4 t 0) 0 (m_ln h4 (m_rd h4 t 0))) (m_rd (m_cpy h4 (m_rd h4 a1 1) 0 (m_rd h4 t 0) 0 (m_ln h4 (m_rd h4 t 0))) a1 3) 0 (m_rd (m_cpy h4 (m_rd h4 a1 1) 0 (m_rd h4 t 0) 0 (m_ln h4 (m_rd h4 t 0))) t 1) 0 (m_ln h4 (m_rd (m_cpy h4 (m_rd h4 a1 1) 0 (m_rd h4 t 0) 0 (m_ln h4 (m_rd h4 t 0))) t 1))) (m_rd (m_cpy (m_cpy h4 (m_rd h4 a1 1) 0 (m_rd h4 t 0) 0 (m_ln h4 (m_rd h4 t 0))) (m_rd (m_cpy h4 (m_rd h4 a1 1) 0 (m_rd h4 t 0) 0 (m_ln h4 (m_rd h4 t 0))) a1 3) 0 (m_rd (m_cpy h4 (m_rd h4 a1 1) 0 (m_rd h4 t 0) 0 (m_ln h4 (m_rd h4 t 0))) t 1) 0 (m_ln h4 (m_rd (m_cpy h4 (m_rd h4 a1 1) 0 (m_rd h4 t 0) 0 (m_ln h4 (m_rd h4 t 0))) t 1))) a1 4) 0 (m_rd (m_cpy (m_cpy h4 (m_rd h4 a1 1) 0 (m_rd h4 t 0) 0 (m_ln h4 (m_rd h4 t 0))) (m_rd (m_cpy h4 (m_rd h4 a1 1) 0 (m_rd h4 t 0) 0 (m_ln h4 (m_rd h4 t 0))) a1 3) 0 (m_rd (m_cpy h4 (m_rd h4 a1 1) 0 (m_rd h4 t 0) 0 (m_ln h4 (m_rd h4 t 0))) t 1) 0 (m_ln h4 (m_rd (m_cpy h4 (m_rd h4 a1 1) 0 (m_rd h4 t 0) 0 (m_ln h4 (m_rd h4 t 0))) t 1))) t 2) 0 (m_ln h4 (m_rd (m_cpy (m_cpy h4 (m_rd h4 a1 1) 0 (m_rd h4 t 0) 0 (m_ln h4 (m_rd h4 t 0))) (m_rd (m_cpy h4 (m_rd h4 a1 1) 0 (m_rd h4 t 0) 0 (m_ln h4 (m_rd h4 t 0))) a1 3) 0 (m_rd (m_cpy h4 (m_rd h4 a1 1) 0 (m_rd h4 t 0) 0 (m_ln h4 (m_rd h4 t 0))) t 1) 0 (m_ln h4 (m_rd (m_cpy h4 (m_rd h4 a1 1) 0 (m_rd h4 t 0) 0 (m_ln h4 (m_rd h4 t 0))) t 1))) t 2))))))))))))))))))
theorem CX5_init {d : Nat} {t : Int} {a1 : Int} {h : MH} {r : MH} (hF : FX5_init t a1 h = some r) : RN xs L iX5_init (d + 1) 0 (lvE 0 [.inr (.inr t), .inr (.inr a1)]) [] h (RVo r) := by
  unfold FX5_init at hF
  refine RN.blk (ops := [(0, .aload_n 0)]) (pc' := 1) (lv' := [(0, .inr (.inr t)), (1, .inr (.inr a1))]) (st' := [.inr (.inr t)]) (h' := h) (cs := []) (by decide +kernel) rfl trivial ?_
  obtain ⟨hc, hF⟩ := gd_of hF
  refine RN.oi (i := 3) (by decide +kernel) rfl rfl hc.1 ?_
  obtain ⟨hc, hF⟩ := gd_of hF
  refine RN.blk (ops := [(4, .aload_n 0), (5, .bipush 60), (7, .newarray .long), (9, .putfield 9), (12, .aload_n 0), (13, .aload_n 1), (14, .getfield 15), (17, .newarray .int)]) (pc' := 19) (lv' := [(0, .inr (.inr t)), (1, .inr (.inr a1))]) (st' := [.inr (.inr ((m_wr (m_al h 2 60 (Int.toNat 60) (fun _ => 0)) t 3 (h.1.1 : Int)).1.1 : Int)), .inr (.inr t)]) (h' := (m_al (m_wr (m_al h 2 60 (Int.toNat 60) (fun _ => 0)) t 3 (h.1.1 : Int)) 1 (m_rd (m_wr (m_al h 2 60 (Int.toNat 60) (fun _ => 0)) t 3 (h.1.1 : Int)) a1 2) (Int.toNat (m_rd (m_wr (m_al h 2 60 (Int.toNat 60) (fun _ => 0)) t 3 (h.1.1 : Int)) a1 2)) (fun _ => 0))) (cs := [GN 60, GK (m_al h 2 60 (Int.toNat 60) (fun _ => 0)) t 5, GK (m_al h 2 60 (Int.toNat 60) (fun _ => 0)) a1 6, GN (m_rd (m_wr (m_al h 2 60 (Int.toNat 60) (fun _ => 0)) t 3 (h.1.1 : Int)) a1 2)]) (by decide +kernel) rfl hc ?_
  obtain ⟨h1, he, hF⟩ := hl_of hF
  refine RN.hl he ?_
  obtain ⟨hc, hF⟩ := gd_of hF
  refine RN.blk (ops := [(19, .putfield 21)]) (pc' := 22) (lv' := [(0, .inr (.inr t)), (1, .inr (.inr a1))]) (st' := []) (h' := (m_wr h1 t 0 ((m_wr (m_al h 2 60 (Int.toNat 60) (fun _ => 0)) t 3 (h.1.1 : Int)).1.1 : Int))) (cs := [GK h1 t 5]) (by decide +kernel) rfl hc ?_
  obtain ⟨h2, he, hF⟩ := hl_of hF
  refine RN.hl he ?_
  obtain ⟨hc, hF⟩ := gd_of hF
  refine RN.blk (ops := [(22, .aload_n 0), (23, .aload_n 1), (24, .getfield 25), (27, .newarray .int), (29, .putfield 28)]) (pc' := 32) (lv' := [(0, .inr (.inr t)), (1, .inr (.inr a1))]) (st' := []) (h' := (m_wr (m_al h2 1 (m_rd h2 a1 5) (Int.toNat (m_rd h2 a1 5)) (fun _ => 0)) t 1 (h2.1.1 : Int))) (cs := [GK h2 a1 6, GN (m_rd h2 a1 5), GK (m_al h2 1 (m_rd h2 a1 5) (Int.toNat (m_rd h2 a1 5)) (fun _ => 0)) t 5]) (by decide +kernel) rfl hc ?_
  obtain ⟨h3, he, hF⟩ := hl_of hF
  refine RN.hl he ?_
  obtain ⟨hc, hF⟩ := gd_of hF
  refine RN.blk (ops := [(32, .aload_n 0), (33, .aload_n 1), (34, .getfield 25), (37, .newarray .int), (39, .putfield 31)]) (pc' := 42) (lv' := [(0, .inr (.inr t)), (1, .inr (.inr a1))]) (st' := []) (h' := (m_wr (m_al h3 1 (m_rd h3 a1 5) (Int.toNat (m_rd h3 a1 5)) (fun _ => 0)) t 2 (h3.1.1 : Int))) (cs := [GK h3 a1 6, GN (m_rd h3 a1 5), GK (m_al h3 1 (m_rd h3 a1 5) (Int.toNat (m_rd h3 a1 5)) (fun _ => 0)) t 5]) (by decide +kernel) rfl hc ?_
  obtain ⟨h4, he, hF⟩ := hl_of hF
  refine RN.hl he ?_
  obtain ⟨hc, hF⟩ := gd_of hF
  refine RN.blk (ops := [(42, .aload_n 1), (43, .getfield 34), (46, .iconst 0), (47, .aload_n 0), (48, .getfield 21), (51, .iconst 0), (52, .aload_n 0), (53, .getfield 21), (56, .arraylength)]) (pc' := 57) (lv' := [(0, .inr (.inr t)), (1, .inr (.inr a1))]) (st' := [.inl (m_ln h4 (m_rd h4 t 0)), .inl 0, .inr (.inr (m_rd h4 t 0)), .inl 0, .inr (.inr (m_rd h4 a1 1))]) (h' := h4) (cs := [GK h4 a1 6, GK h4 t 5, GK h4 t 5, GL h4 (m_rd h4 t 0)]) (by decide +kernel) rfl hc ?_
  obtain ⟨hc, hF⟩ := gd_of hF
  refine RN.cp (i := 35) (by decide +kernel) rfl rfl hc.1 ?_
  obtain ⟨hc, hF⟩ := gd_of hF
  refine RN.blk (ops := [(60, .aload_n 1), (61, .getfield 41), (64, .iconst 0), (65, .aload_n 0), (66, .getfield 28), (69, .iconst 0), (70, .aload_n 0), (71, .getfield 28), (74, .arraylength)]) (pc' := 75) (lv' := [(0, .inr (.inr t)), (1, .inr (.inr a1))]) (st' := [.inl (m_ln h4 (m_rd (m_cpy h4 (m_rd h4 a1 1) 0 (m_rd h4 t 0) 0 (m_ln h4 (m_rd h4 t 0))) t 1)), .inl 0, .inr (.inr (m_rd (m_cpy h4 (m_rd h4 a1 1) 0 (m_rd h4 t 0) 0 (m_ln h4 (m_rd h4 t 0))) t 1)), .inl 0, .inr (.inr (m_rd (m_cpy h4 (m_rd h4 a1 1) 0 (m_rd h4 t 0) 0 (m_ln h4 (m_rd h4 t 0))) a1 3))]) (h' := (m_cpy h4 (m_rd h4 a1 1) 0 (m_rd h4 t 0) 0 (m_ln h4 (m_rd h4 t 0)))) (cs := [GK h4 a1 6, GK h4 t 5, GK h4 t 5, GL h4 (m_rd (m_cpy h4 (m_rd h4 a1 1) 0 (m_rd h4 t 0) 0 (m_ln h4 (m_rd h4 t 0))) t 1)]) (by decide +kernel) rfl hc ?_
  obtain ⟨hc, hF⟩ := gd_of hF
  refine RN.cp (i := 35) (by decide +kernel) rfl rfl hc.1 ?_
  obtain ⟨hc, hF⟩ := gd_of hF
  refine RN.blk (ops := [(78, .aload_n 1), (79, .getfield 42), (82, .iconst 0), (83, .aload_n 0), (84, .getfield 31), (87, .iconst 0), (88, .aload_n 0), (89, .getfield 31), (92, .arraylength)]) (pc' := 93) (lv' := [(0, .inr (.inr t)), (1, .inr (.inr a1))]) (st' := [.inl (m_ln h4 (m_rd (m_cpy (m_cpy h4 (m_rd h4 a1 1) 0 (m_rd h4 t 0) 0 (m_ln h4 (m_rd h4 t 0))) (m_rd (m_cpy h4 (m_rd h4 a1 1) 0 (m_rd h4 t 0) 0 (m_ln h4 (m_rd h4 t 0))) a1 3) 0 (m_rd (m_cpy h4 (m_rd h4 a1 1) 0 (m_rd h4 t 0) 0 (m_ln h4 (m_rd h4 t 0))) t 1) 0 (m_ln h4 (m_rd (m_cpy h4 (m_rd h4 a1 1) 0 (m_rd h4 t 0) 0 (m_ln h4 (m_rd h4 t 0))) t 1))) t 2)), .inl 0, .inr (.inr (m_rd (m_cpy (m_cpy h4 (m_rd h4 a1 1) 0 (m_rd h4 t 0) 0 (m_ln h4 (m_rd h4 t 0))) (m_rd (m_cpy h4 (m_rd h4 a1 1) 0 (m_rd h4 t 0) 0 (m_ln h4 (m_rd h4 t 0))) a1 3) 0 (m_rd (m_cpy h4 (m_rd h4 a1 1) 0 (m_rd h4 t 0) 0 (m_ln h4 (m_rd h4 t 0))) t 1) 0 (m_ln h4 (m_rd (m_cpy h4 (m_rd h4 a1 1) 0 (m_rd h4 t 0) 0 (m_ln h4 (m_rd h4 t 0))) t 1))) t 2)), .inl 0, .inr (.inr (m_rd (m_cpy (m_cpy h4 (m_rd h4 a1 1) 0 (m_rd h4 t 0) 0 (m_ln h4 (m_rd h4 t 0))) (m_rd (m_cpy h4 (m_rd h4 a1 1) 0 (m_rd h4 t 0) 0 (m_ln h4 (m_rd h4 t 0))) a1 3) 0 (m_rd (m_cpy h4 (m_rd h4 a1 1) 0 (m_rd h4 t 0) 0 (m_ln h4 (m_rd h4 t 0))) t 1) 0 (m_ln h4 (m_rd (m_cpy h4 (m_rd h4 a1 1) 0 (m_rd h4 t 0) 0 (m_ln h4 (m_rd h4 t 0))) t 1))) a1 4))]) (h' := (m_cpy (m_cpy h4 (m_rd h4 a1 1) 0 (m_rd h4 t 0) 0 (m_ln h4 (m_rd h4 t 0))) (m_rd (m_cpy h4 (m_rd h4 a1 1) 0 (m_rd h4 t 0) 0 (m_ln h4 (m_rd h4 t 0))) a1 3) 0 (m_rd (m_cpy h4 (m_rd h4 a1 1) 0 (m_rd h4 t 0) 0 (m_ln h4 (m_rd h4 t 0))) t 1) 0 (m_ln h4 (m_rd (m_cpy h4 (m_rd h4 a1 1) 0 (m_rd h4 t 0) 0 (m_ln h4 (m_rd h4 t 0))) t 1)))) (cs := [GK h4 a1 6, GK h4 t 5, GK h4 t 5, GL h4 (m_rd (m_cpy (m_cpy h4 (m_rd h4 a1 1) 0 (m_rd h4 t 0) 0 (m_ln h4 (m_rd h4 t 0))) (m_rd (m_cpy h4 (m_rd h4 a1 1) 0 (m_rd h4 t 0) 0 (m_ln h4 (m_rd h4 t 0))) a1 3) 0 (m_rd (m_cpy h4 (m_rd h4 a1 1) 0 (m_rd h4 t 0) 0 (m_ln h4 (m_rd h4 t 0))) t 1) 0 (m_ln h4 (m_rd (m_cpy h4 (m_rd h4 a1 1) 0 (m_rd h4 t 0) 0 (m_ln h4 (m_rd h4 t 0))) t 1))) t 2)]) (by decide +kernel) rfl hc ?_
  obtain ⟨hc, hF⟩ := gd_of hF
  refine RN.cp (i := 35) (by decide +kernel) rfl rfl hc.1 ?_
  exact RN.vR (by decide +kernel) rfl hF
noncomputable def FX5_join (a1 : Int) (a2 : Int) (a3 : Int) (h : MH) : Option (Int × MH) :=
  (if a1 = (-30) then
   some ((m_land a2 a3), h)
  else
  (if a1 = (-29) then
   (if 0 < (m_lcmp a2 a3) then
    some (1, h)
   else
    some (0, h))
  else
  (if a1 = (-28) then
   (if (m_lcmp a2 a3) < 0 then
    some (0, h)
   else
    some (1, h))
  else
  (if a1 = (-27) then
   (if (m_lcmp a2 a3) = 0 then
    some (1, h)
   else
    some (0, h))
  else
  (if a1 = (-26) then
   (if 0 < (m_lcmp a2 a3) then
    some (0, h)
   else
    some (1, h))
  else
  (if a1 = (-25) then
   (if (m_lcmp a2 a3) < 0 then
    some (1, h)
   else
    some (0, h))
  else
  (if a1 = (-24) then
   (if (m_lcmp a3 0) = 0 then
    some (0, h)
   else
    gd [(a3 : Int) ≠ 0] (
     some ((Int.tmod a2 a3), h)))
  else
  (if a1 = (-23) then
   (if (m_lcmp a3 0) = 0 then
    some (0, h)
   else
    gd [(a3 : Int) ≠ 0] (
     some ((m_w64 (Int.tdiv a2 a3)), h)))
  else
  (if a1 = (-22) then
   some ((m_w64 (a2 * a3)), h)
  else
  (if a1 = (-21) then
   some ((m_w64 (a2 - a3)), h)
  else
  (if a1 = (-20) then
   some ((m_w64 (a2 + a3)), h)
  else
   some ((m_lor a2 a3), h))))))))))))
theorem CX5_join {d : Nat} {a1 : Int} {a2 : Int} {a3 : Int} {h : MH} {r : Int × MH} (hF : FX5_join a1 a2 a3 h = some r) : RN xs L iX5_join (d) 0 (lvE 0 [.inl a1, .inr (.inl a2), .inr (.inl a3)]) [] h (RJo r) := by
  unfold FX5_join at hF
  refine RN.blk (ops := [(0, .iload_n 0)]) (pc' := 1) (lv' := [(0, .inl a1), (1, .inr (.inl a2)), (3, .inr (.inl a3))]) (st' := [.inl a1]) (h' := h) (cs := []) (by decide +kernel) rfl trivial ?_
  rcases it_of hF with ⟨hb0, hF⟩ | ⟨hb0, hF⟩
  · refine RN.tsw (dflt := 163) (lo := -30) (hi := -20) (offs := #[159, 147, 135, 123, 111, 99, 85, 71, 67, 63, 59]) (by decide +kernel) (RN.sth hb0 (tgt := 160) rfl ?_)
    refine RN.blk (ops := [(160, .lload_n 1), (161, .lload_n 3), (162, .land)]) (pc' := 163) (lv' := [(0, .inl a1), (1, .inr (.inl a2)), (3, .inr (.inl a3))]) (st' := [.inr (.inl (m_land a2 a3))]) (h' := h) (cs := []) (by decide +kernel) rfl trivial ?_
    exact RN.lR (by decide +kernel) rfl hF
  rcases it_of hF with ⟨hb1, hF⟩ | ⟨hb1, hF⟩
  · refine RN.tsw (dflt := 163) (lo := -30) (hi := -20) (offs := #[159, 147, 135, 123, 111, 99, 85, 71, 67, 63, 59]) (by decide +kernel) (RN.stm hb0 (RN.sth hb1 (tgt := 148) rfl ?_))
    refine RN.blk (ops := [(148, .lload_n 1), (149, .lload_n 3), (150, .lcmp)]) (pc' := 151) (lv' := [(0, .inl a1), (1, .inr (.inl a2)), (3, .inr (.inl a3))]) (st' := [.inl (m_lcmp a2 a3)]) (h' := h) (cs := []) (by decide +kernel) rfl trivial ?_
    rcases it_of hF with ⟨hb, hF⟩ | ⟨hb, hF⟩
    · refine RN.iff (cd := .le) (off := 7) (tgt := 158) (by decide +kernel) (mif_len hb) ?_
      refine RN.blk (ops := [(154, .lconst 1)]) (pc' := 155) (lv' := [(0, .inl a1), (1, .inr (.inl a2)), (3, .inr (.inl a3))]) (st' := [.inr (.inl 1)]) (h' := h) (cs := []) (by decide +kernel) rfl trivial ?_
      refine RN.goto (off := 4) (tgt := 159) (by decide +kernel) ?_
      exact RN.lR (by decide +kernel) rfl hF
    · refine RN.ift (cd := .le) (off := 7) (tgt := 158) (by decide +kernel) (mif_le hb) ?_
      refine RN.blk (ops := [(158, .lconst 0)]) (pc' := 159) (lv' := [(0, .inl a1), (1, .inr (.inl a2)), (3, .inr (.inl a3))]) (st' := [.inr (.inl 0)]) (h' := h) (cs := []) (by decide +kernel) rfl trivial ?_
      exact RN.lR (by decide +kernel) rfl hF
  rcases it_of hF with ⟨hb2, hF⟩ | ⟨hb2, hF⟩
  · refine RN.tsw (dflt := 163) (lo := -30) (hi := -20) (offs := #[159, 147, 135, 123, 111, 99, 85, 71, 67, 63, 59]) (by decide +kernel) (RN.stm hb0 (RN.stm hb1 (RN.sth hb2 (tgt := 136) rfl ?_)))
    refine RN.blk (ops := [(136, .lload_n 1), (137, .lload_n 3), (138, .lcmp)]) (pc' := 139) (lv' := [(0, .inl a1), (1, .inr (.inl a2)), (3, .inr (.inl a3))]) (st' := [.inl (m_lcmp a2 a3)]) (h' := h) (cs := []) (by decide +kernel) rfl trivial ?_
    rcases it_of hF with ⟨hb, hF⟩ | ⟨hb, hF⟩
    · refine RN.ift (cd := .lt) (off := 7) (tgt := 146) (by decide +kernel) (mif_lt hb) ?_
      refine RN.blk (ops := [(146, .lconst 0)]) (pc' := 147) (lv' := [(0, .inl a1), (1, .inr (.inl a2)), (3, .inr (.inl a3))]) (st' := [.inr (.inl 0)]) (h' := h) (cs := []) (by decide +kernel) rfl trivial ?_
      exact RN.lR (by decide +kernel) rfl hF
    · refine RN.iff (cd := .lt) (off := 7) (tgt := 146) (by decide +kernel) (mif_ltn hb) ?_
      refine RN.blk (ops := [(142, .lconst 1)]) (pc' := 143) (lv' := [(0, .inl a1), (1, .inr (.inl a2)), (3, .inr (.inl a3))]) (st' := [.inr (.inl 1)]) (h' := h) (cs := []) (by decide +kernel) rfl trivial ?_
      refine RN.goto (off := 4) (tgt := 147) (by decide +kernel) ?_
      exact RN.lR (by decide +kernel) rfl hF
  rcases it_of hF with ⟨hb3, hF⟩ | ⟨hb3, hF⟩
  · refine RN.tsw (dflt := 163) (lo := -30) (hi := -20) (offs := #[159, 147, 135, 123, 111, 99, 85, 71, 67, 63, 59]) (by decide +kernel) (RN.stm hb0 (RN.stm hb1 (RN.stm hb2 (RN.sth hb3 (tgt := 124) rfl ?_))))
    refine RN.blk (ops := [(124, .lload_n 1), (125, .lload_n 3), (126, .lcmp)]) (pc' := 127) (lv' := [(0, .inl a1), (1, .inr (.inl a2)), (3, .inr (.inl a3))]) (st' := [.inl (m_lcmp a2 a3)]) (h' := h) (cs := []) (by decide +kernel) rfl trivial ?_
    rcases it_of hF with ⟨hb, hF⟩ | ⟨hb, hF⟩
    · refine RN.iff (cd := .ne) (off := 7) (tgt := 134) (by decide +kernel) (mif_nen hb) ?_
      refine RN.blk (ops := [(130, .lconst 1)]) (pc' := 131) (lv' := [(0, .inl a1), (1, .inr (.inl a2)), (3, .inr (.inl a3))]) (st' := [.inr (.inl 1)]) (h' := h) (cs := []) (by decide +kernel) rfl trivial ?_
      refine RN.goto (off := 4) (tgt := 135) (by decide +kernel) ?_
      exact RN.lR (by decide +kernel) rfl hF
    · refine RN.ift (cd := .ne) (off := 7) (tgt := 134) (by decide +kernel) (mif_ne hb) ?_
      refine RN.blk (ops := [(134, .lconst 0)]) (pc' := 135) (lv' := [(0, .inl a1), (1, .inr (.inl a2)), (3, .inr (.inl a3))]) (st' := [.inr (.inl 0)]) (h' := h) (cs := []) (by decide +kernel) rfl trivial ?_
      exact RN.lR (by decide +kernel) rfl hF
  rcases it_of hF with ⟨hb4, hF⟩ | ⟨hb4, hF⟩
  · refine RN.tsw (dflt := 163) (lo := -30) (hi := -20) (offs := #[159, 147, 135, 123, 111, 99, 85, 71, 67, 63, 59]) (by decide +kernel) (RN.stm hb0 (RN.stm hb1 (RN.stm hb2 (RN.stm hb3 (RN.sth hb4 (tgt := 112) rfl ?_)))))
    refine RN.blk (ops := [(112, .lload_n 1), (113, .lload_n 3), (114, .lcmp)]) (pc' := 115) (lv' := [(0, .inl a1), (1, .inr (.inl a2)), (3, .inr (.inl a3))]) (st' := [.inl (m_lcmp a2 a3)]) (h' := h) (cs := []) (by decide +kernel) rfl trivial ?_
    rcases it_of hF with ⟨hb, hF⟩ | ⟨hb, hF⟩
    · refine RN.ift (cd := .gt) (off := 7) (tgt := 122) (by decide +kernel) (mif_gt hb) ?_
      refine RN.blk (ops := [(122, .lconst 0)]) (pc' := 123) (lv' := [(0, .inl a1), (1, .inr (.inl a2)), (3, .inr (.inl a3))]) (st' := [.inr (.inl 0)]) (h' := h) (cs := []) (by decide +kernel) rfl trivial ?_
      exact RN.lR (by decide +kernel) rfl hF
    · refine RN.iff (cd := .gt) (off := 7) (tgt := 122) (by decide +kernel) (mif_gtn hb) ?_
      refine RN.blk (ops := [(118, .lconst 1)]) (pc' := 119) (lv' := [(0, .inl a1), (1, .inr (.inl a2)), (3, .inr (.inl a3))]) (st' := [.inr (.inl 1)]) (h' := h) (cs := []) (by decide +kernel) rfl trivial ?_
      refine RN.goto (off := 4) (tgt := 123) (by decide +kernel) ?_
      exact RN.lR (by decide +kernel) rfl hF
  rcases it_of hF with ⟨hb5, hF⟩ | ⟨hb5, hF⟩
  · refine RN.tsw (dflt := 163) (lo := -30) (hi := -20) (offs := #[159, 147, 135, 123, 111, 99, 85, 71, 67, 63, 59]) (by decide +kernel) (RN.stm hb0 (RN.stm hb1 (RN.stm hb2 (RN.stm hb3 (RN.stm hb4 (RN.sth hb5 (tgt := 100) rfl ?_))))))
    refine RN.blk (ops := [(100, .lload_n 1), (101, .lload_n 3), (102, .lcmp)]) (pc' := 103) (lv' := [(0, .inl a1), (1, .inr (.inl a2)), (3, .inr (.inl a3))]) (st' := [.inl (m_lcmp a2 a3)]) (h' := h) (cs := []) (by decide +kernel) rfl trivial ?_
    rcases it_of hF with ⟨hb, hF⟩ | ⟨hb, hF⟩
    · refine RN.iff (cd := .ge) (off := 7) (tgt := 110) (by decide +kernel) (mif_gen hb) ?_
      refine RN.blk (ops := [(106, .lconst 1)]) (pc' := 107) (lv' := [(0, .inl a1), (1, .inr (.inl a2)), (3, .inr (.inl a3))]) (st' := [.inr (.inl 1)]) (h' := h) (cs := []) (by decide +kernel) rfl trivial ?_
      refine RN.goto (off := 4) (tgt := 111) (by decide +kernel) ?_
      exact RN.lR (by decide +kernel) rfl hF
    · refine RN.ift (cd := .ge) (off := 7) (tgt := 110) (by decide +kernel) (mif_ge hb) ?_
      refine RN.blk (ops := [(110, .lconst 0)]) (pc' := 111) (lv' := [(0, .inl a1), (1, .inr (.inl a2)), (3, .inr (.inl a3))]) (st' := [.inr (.inl 0)]) (h' := h) (cs := []) (by decide +kernel) rfl trivial ?_
      exact RN.lR (by decide +kernel) rfl hF
  rcases it_of hF with ⟨hb6, hF⟩ | ⟨hb6, hF⟩
  · refine RN.tsw (dflt := 163) (lo := -30) (hi := -20) (offs := #[159, 147, 135, 123, 111, 99, 85, 71, 67, 63, 59]) (by decide +kernel) (RN.stm hb0 (RN.stm hb1 (RN.stm hb2 (RN.stm hb3 (RN.stm hb4 (RN.stm hb5 (RN.sth hb6 (tgt := 86) rfl ?_)))))))
    refine RN.blk (ops := [(86, .lload_n 3), (87, .lconst 0), (88, .lcmp)]) (pc' := 89) (lv' := [(0, .inl a1), (1, .inr (.inl a2)), (3, .inr (.inl a3))]) (st' := [.inl (m_lcmp a3 0)]) (h' := h) (cs := []) (by decide +kernel) rfl trivial ?_
    rcases it_of hF with ⟨hb, hF⟩ | ⟨hb, hF⟩
    · refine RN.iff (cd := .ne) (off := 7) (tgt := 96) (by decide +kernel) (mif_nen hb) ?_
      refine RN.blk (ops := [(92, .lconst 0)]) (pc' := 93) (lv' := [(0, .inl a1), (1, .inr (.inl a2)), (3, .inr (.inl a3))]) (st' := [.inr (.inl 0)]) (h' := h) (cs := []) (by decide +kernel) rfl trivial ?_
      refine RN.goto (off := 6) (tgt := 99) (by decide +kernel) ?_
      exact RN.lR (by decide +kernel) rfl hF
    · refine RN.ift (cd := .ne) (off := 7) (tgt := 96) (by decide +kernel) (mif_ne hb) ?_
      obtain ⟨hc, hF⟩ := gd_of hF
      refine RN.blk (ops := [(96, .lload_n 1), (97, .lload_n 3), (98, .lrem)]) (pc' := 99) (lv' := [(0, .inl a1), (1, .inr (.inl a2)), (3, .inr (.inl a3))]) (st' := [.inr (.inl (Int.tmod a2 a3))]) (h' := h) (cs := [(a3 : Int) ≠ 0]) (by decide +kernel) rfl hc ?_
      exact RN.lR (by decide +kernel) rfl hF
  rcases it_of hF with ⟨hb7, hF⟩ | ⟨hb7, hF⟩
  · refine RN.tsw (dflt := 163) (lo := -30) (hi := -20) (offs := #[159, 147, 135, 123, 111, 99, 85, 71, 67, 63, 59]) (by decide +kernel) (RN.stm hb0 (RN.stm hb1 (RN.stm hb2 (RN.stm hb3 (RN.stm hb4 (RN.stm hb5 (RN.stm hb6 (RN.sth hb7 (tgt := 72) rfl ?_))))))))
    refine RN.blk (ops := [(72, .lload_n 3), (73, .lconst 0), (74, .lcmp)]) (pc' := 75) (lv' := [(0, .inl a1), (1, .inr (.inl a2)), (3, .inr (.inl a3))]) (st' := [.inl (m_lcmp a3 0)]) (h' := h) (cs := []) (by decide +kernel) rfl trivial ?_
    rcases it_of hF with ⟨hb, hF⟩ | ⟨hb, hF⟩
    · refine RN.iff (cd := .ne) (off := 7) (tgt := 82) (by decide +kernel) (mif_nen hb) ?_
      refine RN.blk (ops := [(78, .lconst 0)]) (pc' := 79) (lv' := [(0, .inl a1), (1, .inr (.inl a2)), (3, .inr (.inl a3))]) (st' := [.inr (.inl 0)]) (h' := h) (cs := []) (by decide +kernel) rfl trivial ?_
      refine RN.goto (off := 6) (tgt := 85) (by decide +kernel) ?_
      exact RN.lR (by decide +kernel) rfl hF
    · refine RN.ift (cd := .ne) (off := 7) (tgt := 82) (by decide +kernel) (mif_ne hb) ?_
      obtain ⟨hc, hF⟩ := gd_of hF
      refine RN.blk (ops := [(82, .lload_n 1), (83, .lload_n 3), (84, .ldiv)]) (pc' := 85) (lv' := [(0, .inl a1), (1, .inr (.inl a2)), (3, .inr (.inl a3))]) (st' := [.inr (.inl (m_w64 (Int.tdiv a2 a3)))]) (h' := h) (cs := [(a3 : Int) ≠ 0]) (by decide +kernel) rfl hc ?_
      exact RN.lR (by decide +kernel) rfl hF
  rcases it_of hF with ⟨hb8, hF⟩ | ⟨hb8, hF⟩
  · refine RN.tsw (dflt := 163) (lo := -30) (hi := -20) (offs := #[159, 147, 135, 123, 111, 99, 85, 71, 67, 63, 59]) (by decide +kernel) (RN.stm hb0 (RN.stm hb1 (RN.stm hb2 (RN.stm hb3 (RN.stm hb4 (RN.stm hb5 (RN.stm hb6 (RN.stm hb7 (RN.sth hb8 (tgt := 68) rfl ?_)))))))))
    refine RN.blk (ops := [(68, .lload_n 1), (69, .lload_n 3), (70, .lmul)]) (pc' := 71) (lv' := [(0, .inl a1), (1, .inr (.inl a2)), (3, .inr (.inl a3))]) (st' := [.inr (.inl (m_w64 (a2 * a3)))]) (h' := h) (cs := []) (by decide +kernel) rfl trivial ?_
    exact RN.lR (by decide +kernel) rfl hF
  rcases it_of hF with ⟨hb9, hF⟩ | ⟨hb9, hF⟩
  · refine RN.tsw (dflt := 163) (lo := -30) (hi := -20) (offs := #[159, 147, 135, 123, 111, 99, 85, 71, 67, 63, 59]) (by decide +kernel) (RN.stm hb0 (RN.stm hb1 (RN.stm hb2 (RN.stm hb3 (RN.stm hb4 (RN.stm hb5 (RN.stm hb6 (RN.stm hb7 (RN.stm hb8 (RN.sth hb9 (tgt := 64) rfl ?_))))))))))
    refine RN.blk (ops := [(64, .lload_n 1), (65, .lload_n 3), (66, .lsub)]) (pc' := 67) (lv' := [(0, .inl a1), (1, .inr (.inl a2)), (3, .inr (.inl a3))]) (st' := [.inr (.inl (m_w64 (a2 - a3)))]) (h' := h) (cs := []) (by decide +kernel) rfl trivial ?_
    exact RN.lR (by decide +kernel) rfl hF
  rcases it_of hF with ⟨hb10, hF⟩ | ⟨hb10, hF⟩
  · refine RN.tsw (dflt := 163) (lo := -30) (hi := -20) (offs := #[159, 147, 135, 123, 111, 99, 85, 71, 67, 63, 59]) (by decide +kernel) (RN.stm hb0 (RN.stm hb1 (RN.stm hb2 (RN.stm hb3 (RN.stm hb4 (RN.stm hb5 (RN.stm hb6 (RN.stm hb7 (RN.stm hb8 (RN.stm hb9 (RN.sth hb10 (tgt := 60) rfl ?_)))))))))))
    refine RN.blk (ops := [(60, .lload_n 1), (61, .lload_n 3), (62, .ladd)]) (pc' := 63) (lv' := [(0, .inl a1), (1, .inr (.inl a2)), (3, .inr (.inl a3))]) (st' := [.inr (.inl (m_w64 (a2 + a3)))]) (h' := h) (cs := []) (by decide +kernel) rfl trivial ?_
    exact RN.lR (by decide +kernel) rfl hF
  refine RN.tsw (dflt := 163) (lo := -30) (hi := -20) (offs := #[159, 147, 135, 123, 111, 99, 85, 71, 67, 63, 59]) (by decide +kernel) (RN.stm hb0 (RN.stm hb1 (RN.stm hb2 (RN.stm hb3 (RN.stm hb4 (RN.stm hb5 (RN.stm hb6 (RN.stm hb7 (RN.stm hb8 (RN.stm hb9 (RN.stm hb10 (RN.std (tgt := 164) rfl ?_))))))))))))
  refine RN.blk (ops := [(164, .lload_n 1), (165, .lload_n 3), (166, .lor)]) (pc' := 167) (lv' := [(0, .inl a1), (1, .inr (.inl a2)), (3, .inr (.inl a3))]) (st' := [.inr (.inl (m_lor a2 a3))]) (h' := h) (cs := []) (by decide +kernel) rfl trivial ?_
  exact RN.lR (by decide +kernel) rfl hF
noncomputable def FX5_run_L6 (u0 : Int) (u2 : Int) (u3 : Int) (K0 : Int → MH → Option (Int × MH)) : Nat → Int → Int → MH → Option (Int × MH)
  | 0, _, _, _ => none
  | f + 1, v4, v5, h =>
    (if v5 < u2 then
     gd [GK h u0 5, GL h (m_rd h u0 0)] (
      (if v5 < (m_ln h (m_rd h u0 0)) then
       gd [GK h u0 5, GI h (m_rd h u0 0) 1 v5] (
        (if (m_rd h (m_rd h u0 0) v5) < (-11) then
         (if (m_rd h (m_rd h u0 0) v5) = (-32) then
          (if v4 < 1 then
           FX5_run_L6 u0 u2 u3 K0 f v4 (m_w32 (v5 + 1)) h
          else
           gd [GK h u0 5, GK h u0 5, GI h (m_rd h u0 3) 2 (m_w32 (v4 - 1))] (
            (if (m_lcmp (m_rd h (m_rd h u0 3) (m_w32 (v4 - 1))) 0) = 0 then
             gd [GI h (m_rd h u0 3) 2 (m_w32 (v4 - 1))] (
              FX5_run_L6 u0 u2 u3 K0 f v4 (m_w32 (v5 + 1)) (m_wr h (m_rd h u0 3) (m_w32 (v4 - 1)) 1))
            else
             gd [GI h (m_rd h u0 3) 2 (m_w32 (v4 - 1))] (
              FX5_run_L6 u0 u2 u3 K0 f v4 (m_w32 (v5 + 1)) (m_wr h (m_rd h u0 3) (m_w32 (v4 - 1)) 0)))))
         else
          (if v4 < 2 then
           FX5_run_L6 u0 u2 u3 K0 f v4 (m_w32 (v5 + 1)) h
          else
           gd [GK h u0 5, GK h u0 5, GI h (m_rd h u0 3) 2 (m_w32 ((m_w32 (v4 + (-1))) - 1)), GK h u0 5, GI h (m_rd h u0 3) 2 (m_w32 (v4 + (-1)))] (
            (bd (FX5_join (m_rd h (m_rd h u0 0) v5) (m_rd h (m_rd h u0 3) (m_w32 ((m_w32 (v4 + (-1))) - 1))) (m_rd h (m_rd h u0 3) (m_w32 (v4 + (-1)))) h) (fun x2 h1 =>
             gd [GI h1 (m_rd h u0 3) 2 (m_w32 ((m_w32 (v4 + (-1))) - 1))] (
              FX5_run_L6 u0 u2 u3 K0 f (m_w32 (v4 + (-1))) (m_w32 (v5 + 1)) (m_wr h1 (m_rd h u0 3) (m_w32 ((m_w32 (v4 + (-1))) - 1)) x2)))))))
        else
         gd [GK h u0 5, GL h (m_rd h u0 3)] (
          (if v4 < (m_ln h (m_rd h u0 3)) then
           gd [GK h u0 5] (
            (if (m_rd h (m_rd h u0 0) v5) < 0 then
             gd [GI h u3 2 (m_w32 ((-1) - (m_rd h (m_rd h u0 0) v5)))] (
              gd [GI h (m_rd h u0 3) 2 v4] (
               hl (m_wr h (m_rd h u0 3) v4 (m_rd h u3 (m_w32 ((-1) - (m_rd h (m_rd h u0 0) v5))))) (fun h3 =>
                FX5_run_L6 u0 u2 u3 K0 f (m_w32 (v4 + 1)) (m_w32 (v5 + 1)) h3)))
            else
             gd [GI h (m_rd h u0 3) 2 v4] (
              FX5_run_L6 u0 u2 u3 K0 f (m_w32 (v4 + 1)) (m_w32 (v5 + 1)) (m_wr h (m_rd h u0 3) v4 (m_rd h (m_rd h u0 0) v5)))))
          else
           FX5_run_L6 u0 u2 u3 K0 f v4 (m_w32 (v5 + 1)) h))))
      else
       K0 v4 h))
    else
     K0 v4 h)
theorem CX5_run_L6 {d : Nat} {u0 : Int} {u2 : Int} {u3 : Int} {K0 : Int → MH → Option (Int × MH)} {r : Int × MH} (hK0 : ∀ (w4 : Int) (h : MH), K0 w4 h = some r → RN xs L iX5_run (d + 1) 167 [(0, .inr (.inr u0)), (4, .inl w4)] [] h (RJo r)) : ∀ (f : Nat) (v4 : Int) (v5 : Int) (h : MH), FX5_run_L6 u0 u2 u3 K0 f v4 v5 h = some r → RN xs L iX5_run (d + 1) 6 [(0, .inr (.inr u0)), (2, .inl u2), (3, .inr (.inr u3)), (4, .inl v4), (5, .inl v5)] [] h (RJo r) := by
  intro f
  induction f with
  | zero =>
    intro v4 v5 h hF
    cases hF
  | succ f ih =>
    intro v4 v5 h hF
    unfold FX5_run_L6 at hF
    refine RN.blk (ops := [(6, .iload 5), (8, .iload_n 2)]) (pc' := 9) (lv' := [(0, .inr (.inr u0)), (2, .inl u2), (3, .inr (.inr u3)), (4, .inl v4), (5, .inl v5)]) (st' := [.inl u2, .inl v5]) (h' := h) (cs := []) (by decide +kernel) rfl trivial ?_
    rcases it_of hF with ⟨hb, hF⟩ | ⟨hb, hF⟩
    · refine RN.icf (cd := .ge) (off := 158) (tgt := 167) (by decide +kernel) (mif_gen hb) ?_
      obtain ⟨hc, hF⟩ := gd_of hF
      refine RN.blk (ops := [(12, .iload 5), (14, .aload_n 0), (15, .getfield 21), (18, .arraylength)]) (pc' := 19) (lv' := [(0, .inr (.inr u0)), (2, .inl u2), (3, .inr (.inr u3)), (4, .inl v4), (5, .inl v5)]) (st' := [.inl (m_ln h (m_rd h u0 0)), .inl v5]) (h' := h) (cs := [GK h u0 5, GL h (m_rd h u0 0)]) (by decide +kernel) rfl hc ?_
      rcases it_of hF with ⟨hb, hF⟩ | ⟨hb, hF⟩
      · refine RN.icf (cd := .ge) (off := 148) (tgt := 167) (by decide +kernel) (mif_gen hb) ?_
        obtain ⟨hc, hF⟩ := gd_of hF
        refine RN.blk (ops := [(22, .aload_n 0), (23, .getfield 21), (26, .iload 5), (28, .iaload), (29, .istore 6), (31, .iload 6), (33, .bipush (-11))]) (pc' := 35) (lv' := [(6, .inl (m_rd h (m_rd h u0 0) v5)), (0, .inr (.inr u0)), (2, .inl u2), (3, .inr (.inr u3)), (4, .inl v4), (5, .inl v5)]) (st' := [.inl (-11), .inl (m_rd h (m_rd h u0 0) v5)]) (h' := h) (cs := [GK h u0 5, GI h (m_rd h u0 0) 1 v5]) (by decide +kernel) rfl hc ?_
        rcases it_of hF with ⟨hb, hF⟩ | ⟨hb, hF⟩
        · refine RN.ict (cd := .lt) (off := 43) (tgt := 78) (by decide +kernel) (mif_lt hb) ?_
          refine RN.blk (ops := [(78, .iload 6), (80, .bipush (-32))]) (pc' := 82) (lv' := [(6, .inl (m_rd h (m_rd h u0 0) v5)), (0, .inr (.inr u0)), (2, .inl u2), (3, .inr (.inr u3)), (4, .inl v4), (5, .inl v5)]) (st' := [.inl (-32), .inl (m_rd h (m_rd h u0 0) v5)]) (h' := h) (cs := []) (by decide +kernel) rfl trivial ?_
          rcases it_of hF with ⟨hb, hF⟩ | ⟨hb, hF⟩
          · refine RN.icf (cd := .ne) (off := 40) (tgt := 122) (by decide +kernel) (mif_nen hb) ?_
            refine RN.blk (ops := [(85, .iload 4), (87, .iconst 1)]) (pc' := 88) (lv' := [(6, .inl (m_rd h (m_rd h u0 0) v5)), (0, .inr (.inr u0)), (2, .inl u2), (3, .inr (.inr u3)), (4, .inl v4), (5, .inl v5)]) (st' := [.inl 1, .inl v4]) (h' := h) (cs := []) (by decide +kernel) rfl trivial ?_
            rcases it_of hF with ⟨hb, hF⟩ | ⟨hb, hF⟩
            · refine RN.ict (cd := .lt) (off := 73) (tgt := 161) (by decide +kernel) (mif_lt hb) ?_
              refine RN.blk (ops := [(161, .iinc 5 1)]) (pc' := 164) (lv' := [(5, .inl (m_w32 (v5 + 1))), (6, .inl (m_rd h (m_rd h u0 0) v5)), (0, .inr (.inr u0)), (2, .inl u2), (3, .inr (.inr u3)), (4, .inl v4)]) (st' := []) (h' := h) (cs := []) (by decide +kernel) rfl trivial ?_
              refine RN.goto (off := -158) (tgt := 6) (by decide +kernel) ?_
              exact RN.sub (ih _ _ _ hF) (sub_cons rfl (sub_cons rfl (sub_cons rfl (sub_cons rfl (sub_cons rfl sub_nil)))))
            · refine RN.icf (cd := .lt) (off := 73) (tgt := 161) (by decide +kernel) (mif_ltn hb) ?_
              obtain ⟨hc, hF⟩ := gd_of hF
              refine RN.blk (ops := [(91, .aload_n 0), (92, .getfield 9), (95, .iload 4), (97, .iconst 1), (98, .isub), (99, .aload_n 0), (100, .getfield 9), (103, .iload 4), (105, .iconst 1), (106, .isub), (107, .laload), (108, .lconst 0), (109, .lcmp)]) (pc' := 110) (lv' := [(6, .inl (m_rd h (m_rd h u0 0) v5)), (0, .inr (.inr u0)), (2, .inl u2), (3, .inr (.inr u3)), (4, .inl v4), (5, .inl v5)]) (st' := [.inl (m_lcmp (m_rd h (m_rd h u0 3) (m_w32 (v4 - 1))) 0), .inl (m_w32 (v4 - 1)), .inr (.inr (m_rd h u0 3))]) (h' := h) (cs := [GK h u0 5, GK h u0 5, GI h (m_rd h u0 3) 2 (m_w32 (v4 - 1))]) (by decide +kernel) rfl hc ?_
              rcases it_of hF with ⟨hb, hF⟩ | ⟨hb, hF⟩
              · refine RN.iff (cd := .ne) (off := 7) (tgt := 117) (by decide +kernel) (mif_nen hb) ?_
                refine RN.blk (ops := [(113, .lconst 1)]) (pc' := 114) (lv' := [(6, .inl (m_rd h (m_rd h u0 0) v5)), (0, .inr (.inr u0)), (2, .inl u2), (3, .inr (.inr u3)), (4, .inl v4), (5, .inl v5)]) (st' := [.inr (.inl 1), .inl (m_w32 (v4 - 1)), .inr (.inr (m_rd h u0 3))]) (h' := h) (cs := []) (by decide +kernel) rfl trivial ?_
                refine RN.goto (off := 4) (tgt := 118) (by decide +kernel) ?_
                obtain ⟨hc, hF⟩ := gd_of hF
                refine RN.blk (ops := [(118, .lastore)]) (pc' := 119) (lv' := [(6, .inl (m_rd h (m_rd h u0 0) v5)), (0, .inr (.inr u0)), (2, .inl u2), (3, .inr (.inr u3)), (4, .inl v4), (5, .inl v5)]) (st' := []) (h' := (m_wr h (m_rd h u0 3) (m_w32 (v4 - 1)) 1)) (cs := [GI h (m_rd h u0 3) 2 (m_w32 (v4 - 1))]) (by decide +kernel) rfl hc ?_
                refine RN.goto (off := 42) (tgt := 161) (by decide +kernel) ?_
                refine RN.blk (ops := [(161, .iinc 5 1)]) (pc' := 164) (lv' := [(5, .inl (m_w32 (v5 + 1))), (6, .inl (m_rd h (m_rd h u0 0) v5)), (0, .inr (.inr u0)), (2, .inl u2), (3, .inr (.inr u3)), (4, .inl v4)]) (st' := []) (h' := (m_wr h (m_rd h u0 3) (m_w32 (v4 - 1)) 1)) (cs := []) (by decide +kernel) rfl trivial ?_
                refine RN.goto (off := -158) (tgt := 6) (by decide +kernel) ?_
                exact RN.sub (ih _ _ _ hF) (sub_cons rfl (sub_cons rfl (sub_cons rfl (sub_cons rfl (sub_cons rfl sub_nil)))))
              · refine RN.ift (cd := .ne) (off := 7) (tgt := 117) (by decide +kernel) (mif_ne hb) ?_
                refine RN.blk (ops := [(117, .lconst 0)]) (pc' := 118) (lv' := [(6, .inl (m_rd h (m_rd h u0 0) v5)), (0, .inr (.inr u0)), (2, .inl u2), (3, .inr (.inr u3)), (4, .inl v4), (5, .inl v5)]) (st' := [.inr (.inl 0), .inl (m_w32 (v4 - 1)), .inr (.inr (m_rd h u0 3))]) (h' := h) (cs := []) (by decide +kernel) rfl trivial ?_
                obtain ⟨hc, hF⟩ := gd_of hF
                refine RN.blk (ops := [(118, .lastore)]) (pc' := 119) (lv' := [(6, .inl (m_rd h (m_rd h u0 0) v5)), (0, .inr (.inr u0)), (2, .inl u2), (3, .inr (.inr u3)), (4, .inl v4), (5, .inl v5)]) (st' := []) (h' := (m_wr h (m_rd h u0 3) (m_w32 (v4 - 1)) 0)) (cs := [GI h (m_rd h u0 3) 2 (m_w32 (v4 - 1))]) (by decide +kernel) rfl hc ?_
                refine RN.goto (off := 42) (tgt := 161) (by decide +kernel) ?_
                refine RN.blk (ops := [(161, .iinc 5 1)]) (pc' := 164) (lv' := [(5, .inl (m_w32 (v5 + 1))), (6, .inl (m_rd h (m_rd h u0 0) v5)), (0, .inr (.inr u0)), (2, .inl u2), (3, .inr (.inr u3)), (4, .inl v4)]) (st' := []) (h' := (m_wr h (m_rd h u0 3) (m_w32 (v4 - 1)) 0)) (cs := []) (by decide +kernel) rfl trivial ?_
                refine RN.goto (off := -158) (tgt := 6) (by decide +kernel) ?_
                exact RN.sub (ih _ _ _ hF) (sub_cons rfl (sub_cons rfl (sub_cons rfl (sub_cons rfl (sub_cons rfl sub_nil)))))
          · refine RN.ict (cd := .ne) (off := 40) (tgt := 122) (by decide +kernel) (mif_ne hb) ?_
            refine RN.blk (ops := [(122, .iload 4), (124, .iconst 2)]) (pc' := 125) (lv' := [(6, .inl (m_rd h (m_rd h u0 0) v5)), (0, .inr (.inr u0)), (2, .inl u2), (3, .inr (.inr u3)), (4, .inl v4), (5, .inl v5)]) (st' := [.inl 2, .inl v4]) (h' := h) (cs := []) (by decide +kernel) rfl trivial ?_
            rcases it_of hF with ⟨hb, hF⟩ | ⟨hb, hF⟩
            · refine RN.ict (cd := .lt) (off := 36) (tgt := 161) (by decide +kernel) (mif_lt hb) ?_
              refine RN.blk (ops := [(161, .iinc 5 1)]) (pc' := 164) (lv' := [(5, .inl (m_w32 (v5 + 1))), (6, .inl (m_rd h (m_rd h u0 0) v5)), (0, .inr (.inr u0)), (2, .inl u2), (3, .inr (.inr u3)), (4, .inl v4)]) (st' := []) (h' := h) (cs := []) (by decide +kernel) rfl trivial ?_
              refine RN.goto (off := -158) (tgt := 6) (by decide +kernel) ?_
              exact RN.sub (ih _ _ _ hF) (sub_cons rfl (sub_cons rfl (sub_cons rfl (sub_cons rfl (sub_cons rfl sub_nil)))))
            · refine RN.icf (cd := .lt) (off := 36) (tgt := 161) (by decide +kernel) (mif_ltn hb) ?_
              obtain ⟨hc, hF⟩ := gd_of hF
              refine RN.blk (ops := [(128, .iinc 4 (-1)), (131, .aload_n 0), (132, .getfield 9), (135, .iload 4), (137, .iconst 1), (138, .isub), (139, .iload 6), (141, .aload_n 0), (142, .getfield 9), (145, .iload 4), (147, .iconst 1), (148, .isub), (149, .laload), (150, .aload_n 0), (151, .getfield 9), (154, .iload 4), (156, .laload)]) (pc' := 157) (lv' := [(4, .inl (m_w32 (v4 + (-1)))), (6, .inl (m_rd h (m_rd h u0 0) v5)), (0, .inr (.inr u0)), (2, .inl u2), (3, .inr (.inr u3)), (5, .inl v5)]) (st' := [.inr (.inl (m_rd h (m_rd h u0 3) (m_w32 (v4 + (-1))))), .inr (.inl (m_rd h (m_rd h u0 3) (m_w32 ((m_w32 (v4 + (-1))) - 1)))), .inl (m_rd h (m_rd h u0 0) v5), .inl (m_w32 ((m_w32 (v4 + (-1))) - 1)), .inr (.inr (m_rd h u0 3))]) (h' := h) (cs := [GK h u0 5, GK h u0 5, GI h (m_rd h u0 3) 2 (m_w32 ((m_w32 (v4 + (-1))) - 1)), GK h u0 5, GI h (m_rd h u0 3) 2 (m_w32 (v4 + (-1)))]) (by decide +kernel) rfl hc ?_
              obtain ⟨x2, h1, hG, hF⟩ := bd_of hF
              refine RN.cst (i := 47) (k := 54) (q2 := iX5_join) (as := [.inl (m_rd h (m_rd h u0 0) v5), .inr (.inl (m_rd h (m_rd h u0 3) (m_w32 ((m_w32 (v4 + (-1))) - 1)))), .inr (.inl (m_rd h (m_rd h u0 3) (m_w32 (v4 + (-1)))))]) (r := [.inl (m_w32 ((m_w32 (v4 + (-1))) - 1)), .inr (.inr (m_rd h u0 3))]) (v := some (.inr (.inl x2))) (h1 := h1) (by decide +kernel) rfl rfl rfl rfl rfl (CX5_join (d := d) hG) ?_
              obtain ⟨hc, hF⟩ := gd_of hF
              refine RN.blk (ops := [(160, .lastore)]) (pc' := 161) (lv' := [(4, .inl (m_w32 (v4 + (-1)))), (6, .inl (m_rd h (m_rd h u0 0) v5)), (0, .inr (.inr u0)), (2, .inl u2), (3, .inr (.inr u3)), (5, .inl v5)]) (st' := []) (h' := (m_wr h1 (m_rd h u0 3) (m_w32 ((m_w32 (v4 + (-1))) - 1)) x2)) (cs := [GI h1 (m_rd h u0 3) 2 (m_w32 ((m_w32 (v4 + (-1))) - 1))]) (by decide +kernel) rfl hc ?_
              refine RN.blk (ops := [(161, .iinc 5 1)]) (pc' := 164) (lv' := [(5, .inl (m_w32 (v5 + 1))), (4, .inl (m_w32 (v4 + (-1)))), (6, .inl (m_rd h (m_rd h u0 0) v5)), (0, .inr (.inr u0)), (2, .inl u2), (3, .inr (.inr u3))]) (st' := []) (h' := (m_wr h1 (m_rd h u0 3) (m_w32 ((m_w32 (v4 + (-1))) - 1)) x2)) (cs := []) (by decide +kernel) rfl trivial ?_
              refine RN.goto (off := -158) (tgt := 6) (by decide +kernel) ?_
              exact RN.sub (ih _ _ _ hF) (sub_cons rfl (sub_cons rfl (sub_cons rfl (sub_cons rfl (sub_cons rfl sub_nil)))))
        · refine RN.icf (cd := .lt) (off := 43) (tgt := 78) (by decide +kernel) (mif_ltn hb) ?_
          obtain ⟨hc, hF⟩ := gd_of hF
          refine RN.blk (ops := [(38, .iload 4), (40, .aload_n 0), (41, .getfield 9), (44, .arraylength)]) (pc' := 45) (lv' := [(6, .inl (m_rd h (m_rd h u0 0) v5)), (0, .inr (.inr u0)), (2, .inl u2), (3, .inr (.inr u3)), (4, .inl v4), (5, .inl v5)]) (st' := [.inl (m_ln h (m_rd h u0 3)), .inl v4]) (h' := h) (cs := [GK h u0 5, GL h (m_rd h u0 3)]) (by decide +kernel) rfl hc ?_
          rcases it_of hF with ⟨hb, hF⟩ | ⟨hb, hF⟩
          · refine RN.icf (cd := .ge) (off := 116) (tgt := 161) (by decide +kernel) (mif_gen hb) ?_
            obtain ⟨hc, hF⟩ := gd_of hF
            refine RN.blk (ops := [(48, .aload_n 0), (49, .getfield 9), (52, .iload 4), (54, .iload 6)]) (pc' := 56) (lv' := [(6, .inl (m_rd h (m_rd h u0 0) v5)), (0, .inr (.inr u0)), (2, .inl u2), (3, .inr (.inr u3)), (4, .inl v4), (5, .inl v5)]) (st' := [.inl (m_rd h (m_rd h u0 0) v5), .inl v4, .inr (.inr (m_rd h u0 3))]) (h' := h) (cs := [GK h u0 5]) (by decide +kernel) rfl hc ?_
            rcases it_of hF with ⟨hb, hF⟩ | ⟨hb, hF⟩
            · refine RN.ift (cd := .lt) (off := 9) (tgt := 65) (by decide +kernel) (mif_lt hb) ?_
              obtain ⟨hc, hF⟩ := gd_of hF
              refine RN.blk (ops := [(65, .aload_n 3), (66, .iconst (-1)), (67, .iload 6), (69, .isub), (70, .laload)]) (pc' := 71) (lv' := [(6, .inl (m_rd h (m_rd h u0 0) v5)), (0, .inr (.inr u0)), (2, .inl u2), (3, .inr (.inr u3)), (4, .inl v4), (5, .inl v5)]) (st' := [.inr (.inl (m_rd h u3 (m_w32 ((-1) - (m_rd h (m_rd h u0 0) v5))))), .inl v4, .inr (.inr (m_rd h u0 3))]) (h' := h) (cs := [GI h u3 2 (m_w32 ((-1) - (m_rd h (m_rd h u0 0) v5)))]) (by decide +kernel) rfl hc ?_
              obtain ⟨hc, hF⟩ := gd_of hF
              refine RN.blk (ops := [(71, .lastore)]) (pc' := 72) (lv' := [(6, .inl (m_rd h (m_rd h u0 0) v5)), (0, .inr (.inr u0)), (2, .inl u2), (3, .inr (.inr u3)), (4, .inl v4), (5, .inl v5)]) (st' := []) (h' := (m_wr h (m_rd h u0 3) v4 (m_rd h u3 (m_w32 ((-1) - (m_rd h (m_rd h u0 0) v5)))))) (cs := [GI h (m_rd h u0 3) 2 v4]) (by decide +kernel) rfl hc ?_
              obtain ⟨h3, he, hF⟩ := hl_of hF
              refine RN.hl he ?_
              refine RN.blk (ops := [(72, .iinc 4 1)]) (pc' := 75) (lv' := [(4, .inl (m_w32 (v4 + 1))), (6, .inl (m_rd h (m_rd h u0 0) v5)), (0, .inr (.inr u0)), (2, .inl u2), (3, .inr (.inr u3)), (5, .inl v5)]) (st' := []) (h' := h3) (cs := []) (by decide +kernel) rfl trivial ?_
              refine RN.goto (off := 86) (tgt := 161) (by decide +kernel) ?_
              refine RN.blk (ops := [(161, .iinc 5 1)]) (pc' := 164) (lv' := [(5, .inl (m_w32 (v5 + 1))), (4, .inl (m_w32 (v4 + 1))), (6, .inl (m_rd h (m_rd h u0 0) v5)), (0, .inr (.inr u0)), (2, .inl u2), (3, .inr (.inr u3))]) (st' := []) (h' := h3) (cs := []) (by decide +kernel) rfl trivial ?_
              refine RN.goto (off := -158) (tgt := 6) (by decide +kernel) ?_
              exact RN.sub (ih _ _ _ hF) (sub_cons rfl (sub_cons rfl (sub_cons rfl (sub_cons rfl (sub_cons rfl sub_nil)))))
            · refine RN.iff (cd := .lt) (off := 9) (tgt := 65) (by decide +kernel) (mif_ltn hb) ?_
              refine RN.blk (ops := [(59, .iload 6), (61, .i2l)]) (pc' := 62) (lv' := [(6, .inl (m_rd h (m_rd h u0 0) v5)), (0, .inr (.inr u0)), (2, .inl u2), (3, .inr (.inr u3)), (4, .inl v4), (5, .inl v5)]) (st' := [.inr (.inl (m_rd h (m_rd h u0 0) v5)), .inl v4, .inr (.inr (m_rd h u0 3))]) (h' := h) (cs := []) (by decide +kernel) rfl trivial ?_
              refine RN.goto (off := 9) (tgt := 71) (by decide +kernel) ?_
              obtain ⟨hc, hF⟩ := gd_of hF
              refine RN.blk (ops := [(71, .lastore), (72, .iinc 4 1)]) (pc' := 75) (lv' := [(4, .inl (m_w32 (v4 + 1))), (6, .inl (m_rd h (m_rd h u0 0) v5)), (0, .inr (.inr u0)), (2, .inl u2), (3, .inr (.inr u3)), (5, .inl v5)]) (st' := []) (h' := (m_wr h (m_rd h u0 3) v4 (m_rd h (m_rd h u0 0) v5))) (cs := [GI h (m_rd h u0 3) 2 v4]) (by decide +kernel) rfl hc ?_
              refine RN.goto (off := 86) (tgt := 161) (by decide +kernel) ?_
              refine RN.blk (ops := [(161, .iinc 5 1)]) (pc' := 164) (lv' := [(5, .inl (m_w32 (v5 + 1))), (4, .inl (m_w32 (v4 + 1))), (6, .inl (m_rd h (m_rd h u0 0) v5)), (0, .inr (.inr u0)), (2, .inl u2), (3, .inr (.inr u3))]) (st' := []) (h' := (m_wr h (m_rd h u0 3) v4 (m_rd h (m_rd h u0 0) v5))) (cs := []) (by decide +kernel) rfl trivial ?_
              refine RN.goto (off := -158) (tgt := 6) (by decide +kernel) ?_
              exact RN.sub (ih _ _ _ hF) (sub_cons rfl (sub_cons rfl (sub_cons rfl (sub_cons rfl (sub_cons rfl sub_nil)))))
          · refine RN.ict (cd := .ge) (off := 116) (tgt := 161) (by decide +kernel) (mif_ge hb) ?_
            refine RN.blk (ops := [(161, .iinc 5 1)]) (pc' := 164) (lv' := [(5, .inl (m_w32 (v5 + 1))), (6, .inl (m_rd h (m_rd h u0 0) v5)), (0, .inr (.inr u0)), (2, .inl u2), (3, .inr (.inr u3)), (4, .inl v4)]) (st' := []) (h' := h) (cs := []) (by decide +kernel) rfl trivial ?_
            refine RN.goto (off := -158) (tgt := 6) (by decide +kernel) ?_
            exact RN.sub (ih _ _ _ hF) (sub_cons rfl (sub_cons rfl (sub_cons rfl (sub_cons rfl (sub_cons rfl sub_nil)))))
      · refine RN.ict (cd := .ge) (off := 148) (tgt := 167) (by decide +kernel) (mif_ge hb) ?_
        exact RN.sub (hK0 _ _ hF) (sub_cons rfl (sub_cons rfl sub_nil))
    · refine RN.ict (cd := .ge) (off := 158) (tgt := 167) (by decide +kernel) (mif_ge hb) ?_
      exact RN.sub (hK0 _ _ hF) (sub_cons rfl (sub_cons rfl sub_nil))
noncomputable def FX5_run (t : Int) (a1 : Int) (a2 : Int) (a3 : Int) (h : MH) : Option (Int × MH) :=
  FX5_run_L6 t a2 a3 (fun w1 h2 =>
   (if 0 < w1 then
    gd [GK h2 t 5, GI h2 (m_rd h2 t 3) 2 0] (
     some ((m_rd h2 (m_rd h2 t 3) 0), h2))
   else
    some (0, h2))) FU 0 a1 h
theorem CX5_run {d : Nat} {t : Int} {a1 : Int} {a2 : Int} {a3 : Int} {h : MH} {r : Int × MH} (hF : FX5_run t a1 a2 a3 h = some r) : RN xs L iX5_run (d + 1) 0 (lvE 0 [.inr (.inr t), .inl a1, .inl a2, .inr (.inr a3)]) [] h (RJo r) := by
  unfold FX5_run at hF
  refine RN.blk (ops := [(0, .iconst 0), (1, .istore 4), (3, .iload_n 1), (4, .istore 5)]) (pc' := 6) (lv' := [(5, .inl a1), (4, .inl 0), (0, .inr (.inr t)), (1, .inl a1), (2, .inl a2), (3, .inr (.inr a3))]) (st' := []) (h' := h) (cs := []) (by decide +kernel) rfl trivial ?_
  refine RN.sub (CX5_run_L6 ?_ _ _ _ _ hF) (sub_cons rfl (sub_cons rfl (sub_cons rfl (sub_cons rfl (sub_cons rfl sub_nil)))))
  · intro w1 h2 hF
    refine RN.blk (ops := [(167, .iload 4)]) (pc' := 169) (lv' := [(0, .inr (.inr t)), (4, .inl w1)]) (st' := [.inl w1]) (h' := h2) (cs := []) (by decide +kernel) rfl trivial ?_
    rcases it_of hF with ⟨hb, hF⟩ | ⟨hb, hF⟩
    · refine RN.iff (cd := .le) (off := 12) (tgt := 181) (by decide +kernel) (mif_len hb) ?_
      obtain ⟨hc, hF⟩ := gd_of hF
      refine RN.blk (ops := [(172, .aload_n 0), (173, .getfield 9), (176, .iconst 0), (177, .laload)]) (pc' := 178) (lv' := [(0, .inr (.inr t)), (4, .inl w1)]) (st' := [.inr (.inl (m_rd h2 (m_rd h2 t 3) 0))]) (h' := h2) (cs := [GK h2 t 5, GI h2 (m_rd h2 t 3) 2 0]) (by decide +kernel) rfl hc ?_
      refine RN.goto (off := 4) (tgt := 182) (by decide +kernel) ?_
      exact RN.lR (by decide +kernel) rfl hF
    · refine RN.ift (cd := .le) (off := 12) (tgt := 181) (by decide +kernel) (mif_le hb) ?_
      refine RN.blk (ops := [(181, .lconst 0)]) (pc' := 182) (lv' := [(0, .inr (.inr t)), (4, .inl w1)]) (st' := [.inr (.inl 0)]) (h' := h2) (cs := []) (by decide +kernel) rfl trivial ?_
      exact RN.lR (by decide +kernel) rfl hF
noncomputable def FX5_worth_L4 (u0 : Int) (u1 : Int) (K0 : Int → Int → MH → Option (Int × MH)) (K1 : MH → Option (Int × MH)) : Nat → Int → Int → MH → Option (Int × MH)
  | 0, _, _, _ => none
  | f + 1, v2, v3, h =>
    gd [GK h u0 5, GL h (m_rd h u0 1)] (
     (if v3 < (m_ln h (m_rd h u0 1)) then
      gd [GK h u0 5, GI h (m_rd h u0 2) 1 v3, GK h u0 5, GI h (m_rd h u0 1) 1 v3] (
       jn (fun (s2 : Int) =>
        (if s2 = 0 then
         gd [GK h u0 5, GI h (m_rd h u0 1) 1 v3, GK h u0 5, GI h (m_rd h u0 2) 1 v3] (
          gd [GK h u0 5] (bd (FX5_run u0 (m_rd h (m_rd h u0 1) v3) (m_rd h (m_rd h u0 2) v3) u1 h) (fun x4 h3 =>
           (if (m_lcmp x4 0) = 0 then
            gd [GK h3 u0 5, GI h3 (m_rd h3 u0 2) 1 v3] (
             FX5_worth_L4 u0 u1 K0 K1 f (m_rd h3 (m_rd h3 u0 2) v3) (m_w32 (v3 + 1)) h3)
           else
            K0 v2 v3 h3))))
        else
         K0 v2 v3 h)) (fun j1 =>
        (if (m_rd h (m_rd h u0 2) v3) = (m_rd h (m_rd h u0 1) v3) then
         j1 1
        else
         j1 0)))
     else
      K1 h))
theorem CX5_worth_L4 {d : Nat} {u0 : Int} {u1 : Int} {K0 : Int → Int → MH → Option (Int × MH)} {K1 : MH → Option (Int × MH)} {r : Int × MH} (hK0 : ∀ (w2 : Int) (w3 : Int) (h : MH), K0 w2 w3 h = some r → RN xs L iX5_worth (d + 2) 62 [(0, .inr (.inr u0)), (1, .inr (.inr u1)), (2, .inl w2), (3, .inl w3)] [] h (RJo r)) (hK1 : ∀ (h : MH), K1 h = some r → RN xs L iX5_worth (d + 2) 88 [] [] h (RJo r)) : ∀ (f : Nat) (v2 : Int) (v3 : Int) (h : MH), FX5_worth_L4 u0 u1 K0 K1 f v2 v3 h = some r → RN xs L iX5_worth (d + 2) 4 [(0, .inr (.inr u0)), (1, .inr (.inr u1)), (2, .inl v2), (3, .inl v3)] [] h (RJo r) := by
  intro f
  induction f with
  | zero =>
    intro v2 v3 h hF
    cases hF
  | succ f ih =>
    intro v2 v3 h hF
    unfold FX5_worth_L4 at hF
    obtain ⟨hc, hF⟩ := gd_of hF
    refine RN.blk (ops := [(4, .iload_n 3), (5, .aload_n 0), (6, .getfield 28), (9, .arraylength)]) (pc' := 10) (lv' := [(0, .inr (.inr u0)), (1, .inr (.inr u1)), (2, .inl v2), (3, .inl v3)]) (st' := [.inl (m_ln h (m_rd h u0 1)), .inl v3]) (h' := h) (cs := [GK h u0 5, GL h (m_rd h u0 1)]) (by decide +kernel) rfl hc ?_
    rcases it_of hF with ⟨hb, hF⟩ | ⟨hb, hF⟩
    · refine RN.icf (cd := .ge) (off := 78) (tgt := 88) (by decide +kernel) (mif_gen hb) ?_
      obtain ⟨hc, hF⟩ := gd_of hF
      refine RN.blk (ops := [(13, .aload_n 0), (14, .getfield 31), (17, .iload_n 3), (18, .iaload), (19, .aload_n 0), (20, .getfield 28), (23, .iload_n 3), (24, .iaload)]) (pc' := 25) (lv' := [(0, .inr (.inr u0)), (1, .inr (.inr u1)), (2, .inl v2), (3, .inl v3)]) (st' := [.inl (m_rd h (m_rd h u0 1) v3), .inl (m_rd h (m_rd h u0 2) v3)]) (h' := h) (cs := [GK h u0 5, GI h (m_rd h u0 2) 1 v3, GK h u0 5, GI h (m_rd h u0 1) 1 v3]) (by decide +kernel) rfl hc ?_
      refine jn_use (fun j1 => ∀ (s2 : Int), j1 s2 = some r → RN xs L iX5_worth (d + 2) 33 [(0, .inr (.inr u0)), (1, .inr (.inr u1)), (2, .inl v2), (3, .inl v3)] [.inl s2] h (RJo r)) ?_ ?_ hF
      · intro s2 hF
        refine RN.blk (ops := [(33, .istore 4), (35, .iload 4)]) (pc' := 37) (lv' := [(4, .inl s2), (0, .inr (.inr u0)), (1, .inr (.inr u1)), (2, .inl v2), (3, .inl v3)]) (st' := [.inl s2]) (h' := h) (cs := []) (by decide +kernel) rfl trivial ?_
        rcases it_of hF with ⟨hb, hF⟩ | ⟨hb, hF⟩
        · refine RN.iff (cd := .ne) (off := 25) (tgt := 62) (by decide +kernel) (mif_nen hb) ?_
          obtain ⟨hc, hF⟩ := gd_of hF
          refine RN.blk (ops := [(40, .aload_n 0), (41, .aload_n 0), (42, .getfield 28), (45, .iload_n 3), (46, .iaload), (47, .aload_n 0), (48, .getfield 31), (51, .iload_n 3), (52, .iaload), (53, .aload_n 1)]) (pc' := 54) (lv' := [(4, .inl s2), (0, .inr (.inr u0)), (1, .inr (.inr u1)), (2, .inl v2), (3, .inl v3)]) (st' := [.inr (.inr u1), .inl (m_rd h (m_rd h u0 2) v3), .inl (m_rd h (m_rd h u0 1) v3), .inr (.inr u0)]) (h' := h) (cs := [GK h u0 5, GI h (m_rd h u0 1) 1 v3, GK h u0 5, GI h (m_rd h u0 2) 1 v3]) (by decide +kernel) rfl hc ?_
          obtain ⟨hc, hF⟩ := gd_of hF
          obtain ⟨x4, h3, hG, hF⟩ := bd_of hF
          refine RN.cv (i := 43) (k := 53) (q2 := iX5_run) (as := [.inr (.inr u0), .inl (m_rd h (m_rd h u0 1) v3), .inl (m_rd h (m_rd h u0 2) v3), .inr (.inr u1)]) (r := []) (v := some (.inr (.inl x4))) (h1 := h3) (by decide +kernel) rfl rfl rfl rfl rfl (rcv_ok hc.1) (CX5_run (d := d) hG) ?_
          refine RN.blk (ops := [(57, .lconst 0), (58, .lcmp)]) (pc' := 59) (lv' := [(4, .inl s2), (0, .inr (.inr u0)), (1, .inr (.inr u1)), (2, .inl v2), (3, .inl v3)]) (st' := [.inl (m_lcmp x4 0)]) (h' := h3) (cs := []) (by decide +kernel) rfl trivial ?_
          rcases it_of hF with ⟨hb, hF⟩ | ⟨hb, hF⟩
          · refine RN.ift (cd := .eq) (off := 16) (tgt := 75) (by decide +kernel) (mif_eq hb) ?_
            obtain ⟨hc, hF⟩ := gd_of hF
            refine RN.blk (ops := [(75, .aload_n 0), (76, .getfield 31), (79, .iload_n 3), (80, .iaload), (81, .istore_n 2), (82, .iinc 3 1)]) (pc' := 85) (lv' := [(3, .inl (m_w32 (v3 + 1))), (2, .inl (m_rd h3 (m_rd h3 u0 2) v3)), (4, .inl s2), (0, .inr (.inr u0)), (1, .inr (.inr u1))]) (st' := []) (h' := h3) (cs := [GK h3 u0 5, GI h3 (m_rd h3 u0 2) 1 v3]) (by decide +kernel) rfl hc ?_
            refine RN.goto (off := -81) (tgt := 4) (by decide +kernel) ?_
            exact RN.sub (ih _ _ _ hF) (sub_cons rfl (sub_cons rfl (sub_cons rfl (sub_cons rfl sub_nil))))
          · refine RN.iff (cd := .eq) (off := 16) (tgt := 75) (by decide +kernel) (mif_eqn hb) ?_
            exact RN.sub (hK0 _ _ _ hF) (sub_cons rfl (sub_cons rfl (sub_cons rfl (sub_cons rfl sub_nil))))
        · refine RN.ift (cd := .ne) (off := 25) (tgt := 62) (by decide +kernel) (mif_ne hb) ?_
          exact RN.sub (hK0 _ _ _ hF) (sub_cons rfl (sub_cons rfl (sub_cons rfl (sub_cons rfl sub_nil))))
      · intro j1 Jj1 hF
        rcases it_of hF with ⟨hb, hF⟩ | ⟨hb, hF⟩
        · refine RN.icf (cd := .ne) (off := 7) (tgt := 32) (by decide +kernel) (mif_nen hb) ?_
          refine RN.blk (ops := [(28, .iconst 1)]) (pc' := 29) (lv' := [(0, .inr (.inr u0)), (1, .inr (.inr u1)), (2, .inl v2), (3, .inl v3)]) (st' := [.inl 1]) (h' := h) (cs := []) (by decide +kernel) rfl trivial ?_
          refine RN.goto (off := 4) (tgt := 33) (by decide +kernel) ?_
          exact RN.sub (Jj1 _ hF) (sub_cons rfl (sub_cons rfl (sub_cons rfl (sub_cons rfl sub_nil))))
        · refine RN.ict (cd := .ne) (off := 7) (tgt := 32) (by decide +kernel) (mif_ne hb) ?_
          refine RN.blk (ops := [(32, .iconst 0)]) (pc' := 33) (lv' := [(0, .inr (.inr u0)), (1, .inr (.inr u1)), (2, .inl v2), (3, .inl v3)]) (st' := [.inl 0]) (h' := h) (cs := []) (by decide +kernel) rfl trivial ?_
          exact RN.sub (Jj1 _ hF) (sub_cons rfl (sub_cons rfl (sub_cons rfl (sub_cons rfl sub_nil))))
    · refine RN.ict (cd := .ge) (off := 78) (tgt := 88) (by decide +kernel) (mif_ge hb) ?_
      exact RN.sub (hK1 _ hF) sub_nil
noncomputable def FX5_worth (t : Int) (a1 : Int) (h : MH) : Option (Int × MH) :=
  FX5_worth_L4 t a1 (fun w1 w2 h3 =>
   gd [GK h3 t 5, GI h3 (m_rd h3 t 1) 1 w2] (
    gd [GK h3 t 5] (bd (FX5_run t w1 (m_rd h3 (m_rd h3 t 1) w2) a1 h3) (fun x6 h5 =>
     some (x6, h5))))) (fun h4 =>
   some (0, h4)) FU 0 0 h
theorem CX5_worth {d : Nat} {t : Int} {a1 : Int} {h : MH} {r : Int × MH} (hF : FX5_worth t a1 h = some r) : RN xs L iX5_worth (d + 2) 0 (lvE 0 [.inr (.inr t), .inr (.inr a1)]) [] h (RJo r) := by
  unfold FX5_worth at hF
  refine RN.blk (ops := [(0, .iconst 0), (1, .istore_n 2), (2, .iconst 0), (3, .istore_n 3)]) (pc' := 4) (lv' := [(3, .inl 0), (2, .inl 0), (0, .inr (.inr t)), (1, .inr (.inr a1))]) (st' := []) (h' := h) (cs := []) (by decide +kernel) rfl trivial ?_
  refine RN.sub (CX5_worth_L4 ?_ ?_ _ _ _ _ hF) (sub_cons rfl (sub_cons rfl (sub_cons rfl (sub_cons rfl sub_nil))))
  · intro w1 w2 h3 hF
    obtain ⟨hc, hF⟩ := gd_of hF
    refine RN.blk (ops := [(62, .aload_n 0), (63, .iload_n 2), (64, .aload_n 0), (65, .getfield 28), (68, .iload_n 3), (69, .iaload), (70, .aload_n 1)]) (pc' := 71) (lv' := [(0, .inr (.inr t)), (1, .inr (.inr a1)), (2, .inl w1), (3, .inl w2)]) (st' := [.inr (.inr a1), .inl (m_rd h3 (m_rd h3 t 1) w2), .inl w1, .inr (.inr t)]) (h' := h3) (cs := [GK h3 t 5, GI h3 (m_rd h3 t 1) 1 w2]) (by decide +kernel) rfl hc ?_
    obtain ⟨hc, hF⟩ := gd_of hF
    obtain ⟨x6, h5, hG, hF⟩ := bd_of hF
    refine RN.cv (i := 43) (k := 53) (q2 := iX5_run) (as := [.inr (.inr t), .inl w1, .inl (m_rd h3 (m_rd h3 t 1) w2), .inr (.inr a1)]) (r := []) (v := some (.inr (.inl x6))) (h1 := h5) (by decide +kernel) rfl rfl rfl rfl rfl (rcv_ok hc.1) (CX5_run (d := d) hG) ?_
    exact RN.lR (by decide +kernel) rfl hF
  · intro h4 hF
    refine RN.blk (ops := [(88, .lconst 0)]) (pc' := 89) (lv' := []) (st' := [.inr (.inl 0)]) (h' := h4) (cs := []) (by decide +kernel) rfl trivial ?_
    exact RN.lR (by decide +kernel) rfl hF
noncomputable def FX6_joinOf (a1 : Int) (h : MH) : Option (Int × MH) :=
  (if a1 = 37 then
   some ((-24), h)
  else
  (if a1 = 38 then
   some ((-99), h)
  else
  (if a1 = 39 then
   some ((-99), h)
  else
  (if a1 = 40 then
   some ((-99), h)
  else
  (if a1 = 41 then
   some ((-99), h)
  else
  (if a1 = 42 then
   some ((-22), h)
  else
  (if a1 = 43 then
   some ((-20), h)
  else
  (if a1 = 44 then
   some ((-99), h)
  else
  (if a1 = 45 then
   some ((-21), h)
  else
  (if a1 = 46 then
   some ((-99), h)
  else
  (if a1 = 47 then
   some ((-23), h)
  else
   some ((-99), h))))))))))))
theorem CX6_joinOf {d : Nat} {a1 : Int} {h : MH} {r : Int × MH} (hF : FX6_joinOf a1 h = some r) : RN xs L iX6_joinOf (d) 0 (lvE 0 [.inl a1]) [] h (RIo r) := by
  unfold FX6_joinOf at hF
  refine RN.blk (ops := [(0, .iload_n 0)]) (pc' := 1) (lv' := [(0, .inl a1)]) (st' := [.inl a1]) (h' := h) (cs := []) (by decide +kernel) rfl trivial ?_
  rcases it_of hF with ⟨hb0, hF⟩ | ⟨hb0, hF⟩
  · refine RN.tsw (dflt := 74) (lo := 37) (hi := 47) (offs := #[71, 74, 74, 74, 74, 65, 59, 74, 62, 74, 68]) (by decide +kernel) (RN.sth hb0 (tgt := 72) rfl ?_)
    refine RN.blk (ops := [(72, .bipush (-24))]) (pc' := 74) (lv' := [(0, .inl a1)]) (st' := [.inl (-24)]) (h' := h) (cs := []) (by decide +kernel) rfl trivial ?_
    exact RN.iR (by decide +kernel) rfl hF
  rcases it_of hF with ⟨hb1, hF⟩ | ⟨hb1, hF⟩
  · refine RN.tsw (dflt := 74) (lo := 37) (hi := 47) (offs := #[71, 74, 74, 74, 74, 65, 59, 74, 62, 74, 68]) (by decide +kernel) (RN.stm hb0 (RN.sth hb1 (tgt := 75) rfl ?_))
    refine RN.blk (ops := [(75, .bipush (-99))]) (pc' := 77) (lv' := [(0, .inl a1)]) (st' := [.inl (-99)]) (h' := h) (cs := []) (by decide +kernel) rfl trivial ?_
    exact RN.iR (by decide +kernel) rfl hF
  rcases it_of hF with ⟨hb2, hF⟩ | ⟨hb2, hF⟩
  · refine RN.tsw (dflt := 74) (lo := 37) (hi := 47) (offs := #[71, 74, 74, 74, 74, 65, 59, 74, 62, 74, 68]) (by decide +kernel) (RN.stm hb0 (RN.stm hb1 (RN.sth hb2 (tgt := 75) rfl ?_)))
    refine RN.blk (ops := [(75, .bipush (-99))]) (pc' := 77) (lv' := [(0, .inl a1)]) (st' := [.inl (-99)]) (h' := h) (cs := []) (by decide +kernel) rfl trivial ?_
    exact RN.iR (by decide +kernel) rfl hF
  rcases it_of hF with ⟨hb3, hF⟩ | ⟨hb3, hF⟩
  · refine RN.tsw (dflt := 74) (lo := 37) (hi := 47) (offs := #[71, 74, 74, 74, 74, 65, 59, 74, 62, 74, 68]) (by decide +kernel) (RN.stm hb0 (RN.stm hb1 (RN.stm hb2 (RN.sth hb3 (tgt := 75) rfl ?_))))
    refine RN.blk (ops := [(75, .bipush (-99))]) (pc' := 77) (lv' := [(0, .inl a1)]) (st' := [.inl (-99)]) (h' := h) (cs := []) (by decide +kernel) rfl trivial ?_
    exact RN.iR (by decide +kernel) rfl hF
  rcases it_of hF with ⟨hb4, hF⟩ | ⟨hb4, hF⟩
  · refine RN.tsw (dflt := 74) (lo := 37) (hi := 47) (offs := #[71, 74, 74, 74, 74, 65, 59, 74, 62, 74, 68]) (by decide +kernel) (RN.stm hb0 (RN.stm hb1 (RN.stm hb2 (RN.stm hb3 (RN.sth hb4 (tgt := 75) rfl ?_)))))
    refine RN.blk (ops := [(75, .bipush (-99))]) (pc' := 77) (lv' := [(0, .inl a1)]) (st' := [.inl (-99)]) (h' := h) (cs := []) (by decide +kernel) rfl trivial ?_
    exact RN.iR (by decide +kernel) rfl hF
  rcases it_of hF with ⟨hb5, hF⟩ | ⟨hb5, hF⟩
  · refine RN.tsw (dflt := 74) (lo := 37) (hi := 47) (offs := #[71, 74, 74, 74, 74, 65, 59, 74, 62, 74, 68]) (by decide +kernel) (RN.stm hb0 (RN.stm hb1 (RN.stm hb2 (RN.stm hb3 (RN.stm hb4 (RN.sth hb5 (tgt := 66) rfl ?_))))))
    refine RN.blk (ops := [(66, .bipush (-22))]) (pc' := 68) (lv' := [(0, .inl a1)]) (st' := [.inl (-22)]) (h' := h) (cs := []) (by decide +kernel) rfl trivial ?_
    exact RN.iR (by decide +kernel) rfl hF
  rcases it_of hF with ⟨hb6, hF⟩ | ⟨hb6, hF⟩
  · refine RN.tsw (dflt := 74) (lo := 37) (hi := 47) (offs := #[71, 74, 74, 74, 74, 65, 59, 74, 62, 74, 68]) (by decide +kernel) (RN.stm hb0 (RN.stm hb1 (RN.stm hb2 (RN.stm hb3 (RN.stm hb4 (RN.stm hb5 (RN.sth hb6 (tgt := 60) rfl ?_)))))))
    refine RN.blk (ops := [(60, .bipush (-20))]) (pc' := 62) (lv' := [(0, .inl a1)]) (st' := [.inl (-20)]) (h' := h) (cs := []) (by decide +kernel) rfl trivial ?_
    exact RN.iR (by decide +kernel) rfl hF
  rcases it_of hF with ⟨hb7, hF⟩ | ⟨hb7, hF⟩
  · refine RN.tsw (dflt := 74) (lo := 37) (hi := 47) (offs := #[71, 74, 74, 74, 74, 65, 59, 74, 62, 74, 68]) (by decide +kernel) (RN.stm hb0 (RN.stm hb1 (RN.stm hb2 (RN.stm hb3 (RN.stm hb4 (RN.stm hb5 (RN.stm hb6 (RN.sth hb7 (tgt := 75) rfl ?_))))))))
    refine RN.blk (ops := [(75, .bipush (-99))]) (pc' := 77) (lv' := [(0, .inl a1)]) (st' := [.inl (-99)]) (h' := h) (cs := []) (by decide +kernel) rfl trivial ?_
    exact RN.iR (by decide +kernel) rfl hF
  rcases it_of hF with ⟨hb8, hF⟩ | ⟨hb8, hF⟩
  · refine RN.tsw (dflt := 74) (lo := 37) (hi := 47) (offs := #[71, 74, 74, 74, 74, 65, 59, 74, 62, 74, 68]) (by decide +kernel) (RN.stm hb0 (RN.stm hb1 (RN.stm hb2 (RN.stm hb3 (RN.stm hb4 (RN.stm hb5 (RN.stm hb6 (RN.stm hb7 (RN.sth hb8 (tgt := 63) rfl ?_)))))))))
    refine RN.blk (ops := [(63, .bipush (-21))]) (pc' := 65) (lv' := [(0, .inl a1)]) (st' := [.inl (-21)]) (h' := h) (cs := []) (by decide +kernel) rfl trivial ?_
    exact RN.iR (by decide +kernel) rfl hF
  rcases it_of hF with ⟨hb9, hF⟩ | ⟨hb9, hF⟩
  · refine RN.tsw (dflt := 74) (lo := 37) (hi := 47) (offs := #[71, 74, 74, 74, 74, 65, 59, 74, 62, 74, 68]) (by decide +kernel) (RN.stm hb0 (RN.stm hb1 (RN.stm hb2 (RN.stm hb3 (RN.stm hb4 (RN.stm hb5 (RN.stm hb6 (RN.stm hb7 (RN.stm hb8 (RN.sth hb9 (tgt := 75) rfl ?_))))))))))
    refine RN.blk (ops := [(75, .bipush (-99))]) (pc' := 77) (lv' := [(0, .inl a1)]) (st' := [.inl (-99)]) (h' := h) (cs := []) (by decide +kernel) rfl trivial ?_
    exact RN.iR (by decide +kernel) rfl hF
  rcases it_of hF with ⟨hb10, hF⟩ | ⟨hb10, hF⟩
  · refine RN.tsw (dflt := 74) (lo := 37) (hi := 47) (offs := #[71, 74, 74, 74, 74, 65, 59, 74, 62, 74, 68]) (by decide +kernel) (RN.stm hb0 (RN.stm hb1 (RN.stm hb2 (RN.stm hb3 (RN.stm hb4 (RN.stm hb5 (RN.stm hb6 (RN.stm hb7 (RN.stm hb8 (RN.stm hb9 (RN.sth hb10 (tgt := 69) rfl ?_)))))))))))
    refine RN.blk (ops := [(69, .bipush (-23))]) (pc' := 71) (lv' := [(0, .inl a1)]) (st' := [.inl (-23)]) (h' := h) (cs := []) (by decide +kernel) rfl trivial ?_
    exact RN.iR (by decide +kernel) rfl hF
  refine RN.tsw (dflt := 74) (lo := 37) (hi := 47) (offs := #[71, 74, 74, 74, 74, 65, 59, 74, 62, 74, 68]) (by decide +kernel) (RN.stm hb0 (RN.stm hb1 (RN.stm hb2 (RN.stm hb3 (RN.stm hb4 (RN.stm hb5 (RN.stm hb6 (RN.stm hb7 (RN.stm hb8 (RN.stm hb9 (RN.stm hb10 (RN.std (tgt := 75) rfl ?_))))))))))))
  refine RN.blk (ops := [(75, .bipush (-99))]) (pc' := 77) (lv' := [(0, .inl a1)]) (st' := [.inl (-99)]) (h' := h) (cs := []) (by decide +kernel) rfl trivial ?_
  exact RN.iR (by decide +kernel) rfl hF
noncomputable def FX6_put (t : Int) (a1 : Int) (h : MH) : Option (Int × MH) :=
  gd [GK h t 6] (
   (if (m_rd h t 2) < 400 then
    gd [GK h t 6, GK h t 6, GI h (m_rd h t 1) 1 (m_rd h t 2), GK h t 6, GK h t 6] (
     some (1, (m_wr (m_wr h (m_rd h t 1) (m_rd h t 2) a1) t 2 (m_w32 ((m_rd (m_wr h (m_rd h t 1) (m_rd h t 2) a1) t 2) + 1)))))
   else
    some (1, h)))
theorem CX6_put {d : Nat} {t : Int} {a1 : Int} {h : MH} {r : Int × MH} (hF : FX6_put t a1 h = some r) : RN xs L iX6_put (d) 0 (lvE 0 [.inr (.inr t), .inl a1]) [] h (RIo r) := by
  unfold FX6_put at hF
  obtain ⟨hc, hF⟩ := gd_of hF
  refine RN.blk (ops := [(0, .aload_n 0), (1, .getfield 30), (4, .sipush 400)]) (pc' := 7) (lv' := [(0, .inr (.inr t)), (1, .inl a1)]) (st' := [.inl 400, .inl (m_rd h t 2)]) (h' := h) (cs := [GK h t 6]) (by decide +kernel) rfl hc ?_
  rcases it_of hF with ⟨hb, hF⟩ | ⟨hb, hF⟩
  · refine RN.icf (cd := .ge) (off := 23) (tgt := 30) (by decide +kernel) (mif_gen hb) ?_
    obtain ⟨hc, hF⟩ := gd_of hF
    refine RN.blk (ops := [(10, .aload_n 0), (11, .getfield 9), (14, .aload_n 0), (15, .getfield 30), (18, .iload_n 1), (19, .iastore), (20, .aload_n 0), (21, .dup), (22, .getfield 30), (25, .iconst 1), (26, .iadd), (27, .putfield 30)]) (pc' := 30) (lv' := [(0, .inr (.inr t)), (1, .inl a1)]) (st' := []) (h' := (m_wr (m_wr h (m_rd h t 1) (m_rd h t 2) a1) t 2 (m_w32 ((m_rd (m_wr h (m_rd h t 1) (m_rd h t 2) a1) t 2) + 1)))) (cs := [GK h t 6, GK h t 6, GI h (m_rd h t 1) 1 (m_rd h t 2), GK h t 6, GK h t 6]) (by decide +kernel) rfl hc ?_
    refine RN.blk (ops := [(30, .iconst 1)]) (pc' := 31) (lv' := [(0, .inr (.inr t)), (1, .inl a1)]) (st' := [.inl 1]) (h' := (m_wr (m_wr h (m_rd h t 1) (m_rd h t 2) a1) t 2 (m_w32 ((m_rd (m_wr h (m_rd h t 1) (m_rd h t 2) a1) t 2) + 1)))) (cs := []) (by decide +kernel) rfl trivial ?_
    exact RN.zR (by decide +kernel) rfl (Or.inr rfl) hF
  · refine RN.ict (cd := .ge) (off := 23) (tgt := 30) (by decide +kernel) (mif_ge hb) ?_
    refine RN.blk (ops := [(30, .iconst 1)]) (pc' := 31) (lv' := [(0, .inr (.inr t)), (1, .inl a1)]) (st' := [.inl 1]) (h' := h) (cs := []) (by decide +kernel) rfl trivial ?_
    exact RN.zR (by decide +kernel) rfl (Or.inr rfl) hF
noncomputable def FX6_countPart (t : Int) (a1 : Int) (h : MH) : Option (Int × MH) :=
  gd [GK h t 6, GK h t 6, GK h t 6] (
   (if 60 < (m_rd (m_wr h t 6 (m_w32 ((m_rd h t 6) + 1))) t 6) then
    gd [GK h t 6] (
     gd [GK h (m_rd (m_wr h t 6 (m_w32 ((m_rd h t 6) + 1))) t 0) 9] (bd (FX9_fail (m_rd (m_wr h t 6 (m_w32 ((m_rd h t 6) + 1))) t 0) a1 3 (m_wr h t 6 (m_w32 ((m_rd h t 6) + 1)))) (fun x2 h1 =>
      (if x2 = 0 then
       some (0, h1)
      else
       some (1, h1)))))
   else
    some (1, (m_wr h t 6 (m_w32 ((m_rd h t 6) + 1))))))
theorem CX6_countPart {d : Nat} {t : Int} {a1 : Int} {h : MH} {r : Int × MH} (hF : FX6_countPart t a1 h = some r) : RN xs L iX6_countPart (d + 1) 0 (lvE 0 [.inr (.inr t), .inl a1]) [] h (RIo r) := by
  unfold FX6_countPart at hF
  obtain ⟨hc, hF⟩ := gd_of hF
  refine RN.blk (ops := [(0, .aload_n 0), (1, .dup), (2, .getfield 37), (5, .iconst 1), (6, .iadd), (7, .putfield 37), (10, .aload_n 0), (11, .getfield 37), (14, .bipush 60)]) (pc' := 16) (lv' := [(0, .inr (.inr t)), (1, .inl a1)]) (st' := [.inl 60, .inl (m_rd (m_wr h t 6 (m_w32 ((m_rd h t 6) + 1))) t 6)]) (h' := (m_wr h t 6 (m_w32 ((m_rd h t 6) + 1)))) (cs := [GK h t 6, GK h t 6, GK h t 6]) (by decide +kernel) rfl hc ?_
  rcases it_of hF with ⟨hb, hF⟩ | ⟨hb, hF⟩
  · refine RN.icf (cd := .le) (off := 15) (tgt := 31) (by decide +kernel) (mif_len hb) ?_
    obtain ⟨hc, hF⟩ := gd_of hF
    refine RN.blk (ops := [(19, .aload_n 0), (20, .getfield 21), (23, .iload_n 1), (24, .iconst 3)]) (pc' := 25) (lv' := [(0, .inr (.inr t)), (1, .inl a1)]) (st' := [.inl 3, .inl a1, .inr (.inr (m_rd (m_wr h t 6 (m_w32 ((m_rd h t 6) + 1))) t 0))]) (h' := (m_wr h t 6 (m_w32 ((m_rd h t 6) + 1)))) (cs := [GK h t 6]) (by decide +kernel) rfl hc ?_
    obtain ⟨hc, hF⟩ := gd_of hF
    obtain ⟨x2, h1, hG, hF⟩ := bd_of hF
    refine RN.cv (i := 53) (k := 91) (q2 := iX9_fail) (as := [.inr (.inr (m_rd (m_wr h t 6 (m_w32 ((m_rd h t 6) + 1))) t 0)), .inl a1, .inl 3]) (r := []) (v := some (.inl x2)) (h1 := h1) (by decide +kernel) rfl rfl rfl rfl rfl (rcv_ok hc.1) (CX9_fail (d := d) hG) ?_
    rcases it_of hF with ⟨hb, hF⟩ | ⟨hb, hF⟩
    · refine RN.ift (cd := .eq) (off := 7) (tgt := 35) (by decide +kernel) (mif_eq hb) ?_
      refine RN.blk (ops := [(35, .iconst 0)]) (pc' := 36) (lv' := [(0, .inr (.inr t)), (1, .inl a1)]) (st' := [.inl 0]) (h' := h1) (cs := []) (by decide +kernel) rfl trivial ?_
      exact RN.zR (by decide +kernel) rfl (Or.inl rfl) hF
    · refine RN.iff (cd := .eq) (off := 7) (tgt := 35) (by decide +kernel) (mif_eqn hb) ?_
      refine RN.blk (ops := [(31, .iconst 1)]) (pc' := 32) (lv' := [(0, .inr (.inr t)), (1, .inl a1)]) (st' := [.inl 1]) (h' := h1) (cs := []) (by decide +kernel) rfl trivial ?_
      refine RN.goto (off := 4) (tgt := 36) (by decide +kernel) ?_
      exact RN.zR (by decide +kernel) rfl (Or.inr rfl) hF
  · refine RN.ict (cd := .le) (off := 15) (tgt := 31) (by decide +kernel) (mif_le hb) ?_
    refine RN.blk (ops := [(31, .iconst 1)]) (pc' := 32) (lv' := [(0, .inr (.inr t)), (1, .inl a1)]) (st' := [.inl 1]) (h' := (m_wr h t 6 (m_w32 ((m_rd h t 6) + 1)))) (cs := []) (by decide +kernel) rfl trivial ?_
    refine RN.goto (off := 4) (tgt := 36) (by decide +kernel) ?_
    exact RN.zR (by decide +kernel) rfl (Or.inr rfl) hF
noncomputable def FX6_textOf (a1 : Int) (h : MH) : Option (Int × MH) :=
  (if a1 = 0 then
   some ((-15), h)
  else
  (if a1 = 1 then
   some ((-16), h)
  else
  (if a1 = 2 then
   some ((-17), h)
  else
  (if a1 = 3 then
   some ((-18), h)
  else
  (if a1 = 4 then
   some ((-19), h)
  else
  (if a1 = 5 then
   some ((-20), h)
  else
  (if a1 = 6 then
   some ((-11), h)
  else
  (if a1 = 7 then
   some ((-21), h)
  else
  (if a1 = 8 then
   some ((-22), h)
  else
  (if a1 = 9 then
   some ((-23), h)
  else
   some ((-24), h)))))))))))
theorem CX6_textOf {d : Nat} {a1 : Int} {h : MH} {r : Int × MH} (hF : FX6_textOf a1 h = some r) : RN xs L iX6_textOf (d) 0 (lvE 0 [.inl a1]) [] h (RAo r) := by
  unfold FX6_textOf at hF
  refine RN.blk (ops := [(0, .iload_n 0)]) (pc' := 1) (lv' := [(0, .inl a1)]) (st' := [.inl a1]) (h' := h) (cs := []) (by decide +kernel) rfl trivial ?_
  rcases it_of hF with ⟨hb0, hF⟩ | ⟨hb0, hF⟩
  · refine RN.tsw (dflt := 85) (lo := 0) (hi := 9) (offs := #[55, 58, 61, 64, 67, 70, 73, 76, 79, 82]) (by decide +kernel) (RN.sth hb0 (tgt := 56) rfl ?_)
    refine RN.blk (ops := [(56, .ldc 116)]) (pc' := 58) (lv' := [(0, .inl a1)]) (st' := [.inr (.inr (-15))]) (h' := h) (cs := []) (by decide +kernel) rfl trivial ?_
    exact RN.aR (by decide +kernel) rfl hF
  rcases it_of hF with ⟨hb1, hF⟩ | ⟨hb1, hF⟩
  · refine RN.tsw (dflt := 85) (lo := 0) (hi := 9) (offs := #[55, 58, 61, 64, 67, 70, 73, 76, 79, 82]) (by decide +kernel) (RN.stm hb0 (RN.sth hb1 (tgt := 59) rfl ?_))
    refine RN.blk (ops := [(59, .ldc 118)]) (pc' := 61) (lv' := [(0, .inl a1)]) (st' := [.inr (.inr (-16))]) (h' := h) (cs := []) (by decide +kernel) rfl trivial ?_
    exact RN.aR (by decide +kernel) rfl hF
  rcases it_of hF with ⟨hb2, hF⟩ | ⟨hb2, hF⟩
  · refine RN.tsw (dflt := 85) (lo := 0) (hi := 9) (offs := #[55, 58, 61, 64, 67, 70, 73, 76, 79, 82]) (by decide +kernel) (RN.stm hb0 (RN.stm hb1 (RN.sth hb2 (tgt := 62) rfl ?_)))
    refine RN.blk (ops := [(62, .ldc 120)]) (pc' := 64) (lv' := [(0, .inl a1)]) (st' := [.inr (.inr (-17))]) (h' := h) (cs := []) (by decide +kernel) rfl trivial ?_
    exact RN.aR (by decide +kernel) rfl hF
  rcases it_of hF with ⟨hb3, hF⟩ | ⟨hb3, hF⟩
  · refine RN.tsw (dflt := 85) (lo := 0) (hi := 9) (offs := #[55, 58, 61, 64, 67, 70, 73, 76, 79, 82]) (by decide +kernel) (RN.stm hb0 (RN.stm hb1 (RN.stm hb2 (RN.sth hb3 (tgt := 65) rfl ?_))))
    refine RN.blk (ops := [(65, .ldc 122)]) (pc' := 67) (lv' := [(0, .inl a1)]) (st' := [.inr (.inr (-18))]) (h' := h) (cs := []) (by decide +kernel) rfl trivial ?_
    exact RN.aR (by decide +kernel) rfl hF
  rcases it_of hF with ⟨hb4, hF⟩ | ⟨hb4, hF⟩
  · refine RN.tsw (dflt := 85) (lo := 0) (hi := 9) (offs := #[55, 58, 61, 64, 67, 70, 73, 76, 79, 82]) (by decide +kernel) (RN.stm hb0 (RN.stm hb1 (RN.stm hb2 (RN.stm hb3 (RN.sth hb4 (tgt := 68) rfl ?_)))))
    refine RN.blk (ops := [(68, .ldc 124)]) (pc' := 70) (lv' := [(0, .inl a1)]) (st' := [.inr (.inr (-19))]) (h' := h) (cs := []) (by decide +kernel) rfl trivial ?_
    exact RN.aR (by decide +kernel) rfl hF
  rcases it_of hF with ⟨hb5, hF⟩ | ⟨hb5, hF⟩
  · refine RN.tsw (dflt := 85) (lo := 0) (hi := 9) (offs := #[55, 58, 61, 64, 67, 70, 73, 76, 79, 82]) (by decide +kernel) (RN.stm hb0 (RN.stm hb1 (RN.stm hb2 (RN.stm hb3 (RN.stm hb4 (RN.sth hb5 (tgt := 71) rfl ?_))))))
    refine RN.blk (ops := [(71, .ldc 126)]) (pc' := 73) (lv' := [(0, .inl a1)]) (st' := [.inr (.inr (-20))]) (h' := h) (cs := []) (by decide +kernel) rfl trivial ?_
    exact RN.aR (by decide +kernel) rfl hF
  rcases it_of hF with ⟨hb6, hF⟩ | ⟨hb6, hF⟩
  · refine RN.tsw (dflt := 85) (lo := 0) (hi := 9) (offs := #[55, 58, 61, 64, 67, 70, 73, 76, 79, 82]) (by decide +kernel) (RN.stm hb0 (RN.stm hb1 (RN.stm hb2 (RN.stm hb3 (RN.stm hb4 (RN.stm hb5 (RN.sth hb6 (tgt := 74) rfl ?_)))))))
    refine RN.blk (ops := [(74, .ldc 128)]) (pc' := 76) (lv' := [(0, .inl a1)]) (st' := [.inr (.inr (-11))]) (h' := h) (cs := []) (by decide +kernel) rfl trivial ?_
    exact RN.aR (by decide +kernel) rfl hF
  rcases it_of hF with ⟨hb7, hF⟩ | ⟨hb7, hF⟩
  · refine RN.tsw (dflt := 85) (lo := 0) (hi := 9) (offs := #[55, 58, 61, 64, 67, 70, 73, 76, 79, 82]) (by decide +kernel) (RN.stm hb0 (RN.stm hb1 (RN.stm hb2 (RN.stm hb3 (RN.stm hb4 (RN.stm hb5 (RN.stm hb6 (RN.sth hb7 (tgt := 77) rfl ?_))))))))
    refine RN.blk (ops := [(77, .ldc 130)]) (pc' := 79) (lv' := [(0, .inl a1)]) (st' := [.inr (.inr (-21))]) (h' := h) (cs := []) (by decide +kernel) rfl trivial ?_
    exact RN.aR (by decide +kernel) rfl hF
  rcases it_of hF with ⟨hb8, hF⟩ | ⟨hb8, hF⟩
  · refine RN.tsw (dflt := 85) (lo := 0) (hi := 9) (offs := #[55, 58, 61, 64, 67, 70, 73, 76, 79, 82]) (by decide +kernel) (RN.stm hb0 (RN.stm hb1 (RN.stm hb2 (RN.stm hb3 (RN.stm hb4 (RN.stm hb5 (RN.stm hb6 (RN.stm hb7 (RN.sth hb8 (tgt := 80) rfl ?_)))))))))
    refine RN.blk (ops := [(80, .ldc 132)]) (pc' := 82) (lv' := [(0, .inl a1)]) (st' := [.inr (.inr (-22))]) (h' := h) (cs := []) (by decide +kernel) rfl trivial ?_
    exact RN.aR (by decide +kernel) rfl hF
  rcases it_of hF with ⟨hb9, hF⟩ | ⟨hb9, hF⟩
  · refine RN.tsw (dflt := 85) (lo := 0) (hi := 9) (offs := #[55, 58, 61, 64, 67, 70, 73, 76, 79, 82]) (by decide +kernel) (RN.stm hb0 (RN.stm hb1 (RN.stm hb2 (RN.stm hb3 (RN.stm hb4 (RN.stm hb5 (RN.stm hb6 (RN.stm hb7 (RN.stm hb8 (RN.sth hb9 (tgt := 83) rfl ?_))))))))))
    refine RN.blk (ops := [(83, .ldc 134)]) (pc' := 85) (lv' := [(0, .inl a1)]) (st' := [.inr (.inr (-23))]) (h' := h) (cs := []) (by decide +kernel) rfl trivial ?_
    exact RN.aR (by decide +kernel) rfl hF
  refine RN.tsw (dflt := 85) (lo := 0) (hi := 9) (offs := #[55, 58, 61, 64, 67, 70, 73, 76, 79, 82]) (by decide +kernel) (RN.stm hb0 (RN.stm hb1 (RN.stm hb2 (RN.stm hb3 (RN.stm hb4 (RN.stm hb5 (RN.stm hb6 (RN.stm hb7 (RN.stm hb8 (RN.stm hb9 (RN.std (tgt := 86) rfl ?_)))))))))))
  refine RN.blk (ops := [(86, .ldc 136)]) (pc' := 88) (lv' := [(0, .inl a1)]) (st' := [.inr (.inr (-24))]) (h' := h) (cs := []) (by decide +kernel) rfl trivial ?_
  exact RN.aR (by decide +kernel) rfl hF
noncomputable def FX6_takeValue_L63 (u0 : Int) (u2 : Int) (K0 : Int → MH → Option (Int × MH)) (K1 : MH → Option (Int × MH)) : Nat → Int → MH → Option (Int × MH)
  | 0, _, _ => none
  | f + 1, v3, h =>
    (if v3 < 11 then
     gd [GK h u0 6] (
      (bd (FX6_textOf v3 h) (fun x2 h1 =>
       gd [GK h1 (m_rd h u0 0) 9] (bd (FX9_takeWord (m_rd h u0 0) x2 h1) (fun x4 h3 =>
        (if x4 = 0 then
         FX6_takeValue_L63 u0 u2 K0 K1 f (m_w32 (v3 + 1)) h3
        else
         K0 v3 h3))))))
    else
     K1 h)
theorem CX6_takeValue_L63 {d : Nat} {u0 : Int} {u2 : Int} {K0 : Int → MH → Option (Int × MH)} {K1 : MH → Option (Int × MH)} {r : Int × MH} (hK0 : ∀ (w3 : Int) (h : MH), K0 w3 h = some r → RN xs L iX6_takeValue (d + 7) 83 [(0, .inr (.inr u0)), (2, .inl u2), (3, .inl w3)] [] h (RIo r)) (hK1 : ∀ (h : MH), K1 h = some r → RN xs L iX6_takeValue (d + 7) 113 [(0, .inr (.inr u0)), (2, .inl u2)] [] h (RIo r)) : ∀ (f : Nat) (v3 : Int) (h : MH), FX6_takeValue_L63 u0 u2 K0 K1 f v3 h = some r → RN xs L iX6_takeValue (d + 7) 63 [(0, .inr (.inr u0)), (2, .inl u2), (3, .inl v3)] [] h (RIo r) := by
  intro f
  induction f with
  | zero =>
    intro v3 h hF
    cases hF
  | succ f ih =>
    intro v3 h hF
    unfold FX6_takeValue_L63 at hF
    refine RN.blk (ops := [(63, .iload_n 3), (64, .bipush 11)]) (pc' := 66) (lv' := [(0, .inr (.inr u0)), (2, .inl u2), (3, .inl v3)]) (st' := [.inl 11, .inl v3]) (h' := h) (cs := []) (by decide +kernel) rfl trivial ?_
    rcases it_of hF with ⟨hb, hF⟩ | ⟨hb, hF⟩
    · refine RN.icf (cd := .ge) (off := 47) (tgt := 113) (by decide +kernel) (mif_gen hb) ?_
      obtain ⟨hc, hF⟩ := gd_of hF
      refine RN.blk (ops := [(69, .aload_n 0), (70, .getfield 21), (73, .iload_n 3)]) (pc' := 74) (lv' := [(0, .inr (.inr u0)), (2, .inl u2), (3, .inl v3)]) (st' := [.inl v3, .inr (.inr (m_rd h u0 0))]) (h' := h) (cs := [GK h u0 6]) (by decide +kernel) rfl hc ?_
      obtain ⟨x2, h1, hG, hF⟩ := bd_of hF
      refine RN.cst (i := 112) (k := 65) (q2 := iX6_textOf) (as := [.inl v3]) (r := [.inr (.inr (m_rd h u0 0))]) (v := some (.inr (.inr x2))) (h1 := h1) (by decide +kernel) rfl rfl rfl rfl rfl (CX6_textOf (d := d + 6) hG) ?_
      obtain ⟨hc, hF⟩ := gd_of hF
      obtain ⟨x4, h3, hG, hF⟩ := bd_of hF
      refine RN.cv (i := 49) (k := 95) (q2 := iX9_takeWord) (as := [.inr (.inr (m_rd h u0 0)), .inr (.inr x2)]) (r := []) (v := some (.inl x4)) (h1 := h3) (by decide +kernel) rfl rfl rfl rfl rfl (rcv_ok hc.1) (CX9_takeWord (d := d) hG) ?_
      rcases it_of hF with ⟨hb, hF⟩ | ⟨hb, hF⟩
      · refine RN.ift (cd := .eq) (off := 27) (tgt := 107) (by decide +kernel) (mif_eq hb) ?_
        refine RN.blk (ops := [(107, .iinc 3 1)]) (pc' := 110) (lv' := [(3, .inl (m_w32 (v3 + 1))), (0, .inr (.inr u0)), (2, .inl u2)]) (st' := []) (h' := h3) (cs := []) (by decide +kernel) rfl trivial ?_
        refine RN.goto (off := -47) (tgt := 63) (by decide +kernel) ?_
        exact RN.sub (ih _ _ hF) (sub_cons rfl (sub_cons rfl (sub_cons rfl sub_nil)))
      · refine RN.iff (cd := .eq) (off := 27) (tgt := 107) (by decide +kernel) (mif_eqn hb) ?_
        exact RN.sub (hK0 _ _ hF) (sub_cons rfl (sub_cons rfl (sub_cons rfl sub_nil)))
    · refine RN.ict (cd := .ge) (off := 47) (tgt := 113) (by decide +kernel) (mif_ge hb) ?_
      exact RN.sub (hK1 _ hF) (sub_cons rfl (sub_cons rfl sub_nil))
noncomputable def FX6_takeValue (t : Int) (h : MH) : Option (Int × MH) :=
  gd [GK h t 6] (
   gd [GK h (m_rd h t 0) 9] (bd (FX9_next (m_rd h t 0) h) (fun x2 h1 =>
    (bd (FX9_isDigit x2 h1) (fun x4 h3 =>
     gd [GK h3 t 6, GK h3 (m_rd h3 t 0) 9] (
      (if x4 = 0 then
       FX6_takeValue_L63 t (m_rd h3 (m_rd h3 t 0) 2) (fun w5 h6 =>
        gd [GK h6 t 6] (bd (FX6_countPart t (m_rd h3 (m_rd h3 t 0) 2) h6) (fun x9 h8 =>
         (if x9 = 0 then
          some (0, h8)
         else
          gd [GK h8 t 6] (bd (FX6_put t (m_w32 ((-1) - w5)) h8) (fun x11 h10 =>
           (if x11 = 0 then
            some (0, h10)
           else
            some (1, h10)))))))) (fun h7 =>
        gd [GK h7 t 6] (
         gd [GK h7 (m_rd h7 t 0) 9] (bd (FX9_fail (m_rd h7 t 0) (m_rd h3 (m_rd h3 t 0) 2) 0 h7) (fun x13 h12 =>
          gd [GT x13] (some (x13, h12)))))) FU 0 h3
      else
       gd [GK h3 t 6] (
        gd [GK h3 (m_rd h3 t 0) 9] (bd (FX9_takeNumber (m_rd h3 t 0) 0 99999 h3) (fun x15 h14 =>
         (if x15 = (-1) then
          some (0, h14)
         else
          gd [GK h14 t 6] (bd (FX6_countPart t (m_rd h3 (m_rd h3 t 0) 2) h14) (fun x17 h16 =>
           (if x17 = 0 then
            some (0, h16)
           else
            gd [GK h16 t 6] (bd (FX6_put t x15 h16) (fun x19 h18 =>
             (if x19 = 0 then
              some (0, h18)
             else
              some (1, h18))))))))))))))))))
theorem CX6_takeValue {d : Nat} {t : Int} {h : MH} {r : Int × MH} (hF : FX6_takeValue t h = some r) : RN xs L iX6_takeValue (d + 7) 0 (lvE 0 [.inr (.inr t)]) [] h (RIo r) := by
  unfold FX6_takeValue at hF
  obtain ⟨hc, hF⟩ := gd_of hF
  refine RN.blk (ops := [(0, .aload_n 0), (1, .getfield 21)]) (pc' := 4) (lv' := [(0, .inr (.inr t))]) (st' := [.inr (.inr (m_rd h t 0))]) (h' := h) (cs := [GK h t 6]) (by decide +kernel) rfl hc ?_
  obtain ⟨hc, hF⟩ := gd_of hF
  obtain ⟨x2, h1, hG, hF⟩ := bd_of hF
  refine RN.cv (i := 40) (k := 93) (q2 := iX9_next) (as := [.inr (.inr (m_rd h t 0))]) (r := []) (v := some (.inl x2)) (h1 := h1) (by decide +kernel) rfl rfl rfl rfl rfl (rcv_ok hc.1) (CX9_next (d := d + 6) hG) ?_
  obtain ⟨x4, h3, hG, hF⟩ := bd_of hF
  refine RN.cst (i := 104) (k := 98) (q2 := iX9_isDigit) (as := [.inl x2]) (r := []) (v := some (.inl x4)) (h1 := h3) (by decide +kernel) rfl rfl rfl rfl rfl (CX9_isDigit (d := d + 6) hG) ?_
  obtain ⟨hc, hF⟩ := gd_of hF
  refine RN.blk (ops := [(10, .istore_n 1), (11, .aload_n 0), (12, .getfield 21), (15, .getfield 44), (18, .istore_n 2), (19, .iload_n 1)]) (pc' := 20) (lv' := [(2, .inl (m_rd h3 (m_rd h3 t 0) 2)), (1, .inl x4), (0, .inr (.inr t))]) (st' := [.inl x4]) (h' := h3) (cs := [GK h3 t 6, GK h3 (m_rd h3 t 0) 9]) (by decide +kernel) rfl hc ?_
  rcases it_of hF with ⟨hb, hF⟩ | ⟨hb, hF⟩
  · refine RN.ift (cd := .eq) (off := 41) (tgt := 61) (by decide +kernel) (mif_eq hb) ?_
    refine RN.blk (ops := [(61, .iconst 0), (62, .istore_n 3)]) (pc' := 63) (lv' := [(3, .inl 0), (2, .inl (m_rd h3 (m_rd h3 t 0) 2)), (1, .inl x4), (0, .inr (.inr t))]) (st' := []) (h' := h3) (cs := []) (by decide +kernel) rfl trivial ?_
    refine RN.sub (CX6_takeValue_L63 ?_ ?_ _ _ _ hF) (sub_cons rfl (sub_cons rfl (sub_cons rfl sub_nil)))
    · intro w5 h6 hF
      refine RN.blk (ops := [(83, .aload_n 0), (84, .iload_n 2)]) (pc' := 85) (lv' := [(0, .inr (.inr t)), (2, .inl (m_rd h3 (m_rd h3 t 0) 2)), (3, .inl w5)]) (st' := [.inl (m_rd h3 (m_rd h3 t 0) 2), .inr (.inr t)]) (h' := h6) (cs := []) (by decide +kernel) rfl trivial ?_
      obtain ⟨hc, hF⟩ := gd_of hF
      obtain ⟨x9, h8, hG, hF⟩ := bd_of hF
      refine RN.cv (i := 91) (k := 62) (q2 := iX6_countPart) (as := [.inr (.inr t), .inl (m_rd h3 (m_rd h3 t 0) 2)]) (r := []) (v := some (.inl x9)) (h1 := h8) (by decide +kernel) rfl rfl rfl rfl rfl (rcv_ok hc.1) (CX6_countPart (d := d + 5) hG) ?_
      rcases it_of hF with ⟨hb, hF⟩ | ⟨hb, hF⟩
      · refine RN.ift (cd := .eq) (off := 17) (tgt := 105) (by decide +kernel) (mif_eq hb) ?_
        refine RN.blk (ops := [(105, .iconst 0)]) (pc' := 106) (lv' := [(0, .inr (.inr t)), (2, .inl (m_rd h3 (m_rd h3 t 0) 2)), (3, .inl w5)]) (st' := [.inl 0]) (h' := h8) (cs := []) (by decide +kernel) rfl trivial ?_
        exact RN.zR (by decide +kernel) rfl (Or.inl rfl) hF
      · refine RN.iff (cd := .eq) (off := 17) (tgt := 105) (by decide +kernel) (mif_eqn hb) ?_
        refine RN.blk (ops := [(91, .aload_n 0), (92, .iconst (-1)), (93, .iload_n 3), (94, .isub)]) (pc' := 95) (lv' := [(0, .inr (.inr t)), (2, .inl (m_rd h3 (m_rd h3 t 0) 2)), (3, .inl w5)]) (st' := [.inl (m_w32 ((-1) - w5)), .inr (.inr t)]) (h' := h8) (cs := []) (by decide +kernel) rfl trivial ?_
        obtain ⟨hc, hF⟩ := gd_of hF
        obtain ⟨x11, h10, hG, hF⟩ := bd_of hF
        refine RN.cv (i := 78) (k := 63) (q2 := iX6_put) (as := [.inr (.inr t), .inl (m_w32 ((-1) - w5))]) (r := []) (v := some (.inl x11)) (h1 := h10) (by decide +kernel) rfl rfl rfl rfl rfl (rcv_ok hc.1) (CX6_put (d := d + 6) hG) ?_
        rcases it_of hF with ⟨hb, hF⟩ | ⟨hb, hF⟩
        · refine RN.ift (cd := .eq) (off := 7) (tgt := 105) (by decide +kernel) (mif_eq hb) ?_
          refine RN.blk (ops := [(105, .iconst 0)]) (pc' := 106) (lv' := [(0, .inr (.inr t)), (2, .inl (m_rd h3 (m_rd h3 t 0) 2)), (3, .inl w5)]) (st' := [.inl 0]) (h' := h10) (cs := []) (by decide +kernel) rfl trivial ?_
          exact RN.zR (by decide +kernel) rfl (Or.inl rfl) hF
        · refine RN.iff (cd := .eq) (off := 7) (tgt := 105) (by decide +kernel) (mif_eqn hb) ?_
          refine RN.blk (ops := [(101, .iconst 1)]) (pc' := 102) (lv' := [(0, .inr (.inr t)), (2, .inl (m_rd h3 (m_rd h3 t 0) 2)), (3, .inl w5)]) (st' := [.inl 1]) (h' := h10) (cs := []) (by decide +kernel) rfl trivial ?_
          refine RN.goto (off := 4) (tgt := 106) (by decide +kernel) ?_
          exact RN.zR (by decide +kernel) rfl (Or.inr rfl) hF
    · intro h7 hF
      obtain ⟨hc, hF⟩ := gd_of hF
      refine RN.blk (ops := [(113, .aload_n 0), (114, .getfield 21), (117, .iload_n 2), (118, .iconst 0)]) (pc' := 119) (lv' := [(0, .inr (.inr t)), (2, .inl (m_rd h3 (m_rd h3 t 0) 2))]) (st' := [.inl 0, .inl (m_rd h3 (m_rd h3 t 0) 2), .inr (.inr (m_rd h7 t 0))]) (h' := h7) (cs := [GK h7 t 6]) (by decide +kernel) rfl hc ?_
      obtain ⟨hc, hF⟩ := gd_of hF
      obtain ⟨x13, h12, hG, hF⟩ := bd_of hF
      refine RN.cv (i := 53) (k := 91) (q2 := iX9_fail) (as := [.inr (.inr (m_rd h7 t 0)), .inl (m_rd h3 (m_rd h3 t 0) 2), .inl 0]) (r := []) (v := some (.inl x13)) (h1 := h12) (by decide +kernel) rfl rfl rfl rfl rfl (rcv_ok hc.1) (CX9_fail (d := d + 6) hG) ?_
      obtain ⟨hc, hF⟩ := gd_of hF
      exact RN.zR (by decide +kernel) rfl hc.1 hF
  · refine RN.iff (cd := .eq) (off := 41) (tgt := 61) (by decide +kernel) (mif_eqn hb) ?_
    obtain ⟨hc, hF⟩ := gd_of hF
    refine RN.blk (ops := [(23, .aload_n 0), (24, .getfield 21), (27, .iconst 0), (28, .ldc 107)]) (pc' := 30) (lv' := [(2, .inl (m_rd h3 (m_rd h3 t 0) 2)), (1, .inl x4), (0, .inr (.inr t))]) (st' := [.inl 99999, .inl 0, .inr (.inr (m_rd h3 t 0))]) (h' := h3) (cs := [GK h3 t 6]) (by decide +kernel) rfl hc ?_
    obtain ⟨hc, hF⟩ := gd_of hF
    obtain ⟨x15, h14, hG, hF⟩ := bd_of hF
    refine RN.cv (i := 108) (k := 96) (q2 := iX9_takeNumber) (as := [.inr (.inr (m_rd h3 t 0)), .inl 0, .inl 99999]) (r := []) (v := some (.inl x15)) (h1 := h14) (by decide +kernel) rfl rfl rfl rfl rfl (rcv_ok hc.1) (CX9_takeNumber (d := d + 5) hG) ?_
    refine RN.blk (ops := [(33, .istore_n 3), (34, .iload_n 3), (35, .iconst (-1))]) (pc' := 36) (lv' := [(3, .inl x15), (2, .inl (m_rd h3 (m_rd h3 t 0) 2)), (1, .inl x4), (0, .inr (.inr t))]) (st' := [.inl (-1), .inl x15]) (h' := h14) (cs := []) (by decide +kernel) rfl trivial ?_
    rcases it_of hF with ⟨hb, hF⟩ | ⟨hb, hF⟩
    · refine RN.ict (cd := .eq) (off := 23) (tgt := 59) (by decide +kernel) (mif_eq hb) ?_
      refine RN.blk (ops := [(59, .iconst 0)]) (pc' := 60) (lv' := [(3, .inl x15), (2, .inl (m_rd h3 (m_rd h3 t 0) 2)), (1, .inl x4), (0, .inr (.inr t))]) (st' := [.inl 0]) (h' := h14) (cs := []) (by decide +kernel) rfl trivial ?_
      exact RN.zR (by decide +kernel) rfl (Or.inl rfl) hF
    · refine RN.icf (cd := .eq) (off := 23) (tgt := 59) (by decide +kernel) (mif_eqn hb) ?_
      refine RN.blk (ops := [(39, .aload_n 0), (40, .iload_n 2)]) (pc' := 41) (lv' := [(3, .inl x15), (2, .inl (m_rd h3 (m_rd h3 t 0) 2)), (1, .inl x4), (0, .inr (.inr t))]) (st' := [.inl (m_rd h3 (m_rd h3 t 0) 2), .inr (.inr t)]) (h' := h14) (cs := []) (by decide +kernel) rfl trivial ?_
      obtain ⟨hc, hF⟩ := gd_of hF
      obtain ⟨x17, h16, hG, hF⟩ := bd_of hF
      refine RN.cv (i := 91) (k := 62) (q2 := iX6_countPart) (as := [.inr (.inr t), .inl (m_rd h3 (m_rd h3 t 0) 2)]) (r := []) (v := some (.inl x17)) (h1 := h16) (by decide +kernel) rfl rfl rfl rfl rfl (rcv_ok hc.1) (CX6_countPart (d := d + 5) hG) ?_
      rcases it_of hF with ⟨hb, hF⟩ | ⟨hb, hF⟩
      · refine RN.ift (cd := .eq) (off := 15) (tgt := 59) (by decide +kernel) (mif_eq hb) ?_
        refine RN.blk (ops := [(59, .iconst 0)]) (pc' := 60) (lv' := [(3, .inl x15), (2, .inl (m_rd h3 (m_rd h3 t 0) 2)), (1, .inl x4), (0, .inr (.inr t))]) (st' := [.inl 0]) (h' := h16) (cs := []) (by decide +kernel) rfl trivial ?_
        exact RN.zR (by decide +kernel) rfl (Or.inl rfl) hF
      · refine RN.iff (cd := .eq) (off := 15) (tgt := 59) (by decide +kernel) (mif_eqn hb) ?_
        refine RN.blk (ops := [(47, .aload_n 0), (48, .iload_n 3)]) (pc' := 49) (lv' := [(3, .inl x15), (2, .inl (m_rd h3 (m_rd h3 t 0) 2)), (1, .inl x4), (0, .inr (.inr t))]) (st' := [.inl x15, .inr (.inr t)]) (h' := h16) (cs := []) (by decide +kernel) rfl trivial ?_
        obtain ⟨hc, hF⟩ := gd_of hF
        obtain ⟨x19, h18, hG, hF⟩ := bd_of hF
        refine RN.cv (i := 78) (k := 63) (q2 := iX6_put) (as := [.inr (.inr t), .inl x15]) (r := []) (v := some (.inl x19)) (h1 := h18) (by decide +kernel) rfl rfl rfl rfl rfl (rcv_ok hc.1) (CX6_put (d := d + 6) hG) ?_
        rcases it_of hF with ⟨hb, hF⟩ | ⟨hb, hF⟩
        · refine RN.ift (cd := .eq) (off := 7) (tgt := 59) (by decide +kernel) (mif_eq hb) ?_
          refine RN.blk (ops := [(59, .iconst 0)]) (pc' := 60) (lv' := [(3, .inl x15), (2, .inl (m_rd h3 (m_rd h3 t 0) 2)), (1, .inl x4), (0, .inr (.inr t))]) (st' := [.inl 0]) (h' := h18) (cs := []) (by decide +kernel) rfl trivial ?_
          exact RN.zR (by decide +kernel) rfl (Or.inl rfl) hF
        · refine RN.iff (cd := .eq) (off := 7) (tgt := 59) (by decide +kernel) (mif_eqn hb) ?_
          refine RN.blk (ops := [(55, .iconst 1)]) (pc' := 56) (lv' := [(3, .inl x15), (2, .inl (m_rd h3 (m_rd h3 t 0) 2)), (1, .inl x4), (0, .inr (.inr t))]) (st' := [.inl 1]) (h' := h18) (cs := []) (by decide +kernel) rfl trivial ?_
          refine RN.goto (off := 4) (tgt := 60) (by decide +kernel) ?_
          exact RN.zR (by decide +kernel) rfl (Or.inr rfl) hF
end Dc
