/-! rule() -/
noncomputable def mkr (h : MH) : MH := (FX5_init (h.1.1 : Int) 15 (m_al h 105 0 4 (fun j => bif Nat.beq ((m_ft 5).getD j.toNat 0) 2 then -1 else 0))).getD h
theorem mkr_ok {h : MH} (hL : LR h) (s0 : 0 ≤ m_rd h 15 2) (s1 : m_rd h 15 2 ≤ 400) (c0 : 0 ≤ m_rd h 15 5) (c1 : m_rd h 15 5 ≤ 12) : FX5_init (h.1.1 : Int) 15 (m_al h 105 0 4 (fun j => bif Nat.beq ((m_ft 5).getD j.toNat 0) 2 then -1 else 0)) = some (mkr h) ∧ Hd (mkr h) (h.1.1 + 5) (h.1.2.1 + 4 + 60 + (m_rd h 15 2).toNat + (m_rd h 15 5).toNat + (m_rd h 15 5).toNat) h.1.2.2 (rK h) (rN h) (fun a j => if a = (h.1.1 : Int) ∧ j < 0 then -1 else rM h a j) := by
  obtain ⟨h', e, d⟩ := mk_rule hL s0 s1 c0 c1
  have : mkr h = h' := by unfold mkr; rw [e]; rfl
  rw [this]
  exact ⟨e, d⟩
section Gr
variable {xs : Int → Int} {L : Int}
theorem RN.mkr {d : Nat} {x y : Int} {h h' : MH} {R : MR} (hL : LR h) (hM : FX5_init (h.1.1 : Int) 15 (m_al h 105 0 4 (fun j => bif Nat.beq ((m_ft 5).getD j.toNat 0) 2 then -1 else 0)) = some h') (k : RN xs L iX11_rule (d + 2) 55 [(1, .inl y), (0, .inr (.inr 0))] [.inr (.inr (h.1.1 : Int)), .inl x, .inr (.inr 19)] h' R) : RN xs L iX11_rule (d + 2) 44 [(1, .inl y), (0, .inr (.inr 0))] [.inl x, .inr (.inr 19)] h R := by
  have hc := hL.1
  refine RN.blk (ops := [(44, .new 32), (47, .dup), (48, .aload_n 0)]) (pc' := 49) (lv' := [(1, .inl y), (0, .inr (.inr 0))]) (st' := [.inr (.inr 0), .inr (.inr (h.1.1 : Int)), .inr (.inr (h.1.1 : Int)), .inl x, .inr (.inr 19)]) (h' := m_al h 105 0 4 (fun j => bif Nat.beq ((m_ft 5).getD j.toNat 0) 2 then -1 else 0)) (cs := []) (by decide +kernel) rfl trivial ?_
  refine RN.gr (i := 28) (ci := 11) (k := 2) (fn := true) (v := 15) (by decide +kernel) rfl ?_ ?_ ?_
  · unfold GK
    rw [al_kd2, if_neg (by omega)]
    exact (o_0 hL).1
  · rw [al_rd2, if_neg (by omega)]
    exact (hL.fo (v := 15) 2 6 (o_0 hL) rfl (by decide) rfl).1
  refine RN.ci (i := 124) (k := nX5_init) (q2 := iX5_init) (as := [.inr (.inr (h.1.1 : Int)), .inr (.inr 15)]) (r := [.inr (.inr (h.1.1 : Int)), .inl x, .inr (.inr 19)]) (v := none) (h1 := h') (by decide +kernel) rfl rfl rfl rfl rfl (rcv_ok ?_) (CX5_init (d := d) hM) k
  unfold GK
  rw [al_kd2, if_pos rfl]
  rfl
noncomputable def GX11_rule (h : MH) : Option (Int × MH) :=
  (if (m_rd h 0 4) < 6 then
   (bd (GX6_parse h) (fun x2 h1 =>
    (if x2 = 0 then
     gd [IB (m_rd (m_wr h1 1 1 0) 15 2) 401, IB (m_rd (m_wr h1 1 1 0) 15 5) 13] (hl (mkr (m_wr h1 1 1 0)) (fun h3 =>
      gd [IB (m_rd (m_wr h1 1 1 0) 0 4) 6] (
       hl (m_wr (m_wr h3 19 (m_rd (m_wr h1 1 1 0) 0 4) ((m_wr h1 1 1 0).1.1 : Int)) 0 4 (m_w32 ((m_rd (m_wr h3 19 (m_rd (m_wr h1 1 1 0) 0 4) ((m_wr h1 1 1 0).1.1 : Int)) 0 4) + 1))) (fun h4 =>
        some ((m_w32 ((m_rd h4 0 4) - 1)), h4)))))
    else
     some ((m_w32 ((-2) - x2)), (m_wr h1 1 1 0)))))
  else
   some ((-1), h))
theorem DX11_rule {d : Nat} {h : MH} {r : Int × MH} (hL : LR h) (hF : GX11_rule h = some r) : RN xs L iX11_rule (d + 50) 0 (lvE 0 [.inr (.inr 0)]) [] h (RIo r) ∧ LR r.2 ∧ KD h r.2 := by
  unfold GX11_rule at hF
  have hK : KD h h := KD.rf
  show RK xs L iX11_rule (d + 50) 0 (lvE 0 [.inr (.inr 0)]) [] h (RIo r) h r.2
  refine RK.of (RN.blk (ops := [(0, .aload_n 0), (1, .getfield 120), (4, .bipush 6)]) (pc' := 6) (lv' := [(0, .inr (.inr 0))]) (st' := [.inl 6, .inl (m_rd h 0 4)]) (h' := h) (cs := [GK h 0 11]) (by decide +kernel) rfl ⟨(o_0 hL).gk, trivial⟩) ?_
  rcases it_of hF with ⟨hb, hF⟩ | ⟨hb, hF⟩
  · refine RK.of (RN.ict (cd := .lt) (off := 5) (tgt := 11) (by decide +kernel) (mif_lt hb)) ?_
    refine RK.of (RN.blk (ops := [(11, .aload_n 0)]) (pc' := 12) (lv' := [(0, .inr (.inr 0))]) (st' := [.inr (.inr 0)]) (h' := h) (cs := []) (by decide +kernel) rfl trivial) ?_
    refine RK.of (RN.gr (i := 28) (ci := 11) (k := 2) (fn := true) (v := 15) (by decide +kernel) rfl (TO.gk (o_0 hL)) (hL.fo (v := 15) 2 6 (o_0 hL) rfl (by decide) rfl).1) ?_
    obtain ⟨x2, h1, hG, hF⟩ := bd_of hF
    have hq := rcv_ok (as := []) (TO.gk (o_15 hL))
    obtain ⟨hN, hL, hQ⟩ := DX6_parse (d := d) hL  hG
    refine RK.of (RN.cv (i := 123) (k := 56) (q2 := iX6_parse) (as := [.inr (.inr 15)]) (r := []) (v := some (.inl x2)) (h1 := h1) (by decide +kernel) rfl rfl rfl rfl rfl hq hN) ?_
    have hK := hK.tr hQ
    refine RK.of (RN.blk (ops := [(18, .istore_n 1), (19, .aload_n 0)]) (pc' := 20) (lv' := [(1, .inl x2), (0, .inr (.inr 0))]) (st' := [.inr (.inr 0)]) (h' := h1) (cs := []) (by decide +kernel) rfl trivial) ?_
    refine RK.of (RN.gr (i := 10) (ci := 11) (k := 0) (fn := true) (v := 1) (by decide +kernel) rfl (TO.gk (o_0 hL)) (hL.fo (v := 1) 0 9 (o_0 hL) rfl (by decide) rfl).1) ?_
    refine RK.of (RN.blk (ops := [(23, .iconst 0), (24, .putfield 83)]) (pc' := 27) (lv' := [(1, .inl x2), (0, .inr (.inr 0))]) (st' := []) (h' := (m_wr h1 1 1 0)) (cs := [GK h1 1 9]) (by decide +kernel) rfl ⟨(o_1 hL).gk, trivial⟩) ?_
    have hL : LR (m_wr h1 1 1 0) := LR.wf (k := 1) hL (o_1 hL) rfl
    have hK := hK.tr (KD.wr : KD h1 (m_wr h1 1 1 0))
    refine RK.of (RN.blk (ops := [(27, .iload_n 1)]) (pc' := 28) (lv' := [(1, .inl x2), (0, .inr (.inr 0))]) (st' := [.inl x2]) (h' := (m_wr h1 1 1 0)) (cs := []) (by decide +kernel) rfl trivial) ?_
    rcases it_of hF with ⟨hb, hF⟩ | ⟨hb, hF⟩
    · refine RK.of (RN.ift (cd := .eq) (off := 8) (tgt := 36) (by decide +kernel) (mif_eq hb)) ?_
      refine RK.of (RN.blk (ops := [(36, .aload_n 0)]) (pc' := 37) (lv' := [(1, .inl x2), (0, .inr (.inr 0))]) (st' := [.inr (.inr 0)]) (h' := (m_wr h1 1 1 0)) (cs := []) (by decide +kernel) rfl trivial) ?_
      refine RK.of (RN.gr (i := 34) (ci := 11) (k := 3) (fn := true) (v := 19) (by decide +kernel) rfl (TO.gk (o_0 hL)) (hL.fa (v := 19) 3 5 6 (o_0 hL) rfl (by decide) rfl (by decide)).1) ?_
      refine RK.of (RN.blk (ops := [(40, .aload_n 0), (41, .getfield 120)]) (pc' := 44) (lv' := [(1, .inl x2), (0, .inr (.inr 0))]) (st' := [.inl (m_rd (m_wr h1 1 1 0) 0 4), .inr (.inr 19)]) (h' := (m_wr h1 1 1 0)) (cs := [GK (m_wr h1 1 1 0) 0 11]) (by decide +kernel) rfl ⟨(o_0 hL).gk, trivial⟩) ?_
      obtain ⟨hc, hF⟩ := gd_of hF
      obtain ⟨hM, hD⟩ := mkr_ok hL hc.1.1 (by have := hc.1.2; omega) hc.2.1.1 (by have := hc.2.1.2; omega)
      refine RK.of (RN.mkr hL hM) ?_
      obtain ⟨hL, hQ, k_c⟩ := LR.mk hL hD
      obtain ⟨h3, he, hF⟩ := hl_of hF
      refine RK.of (RN.hl he) ?_
      rw [← he] at hL hQ k_c
      have hK := hK.tr hQ
      obtain ⟨hc, hF⟩ := gd_of hF
      refine RK.of (RN.blk (ops := [(55, .aastore)]) (pc' := 56) (lv' := [(1, .inl x2), (0, .inr (.inr 0))]) (st' := []) (h' := (m_wr h3 19 (m_rd (m_wr h1 1 1 0) 0 4) ((m_wr h1 1 1 0).1.1 : Int))) (cs := [GS h3 19 (m_rd (m_wr h1 1 1 0) 0 4) ((m_wr h1 1 1 0).1.1 : Int)]) (by decide +kernel) rfl ⟨⟨Or.inl ⟨(a_19 hL).1, k_c.1⟩, hc.1.1, by rw [(a_19 hL).2.1]; exact hc.1.2⟩, trivial⟩) ?_
      have hL : LR (m_wr h3 19 (m_rd (m_wr h1 1 1 0) 0 4) ((m_wr h1 1 1 0).1.1 : Int)) := hL.wa (TA.le5 (a_19 hL) (by decide))
      have k_c := (KD.wr : KD h3 (m_wr h3 19 (m_rd (m_wr h1 1 1 0) 0 4) ((m_wr h1 1 1 0).1.1 : Int))).to k_c
      have hK := hK.tr (KD.wr : KD h3 (m_wr h3 19 (m_rd (m_wr h1 1 1 0) 0 4) ((m_wr h1 1 1 0).1.1 : Int)))
      refine RK.of (RN.blk (ops := [(56, .aload_n 0), (57, .dup), (58, .getfield 120), (61, .iconst 1), (62, .iadd), (63, .putfield 120)]) (pc' := 66) (lv' := [(1, .inl x2), (0, .inr (.inr 0))]) (st' := []) (h' := (m_wr (m_wr h3 19 (m_rd (m_wr h1 1 1 0) 0 4) ((m_wr h1 1 1 0).1.1 : Int)) 0 4 (m_w32 ((m_rd (m_wr h3 19 (m_rd (m_wr h1 1 1 0) 0 4) ((m_wr h1 1 1 0).1.1 : Int)) 0 4) + 1)))) (cs := [GK (m_wr h3 19 (m_rd (m_wr h1 1 1 0) 0 4) ((m_wr h1 1 1 0).1.1 : Int)) 0 11, GK (m_wr h3 19 (m_rd (m_wr h1 1 1 0) 0 4) ((m_wr h1 1 1 0).1.1 : Int)) 0 11]) (by decide +kernel) rfl ⟨(o_0 hL).gk, (o_0 hL).gk, trivial⟩) ?_
      have hL : LR (m_wr (m_wr h3 19 (m_rd (m_wr h1 1 1 0) 0 4) ((m_wr h1 1 1 0).1.1 : Int)) 0 4 (m_w32 ((m_rd (m_wr h3 19 (m_rd (m_wr h1 1 1 0) 0 4) ((m_wr h1 1 1 0).1.1 : Int)) 0 4) + 1))) := LR.wf (k := 4) hL (o_0 hL) rfl
      have k_c := (KD.wr : KD (m_wr h3 19 (m_rd (m_wr h1 1 1 0) 0 4) ((m_wr h1 1 1 0).1.1 : Int)) (m_wr (m_wr h3 19 (m_rd (m_wr h1 1 1 0) 0 4) ((m_wr h1 1 1 0).1.1 : Int)) 0 4 (m_w32 ((m_rd (m_wr h3 19 (m_rd (m_wr h1 1 1 0) 0 4) ((m_wr h1 1 1 0).1.1 : Int)) 0 4) + 1)))).to k_c
      have hK := hK.tr (KD.wr : KD (m_wr h3 19 (m_rd (m_wr h1 1 1 0) 0 4) ((m_wr h1 1 1 0).1.1 : Int)) (m_wr (m_wr h3 19 (m_rd (m_wr h1 1 1 0) 0 4) ((m_wr h1 1 1 0).1.1 : Int)) 0 4 (m_w32 ((m_rd (m_wr h3 19 (m_rd (m_wr h1 1 1 0) 0 4) ((m_wr h1 1 1 0).1.1 : Int)) 0 4) + 1))))
      obtain ⟨h4, he, hF⟩ := hl_of hF
      refine RK.of (RN.hl he) ?_
      rw [← he] at hL hK k_c
      refine RK.of (RN.blk (ops := [(66, .aload_n 0), (67, .getfield 120), (70, .iconst 1), (71, .isub)]) (pc' := 72) (lv' := [(1, .inl x2), (0, .inr (.inr 0))]) (st' := [.inl (m_w32 ((m_rd h4 0 4) - 1))]) (h' := h4) (cs := [GK h4 0 11]) (by decide +kernel) rfl ⟨(o_0 hL).gk, trivial⟩) ?_
      exact RK.iR (by decide +kernel) rfl hL hK hF
    · refine RK.of (RN.iff (cd := .eq) (off := 8) (tgt := 36) (by decide +kernel) (mif_eqn hb)) ?_
      refine RK.of (RN.blk (ops := [(31, .bipush (-2)), (33, .iload_n 1), (34, .isub)]) (pc' := 35) (lv' := [(1, .inl x2), (0, .inr (.inr 0))]) (st' := [.inl (m_w32 ((-2) - x2))]) (h' := (m_wr h1 1 1 0)) (cs := []) (by decide +kernel) rfl trivial) ?_
      exact RK.iR (by decide +kernel) rfl hL hK hF
  · refine RK.of (RN.icf (cd := .lt) (off := 5) (tgt := 11) (by decide +kernel) (mif_ltn hb)) ?_
    refine RK.of (RN.blk (ops := [(9, .iconst (-1))]) (pc' := 10) (lv' := [(0, .inr (.inr 0))]) (st' := [.inl (-1)]) (h' := h) (cs := []) (by decide +kernel) rfl trivial) ?_
    exact RK.iR (by decide +kernel) rfl hL hK hF
end Gr
