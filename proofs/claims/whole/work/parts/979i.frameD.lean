/-! the four clauses read by the class -/
theorem F12.rdf {a j : Int} (z : F12 a j) : RdF a j := by
  unfold F12 at z
  unfold RdF
  omega
theorem TW.b {c : Int} {T : Int → Int} (w : TW c T) (c0 : 1 ≤ c) : T 0 = 1 ∧ (2 ≤ T 1 ∧ T 1 ≤ 4 ∧ 1 ≤ T 2 ∧ T 2 ≤ 4 ∧ 1 ≤ T 3 ∧ T 3 ≤ 6) ∧ Wf 0 (beg T) := by
  have wb := w.1
  obtain ⟨t0, W⟩ := w.2.2 c0
  have bk : ∀ k, k < 10 ∨ 82 ≤ k → beg T k = T k := fun k z => beg_k w.1.2.1 w.1.2.2.2 z
  refine ⟨t0, ?_, W⟩
  have F := W.1
  unfold WfF at F
  rw [bk 0 (by omega), bk 1 (by omega), bk 2 (by omega), bk 3 (by omega)] at F
  rcases F with ⟨a1, a2, a3, a4, a5, a6, a7, a8⟩ | q
  · exact ⟨a2, a3, a4, a5, a6, a7⟩
  · omega
theorem CS.fr {h h' : MH} {B : Int → Int} {n p : Int} {P : Int → Int → Prop} (C : CS h B n p) (F : Fr P h h') (no : ∀ a j, P a j → ¬ (a = 1 ∧ (j = 1 ∨ j = 2 ∨ j = 3)) ∧ a ≠ 2) : CS h' B n p := by
  obtain ⟨T, hp, z, p0, p1⟩ := C
  refine ⟨T.fr F (fun a j y => ⟨fun x => (no a j y).1 (by omega), (no a j y).2⟩), ?_, ?_, p0, p1⟩
  · rw [F.rd (fun y => (no _ _ y).1 (by omega))]
    exact hp
  · rw [F.rd (fun y => (no _ _ y).1 (by omega))]
    exact z
theorem WkR.f1 {h h' : MH} {S : Int → Int} (R : WkR h 7 S) (F : Fr F123 h h') : WkR h' 7 S := R.cg (fun a j a0 a1 => F.rd (by unfold F123; omega))
theorem ShR.f1 {h h' : MH} {S : Int → Int} (R : ShR h 4 S) (F : Fr F123 h h') : ShR h' 4 S := R.cg (fun a j a0 a1 => F.rd (by unfold F123; omega))
theorem shapeC {B : Int → Int} {n p : Int} {T : Int → Int} {h : MH} (b : BB B n) (C : CS h B n p) (W : WkR h 7 (beg T)) (w : TW 0 T) : ∃ x h', GX3_takeShape h = some (x, h') ∧ Fr RdF h h' ∧ OutC h' B n x 1 (fsh B n p T) := by
  have wb := w.1
  unfold GX3_takeShape fsh
  by_cases o1 : nok B n 2 4 p
  · obtain ⟨h1, e1, F1, C1⟩ := nokC b C (by decide) o1
    have l1 := o1.2.2
    rw [nst_t o1, e1, bd_some, if_neg (by omega)]
    by_cases o2 : nok B n 1 4 (npo B n p)
    · obtain ⟨h2, e2, F2, C2⟩ := nokC b C1 (by decide) o2
      have l2 := o2.2.2
      rw [nst_t o2, e2, bd_some, if_neg (by omega)]
      by_cases o3 : nok B n 1 6 (npo B n (npo B n p))
      · obtain ⟨h3, e3, F3, C3⟩ := nokC b C2 (by decide) o3
        have l3 := o3.2.2
        rw [nst_t o3, e3, bd_some, if_neg (by omega)]
        obtain ⟨h4, e4, F4, R4⟩ := lay8_ok (r := nvl B n p) (d := nvl B n (npo B n p)) (s := nvl B n (npo B n (npo B n p))) (T := T) (h := h3) (by omega) (by omega) (by omega) (by omega)
        obtain ⟨tw, bw⟩ := sh_TW (r := nvl B n p) (d := nvl B n (npo B n p)) (s := nvl B n (npo B n (npo B n p))) w (by omega) (by omega) (by omega) (by omega) (by omega) (by omega)
        rw [e4, bv_some]
        refine ⟨1, h4, rfl, (F1.wk (fun _ _ z => z.rdf)).tr ((F2.wk (fun _ _ z => z.rdf)).tr ((F3.wk (fun _ _ z => z.rdf)).tr (F4.wk (fun a j z => Or.inr (by omega))))), rfl, C3.fr F4 (fun a j z => by omega), R4, ?_, tw⟩
        exact WkR.sg (((W.f1 F1).f1 F2).f1 F3 |>.cg (fun a j a0 a1 => F4.rd (by omega))) (by rw [beg_12]; omega) (by rw [beg_13]; omega) bw
      · obtain ⟨h3, e3, F3, a1, a2⟩ := nnoC b C2 (by decide) o3
        rw [nst_f o3, e3, bd_some, if_pos rfl]
        exact ⟨0, h3, rfl, (F1.wk (fun _ _ z => z.rdf)).tr ((F2.wk (fun _ _ z => z.rdf)).tr (F3.wk (fun _ _ z => z.rdf))), rfl, a1, a2⟩
    · obtain ⟨h2, e2, F2, a1, a2⟩ := nnoC b C1 (by decide) o2
      rw [nst_f o2, e2, bd_some, if_pos rfl]
      exact ⟨0, h2, rfl, (F1.wk (fun _ _ z => z.rdf)).tr (F2.wk (fun _ _ z => z.rdf)), rfl, a1, a2⟩
  · obtain ⟨h1, e1, F1, a1, a2⟩ := nnoC b C (by decide) o1
    rw [nst_f o1, e1, bd_some, if_pos rfl]
    exact ⟨0, h1, rfl, F1.wk (fun _ _ z => z.rdf), rfl, a1, a2⟩
theorem rm_TW {c g v : Int} {T : Int → Int} (w : TW c T) (c0 : 1 ≤ c) (g0 : 0 ≤ g) (g1 : g < 6) (v0 : 1 ≤ v) (v1 : v ≤ 20) : TW (c + 1) (ups T (82 + g) v) := by
  have wb := w.1
  obtain ⟨t0, tb, W⟩ := w.b c0
  have e : beg (ups T (82 + g) v) = ups (beg T) (82 + g) v := funext (beg_rm (by omega) w.1.2.1 (by omega) w.1.2.2.2 g0 g1)
  refine ⟨?_, fun z => by omega, fun _ => ⟨?_, ?_⟩⟩
  · rw [up_k (by omega), up_k (by omega)]
    exact w.1
  · rw [up_k (by omega)]
    exact t0
  · rw [e]
    obtain ⟨F, E, V, t1, t2, t3⟩ := W
    refine ⟨?_, E.sg (fun k z => up_k (by omega)), V.sg (fun k z => up_k (by omega)), by rw [up_k (by omega)]; exact t1, by rw [up_k (by omega), up_k (by omega)]; exact t2, by rw [up_k (by omega)]; exact t3⟩
    unfold WfF
    rw [up_k (by omega), up_k (by omega), up_k (by omega), up_k (by omega)]
    rcases F with ⟨a1, a2, a3, a4, a5, a6, a7, a8⟩ | q
    · refine Or.inl ⟨a1, a2, a3, a4, a5, a6, a7, fun i i0 i1 => ?_⟩
      by_cases k : i = g
      · rw [up_eq (by omega)]
        exact ⟨v0, v1⟩
      · rw [up_k (by omega)]
        exact a8 i i0 i1
    · have := q.1
      rw [beg_k w.1.2.1 w.1.2.2.2 (by omega)] at this
      omega
theorem roomC {B : Int → Int} {n p c : Int} {T : Int → Int} {h : MH} (b : BB B n) (C : CS h B n p) (R : ShR h 4 T) (W : WkR h 7 (beg T)) (w : TW c T) (c0 : 1 ≤ c) : ∃ x h', GX3_takeRoom h = some (x, h') ∧ Fr RdF h h' ∧ OutC h' B n x (c + 1) (frm B n p T) := by
  have wb := w.1
  obtain ⟨t0, tb, Wb⟩ := w.b c0
  unfold GX3_takeRoom frm
  rw [R.2.2.1, w32_id (x := T 3 - 1) (by omega) (by omega)]
  by_cases o1 : nok B n 0 (T 3 - 1) p
  · obtain ⟨h1, e1, F1, C1⟩ := nokC b C (by decide) o1
    have l1 := o1.2.2
    rw [nst_t o1, e1, bd_some, hasHole_ok (R.f1 F1), bd_some, if_pos (show 0 ≤ nvl B n p ∧ nvl B n p < T 3 by omega), if_neg (by decide)]
    by_cases o2 : nok B n 1 20 (npo B n p)
    · obtain ⟨h2, e2, F2, C2⟩ := nokC b C1 (by decide) o2
      have l2 := o2.2.2
      rw [nst_t o2, e2, bd_some, if_neg (by omega), gd_ib (by omega) (by omega), gd_nil]
      have R2 := (R.f1 F1).f1 F2
      have W2 := (W.f1 F1).f1 F2
      generalize nvl B n p = g at l1 ⊢
      generalize nvl B n (npo B n p) = v at l2 ⊢
      have eb : beg (ups T (82 + g) v) = ups (beg T) (82 + g) v := funext (beg_rm (by omega) w.1.2.1 (by omega) w.1.2.2.2 (by omega) (by omega))
      have Fw : Fr (fun a _ => a = 6) h2 (m_wr h2 6 g v) := Fr.wr Fr.rf rfl
      refine ⟨1, _, rfl, (F1.wk (fun _ _ z => z.rdf)).tr ((F2.wk (fun _ _ z => z.rdf)).tr (Fw.wk (fun a j z => Or.inr (by omega)))), rfl, C2.fr Fw (fun a j z => by omega), ?_, ?_, rm_TW w c0 (by omega) (by omega) (by omega) (by omega)⟩
      · show ShR (m_wr h2 6 g v) 4 (ups T (82 + g) v)
        obtain ⟨r1, r2, r3, r4, r5, r6⟩ := R2
        refine ⟨?_, ?_, ?_, ?_, fun i i0 i1 => ?_, fun i i0 i1 => ?_⟩
        · rw [rd_a (by decide), up_k (by omega)]
          exact r1
        · rw [rd_a (by decide), up_k (by omega)]
          exact r2
        · rw [rd_a (by decide), up_k (by omega)]
          exact r3
        · rw [rd_a (by decide), cod_sg (S' := ups T (82 + g) v) (S := T) (up_k (by omega)) (up_k (by omega)) (up_k (by omega))]
          exact r4
        · rw [rd_a (by decide), up_k (k := 0) (by omega), up_k (k := 1) (by omega)]
          exact r5 i i0 i1
        · by_cases k : i = g
          · rw [rd_eq (show (4 : Int) + 2 = 6 from rfl) k, up_eq (by omega)]
          · rw [rd_ne (Or.inr k), up_k (by omega)]
            exact r6 i i0 i1
      · exact WkR.sg (W2.cg (fun a j a0 a1 => Fw.rd (by omega))) (by rw [beg_12]; omega) (by rw [beg_13]; omega) (fun k k0 k1 => by rw [eb, up_k (by omega)])
    · obtain ⟨h2, e2, F2, a1, a2⟩ := nnoC b C1 (by decide) o2
      rw [nst_f o2, e2, bd_some, if_pos rfl]
      exact ⟨0, h2, rfl, (F1.wk (fun _ _ z => z.rdf)).tr (F2.wk (fun _ _ z => z.rdf)), rfl, a1, a2⟩
  · obtain ⟨h1, e1, F1, a1, a2⟩ := nnoC b C (by decide) o1
    rw [nst_f o1, e1, bd_some, hasHole_ok (R.f1 F1), bd_some, if_neg (show ¬ ((0 : Int) ≤ -1 ∧ -1 < T 3) by omega), if_pos rfl]
    exact ⟨0, h1, rfl, F1.wk (fun _ _ z => z.rdf), rfl, a1, a2⟩
theorem tn_k {d p t k : Int} {T : Int → Int} (t0 : 0 ≤ T 4) (z : k < 88 ∧ k ≠ 4) : tnS d p t T k = T k := by
  have nb := tn_num (d := d) (p := p) t0
  unfold tnS
  rw [if_neg (by omega), if_neg (by omega), if_neg (by omega), if_neg z.2]
theorem tnS_4 {d p t : Int} {T : Int → Int} (t0 : 0 ≤ T 4) : tnS d p t T 4 = if num (beg T) d p = T 4 then T 4 + 1 else T 4 := by
  have nb := tn_num (d := d) (p := p) t0
  unfold tnS
  rw [if_neg (by omega), if_neg (by omega), if_neg (by omega), if_pos rfl]
theorem tn_TW {c d p t : Int} {T : Int → Int} (w : TW c T) (c0 : 1 ≤ c) (h4 : T 4 < 12) (d0 : 0 ≤ d) (d1 : d ≤ T 2) (p0 : 0 ≤ p) (p1 : p < pw (T 1) d) (t0 : 0 ≤ t) (t1 : t < T 3) : TW (c + 1) (tnS d p t T) := by
  have wb := w.1
  obtain ⟨u0, tb, W⟩ := w.b c0
  have nb := tn_num (d := d) (p := p) w.1.1
  have bk : ∀ k, k < 10 ∨ 82 ≤ k → beg T k = T k := fun k z => beg_k w.1.2.1 w.1.2.2.2 z
  refine ⟨?_, fun z => by omega, fun _ => ⟨?_, ?_⟩⟩
  · rw [tnS_4 w.1.1, tn_k w.1.1 (by omega)]
    have := w.1
    split <;> omega
  · rw [tn_k w.1.1 (by omega)]
    exact u0
  · have H := en_wf (d := d) (p := p) (t := t) W (by rw [bk 0 (by omega)]; exact u0) d0 (by rw [bk 2 (by omega)]; exact d1) p0 (by rw [bk 1 (by omega)]; exact p1) t0 (by rw [bk 3 (by omega)]; exact t1) (by omega)
    refine H.sg1 ?_ (fun k z => beg_en (by omega) (by omega) (by omega) w.1.2.2.2 (by omega) k (by omega) (by omega))
    rw [en_at 0 (by rw [beg_13]; omega), if_neg (by omega), if_neg (by omega), if_neg (by omega), if_neg (by omega), bk 0 (by omega)]
    exact u0
theorem entryC {B : Int → Int} {n p c : Int} {T : Int → Int} {h : MH} (b : BB B n) (C : CS h B n p) (R : ShR h 4 T) (W : WkR h 7 (beg T)) (w : TW c T) (c0 : 1 ≤ c) (h4 : T 4 < 12) : ∃ x h', GX3_takeEntry h = some (x, h') ∧ Fr RdF h h' ∧ OutC h' B n x (c + 1) (fen B n p T) := by
  have wb := w.1
  obtain ⟨t0, tb, Wb⟩ := w.b c0
  unfold GX3_takeEntry fen
  rw [R.2.1]
  by_cases o1 : nok B n 0 (T 2) p
  · obtain ⟨h1, e1, F1, C1⟩ := nokC b C (by decide) o1
    have l1 := o1.2.2
    have pb := pw_b (b := T 1) (n := nvl B n p) (by omega) (by omega) (by omega) (by omega)
    rw [nst_t o1, e1, bd_some, if_neg (by omega), prefixesOf_ok (R.f1 F1) (by omega) (by omega), bd_some, if_pos t0, w32_id (x := pw (T 1) (nvl B n p) - 1) (by omega) (by omega)]
    by_cases o2 : nok B n 0 (pw (T 1) (nvl B n p) - 1) (npo B n p)
    · obtain ⟨h2, e2, F2, C2⟩ := nokC b C1 (by decide) o2
      have l2 := o2.2.2
      have R2 := (R.f1 F1).f1 F2
      have W2 := (W.f1 F1).f1 F2
      rw [nst_t o2, e2, bd_some, if_neg (by omega), R2.2.2.1, w32_id (x := T 3 - 1) (by omega) (by omega)]
      by_cases o3 : nok B n 0 (T 3 - 1) (npo B n (npo B n p))
      · obtain ⟨h3, e3, F3, C3⟩ := nokC b C2 (by decide) o3
        have l3 := o3.2.2
        rw [nst_t o3, e3, bd_some, if_neg (by omega)]
        have R3 := R2.f1 F3
        have W3 := W2.f1 F3
        generalize nvl B n p = d at l1 l2 pb ⊢
        generalize nvl B n (npo B n p) = x at l2 ⊢
        generalize nvl B n (npo B n (npo B n p)) = t at l3 ⊢
        have nb := tn_num (d := d) (p := x) w.1.1
        obtain ⟨h4', e4, F4, P4⟩ := put_ok (t := 8) (d := d) (p := x) (x := t) W3.2.2.2.1 (by rw [beg_13]; omega) (by rw [beg_13]; omega) (by omega)
        rw [e4, bd_some]
        have tw := tn_TW (d := d) (p := x) (t := t) w c0 h4 (by omega) (by omega) (by omega) (by omega) (by omega) (by omega)
        refine ⟨1, h4', rfl, (F1.wk (fun _ _ z => z.rdf)).tr ((F2.wk (fun _ _ z => z.rdf)).tr ((F3.wk (fun _ _ z => z.rdf)).tr (F4.wk (fun a j z => Or.inr (by omega))))), rfl, C3.fr F4 (fun a j z => by omega), ?_, ?_, tw⟩
        · exact ShR.sg (R3.cg (fun a j a0 a1 => F4.rd (by omega))) (fun k z => tn_k w.1.1 (by omega))
        · have en : ∀ k, k ≠ 4 → k < 88 → beg (tnS d x t T) k = enS d x t (beg T) k := beg_en w.1.1 (by omega) (by omega) w.1.2.2.2 (by omega)
          have V := WkR.pl W3 P4 (fun a j a0 a1 a2 => F4.rd (by omega)) (fun k k0 k1 k2 => by rw [en_at k (by rw [beg_13]; omega), if_neg (by omega), if_neg (by omega), if_neg (by omega), if_neg k2]) (by rw [beg_12]; omega)
          refine WkR.sg V ?_ ?_ (fun k k0 k1 => en k (by omega) (by omega))
          · rw [← en 12 (by omega) (by omega), beg_12]
            have := tw.1
            omega
          · rw [← en 13 (by omega) (by omega), beg_13]
            have := tw.1
            omega
      · obtain ⟨h3, e3, F3, a1, a2⟩ := nnoC b C2 (by decide) o3
        rw [nst_f o3, e3, bd_some, if_pos rfl]
        exact ⟨0, h3, rfl, (F1.wk (fun _ _ z => z.rdf)).tr ((F2.wk (fun _ _ z => z.rdf)).tr (F3.wk (fun _ _ z => z.rdf))), rfl, a1, a2⟩
    · obtain ⟨h2, e2, F2, a1, a2⟩ := nnoC b C1 (by decide) o2
      rw [nst_f o2, e2, bd_some, if_pos rfl]
      exact ⟨0, h2, rfl, (F1.wk (fun _ _ z => z.rdf)).tr (F2.wk (fun _ _ z => z.rdf)), rfl, a1, a2⟩
  · obtain ⟨h1, e1, F1, a1, a2⟩ := nnoC b C (by decide) o1
    rw [nst_f o1, e1, bd_some, if_pos rfl]
    exact ⟨0, h1, rfl, F1.wk (fun _ _ z => z.rdf), rfl, a1, a2⟩
theorem lt_k {c k : Int} {T : Int → Int} (t0 : 0 ≤ T 5) (z : k < 124 ∧ k ≠ 5) : ltS c T k = T k := by
  unfold ltS
  rw [up_k z.2, up_k (by omega)]
theorem lt_TW {c v : Int} {T : Int → Int} (w : TW c T) (c0 : 1 ≤ c) (h5 : T 5 < 12) (v0 : 0 ≤ v) (v1 : v < pw (T 1) (T 2)) : TW (c + 1) (ltS v T) := by
  have wb := w.1
  obtain ⟨u0, tb, W⟩ := w.b c0
  have bk : ∀ k, k < 10 ∨ 82 ≤ k → beg T k = T k := fun k z => beg_k w.1.2.1 w.1.2.2.2 z
  have t0 := w.1.2.2.1
  have t5 : ltS v T 5 = T 5 + 1 := up_eq rfl
  refine ⟨?_, fun z => by omega, fun _ => ⟨?_, ?_⟩⟩
  · rw [t5, lt_k t0 (by omega)]
    have := w.1
    omega
  · rw [lt_k t0 (by omega)]
    exact u0
  · have H := cm_wf (c := v) W v0 (by unfold cod; rw [bk 0 (by omega), bk 1 (by omega), bk 2 (by omega), if_pos u0]; exact v1)
    refine H.sg1 ?_ (fun k z => beg_lt w.1.1 w.1.2.1 t0 h5 k (by omega) (by omega))
    rw [cm_at (by rw [beg_12]; omega), if_neg (by omega), if_neg (by rw [beg_12]; omega), bk 0 (by omega)]
    exact u0
theorem letterC {B : Int → Int} {n p c : Int} {T : Int → Int} {h : MH} (b : BB B n) (C : CS h B n p) (R : ShR h 4 T) (W : WkR h 7 (beg T)) (w : TW c T) (c0 : 1 ≤ c) (h5 : T 5 < 12) : ∃ x h', GX3_takeLetter h = some (x, h') ∧ Fr RdF h h' ∧ OutC h' B n x (c + 1) (flt B n p T) := by
  have wb := w.1
  obtain ⟨t0, tb, Wb⟩ := w.b c0
  have u0 := w.1.2.2.1
  have pb := pw_b (b := T 1) (n := T 2) (by omega) (by omega) (by omega) (by omega)
  have cd : cod T = pw (T 1) (T 2) := if_pos t0
  unfold GX3_takeLetter flt
  rw [R.2.2.2.1, cd, w32_id (x := pw (T 1) (T 2) - 1) (by omega) (by omega)]
  by_cases o1 : nok B n 0 (pw (T 1) (T 2) - 1) p
  · obtain ⟨h1, e1, F1, C1⟩ := nokC b C (by decide) o1
    have l1 := o1.2.2
    rw [nst_t o1, e1, bd_some, if_neg (by omega)]
    have R1 := R.f1 F1
    have W1 := W.f1 F1
    generalize nvl B n p = v at l1 ⊢
    obtain ⟨h2, e2, F2, W2⟩ := queue_ok (w := 7) (c := v) W1 (by rw [beg_12]; omega) (by rw [beg_12]; omega) (by rw [beg_13]; omega)
    rw [e2, bv_some]
    have tw := lt_TW (v := v) w c0 h5 (by omega) (by omega)
    have en : ∀ k, k ≠ 5 → k < 88 → beg (ltS v T) k = cmS v (beg T) k := beg_lt w.1.1 w.1.2.1 u0 h5
    refine ⟨1, h2, rfl, (F1.wk (fun _ _ z => z.rdf)).tr (F2.wk (fun a j z => Or.inr (by omega))), rfl, C1.fr F2 (fun a j z => by omega), ?_, ?_, tw⟩
    · exact ShR.sg (R1.cg (fun a j a0 a1 => F2.rd (by omega))) (fun k z => lt_k u0 (by omega))
    · refine WkR.sg W2 ?_ ?_ (fun k k0 k1 => en k (by omega) (by omega))
      · rw [← en 12 (by omega) (by omega), beg_12]
        have := tw.1
        omega
      · rw [← en 13 (by omega) (by omega), beg_13]
        have := tw.1
        omega
  · obtain ⟨h1, e1, F1, a1, a2⟩ := nnoC b C (by decide) o1
    rw [nst_f o1, e1, bd_some, if_pos rfl]
    exact ⟨0, h1, rfl, F1.wk (fun _ _ z => z.rdf), rfl, a1, a2⟩
