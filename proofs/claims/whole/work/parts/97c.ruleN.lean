/-! RULE read by the model: facts and tests, by the stack -/
noncomputable def AFT (K0 K1 : MH → Option (Int × MH)) (f : Nat) (h3 : MH) : Option (Int × MH) :=
        (bd (GX12_isWord 6385252 h3) (fun x5 h4 =>
         jn (fun (s7 : Int) (h8 : MH) =>
          (if s7 = 0 then
           GX12_tested_L12 K0 K1 f s7 h8
          else
           (bd (GX12_isWord 6385252 h8) (fun x10 h9 =>
            jn (fun (s12 : Int) =>
             (bv (GX12_passWord h9) (fun h13 =>
              (bd (GX12_strength s12 h13) (fun x15 h14 =>
               (bv (GX12_layDown x15 h14) (fun h16 =>
                gd [IB (m_rd h16 334 16) 400] (
                 hl (m_wr (m_wr h16 341 (m_rd h16 334 16) s12) 334 16 (m_w32 ((m_rd (m_wr h16 341 (m_rd h16 334 16) s12) 334 16) + 1))) (fun h17 =>
                  GX12_tested_L12 K0 K1 f s7 h17))))))))) (fun j11 =>
             (if x10 = 0 then
              j11 13
             else
              j11 12)))))) (fun j6 =>
          jn (fun (h19 : MH) =>
           j6 1 h19) (fun j18 =>
           (if x5 = 0 then
            (bd (GX12_isWord 28530 h4) (fun x21 h20 =>
             (if x21 = 0 then
              j6 0 h20
             else
              j18 h20)))
           else
            j18 h4)))))
noncomputable def PPf (K0 K1 : MH → Option (Int × MH)) (f f2 : Nat) (h : MH) : Option (Int × MH) := bd (GX12_fact_L2 (fun h1 => some (0, h1)) (fun h2 => some (0, h2)) (fun h3 => (bd (GX12_compare h3) (fun x5 h4 => gd [GT x5] (some (x5, h4))))) f2 1 h) (fun x2 h1 => if x2 = 0 then K0 h1 else bv (GX12_closes h1) (fun h3 => AFT K0 K1 f h3))
noncomputable def CCf (K0 K1 : MH → Option (Int × MH)) (f g : Nat) (h : MH) : Option (Int × MH) := bv (GX12_closes_L5 (fun h2 => some h2) g h) (fun h3 => AFT K0 K1 f h3)
noncomputable def RRf (K0 K1 : MH → Option (Int × MH)) (f g d : Nat) (h : MH) : Option (Int × MH) := bv (GX12_layDown_L0 3 (fun h1 => some h1) d h) (fun h1 => CCf K0 K1 f g h1)
theorem bv_bv {A : Option MH} {F : MH → Option MH} {G : MH → Option (Int × MH)} : bv (bv A F) G = bv A (fun h => bv (F h) G) := by
  cases A with
  | none => rfl
  | some h => rfl
theorem tst_1 {K0 K1 : MH → Option (Int × MH)} {f : Nat} {h : MH} : GX12_tested_L12 K0 K1 (f + 1) 1 h = PPf K0 K1 f FU h := by
  conv => lhs; unfold GX12_tested_L12
  rw [if_neg (by decide)]
  rfl
theorem tst_0 {K0 K1 : MH → Option (Int × MH)} {f : Nat} {h : MH} : GX12_tested_L12 K0 K1 (f + 1) 0 h = K1 h := by
  conv => lhs; unfold GX12_tested_L12
  rw [if_pos rfl]
theorem clo_1 {K0 K1 : MH → Option (Int × MH)} {f : Nat} {h : MH} : bv (GX12_closes h) (fun h3 => AFT K0 K1 f h3) = RRf K0 K1 f FU FU h := by
  unfold GX12_closes GX12_layDown RRf CCf
  exact bv_bv
def opst (o : Bool) : List Int := if o = true then [13] else []
/-- where a test's loop stands: what the pure reader has, what the model has -/
def TPt (o : Bool) (x : RST) (l : List Int) (y : RST) (s : List Int) : Prop := (s = opst o ++ l ∧ y = x) ∨ (s = 12 :: (opst o ++ l) ∧ x = pu (-30) y)
def bas (l : List Int) : Prop := l = [] ∨ ∃ t, l = 91 :: t
theorem lay_b {u : Int} {l : List Int} {x : RST} (u0 : 1 ≤ u) (b : bas l) : lay u l x = (l, x) := by
  rcases b with z | ⟨t, z⟩
  · rw [z]
    rfl
  · rw [z]
    unfold lay
    rw [if_pos (by have : stg 91 = 0 := by decide
                   omega)]
theorem TPt.mv {o : Bool} {x y : RST} {l s : List Int} {p : Int} (T : TPt o x l y s) : TPt o (mvp p x) l (mvp p y) s := by
  rcases T with ⟨a, b⟩ | ⟨a, b⟩
  · exact Or.inl ⟨a, by rw [b]⟩
  · exact Or.inr ⟨a, by rw [b]; rfl⟩
theorem TPt.e1 {o : Bool} {x y : RST} {l s : List Int} (T : TPt o x l y s) : y.1 = x.1 ∧ y.2.1 + (s.length : Int) = x.2.1 + ((opst o).length : Int) + (l.length : Int) ∧ y.2.1 ≤ x.2.1 ∧ stD s = stD l ∧ (91 ∈ l → 91 ∈ s) := by
  have od : stD (opst o ++ l) = stD l := by
    cases o with
    | false => rfl
    | true =>
      show stD l + (if (13 : Int) = 11 ∨ (13 : Int) = 91 then 1 else 0) = stD l
      rw [if_neg (by decide)]
      omega
  rcases T with ⟨a, b⟩ | ⟨a, b⟩
  · rw [a, b, List.length_append]
    exact ⟨rfl, by omega, Int.le_refl _, od, fun z => List.mem_append.2 (Or.inr z)⟩
  · rw [a, b, len_c, List.length_append]
    refine ⟨rfl, by show y.2.1 + _ = y.2.1 + 1 + _ + _; omega, by show y.2.1 ≤ y.2.1 + 1; omega, ?_, fun z => List.mem_cons_of_mem _ (List.mem_append.2 (Or.inr z))⟩
    show stD (opst o ++ l) + (if (12 : Int) = 11 ∨ (12 : Int) = 91 then 1 else 0) = stD l
    rw [if_neg (by decide), od]
    omega
theorem TPt.nm {o : Bool} {x y : RST} {s : List Int} (T : TPt o x [] y s) : 91 ∉ s := by
  have od : (91 : Int) ∉ opst o ++ [] := by
    cases o with
    | false => exact List.not_mem_nil
    | true =>
      intro z
      have : (91 : Int) = 13 := List.mem_singleton.1 z
      omega
  rcases T with ⟨a, b⟩ | ⟨a, b⟩
  · rw [a]
    exact od
  · rw [a]
    intro z
    rcases List.mem_cons.1 z with z | z
    · omega
    · exact od z
theorem opn_1 {o : Bool} {x : RST} : (opn o x).1 = x.1 ∧ (opn o x).2.1 = x.2.1 + ((opst o).length : Int) ∧ (opn o x).2.2.1 = x.2.2.1 := by
  cases o with
  | false => exact ⟨rfl, (Int.add_zero _).symm, rfl⟩
  | true => exact ⟨rfl, rfl, rfl⟩
theorem opn_mv {o : Bool} {x : RST} {p : Int} : opn o (mvp p x) = mvp p (opn o x) := by
  cases o with
  | false => rfl
  | true => rfl
theorem TPt.l2 {o : Bool} {x y : RST} {l s : List Int} (T : TPt o x l y s) (b : bas l) : lay 2 s y = (opst o ++ l, x) := by
  have od : lay 2 (opst o ++ l) x = (opst o ++ l, x) := by
    cases o with
    | false => exact lay_b (by decide) b
    | true =>
      show (if stg 13 < 2 then (13 :: l, x) else _) = _
      rw [if_pos (by decide)]
      rfl
  rcases T with ⟨a, e⟩ | ⟨a, e⟩
  · rw [a, e]
    exact od
  · rw [a]
    unfold lay
    rw [if_neg (by decide), show pu (dcd 12) y = x from e.symm]
    exact od
theorem TPt.l1 {o : Bool} {x y : RST} {l s : List Int} (T : TPt o x l y s) (b : bas l) : lay 1 s y = (l, opn o x) := by
  have od : lay 1 (opst o ++ l) x = (l, opn o x) := by
    cases o with
    | false => exact lay_b (by decide) b
    | true =>
      show (if stg 13 < 1 then (13 :: l, x) else lay 1 l (pu (dcd 13) x)) = _
      rw [if_neg (by decide)]
      exact lay_b (by decide) b
  rcases T with ⟨a, e⟩ | ⟨a, e⟩
  · rw [a, e]
    exact od
  · rw [a]
    unfold lay
    rw [if_neg (by decide), show pu (dcd 12) y = x from e.symm]
    exact od
theorem TPt.t3 {o : Bool} {x y : RST} {l s : List Int} (T : TPt o x l y s) (b : bas l) : s = [] ∨ ∃ a t, s = a :: t ∧ stg a < 3 := by
  rcases T with ⟨a, e⟩ | ⟨a, e⟩
  · cases o with
    | false =>
      rcases b with z | ⟨t, z⟩
      · exact Or.inl (by rw [a, z]; rfl)
      · exact Or.inr ⟨91, t, by rw [a, z]; rfl, by decide⟩
    | true => exact Or.inr ⟨13, l, a, by decide⟩
  · exact Or.inr ⟨12, _, a, by decide⟩
theorem wd_0 {B : Int → Int} {n q a w : Int} (W : WD a w) (hw : wdp B n q a) : 97 ≤ bya B n q ∧ bya B n q ≤ 122 := by
  have l := W.2.1
  have c := hw.1 0 (Int.le_refl _) (by omega)
  rw [Int.add_zero] at c
  rw [c]
  exact W.2.2.2.1 0 (Int.le_refl _) (by omega)
/-- behind a fact: a joining word, or none -/
theorem aftJ {B : Int → Int} {n k a w u s12 : Int} {K0 K1 : MH → Option (Int × MH)} {f : Nat} {x z : RST} {l t : List Int} {h0 h : MH} (b : BB B n) (M : MRu h B n k x) (S : StK h l) (F : Fr (Mu1 k) h0 h) (W : WD a w) (hw : wdp B n x.1 a) (e12 : s12 = 12 ∨ s12 = 13) (hu : u = stg s12) (s0 : 0 ≤ x.2.1) (s1 : x.2.1 + (l.length : Int) < 400) (L : lay u l (mvp (x.1 + t_len a) x) = (t, z)) (tl : (t.length : Int) < 400) : ∃ h', bv (GX12_passWord h) (fun h13 => (bd (GX12_strength s12 h13) (fun x15 h14 => (bv (GX12_layDown x15 h14) (fun h16 => gd [IB (m_rd h16 334 16) 400] (hl (m_wr (m_wr h16 341 (m_rd h16 334 16) s12) 334 16 (m_w32 ((m_rd (m_wr h16 341 (m_rd h16 334 16) s12) 334 16) + 1))) (fun h17 => GX12_tested_L12 K0 K1 f 1 h17))))))) = GX12_tested_L12 K0 K1 f 1 h' ∧ Fr (Mu1 k) h0 h' ∧ MRu h' B n k z ∧ StK h' (s12 :: t) := by
  obtain ⟨h1, e1, F1, M1⟩ := passU b M W hw
  have S1 := S.f8 F1
  have u1 : 1 ≤ u := by
    rcases e12 with q | q <;> subst q <;> subst hu <;> decide
  obtain ⟨h2, e2, F2, M2, S2⟩ := layU (K := fun h1 => some h1) u1 l FU (mvp (x.1 + t_len a) x) h1 (by unfold FU; omega) M1 S1 s0 (by show x.2.1 + (l.length : Int) ≤ 400; omega)
  rw [L] at M2 S2
  rw [e1, bv_some, strengthU, bd_some, ← hu]
  unfold GX12_layDown
  simp only [hl]
  rw [e2, bv_some, S2.1, gd_ib (by omega) tl, gd_nil, rd_ne (by omega), S2.1, w32_id (x := (t.length : Int) + 1) (by omega) (by omega)]
  obtain ⟨F3, M3, S3⟩ := pushU M2 S2 e12
  exact ⟨_, rfl, ((F.tr (F1.wk (fun _ _ z => z.mu.u1))).tr F2).tr F3, M3, S3⟩
theorem aftAnd {B : Int → Int} {n k : Int} {K0 K1 : MH → Option (Int × MH)} {f : Nat} {o : Bool} {x y : RST} {l s : List Int} {h : MH} (b : BB B n) (M : MRu h B n k y) (S : StK h s) (T : TPt o x l y s) (bl : bas l) (s0 : 0 ≤ y.2.1) (s1 : x.2.1 + ((opst o).length : Int) + (l.length : Int) < x.1) (x1 : x.1 ≤ n) (hw : wdp B n (sk B n x.1) (-27)) : ∃ h', AFT K0 K1 f h = GX12_tested_L12 K0 K1 f 1 h' ∧ Fr (Mu1 k) h h' ∧ MRu h' B n k (mvp (sk B n x.1 + 3) x) ∧ StK h' (12 :: (opst o ++ l)) := by
  have b1 := b.2.1
  obtain ⟨t1, t2, t3, t4, t5⟩ := T.e1
  have p0 := M.p0
  have p1 := M.p1
  have hs : sk B n (sk B n y.1) = sk B n y.1 := sk_i b.2.1 M.p0
  rw [← t1] at hw
  obtain ⟨v, h1, e1, F1, M1, y1, y0⟩ := wordU b M wd_27
  obtain ⟨v2, h2, e2, F2, M2, z1, z0⟩ := wordU b M1 wd_27
  have hs' : sk B n (mvp (sk B n y.1) y).1 = sk B n y.1 := hs
  rw [hs'] at M2 z1 z0
  have sy0 : 0 ≤ x.2.1 := by omega
  have xl : 0 ≤ ((opst o).length : Int) := by omega
  obtain ⟨h3, e3, F3, M3, S3⟩ := aftJ (K0 := K0) (K1 := K1) (f := f) (s12 := 12) (u := 2) (z := mvp (sk B n y.1 + 3) x) (t := opst o ++ l) b (show MRu h2 B n k (mvp (sk B n y.1) y) from M2) ((S.f8 F1).f8 F2) ((F1.wk (fun _ _ z => z.mu.u1)).tr (F2.wk (fun _ _ z => z.mu.u1))) wd_27 hw (Or.inl rfl) rfl s0 (by show y.2.1 + (s.length : Int) < 400; omega) (by
    rw [show t_len (-27) = 3 by decide]
    exact (T.mv (p := sk B n y.1 + 3)).l2 bl) (by rw [List.length_append]; omega)
  unfold AFT
  simp only [jn, if_true]
  rw [e1, bd_some, if_neg (by rw [y1 hw]; decide), if_neg (show ¬ (1 : Int) = 0 by decide), e2, bd_some, if_neg (by rw [z1 hw]; decide), e3, ← t1]
  exact ⟨h3, rfl, F3, M3, S3⟩
theorem aftOr {B : Int → Int} {n k : Int} {K0 K1 : MH → Option (Int × MH)} {f : Nat} {o : Bool} {x y : RST} {l s : List Int} {h : MH} (b : BB B n) (M : MRu h B n k y) (S : StK h s) (T : TPt o x l y s) (bl : bas l) (s0 : 0 ≤ y.2.1) (s1 : x.2.1 + ((opst o).length : Int) + (l.length : Int) < x.1) (x1 : x.1 ≤ n) (nw : ¬ wdp B n (sk B n x.1) (-27)) (hw : wdp B n (sk B n x.1) (-28)) : ∃ h', AFT K0 K1 f h = GX12_tested_L12 K0 K1 f 1 h' ∧ Fr (Mu1 k) h h' ∧ MRu h' B n k (opn o (mvp (sk B n x.1 + 2) x)) ∧ StK h' (13 :: l) := by
  have b1 := b.2.1
  obtain ⟨t1, t2, t3, t4, t5⟩ := T.e1
  have p0 := M.p0
  have p1 := M.p1
  have hs : sk B n (sk B n y.1) = sk B n y.1 := sk_i b.2.1 M.p0
  rw [← t1] at hw nw
  obtain ⟨v, h1, e1, F1, M1, y1, y0⟩ := wordU b M wd_27
  obtain ⟨v2, h2, e2, F2, M2, z1, z0⟩ := wordU b M1 wd_28
  have hs' : sk B n (mvp (sk B n y.1) y).1 = sk B n y.1 := hs
  rw [hs'] at M2 z1 z0
  have M2' : MRu h2 B n k (mvp (sk B n y.1) y) := M2
  obtain ⟨v3, h3, e3, F3, M3, w1, w0⟩ := wordU b M2' wd_27
  rw [hs'] at M3 w1 w0
  obtain ⟨h4, e4, F4, M4, S4⟩ := aftJ (K0 := K0) (K1 := K1) (f := f) (s12 := 13) (u := 1) (z := opn o (mvp (sk B n y.1 + 2) x)) (t := l) b (show MRu h3 B n k (mvp (sk B n y.1) y) from M3) (((S.f8 F1).f8 F2).f8 F3) (((F1.wk (fun _ _ z => z.mu.u1)).tr (F2.wk (fun _ _ z => z.mu.u1))).tr (F3.wk (fun _ _ z => z.mu.u1))) wd_28 hw (Or.inr rfl) rfl s0 (by show y.2.1 + (s.length : Int) < 400; omega) (by
    rw [show t_len (-28) = 2 by decide]
    exact (T.mv (p := sk B n y.1 + 2)).l1 bl) (by omega)
  unfold AFT
  simp only [jn, if_true]
  rw [e1, bd_some, if_pos (y0 nw), e2, bd_some, if_neg (by rw [z1 hw]; decide), if_neg (show ¬ (1 : Int) = 0 by decide), e3, bd_some, if_pos (w0 nw), e4, ← t1]
  exact ⟨h4, rfl, F4, M4, S4⟩
theorem aftEnd {B : Int → Int} {n k : Int} {K0 K1 : MH → Option (Int × MH)} {f : Nat} {y : RST} {s : List Int} {h : MH} (b : BB B n) (M : MRu h B n k y) (S : StK h s) (nw : ¬ wdp B n (sk B n y.1) (-27)) (nw2 : ¬ wdp B n (sk B n y.1) (-28)) : ∃ h', AFT K0 K1 (f + 1) h = K1 h' ∧ Fr (Mu1 k) h h' ∧ MRu h' B n k (mvp (sk B n y.1) y) ∧ StK h' s := by
  have hs : sk B n (sk B n y.1) = sk B n y.1 := sk_i b.2.1 M.p0
  obtain ⟨v, h1, e1, F1, M1, y1, y0⟩ := wordU b M wd_27
  obtain ⟨v2, h2, e2, F2, M2, z1, z0⟩ := wordU b M1 wd_28
  have hs' : sk B n (mvp (sk B n y.1) y).1 = sk B n y.1 := hs
  rw [hs'] at M2 z1 z0
  unfold AFT
  simp only [jn, if_true]
  rw [e1, bd_some, if_pos (y0 nw), e2, bd_some, if_pos (z0 nw2), tst_0]
  exact ⟨h2, rfl, (F1.wk (fun _ _ z => z.mu.u1)).tr (F2.wk (fun _ _ z => z.mu.u1)), M2, (S.f8 F1).f8 F2⟩
/-- nothing closes here -/
theorem cloN {B : Int → Int} {n k : Int} {K0 K1 : MH → Option (Int × MH)} {f g : Nat} {y : RST} {s : List Int} {h : MH} (b : BB B n) (M : MRu h B n k y) (S : StK h s) (sl : (s.length : Int) ≤ 400) (no : bya B n (sk B n y.1) ≠ 93 ∨ 91 ∉ s) : ∃ h', CCf K0 K1 f (g + 1) h = AFT K0 K1 f h' ∧ Fr (Mu1 k) h h' ∧ MRu h' B n k (mvp (sk B n y.1) y) ∧ StK h' s := by
  obtain ⟨h1, e1, F1, M1⟩ := seeU b M
  have S1 := S.f8 F1
  unfold CCf
  conv => enter [1, h', 1, 1]; unfold GX12_closes_L5
  rw [e1, bd_some]
  by_cases c : bya B n (sk B n y.1) = 93
  · have ns : 91 ∉ s := by
      rcases no with z | z
      · exact absurd c z
      · exact z
    rw [if_pos c, (insideU S1 sl).2 ns, bd_some, if_pos rfl, bv_some]
    exact ⟨h1, rfl, F1.wk (fun _ _ z => z.mu.u1), M1, S1⟩
  · rw [if_neg c, bv_some]
    exact ⟨h1, rfl, F1.wk (fun _ _ z => z.mu.u1), M1, S1⟩
/-- a bracket closes -/
theorem cloY {B : Int → Int} {n k : Int} {K0 K1 : MH → Option (Int × MH)} {f g : Nat} {o : Bool} {x y : RST} {l s : List Int} {h : MH} (b : BB B n) (M : MRu h B n k y) (S : StK h s) (T : TPt o x (91 :: l) y s) (s0 : 0 ≤ y.2.1) (s1 : x.2.1 + ((opst o).length : Int) + ((91 :: l).length : Int) < x.1) (x1 : x.1 ≤ n) (hc : bya B n (sk B n x.1) = 93) : ∃ h', CCf K0 K1 f (g + 1) h = RRf K0 K1 f g FU h' ∧ Fr (Mu1 k) h h' ∧ MRu h' B n k (mvp (sk B n x.1 + 1) (opn o x)) ∧ StK h' l := by
  have b1 := b.2.1
  obtain ⟨t1, t2, t3, t4, t5⟩ := T.e1
  have p0 := M.p0
  have sb := sk_b (B := B) b.2.1 M.p0 M.p1
  rw [← t1] at hc
  rw [len_c] at s1 t2
  have ln : sk B n y.1 < n := by
    by_cases z : sk B n y.1 < n
    · exact z
    · have := bya_o (B := B) (n := n) (q := sk B n y.1) (by omega)
      omega
  obtain ⟨h1, e1, F1, M1⟩ := seeU b M
  have S1 := S.f8 F1
  obtain ⟨h2, e2, F2, M2, S2⟩ := layU (K := fun h1 => some h1) (u := 1) (by decide) s FU (mvp (sk B n y.1) y) h1 (by unfold FU; omega) M1 S1 s0 (by show y.2.1 + (s.length : Int) ≤ 400; omega)
  rw [(T.mv (p := sk B n y.1)).l1 (Or.inr ⟨l, rfl⟩)] at M2 S2
  have M2' : MRu h2 B n k (opn o (mvp (sk B n y.1) x)) := M2
  have o1 := (opn_1 (o := o) (x := mvp (sk B n y.1) x)).1
  have o1' : (opn o (mvp (sk B n y.1) x)).1 = sk B n y.1 := o1
  obtain ⟨q1, q2, q3⟩ := S2
  have d : stD (91 :: l) = stD l + 1 := by
    show stD l + (if (91 : Int) = 11 ∨ (91 : Int) = 91 then 1 else 0) = stD l + 1
    rw [if_pos (by decide)]
  have db := stD_b l
  have q1' : m_rd h2 334 16 = (l.length : Int) + 1 := by
    rw [q1]
    exact len_c
  have q3' : m_rd h2 334 13 = stD l + 1 := by
    rw [q3]
    exact d
  have F3 : Fr (fun a j => a = 334 ∧ (j = 8 ∨ j = 13 ∨ j = 16)) h2 (m_wr (m_wr (m_wr h2 334 16 (l.length : Int)) 334 13 (stD l)) 334 8 (sk B n y.1 + 1)) := Fr.wr (Fr.wr (Fr.wr Fr.rf (by omega)) (by omega)) (by omega)
  unfold CCf
  conv => enter [1, h', 1, 1]; unfold GX12_closes_L5
  simp only [hl]
  unfold GX12_layDown
  rw [e1, bd_some, if_pos hc, (insideU S1 (by omega)).1 (t5 List.mem_cons_self), bd_some, if_neg (by decide), e2, bv_some, q1', show (l.length : Int) + 1 - 1 = (l.length : Int) by omega, w32_id (x := (l.length : Int)) (by omega) (by omega), rd_ne (show ((334 : Int) ≠ 334 ∨ (13 : Int) ≠ 16) by omega), q3', show stD l + 1 - 1 = stD l by omega, w32_id (x := stD l) (by omega) (by omega), rd_ne (show ((334 : Int) ≠ 334 ∨ (8 : Int) ≠ 13) by omega), rd_ne (show ((334 : Int) ≠ 334 ∨ (8 : Int) ≠ 16) by omega), show m_rd h2 334 8 = sk B n y.1 by rw [M2'.2.1]; exact o1', w32_id (x := sk B n y.1 + 1) (by omega) (by omega), bv_bv, ← t1]
  refine ⟨_, rfl, ((F1.wk (fun _ _ z => z.mu.u1)).tr F2).tr (F3.wk (fun a j z => by unfold Mu1 Mu0; omega)), ?_, ?_, stR.cg l (fun j _ _ => F3.rd (by omega)) q2.2.2, ?_⟩
  · have := M2'.fr F3 (fun a j z => by omega) (rd_eq rfl rfl) (by omega) (by omega)
    rw [opn_mv] at this
    exact this
  · rw [rd_ne (by omega), rd_ne (by omega), rd_eq rfl rfl]
  · rw [rd_ne (by omega), rd_eq rfl rfl]
