/-! RULE read by the model: facts and tests -/
def BadU (h0 : MH) (B : Int → Int) (n k : Int) (K0 K1 : MH → Option (Int × MH)) (r : Option (Int × MH)) (e : Int) : Prop := (∃ h', r = K0 h' ∧ Fr (Mu1 k) h0 h' ∧ m_rd h' 334 9 = e ∧ 0 < e) ∨ (∃ h' y s, r = K1 h' ∧ Fr (Mu1 k) h0 h' ∧ MRu h' B n k y ∧ StK h' s ∧ 91 ∈ s ∧ (s.length : Int) ≤ 400 ∧ e = 1 + 8 * sk B n y.1 + 0)
theorem BadU.st {h0 h1 : MH} {B : Int → Int} {n k e : Int} {K0 K1 : MH → Option (Int × MH)} {r : Option (Int × MH)} (F : Fr (Mu1 k) h0 h1) (b : BadU h1 B n k K0 K1 r e) : BadU h0 B n k K0 K1 r e := by
  rcases b with ⟨h', e', F', a⟩ | ⟨h', y, s, e', F', a⟩
  · exact Or.inl ⟨h', e', F.tr F', a⟩
  · exact Or.inr ⟨h', y, s, e', F.tr F', a⟩
def AOut (h0 : MH) (B : Int → Int) (n k : Int) (K0 K1 : MH → Option (Int × MH)) (l : List Int) (r : Option (Int × MH)) (R : RAN) : Prop := match R with
  | .inl e => BadU h0 B n k K0 K1 r e
  | .inr y => ∃ f g d h', r = RRf K0 K1 f g d h' ∧ Fr (Mu1 k) h0 h' ∧ MRu h' B n k y ∧ StK h' l ∧ (n - y.1).toNat < f ∧ (n - y.1).toNat < g ∧ l.length < d
theorem AOut.st {h0 h1 : MH} {B : Int → Int} {n k : Int} {K0 K1 : MH → Option (Int × MH)} {l : List Int} {r : Option (Int × MH)} {R : RAN} (F : Fr (Mu1 k) h0 h1) (b : AOut h1 B n k K0 K1 l r R) : AOut h0 B n k K0 K1 l r R := by
  match R, b with
  | .inl e, b => exact BadU.st F b
  | .inr y, ⟨f, g, d, h', e', F', a⟩ => exact ⟨f, g, d, h', e', F.tr F', a⟩
def HA (B : Int → Int) (n k : Int) (K0 K1 : MH → Option (Int × MH)) (D : Int) (G : RST → RAN) : Prop := ∀ (f f2 : Nat) (x : RST) (l : List Int) (h : MH), (n - x.1).toNat < f → (n - x.1).toNat + 1 < f2 → MRu h B n k x → StK h l → stD l = D → OkT n x → x.2.1 + (l.length : Int) < x.1 → AOut h B n k K0 K1 l (PPf K0 K1 f f2 h) (G x)
def BOut (h0 : MH) (B : Int → Int) (n k : Int) (K0 K1 : MH → Option (Int × MH)) (l : List Int) (r : Option (Int × MH)) (R : RAN) : Prop := match R with
  | .inl e => BadU h0 B n k K0 K1 r e
  | .inr z => ∃ f g o x y s h', r = CCf K0 K1 f g h' ∧ Fr (Mu1 k) h0 h' ∧ MRu h' B n k y ∧ StK h' s ∧ TPt o x l y s ∧ z = opn o (mvp (sk B n x.1) x) ∧ ¬ wdp B n (sk B n x.1) (-27) ∧ ¬ wdp B n (sk B n x.1) (-28) ∧ (n - x.1).toNat < f ∧ (n - x.1).toNat < g ∧ OkT n x ∧ 0 ≤ y.2.1 ∧ x.2.1 + ((opst o).length : Int) + (l.length : Int) < x.1
theorem BOut.st {h0 h1 : MH} {B : Int → Int} {n k : Int} {K0 K1 : MH → Option (Int × MH)} {l : List Int} {r : Option (Int × MH)} {R : RAN} (F : Fr (Mu1 k) h0 h1) (b : BOut h1 B n k K0 K1 l r R) : BOut h0 B n k K0 K1 l r R := by
  match R, b with
  | .inl e, b => exact BadU.st F b
  | .inr z, ⟨f, g, o, x, y, s, h', e', F', a⟩ => exact ⟨f, g, o, x, y, s, h', e', F.tr F', a⟩
theorem rr_cc {K0 K1 : MH → Option (Int × MH)} {f g d : Nat} {h : MH} {s : List Int} (S : StK h s) (sl : (s.length : Int) ≤ 400) (t : s = [] ∨ ∃ a t, s = a :: t ∧ stg a < 3) (d0 : 0 < d) : RRf K0 K1 f g d h = CCf K0 K1 f g h := by
  obtain ⟨q, rfl⟩ : ∃ q, d = q + 1 := ⟨d - 1, by omega⟩
  unfold RRf
  rw [layE S sl t, bv_some]
theorem stD_12 {o : Bool} {l : List Int} : stD (12 :: (opst o ++ l)) = stD l := (TPt.e1 (o := o) (x := pu (-30) (0, 0, 0, fun _ => 0)) (l := l) (y := (0, 0, 0, fun _ => 0)) (Or.inr ⟨rfl, rfl⟩)).2.2.2.1
theorem stD_13 {l : List Int} : stD (13 :: l) = stD l := (TPt.e1 (o := true) (x := (0, 0, 0, fun _ => 0)) (l := l) (y := (0, 0, 0, fun _ => 0)) (Or.inl ⟨rfl, rfl⟩)).2.2.2.1
theorem tst_B {B : Int → Int} {n k : Int} {K0 K1 : MH → Option (Int × MH)} {G : RST → RAN} {l : List Int} (b : BB B n) (hQ : FQ n G) (hA : HA B n k K0 K1 (stD l) G) (bl : bas l) : ∀ (d f g m : Nat) (o : Bool) (x y : RST) (s : List Int) (h : MH), (n - x.1).toNat ≤ d → d < f → d < g → d < m → MRu h B n k y → StK h s → TPt o x l y s → OkT n x → 0 ≤ y.2.1 → x.2.1 + ((opst o).length : Int) + (l.length : Int) < x.1 → BOut h B n k K0 K1 l (CCf K0 K1 f g h) (tlo B n G m o x) := by
  intro d
  induction d using Nat.strongRecOn with
  | ind d ih =>
  intro f g m o x y s h hd hf hg hm M S T ok s0 rm
  obtain ⟨r, rfl⟩ : ∃ r, m = r + 1 := ⟨m - 1, by omega⟩
  obtain ⟨f', rfl⟩ : ∃ q, f = q + 1 := ⟨f - 1, by omega⟩
  obtain ⟨g', rfl⟩ : ∃ q, g = q + 1 := ⟨g - 1, by omega⟩
  have b1 := b.2.1
  have p0 := ok.1.1
  have p1 := ok.1.2.1
  obtain ⟨t1, t2, t3, t4, t5⟩ := T.e1
  have sb := sk_b (B := B) b.2.1 ok.1.1 ok.1.2.1
  have hs : sk B n (sk B n x.1) = sk B n x.1 := sk_i b.2.1 p0
  have x0 := ok.1.2.2.1
  have te : tlo B n G (r + 1) o x = if dec (wdp B n (sk B n x.1) (-27)) = true then rb (G (mvp (sk B n x.1 + 3) x)) (fun y => tlo B n G r o (pu (-30) y)) else if dec (wdp B n (sk B n x.1) (-28)) = true then rb (G (opn o (mvp (sk B n x.1 + 2) x))) (fun y => tlo B n G r true y) else .inr (opn o (mvp (sk B n x.1) x)) := rfl
  rw [te]
  by_cases w1 : wdp B n (sk B n x.1) (-27)
  · have we := wd_end b wd_27 (by omega) sb.2 w1
    rw [show t_len (-27) = 3 by decide] at we
    have w9 := wd_0 wd_27 w1
    obtain ⟨h1, e1, F1, M1, S1⟩ := cloN (K0 := K0) (K1 := K1) (f := f' + 1) (g := g') b M S (by omega) (Or.inl (by rw [t1]; omega))
    rw [t1] at M1
    obtain ⟨h2, e2, F2, M2, S2⟩ := aftAnd (K0 := K0) (K1 := K1) (f := f' + 1) b M1 S1 (T.mv (p := sk B n x.1)) bl s0 (by show x.2.1 + _ + _ < sk B n x.1; omega) sb.2 (by show wdp B n (sk B n (sk B n x.1)) (-27); rw [hs]; exact w1)
    have M2' : MRu h2 B n k (mvp (sk B n x.1 + 3) x) := by
      have : MRu h2 B n k (mvp (sk B n (sk B n x.1) + 3) x) := M2
      rw [hs] at this
      exact this
    have om : OkT n (mvp (sk B n x.1 + 3) x) := ⟨⟨by show (0 : Int) ≤ sk B n x.1 + 3; omega, by show sk B n x.1 + 3 ≤ n; omega, ok.1.2.2.1, ok.1.2.2.2⟩, by show x.2.1 < sk B n x.1 + 3; omega, ok.2.2⟩
    have ln : ((12 :: (opst o ++ l)).length : Int) = ((opst o).length : Int) + (l.length : Int) + 1 := by
      rw [len_c, List.length_append]
      omega
    have A := hA f' FU (mvp (sk B n x.1 + 3) x) (12 :: (opst o ++ l)) h2 (by show (n - (sk B n x.1 + 3)).toNat < f'; omega) (by show (n - (sk B n x.1 + 3)).toNat + 1 < FU; unfold FU; omega) M2' S2 stD_12 om (by show x.2.1 + _ < sk B n x.1 + 3; omega)
    have F12' : Fr (Mu1 k) h h2 := F1.tr F2
    rw [if_pos (dec_t w1), e1, e2, tst_1]
    refine BOut.st F12' ?_
    cases hv : G (mvp (sk B n x.1 + 3) x) with
    | inl e =>
      rw [hv] at A
      exact A
    | inr u =>
      rw [hv] at A
      obtain ⟨f3, g3, d3, h3, e3, F3, M3, S3, a1, a2, a3⟩ := A
      have Q := hQ _ _ om.1 hv
      have q3 : u.2.1 - x.2.1 ≤ u.1 - (sk B n x.1 + 3) := Q.2.2
      have q4 : sk B n x.1 + 3 < u.1 := Q.2.1
      have ou := Q.okt om
      have u1 := ou.1.2.1
      have u0 := ou.1.2.2.1
      rw [e3, rr_cc S3 (by omega) (Or.inr ⟨12, _, rfl, by decide⟩) (by omega)]
      refine BOut.st F3 (ih (n - u.1).toNat (by omega) f3 g3 r o (pu (-30) u) u (12 :: (opst o ++ l)) h3 (Nat.le_refl _) a1 a2 (by omega) M3 S3 (Or.inr ⟨rfl, rfl⟩) ⟨⟨ou.1.1, ou.1.2.1, by show 0 ≤ u.2.1 + 1; omega, ou.1.2.2.2⟩, by show u.2.1 + 1 < u.1; omega, ou.2.2⟩ u0 (by show u.2.1 + 1 + _ + _ < u.1; omega))
  rw [if_neg (show ¬ dec (wdp B n (sk B n x.1) (-27)) = true by rw [dec_f w1]; decide)]
  by_cases w2 : wdp B n (sk B n x.1) (-28)
  · have we := wd_end b wd_28 (by omega) sb.2 w2
    rw [show t_len (-28) = 2 by decide] at we
    have w9 := wd_0 wd_28 w2
    obtain ⟨h1, e1, F1, M1, S1⟩ := cloN (K0 := K0) (K1 := K1) (f := f' + 1) (g := g') b M S (by omega) (Or.inl (by rw [t1]; omega))
    rw [t1] at M1
    obtain ⟨h2, e2, F2, M2, S2⟩ := aftOr (K0 := K0) (K1 := K1) (f := f' + 1) b M1 S1 (T.mv (p := sk B n x.1)) bl s0 (by show x.2.1 + _ + _ < sk B n x.1; omega) sb.2 (by show ¬ wdp B n (sk B n (sk B n x.1)) (-27); rw [hs]; exact w1) (by show wdp B n (sk B n (sk B n x.1)) (-28); rw [hs]; exact w2)
    have M2' : MRu h2 B n k (opn o (mvp (sk B n x.1 + 2) x)) := by
      have : MRu h2 B n k (opn o (mvp (sk B n (sk B n x.1) + 2) x)) := M2
      rw [hs] at this
      exact this
    obtain ⟨o1, o2, o3⟩ := opn_1 (o := o) (x := mvp (sk B n x.1 + 2) x)
    have o1' : (opn o (mvp (sk B n x.1 + 2) x)).1 = sk B n x.1 + 2 := o1
    have o2' : (opn o (mvp (sk B n x.1 + 2) x)).2.1 = x.2.1 + ((opst o).length : Int) := o2
    have o3' : (opn o (mvp (sk B n x.1 + 2) x)).2.2.1 = x.2.2.1 := o3
    have om : OkT n (opn o (mvp (sk B n x.1 + 2) x)) := by
      unfold OkT OkS
      rw [o1', o2', o3']
      exact ⟨⟨by omega, by omega, by omega, ok.1.2.2.2⟩, by omega, ok.2.2⟩
    generalize opn o (mvp (sk B n x.1 + 2) x) = v at M2' om o1' o2' o3' ⊢
    have ln : ((13 :: l).length : Int) = (l.length : Int) + 1 := len_c
    have A := hA f' FU v (13 :: l) h2 (by omega) (by unfold FU; omega) M2' S2 stD_13 om (by omega)
    have F12' : Fr (Mu1 k) h h2 := F1.tr F2
    rw [if_pos (dec_t w2), e1, e2, tst_1]
    refine BOut.st F12' ?_
    cases hv : G v with
    | inl e =>
      rw [hv] at A
      exact A
    | inr u =>
      rw [hv] at A
      obtain ⟨f3, g3, d3, h3, e3, F3, M3, S3, a1, a2, a3⟩ := A
      have Q := hQ _ _ om.1 hv
      have q3 := Q.2.2
      have q4 := Q.2.1
      have ou := Q.okt om
      have u1 := ou.1.2.1
      have u0 := ou.1.2.2.1
      have l1 : ((opst true).length : Int) = 1 := rfl
      rw [e3, rr_cc S3 (by omega) (Or.inr ⟨13, _, rfl, by decide⟩) (by omega)]
      exact BOut.st F3 (ih (n - u.1).toNat (by omega) f3 g3 r true u u (13 :: l) h3 (Nat.le_refl _) a1 a2 (by omega) M3 S3 (Or.inl ⟨rfl, rfl⟩) ou u0 (by omega))
  · rw [if_neg (show ¬ dec (wdp B n (sk B n x.1) (-28)) = true by rw [dec_f w2]; decide)]
    exact ⟨f' + 1, g' + 1, o, x, y, s, h, rfl, Fr.rf, M, S, T, rfl, w1, w2, by omega, by omega, ok, s0, rm⟩
/-- a fact that begins with the word `not` -/
theorem facW {B : Int → Int} {n k : Int} {K0 K1 : MH → Option (Int × MH)} {f q : Nat} {x : RST} {l : List Int} {h : MH} (b : BB B n) (M : MRu h B n k x) (S : StK h l) (l1 : (l.length : Int) < 400) (hw : wdp B n (sk B n x.1) (-26)) : (stD l = 10 → ∃ h', PPf K0 K1 f (q + 1) h = K0 h' ∧ Fr (Mu1 k) h h' ∧ m_rd h' 334 9 = 1 + 8 * sk B n x.1 + 2) ∧ (stD l ≠ 10 → ∃ h', PPf K0 K1 f (q + 1) h = PPf K0 K1 f q h' ∧ Fr (Mu1 k) h h' ∧ MRu h' B n k (mvp (sk B n x.1 + 3) x) ∧ StK h' (11 :: l)) := by
  have hs : sk B n (mvp (sk B n x.1) x).1 = sk B n x.1 := sk_i b.2.1 M.p0
  obtain ⟨h1, e1, F1, M1⟩ := seeU b M
  obtain ⟨v, h2, e2, F2, M2, y1, y0⟩ := wordU b M1 wd_26
  rw [hs] at M2 y1 y0
  have M2' : MRu h2 B n k (mvp (sk B n x.1) x) := M2
  have F12' : Fr (Mu1 k) h h2 := (F1.wk (fun _ _ z => z.mu.u1)).tr (F2.wk (fun _ _ z => z.mu.u1))
  obtain ⟨v3, h3, e3, F3, r0, r1⟩ := opensU (a := 11) b M2' ((S.f8 F1).f8 F2) (Or.inl rfl) l1
  unfold PPf
  conv => enter [1, 2, 1, h', 1, 1, 1]; unfold GX12_fact_L2
  conv => enter [2, 2, 1, h', 1, 1, 1]; unfold GX12_fact_L2
  rw [if_neg (show ¬ (1 : Int) = 0 by decide), e1, bd_some, e2, bd_some, if_neg (by rw [y1 hw]; decide), e3, bd_some]
  refine ⟨fun c => ?_, fun c => ?_⟩
  · obtain ⟨v0, f0⟩ := r0 c
    rw [if_pos v0, bd_some, if_pos rfl]
    exact ⟨h3, rfl, F12'.tr F3, f0⟩
  · obtain ⟨v1, M3, S3⟩ := r1 c
    obtain ⟨h4, e4, F4, M4⟩ := passU b M3 wd_26 hw
    rw [if_neg (by omega), e4, bv_some]
    exact ⟨h4, rfl, (F12'.tr F3).tr (F4.wk (fun _ _ z => z.mu.u1)), M4, S3.f8 F4⟩
/-- a fact that begins with a bracket -/
theorem facB {B : Int → Int} {n k : Int} {K0 K1 : MH → Option (Int × MH)} {f q : Nat} {x : RST} {l : List Int} {h : MH} (b : BB B n) (M : MRu h B n k x) (S : StK h l) (l1 : (l.length : Int) < 400) (nw : ¬ wdp B n (sk B n x.1) (-26)) (hc : bya B n (sk B n x.1) = 91) : (stD l = 10 → ∃ h', PPf K0 K1 f (q + 1) h = K0 h' ∧ Fr (Mu1 k) h h' ∧ m_rd h' 334 9 = 1 + 8 * sk B n x.1 + 2) ∧ (stD l ≠ 10 → ∃ h', PPf K0 K1 f (q + 1) h = PPf K0 K1 f q h' ∧ Fr (Mu1 k) h h' ∧ MRu h' B n k (mvp (sk B n x.1 + 1) x) ∧ StK h' (91 :: l)) := by
  have hs : sk B n (mvp (sk B n x.1) x).1 = sk B n x.1 := sk_i b.2.1 M.p0
  have b1 := b.2.1
  have p0 := M.p0
  have sb := sk_b (B := B) b.2.1 M.p0 M.p1
  have ln : sk B n x.1 < n := by
    by_cases z : sk B n x.1 < n
    · exact z
    · have := bya_o (B := B) (n := n) (q := sk B n x.1) (by omega)
      omega
  obtain ⟨h1, e1, F1, M1⟩ := seeU b M
  obtain ⟨v, h2, e2, F2, M2, y1, y0⟩ := wordU b M1 wd_26
  rw [hs] at M2 y1 y0
  have M2' : MRu h2 B n k (mvp (sk B n x.1) x) := M2
  have F12' : Fr (Mu1 k) h h2 := (F1.wk (fun _ _ z => z.mu.u1)).tr (F2.wk (fun _ _ z => z.mu.u1))
  obtain ⟨v3, h3, e3, F3, r0, r1⟩ := opensU (a := 91) b M2' ((S.f8 F1).f8 F2) (Or.inr rfl) l1
  unfold PPf
  conv => enter [1, 2, 1, h', 1, 1, 1]; unfold GX12_fact_L2
  conv => enter [2, 2, 1, h', 1, 1, 1]; unfold GX12_fact_L2
  rw [if_neg (show ¬ (1 : Int) = 0 by decide), e1, bd_some, e2, bd_some, if_pos (y0 nw), if_pos hc, e3, bd_some]
  refine ⟨fun c => ?_, fun c => ?_⟩
  · obtain ⟨v0, f0⟩ := r0 c
    rw [if_pos v0, bd_some, if_pos rfl]
    exact ⟨h3, rfl, F12'.tr F3, f0⟩
  · obtain ⟨v1, M3, S3⟩ := r1 c
    have F4 : Fr F348 h3 (m_wr h3 334 8 (sk B n x.1 + 1)) := Fr.wr Fr.rf ⟨rfl, rfl⟩
    rw [if_neg (by omega), show m_rd h3 334 8 = sk B n x.1 from M3.2.1, w32_id (x := sk B n x.1 + 1) (by omega) (by omega)]
    exact ⟨_, rfl, (F12'.tr F3).tr (F4.wk (fun _ _ z => z.mu.u1)), M3.at (by omega) (by omega), S3.f8 F4⟩
/-- a fact that is a comparison -/
theorem facC {B : Int → Int} {n k : Int} {K0 K1 : MH → Option (Int × MH)} {f q : Nat} {x : RST} {l : List Int} {h : MH} (b : BB B n) (M : MRu h B n k x) (S : StK h l) (l1 : (l.length : Int) < 400) (o : OkT n x) (hf : (n - x.1).toNat < f) (nw : ¬ wdp B n (sk B n x.1) (-26)) (hc : bya B n (sk B n x.1) ≠ 91) : AOut h B n k K0 K1 l (PPf K0 K1 f (q + 1 + 1) h) (cmp B n (mvp (sk B n x.1) x)) := by
  have hs : sk B n (mvp (sk B n x.1) x).1 = sk B n x.1 := sk_i b.2.1 M.p0
  have b1 := b.2.1
  have p0 := M.p0
  have op := o.2.1
  have sb := sk_b (B := B) b.2.1 M.p0 M.p1
  obtain ⟨h1, e1, F1, M1⟩ := seeU b M
  obtain ⟨v, h2, e2, F2, M2, y1, y0⟩ := wordU b M1 wd_26
  rw [hs] at M2 y1 y0
  have M2' : MRu h2 B n k (mvp (sk B n x.1) x) := M2
  have om : OkT n (mvp (sk B n x.1) x) := ⟨⟨by show (0 : Int) ≤ sk B n x.1; omega, sb.2, o.1.2.2.1, o.1.2.2.2⟩, by show x.2.1 < sk B n x.1; omega, o.2.2⟩
  have F12' : Fr (Mu1 k) h h2 := (F1.wk (fun _ _ z => z.mu.u1)).tr (F2.wk (fun _ _ z => z.mu.u1))
  obtain ⟨v3, h3, e3, F3, r3⟩ := cmpU b M2' om
  have S3 := ((S.f8 F1).f8 F2).f0 F3
  have F3' : Fr (Mu1 k) h h3 := F12'.tr (F3.wk (fun _ _ z => z.u1))
  unfold PPf
  conv => enter [8, 1]; unfold GX12_fact_L2
  rw [if_neg (show ¬ (1 : Int) = 0 by decide), e1, bd_some, e2, bd_some, if_pos (y0 nw), if_neg hc]
  conv => enter [8, 1]; unfold GX12_fact_L2
  rw [if_pos rfl, e3, bd_some, gd_cons r3.gt, gd_nil, bd_some]
  cases hv : cmp B n (mvp (sk B n x.1) x) with
  | inl e =>
    rw [hv] at r3
    rw [if_pos r3.1]
    exact Or.inl ⟨h3, rfl, F3', r3.2.1, r3.2.2⟩
  | inr y =>
    rw [hv] at r3
    obtain ⟨v1, M3⟩ := r3
    have Q := cmp_Q b om.1 hv
    have q4 : sk B n x.1 < y.1 := Q.2.1
    rw [if_neg (by omega), clo_1]
    exact ⟨f, FU, FU, h3, rfl, F3', M3, S3, by omega, by unfold FU; omega, by unfold FU; omega⟩
theorem facA {B : Int → Int} {n k : Int} {K0 K1 : MH → Option (Int × MH)} (b : BB B n) : ∀ kk : Nat, kk ≤ 10 → HA B n k K0 K1 (10 - kk) (fac B n kk) := by
  intro kk
  induction kk with
  | zero =>
    intro _ f f2 x l h hf hf2 M S D o rm
    obtain ⟨q, rfl⟩ : ∃ q, f2 = q + 1 + 1 := ⟨f2 - 2, by omega⟩
    have b1 := b.2.1
    have p0 := o.1.1
    have p1 := o.1.2.1
    have x0 := o.1.2.2.1
    have sb := sk_b (B := B) b.2.1 o.1.1 o.1.2.1
    have d10 : stD l = 10 := by
      rw [D]
      rfl
    unfold fac
    by_cases w : wdp B n (sk B n x.1) (-26)
    · rw [if_pos (dec_t w)]
      obtain ⟨h', e', F', a'⟩ := (facW (K0 := K0) (K1 := K1) (f := f) (q := q + 1) b M S (by omega) w).1 d10
      exact Or.inl ⟨h', e', F', a', by omega⟩
    rw [if_neg (show ¬ dec (wdp B n (sk B n x.1) (-26)) = true by rw [dec_f w]; decide)]
    by_cases c : bya B n (sk B n x.1) = 91
    · rw [if_pos c]
      obtain ⟨h', e', F', a'⟩ := (facB (K0 := K0) (K1 := K1) (f := f) (q := q + 1) b M S (by omega) w c).1 d10
      exact Or.inl ⟨h', e', F', a', by omega⟩
    · rw [if_neg c]
      exact facC b M S (by omega) o hf w c
  | succ kk ih =>
    intro kl f f2 x l h hf hf2 M S D o rm
    obtain ⟨q, rfl⟩ : ∃ q, f2 = q + 1 + 1 := ⟨f2 - 2, by omega⟩
    have b1 := b.2.1
    have p0 := o.1.1
    have p1 := o.1.2.1
    have x0 := o.1.2.2.1
    have sb := sk_b (B := B) b.2.1 o.1.1 o.1.2.1
    have nd : stD l ≠ 10 := by
      rw [D]
      omega
    unfold fac
    by_cases w : wdp B n (sk B n x.1) (-26)
    · have we := wd_end b wd_26 (by omega) sb.2 w
      rw [show t_len (-26) = 3 by decide] at we
      obtain ⟨h1, e1, F1, M1, S1⟩ := (facW (K0 := K0) (K1 := K1) (f := f) (q := q + 1) b M S (by omega) w).2 nd
      have om : OkT n (mvp (sk B n x.1 + 3) x) := ⟨⟨by show (0 : Int) ≤ sk B n x.1 + 3; omega, by show sk B n x.1 + 3 ≤ n; omega, o.1.2.2.1, o.1.2.2.2⟩, by show x.2.1 < sk B n x.1 + 3; omega, o.2.2⟩
      have A := ih (by omega) f (q + 1) (mvp (sk B n x.1 + 3) x) (11 :: l) h1 (by show (n - (sk B n x.1 + 3)).toNat < f; omega) (by show (n - (sk B n x.1 + 3)).toNat + 1 < q + 1; omega) M1 S1 (by
        show stD l + (if (11 : Int) = 11 ∨ (11 : Int) = 91 then 1 else 0) = _
        rw [if_pos (by decide), D]
        omega) om (by rw [len_c]; show x.2.1 + _ < sk B n x.1 + 3; omega)
      rw [if_pos (dec_t w), e1]
      refine AOut.st F1 ?_
      cases hv : fac B n kk (mvp (sk B n x.1 + 3) x) with
      | inl e =>
        rw [hv] at A
        exact A
      | inr u =>
        rw [hv] at A
        obtain ⟨f3, g3, d3, h3, e3, F3, M3, S3, a1, a2, a3⟩ := A
        have Q := fac_Q b kk _ _ om.1 hv
        have q3 : u.2.1 - x.2.1 ≤ u.1 - (sk B n x.1 + 3) := Q.2.2
        have ou := Q.okt om
        have u1 := ou.1.2.1
        have u0 := ou.1.2.2.1
        rw [List.length_cons] at a3
        obtain ⟨d4, rfl⟩ : ∃ q, d3 = q + 1 := ⟨d3 - 1, by omega⟩
        obtain ⟨h4, e4, F4, M4, S4⟩ := layS (u := 3) (K := fun h1 => some h1) (f := d4) M3 S3 (by decide) (by decide) (by omega) u0 (by omega)
        have e5 : RRf K0 K1 f3 g3 (d4 + 1) h3 = RRf K0 K1 f3 g3 d4 h4 := by
          unfold RRf
          rw [e4]
        rw [e3, e5]
        exact ⟨f3, g3, d4, h4, rfl, F3.tr F4, M4, S4, a1, a2, by omega⟩
    rw [if_neg (show ¬ dec (wdp B n (sk B n x.1) (-26)) = true by rw [dec_f w]; decide)]
    by_cases c : bya B n (sk B n x.1) = 91
    · have ln : sk B n x.1 < n := by
        by_cases z : sk B n x.1 < n
        · exact z
        · have := bya_o (B := B) (n := n) (q := sk B n x.1) (by omega)
          omega
      have lc : ((91 :: l).length : Int) = (l.length : Int) + 1 := len_c
      obtain ⟨h1, e1, F1, M1, S1⟩ := (facB (K0 := K0) (K1 := K1) (f := f) (q := q + 1) b M S (by omega) w c).2 nd
      have om : OkT n (mvp (sk B n x.1 + 1) x) := ⟨⟨by show (0 : Int) ≤ sk B n x.1 + 1; omega, by show sk B n x.1 + 1 ≤ n; omega, o.1.2.2.1, o.1.2.2.2⟩, by show x.2.1 < sk B n x.1 + 1; omega, o.2.2⟩
      have D1 : stD (91 :: l) = 10 - (kk : Int) := by
        show stD l + (if (91 : Int) = 11 ∨ (91 : Int) = 91 then 1 else 0) = _
        rw [if_pos (by decide), D]
        omega
      have A := ih (by omega) f (q + 1) (mvp (sk B n x.1 + 1) x) (91 :: l) h1 (by show (n - (sk B n x.1 + 1)).toNat < f; omega) (by show (n - (sk B n x.1 + 1)).toNat + 1 < q + 1; omega) M1 S1 D1 om (by show x.2.1 + _ < sk B n x.1 + 1; omega)
      rw [if_pos c, e1]
      refine AOut.st F1 ?_
      cases hv : fac B n kk (mvp (sk B n x.1 + 1) x) with
      | inl e =>
        rw [hv] at A
        exact A
      | inr u =>
        rw [hv] at A
        obtain ⟨f3, g3, d3, h3, e3, F3, M3, S3, a1, a2, a3⟩ := A
        have Q := fac_Q b kk _ _ om.1 hv
        have q3 : u.2.1 - x.2.1 ≤ u.1 - (sk B n x.1 + 1) := Q.2.2
        have ou := Q.okt om
        have u1 := ou.1.2.1
        have u0 := ou.1.2.2.1
        have l0 : ((opst false).length : Int) = 0 := rfl
        have hA' : HA B n k K0 K1 (stD (91 :: l)) (fac B n kk) := by
          rw [D1]
          exact ih (by omega)
        have T := tst_B b (fac_Q b kk) hA' (Or.inr ⟨l, rfl⟩) (n - u.1).toNat f3 g3 401 false u u (91 :: l) h3 (Nat.le_refl _) a1 a2 (by omega) M3 S3 (Or.inl ⟨rfl, rfl⟩) ou u0 (by omega)
        rw [e3, rr_cc S3 (by omega) (Or.inr ⟨91, _, rfl, by decide⟩) (by omega)]
        refine AOut.st F3 ?_
        show AOut h3 B n k K0 K1 l (CCf K0 K1 f3 g3 h3) (rb (tlo B n (fac B n kk) 401 false u) (fun z => if bya B n (sk B n z.1) = 93 then .inr (mvp (sk B n z.1 + 1) z) else .inl (1 + 8 * sk B n z.1 + 0)))
        cases ht : tlo B n (fac B n kk) 401 false u with
        | inl e =>
          rw [ht] at T
          exact T
        | inr z =>
          rw [ht] at T
          obtain ⟨f5, g5, o5, x5, y5, s5, h5, e5, F5, M5, S5, T5, z5, n1, n2, b5, c5, k5, s0, r5⟩ := T
          have i0 := k5.1.1
          have i1 := k5.1.2.1
          have sx := sk_b (B := B) b.2.1 k5.1.1 k5.1.2.1
          obtain ⟨f6, rfl⟩ : ∃ q, f5 = q + 1 := ⟨f5 - 1, by omega⟩
          obtain ⟨g6, rfl⟩ : ∃ q, g5 = q + 1 := ⟨g5 - 1, by omega⟩
          have z1 : z.1 = sk B n x5.1 := by
            rw [z5]
            exact (opn_1 (o := o5) (x := mvp (sk B n x5.1) x5)).1
          have hs5 : sk B n z.1 = sk B n x5.1 := by
            rw [z1]
            exact sk_i b.2.1 i0
          obtain ⟨t1, t2, t3, t4, t5⟩ := T5.e1
          rw [e5]
          refine AOut.st F5 ?_
          show AOut h5 B n k K0 K1 l (CCf K0 K1 (f6 + 1) (g6 + 1) h5) (if bya B n (sk B n z.1) = 93 then .inr (mvp (sk B n z.1 + 1) z) else .inl (1 + 8 * sk B n z.1 + 0))
          rw [hs5]
          by_cases cb : bya B n (sk B n x5.1) = 93
          · rw [if_pos cb]
            obtain ⟨h7, e7, F7, M7, S7⟩ := cloY (K0 := K0) (K1 := K1) (f := f6 + 1) (g := g6) b M5 S5 T5 s0 r5 i1 cb
            have lx : sk B n x5.1 < n := by
              by_cases z : sk B n x5.1 < n
              · exact z
              · have := bya_o (B := B) (n := n) (q := sk B n x5.1) (by omega)
                omega
            rw [e7, z5, opn_mv]
            refine ⟨f6 + 1, g6, FU, h7, rfl, F7, M7, S7, ?_, ?_, by unfold FU; omega⟩
            · show (n - (sk B n x5.1 + 1)).toNat < f6 + 1
              omega
            · show (n - (sk B n x5.1 + 1)).toNat < g6
              omega
          · rw [if_neg cb]
            obtain ⟨h7, e7, F7, M7, S7⟩ := cloN (K0 := K0) (K1 := K1) (f := f6 + 1) (g := g6) b M5 S5 (by omega) (Or.inl (by rw [t1]; exact cb))
            rw [t1] at M7
            have hy : sk B n (mvp (sk B n x5.1) y5).1 = sk B n x5.1 := sk_i b.2.1 i0
            obtain ⟨h8, e8, F8, M8, S8⟩ := aftEnd (K0 := K0) (K1 := K1) (f := f6) b M7 S7 (by rw [hy]; exact n1) (by rw [hy]; exact n2)
            rw [e7, e8]
            rw [hy] at M8
            exact Or.inr ⟨h8, _, _, rfl, F7.tr F8, M8, S8, t5 List.mem_cons_self, by omega, by
              show _ = 1 + 8 * sk B n (sk B n x5.1) + 0
              rw [sk_i b.2.1 i0]⟩
    · rw [if_neg c]
      exact facC b M S (by omega) o hf w c
/-- a test read by the model -/
theorem testU {B : Int → Int} {n k : Int} {x : RST} {h : MH} (b : BB B n) (M : MRu h B n k x) (o : OkT n x) : ∃ v h', GX12_tested h = some (v, h') ∧ Fr (Mu1 k) h h' ∧ OutU h' B n k v (rb (fac B n 10 x) (tlo B n (fac B n 10) 401 false)) := by
  have b1 := b.2.1
  have p0 := o.1.1
  have p1 := o.1.2.1
  have op := o.2.1
  have F0 : Fr (fun a j => a = 334 ∧ (j = 13 ∨ j = 16)) h (m_wr (m_wr h 334 16 0) 334 13 0) := Fr.wr (Fr.wr Fr.rf (by omega)) (by omega)
  have M0 : MRu (m_wr (m_wr h 334 16 0) 334 13 0) B n k x := M.fr F0 (fun a j z => by omega) (by rw [F0.rd (by omega)]; exact M.2.1) M.p0 M.p1
  have S0 : StK (m_wr (m_wr h 334 16 0) 334 13 0) [] := ⟨by rw [rd_ne (by omega), rd_eq rfl rfl]; rfl, trivial, rd_eq rfl rfl⟩
  have G0 : Fr (Mu1 k) h (m_wr (m_wr h 334 16 0) 334 13 0) := F0.wk (fun a j z => by unfold Mu1; omega)
  unfold GX12_tested
  generalize m_wr (m_wr h 334 16 0) 334 13 0 = g0 at M0 S0 G0 ⊢
  have fail : ∀ (h1 : MH) (y : RST) (s : List Int), MRu h1 B n k y → StK h1 s → 91 ∈ s → (s.length : Int) ≤ 400 → ∃ v h', bd (GX12_isInside h1) (fun x4 h3 => if x4 = 0 then bv (GX12_layDown 1 h3) (fun h5 => some (1, h5)) else bd (GX12_see h3) (fun x7 h6 => bd (GX12_fails 0 (m_rd h6 334 8) h6) (fun x9 h8 => gd [GT x9] (some (x9, h8))))) = some (v, h') ∧ Fr (Mu1 k) h1 h' ∧ v = 0 ∧ m_rd h' 334 9 = 1 + 8 * sk B n y.1 + 0 := fun h1 y s M1 S1 i1 l1 => by
    have sy := sk_b (B := B) b.2.1 M1.p0 M1.p1
    have y0 := M1.p0
    obtain ⟨h2, e2, F2, M2⟩ := seeU b M1
    rw [(insideU S1 l1).1 i1, bd_some, if_neg (by decide), e2, bd_some, show m_rd h2 334 8 = sk B n y.1 from M2.2.1, failM (by omega) (by omega) (by omega) (by omega) M2.2.2.1, bd_some, gd_cons (show GT 0 from Or.inl rfl), gd_nil]
    exact ⟨0, _, rfl, Fr.wr (F2.wk (fun _ _ z => z.mu.u1)) (Or.inl (Or.inl ⟨rfl, by omega⟩)), rfl, rd_eq rfl rfl⟩
  have bad : ∀ (r : Option (Int × MH)) (e : Int) (h1 : MH), Fr (Mu1 k) h h1 → BadU h1 B n k (fun h1 => some (0, h1)) (fun h2 => bd (GX12_isInside h2) (fun x4 h3 => if x4 = 0 then bv (GX12_layDown 1 h3) (fun h5 => some (1, h5)) else bd (GX12_see h3) (fun x7 h6 => bd (GX12_fails 0 (m_rd h6 334 8) h6) (fun x9 h8 => gd [GT x9] (some (x9, h8)))))) r e → ∃ v h', r = some (v, h') ∧ Fr (Mu1 k) h h' ∧ OutU h' B n k v (.inl e) := fun r e h1 F1 bd' => by
    rcases bd' with ⟨h', e', F', a1, a2⟩ | ⟨h', y, s, e', F', M', S', i', l', ee⟩
    · exact ⟨0, h', e', F1.tr F', rfl, a1, a2⟩
    · obtain ⟨v, h2, e2, F2, v0, f2⟩ := fail h' y s M' S' i' l'
      have y0 := M'.p0
      have sy := sk_b (B := B) b.2.1 M'.p0 M'.p1
      exact ⟨v, h2, e'.trans e2, (F1.tr F').tr F2, v0, by rw [f2, ee], by omega⟩
  have hFU : FU = 1999 + 1 := rfl
  have A := facA (K0 := fun h1 => some (0, h1)) (K1 := fun h2 => bd (GX12_isInside h2) (fun x4 h3 => if x4 = 0 then bv (GX12_layDown 1 h3) (fun h5 => some (1, h5)) else bd (GX12_see h3) (fun x7 h6 => bd (GX12_fails 0 (m_rd h6 334 8) h6) (fun x9 h8 => gd [GT x9] (some (x9, h8)))))) (k := k) b 10 (by decide) 1999 FU x [] g0 (by omega) (by unfold FU; omega) M0 S0 rfl o (by show x.2.1 + 0 < x.1; omega)
  have t1 : GX12_tested_L12 (fun h1 => some (0, h1)) (fun h2 => bd (GX12_isInside h2) (fun x4 h3 => if x4 = 0 then bv (GX12_layDown 1 h3) (fun h5 => some (1, h5)) else bd (GX12_see h3) (fun x7 h6 => bd (GX12_fails 0 (m_rd h6 334 8) h6) (fun x9 h8 => gd [GT x9] (some (x9, h8)))))) FU 1 g0 = PPf (fun h1 => some (0, h1)) (fun h2 => bd (GX12_isInside h2) (fun x4 h3 => if x4 = 0 then bv (GX12_layDown 1 h3) (fun h5 => some (1, h5)) else bd (GX12_see h3) (fun x7 h6 => bd (GX12_fails 0 (m_rd h6 334 8) h6) (fun x9 h8 => gd [GT x9] (some (x9, h8)))))) 1999 FU g0 := by
    conv => lhs; rw [hFU]
    exact tst_1
  rw [t1]
  cases hv : fac B n 10 x with
  | inl e =>
    rw [hv] at A
    exact bad _ e g0 G0 A
  | inr u =>
    rw [hv] at A
    obtain ⟨f3, g3, d3, h3, e3, F3, M3, S3, a1, a2, a3⟩ := A
    have ou := (fac_Q b 10 _ _ o.1 hv).okt o
    have u1 := ou.1.2.1
    have u0 := ou.1.2.2.1
    have up := ou.2.1
    have hA' : HA B n k (fun h1 => some (0, h1)) (fun h2 => bd (GX12_isInside h2) (fun x4 h3 => if x4 = 0 then bv (GX12_layDown 1 h3) (fun h5 => some (1, h5)) else bd (GX12_see h3) (fun x7 h6 => bd (GX12_fails 0 (m_rd h6 334 8) h6) (fun x9 h8 => gd [GT x9] (some (x9, h8)))))) (stD []) (fac B n 10) := facA b 10 (by decide)
    have T := tst_B b (fac_Q b 10) hA' (Or.inl rfl) (n - u.1).toNat f3 g3 401 false u u [] h3 (Nat.le_refl _) a1 a2 (by omega) M3 S3 (Or.inl ⟨rfl, rfl⟩) ou u0 (by show u.2.1 + 0 + 0 < u.1; omega)
    rw [e3, rr_cc S3 (by decide) (Or.inl rfl) (by omega)]
    show ∃ v h', _ ∧ Fr (Mu1 k) h h' ∧ OutU h' B n k v (tlo B n (fac B n 10) 401 false u)
    cases ht : tlo B n (fac B n 10) 401 false u with
    | inl e =>
      rw [ht] at T
      exact bad _ e h3 (G0.tr F3) T
    | inr z =>
      rw [ht] at T
      obtain ⟨f5, g5, o5, x5, y5, s5, h5, e5, F5, M5, S5, T5, z5, n1, n2, b5, c5, k5, s0, r5⟩ := T
      have i0 := k5.1.1
      have i1 := k5.1.2.1
      obtain ⟨f6, rfl⟩ : ∃ q, f5 = q + 1 := ⟨f5 - 1, by omega⟩
      obtain ⟨g6, rfl⟩ : ∃ q, g5 = q + 1 := ⟨g5 - 1, by omega⟩
      obtain ⟨q1, q2, q3, q4, q5⟩ := T5.e1
      have l0 : (([] : List Int).length : Int) = 0 := rfl
      obtain ⟨h7, e7, F7, M7, S7⟩ := cloN (f := f6 + 1) (g := g6) b M5 S5 (by omega) (Or.inr T5.nm)
      rw [q1] at M7
      have hy : sk B n (mvp (sk B n x5.1) y5).1 = sk B n x5.1 := sk_i b.2.1 i0
      obtain ⟨h8, e8, F8, M8, S8⟩ := aftEnd (f := f6) b M7 S7 (by rw [hy]; exact n1) (by rw [hy]; exact n2)
      rw [hy] at M8
      have M8' : MRu h8 B n k (mvp (sk B n x5.1) y5) := M8
      obtain ⟨h9, e9, F9, M9, S9⟩ := layU (K := fun h1 => some h1) (u := 1) (by decide) s5 FU (mvp (sk B n x5.1) y5) h8 (by unfold FU; omega) M8' S8 s0 (by show y5.2.1 + (s5.length : Int) ≤ 400; omega)
      rw [(T5.mv (p := sk B n x5.1)).l1 (Or.inl rfl)] at M9 S9
      have M9' : MRu h9 B n k (opn o5 (mvp (sk B n x5.1) x5)) := M9
      rw [e5, e7, e8, (insideU S8 (by omega)).2 T5.nm, bd_some, if_pos rfl]
      unfold GX12_layDown
      rw [e9, bv_some, z5]
      exact ⟨1, h9, rfl, ((((G0.tr F3).tr F5).tr F7).tr F8).tr F9, rfl, M9'⟩
