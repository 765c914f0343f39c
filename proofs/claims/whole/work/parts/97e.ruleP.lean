/-! RULE read by the model: clauses and the text -/
def fr0 (te : Int → Int) (j : Int) : Int := if j = 0 then 0 else te (j - 1)
/-- behind c clauses all is well typed -/
def CW (c : Int) (x : RST) (se te : Int → Int) : Prop := (0 ≤ c ∧ c ≤ 12 ∧ 0 ≤ x.2.1) ∧ fr0 te c = x.2.1 ∧ (∀ i, 0 ≤ i → i < x.2.1 → -32 ≤ x.2.2.2 i ∧ x.2.2.2 i ≤ 99999) ∧ (npu x.2.2.2 x.2.1.toNat : Int) ≤ x.2.2.1 ∧ ∀ j, 0 ≤ j → j < c → (0 ≤ fr0 te j ∧ fr0 te j ≤ se j ∧ se j ≤ te j ∧ te j ≤ x.2.1) ∧ tyr x.2.2.2 (se j - fr0 te j).toNat (fr0 te j) [] = some [false] ∧ (te j = se j ∨ (se j < te j ∧ tyr x.2.2.2 (te j - se j).toNat (se j) [] = some [true]))
theorem rcl_e {B : Int → Int} {n : Int} {x y z : RST} (e : rcl B n x = .inr (y, z)) : smm B n x = .inr y ∧ rif B n y = .inr z := by
  unfold rcl at e
  cases hv : smm B n x with
  | inl f =>
    rw [hv] at e
    cases e
  | inr y' =>
    rw [hv] at e
    have e' : (match rif B n y' with | .inl f => .inl f | .inr z => .inr (y', z) : Int ⊕ (RST × RST)) = .inr (y, z) := e
    cases hz : rif B n y' with
    | inl f =>
      rw [hz] at e'
      cases e'
    | inr z' =>
      rw [hz] at e'
      have e1 : (y', z') = (y, z) := by
        injection e'
      have e2 : y' = y := congrArg Prod.fst e1
      have e3 : z' = z := congrArg Prod.snd e1
      exact ⟨by rw [e2], by rw [← e2, hz, e3]⟩
theorem fr0_u {te : Int → Int} {c v j : Int} (j1 : j ≤ c) : fr0 (ups te c v) j = fr0 te j := by
  unfold fr0
  by_cases z : j = 0
  · rw [if_pos z, if_pos z]
  · rw [if_neg z, if_neg z, up_k (by omega)]
theorem rcl_W {B : Int → Int} {n c p : Int} {x y z : RST} {se te : Int → Int} (b : BB B n) (W : CW c x se te) (c1 : c < 12) (o : OkS n (mvp p x)) (hy : smm B n (mvp p x) = .inr y) (hz : rif B n y = .inr z) : CW (c + 1) z (ups se c y.2.1) (ups te c z.2.1) ∧ ((z.2.1 = y.2.1 ∧ ¬ wdp B n (sk B n y.1) (-25)) ∨ (y.2.1 < z.2.1 ∧ wdp B n (sk B n y.1) (-25))) ∧ x.2.1 ≤ y.2.1 ∧ y.2.1 ≤ z.2.1 := by
  have A := smm_Q b o hy
  have oy := A.ok o
  have sb := sk_b (B := B) b.2.1 oy.1 oy.2.1
  have y0 := oy.1
  obtain ⟨⟨a1, a2, a3, a4, a5⟩, _, _⟩ := A
  have a1' : 0 ≤ x.2.1 ∧ x.2.1 ≤ y.2.1 ∧ x.2.2.1 ≤ y.2.2.1 := ⟨a1.2.2.1, a1.2.2.2.1, a1.2.2.2.2.1⟩
  have a2' : ∀ i, i < x.2.1 → y.2.2.2 i = x.2.2.2 i := a2
  have a3' : tyr y.2.2.2 (y.2.1 - x.2.1).toNat x.2.1 [] = some [false] := a3 []
  have a4' : ∀ i, x.2.1 ≤ i → i < y.2.1 → -32 ≤ y.2.2.2 i ∧ y.2.2.2 i ≤ 99999 := a4
  have a5' : (npu y.2.2.2 y.2.1.toNat : Int) - npu x.2.2.2 x.2.1.toNat ≤ y.2.2.1 - x.2.2.1 := a5
  have Z : ∃ G, QQ n G y z ∧ ((z.2.1 = y.2.1 ∧ ¬ wdp B n (sk B n y.1) (-25)) ∨ (y.2.1 < z.2.1 ∧ wdp B n (sk B n y.1) (-25) ∧ G [] = some [true])) := by
    rcases rif_Q b oy hz with ⟨e, nw⟩ | Q
    · refine ⟨some, ?_, Or.inl ⟨by rw [e]; rfl, nw⟩⟩
      rw [e]
      exact QQ.mv ⟨sb.1, sb.2, oy.2.2.1, oy.2.2.2⟩
    · refine ⟨tS, Q.1, ?_⟩
      by_cases w : wdp B n (sk B n y.1) (-25)
      · refine Or.inr ⟨?_, w, rfl⟩
        have t := Q.1.2.2.1 []
        by_cases q : y.2.1 < z.2.1
        · exact q
        · rw [show (z.2.1 - y.2.1).toNat = 0 by omega] at t
          cases t
      · refine Or.inl ⟨?_, w⟩
        unfold rif at hz
        rw [if_neg (show ¬ dec (wdp B n (sk B n y.1) (-25)) = true by rw [dec_f w]; decide)] at hz
        injection hz with hz
        rw [← hz]
        rfl
  obtain ⟨G, ⟨z1, z2, z3, z4, z5⟩, zz⟩ := Z
  obtain ⟨⟨w1, w2, w3⟩, w4, w5, w6, w7⟩ := W
  have fc : fr0 (ups te c z.2.1) c = x.2.1 := by
    rw [fr0_u (Int.le_refl _)]
    exact w4
  refine ⟨⟨⟨by omega, by omega, by omega⟩, ?_, fun i i0 i1 => ?_, by omega, fun j j0 j1 => ?_⟩, ?_, a1'.2.1, z1.2.2.2.1⟩
  · unfold fr0
    rw [if_neg (by omega), up_eq (by omega)]
  · by_cases q1 : i < x.2.1
    · rw [z2 i (by omega), a2' i q1]
      exact w5 i i0 q1
    · by_cases q2 : i < y.2.1
      · rw [z2 i q2]
        exact a4' i (by omega) q2
      · exact z4 i (by omega) i1
  · by_cases q : j = c
    · rw [q, fc, up_eq rfl, up_eq rfl]
      refine ⟨by omega, ?_, ?_⟩
      · rw [tyr_cg (g := y.2.2.2) (g' := z.2.2.2) (y.2.1 - x.2.1).toNat x.2.1 [] (fun i i0 i1 => z2 i (by omega))]
        exact a3'
      · rcases zz with ⟨e, _⟩ | ⟨e, _, t⟩
        · exact Or.inl e
        · exact Or.inr ⟨e, by rw [z3 []]; exact t⟩
    · obtain ⟨v1, v2, v3⟩ := w7 j j0 (by omega)
      rw [fr0_u (show j ≤ c by omega), up_k q, up_k q]
      have cg : ∀ (m : Nat) (a : Int), 0 ≤ a → a + m ≤ x.2.1 → tyr z.2.2.2 m a [] = tyr x.2.2.2 m a [] := fun m a a0 a1 => tyr_cg m a [] (fun i i0 i1 => by rw [z2 i (by omega), a2' i (by omega)])
      refine ⟨by omega, ?_, ?_⟩
      · rw [cg _ _ (by omega) (by omega)]
        exact v2
      · rcases v3 with e | ⟨e, t⟩
        · exact Or.inl e
        · refine Or.inr ⟨e, ?_⟩
          rw [cg _ _ (by omega) (by omega)]
          exact t
  · rcases zz with ⟨e, w⟩ | ⟨e, w, _⟩
    · exact Or.inl ⟨e, w⟩
    · exact Or.inr ⟨e, w⟩
/-- the model's rows of clauses -/
def Rw (h : MH) (k c : Int) (se te : Int → Int) : Prop := ∀ j, 0 ≤ j → j < c → m_rd h 338 (48 * k + 4 * j) = fr0 te j ∧ m_rd h 338 (48 * k + 4 * j + 1) = se j ∧ ((te j = se j ∧ m_rd h 338 (48 * k + 4 * j + 2) = -1) ∨ (se j < te j ∧ m_rd h 338 (48 * k + 4 * j + 2) = se j ∧ m_rd h 338 (48 * k + 4 * j + 3) = te j))
theorem Rw.fr {P : Int → Int → Prop} {h h' : MH} {k c : Int} {se te : Int → Int} (R : Rw h k c se te) (F : Fr P h h') (no : ∀ a j, P a j → a = 338 → 48 * k + 4 * c ≤ j) : Rw h' k c se te := by
  intro j j0 j1
  have e : ∀ i, 48 * k + 4 * j ≤ i → i ≤ 48 * k + 4 * j + 3 → m_rd h' 338 i = m_rd h 338 i := fun i i0 i1 => F.rd (fun y => by have := no _ _ y rfl; omega)
  rw [e _ (by omega) (by omega), e _ (by omega) (by omega), e _ (by omega) (by omega), e _ (by omega) (by omega)]
  exact R j j0 j1
def Mu2 (k a j : Int) : Prop := Mu1 k a j ∨ (a = 334 ∧ j = 14) ∨ (a = 338 ∧ 48 * k ≤ j ∧ j < 48 * k + 48) ∨ (a = 339 ∧ j = k)
theorem Mu1.u2 {k a j : Int} (z : Mu1 k a j) : Mu2 k a j := Or.inl z
theorem Mu1.no {k a j : Int} (z : Mu1 k a j) : a ≠ 338 ∧ a ≠ 339 ∧ ¬ (a = 334 ∧ j = 14) := by
  unfold Mu1 Mu0 at z
  omega
def MCl (h : MH) (B : Int → Int) (n k c : Int) (x : RST) (se te : Int → Int) : Prop := MRu h B n k x ∧ m_rd h 334 14 = c ∧ m_rd h 339 k = c ∧ Rw h k c se te
def OutT (h : MH) (B : Int → Int) (n k c : Int) (se te : Int → Int) (v : Int) (R : Int ⊕ (RST × RST)) : Prop := match R with
  | .inl f => v = 0 ∧ m_rd h 334 9 = f ∧ 0 < f
  | .inr u => v = 1 ∧ MCl h B n k (c + 1) u.2 (ups se c u.1.2.1) (ups te c u.2.2.1)
theorem OutT.gt {h : MH} {B : Int → Int} {n k c v : Int} {se te : Int → Int} {R : Int ⊕ (RST × RST)} (o : OutT h B n k c se te v R) : GT v := by
  match R, o with
  | .inl f, o => exact Or.inl o.1
  | .inr r, o => exact Or.inr o.1
/-- how a clause ends -/
theorem takE {B : Int → Int} {n k c : Int} {y z : RST} {se te : Int → Int} {g : MH} (M : MRu g B n k z) (e14 : m_rd g 334 14 = c + 1) (e39 : m_rd g 339 k = c) (R : Rw g k c se te) (c0 : 0 ≤ c) (c1 : c < 12) (r0 : m_rd g 338 (48 * k + 4 * c) = fr0 te c) (r1 : m_rd g 338 (48 * k + 4 * c + 1) = y.2.1) (r2 : (z.2.1 = y.2.1 ∧ m_rd g 338 (48 * k + 4 * c + 2) = -1) ∨ (y.2.1 < z.2.1 ∧ m_rd g 338 (48 * k + 4 * c + 2) = y.2.1)) : gd [IB (m_rd g 334 11) 7, IB (48 * k + 4 * c + 3) 288] (gd [IB (m_rd (m_wr g 338 (48 * k + 4 * c + 3) (m_rd g 337 (m_rd g 334 11))) 334 11) 6] (some ((1 : Int), m_wr (m_wr g 338 (48 * k + 4 * c + 3) (m_rd g 337 (m_rd g 334 11))) 339 (m_rd (m_wr g 338 (48 * k + 4 * c + 3) (m_rd g 337 (m_rd g 334 11))) 334 11) (m_w32 (m_rd (m_wr g 338 (48 * k + 4 * c + 3) (m_rd g 337 (m_rd g 334 11))) 339 (m_rd (m_wr g 338 (48 * k + 4 * c + 3) (m_rd g 337 (m_rd g 334 11))) 334 11) + 1))))) = some (1, m_wr (m_wr g 338 (48 * k + 4 * c + 3) z.2.1) 339 k (c + 1)) ∧ Fr (Mu2 k) g (m_wr (m_wr g 338 (48 * k + 4 * c + 3) z.2.1) 339 k (c + 1)) ∧ MCl (m_wr (m_wr g 338 (48 * k + 4 * c + 3) z.2.1) 339 k (c + 1)) B n k (c + 1) z (ups se c y.2.1) (ups te c z.2.1) := by
  have kk := M.2.2.2.2.2.2.2.1
  have e11 := M.2.2.2.1
  have e37 := M.2.2.2.2.1
  have F1 : Fr (fun a j => a = 338) g (m_wr g 338 (48 * k + 4 * c + 3) z.2.1) := Fr.wr Fr.rf rfl
  have F2 : Fr (fun a j => (a = 338 ∧ j = 48 * k + 4 * c + 3) ∨ (a = 339 ∧ j = k)) g (m_wr (m_wr g 338 (48 * k + 4 * c + 3) z.2.1) 339 k (c + 1)) := Fr.wr (Fr.wr Fr.rf (by omega)) (by omega)
  refine ⟨?_, F2.wk (fun a j w => by unfold Mu2; omega), M.fr F2 (fun a j w => by omega) (by rw [F2.rd (by omega)]; exact M.2.1) M.p0 M.p1, by rw [F2.rd (by omega)]; exact e14, rd_eq rfl rfl, fun j j0 j1 => ?_⟩
  · rw [e11, e37, gd_ib kk.1 (by omega), gd_ib (by omega) (by omega), gd_nil, F1.rd (x := 334) (j := 11) (by omega), e11, gd_ib kk.1 kk.2, gd_nil, F1.rd (x := 339) (j := k) (by omega), e39, w32_id (x := c + 1) (by omega) (by omega)]
  · by_cases q : j = c
    · rw [q, fr0_u (Int.le_refl _), up_eq rfl, up_eq rfl, F2.rd (by omega), F2.rd (by omega), F2.rd (by omega), rd_ne (by omega), rd_eq rfl rfl]
      refine ⟨r0, r1, ?_⟩
      rcases r2 with w | w
      · exact Or.inl w
      · exact Or.inr ⟨w.1, w.2, rfl⟩
    · rw [fr0_u (show j ≤ c by omega), up_k q, up_k q, F2.rd (by omega), F2.rd (by omega), F2.rd (by omega), F2.rd (by omega)]
      exact R j j0 (by omega)
theorem takeU {B : Int → Int} {n k c : Int} {x : RST} {se te : Int → Int} {h : MH} (b : BB B n) (M : MRu h B n k x) (hw : wdp B n x.1 (-14)) (e14 : m_rd h 334 14 = c + 1) (e39 : m_rd h 339 k = c) (R : Rw h k c se te) (W : CW c x se te) (c1 : c < 12) (o : OkR n x) : ∃ v h', GX12_isTakeHere h = some (v, h') ∧ Fr (Mu2 k) h h' ∧ OutT h' B n k c se te v (rcl B n (mvp (x.1 + 4) x)) := by
  have b1 := b.2.1
  have p0 := o.1.1
  have op := o.2.1
  have x0 := o.1.2.2.1
  have c0 := W.1.1
  have kk := M.2.2.2.2.2.2.2.1
  have we := wd_end b wd_14 M.p0 M.p1 hw
  rw [show t_len (-14) = 4 by decide] at we
  obtain ⟨h1, e1, F1, M1⟩ := passU b M wd_14 hw
  rw [show t_len (-14) = 4 by decide] at M1
  have o4 : OkT n (mvp (x.1 + 4) x) := ⟨⟨by show (0 : Int) ≤ x.1 + 4; omega, by show x.1 + 4 ≤ n; omega, o.1.2.2.1, o.1.2.2.2⟩, by show x.2.1 < x.1 + 4; omega, o.2.2⟩
  have u11 : m_rd h1 334 11 = k := M1.2.2.2.1
  have u37 : m_rd h1 337 k = x.2.1 := M1.2.2.2.2.1
  have u39 : m_rd h1 339 k = c := by
    rw [F1.rd (by unfold F348; omega)]
    exact e39
  have u14 : m_rd h1 334 14 = c + 1 := by
    rw [F1.rd (by unfold F348; omega)]
    exact e14
  have uR : Rw h1 k c se te := R.fr F1 (fun a j z w => by unfold F348 at z; omega)
  have F2 : Fr (fun a j => a = 338 ∧ j = 48 * k + 4 * c) h1 (m_wr h1 338 (48 * k + 4 * c) x.2.1) := Fr.wr Fr.rf ⟨rfl, rfl⟩
  have M2 : MRu (m_wr h1 338 (48 * k + 4 * c) x.2.1) B n k (mvp (x.1 + 4) x) := M1.fr F2 (fun a j z => by omega) (by rw [F2.rd (by omega)]; exact M1.2.1) M1.p0 M1.p1
  have G2 : Fr (Mu2 k) h (m_wr h1 338 (48 * k + 4 * c) x.2.1) := (F1.wk (fun _ _ z => z.mu.u1.u2)).tr (F2.wk (fun a j z => by unfold Mu2; omega))
  have v39 : m_rd (m_wr h1 338 (48 * k + 4 * c) x.2.1) 339 k = c := by
    rw [F2.rd (by omega)]
    exact u39
  have v14 : m_rd (m_wr h1 338 (48 * k + 4 * c) x.2.1) 334 14 = c + 1 := by
    rw [F2.rd (by omega)]
    exact u14
  have vR : Rw (m_wr h1 338 (48 * k + 4 * c) x.2.1) k c se te := uR.fr F2 (fun a j z w => by omega)
  have v0 : m_rd (m_wr h1 338 (48 * k + 4 * c) x.2.1) 338 (48 * k + 4 * c) = fr0 te c := by
    rw [rd_eq rfl rfl]
    exact W.2.1.symm
  unfold GX12_isTakeHere
  simp only [hl, jn]
  rw [e1, bv_some, u11, gd_ib kk.1 kk.2, gd_nil, u39, u37, gd_ib kk.1 (by omega), w32_id (x := 48 * k) (by omega) (by omega), w32_id (x := 4 * c) (by omega) (by omega), w32_id (x := 48 * k + 4 * c) (by omega) (by omega), w32_id (x := 48 * k + 4 * c + 1) (by omega) (by omega), w32_id (x := 48 * k + 4 * c + 2) (by omega) (by omega), w32_id (x := 48 * k + 4 * c + 3) (by omega) (by omega), gd_ib (by omega) (by omega), gd_nil]
  generalize m_wr h1 338 (48 * k + 4 * c) x.2.1 = g at M2 G2 v39 v14 vR v0 ⊢
  obtain ⟨v3, h3, e3, F3, r3⟩ := sumU b M2 o4
  have G3 : Fr (Mu2 k) h h3 := G2.tr (F3.wk (fun _ _ z => z.u1.u2))
  rw [e3, bd_some]
  cases hv : smm B n (mvp (x.1 + 4) x) with
  | inl f =>
    rw [hv] at r3
    have rc : rcl B n (mvp (x.1 + 4) x) = .inl f := by
      unfold rcl
      rw [hv]
    rw [if_pos r3.1, rc]
    exact ⟨0, h3, rfl, G3, rfl, r3.2.1, r3.2.2⟩
  | inr y =>
    rw [hv] at r3
    obtain ⟨v1, M3⟩ := r3
    have oy := (smm_Q b o4.1 hv).okt o4
    have y0 := oy.1.1
    have yp := oy.2.1
    have sy := sk_b (B := B) b.2.1 oy.1.1 oy.1.2.1
    have w11 : m_rd h3 334 11 = k := M3.2.2.2.1
    have w37 : m_rd h3 337 k = y.2.1 := M3.2.2.2.2.1
    have n3 : ∀ a j, Mu0 k a j → a ≠ 338 ∧ a ≠ 339 ∧ ¬ (a = 334 ∧ j = 14) := fun a j z => z.u1.no
    have F4 : Fr (fun a j => a = 338 ∧ (j = 48 * k + 4 * c + 1 ∨ j = 48 * k + 4 * c + 2)) h3 (m_wr (m_wr h3 338 (48 * k + 4 * c + 1) y.2.1) 338 (48 * k + 4 * c + 2) (-1)) := Fr.wr (Fr.wr Fr.rf (by omega)) (by omega)
    have M4 : MRu (m_wr (m_wr h3 338 (48 * k + 4 * c + 1) y.2.1) 338 (48 * k + 4 * c + 2) (-1)) B n k y := M3.fr F4 (fun a j z => by omega) (by rw [F4.rd (by omega)]; exact M3.2.1) M3.p0 M3.p1
    have G4 : Fr (Mu2 k) h (m_wr (m_wr h3 338 (48 * k + 4 * c + 1) y.2.1) 338 (48 * k + 4 * c + 2) (-1)) := G3.tr (F4.wk (fun a j z => by unfold Mu2; omega))
    have q39 : m_rd (m_wr (m_wr h3 338 (48 * k + 4 * c + 1) y.2.1) 338 (48 * k + 4 * c + 2) (-1)) 339 k = c := by
      rw [F4.rd (by omega), F3.rd (fun z => (n3 _ _ z).2.1 rfl)]
      exact v39
    have q14 : m_rd (m_wr (m_wr h3 338 (48 * k + 4 * c + 1) y.2.1) 338 (48 * k + 4 * c + 2) (-1)) 334 14 = c + 1 := by
      rw [F4.rd (by omega), F3.rd (fun z => (n3 _ _ z).2.2 ⟨rfl, rfl⟩)]
      exact v14
    have qR : Rw (m_wr (m_wr h3 338 (48 * k + 4 * c + 1) y.2.1) 338 (48 * k + 4 * c + 2) (-1)) k c se te := (vR.fr F3 (fun a j z w => absurd w (n3 _ _ z).1)).fr F4 (fun a j z w => by omega)
    have q0 : m_rd (m_wr (m_wr h3 338 (48 * k + 4 * c + 1) y.2.1) 338 (48 * k + 4 * c + 2) (-1)) 338 (48 * k + 4 * c) = fr0 te c := by
      rw [F4.rd (by omega), F3.rd (fun z => (n3 _ _ z).1 rfl)]
      exact v0
    have q1 : m_rd (m_wr (m_wr h3 338 (48 * k + 4 * c + 1) y.2.1) 338 (48 * k + 4 * c + 2) (-1)) 338 (48 * k + 4 * c + 1) = y.2.1 := by
      rw [rd_ne (by omega), rd_eq rfl rfl]
    have q2 : m_rd (m_wr (m_wr h3 338 (48 * k + 4 * c + 1) y.2.1) 338 (48 * k + 4 * c + 2) (-1)) 338 (48 * k + 4 * c + 2) = -1 := rd_eq rfl rfl
    rw [if_neg (show ¬ v3 = 0 by omega), w11, gd_ib kk.1 (by omega), gd_ib (by omega) (by omega), gd_nil, gd_ib (by omega) (by omega), gd_nil, w37]
    generalize m_wr (m_wr h3 338 (48 * k + 4 * c + 1) y.2.1) 338 (48 * k + 4 * c + 2) (-1) = g4 at M4 G4 q39 q14 qR q0 q1 q2 ⊢
    obtain ⟨v5, h5, e5, F5, M5, y5, n5⟩ := wordU b M4 wd_25
    unfold GX12_takesWord
    rw [e5, bd_some]
    have k5 : m_rd h5 339 k = c ∧ m_rd h5 334 14 = c + 1 ∧ Rw h5 k c se te ∧ m_rd h5 338 (48 * k + 4 * c) = fr0 te c ∧ m_rd h5 338 (48 * k + 4 * c + 1) = y.2.1 ∧ m_rd h5 338 (48 * k + 4 * c + 2) = -1 := by
      refine ⟨?_, ?_, qR.fr F5 (fun a j z w => by unfold F348 at z; omega), ?_, ?_, ?_⟩
      · rw [F5.rd (by unfold F348; omega)]
        exact q39
      · rw [F5.rd (by unfold F348; omega)]
        exact q14
      · rw [F5.rd (by unfold F348; omega)]
        exact q0
      · rw [F5.rd (by unfold F348; omega)]
        exact q1
      · rw [F5.rd (by unfold F348; omega)]
        exact q2
    have G5 : Fr (Mu2 k) h h5 := G4.tr (F5.wk (fun _ _ z => z.mu.u1.u2))
    by_cases w : wdp B n (sk B n y.1) (-25)
    · have we5 := wd_end b wd_25 (by omega) sy.2 w
      rw [show t_len (-25) = 2 by decide] at we5
      obtain ⟨h6, e6, F6, M6⟩ := passU b M5 wd_25 w
      rw [show t_len (-25) = 2 by decide] at M6
      have M6' : MRu h6 B n k (mvp (sk B n y.1 + 2) y) := M6
      have om : OkT n (mvp (sk B n y.1 + 2) y) := ⟨⟨by show (0 : Int) ≤ sk B n y.1 + 2; omega, by show sk B n y.1 + 2 ≤ n; omega, oy.1.2.2.1, oy.1.2.2.2⟩, by show y.2.1 < sk B n y.1 + 2; omega, oy.2.2⟩
      have x11 : m_rd h6 334 11 = k := M6'.2.2.2.1
      have x37 : m_rd h6 337 k = y.2.1 := M6'.2.2.2.2.1
      have F7 : Fr (fun a j => a = 338 ∧ j = 48 * k + 4 * c + 2) h6 (m_wr h6 338 (48 * k + 4 * c + 2) y.2.1) := Fr.wr Fr.rf ⟨rfl, rfl⟩
      have M7 : MRu (m_wr h6 338 (48 * k + 4 * c + 2) y.2.1) B n k (mvp (sk B n y.1 + 2) y) := M6'.fr F7 (fun a j z => by omega) (by rw [F7.rd (by omega)]; exact M6'.2.1) M6'.p0 M6'.p1
      have G7 : Fr (Mu2 k) h (m_wr h6 338 (48 * k + 4 * c + 2) y.2.1) := (G5.tr (F6.wk (fun _ _ z => z.mu.u1.u2))).tr (F7.wk (fun a j z => by unfold Mu2; omega))
      have k7 : m_rd (m_wr h6 338 (48 * k + 4 * c + 2) y.2.1) 339 k = c ∧ m_rd (m_wr h6 338 (48 * k + 4 * c + 2) y.2.1) 334 14 = c + 1 ∧ Rw (m_wr h6 338 (48 * k + 4 * c + 2) y.2.1) k c se te ∧ m_rd (m_wr h6 338 (48 * k + 4 * c + 2) y.2.1) 338 (48 * k + 4 * c) = fr0 te c ∧ m_rd (m_wr h6 338 (48 * k + 4 * c + 2) y.2.1) 338 (48 * k + 4 * c + 1) = y.2.1 ∧ m_rd (m_wr h6 338 (48 * k + 4 * c + 2) y.2.1) 338 (48 * k + 4 * c + 2) = y.2.1 := by
        refine ⟨?_, ?_, (k5.2.2.1.fr F6 (fun a j z w => by unfold F348 at z; omega)).fr F7 (fun a j z w => by omega), ?_, ?_, rd_eq rfl rfl⟩
        · rw [F7.rd (by omega), F6.rd (by unfold F348; omega)]
          exact k5.1
        · rw [F7.rd (by omega), F6.rd (by unfold F348; omega)]
          exact k5.2.1
        · rw [F7.rd (by omega), F6.rd (by unfold F348; omega)]
          exact k5.2.2.2.1
        · rw [F7.rd (by omega), F6.rd (by unfold F348; omega)]
          exact k5.2.2.2.2.1
      rw [if_neg (by rw [y5 w]; decide), e6, bv_some, bd_some, if_neg (by decide), x11, gd_ib kk.1 (by omega), gd_ib (by omega) (by omega), gd_nil, x37]
      generalize m_wr h6 338 (48 * k + 4 * c + 2) y.2.1 = g7 at M7 G7 k7 ⊢
      obtain ⟨v8, h8, e8, F8, r8⟩ := testU b M7 om
      have G8 : Fr (Mu2 k) h h8 := G7.tr (F8.wk (fun _ _ z => z.u2))
      have ri : rif B n y = rb (fac B n 10 (mvp (sk B n y.1 + 2) y)) (tlo B n (fac B n 10) 401 false) := by
        unfold rif
        rw [if_pos (dec_t w)]
      rw [← ri] at r8
      rw [e8, bd_some]
      cases hz : rif B n y with
      | inl f =>
        rw [hz] at r8
        have rc : rcl B n (mvp (x.1 + 4) x) = .inl f := by
          unfold rcl
          rw [hv]
          show (match rif B n y with | .inl f => .inl f | .inr z => .inr (y, z)) = (.inl f : Int ⊕ (RST × RST))
          rw [hz]
        rw [if_pos r8.1, rc]
        exact ⟨0, h8, rfl, G8, rfl, r8.2.1, r8.2.2⟩
      | inr z =>
        rw [hz] at r8
        obtain ⟨v81, M8⟩ := r8
        obtain ⟨_, zz, _, _⟩ := rcl_W b W c1 o4.1 hv hz
        have rc : rcl B n (mvp (x.1 + 4) x) = .inr (y, z) := by
          unfold rcl
          rw [hv]
          show (match rif B n y with | .inl f => .inl f | .inr z => .inr (y, z)) = (.inr (y, z) : Int ⊕ (RST × RST))
          rw [hz]
        have yz : y.2.1 < z.2.1 := by
          rcases zz with q | q
          · exact absurd w q.2
          · exact q.1
        have E := takE (y := y) M8 (by rw [F8.rd (fun q => (q.no).2.2 ⟨rfl, rfl⟩)]; exact k7.2.1) (by rw [F8.rd (fun q => (q.no).2.1 rfl)]; exact k7.1) (k7.2.2.1.fr F8 (fun a j q w => absurd w (q.no).1)) c0 c1 (by rw [F8.rd (fun q => (q.no).1 rfl)]; exact k7.2.2.2.1) (by rw [F8.rd (fun q => (q.no).1 rfl)]; exact k7.2.2.2.2.1) (Or.inr ⟨yz, by rw [F8.rd (fun q => (q.no).1 rfl)]; exact k7.2.2.2.2.2⟩)
        rw [if_neg (show ¬ v8 = 0 by omega), E.1, rc]
        exact ⟨1, _, rfl, G8.tr E.2.1, rfl, E.2.2⟩
    · have hz : rif B n y = .inr (mvp (sk B n y.1) y) := by
        unfold rif
        rw [if_neg (show ¬ dec (wdp B n (sk B n y.1) (-25)) = true by rw [dec_f w]; decide)]
      have rc : rcl B n (mvp (x.1 + 4) x) = .inr (y, mvp (sk B n y.1) y) := by
        unfold rcl
        rw [hv]
        show (match rif B n y with | .inl f => .inl f | .inr z => .inr (y, z)) = (.inr (y, mvp (sk B n y.1) y) : Int ⊕ (RST × RST))
        rw [hz]
      have E := takE (y := y) (se := se) (te := te) M5 k5.2.1 k5.1 k5.2.2.1 c0 c1 k5.2.2.2.1 k5.2.2.2.2.1 (Or.inl ⟨rfl, k5.2.2.2.2.2⟩)
      rw [if_pos (n5 w), bd_some, if_pos rfl, E.1, rc]
      exact ⟨1, _, rfl, G5.tr E.2.1, rfl, E.2.2⟩
