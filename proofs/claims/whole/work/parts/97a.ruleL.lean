/-! RULE read by the model: terms, sums, comparisons -/
def TE (h : MH) (B : Int → Int) (n k : Int) (r : Option (Int × MH)) (K0 K1 : MH → Option (Int × MH)) (R : RAN) : Prop := match R with
  | .inl f => ∃ h', r = K0 h' ∧ Fr (Mu0 k) h h' ∧ m_rd h' 334 9 = f ∧ 0 < f
  | .inr y => ∃ h', r = K1 h' ∧ Fr (Mu0 k) h h' ∧ MRu h' B n k y
theorem TE.st {h h1 : MH} {B : Int → Int} {n k : Int} {r : Option (Int × MH)} {K0 K1 : MH → Option (Int × MH)} {R : RAN} (F : Fr (Mu0 k) h h1) (s : TE h1 B n k r K0 K1 R) : TE h B n k r K0 K1 R := by
  match R, s with
  | .inl f, ⟨h', e, F', a⟩ => exact ⟨h', e, F.tr F', a⟩
  | .inr y, ⟨h', e, F', a⟩ => exact ⟨h', e, F.tr F', a⟩
/-- the byte at a place, as the model's row has it -/
theorem byU {B : Int → Int} {n k c : Int} {x : RST} {h : MH} (b : BB B n) (M : MRu h B n k x) (hc : bya B n x.1 = c) (c0 : 0 ≤ c) (c1 : c < 128) : x.1 < n ∧ m_rd h 335 x.1 = c := by
  have p0 := M.p0
  have qn : x.1 < n := by
    by_cases y : x.1 < n
    · exact y
    · have := bya_o (B := B) (n := n) (q := x.1) (by omega)
      omega
  rw [bya_i p0 qn] at hc
  refine ⟨qn, ?_⟩
  rw [M.1.2 x.1 p0 qn, hc]
  omega
/-- a value behind a sign -/
theorem opU {B : Int → Int} {n k c s6 : Int} {x : RST} {h g : MH} {V : MH → Option (Int × MH)} {vp : RST → RAN} {tl : RST → RAN} {K0 K1 L : MH → Option (Int × MH)} (b : BB B n)
    (hV : ∀ x h, MRu h B n k x → OkT n x → ∃ v h', V h = some (v, h') ∧ Fr (Mu0 k) h h' ∧ OutU h' B n k v (vp x)) (hQ : ∀ x y, OkS n x → vp x = .inr y → PQ n nS x y)
    (M : MRu g B n k (mvp (sk B n x.1) x)) (F : Fr (Mu0 k) h g) (o : OkT n x) (ln : sk B n x.1 < n) (es : s6 = enc c) (cc : -24 ≤ c ∧ c ≤ -20)
    (hL : ∀ y h', MRu h' B n k (pu c y) → OkT n (pu c y) → sk B n x.1 + 1 < y.1 → TE h' B n k (L h') K0 K1 (tl (pu c y))) :
    TE h B n k (bd (V (m_wr g 334 8 (m_w32 (m_rd g 334 8 + 1)))) (fun x8 h7 => if x8 = 0 then K0 h7 else bv (GX12_puts s6 0 h7) (fun h9 => L h9))) K0 K1 (rb (vp (mvp (sk B n x.1 + 1) x)) (fun y => tl (pu c y))) := by
  have b1 := b.2.1
  have p0 := o.1.1
  have sp := o.2.1
  have s0 := o.1.2.2.1
  have sb := sk_b (B := B) b.2.1 o.1.1 o.1.2.1
  have om : OkT n (mvp (sk B n x.1 + 1) x) := ⟨⟨by show (0 : Int) ≤ sk B n x.1 + 1; omega, by show sk B n x.1 + 1 ≤ n; omega, o.1.2.2.1, o.1.2.2.2⟩, by show x.2.1 < sk B n x.1 + 1; omega, o.2.2⟩
  rw [show m_rd g 334 8 = sk B n x.1 from M.2.1, w32_id (x := sk B n x.1 + 1) (by omega) (by omega)]
  obtain ⟨v, h1, e1, F1, r1⟩ := hV (mvp (sk B n x.1 + 1) x) (m_wr g 334 8 (sk B n x.1 + 1)) (M.at (by omega) (by omega)) om
  have F1' : Fr (Mu0 k) h h1 := (Fr.wr F (Or.inl ⟨rfl, Or.inl rfl⟩)).tr F1
  rw [e1, bd_some]
  cases hv : vp (mvp (sk B n x.1 + 1) x) with
  | inl f =>
    rw [hv] at r1
    rw [if_pos r1.1]
    exact ⟨h1, rfl, F1', r1.2.1, r1.2.2⟩
  | inr y =>
    rw [hv] at r1
    obtain ⟨v1, M1⟩ := r1
    have Q := hQ _ _ om.1 hv
    have q3 : y.2.1 - x.2.1 ≤ y.1 - (sk B n x.1 + 1) := Q.2.2
    have q4 : sk B n x.1 + 1 < y.1 := Q.2.1
    have oy := Q.okt om
    have y1 := oy.1.2.1
    have y2 := oy.1.2.2.1
    rw [if_neg (by omega)]
    obtain ⟨h2, e2, F2, M2⟩ := putU (c := c) (a1 := s6) (a2 := 0) M1 y2 (by omega) (by omega) (by rw [es]; unfold enc; (repeat' split) <;> omega) (by rw [es]; unfold enc; (repeat' split) <;> omega) (by omega) (by omega)
    rw [e2, bv_some]
    exact TE.st (F1'.tr (F2.wk (fun a j z => put_mu y2 (by omega) z))) (hL y h2 M2 ⟨⟨oy.1.1, oy.1.2.1, by show 0 ≤ y.2.1 + 1; omega, oy.1.2.2.2⟩, by show y.2.1 + 1 < y.1; omega, oy.2.2⟩ q4)
theorem termU_L {B : Int → Int} {n k : Int} {K0 K1 : MH → Option (Int × MH)} (b : BB B n) : ∀ (d f m : Nat) (x : RST) (h : MH), (n - x.1).toNat ≤ d → d < f → d < m → MRu h B n k x → OkT n x → TE h B n k (GX12_term_L9 K0 K1 f h) K0 K1 (telp B n m x) := by
  intro d
  induction d using Nat.strongRecOn with
  | ind d ih =>
  intro f m x h hd hf hm M o
  obtain ⟨q, rfl⟩ : ∃ q, f = q + 1 := ⟨f - 1, by omega⟩
  obtain ⟨r, rfl⟩ : ∃ r, m = r + 1 := ⟨m - 1, by omega⟩
  have b1 := b.2.1
  have p0 := o.1.1
  have sb := sk_b (B := B) b.2.1 o.1.1 o.1.2.1
  have hs : sk B n (mvp (sk B n x.1) x).1 = sk B n x.1 := sk_i b.2.1 o.1.1
  obtain ⟨h1, e1, F1, M1⟩ := seeU b M
  obtain ⟨h2, e2, F2, M2⟩ := seeU b M1
  rw [hs] at e2 M2
  have M2' : MRu h2 B n k (mvp (sk B n x.1) x) := M2
  obtain ⟨h3, e3, F3, M3⟩ := seeU b M2'
  rw [hs] at e3 M3
  have M3' : MRu h3 B n k (mvp (sk B n x.1) x) := M3
  have G1 : Fr (Mu0 k) h h1 := F1.wk (fun _ _ z => z.mu)
  have G2 : Fr (Mu0 k) h h2 := G1.tr (F2.wk (fun _ _ z => z.mu))
  have G3 : Fr (Mu0 k) h h3 := G2.tr (F3.wk (fun _ _ z => z.mu))
  have te : telp B n (r + 1) x = if isJ2 (jo (bya B n (sk B n x.1))) = true then rb (val B n (mvp (sk B n x.1 + 1) x)) (fun y => telp B n r (pu (jo (bya B n (sk B n x.1))) y)) else .inr (mvp (sk B n x.1) x) := rfl
  have body : ∀ (g : MH) (s6 : Int), MRu g B n k (mvp (sk B n x.1) x) → Fr (Mu0 k) h g → sk B n x.1 < n → s6 = enc (jo (bya B n (sk B n x.1))) → isJ2 (jo (bya B n (sk B n x.1))) = true → TE h B n k (bd (GX12_value (m_wr g 334 8 (m_w32 (m_rd g 334 8 + 1)))) (fun x8 h7 => if x8 = 0 then K0 h7 else bv (GX12_puts s6 0 h7) (fun h9 => GX12_term_L9 K0 K1 q h9))) K0 K1 (telp B n (r + 1) x) := by
    intro g s6 Mg Fg ln es j2
    have jc := J2_c j2
    rw [te, if_pos j2]
    exact opU (tl := telp B n r) b (fun x h M o => valU b M o.r (by have := o.2.1; have := o.1.2.1; omega)) (fun x y o e => val_Q b o e) Mg Fg o ln es (by omega) (fun y h' M' o' l => ih (n - y.1).toNat (by omega) q r (pu (jo (bya B n (sk B n x.1))) y) h' (Nat.le_refl _) (by omega) (by omega) M' o')
  conv => arg 5; unfold GX12_term_L9
  simp only [jn, if_true]
  rw [e1, bd_some]
  by_cases c1 : bya B n (sk B n x.1) = 42
  · obtain ⟨ln, e35⟩ := byU b M1 (c := 42) c1 (by decide) (by decide)
    have ln' : sk B n x.1 < n := ln
    rw [if_pos c1, gd_ib (by rw [M1.2.1]; show 0 ≤ sk B n x.1; omega) (by rw [M1.2.1]; show sk B n x.1 < 400; omega), gd_nil, if_pos (by rw [M1.2.1]; exact e35)]
    exact body h1 4 M1 G1 ln (by rw [c1]; rfl) (by rw [c1]; rfl)
  rw [if_neg c1, e2, bd_some]
  by_cases c2 : bya B n (sk B n x.1) = 47
  · obtain ⟨ln, e35⟩ := byU b M2' (c := 47) c2 (by decide) (by decide)
    have ln' : sk B n x.1 < n := ln
    rw [if_pos c2, gd_ib (by rw [M2'.2.1]; show 0 ≤ sk B n x.1; omega) (by rw [M2'.2.1]; show sk B n x.1 < 400; omega), gd_nil, if_neg (by rw [M2'.2.1, e35]; decide), gd_ib (by rw [M2'.2.1]; show 0 ≤ sk B n x.1; omega) (by rw [M2'.2.1]; show sk B n x.1 < 400; omega), gd_nil, if_pos (by rw [M2'.2.1]; exact e35)]
    exact body h2 5 M2' G2 ln (by rw [c2]; rfl) (by rw [c2]; rfl)
  rw [if_neg c2, e3, bd_some]
  by_cases c3 : bya B n (sk B n x.1) = 37
  · obtain ⟨ln, e35⟩ := byU b M3' (c := 37) c3 (by decide) (by decide)
    have ln' : sk B n x.1 < n := ln
    rw [if_pos c3, gd_ib (by rw [M3'.2.1]; show 0 ≤ sk B n x.1; omega) (by rw [M3'.2.1]; show sk B n x.1 < 400; omega), gd_nil, if_neg (by rw [M3'.2.1, e35]; decide), gd_ib (by rw [M3'.2.1]; show 0 ≤ sk B n x.1; omega) (by rw [M3'.2.1]; show sk B n x.1 < 400; omega), gd_nil, if_neg (by rw [M3'.2.1, e35]; decide)]
    exact body h3 14 M3' G3 ln (by rw [c3]; rfl) (by rw [c3]; rfl)
  rw [if_neg c3, te, if_neg (by
    intro z
    have := J2_c z
    unfold jo at this
    (repeat' split at this) <;> omega)]
  exact ⟨h3, rfl, G3, M3'⟩
theorem termU {B : Int → Int} {n k : Int} {x : RST} {h : MH} (b : BB B n) (M : MRu h B n k x) (o : OkT n x) : ∃ v h', GX12_term h = some (v, h') ∧ Fr (Mu0 k) h h' ∧ OutU h' B n k v (trm B n x) := by
  have b1 := b.2.1
  unfold GX12_term trm
  obtain ⟨v, h1, e1, F1, r1⟩ := valU b M o.r (by have := o.2.1; have := o.1.2.1; omega)
  rw [e1, bd_some]
  cases hv : val B n x with
  | inl f =>
    rw [hv] at r1
    rw [if_pos r1.1]
    exact ⟨0, h1, rfl, F1, rfl, r1.2.1, r1.2.2⟩
  | inr y =>
    rw [hv] at r1
    obtain ⟨v1, M1⟩ := r1
    have oy := (val_Q b o.1 hv).okt o
    have y0 := oy.1.1
    rw [if_neg (by omega)]
    have s := termU_L (K0 := fun h3 => some (0, h3)) (K1 := fun h4 => some (1, h4)) b (n - y.1).toNat FU 401 y h1 (Nat.le_refl _) (by unfold FU; omega) (by omega) M1 oy
    show ∃ v h', _ ∧ Fr (Mu0 k) h h' ∧ OutU h' B n k v (telp B n 401 y)
    generalize telp B n 401 y = R at s ⊢
    match R, s with
    | .inl f, ⟨h', e', F', a1, a2⟩ => exact ⟨0, h', e', F1.tr F', rfl, a1, a2⟩
    | .inr u, ⟨h', e', F', M'⟩ => exact ⟨1, h', e', F1.tr F', rfl, M'⟩
theorem sumU_L {B : Int → Int} {n k : Int} {K0 K1 : MH → Option (Int × MH)} (b : BB B n) : ∀ (d f m : Nat) (x : RST) (h : MH), (n - x.1).toNat ≤ d → d < f → d < m → MRu h B n k x → OkT n x → TE h B n k (GX12_sum_L9 K0 K1 f h) K0 K1 (sulp B n m x) := by
  intro d
  induction d using Nat.strongRecOn with
  | ind d ih =>
  intro f m x h hd hf hm M o
  obtain ⟨q, rfl⟩ : ∃ q, f = q + 1 := ⟨f - 1, by omega⟩
  obtain ⟨r, rfl⟩ : ∃ r, m = r + 1 := ⟨m - 1, by omega⟩
  have b1 := b.2.1
  have p0 := o.1.1
  have sb := sk_b (B := B) b.2.1 o.1.1 o.1.2.1
  have hs : sk B n (mvp (sk B n x.1) x).1 = sk B n x.1 := sk_i b.2.1 o.1.1
  obtain ⟨h1, e1, F1, M1⟩ := seeU b M
  obtain ⟨h2, e2, F2, M2⟩ := seeU b M1
  rw [hs] at e2 M2
  have M2' : MRu h2 B n k (mvp (sk B n x.1) x) := M2
  have G1 : Fr (Mu0 k) h h1 := F1.wk (fun _ _ z => z.mu)
  have G2 : Fr (Mu0 k) h h2 := G1.tr (F2.wk (fun _ _ z => z.mu))
  have te : sulp B n (r + 1) x = if isJ1 (jo (bya B n (sk B n x.1))) = true then rb (trm B n (mvp (sk B n x.1 + 1) x)) (fun y => sulp B n r (pu (jo (bya B n (sk B n x.1))) y)) else .inr (mvp (sk B n x.1) x) := rfl
  have body : ∀ (g : MH) (s6 : Int), MRu g B n k (mvp (sk B n x.1) x) → Fr (Mu0 k) h g → sk B n x.1 < n → s6 = enc (jo (bya B n (sk B n x.1))) → isJ1 (jo (bya B n (sk B n x.1))) = true → TE h B n k (bd (GX12_term (m_wr g 334 8 (m_w32 (m_rd g 334 8 + 1)))) (fun x8 h7 => if x8 = 0 then K0 h7 else bv (GX12_puts s6 0 h7) (fun h9 => GX12_sum_L9 K0 K1 q h9))) K0 K1 (sulp B n (r + 1) x) := by
    intro g s6 Mg Fg ln es j2
    have jc := J1_c j2
    rw [te, if_pos j2]
    exact opU (tl := sulp B n r) b (fun x h M o => termU b M o) (fun x y o e => trm_Q b o e) Mg Fg o ln es (by omega) (fun y h' M' o' l => ih (n - y.1).toNat (by omega) q r (pu (jo (bya B n (sk B n x.1))) y) h' (Nat.le_refl _) (by omega) (by omega) M' o')
  conv => arg 5; unfold GX12_sum_L9
  simp only [jn, if_true]
  rw [e1, bd_some]
  by_cases c1 : bya B n (sk B n x.1) = 43
  · obtain ⟨ln, e35⟩ := byU b M1 (c := 43) c1 (by decide) (by decide)
    have ln' : sk B n x.1 < n := ln
    rw [if_pos c1, gd_ib (by rw [M1.2.1]; show 0 ≤ sk B n x.1; omega) (by rw [M1.2.1]; show sk B n x.1 < 400; omega), gd_nil, if_pos (by rw [M1.2.1]; exact e35)]
    exact body h1 2 M1 G1 ln (by rw [c1]; rfl) (by rw [c1]; rfl)
  rw [if_neg c1, e2, bd_some]
  by_cases c2 : bya B n (sk B n x.1) = 45
  · obtain ⟨ln, e35⟩ := byU b M2' (c := 45) c2 (by decide) (by decide)
    have ln' : sk B n x.1 < n := ln
    rw [if_pos c2, gd_ib (by rw [M2'.2.1]; show 0 ≤ sk B n x.1; omega) (by rw [M2'.2.1]; show sk B n x.1 < 400; omega), gd_nil, if_neg (by rw [M2'.2.1, e35]; decide)]
    exact body h2 3 M2' G2 ln (by rw [c2]; rfl) (by rw [c2]; rfl)
  rw [if_neg c2, te, if_neg (by
    intro z
    have := J1_c z
    unfold jo at this
    (repeat' split at this) <;> omega)]
  exact ⟨h2, rfl, G2, M2'⟩
theorem sumU {B : Int → Int} {n k : Int} {x : RST} {h : MH} (b : BB B n) (M : MRu h B n k x) (o : OkT n x) : ∃ v h', GX12_sum h = some (v, h') ∧ Fr (Mu0 k) h h' ∧ OutU h' B n k v (smm B n x) := by
  have b1 := b.2.1
  unfold GX12_sum smm
  obtain ⟨v, h1, e1, F1, r1⟩ := termU b M o
  rw [e1, bd_some]
  cases hv : trm B n x with
  | inl f =>
    rw [hv] at r1
    rw [if_pos r1.1]
    exact ⟨0, h1, rfl, F1, rfl, r1.2.1, r1.2.2⟩
  | inr y =>
    rw [hv] at r1
    obtain ⟨v1, M1⟩ := r1
    have oy := (trm_Q b o.1 hv).okt o
    have y0 := oy.1.1
    rw [if_neg (by omega)]
    have s := sumU_L (K0 := fun h3 => some (0, h3)) (K1 := fun h4 => some (1, h4)) b (n - y.1).toNat FU 401 y h1 (Nat.le_refl _) (by unfold FU; omega) (by omega) M1 oy
    show ∃ v h', _ ∧ Fr (Mu0 k) h h' ∧ OutU h' B n k v (sulp B n 401 y)
    generalize sulp B n 401 y = R at s ⊢
    match R, s with
    | .inl f, ⟨h', e', F', a1, a2⟩ => exact ⟨0, h', e', F1.tr F', rfl, a1, a2⟩
    | .inr u, ⟨h', e', F', M'⟩ => exact ⟨1, h', e', F1.tr F', rfl, M'⟩
/-- behind the sign of a comparison -/
theorem cmtU {B : Int → Int} {n k a s13 : Int} {c : Int} {x : RST} {h g : MH} (b : BB B n) (M : MRu g B n k x) (F : Fr (Mu0 k) h g) (o : OkT n x) (s : x.2.1 + 1 < x.1) (a0 : 0 ≤ a) (a1 : a ≤ 400) (cc : -29 ≤ c ∧ c ≤ -25) (es : 6 + s13 = enc c) : ∃ v h', bd (GX12_makes a g) (fun x11 h10 => if x11 = 0 then some (0, h10) else bd (GX12_sum h10) (fun x15 h14 => if x15 = 0 then some (0, h14) else bv (GX12_puts (m_w32 (6 + s13)) 0 h14) (fun h16 => some (1, h16)))) = some (v, h') ∧ Fr (Mu0 k) h h' ∧ OutU h' B n k v (cnp a x (fun z => rb (smm B n z) (fun u => .inr (pu c u)))) := by
  have b1 := b.2.1
  have se : 6 ≤ enc c ∧ enc c ≤ 10 := by
    unfold enc
    (repeat' split) <;> omega
  obtain ⟨v, h1, e1, F1, r0, r1⟩ := makeU (a := a) M o.2.2 o.1.2.2.2 a0 a1
  have G1 : Fr (Mu0 k) h h1 := F.tr (F1.wk (fun a j z => by unfold Mu0; omega))
  unfold cnp
  rw [e1, bd_some]
  by_cases c6 : x.2.2.1 = 60
  · obtain ⟨u0, u1⟩ := r0 c6
    rw [if_pos u0, if_pos c6]
    exact ⟨0, h1, rfl, G1, rfl, u1, by omega⟩
  · obtain ⟨u1, M1⟩ := r1 c6
    have o1 : OkT n (x.1, x.2.1, x.2.2.1 + 1, x.2.2.2) := ⟨⟨o.1.1, o.1.2.1, o.1.2.2.1, by show x.2.2.1 + 1 ≤ 60; have := o.1.2.2.2; omega⟩, o.2.1, by show 0 ≤ x.2.2.1 + 1; have := o.2.2; omega⟩
    rw [if_neg (by omega), if_neg c6]
    obtain ⟨v2, h2, e2, F2, r2⟩ := sumU b M1 o1
    rw [e2, bd_some]
    show ∃ v h', _ ∧ Fr (Mu0 k) h h' ∧ OutU h' B n k v (rb (smm B n (x.1, x.2.1, x.2.2.1 + 1, x.2.2.2)) (fun u => .inr (pu c u)))
    cases hv : smm B n (x.1, x.2.1, x.2.2.1 + 1, x.2.2.2) with
    | inl f =>
      rw [hv] at r2
      rw [if_pos r2.1]
      exact ⟨0, h2, rfl, G1.tr F2, rfl, r2.2.1, r2.2.2⟩
    | inr y =>
      rw [hv] at r2
      obtain ⟨w1, M2⟩ := r2
      have Q := smm_Q b o1.1 hv
      have oy := Q.okt o1
      have q3 : y.2.1 - x.2.1 ≤ y.1 - x.1 := Q.2.2
      have y1 := oy.1.2.1
      have y2 := oy.1.2.2.1
      rw [if_neg (by omega), w32_id (x := 6 + s13) (by omega) (by omega)]
      obtain ⟨h3, e3, F3, M3⟩ := putU (c := c) (a1 := 6 + s13) (a2 := 0) M2 y2 (by omega) (by omega) (by omega) (by omega) (by omega) (by omega)
      rw [e3, bv_some]
      exact ⟨1, h3, rfl, (G1.tr F2).tr (F3.wk (fun a j z => put_mu y2 (by omega) z)), rfl, M3⟩
theorem cmpU {B : Int → Int} {n k : Int} {x : RST} {h : MH} (b : BB B n) (M : MRu h B n k x) (o : OkT n x) : ∃ v h', GX12_compare h = some (v, h') ∧ Fr (Mu0 k) h h' ∧ OutU h' B n k v (cmp B n x) := by
  have b1 := b.2.1
  obtain ⟨v, h1, e1, F1, r1⟩ := sumU b M o
  unfold GX12_compare cmp
  simp only [jn, if_true]
  rw [e1, bd_some]
  cases hv : smm B n x with
  | inl f =>
    rw [hv] at r1
    rw [if_pos r1.1]
    exact ⟨0, h1, rfl, F1, rfl, r1.2.1, r1.2.2⟩
  | inr y =>
    rw [hv] at r1
    obtain ⟨v1, M1⟩ := r1
    have oy := (smm_Q b o.1 hv).okt o
    have y0 := oy.1.1
    have y1 := oy.2.1
    have y5 := oy.1.2.2.1
    have sb := sk_b (B := B) b.2.1 oy.1.1 oy.1.2.1
    obtain ⟨h2, e2, F2, M2⟩ := seeU b M1
    have G2 : Fr (Mu0 k) h h2 := F1.tr (F2.wk (fun _ _ z => z.mu))
    have a8 : m_rd h2 334 8 = sk B n y.1 := M2.2.1
    rw [if_neg (by omega), e2, bd_some]
    show ∃ v h', _ ∧ Fr (Mu0 k) h h' ∧ OutU h' B n k v (if iscm B n (sk B n y.1) = true then cnp (sk B n y.1) (mvp (sk B n y.1 + cml B n (sk B n y.1)) y) (fun z => rb (smm B n z) (fun u => .inr (pu (cmc B n (sk B n y.1)) u))) else .inl (1 + 8 * sk B n y.1 + 0))
    by_cases c : iscm B n (sk B n y.1) = true
    · have cc : bya B n (sk B n y.1) = 60 ∨ bya B n (sk B n y.1) = 61 ∨ bya B n (sk B n y.1) = 62 := of_decide_eq_true c
      obtain ⟨q1, q2, q3, q4, q5⟩ := cm_b (q := sk B n y.1) (by omega) c
      have sel : ∀ (r1 r0 : Option (Int × MH)), (if bya B n (sk B n y.1) = 60 then r1 else if bya B n (sk B n y.1) = 61 then r1 else if bya B n (sk B n y.1) = 62 then r1 else r0) = r1 := fun r1 r0 => by
        by_cases k1 : bya B n (sk B n y.1) = 60
        · rw [if_pos k1]
        by_cases k2 : bya B n (sk B n y.1) = 61
        · rw [if_neg k1, if_pos k2]
        · rw [if_neg k1, if_neg k2, if_pos (by omega)]
      have ox : OkT n (mvp (sk B n y.1 + cml B n (sk B n y.1)) y) := ⟨⟨by show (0 : Int) ≤ sk B n y.1 + cml B n (sk B n y.1); omega, q3, oy.1.2.2.1, oy.1.2.2.2⟩, by show y.2.1 < sk B n y.1 + cml B n (sk B n y.1); omega, oy.2.2⟩
      have oz : (mvp (sk B n y.1 + cml B n (sk B n y.1)) y).2.1 + 1 < (mvp (sk B n y.1 + cml B n (sk B n y.1)) y).1 := by
        show y.2.1 + 1 < sk B n y.1 + cml B n (sk B n y.1)
        omega
      have F3 : Fr (Mu0 k) h (m_wr h2 334 8 (sk B n y.1 + 1)) := Fr.wr G2 (Or.inl ⟨rfl, Or.inl rfl⟩)
      have M3 : MRu (m_wr h2 334 8 (sk B n y.1 + 1)) B n k (mvp (sk B n y.1 + 1) y) := M2.at (by omega) (by omega)
      rw [sel, if_pos c, a8, w32_id (x := sk B n y.1 + 1) (by omega) (by omega)]
      generalize m_wr h2 334 8 (sk B n y.1 + 1) = g at F3 M3 ⊢
      have g8 : m_rd g 334 8 = sk B n y.1 + 1 := M3.2.1
      rw [g8, M3.1.1]
      by_cases k2 : bya B n (sk B n y.1) = 61
      · have l : cml B n (sk B n y.1) = 1 := by
          unfold cml
          rw [if_pos k2]
        have m : cmc B n (sk B n y.1) = -27 := by
          unfold cmc
          rw [if_pos k2]
        rw [l] at ox oz
        have k60 : ¬ bya B n (sk B n y.1) = 60 := by omega
        rw [if_pos k2, l, m]
        simp only [if_neg k60, if_pos k2]
        exact cmtU b M3 F3 ox oz (by omega) (by omega) (by omega) rfl
      · by_cases k3 : bya B n (sk B n y.1 + 1) = 61
        · have ln : sk B n y.1 + 1 < n := by
            by_cases z : sk B n y.1 + 1 < n
            · exact z
            · have := bya_o (B := B) (n := n) (q := sk B n y.1 + 1) (by omega)
              omega
          have e35 : m_rd g 335 (sk B n y.1 + 1) = 61 := (byU b M3 (c := 61) k3 (by decide) (by decide)).2
          have l : cml B n (sk B n y.1) = 2 := by
            unfold cml
            rw [if_neg k2, if_pos k3]
          have M4 : MRu (m_wr g 334 8 (sk B n y.1 + 2)) B n k (mvp (sk B n y.1 + 2) y) := M3.at (by omega) (by omega)
          have F4 : Fr (Mu0 k) h (m_wr g 334 8 (sk B n y.1 + 2)) := Fr.wr F3 (Or.inl ⟨rfl, Or.inl rfl⟩)
          rw [l] at ox oz
          rw [if_neg k2, if_pos ln, gd_ib (by omega) (by omega), gd_nil, if_pos e35, if_neg (show ¬ (1 : Int) = 0 by decide), w32_id (x := sk B n y.1 + 1 + 1) (by omega) (by omega), show sk B n y.1 + 1 + 1 = sk B n y.1 + 2 by omega, l]
          by_cases k4 : bya B n (sk B n y.1) = 60
          · have m : cmc B n (sk B n y.1) = -26 := by
              unfold cmc
              rw [if_neg k2, if_pos k3, if_pos k4]
            rw [m]
            simp only [if_pos k4, if_neg (show ¬ (1 : Int) = 0 by decide)]
            exact cmtU b M4 F4 ox oz (by omega) (by omega) (by omega) rfl
          · have m : cmc B n (sk B n y.1) = -28 := by
              unfold cmc
              rw [if_neg k2, if_pos k3, if_neg k4]
            rw [m]
            simp only [if_neg k4, if_neg k2, if_neg (show ¬ (1 : Int) = 0 by decide)]
            exact cmtU b M4 F4 ox oz (by omega) (by omega) (by omega) rfl
        · have l : cml B n (sk B n y.1) = 1 := by
            unfold cml
            rw [if_neg k2, if_neg k3]
          have sel2 : ∀ (r1 r0 : Option (Int × MH)), (if sk B n y.1 + 1 < n then gd [IB (sk B n y.1 + 1) 400] (if m_rd g 335 (sk B n y.1 + 1) = 61 then r1 else r0) else r0) = r0 := fun r1 r0 => by
            by_cases z : sk B n y.1 + 1 < n
            · rw [if_pos z, gd_ib (by omega) (by omega), gd_nil, if_neg]
              intro w
              rw [bya_i (by omega) z] at k3
              have t := M3.1.2 (sk B n y.1 + 1) (by omega) z
              have bb := b.2.2 (sk B n y.1 + 1) (by omega) z
              rw [w] at t
              omega
            · rw [if_neg z]
          rw [l] at ox oz
          rw [if_neg k2, sel2, l]
          by_cases k4 : bya B n (sk B n y.1) = 60
          · have m : cmc B n (sk B n y.1) = -25 := by
              unfold cmc
              rw [if_neg k2, if_neg k3, if_pos k4]
            rw [m]
            simp only [if_pos k4]
            exact cmtU b M3 F3 ox oz (by omega) (by omega) (by omega) rfl
          · have m : cmc B n (sk B n y.1) = -29 := by
              unfold cmc
              rw [if_neg k2, if_neg k3, if_neg k4]
            rw [m]
            simp only [if_neg k4, if_neg k2]
            exact cmtU b M3 F3 ox oz (by omega) (by omega) (by omega) rfl
    · have cc : ¬ (bya B n (sk B n y.1) = 60 ∨ bya B n (sk B n y.1) = 61 ∨ bya B n (sk B n y.1) = 62) := fun z => c (decide_eq_true z)
      rw [if_neg (by omega), if_neg (by omega), if_neg (by omega), if_neg c, a8, failM (by omega) (by omega) (by omega) (by omega) M2.2.2.1, bd_some, gd_cons (show GT 0 from Or.inl rfl), gd_nil]
      exact ⟨0, _, rfl, Fr.wr G2 (Or.inl ⟨rfl, by omega⟩), rfl, rd_eq rfl rfl, by omega⟩
