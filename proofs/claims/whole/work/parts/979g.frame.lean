/-! FRAME read: the pure reader -/
abbrev PR : Type := Int ⊕ (Int × (Int → Int))
def shS (r d s : Int) (T : Int → Int) : Int → Int := fun k => if k = 0 then 1 else if k = 1 then r else if k = 2 then d else if k = 3 then s else if 82 ≤ k ∧ k < 88 then 5 else T k
def tnS (d p t : Int) (T : Int → Int) : Int → Int := fun k => if k = 90 + 3 * num (beg T) d p then t else if k = 89 + 3 * num (beg T) d p then p else if k = 88 + 3 * num (beg T) d p then d else if k = 4 then (if num (beg T) d p = T 4 then T 4 + 1 else T 4) else T k
def ltS (c : Int) (T : Int → Int) : Int → Int := ups (ups T (124 + T 5) c) 5 (T 5 + 1)
section
variable (B : Int → Int) (n : Int)
noncomputable def nst (lo hi p : Int) (k : Int → Int → PR) : PR := if dec (nok B n lo hi p) = true then k (nvl B n p) (npo B n p) else .inl (nfl B n p)
noncomputable def fsh (p : Int) (T : Int → Int) : PR := nst B n 2 4 p (fun r p1 => nst B n 1 4 p1 (fun d p2 => nst B n 1 6 p2 (fun s p3 => .inr (p3, shS r d s T))))
noncomputable def frm (p : Int) (T : Int → Int) : PR := nst B n 0 (T 3 - 1) p (fun g p1 => nst B n 1 20 p1 (fun v p2 => .inr (p2, ups T (82 + g) v)))
noncomputable def fen (p : Int) (T : Int → Int) : PR := nst B n 0 (T 2) p (fun d p1 => nst B n 0 (pw (T 1) d - 1) p1 (fun x p2 => nst B n 0 (T 3 - 1) p2 (fun t p3 => .inr (p3, tnS d x t T))))
noncomputable def flt (p : Int) (T : Int → Int) : PR := nst B n 0 (pw (T 1) (T 2) - 1) p (fun c p1 => .inr (p1, ltS c T))
noncomputable def fcl (c p : Int) (T : Int → Int) : PR := if dec (wdp B n (sk B n p) (-10)) = true then (if c = 0 then fsh B n (sk B n p + 5) T else .inl (1 + 8 * sk B n p + 4)) else if dec (wdp B n (sk B n p) (-11)) = true then (if 1 ≤ c ∧ c < 40 then frm B n (sk B n p + 4) T else .inl (1 + 8 * sk B n p + 4)) else if dec (wdp B n (sk B n p) (-12)) = true then (if (1 ≤ c ∧ c < 40) ∧ T 4 < 12 then fen B n (sk B n p + 4) T else .inl (1 + 8 * sk B n p + 4)) else if dec (wdp B n (sk B n p) (-13)) = true then (if (1 ≤ c ∧ c < 40) ∧ T 5 < 12 then flt B n (sk B n p + 6) T else .inl (1 + 8 * sk B n p + 4)) else .inl (1 + 8 * sk B n p + 0)
noncomputable def fpa : Nat → Int → Int → (Int → Int) → PR
  | 0, _, _, _ => .inl 1
  | m + 1, c, p, T => match fcl B n c p T with
    | .inl f => .inl f
    | .inr r => if bya B n (sk B n r.1) = -1 then .inr (sk B n r.1, r.2) else if bya B n (sk B n r.1) = 59 then fpa m (c + 1) (sk B n r.1 + 1) r.2 else .inl (1 + 8 * sk B n r.1 + 0)
end
theorem nst_t {B : Int → Int} {n lo hi p : Int} {k : Int → Int → PR} (h : nok B n lo hi p) : nst B n lo hi p k = k (nvl B n p) (npo B n p) := if_pos (dec_t h)
theorem nst_f {B : Int → Int} {n lo hi p : Int} {k : Int → Int → PR} (h : ¬ nok B n lo hi p) : nst B n lo hi p k = .inl (nfl B n p) := if_neg (by rw [dec_f h]; decide)
/-! rows -/
theorem tn_num {T : Int → Int} {d p : Int} (t0 : 0 ≤ T 4) : 0 ≤ num (beg T) d p ∧ num (beg T) d p ≤ T 4 := by
  have := num_f (S := beg T) (d := d) (p := p) (by rw [beg_13]; exact t0)
  rw [beg_13] at this
  exact ⟨this.1, this.2.1⟩
theorem bg_at {X : Int → Int} {k : Int} : beg X k = if k = 12 then X 5 else if k = 13 then X 4 else if 26 ≤ k ∧ k < 26 + X 5 then X (124 + (k - 26)) else if 46 ≤ k ∧ k < 46 + 3 * X 4 then X (88 + (k - 46)) else if 10 ≤ k ∧ k < 82 then 0 else X k := rfl
theorem Wf.sg1 {B0 : Int} {S S' : Int → Int} (H : Wf B0 S) (f1 : S 0 = 1) (e : ∀ k, (0 ≤ k ∧ k < 4) ∨ (10 ≤ k ∧ k < 88) → S' k = S k) : Wf B0 S' := by
  obtain ⟨F, E, W, t1, t2, t3⟩ := H
  refine ⟨?_, E.sg (fun k z => e k (by omega)), W.sg (fun k z => e k (by omega)), by rw [e 11 (by omega)]; exact t1, by rw [e 11 (by omega), e 10 (by omega)]; exact t2, by rw [e 10 (by omega)]; exact t3⟩
  unfold WfF
  rw [e 0 (by omega), e 1 (by omega), e 2 (by omega), e 3 (by omega)]
  rcases F with ⟨a1, a2, a3, a4, a5, a6, a7, a8⟩ | q
  · refine Or.inl ⟨a1, a2, a3, a4, a5, a6, a7, fun i i0 i1 => ?_⟩
    rw [e _ (by omega)]
    exact a8 i i0 i1
  · omega
theorem beg_en {T : Int → Int} {d p t : Int} (a0 : 0 ≤ T 4) (a1 : T 4 ≤ 12) (b0 : 0 ≤ T 5) (b1 : T 5 ≤ 12) (e1 : num (beg T) d p < 12) : ∀ k, k ≠ 4 → k < 88 → beg (tnS d p t T) k = enS d p t (beg T) k := by
  intro k kk k1
  have nb := tn_num (d := d) (p := p) a0
  have t4 : tnS d p t T 4 = if num (beg T) d p = T 4 then T 4 + 1 else T 4 := by
    unfold tnS
    rw [if_neg (by omega), if_neg (by omega), if_neg (by omega), if_pos rfl]
  have t5 : tnS d p t T 5 = T 5 := by
    unfold tnS
    rw [if_neg (by omega), if_neg (by omega), if_neg (by omega), if_neg (by omega)]
  have t4b : num (beg T) d p < tnS d p t T 4 ∧ T 4 ≤ tnS d p t T 4 ∧ tnS d p t T 4 ≤ 12 ∧ (tnS d p t T 4 = T 4 ∨ (tnS d p t T 4 = T 4 + 1 ∧ num (beg T) d p = T 4)) := by
    rw [t4]
    split <;> omega
  have tk : ∀ j, (j < 88 + 3 * num (beg T) d p ∨ 90 + 3 * num (beg T) d p < j) → j ≠ 4 → tnS d p t T j = T j := fun j z1 z2 => by
    unfold tnS
    rw [if_neg (by omega), if_neg (by omega), if_neg (by omega), if_neg z2]
  have x0 : tnS d p t T (90 + 3 * num (beg T) d p) = t := by
    unfold tnS
    rw [if_pos rfl]
  have x1 : tnS d p t T (89 + 3 * num (beg T) d p) = p := by
    unfold tnS
    rw [if_neg (by omega), if_pos rfl]
  have x2 : tnS d p t T (88 + 3 * num (beg T) d p) = d := by
    unfold tnS
    rw [if_neg (by omega), if_neg (by omega), if_pos rfl]
  rw [en_at k (by rw [beg_13]; exact a0), beg_13, bg_at (X := tnS d p t T), bg_at (X := T) (k := k), t5]
  generalize num (beg T) d p = e at nb t4 t4b tk x0 x1 x2 e1 ⊢
  by_cases c1 : k = 12
  · rw [if_pos c1, if_neg (by omega), if_neg (by omega), if_neg (by omega), if_neg (by omega), if_pos c1]
  rw [if_neg c1]
  by_cases c2 : k = 13
  · rw [if_pos c2, if_neg (by omega), if_neg (by omega), if_neg (by omega), if_pos c2, t4]
  rw [if_neg c2]
  by_cases c3 : 26 ≤ k ∧ k < 26 + T 5
  · rw [if_pos c3, if_neg (by omega), if_neg (by omega), if_neg (by omega), if_neg c2, if_neg c1, if_neg c2, if_pos c3, tk _ (by omega) (by omega)]
  rw [if_neg c3]
  by_cases c4 : 46 ≤ k ∧ k < 46 + 3 * tnS d p t T 4
  · rw [if_pos c4]
    by_cases k1' : k = 48 + 3 * e
    · rw [if_pos k1', show 88 + (k - 46) = 90 + 3 * e by omega, x0]
    by_cases k2' : k = 47 + 3 * e
    · rw [if_neg k1', if_pos k2', show 88 + (k - 46) = 89 + 3 * e by omega, x1]
    by_cases k3' : k = 46 + 3 * e
    · rw [if_neg k1', if_neg k2', if_pos k3', show 88 + (k - 46) = 88 + 3 * e by omega, x2]
    rw [if_neg k1', if_neg k2', if_neg k3', if_neg c2, if_neg c1, if_neg c2, if_neg c3, if_pos (by omega), tk _ (by omega) (by omega)]
  · rw [if_neg c4]
    by_cases c5 : 10 ≤ k ∧ k < 82
    · rw [if_pos c5, if_neg (by omega), if_neg (by omega), if_neg (by omega), if_neg c2, if_neg c1, if_neg c2, if_neg c3, if_neg (by omega), if_pos c5]
    · rw [if_neg c5, if_neg (by omega), if_neg (by omega), if_neg (by omega), if_neg c2, if_neg c1, if_neg c2, if_neg c3, if_neg (by omega), if_neg c5]
      exact tk _ (by omega) kk
theorem beg_lt {T : Int → Int} {c : Int} (a0 : 0 ≤ T 4) (a1 : T 4 ≤ 12) (b0 : 0 ≤ T 5) (b1 : T 5 < 12) : ∀ k, k ≠ 5 → k < 88 → beg (ltS c T) k = cmS c (beg T) k := by
  intro k kk k1
  have t4 : ltS c T 4 = T 4 := by
    unfold ltS
    rw [up_k (by omega), up_k (by omega)]
  have t5 : ltS c T 5 = T 5 + 1 := up_eq rfl
  have tk : ∀ j, j ≠ 5 → j ≠ 124 + T 5 → ltS c T j = T j := fun j z1 z2 => by
    unfold ltS
    rw [up_k z1, up_k z2]
  have tc : ltS c T (124 + T 5) = c := by
    unfold ltS
    rw [up_k (by omega), up_eq rfl]
  rw [cm_at (by rw [beg_12]; omega), beg_12, bg_at (X := ltS c T), bg_at (X := T) (k := k), t4, t5]
  by_cases c1 : k = 12
  · rw [if_pos c1, if_pos c1]
  rw [if_neg c1, if_neg c1]
  by_cases c2 : k = 13
  · rw [if_pos c2, if_neg (by omega), if_neg c1, if_pos c2]
  rw [if_neg c2]
  by_cases c3 : 26 ≤ k ∧ k < 26 + (T 5 + 1)
  · rw [if_pos c3]
    by_cases k5 : k = 26 + T 5
    · rw [if_pos k5, show 124 + (k - 26) = 124 + T 5 by omega, tc]
    · rw [if_neg k5, if_neg c1, if_neg c2, if_pos (by omega), tk _ (by omega) (by omega)]
  rw [if_neg c3]
  by_cases c4 : 46 ≤ k ∧ k < 46 + 3 * T 4
  · rw [if_pos c4, if_neg (by omega), if_neg c1, if_neg c2, if_neg (by omega), if_pos c4, tk _ (by omega) (by omega)]
  rw [if_neg c4]
  by_cases c5 : 10 ≤ k ∧ k < 82
  · rw [if_pos c5, if_neg (by omega), if_neg c1, if_neg c2, if_neg (by omega), if_neg c4, if_pos c5]
  · rw [if_neg c5, if_neg (by omega), if_neg c1, if_neg c2, if_neg (by omega), if_neg c4, if_neg c5]
    exact tk _ kk (by omega)
theorem beg_rm {T : Int → Int} {g v : Int} (a0 : 0 ≤ T 4) (a1 : T 4 ≤ 12) (b0 : 0 ≤ T 5) (b1 : T 5 ≤ 12) (g0 : 0 ≤ g) (g1 : g < 6) : ∀ k, beg (ups T (82 + g) v) k = ups (beg T) (82 + g) v k := by
  intro k
  have t : ∀ j, j ≠ 82 + g → ups T (82 + g) v j = T j := fun j z => up_k z
  rw [bg_at (X := ups T (82 + g) v), t 5 (by omega), t 4 (by omega)]
  by_cases c : k = 82 + g
  · rw [up_eq c, if_neg (by omega), if_neg (by omega), if_neg (by omega), if_neg (by omega), if_neg (by omega), up_eq c]
  · rw [up_k (S := beg T) c, bg_at (X := T)]
    by_cases c1 : k = 12
    · rw [if_pos c1, if_pos c1]
    rw [if_neg c1, if_neg c1]
    by_cases c2 : k = 13
    · rw [if_pos c2, if_pos c2]
    rw [if_neg c2, if_neg c2]
    by_cases c3 : 26 ≤ k ∧ k < 26 + T 5
    · rw [if_pos c3, if_pos c3, t _ (by omega)]
    rw [if_neg c3, if_neg c3]
    by_cases c4 : 46 ≤ k ∧ k < 46 + 3 * T 4
    · rw [if_pos c4, if_pos c4, t _ (by omega)]
    rw [if_neg c4, if_neg c4]
    by_cases c5 : 10 ≤ k ∧ k < 82
    · rw [if_pos c5, if_pos c5]
    rw [if_neg c5, if_neg c5, t _ c]
/-- told as it should be, behind c clauses -/
def TW (c : Int) (T : Int → Int) : Prop := (0 ≤ T 4 ∧ T 4 ≤ 12 ∧ 0 ≤ T 5 ∧ T 5 ≤ 12) ∧ (c = 0 → ∀ k, 0 ≤ k → k < 136 → T k = 0) ∧ (1 ≤ c → T 0 = 1 ∧ Wf 0 (beg T))
theorem sh_T {r d s k : Int} {T : Int → Int} (z : 4 ≤ k ∧ (k < 82 ∨ 88 ≤ k)) : shS r d s T k = T k := by
  unfold shS
  rw [if_neg (by omega), if_neg (by omega), if_neg (by omega), if_neg (by omega), if_neg (by omega)]
theorem sh_c {r d s : Int} {T : Int → Int} : shS r d s T 0 = 1 ∧ shS r d s T 1 = r ∧ shS r d s T 2 = d ∧ shS r d s T 3 = s ∧ ∀ i, 0 ≤ i → i < 6 → shS r d s T (82 + i) = 5 := by
  refine ⟨rfl, rfl, rfl, rfl, fun i i0 i1 => ?_⟩
  unfold shS
  rw [if_neg (by omega), if_neg (by omega), if_neg (by omega), if_neg (by omega), if_pos (by omega)]
theorem sh_TW {r d s : Int} {T : Int → Int} (W : TW 0 T) (r0 : 2 ≤ r) (r1 : r ≤ 4) (d0 : 1 ≤ d) (d1 : d ≤ 4) (s0 : 1 ≤ s) (s1 : s ≤ 6) : TW 1 (shS r d s T) ∧ ∀ k, 10 ≤ k → k < 82 → beg (shS r d s T) k = beg T k := by
  have z := W.2.1 rfl
  have t4 : shS r d s T 4 = 0 := by rw [sh_T (by omega), z 4 (by omega) (by omega)]
  have t5 : shS r d s T 5 = 0 := by rw [sh_T (by omega), z 5 (by omega) (by omega)]
  obtain ⟨c0, c1, c2, c3, c4⟩ := sh_c (r := r) (d := d) (s := s) (T := T)
  have bz : ∀ k, 10 ≤ k → k < 82 → beg (shS r d s T) k = 0 := by
    intro k k0 k1
    rw [bg_at, t4, t5]
    by_cases x1 : k = 12
    · rw [if_pos x1]
    by_cases x2 : k = 13
    · rw [if_neg x1, if_pos x2]
    rw [if_neg x1, if_neg x2, if_neg (by omega), if_neg (by omega), if_pos (by omega)]
  have bo : ∀ k, k < 10 ∨ 82 ≤ k → beg (shS r d s T) k = shS r d s T k := fun k z => beg_k (by omega) (by omega) z
  refine ⟨⟨by omega, fun y => absurd y (by decide), fun _ => ⟨c0, Or.inl ⟨?_, ?_, ?_, ?_, ?_, ?_, ?_, fun i i0 i1 => ?_⟩, ⟨?_, fun i i0 i1 => ?_, fun i j i0 i1 i2 => ?_⟩, ⟨?_, fun i i0 i1 => ?_, fun i i0 i1 => ?_⟩, ?_, ?_, ?_⟩⟩, fun k k0 k1 => ?_⟩
  · rw [bo 0 (by omega)]
    exact c0
  · rw [bo 1 (by omega), c1]
    exact r0
  · rw [bo 1 (by omega), c1]
    exact r1
  · rw [bo 2 (by omega), c2]
    exact d0
  · rw [bo 2 (by omega), c2]
    exact d1
  · rw [bo 3 (by omega), c3]
    exact s0
  · rw [bo 3 (by omega), c3]
    exact s1
  · rw [bo (82 + i) (by omega), c4 i i0 i1]
    omega
  · rw [bz 13 (by omega) (by omega)]
    omega
  · rw [bz 13 (by omega) (by omega)] at i1
    omega
  · rw [bz 13 (by omega) (by omega)] at i2
    omega
  · rw [bz 12 (by omega) (by omega)]
    omega
  · rw [bz (14 + i) (by omega) (by omega), bz (20 + i) (by omega) (by omega)]
    omega
  · rw [bz 12 (by omega) (by omega)] at i1
    omega
  · rw [bz 11 (by omega) (by omega)]
    exact Int.le_refl _
  · rw [bz 11 (by omega) (by omega), bz 10 (by omega) (by omega)]
    exact Int.le_refl _
  · rw [bz 10 (by omega) (by omega)]
    exact Int.le_refl _
  · rw [bz k k0 k1, bg_at, z 4 (by omega) (by omega), z 5 (by omega) (by omega)]
    by_cases x1 : k = 12
    · rw [if_pos x1]
    by_cases x2 : k = 13
    · rw [if_neg x1, if_pos x2]
    rw [if_neg x1, if_neg x2, if_neg (by omega), if_neg (by omega), if_pos (by omega)]
/-! words -/
theorem wd_10 : WD (-10) 440005651813 := by
  refine ⟨⟨by decide, by decide⟩, by decide, by decide, fun i i0 i1 => ?_, by decide⟩
  have e : t_len (-10) = 5 := by decide
  have hi : i = 0 ∨ i = 1 ∨ i = 2 ∨ i = 3 ∨ i = 4 := by omega
  rcases hi with rfl | rfl | rfl | rfl | rfl <;> decide
theorem wd_11 : WD (-11) 1919905645 := by
  refine ⟨⟨by decide, by decide⟩, by decide, by decide, fun i i0 i1 => ?_, by decide⟩
  have e : t_len (-11) = 4 := by decide
  have hi : i = 0 ∨ i = 1 ∨ i = 2 ∨ i = 3 := by omega
  rcases hi with rfl | rfl | rfl | rfl <;> decide
theorem wd_12 : WD (-12) 1886151022 := by
  refine ⟨⟨by decide, by decide⟩, by decide, by decide, fun i i0 i1 => ?_, by decide⟩
  have e : t_len (-12) = 4 := by decide
  have hi : i = 0 ∨ i = 1 ∨ i = 2 ∨ i = 3 := by omega
  rcases hi with rfl | rfl | rfl | rfl <;> decide
theorem wd_13 : WD (-13) 119183001281906 := by
  refine ⟨⟨by decide, by decide⟩, by decide, by decide, fun i i0 i1 => ?_, by decide⟩
  have e : t_len (-13) = 6 := by decide
  have hi : i = 0 ∨ i = 1 ∨ i = 2 ∨ i = 3 ∨ i = 4 ∨ i = 5 := by omega
  rcases hi with rfl | rfl | rfl | rfl | rfl | rfl <;> decide
