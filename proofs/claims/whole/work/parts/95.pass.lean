/-! A TURN, as plain rows -/
theorem prf_sg {S S' : Int → Int} {c d : Int} (e1 : S' 1 = S 1) (e2 : S' 2 = S 2) : prf S' c d = prf S c d := by
  unfold prf
  rw [e1, e2]
theorem entG_sg {S S' : Int → Int} {c : Int} (e1 : S' 1 = S 1) (e2 : S' 2 = S 2) : ∀ n : Nat, n ≤ 12 → (∀ e, 0 ≤ e → e < (n : Int) → S' (46 + 3 * e) = S (46 + 3 * e) ∧ S' (47 + 3 * e) = S (47 + 3 * e)) → entG S' c n = entG S c n := by
  intro n
  induction n with
  | zero =>
    intro _ _
    rfl
  | succ n ih =>
    intro hn e
    have i := ih (by omega) (fun k k0 k1 => e k k0 (by omega))
    obtain ⟨a1, a2⟩ := e n (by omega) (by omega)
    have b := entG_b (S := S) (c := c) n
    show (if S' (47 + 3 * (n : Int)) = prf S' c (S' (46 + 3 * (n : Int))) ∧ (entG S' c n < 0 ∨ S' (46 + 3 * entG S' c n) < S' (46 + 3 * (n : Int))) then (n : Int) else entG S' c n) = (if S (47 + 3 * (n : Int)) = prf S c (S (46 + 3 * (n : Int))) ∧ (entG S c n < 0 ∨ S (46 + 3 * entG S c n) < S (46 + 3 * (n : Int))) then (n : Int) else entG S c n)
    rw [i, a1, a2, prf_sg e1 e2]
    by_cases q : entG S c n < 0
    · simp only [q, true_or]
    · rw [(e (entG S c n) (by omega) (by omega)).1]
theorem ent_sg {S S' : Int → Int} {c : Int} (n : S 13 ≤ 12) (e1 : S' 1 = S 1) (e2 : S' 2 = S 2) (e13 : S' 13 = S 13) (e : ∀ i, 0 ≤ i → i < S 13 → S' (46 + 3 * i) = S (46 + 3 * i) ∧ S' (47 + 3 * i) = S (47 + 3 * i)) : ent S' c = ent S c := by
  unfold ent
  rw [e13]
  by_cases q : S 13 < 0
  · rw [show (S 13).toNat = 0 by omega]
    rfl
  · exact entG_sg e1 e2 _ (by omega) (fun k k0 k1 => e k k0 (by omega))
theorem hol_sg {S S' : Int → Int} {c : Int} (E : WfE S) (e : ∀ k, (0 ≤ k ∧ k < 4) ∨ k = 13 ∨ (46 ≤ k ∧ k < 82) → S' k = S k) : hol S' c = hol S c := by
  have n := E.1
  have eb := ent_b (c := c) E
  have x : ent S' c = ent S c := ent_sg n.2 (e 1 (by omega)) (e 2 (by omega)) (e 13 (by omega)) (fun i i0 i1 => ⟨e _ (by omega), e _ (by omega)⟩)
  unfold hol
  rw [x]
  by_cases q : ent S c < 0
  · rw [if_pos q, if_pos q]
  · rw [if_neg q, if_neg q, e _ (by omega)]
def WF : Type := Option ((Int → Int) → Int)
/-- the words of a letter at a place -/
def wrd (S : Int → Int) (p : Int) : Int → Int := fun i => if i = 0 then p else if i = 1 then S (26 + p) else if i = 2 then prf S (S (26 + p)) 1 else if i = 3 then S (26 + p) % S 1 else if i = 4 then hol S (S (26 + p)) else if i = 5 then (if hol S (S (26 + p)) < 0 then 0 else S (14 + hol S (S (26 + p)))) else if i = 6 then (if hol S (S (26 + p)) < 0 then 0 else S (82 + hol S (S (26 + p)))) else if i = 7 then (if ent S (S (26 + p)) < 0 then 0 else S (46 + 3 * ent S (S (26 + p)))) else if i = 8 then S 12 else if i = 9 then sm6 S 20 else S 10
def chF (W : (Int → Int) → Int) (S : Int → Int) : Nat → Int → Int → Int → Int
  | 0, _, b, _ => b
  | m + 1, p, b, x => if x < W (wrd S p) then chF W S m (p + 1) p (W (wrd S p)) else chF W S m (p + 1) b x
def cho (o : WF) (S : Int → Int) : Int := match o with
  | none => if 0 < S 12 then 0 else -1
  | some W => chF W S (S 12).toNat 0 (-1) 0
theorem chF_b {W : (Int → Int) → Int} {S : Int → Int} : ∀ (m : Nat) (p b x : Int), 0 ≤ p → -1 ≤ b → b < p → -1 ≤ chF W S m p b x ∧ chF W S m p b x < p + m ∧ (chF W S m p b x < 0 ∨ chF W S m p b x < p + m) := by
  intro m
  induction m with
  | zero =>
    intro p b x p0 b0 b1
    show -1 ≤ b ∧ b < p + ((0 : Nat) : Int) ∧ _
    exact ⟨b0, by omega, Or.inr (by show b < p + ((0 : Nat) : Int); omega)⟩
  | succ m ih =>
    intro p b x p0 b0 b1
    by_cases c : x < W (wrd S p)
    · have := ih (p + 1) p (W (wrd S p)) (by omega) (by omega) (by omega)
      rw [show chF W S (m + 1) p b x = chF W S m (p + 1) p (W (wrd S p)) from if_pos c]
      omega
    · have := ih (p + 1) b x (by omega) (by omega) (by omega)
      rw [show chF W S (m + 1) p b x = chF W S m (p + 1) b x from if_neg c]
      omega
theorem cho_b {o : WF} {S : Int → Int} (n : 0 ≤ S 12) : -1 ≤ cho o S ∧ (0 ≤ cho o S → cho o S < S 12) := by
  cases o with
  | none =>
    show -1 ≤ (if 0 < S 12 then (0 : Int) else -1) ∧ (0 ≤ (if 0 < S 12 then (0 : Int) else -1) → (if 0 < S 12 then (0 : Int) else -1) < S 12)
    split <;> omega
  | some W =>
    have := chF_b (W := W) (S := S) (S 12).toNat 0 (-1) 0 (by omega) (by omega) (by omega)
    show -1 ≤ chF W S (S 12).toNat 0 (-1) 0 ∧ (0 ≤ chF W S (S 12).toNat 0 (-1) 0 → chF W S (S 12).toNat 0 (-1) 0 < S 12)
    omega
/-- a letter leaves -/
def lvS (p : Int) (S : Int → Int) : Int → Int := fun k => if k = 12 then S 12 - 1 else if 26 + p ≤ k ∧ k < 25 + S 12 then S (k + 1) else S k
/-- a code is sorted -/
def soS (c : Int) (S : Int → Int) : Int → Int := if hol S c < 0 then ups S 11 (S 11 + 1) else if S (14 + hol S c) < S (82 + hol S c) then ups S (14 + hol S c) (S (14 + hol S c) + 1) else ups (tiS (hol S c) S) (14 + hol S c) 1
def soT (c : Int) (S : Int → Int) : Int := if hol S c < 0 then -1 else if S (14 + hol S c) < S (82 + hol S c) then -1 else hol S c
def paC (o : WF) (S : Int → Int) : Int := if cho o S < 0 then -1 else S (26 + cho o S)
def paX (o : WF) (S : Int → Int) : Int → Int := if cho o S < 0 then S else soS (S (26 + cho o S)) (lvS (cho o S) S)
def paS (o : WF) (S : Int → Int) : Int → Int := ups (paX o S) 10 (S 10 + 1)
def paT (o : WF) (S : Int → Int) : Int := if cho o S < 0 then -1 else soT (S (26 + cho o S)) (lvS (cho o S) S)
theorem lv_k {p : Int} {S : Int → Int} (p0 : 0 ≤ p) (n : S 12 ≤ 20) {k : Int} (z : k ≠ 12 ∧ (k < 26 ∨ 45 ≤ k)) : lvS p S k = S k := by
  unfold lvS
  rw [if_neg z.1, if_neg (by omega)]
theorem lvs_wf {B p : Int} {S : Int → Int} (H : Wf B S) (p0 : 0 ≤ p) (p1 : p < S 12) : Wf B (lvS p S) := by
  obtain ⟨F, E, ⟨W1, W2, W3⟩, t1, t2, t3⟩ := id H
  have k' : ∀ k, k ≠ 12 ∧ (k < 26 ∨ 45 ≤ k) → lvS p S k = S k := fun k z => lv_k p0 W1.2 z
  have e12 : lvS p S 12 = S 12 - 1 := by
    unfold lvS
    rw [if_pos rfl]
  refine H.st (fun k z => k' k (by omega)) (E.sg (fun k z => k' k (by omega))) ⟨by omega, fun i i0 i1 => ?_, fun i i0 i1 => ?_⟩ ?_ ?_ ?_ ?_
  · rw [k' 3 (by omega), k' (14 + i) (by omega), k' (20 + i) (by omega)]
    exact W2 i i0 i1
  · rw [e12] at i1
    rw [cod_sg (k' 0 (by omega)) (k' 1 (by omega)) (k' 2 (by omega))]
    unfold lvS
    rw [if_neg (by omega)]
    by_cases c : 26 + p ≤ 26 + i ∧ 26 + i < 25 + S 12
    · rw [if_pos c, show 26 + i + 1 = 26 + (i + 1) by omega]
      exact W3 (i + 1) (by omega) (by omega)
    · rw [if_neg c]
      exact W3 i i0 (by omega)
  · rw [k' 11 (by omega)]
    exact t1
  · rw [k' 11 (by omega), k' 10 (by omega)]
    exact t2
  · rw [k' 10 (by omega)]
    exact t3
  · intro z
    rcases F with q | q
    · omega
    · omega
theorem up_k {S : Int → Int} {i v k : Int} (z : k ≠ i) : ups S i v k = S k := if_neg z
/-- what a code sorted leaves as it was -/
theorem so_k {c : Int} {S : Int → Int} (E : WfE S) (s3 : S 3 ≤ 6) {k : Int} (z : k ≠ 11 ∧ (k < 14 ∨ 26 ≤ k)) : soS c S k = S k := by
  have hb := hol_b (c := c) E
  unfold soS
  by_cases q : hol S c < 0
  · rw [if_pos q, up_k (by omega)]
  rw [if_neg q]
  by_cases q2 : S (14 + hol S c) < S (82 + hol S c)
  · rw [if_pos q2, up_k (by omega)]
  rw [if_neg q2, up_k (by omega), ti_at, if_neg (by omega), if_neg (by omega)]
/-- sorting, and a turn on: B grows by one -/
theorem so_wf {B c : Int} {S : Int → Int} (H : Wf B S) (f1 : S 0 = 1) : Wf (B + 1) (ups (soS c S) 10 (S 10 + 1)) := by
  obtain ⟨F, E, ⟨W1, W2, W3⟩, t1, t2, t3⟩ := id H
  have fw := frw F f1
  have hb := hol_b (c := c) E
  have room : ∀ i, 0 ≤ i → i < 6 → 1 ≤ S (82 + i) ∧ S (82 + i) ≤ 20 := by
    rcases F with q | q
    · exact q.2.2.2.2.2.2.2
    · omega
  have k' : ∀ k, k ≠ 10 ∧ k ≠ 11 ∧ (k < 14 ∨ 26 ≤ k) → ups (soS c S) 10 (S 10 + 1) k = S k := fun k z => by
    rw [up_k z.1, so_k E (by omega) z.2]
  have e10 : ups (soS c S) 10 (S 10 + 1) 10 = S 10 + 1 := up_eq rfl
  have e11 : ups (soS c S) 10 (S 10 + 1) 11 = S 11 + (if hol S c < 0 then 1 else 0) := by
    rw [up_k (by decide)]
    unfold soS
    by_cases q : hol S c < 0
    · rw [if_pos q, if_pos q, up_eq rfl]
    rw [if_neg q, if_neg q]
    by_cases q2 : S (14 + hol S c) < S (82 + hol S c)
    · rw [if_pos q2, up_k (by omega), Int.add_zero]
    · rw [if_neg q2, up_k (by omega), ti_at, if_neg (by omega), if_neg (by omega), Int.add_zero]
  refine H.st (fun k z => k' k (by omega)) (E.sg (fun k z => k' k (by omega))) ⟨?_, fun i i0 i1 => ?_, fun i i0 i1 => ?_⟩ ?_ ?_ ?_ ?_
  · rw [k' 12 (by omega)]
    exact W1
  · have w := W2 i i0 i1
    have r := room i i0 i1
    rw [k' 3 (by omega), up_k (by omega), up_k (by omega)]
    unfold soS
    by_cases q : hol S c < 0
    · rw [if_pos q, up_k (by omega), up_k (by omega)]
      exact w
    rw [if_neg q]
    have hh := hb.2.2 (by omega)
    by_cases q2 : S (14 + hol S c) < S (82 + hol S c)
    · rw [if_pos q2, up_k (i := 14 + hol S c) (k := 20 + i) (by omega)]
      by_cases ci : i = hol S c
      · rw [up_eq (by omega)]
        rw [← ci] at q2 ⊢
        omega
      · rw [up_k (by omega)]
        exact w
    · rw [if_neg q2, up_k (i := 14 + hol S c) (k := 20 + i) (by omega), ti_at (k := 20 + i), if_neg (by omega)]
      by_cases ci : i = hol S c
      · rw [up_eq (by omega), if_pos (by omega)]
        rw [← ci]
        refine ⟨by omega, by omega, ?_, ?_, fun z => by omega⟩ <;> split <;> omega
      · rw [up_k (by omega), ti_at, if_neg (by omega), if_neg (by omega), if_neg (by omega)]
        exact w
  · rw [k' 12 (by omega)] at i1
    rw [cod_sg (k' 0 (by omega)) (k' 1 (by omega)) (k' 2 (by omega)), k' (26 + i) (by omega)]
    exact W3 i i0 i1
  · rw [e11]
    split <;> omega
  · rw [e11, e10]
    split <;> omega
  · rw [e10]
    omega
  · intro z
    omega
theorem fr12 {B : Int} {S : Int → Int} (H : Wf B S) (n : 0 < S 12) : S 0 = 1 := by
  have q := H.2.2.1.2.2 0 (by omega) n
  have cb := cod_b H.1
  exact cb.2.2.1 (by omega)
theorem pa_wf {B : Int} {o : WF} {S : Int → Int} (H : Wf B S) : Wf (B + 1) (paS o S) := by
  have n := H.2.2.1.1
  have cb := cho_b (o := o) (S := S) n.1
  unfold paS paX
  by_cases q : cho o S < 0
  · rw [if_pos q]
    obtain ⟨F, E, W, t1, t2, t3⟩ := id H
    have k' : ∀ k, k ≠ 10 → ups S 10 (S 10 + 1) k = S k := fun k z => up_k z
    refine H.st (fun k z => k' k (by omega)) (E.sg (fun k z => k' k (by omega))) (W.sg (fun k z => k' k (by omega))) ?_ ?_ ?_ ?_
    · rw [k' 11 (by omega)]
      exact t1
    · rw [k' 11 (by omega), up_eq rfl]
      omega
    · rw [up_eq rfl]
      omega
    · intro z
      rw [k' 12 (by omega), k' 13 (by omega)]
      rcases F with q | q
      · omega
      · omega
  · rw [if_neg q]
    have lw := lvs_wf H (p := cho o S) (by omega) (cb.2 (by omega))
    have k0 : lvS (cho o S) S 0 = S 0 := lv_k (by omega) n.2 (by omega)
    have k10 : lvS (cho o S) S 10 = S 10 := lv_k (by omega) n.2 (by omega)
    have r := so_wf (c := S (26 + cho o S)) lw (by rw [k0]; exact fr12 H (by omega))
    rw [k10] at r
    exact r
/-- what a turn leaves as it was -/
theorem pa_k {B : Int} {o : WF} {S : Int → Int} (H : Wf B S) {k : Int} (z : k < 10 ∨ k = 13 ∨ 45 ≤ k) : paS o S k = S k := by
  have n := H.2.2.1.1
  have cb := cho_b (o := o) (S := S) n.1
  have fb := H.1.b
  unfold paS paX
  rw [up_k (by omega)]
  by_cases q : cho o S < 0
  · rw [if_pos q]
  · rw [if_neg q]
    have lw := lvs_wf H (p := cho o S) (by omega) (cb.2 (by omega))
    have k3 : lvS (cho o S) S 3 = S 3 := lv_k (by omega) n.2 (by omega)
    rw [so_k lw.2.1 (by omega) (by omega), lv_k (by omega) n.2 (by omega)]
theorem pa_10 {o : WF} {S : Int → Int} : paS o S 10 = S 10 + 1 := up_eq rfl
theorem pa_12 {B : Int} {o : WF} {S : Int → Int} (H : Wf B S) : paS o S 12 = S 12 ∨ paS o S 12 = S 12 - 1 := by
  have n := H.2.2.1.1
  have cb := cho_b (o := o) (S := S) n.1
  have fb := H.1.b
  unfold paS paX
  rw [up_k (by omega)]
  by_cases q : cho o S < 0
  · rw [if_pos q]
    exact Or.inl rfl
  · rw [if_neg q]
    have lw := lvs_wf H (p := cho o S) (by omega) (cb.2 (by omega))
    have k3 : lvS (cho o S) S 3 = S 3 := lv_k (by omega) n.2 (by omega)
    rw [so_k lw.2.1 (by omega) (by omega)]
    unfold lvS
    rw [if_pos rfl]
    exact Or.inr rfl
/-- where none waits, only the turn goes on -/
theorem cho_0 {o : WF} {S : Int → Int} (n : S 12 = 0) : cho o S = -1 := by
  cases o with
  | none =>
    show (if 0 < S 12 then (0 : Int) else -1) = -1
    rw [if_neg (by omega)]
  | some W =>
    show chF W S (S 12).toNat 0 (-1) 0 = -1
    rw [n]
    rfl
theorem pa_0 {o : WF} {S : Int → Int} (n : S 12 = 0) : paS o S = ups S 10 (S 10 + 1) ∧ paT o S = -1 ∧ paC o S = -1 := by
  unfold paS paX paT paC
  rw [cho_0 n]
  exact ⟨rfl, rfl, rfl⟩
