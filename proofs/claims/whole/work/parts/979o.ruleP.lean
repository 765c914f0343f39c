/-! RULE read: the pure reader. A state: place, how many steps, parts, steps -/
abbrev RST : Type := Int × Int × Int × (Int → Int)
abbrev RAN : Type := Int ⊕ RST
def rb (r : RAN) (k : RST → RAN) : RAN := match r with
  | .inl f => .inl f
  | .inr x => k x
def pu (c : Int) (x : RST) : RST := (x.1, x.2.1 + 1, x.2.2.1, ups x.2.2.2 x.2.1 c)
def mvp (p : Int) (x : RST) : RST := (p, x.2)
def cnp (a : Int) (x : RST) (k : RST → RAN) : RAN := if x.2.2.1 = 60 then .inl (1 + 8 * a + 3) else k (x.1, x.2.1, x.2.2.1 + 1, x.2.2.2)
def txt (v : Int) : Int := if v = 0 then -15 else if v = 1 then -16 else if v = 2 then -17 else if v = 3 then -18 else if v = 4 then -19 else if v = 5 then -20 else if v = 6 then -11 else if v = 7 then -21 else if v = 8 then -22 else if v = 9 then -23 else -24
def jo (b : Int) : Int := if b = 37 then -24 else if b = 42 then -22 else if b = 43 then -20 else if b = 45 then -21 else if b = 47 then -23 else -99
section
variable (B : Int → Int) (n : Int)
noncomputable def fwd (q : Int) : Nat → Int → Int
  | 0, _ => -1
  | m + 1, v => if dec (wdp B n q (txt v)) = true then v else fwd q m (v + 1)
noncomputable def wov (q : Int) : Int := fwd B n q 11 0
noncomputable def val (x : RST) : RAN := if isD (bya B n (sk B n x.1)) = true then (if dec (nok B n 0 99999 x.1) = true then cnp (sk B n x.1) (mvp (npo B n x.1) x) (fun y => .inr (pu (nvl B n x.1) y)) else .inl (nfl B n x.1)) else if wov B n (sk B n x.1) < 0 then .inl (1 + 8 * sk B n x.1 + 0) else cnp (sk B n x.1) (mvp (sk B n x.1 + t_len (txt (wov B n (sk B n x.1)))) x) (fun y => .inr (pu (-1 - wov B n (sk B n x.1)) y))
def isJ2 (c : Int) : Bool := decide (c = -22 ∨ c = -23 ∨ c = -24)
def isJ1 (c : Int) : Bool := decide (c = -20 ∨ c = -21)
noncomputable def telp : Nat → RST → RAN
  | 0, _ => .inl 1
  | m + 1, x => if isJ2 (jo (bya B n (sk B n x.1))) = true then rb (val B n (mvp (sk B n x.1 + 1) x)) (fun y => telp m (pu (jo (bya B n (sk B n x.1))) y)) else .inr (mvp (sk B n x.1) x)
noncomputable def trm (x : RST) : RAN := rb (val B n x) (telp B n 401)
noncomputable def sulp : Nat → RST → RAN
  | 0, _ => .inl 1
  | m + 1, x => if isJ1 (jo (bya B n (sk B n x.1))) = true then rb (trm B n (mvp (sk B n x.1 + 1) x)) (fun y => sulp m (pu (jo (bya B n (sk B n x.1))) y)) else .inr (mvp (sk B n x.1) x)
noncomputable def smm (x : RST) : RAN := rb (trm B n x) (sulp B n 401)
/-- the comparison: its sign and how long it is -/
def cmc (q : Int) : Int := if bya B n q = 61 then -27 else if bya B n (q + 1) = 61 then (if bya B n q = 60 then -26 else -28) else (if bya B n q = 60 then -25 else -29)
def cml (q : Int) : Int := if bya B n q = 61 then 1 else if bya B n (q + 1) = 61 then 2 else 1
def iscm (q : Int) : Bool := decide (bya B n q = 60 ∨ bya B n q = 61 ∨ bya B n q = 62)
noncomputable def cmp (x : RST) : RAN := rb (smm B n x) (fun y => if iscm B n (sk B n y.1) = true then cnp (sk B n y.1) (mvp (sk B n y.1 + cml B n (sk B n y.1)) y) (fun z => rb (smm B n z) (fun u => .inr (pu (cmc B n (sk B n y.1)) u))) else .inl (1 + 8 * sk B n y.1 + 0))
noncomputable def opn (o : Bool) (x : RST) : RST := if o = true then pu (-31) x else x
noncomputable def tlo (F : RST → RAN) : Nat → Bool → RST → RAN
  | 0, _, _ => .inl 1
  | m + 1, o, x => if dec (wdp B n (sk B n x.1) (-27)) = true then rb (F (mvp (sk B n x.1 + 3) x)) (fun y => tlo F m o (pu (-30) y)) else if dec (wdp B n (sk B n x.1) (-28)) = true then rb (F (opn o (mvp (sk B n x.1 + 2) x))) (fun y => tlo F m true y) else .inr (opn o (mvp (sk B n x.1) x))
noncomputable def fac : Nat → RST → RAN
  | 0, x => if dec (wdp B n (sk B n x.1) (-26)) = true then .inl (1 + 8 * sk B n x.1 + 2) else if bya B n (sk B n x.1) = 91 then .inl (1 + 8 * sk B n x.1 + 2) else cmp B n (mvp (sk B n x.1) x)
  | k + 1, x => if dec (wdp B n (sk B n x.1) (-26)) = true then rb (fac k (mvp (sk B n x.1 + 3) x)) (fun y => .inr (pu (-32) y)) else if bya B n (sk B n x.1) = 91 then rb (fac k (mvp (sk B n x.1 + 1) x)) (fun y => rb (tlo B n (fac k) 401 false y) (fun z => if bya B n (sk B n z.1) = 93 then .inr (mvp (sk B n z.1 + 1) z) else .inl (1 + 8 * sk B n z.1 + 0))) else cmp B n (mvp (sk B n x.1) x)
end
/-! what a piece of reading leaves -/
theorem tyr_cg {g g' : Int → Int} : ∀ (m : Nat) (a : Int) (st : List Bool), (∀ i, a ≤ i → i < a + m → g' i = g i) → tyr g' m a st = tyr g m a st := by
  intro m
  induction m with
  | zero => intro a st _; rfl
  | succ m ih =>
    intro a st h
    unfold tyr
    rw [h a (by omega) (by omega)]
    cases tys (g a) st with
    | none => rfl
    | some st' => exact ih (a + 1) st' (fun i i0 i1 => h i (by omega) (by omega))
theorem tyr_add {g : Int → Int} : ∀ (m k : Nat) (a : Int) (st : List Bool), tyr g (m + k) a st = (tyr g m a st).bind (tyr g k (a + m)) := by
  intro m
  induction m with
  | zero =>
    intro k a st
    rw [Nat.zero_add]
    show tyr g k a st = tyr g k (a + 0) st
    rw [Int.add_zero]
  | succ m ih =>
    intro k a st
    rw [show m + 1 + k = (m + k) + 1 by omega]
    unfold tyr
    cases tys (g a) st with
    | none => rfl
    | some st' =>
      show tyr g (m + k) (a + 1) st' = _
      rw [ih k (a + 1) st', show a + 1 + (m : Int) = a + ((m + 1 : Nat) : Int) by omega]
theorem npu_cg {g g' : Int → Int} : ∀ (m : Nat), (∀ i : Int, 0 ≤ i → i < m → g' i = g i) → npu g' m = npu g m := by
  intro m
  induction m with
  | zero => intro _; rfl
  | succ m ih =>
    intro h
    unfold npu
    rw [ih (fun i i0 i1 => h i i0 (by omega)), h m (by omega) (by omega)]
theorem npu_1 {g : Int → Int} {m : Nat} : npu g (m + 1) = npu g m + (if -11 ≤ g (m : Int) then 1 else 0) := rfl
def QQ (n : Int) (F : List Bool → Option (List Bool)) (x y : RST) : Prop := (x.1 ≤ y.1 ∧ y.1 ≤ n ∧ 0 ≤ x.2.1 ∧ x.2.1 ≤ y.2.1 ∧ x.2.2.1 ≤ y.2.2.1 ∧ y.2.2.1 ≤ 60) ∧ (∀ i, i < x.2.1 → y.2.2.2 i = x.2.2.2 i) ∧ (∀ st, tyr y.2.2.2 (y.2.1 - x.2.1).toNat x.2.1 st = F st) ∧ (∀ i, x.2.1 ≤ i → i < y.2.1 → -32 ≤ y.2.2.2 i ∧ y.2.2.2 i ≤ 99999) ∧ (npu y.2.2.2 y.2.1.toNat : Int) - npu x.2.2.2 x.2.1.toNat ≤ y.2.2.1 - x.2.2.1
theorem QQ.tr {n : Int} {F G H : List Bool → Option (List Bool)} {x y z : RST} (a : QQ n F x y) (b : QQ n G y z) (e : ∀ st, (F st).bind G = H st) : QQ n H x z := by
  obtain ⟨a1, a2, a3, a4, a5⟩ := a
  obtain ⟨b1, b2, b3, b4, b5⟩ := b
  refine ⟨by omega, fun i i0 => by rw [b2 i (by omega), a2 i i0], fun st => ?_, fun i i0 i1 => ?_, by omega⟩
  · rw [show (z.2.1 - x.2.1).toNat = (y.2.1 - x.2.1).toNat + (z.2.1 - y.2.1).toNat by omega, tyr_add, tyr_cg (g := y.2.2.2) (g' := z.2.2.2) (y.2.1 - x.2.1).toNat x.2.1 st (fun i i0 i1 => b2 i (by omega)), a3 st, ← e st, show x.2.1 + ((y.2.1 - x.2.1).toNat : Int) = y.2.1 by omega]
    cases F st with
    | none => rfl
    | some st' => exact b3 st'
  · by_cases c : i < y.2.1
    · rw [b2 i c]
      exact a4 i i0 c
    · exact b4 i (by omega) i1
theorem QQ.mv {n p : Int} {x : RST} (h : x.1 ≤ p ∧ p ≤ n ∧ 0 ≤ x.2.1 ∧ x.2.2.1 ≤ 60) : QQ n some x (mvp p x) := by
  refine ⟨⟨h.1, h.2.1, h.2.2.1, Int.le_refl _, Int.le_refl _, h.2.2.2⟩, fun _ _ => rfl, fun st => ?_, fun i i0 i1 => ?_, ?_⟩
  · show tyr x.2.2.2 (x.2.1 - x.2.1).toNat x.2.1 st = some st
    rw [show (x.2.1 - x.2.1).toNat = 0 by omega]
    rfl
  · have : i < x.2.1 := i1
    omega
  · show (npu x.2.2.2 x.2.1.toNat : Int) - npu x.2.2.2 x.2.1.toNat ≤ x.2.2.1 - x.2.2.1
    omega
/-- a step that is a sign -/
theorem QQ.sn {n c : Int} {x : RST} (h : x.1 ≤ n ∧ 0 ≤ x.2.1 ∧ x.2.2.1 ≤ 60) (c0 : -32 ≤ c) (c1 : c < -11) : QQ n (tys c) x (pu c x) := by
  have e : ups x.2.2.2 x.2.1 c x.2.1 = c := up_eq rfl
  have k : ∀ i, i ≠ x.2.1 → ups x.2.2.2 x.2.1 c i = x.2.2.2 i := fun i z => up_k z
  refine ⟨⟨Int.le_refl _, h.1, h.2.1, by show x.2.1 ≤ x.2.1 + 1; omega, Int.le_refl _, h.2.2⟩, fun i i0 => k i (by omega), fun st => ?_, fun i i0 i1 => ?_, ?_⟩
  · show tyr (ups x.2.2.2 x.2.1 c) (x.2.1 + 1 - x.2.1).toNat x.2.1 st = tys c st
    rw [show (x.2.1 + 1 - x.2.1).toNat = 1 by omega]
    unfold tyr
    rw [e]
    cases tys c st with
    | none => rfl
    | some st' => rfl
  · have i2 : i = x.2.1 := by
      have : i < x.2.1 + 1 := i1
      omega
    show -32 ≤ ups x.2.2.2 x.2.1 c i ∧ ups x.2.2.2 x.2.1 c i ≤ 99999
    rw [i2, e]
    omega
  · show (npu (ups x.2.2.2 x.2.1 c) (x.2.1 + 1).toNat : Int) - npu x.2.2.2 x.2.1.toNat ≤ x.2.2.1 - x.2.2.1
    rw [show (x.2.1 + 1).toNat = x.2.1.toNat + 1 by omega, npu_1, npu_cg (g := x.2.2.2) x.2.1.toNat (fun i i0 i1 => k i (by omega)), show ((x.2.1.toNat : Nat) : Int) = x.2.1 by omega, e, if_neg (by omega)]
    omega
/-- a value, its part counted -/
theorem QQ.pv {n c p : Int} {x : RST} (h : x.1 ≤ p ∧ p ≤ n ∧ 0 ≤ x.2.1 ∧ x.2.2.1 ≤ 59) (c0 : -11 ≤ c) (c1 : c ≤ 99999) : QQ n (fun st => some (false :: st)) x (pu c (p, x.2.1, x.2.2.1 + 1, x.2.2.2)) := by
  have e : ups x.2.2.2 x.2.1 c x.2.1 = c := up_eq rfl
  have k : ∀ i, i ≠ x.2.1 → ups x.2.2.2 x.2.1 c i = x.2.2.2 i := fun i z => up_k z
  refine ⟨⟨h.1, h.2.1, h.2.2.1, by show x.2.1 ≤ x.2.1 + 1; omega, by show x.2.2.1 ≤ x.2.2.1 + 1; omega, by show x.2.2.1 + 1 ≤ 60; omega⟩, fun i i0 => k i (by omega), fun st => ?_, fun i i0 i1 => ?_, ?_⟩
  · show tyr (ups x.2.2.2 x.2.1 c) (x.2.1 + 1 - x.2.1).toNat x.2.1 st = some (false :: st)
    rw [show (x.2.1 + 1 - x.2.1).toNat = 1 by omega]
    unfold tyr tys
    rw [e, if_pos c0]
    rfl
  · have i2 : i = x.2.1 := by
      have : i < x.2.1 + 1 := i1
      omega
    show -32 ≤ ups x.2.2.2 x.2.1 c i ∧ ups x.2.2.2 x.2.1 c i ≤ 99999
    rw [i2, e]
    omega
  · show (npu (ups x.2.2.2 x.2.1 c) (x.2.1 + 1).toNat : Int) - npu x.2.2.2 x.2.1.toNat ≤ x.2.2.1 + 1 - x.2.2.1
    rw [show (x.2.1 + 1).toNat = x.2.1.toNat + 1 by omega, npu_1, npu_cg (g := x.2.2.2) x.2.1.toNat (fun i i0 i1 => k i (by omega)), show ((x.2.1.toNat : Nat) : Int) = x.2.1 by omega, e, if_pos c0]
    omega
