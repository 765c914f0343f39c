/-! THE INVARIANT -/
def pw (b n : Int) : Int := b ^ n.toNat
def cod (S : Int → Int) : Int := if S 0 = 1 then pw (S 1) (S 2) else 0
/-- what lies where -/
def KK (h : MH) : Prop := 359 ≤ h.1.1 ∧ m_ok h = true ∧ ∀ p : Nat, p < 359 → h.2.1 (p : Int) = layL.getD p (0, 0)
/-- the row of what is said, as the text told it -/
def beg (S : Int → Int) : Int → Int := fun k => if k = 12 then S 5 else if k = 13 then S 4 else if 26 ≤ k ∧ k < 26 + S 5 then S (124 + (k - 26)) else if 46 ≤ k ∧ k < 46 + 3 * S 4 then S (88 + (k - 46)) else if 10 ≤ k ∧ k < 82 then 0 else S k
def ShR (h : MH) (p : Int) (S : Int → Int) : Prop := m_rd h p 0 = S 1 ∧ m_rd h p 1 = S 2 ∧ m_rd h p 2 = S 3 ∧ m_rd h p 3 = cod S ∧ (∀ i, 0 ≤ i → i < 5 → m_rd h (p + 1) i = if S 0 = 1 then pw (S 1) i else 0) ∧ (∀ i, 0 ≤ i → i < 6 → m_rd h (p + 2) i = S (82 + i))
def PlR (h : MH) (p : Int) (S : Int → Int) : Prop := m_rd h p 0 = S 13 ∧ ∀ e, 0 ≤ e → e < S 13 → m_rd h (p + 1) e = S (46 + 3 * e) ∧ m_rd h (p + 2) e = S (47 + 3 * e) ∧ m_rd h (p + 3) e = S (48 + 3 * e)
def WkR (h : MH) (w : Int) (S : Int → Int) : Prop := m_rd h w 6 = S 10 ∧ m_rd h w 5 = S 11 ∧ m_rd h w 1 = S 12 ∧ PlR h (w + 1) S ∧ (∀ i, 0 ≤ i → i < 6 → m_rd h (w + 6) i = S (14 + i)) ∧ (∀ i, 0 ≤ i → i < 6 → m_rd h (w + 7) i = S (20 + i)) ∧ (∀ i, 0 ≤ i → i < S 12 → m_rd h (w + 5) i = S (26 + i))
/-- what is said is as it should be; B: the greatest turn -/
def WfF (S : Int → Int) : Prop := (S 0 = 1 ∧ 2 ≤ S 1 ∧ S 1 ≤ 4 ∧ 1 ≤ S 2 ∧ S 2 ≤ 4 ∧ 1 ≤ S 3 ∧ S 3 ≤ 6 ∧ ∀ i, 0 ≤ i → i < 6 → 1 ≤ S (82 + i) ∧ S (82 + i) ≤ 20) ∨ (S 0 = 0 ∧ S 1 = 0 ∧ S 2 = 0 ∧ S 3 = 0 ∧ S 4 = 0 ∧ S 5 = 0 ∧ S 12 = 0 ∧ S 13 = 0)
def WfE (S : Int → Int) : Prop := (0 ≤ S 13 ∧ S 13 ≤ 12) ∧ (∀ e, 0 ≤ e → e < S 13 → 0 ≤ S (46 + 3 * e) ∧ S (46 + 3 * e) ≤ S 2 ∧ 0 ≤ S (47 + 3 * e) ∧ S (47 + 3 * e) < pw (S 1) (S (46 + 3 * e)) ∧ 0 ≤ S (48 + 3 * e) ∧ S (48 + 3 * e) < S 3) ∧ (∀ e e', 0 ≤ e → e < e' → e' < S 13 → S (46 + 3 * e) = S (46 + 3 * e') → S (47 + 3 * e) = S (47 + 3 * e') → False)
def WfW (S : Int → Int) : Prop := (0 ≤ S 12 ∧ S 12 ≤ 20) ∧ (∀ i, 0 ≤ i → i < 6 → 0 ≤ S (14 + i) ∧ S (14 + i) ≤ 20 ∧ 0 ≤ S (20 + i) ∧ S (20 + i) ≤ 999 ∧ (S 3 ≤ i → S (14 + i) = 0 ∧ S (20 + i) = 0)) ∧ (∀ i, 0 ≤ i → i < S 12 → 0 ≤ S (26 + i) ∧ S (26 + i) < cod S)
def Wf (B : Int) (S : Int → Int) : Prop := WfF S ∧ WfE S ∧ WfW S ∧ 0 ≤ S 11 ∧ S 11 ≤ S 10 ∧ S 10 ≤ B
def WfN (S : Int → Int) : Prop := 0 ≤ S 166 ∧ S 166 ≤ 10 ∧ ∀ i, 0 ≤ i → i < S 166 → 0 ≤ S (136 + 3 * i) ∧ S (136 + 3 * i) ≤ 60 ∧ 0 ≤ S (137 + 3 * i) ∧ S (137 + 3 * i) < S 3 ∧ 0 ≤ S (138 + 3 * i) ∧ S (138 + 3 * i) ≤ 20
/-- a desk of the class against a row of the reference -/
def DkR (h : MH) (D : Int) (S : Int → Int) (f x : Int) : Prop := ShR h (D + 1) S ∧ WkR h (D + 4) (beg S) ∧ WkR h (D + 12) S ∧ m_rd h D 3 = f ∧ m_rd h D 4 = x ∧ m_rd h D 5 = S 166 ∧ ∀ i, 0 ≤ i → i < S 166 → m_rd h (D + 20) i = S (136 + 3 * i) ∧ m_rd h (D + 21) i = S (137 + 3 * i) ∧ m_rd h (D + 22) i = S (138 + 3 * i)
def WfD (S : Int → Int) (f x n : Int) : Prop := Wf 999 S ∧ Wf 0 (beg S) ∧ WfN S ∧ -1 ≤ f ∧ f < n ∧ 0 ≤ x ∧ x ≤ 2147483647 ∧ S 4 ≤ 12 ∧ S 5 ≤ 12
/-- what was, for undo: cell k of the row is taken from w, where it is of the state -/
def mix (S : Int → Int) (w : Int → Int) (b : Int) : Int → Int := fun k => if 10 ≤ k ∧ k < 82 then w (b + (k - 10)) else S k
def TapeI (h : MH) : Prop := m_rd h 1 1 = m_rd h 334 1 ∧ 0 ≤ m_rd h 1 1 ∧ m_rd h 1 1 ≤ 400 ∧ ∀ i, 0 ≤ i → i < m_rd h 1 1 → 0 ≤ m_rd h 2 i ∧ m_rd h 2 i < 256 ∧ m_rd h 335 i = (m_rd h 2 i + 128) % 256 - 128
def DeskI (h : MH) : Prop := DkR h 20 (m_rd h 344) (m_rd h 334 21) (m_rd h 334 22) ∧ WfD (m_rd h 344) (m_rd h 334 21) (m_rd h 334 22) (m_rd h 334 2)
def ImgI (h : MH) : Prop := ∀ k, 0 ≤ k → k < 4 → m_rd h 44 k = m_rd h 358 k ∧ (m_rd h 358 k ≠ 0 → DkR h (45 + 23 * k) (fun i => m_rd h 355 (167 * k + i)) (m_rd h 356 k) (m_rd h 357 k) ∧ WfD (fun i => m_rd h 355 (167 * k + i)) (m_rd h 356 k) (m_rd h 357 k) (m_rd h 334 2))
def PastI (h : MH) : Prop := m_rd h 0 10 = m_rd h 334 25 ∧ 0 ≤ m_rd h 0 10 ∧ m_rd h 0 10 ≤ 20 ∧ 0 ≤ m_rd h 0 9 ∧ m_rd h 0 9 < 20 ∧ ∀ j, 0 ≤ j → j < m_rd h 0 10 → WkR h (138 + 8 * ((m_rd h 0 9 - 1 - j) % 20)) (mix (m_rd h 344) (m_rd h 345) (72 * (m_rd h 0 10 - 1 - j))) ∧ Wf 999 (mix (m_rd h 344) (m_rd h 345) (72 * (m_rd h 0 10 - 1 - j)))
/-! rules -/
/-- a step of the class as a sign of the reference -/
def enc (c : Int) : Int := if 0 ≤ c then 16 * c else if -11 ≤ c then 1 + 16 * (-1 - c) else if c = -20 then 2 else if c = -21 then 3 else if c = -22 then 4 else if c = -23 then 5 else if c = -24 then 14 else if c = -25 then 6 else if c = -26 then 7 else if c = -27 then 8 else if c = -28 then 9 else if c = -29 then 10 else if c = -30 then 12 else if c = -31 then 13 else 11
/-- kinds on the stack: false a number, true a truth -/
def tys (c : Int) (st : List Bool) : Option (List Bool) := if -11 ≤ c then some (false :: st) else match st with
  | [] => none
  | y :: r => if c = -32 then (if y then some (true :: r) else none) else match r with
    | [] => none
    | x :: q => if -24 ≤ c ∧ c ≤ -20 then (if x || y then none else some (false :: q)) else if -29 ≤ c ∧ c ≤ -25 then (if x || y then none else some (true :: q)) else if -31 ≤ c ∧ c ≤ -30 then (if x && y then some (true :: q) else none) else none
def tyr (g : Int → Int) : Nat → Int → List Bool → Option (List Bool)
  | 0, _, st => some st
  | n + 1, a, st => match tys (g a) st with
    | none => none
    | some st' => tyr g n (a + 1) st'
def npu (g : Int → Int) : Nat → Nat
  | 0 => 0
  | n + 1 => npu g n + (if -11 ≤ g (n : Int) then 1 else 0)
def fromR (h : MH) (r j : Int) : Int := if j = 0 then 0 else m_rd h (r + 4) (j - 1)
def RulI (h : MH) (k : Int) (r : Int) : Prop := (m_kd h r = 105 ∧ h.2.1 (r + 1) = (2, 60) ∧ m_kd h (r + 2) = 1 ∧ m_kd h (r + 3) = 1 ∧ m_kd h (r + 4) = 1) ∧ (0 ≤ m_ln h (r + 2) ∧ m_ln h (r + 2) ≤ 400) ∧ (m_ln h (r + 3) = m_rd h 339 k ∧ m_ln h (r + 4) = m_rd h 339 k ∧ 0 ≤ m_rd h 339 k ∧ m_rd h 339 k ≤ 12) ∧
  (∀ i, 0 ≤ i → i < m_ln h (r + 2) → m_rd h 336 (400 * k + i) = enc (m_rd h (r + 2) i) ∧ -32 ≤ m_rd h (r + 2) i ∧ m_rd h (r + 2) i ≤ 99999) ∧
  npu (m_rd h (r + 2)) (m_ln h (r + 2)).toNat ≤ 60 ∧
  ∀ j, 0 ≤ j → j < m_rd h 339 k → (0 ≤ fromR h r j ∧ fromR h r j ≤ m_rd h (r + 3) j ∧ m_rd h (r + 3) j ≤ m_rd h (r + 4) j ∧ m_rd h (r + 4) j ≤ m_ln h (r + 2)) ∧ m_rd h 338 (48 * k + 4 * j) = fromR h r j ∧ m_rd h 338 (48 * k + 4 * j + 1) = m_rd h (r + 3) j ∧
    tyr (m_rd h (r + 2)) (m_rd h (r + 3) j - fromR h r j).toNat (fromR h r j) [] = some [false] ∧
    ((m_rd h (r + 4) j = m_rd h (r + 3) j ∧ m_rd h 338 (48 * k + 4 * j + 2) = -1) ∨ (m_rd h (r + 3) j < m_rd h (r + 4) j ∧ m_rd h 338 (48 * k + 4 * j + 2) = m_rd h (r + 3) j ∧ m_rd h 338 (48 * k + 4 * j + 3) = m_rd h (r + 4) j ∧ tyr (m_rd h (r + 2)) (m_rd h (r + 4) j - m_rd h (r + 3) j).toNat (m_rd h (r + 3) j) [] = some [true]))
def RulesI (h : MH) : Prop := m_rd h 0 4 = m_rd h 334 2 ∧ 0 ≤ m_rd h 0 4 ∧ m_rd h 0 4 ≤ 6 ∧ (h.1.1 : Int) = 359 + 5 * m_rd h 0 4 ∧ (h.1.2.1 : Int) ≤ 16223 + 1000 * m_rd h 0 4 ∧ ∀ k, 0 ≤ k → k < m_rd h 0 4 → m_rd h 19 k = 359 + 5 * k ∧ RulI h k (359 + 5 * k)
def Inv (h : MH) : Prop := KK h ∧ TapeI h ∧ RulesI h ∧ DeskI h ∧ ImgI h ∧ PastI h
