/-! WHAT LIES WHERE: kinds and lengths of all cells, and where references lead (by program) -/
def layL : List (Int × Int) := [(111, 0), (109, 0), (1, 400), (103, 0), (108, 0), (1, 5), (1, 6), (110, 0), (104, 0), (1, 12), (1, 12), (1, 12), (1, 20), (1, 6), (1, 6), (106, 0), (1, 400), (1, 12), (1, 12), (5, 6), (102, 0), (108, 0), (1, 5), (1, 6), (110, 0), (104, 0), (1, 12), (1, 12), (1, 12), (1, 20), (1, 6), (1, 6), (110, 0), (104, 0), (1, 12), (1, 12), (1, 12), (1, 20), (1, 6), (1, 6), (1, 10), (1, 10), (1, 10), (6, 4), (4, 4), (102, 0), (108, 0), (1, 5), (1, 6), (110, 0), (104, 0), (1, 12), (1, 12), (1, 12), (1, 20), (1, 6), (1, 6), (110, 0), (104, 0), (1, 12), (1, 12), (1, 12), (1, 20), (1, 6), (1, 6), (1, 10), (1, 10), (1, 10), (102, 0), (108, 0), (1, 5), (1, 6), (110, 0), (104, 0), (1, 12), (1, 12), (1, 12), (1, 20), (1, 6), (1, 6), (110, 0), (104, 0), (1, 12), (1, 12), (1, 12), (1, 20), (1, 6), (1, 6), (1, 10), (1, 10), (1, 10), (102, 0), (108, 0), (1, 5), (1, 6), (110, 0), (104, 0), (1, 12), (1, 12), (1, 12), (1, 20), (1, 6), (1, 6), (110, 0), (104, 0), (1, 12), (1, 12), (1, 12), (1, 20), (1, 6), (1, 6), (1, 10), (1, 10), (1, 10), (102, 0), (108, 0), (1, 5), (1, 6), (110, 0), (104, 0), (1, 12), (1, 12), (1, 12), (1, 20), (1, 6), (1, 6), (110, 0), (104, 0), (1, 12), (1, 12), (1, 12), (1, 20), (1, 6), (1, 6), (1, 10), (1, 10), (1, 10), (7, 20), (110, 0), (104, 0), (1, 12), (1, 12), (1, 12), (1, 20), (1, 6), (1, 6), (110, 0), (104, 0), (1, 12), (1, 12), (1, 12), (1, 20), (1, 6), (1, 6), (110, 0), (104, 0), (1, 12), (1, 12), (1, 12), (1, 20), (1, 6), (1, 6), (110, 0), (104, 0), (1, 12), (1, 12), (1, 12), (1, 20), (1, 6), (1, 6), (110, 0), (104, 0), (1, 12), (1, 12), (1, 12), (1, 20), (1, 6), (1, 6), (110, 0), (104, 0), (1, 12), (1, 12), (1, 12), (1, 20), (1, 6), (1, 6), (110, 0), (104, 0), (1, 12), (1, 12), (1, 12), (1, 20), (1, 6), (1, 6), (110, 0), (104, 0), (1, 12), (1, 12), (1, 12), (1, 20), (1, 6), (1, 6), (110, 0), (104, 0), (1, 12), (1, 12), (1, 12), (1, 20), (1, 6), (1, 6), (110, 0), (104, 0), (1, 12), (1, 12), (1, 12), (1, 20), (1, 6), (1, 6), (110, 0), (104, 0), (1, 12), (1, 12), (1, 12), (1, 20), (1, 6), (1, 6), (110, 0), (104, 0), (1, 12), (1, 12), (1, 12), (1, 20), (1, 6), (1, 6), (110, 0), (104, 0), (1, 12), (1, 12), (1, 12), (1, 20), (1, 6), (1, 6), (110, 0), (104, 0), (1, 12), (1, 12), (1, 12), (1, 20), (1, 6), (1, 6), (110, 0), (104, 0), (1, 12), (1, 12), (1, 12), (1, 20), (1, 6), (1, 6), (110, 0), (104, 0), (1, 12), (1, 12), (1, 12), (1, 20), (1, 6), (1, 6), (110, 0), (104, 0), (1, 12), (1, 12), (1, 12), (1, 20), (1, 6), (1, 6), (110, 0), (104, 0), (1, 12), (1, 12), (1, 12), (1, 20), (1, 6), (1, 6), (110, 0), (104, 0), (1, 12), (1, 12), (1, 12), (1, 20), (1, 6), (1, 6), (110, 0), (104, 0), (1, 12), (1, 12), (1, 12), (1, 20), (1, 6), (1, 6), (101, 0), (108, 0), (1, 5), (1, 6), (104, 0), (1, 12), (1, 12), (1, 12), (1, 256), (1, 4), (1, 1792), (1, 7), (107, 0), (108, 0), (1, 5), (1, 6), (110, 0), (104, 0), (1, 12), (1, 12), (1, 12), (1, 20), (1, 6), (1, 6), (2, 11), (100, 0), (1, 20), (1, 6), (8, 7), (1, 6), (1, 6), (1, 6), (1, 6), (1, 6), (1, 6), (1, 6), (112, 0), (3, 400), (1, 2400), (1, 7), (1, 288), (1, 6), (1, 136), (1, 400), (2, 64), (2, 11), (1, 167), (1, 1440), (1, 4), (1, 256), (1, 1792), (1, 1792), (1, 72), (1, 5), (4, 7), (1, 42), (4, 256), (1, 668), (1, 4), (1, 4), (4, 4)]
def isrf (c k : Nat) : Bool := match c with
  | 0 => (match k with | 8 => true | 9 => true | 10 => true | 11 => true | _ => false)
  | 1 => (match k with | 2 => true | 3 => true | 4 => true | 5 => true | _ => false)
  | 2 => (match k with | 0 => true | 1 => true | 2 => true | 6 => true | 7 => true | 8 => true | _ => false)
  | 3 => (match k with | 0 => true | 1 => true | 2 => true | _ => false)
  | 4 => (match k with | 1 => true | 2 => true | 3 => true | _ => false)
  | 5 => (match k with | 0 => true | 1 => true | 2 => true | 3 => true | _ => false)
  | 6 => (match k with | 0 => true | 1 => true | 3 => true | 4 => true | _ => false)
  | 7 => (match k with | 0 => true | 1 => true | 3 => true | 4 => true | _ => false)
  | 8 => (match k with | 4 => true | 5 => true | _ => false)
  | 9 => (match k with | 0 => true | _ => false)
  | 10 => (match k with | 0 => true | 2 => true | 3 => true | 4 => true | _ => false)
  | 11 => (match k with | 0 => true | 1 => true | 2 => true | 3 => true | 5 => true | 6 => true | 7 => true | 8 => true | 11 => true | 12 => true | 13 => true | _ => false)
  | 12 => (match k with | 0 => true | 3 => true | 4 => true | 5 => true | 6 => true | 7 => true | 15 => true | 17 => true | 19 => true | 20 => true | 24 => true | 26 => true | 27 => true | 28 => true | 29 => true | 30 => true | 33 => true | 34 => true | 35 => true | 36 => true | 38 => true | 39 => true | 40 => true | 41 => true | _ => false)
  | _ => false
def loff (c k : Nat) : Int := match c with
  | 0 => (match k with | 8 => (-25) | 9 => (1) | 10 => (2) | 11 => (3) | _ => 0)
  | 1 => (match k with | 2 => (8) | 3 => (9) | 4 => (10) | 5 => (11) | _ => 0)
  | 2 => (match k with | 0 => (1) | 1 => (4) | 2 => (12) | 6 => (20) | 7 => (21) | 8 => (22) | _ => 0)
  | 3 => (match k with | 0 => (-2) | 1 => (1) | 2 => (4) | _ => 0)
  | 4 => (match k with | 1 => (1) | 2 => (2) | 3 => (3) | _ => 0)
  | 5 => (match k with | 0 => (2) | 1 => (3) | 2 => (4) | 3 => (1) | _ => 0)
  | 6 => (match k with | 0 => (-14) | 1 => (1) | 3 => (2) | 4 => (3) | _ => 0)
  | 7 => (match k with | 0 => (1) | 1 => (4) | 3 => (-12) | 4 => (12) | _ => 0)
  | 8 => (match k with | 4 => (1) | 5 => (2) | _ => 0)
  | 9 => (match k with | 0 => (1) | _ => 0)
  | 10 => (match k with | 0 => (1) | 2 => (5) | 3 => (6) | 4 => (7) | _ => 0)
  | 11 => (match k with | 0 => (1) | 1 => (3) | 2 => (15) | 3 => (19) | 5 => (20) | 6 => (43) | 7 => (44) | 8 => (137) | 11 => (298) | 12 => (310) | 13 => (323) | _ => 0)
  | 12 => (match k with | 0 => (1) | 3 => (2) | 4 => (3) | 5 => (4) | 6 => (5) | 7 => (6) | 15 => (7) | 17 => (8) | 19 => (9) | 20 => (10) | 24 => (11) | 26 => (12) | 27 => (13) | 28 => (14) | 29 => (15) | 30 => (16) | 33 => (17) | 34 => (18) | 35 => (19) | 36 => (20) | 38 => (21) | 39 => (22) | 40 => (23) | 41 => (24) | _ => 0)
  | _ => 0
def lkl (c k : Nat) : Int × Int := match c with
  | 0 => (match k with | 8 => (101, 0) | 9 => (1, 20) | 10 => (1, 6) | 11 => (8, 7) | _ => (0, 0))
  | 1 => (match k with | 2 => (1, 256) | 3 => (1, 4) | 4 => (1, 1792) | 5 => (1, 7) | _ => (0, 0))
  | 2 => (match k with | 0 => (108, 0) | 1 => (110, 0) | 2 => (110, 0) | 6 => (1, 10) | 7 => (1, 10) | 8 => (1, 10) | _ => (0, 0))
  | 3 => (match k with | 0 => (109, 0) | 1 => (108, 0) | 2 => (110, 0) | _ => (0, 0))
  | 4 => (match k with | 1 => (1, 12) | 2 => (1, 12) | 3 => (1, 12) | _ => (0, 0))
  | 5 => (match k with | 0 => (1, -1) | 1 => (1, -1) | 2 => (1, -1) | 3 => (2, 60) | _ => (0, 0))
  | 6 => (match k with | 0 => (109, 0) | 1 => (1, 400) | 3 => (1, 12) | 4 => (1, 12) | _ => (0, 0))
  | 7 => (match k with | 0 => (108, 0) | 1 => (110, 0) | 3 => (101, 0) | 4 => (2, 11) | _ => (0, 0))
  | 8 => (match k with | 4 => (1, 5) | 5 => (1, 6) | _ => (0, 0))
  | 9 => (match k with | 0 => (1, 400) | _ => (0, 0))
  | 10 => (match k with | 0 => (104, 0) | 2 => (1, 20) | 3 => (1, 6) | 4 => (1, 6) | _ => (0, 0))
  | 11 => (match k with | 0 => (109, 0) | 1 => (103, 0) | 2 => (106, 0) | 3 => (5, 6) | 5 => (102, 0) | 6 => (6, 4) | 7 => (4, 4) | 8 => (7, 20) | 11 => (101, 0) | 12 => (107, 0) | 13 => (100, 0) | _ => (0, 0))
  | 12 => (match k with | 0 => (3, 400) | 3 => (1, 2400) | 4 => (1, 7) | 5 => (1, 288) | 6 => (1, 6) | 7 => (1, 136) | 15 => (1, 400) | 17 => (2, 64) | 19 => (2, 11) | 20 => (1, 167) | 24 => (1, 1440) | 26 => (1, 4) | 27 => (1, 256) | 28 => (1, 1792) | 29 => (1, 1792) | 30 => (1, 72) | 33 => (1, 5) | 34 => (4, 7) | 35 => (1, 42) | 36 => (4, 256) | 38 => (1, 668) | 39 => (1, 4) | 40 => (1, 4) | 41 => (4, 4) | _ => (0, 0))
  | _ => (0, 0)
/-- an object of a class -/
def TO (h : MH) (a : Int) (c : Nat) : Prop := m_kd h a = 100 + (c : Int) ∧ 0 ≤ a ∧ a < (h.1.1 : Int)
/-- an array of a kind and a length -/
def TA (h : MH) (a k n : Int) : Prop := m_kd h a = k ∧ m_ln h a = n ∧ 0 ≤ a ∧ a < (h.1.1 : Int)
def LR (h : MH) : Prop := 359 ≤ h.1.1 ∧ (∀ p : Nat, p < 359 → h.2.1 (p : Int) = layL.getD p (0, 0)) ∧
  (∀ (c k : Nat) (a : Int), isrf c k = true → TO h a c → m_rd h a k = a + loff c k ∧ 0 ≤ a + loff c k ∧ a + loff c k < (h.1.1 : Int) ∧ m_kd h (a + loff c k) = (lkl c k).1 ∧ (0 ≤ (lkl c k).2 → m_ln h (a + loff c k) = (lkl c k).2)) ∧
  (∀ i : Int, 0 ≤ i → i < 4 → m_rd h 43 i = 45 + 23 * i) ∧ (∀ i : Int, 0 ≤ i → i < 20 → m_rd h 137 i = 138 + 8 * i) ∧ (∀ i : Int, 0 ≤ i → i < 7 → m_rd h 326 i = 327 + i)
/-- kinds are kept -/
def KD (h h' : MH) : Prop := h.1.1 ≤ h'.1.1 ∧ ∀ a : Int, 0 ≤ a → a < (h.1.1 : Int) → h'.2.1 a = h.2.1 a
theorem KD.rf {h : MH} : KD h h := ⟨Nat.le_refl _, fun _ _ _ => rfl⟩
theorem KD.tr {a b c : MH} (h1 : KD a b) (h2 : KD b c) : KD a c := ⟨Nat.le_trans h1.1 h2.1, fun x x0 x1 => by rw [h2.2 x x0 (by have := h1.1; omega), h1.2 x x0 x1]⟩
theorem KD.to {h h' : MH} {a : Int} {c : Nat} (hK : KD h h') (k : TO h a c) : TO h' a c := by
  obtain ⟨k1, k2, k3⟩ := k
  refine ⟨?_, k2, by have := hK.1; omega⟩
  unfold m_kd at *
  rw [hK.2 a k2 k3]
  exact k1
theorem KD.ta {h h' : MH} {a k n : Int} (hK : KD h h') (t : TA h a k n) : TA h' a k n := by
  obtain ⟨k1, k4, k2, k3⟩ := t
  refine ⟨?_, ?_, k2, by have := hK.1; omega⟩
  · unfold m_kd at *; rw [hK.2 a k2 k3]; exact k1
  · unfold m_ln at *; rw [hK.2 a k2 k3]; exact k4
theorem TO.gk {h : MH} {a : Int} {c : Nat} (k : TO h a c) : GK h a c := k.1
theorem TA.gi {h : MH} {a k n i : Int} (t : TA h a k n) (h0 : 0 ≤ i) (h1 : i < n) : GI h a k i := ⟨t.2.2.1, t.1, h0, by rw [t.2.1]; exact h1⟩
theorem TA.gb {h : MH} {a k n i : Int} (t : TA h a k n) (hk : k = 3 ∨ k = 4) (h0 : 0 ≤ i) (h1 : i < n) : GB h a i := ⟨by rw [t.1]; exact hk, h0, by rw [t.2.1]; exact h1⟩
theorem TA.gl {h : MH} {a k n : Int} (t : TA h a k n) (h0 : 1 ≤ k) (h1 : k ≤ 8) : GL h a := ⟨t.2.2.1, by rw [t.1]; exact h0, by rw [t.1]; exact h1⟩
theorem LR.lit {h : MH} (hL : LR h) (p : Nat) {e : Int × Int} (hp : p < 359) (he : layL.getD p (0, 0) = e) : h.2.1 (p : Int) = e := by
  rw [hL.2.1 p hp]
  exact he
theorem LR.o {h : MH} (hL : LR h) (p : Nat) (c : Nat) (hp : (decide (p < 359) && decide (layL.getD p (0, 0) = (100 + (c : Int), 0))) = true) : TO h (p : Int) c := by
  rw [Bool.and_eq_true, decide_eq_true_eq, decide_eq_true_eq] at hp
  have h1 := hL.lit p hp.1 hp.2
  exact ⟨by unfold m_kd; rw [h1], by omega, by have := hL.1; omega⟩
theorem LR.a {h : MH} (hL : LR h) (p : Nat) {k n : Int} (hp : (decide (p < 359) && decide (layL.getD p (0, 0) = (k, n))) = true) : TA h (p : Int) k n := by
  rw [Bool.and_eq_true, decide_eq_true_eq, decide_eq_true_eq] at hp
  have h1 := hL.lit p hp.1 hp.2
  exact ⟨by unfold m_kd; rw [h1], by unfold m_ln; rw [h1], by omega, by have := hL.1; omega⟩
/-- a reference of an object: an object -/
theorem LR.fo {h : MH} (hL : LR h) {a v : Int} {c : Nat} (k c2 : Nat) (t : TO h a c) (hf : isrf c k = true) (hv : a + loff c k = v) (hk : (lkl c k).1 = 100 + (c2 : Int)) : m_rd h a k = v ∧ TO h v c2 := by
  obtain ⟨e1, e2, e3, e4, -⟩ := hL.2.2.1 c k a hf t
  subst hv
  exact ⟨e1, by rw [e4, hk], e2, e3⟩
/-- a reference of an object: an array -/
theorem LR.fa {h : MH} (hL : LR h) {a v : Int} {c : Nat} (k : Nat) (n1 n2 : Int) (t : TO h a c) (hf : isrf c k = true) (hv : a + loff c k = v) (hk : lkl c k = (n1, n2)) (hn : 0 ≤ n2) : m_rd h a k = v ∧ TA h v n1 n2 := by
  obtain ⟨e1, e2, e3, e4, e5⟩ := hL.2.2.1 c k a hf t
  subst hv
  rw [hk] at e4 e5
  exact ⟨e1, e4, e5 hn, e2, e3⟩
/-- a reference of an object: an array of any length -/
theorem LR.fd {h : MH} (hL : LR h) {a v : Int} {c : Nat} (k : Nat) (n1 n2 : Int) (t : TO h a c) (hf : isrf c k = true) (hv : a + loff c k = v) (hk : lkl c k = (n1, n2)) : m_rd h a k = v ∧ TA h v n1 (m_ln h v) := by
  obtain ⟨e1, e2, e3, e4, e5⟩ := hL.2.2.1 c k a hf t
  subst hv
  rw [hk] at e4
  exact ⟨e1, e4, rfl, e2, e3⟩
theorem KD.wr {h : MH} {a i v : Int} : KD h (m_wr h a i v) := ⟨Nat.le_refl _, fun _ _ _ => rfl⟩
theorem KD.cpy {h : MH} {a i b j n : Int} : KD h (m_cpy h a i b j n) := ⟨Nat.le_refl _, fun _ _ _ => rfl⟩
theorem m_rd_wr {h : MH} {a i v b j : Int} : m_rd (m_wr h a i v) b j = if b = a ∧ j = i then v else m_rd h b j := rfl
theorem m_rd_cpy {h : MH} {a i b j n c k : Int} : m_rd (m_cpy h a i b j n) c k = if c = b ∧ j ≤ k ∧ k < j + n then m_rd h a (i + (k - j)) else m_rd h c k := rfl
theorem LR.same {h h' : MH} (hL : LR h) (h1 : h'.1 = h.1) (h2 : h'.2.1 = h.2.1) (h3 : ∀ (c k : Nat) (a : Int), isrf c k = true → TO h a c → m_rd h' a k = m_rd h a k) (h4 : ∀ p j : Int, p = 43 ∨ p = 137 ∨ p = 326 → m_rd h' p j = m_rd h p j) : LR h' := by
  obtain ⟨l1, l2, l3, l4, l5, l6⟩ := hL
  have hT : ∀ a c, TO h' a c → TO h a c := fun a c t => by
    unfold TO m_kd at *
    rw [h1, h2] at t
    exact t
  refine ⟨by rw [h1]; exact l1, fun p hp => by rw [h2]; exact l2 p hp, fun c k a hf t => ?_, fun i i0 i1 => by rw [h4 43 i (Or.inl rfl)]; exact l4 i i0 i1, fun i i0 i1 => by rw [h4 137 i (Or.inr (Or.inl rfl))]; exact l5 i i0 i1, fun i i0 i1 => by rw [h4 326 i (Or.inr (Or.inr rfl))]; exact l6 i i0 i1⟩
  have := l3 c k a hf (hT a c t)
  unfold m_kd m_ln at *
  rw [h1, h2, h3 c k a hf (hT a c t)]
  exact this
theorem LR.k3 {h : MH} (hL : LR h) : m_kd h 43 = 6 ∧ m_kd h 137 = 7 ∧ m_kd h 326 = 8 := by
  have a1 := hL.a 43 (k := 6) (n := 4) (by decide +kernel)
  have a2 := hL.a 137 (k := 7) (n := 20) (by decide +kernel)
  have a3 := hL.a 326 (k := 8) (n := 7) (by decide +kernel)
  exact ⟨a1.1, a2.1, a3.1⟩
/-- writing into an array of numbers, or into rules -/
theorem LR.wa {h : MH} {a i v : Int} (hL : LR h) (hk : m_kd h a ≤ 5) : LR (m_wr h a i v) := by
  obtain ⟨q1, q2, q3⟩ := hL.k3
  refine hL.same rfl rfl (fun c k b hf t => ?_) (fun p j hp => ?_)
  · rw [m_rd_wr, if_neg]
    rintro ⟨rfl, -⟩
    have := t.1
    omega
  · rw [m_rd_wr, if_neg]
    rintro ⟨rfl, -⟩
    rcases hp with rfl | rfl | rfl <;> omega
/-- writing a number into a field -/
theorem LR.wf {h : MH} {a v : Int} {c k : Nat} (hL : LR h) (t : TO h a c) (hf : isrf c k = false) : LR (m_wr h a k v) := by
  obtain ⟨q1, q2, q3⟩ := hL.k3
  have ht := t.1
  refine hL.same rfl rfl (fun c2 k2 b hf2 t2 => ?_) (fun p j hp => ?_)
  · rw [m_rd_wr, if_neg]
    rintro ⟨rfl, e⟩
    have := t2.1
    have e1 : c2 = c := by omega
    have e2 : k2 = k := by omega
    subst e1
    subst e2
    rw [hf] at hf2
    cases hf2
  · rw [m_rd_wr, if_neg]
    rintro ⟨rfl, -⟩
    rcases hp with rfl | rfl | rfl <;> omega
theorem LR.wc {h : MH} {a i b j n : Int} (hL : LR h) (hk : m_kd h b ≤ 5) : LR (m_cpy h a i b j n) := by
  obtain ⟨q1, q2, q3⟩ := hL.k3
  refine hL.same rfl rfl (fun c k b2 hf t => ?_) (fun p j2 hp => ?_)
  · rw [m_rd_cpy, if_neg]
    rintro ⟨rfl, -⟩
    have := t.1
    omega
  · rw [m_rd_cpy, if_neg]
    rintro ⟨rfl, -⟩
    rcases hp with rfl | rfl | rfl <;> omega
/-- it is so at first -/
def lr_b : Bool := (List.range 359).all (fun p => decide (hB1.2.1 (p : Int) = layL.getD p (0, 0))) &&
  ((List.range 359).all (fun p => (List.range 13).all (fun c => if (layL.getD p (0, 0)).1 = 100 + (c : Int) then (List.range 42).all (fun k => !(isrf c k) || (decide (hB1.2.2 (p : Int) (k : Int) = (p : Int) + loff c k) && (decide (0 ≤ (p : Int) + loff c k) && (decide ((p : Int) + loff c k < 359) && (decide ((layL.getD ((p : Int) + loff c k).toNat (0, 0)).1 = (lkl c k).1) && (decide ((lkl c k).2 < 0) || decide ((layL.getD ((p : Int) + loff c k).toNat (0, 0)).2 = (lkl c k).2))))))) else true)) &&
  ((List.range 4).all (fun i => decide (hB1.2.2 43 (i : Int) = 45 + 23 * (i : Int))) && ((List.range 20).all (fun i => decide (hB1.2.2 137 (i : Int) = 138 + 8 * (i : Int))) && (List.range 7).all (fun i => decide (hB1.2.2 326 (i : Int) = 327 + (i : Int))))))
theorem lr_b_ok : lr_b = true := by decide +kernel
theorem isrf_b {c k : Nat} (h : isrf c k = true) : c < 13 ∧ k < 42 := by
  unfold isrf at h
  split at h
  all_goals first | (split at h <;> first | (cases h; done) | exact ⟨by decide, by decide⟩) | cases h
theorem LR_0 : LR hB1 := by
  have hb := lr_b_ok
  unfold lr_b at hb
  simp only [Bool.and_eq_true, List.all_eq_true, List.mem_range, decide_eq_true_eq] at hb
  obtain ⟨b1, b2, b3, b4, b5⟩ := hb
  have hc := hB1_c.1
  refine ⟨by rw [hc]; exact Nat.le_refl _, fun p hp => b1 p hp, fun c k a hf t => ?_, fun i i0 i1 => ?_, fun i i0 i1 => ?_, fun i i0 i1 => ?_⟩
  · obtain ⟨t1, t2, t3⟩ := t
    rw [hc] at t3
    obtain ⟨p, rfl⟩ := Int.eq_ofNat_of_zero_le t2
    have hp : p < 359 := by omega
    obtain ⟨c1, c2⟩ := isrf_b hf
    have hkd : (layL.getD p (0, 0)).1 = 100 + (c : Int) := by
      rw [← b1 p hp]
      exact t1
    have h9 := b2 p hp c c1
    rw [if_pos hkd] at h9
    simp only [List.all_eq_true, List.mem_range, Bool.or_eq_true, Bool.not_eq_true', Bool.and_eq_true, decide_eq_true_eq] at h9
    rcases h9 k c2 with z | ⟨z1, z2, z3, z4, z5⟩
    · rw [hf] at z; cases z
    · obtain ⟨qn, hqn⟩ := Int.eq_ofNat_of_zero_le z2
      have hq : qn < 359 := by omega
      refine ⟨z1, z2, by rw [hc]; exact z3, ?_, fun hn => ?_⟩
      · unfold m_kd
        rw [hqn, b1 qn hq]
        rw [hqn] at z4
        exact z4
      · unfold m_ln
        rw [hqn, b1 qn hq]
        rw [hqn] at z5
        rcases z5 with z5 | z5
        · omega
        · exact z5
  · obtain ⟨n, rfl⟩ := Int.eq_ofNat_of_zero_le i0
    exact b3 n (by omega)
  · obtain ⟨n, rfl⟩ := Int.eq_ofNat_of_zero_le i0
    exact b4 n (by omega)
  · obtain ⟨n, rfl⟩ := Int.eq_ofNat_of_zero_le i0
    exact b5 n (by omega)
