/-! A RULE IS MADE: five cells -/
theorem al_kd2 {h : MH} {k n : Int} {ns : Nat} {g : Int → Int} {a : Int} : m_kd (m_al h k n ns g) a = if a = (h.1.1 : Int) then k else m_kd h a := by
  unfold m_kd m_al
  dsimp only
  split <;> rfl
theorem al_ln2 {h : MH} {k n : Int} {ns : Nat} {g : Int → Int} {a : Int} : m_ln (m_al h k n ns g) a = if a = (h.1.1 : Int) then n else m_ln h a := by
  unfold m_ln m_al
  dsimp only
  split <;> rfl
theorem al_rd2 {h : MH} {k n : Int} {ns : Nat} {g : Int → Int} {a j : Int} : m_rd (m_al h k n ns g) a j = if a = (h.1.1 : Int) then g j else m_rd h a j := rfl
/-- a heap, told by its numbers, kinds, lengths and contents -/
def Hd (y : MH) (c s : Nat) (t : Bool) (K N : Int → Int) (M : Int → Int → Int) : Prop := y.1.1 = c ∧ y.1.2.1 = s ∧ y.1.2.2 = t ∧ (∀ a, m_kd y a = K a) ∧ (∀ a, m_ln y a = N a) ∧ ∀ a j, m_rd y a j = M a j
theorem Hd.al {y : MH} {c s : Nat} {t : Bool} {K N : Int → Int} {M : Int → Int → Int} (d : Hd y c s t K N M) {k n : Int} {ns : Nat} {g : Int → Int} : Hd (m_al y k n ns g) (c + 1) (s + ns) t (fun a => if a = (c : Int) then k else K a) (fun a => if a = (c : Int) then n else N a) (fun a j => if a = (c : Int) then g j else M a j) := by
  obtain ⟨d1, d2, d3, d4, d5, d6⟩ := d
  refine ⟨by show y.1.1 + 1 = c + 1; rw [d1], by show y.1.2.1 + ns = s + ns; rw [d2], d3, fun a => ?_, fun a => ?_, fun a j => ?_⟩
  · rw [al_kd2, d1, d4]
  · rw [al_ln2, d1, d5]
  · rw [al_rd2, d1, d6]
theorem Hd.wr {y : MH} {c s : Nat} {t : Bool} {K N : Int → Int} {M : Int → Int → Int} (d : Hd y c s t K N M) {b i v : Int} : Hd (m_wr y b i v) c s t K N (fun a j => if a = b ∧ j = i then v else M a j) := by
  obtain ⟨d1, d2, d3, d4, d5, d6⟩ := d
  exact ⟨d1, d2, d3, d4, d5, fun a j => by rw [m_rd_wr, d6]⟩
theorem Hd.cpy {y : MH} {c s : Nat} {t : Bool} {K N : Int → Int} {M : Int → Int → Int} (d : Hd y c s t K N M) {p i b j0 n : Int} : Hd (m_cpy y p i b j0 n) c s t K N (fun a k => if a = b ∧ j0 ≤ k ∧ k < j0 + n then M p (i + (k - j0)) else M a k) := by
  obtain ⟨d1, d2, d3, d4, d5, d6⟩ := d
  exact ⟨d1, d2, d3, d4, d5, fun a j => by rw [m_rd_cpy, d6, d6]⟩
theorem Hd.eq {y : MH} {c c' s s' : Nat} {t : Bool} {K K' N N' : Int → Int} {M M' : Int → Int → Int} (d : Hd y c s t K N M) (e0 : c = c') (e1 : s = s') (e2 : ∀ a, K a = K' a) (e3 : ∀ a, N a = N' a) (e4 : ∀ a j, M a j = M' a j) : Hd y c' s' t K' N' M' := by
  obtain ⟨d1, d2, d3, d4, d5, d6⟩ := d
  exact ⟨d1.trans e0, d2.trans e1, d3, fun a => (d4 a).trans (e2 a), fun a => (d5 a).trans (e3 a), fun a j => (d6 a j).trans (e4 a j)⟩
theorem Hd.of {h : MH} : Hd h h.1.1 h.1.2.1 h.1.2.2 (m_kd h) (m_ln h) (m_rd h) := ⟨rfl, rfl, rfl, fun _ => rfl, fun _ => rfl, fun _ _ => rfl⟩
theorem hl_ex {X : MH} {f : MH → Option MH} {Q : MH → Prop} (k : ∃ h', f X = some h' ∧ Q h') : ∃ h', hl X f = some h' ∧ Q h' := k
theorem gd_ex {cs : List Prop} {o : Option MH} {Q : MH → Prop} (hc : m_all cs) (k : ∃ h', o = some h' ∧ Q h') : ∃ h', gd cs o = some h' ∧ Q h' := by
  rw [gd_all hc]
  exact k
/-- what a Rule at c, made of the reader's rows, looks like -/
def rK (h : MH) (a : Int) : Int := if a = (h.1.1 : Int) then 105 else if a = (h.1.1 : Int) + 1 then 2 else if (h.1.1 : Int) + 2 ≤ a ∧ a ≤ (h.1.1 : Int) + 4 then 1 else m_kd h a
def rN (h : MH) (a : Int) : Int := if a = (h.1.1 : Int) then 0 else if a = (h.1.1 : Int) + 1 then 60 else if a = (h.1.1 : Int) + 2 then m_rd h 15 2 else if a = (h.1.1 : Int) + 3 ∨ a = (h.1.1 : Int) + 4 then m_rd h 15 5 else m_ln h a
def rM (h : MH) (a j : Int) : Int := if a = (h.1.1 : Int) then (if j = 0 then (h.1.1 : Int) + 2 else if j = 1 then (h.1.1 : Int) + 3 else if j = 2 then (h.1.1 : Int) + 4 else if j = 3 then (h.1.1 : Int) + 1 else 0)
  else if a = (h.1.1 : Int) + 1 then 0
  else if a = (h.1.1 : Int) + 2 then (if 0 ≤ j ∧ j < m_rd h 15 2 then m_rd h 16 j else 0)
  else if a = (h.1.1 : Int) + 3 then (if 0 ≤ j ∧ j < m_rd h 15 5 then m_rd h 17 j else 0)
  else if a = (h.1.1 : Int) + 4 then (if 0 ≤ j ∧ j < m_rd h 15 5 then m_rd h 18 j else 0)
  else m_rd h a j
theorem g5 (j : Int) : (bif Nat.beq ((m_ft 5).getD j.toNat 0) 2 then (-1 : Int) else 0) = if j < 4 then -1 else 0 := by
  by_cases h : j < 4
  · rw [if_pos h]
    rcases (show j.toNat = 0 ∨ j.toNat = 1 ∨ j.toNat = 2 ∨ j.toNat = 3 by omega) with e | e | e | e <;> rw [e] <;> rfl
  · rw [if_neg h]
    have : (m_ft 5).getD j.toNat 0 = 0 := by
      rw [List.getD_eq_getElem?_getD, List.getElem?_eq_none (show (m_ft 5).length ≤ j.toNat by show 4 ≤ _; omega)]
      rfl
    rw [this]
    rfl
theorem hl_hd {X : MH} {f : MH → Option MH} {Q : MH → Prop} {c s : Nat} {t : Bool} {K N : Int → Int} {M : Int → Int → Int} (d : Hd X c s t K N M) (k : ∀ y, Hd y c s t K N M → ∃ h', f y = some h' ∧ Q h') : ∃ h', hl X f = some h' ∧ Q h' := k X d
theorem Hd.kd {y : MH} {c s : Nat} {t : Bool} {K N : Int → Int} {M : Int → Int → Int} (d : Hd y c s t K N M) (a : Int) : m_kd y a = K a := d.2.2.2.1 a
theorem Hd.ln {y : MH} {c s : Nat} {t : Bool} {K N : Int → Int} {M : Int → Int → Int} (d : Hd y c s t K N M) (a : Int) : m_ln y a = N a := d.2.2.2.2.1 a
theorem Hd.rd {y : MH} {c s : Nat} {t : Bool} {K N : Int → Int} {M : Int → Int → Int} (d : Hd y c s t K N M) (a j : Int) : m_rd y a j = M a j := d.2.2.2.2.2 a j
set_option maxHeartbeats 4000000 in
theorem mk_rule {h : MH} (hL : LR h) (s0 : 0 ≤ m_rd h 15 2) (s1 : m_rd h 15 2 ≤ 400) (c0 : 0 ≤ m_rd h 15 5) (c1 : m_rd h 15 5 ≤ 12) :
    ∃ h', FX5_init (h.1.1 : Int) 15 (m_al h 105 0 4 (fun j => bif Nat.beq ((m_ft 5).getD j.toNat 0) 2 then -1 else 0)) = some h' ∧ Hd h' (h.1.1 + 5) (h.1.2.1 + 4 + 60 + (m_rd h 15 2).toNat + (m_rd h 15 5).toNat + (m_rd h 15 5).toNat) h.1.2.2 (rK h) (rN h) (fun a j => if a = (h.1.1 : Int) ∧ j < 0 then -1 else rM h a j) := by
  have hc := hL.1
  have o15 := (o_15 hL).1
  obtain ⟨f16, k16⟩ := (hL.fa (v := 16) 1 1 400 (o_15 hL) rfl (by decide) rfl (by decide))
  obtain ⟨f17, k17⟩ := (hL.fa (v := 17) 3 1 12 (o_15 hL) rfl (by decide) rfl (by decide))
  obtain ⟨f18, k18⟩ := (hL.fa (v := 18) 4 1 12 (o_15 hL) rfl (by decide) rfl (by decide))
  obtain ⟨sz, hsz⟩ : ∃ sz, sz = m_rd h 15 2 := ⟨_, rfl⟩
  obtain ⟨cl, hcl⟩ : ∃ cl, cl = m_rd h 15 5 := ⟨_, rfl⟩
  rw [← hsz] at s0 s1
  rw [← hcl] at c0 c1
  have d1 := Hd.al (Hd.of (h := h)) (k := 105) (n := 0) (ns := 4) (g := fun j => bif Nat.beq ((m_ft 5).getD j.toNat 0) 2 then -1 else 0)
  generalize m_al h 105 0 4 (fun j => bif Nat.beq ((m_ft 5).getD j.toNat 0) 2 then -1 else 0) = H1 at d1 ⊢
  unfold FX5_init
  refine gd_ex ⟨by omega, trivial⟩ ?_
  have d2 := d1.al (k := 2) (n := 60) (ns := Int.toNat 60) (g := fun _ => 0)
  have d3 := d2.wr (b := (h.1.1 : Int)) (i := 3) (v := (H1.1.1 : Int))
  have E1 : m_rd (m_wr (m_al H1 2 60 (Int.toNat 60) (fun _ => 0)) (h.1.1 : Int) 3 (H1.1.1 : Int)) 15 2 = sz := by
    rw [d3.rd]
    (repeat first | rw [if_pos (by omega)] | rw [if_neg (by omega)])
    exact hsz.symm
  rw [E1]
  refine gd_ex ⟨⟨by decide, by decide⟩, ?_, ?_, ⟨s0, by omega⟩, trivial⟩ ?_
  · unfold GK
    rw [d2.kd]
    (repeat first | rw [if_pos (by omega)] | rw [if_neg (by omega)])
    rfl
  · unfold GK
    rw [d2.kd]
    (repeat first | rw [if_pos (by omega)] | rw [if_neg (by omega)])
    exact o15
  have e3 := d3.1
  rw [show ((m_wr (m_al H1 2 60 (Int.toNat 60) (fun _ => 0)) (h.1.1 : Int) 3 (H1.1.1 : Int)).1.1 : Int) = (h.1.1 : Int) + 2 by rw [e3]; omega]
  have eH1 : (H1.1.1 : Int) = (h.1.1 : Int) + 1 := by rw [d1.1]; omega
  rw [eH1] at d3 ⊢
  refine hl_hd (d3.al (k := 1) (n := sz) (ns := sz.toNat) (g := fun _ => 0)) (fun h1 d4 => ?_)
  try dsimp only
  refine gd_ex ⟨?_, trivial⟩ ?_
  · unfold GK
    rw [d4.kd]
    (repeat first | rw [if_pos (by omega)] | rw [if_neg (by omega)])
    rfl
  refine hl_hd d4.wr (fun h2 d5 => ?_)
  try dsimp only
  have E2 : m_rd h2 15 5 = cl := by
    rw [d5.rd]
    (repeat first | rw [if_pos (by omega)] | rw [if_neg (by omega)])
    exact hcl.symm
  rw [E2]
  have d6 := d5.al (k := 1) (n := cl) (ns := cl.toNat) (g := fun _ => 0)
  refine gd_ex ⟨?_, ⟨c0, by omega⟩, ?_, trivial⟩ ?_
  · unfold GK
    rw [d5.kd]
    (repeat first | rw [if_pos (by omega)] | rw [if_neg (by omega)])
    exact o15
  · unfold GK
    rw [d6.kd]
    (repeat first | rw [if_pos (by omega)] | rw [if_neg (by omega)])
    rfl
  rw [show (h2.1.1 : Int) = (h.1.1 : Int) + 3 by rw [d5.1]; omega]
  refine hl_hd d6.wr (fun h3 d7 => ?_)
  try dsimp only
  have E3 : m_rd h3 15 5 = cl := by
    rw [d7.rd]
    (repeat first | rw [if_pos (by omega)] | rw [if_neg (by omega)])
    exact hcl.symm
  rw [E3]
  have d8 := d7.al (k := 1) (n := cl) (ns := cl.toNat) (g := fun _ => 0)
  refine gd_ex ⟨?_, ⟨c0, by omega⟩, ?_, trivial⟩ ?_
  · unfold GK
    rw [d7.kd]
    (repeat first | rw [if_pos (by omega)] | rw [if_neg (by omega)])
    exact o15
  · unfold GK
    rw [d8.kd]
    (repeat first | rw [if_pos (by omega)] | rw [if_neg (by omega)])
    rfl
  rw [show (h3.1.1 : Int) = (h.1.1 : Int) + 4 by rw [d7.1]; omega]
  refine hl_hd d8.wr (fun h4 d9 => ?_)
  try dsimp only
  have A1 : m_rd h4 15 1 = 16 := by
    rw [d9.rd]
    (repeat first | rw [if_pos (by omega)] | rw [if_neg (by omega)])
    exact f16
  have A2 : m_rd h4 (h.1.1 : Int) 0 = (h.1.1 : Int) + 2 := by
    rw [d9.rd]
    (repeat first | rw [if_pos (by omega)] | rw [if_neg (by omega)])
  have A3 : m_ln h4 ((h.1.1 : Int) + 2) = sz := by
    rw [d9.ln]
    (repeat first | rw [if_pos (by omega)] | rw [if_neg (by omega)])
  rw [A1, A2, A3]
  have d10 := d9.cpy (p := 16) (i := 0) (b := (h.1.1 : Int) + 2) (j0 := 0) (n := sz)
  have B1 : m_rd (m_cpy h4 16 0 ((h.1.1 : Int) + 2) 0 sz) (h.1.1 : Int) 1 = (h.1.1 : Int) + 3 := by
    rw [d10.rd]
    (repeat first | rw [if_pos (by omega)] | rw [if_neg (by omega)])
  have B2 : m_rd (m_cpy h4 16 0 ((h.1.1 : Int) + 2) 0 sz) 15 3 = 17 := by
    rw [d10.rd]
    (repeat first | rw [if_pos (by omega)] | rw [if_neg (by omega)])
    exact f17
  have B3 : m_ln h4 ((h.1.1 : Int) + 3) = cl := by
    rw [d9.ln]
    (repeat first | rw [if_pos (by omega)] | rw [if_neg (by omega)])
  rw [B1, B2, B3]
  have d11 := d10.cpy (p := 17) (i := 0) (b := (h.1.1 : Int) + 3) (j0 := 0) (n := cl)
  have C1 : m_rd (m_cpy (m_cpy h4 16 0 ((h.1.1 : Int) + 2) 0 sz) 17 0 ((h.1.1 : Int) + 3) 0 cl) (h.1.1 : Int) 2 = (h.1.1 : Int) + 4 := by
    rw [d11.rd]
    (repeat first | rw [if_pos (by omega)] | rw [if_neg (by omega)])
  have C2 : m_rd (m_cpy (m_cpy h4 16 0 ((h.1.1 : Int) + 2) 0 sz) 17 0 ((h.1.1 : Int) + 3) 0 cl) 15 4 = 18 := by
    rw [d11.rd]
    (repeat first | rw [if_pos (by omega)] | rw [if_neg (by omega)])
    exact f18
  have C3 : m_ln h4 ((h.1.1 : Int) + 4) = cl := by
    rw [d9.ln]
    (repeat first | rw [if_pos (by omega)] | rw [if_neg (by omega)])
  rw [C1, C2, C3]
  have K0 : m_kd h4 (h.1.1 : Int) = 105 := by
    rw [d9.kd]
    (repeat first | rw [if_pos (by omega)] | rw [if_neg (by omega)])
  have K2 : m_kd h4 ((h.1.1 : Int) + 2) = 1 := by
    rw [d9.kd]
    (repeat first | rw [if_pos (by omega)] | rw [if_neg (by omega)])
  have K3 : m_kd h4 ((h.1.1 : Int) + 3) = 1 := by
    rw [d9.kd]
    (repeat first | rw [if_pos (by omega)] | rw [if_neg (by omega)])
  have K4 : m_kd h4 ((h.1.1 : Int) + 4) = 1 := by
    rw [d9.kd]
    (repeat first | rw [if_pos (by omega)] | rw [if_neg (by omega)])
  have K15 : m_kd h4 15 = 106 := by
    rw [d9.kd]
    (repeat first | rw [if_pos (by omega)] | rw [if_neg (by omega)])
    exact o15
  have K16 : m_kd h4 16 = 1 ∧ m_ln h4 16 = 400 := by
    refine ⟨?_, ?_⟩
    · rw [d9.kd]
      (repeat first | rw [if_pos (by omega)] | rw [if_neg (by omega)])
      exact k16.1
    · rw [d9.ln]
      (repeat first | rw [if_pos (by omega)] | rw [if_neg (by omega)])
      exact k16.2.1
  have K17 : m_kd h4 17 = 1 ∧ m_ln h4 17 = 12 := by
    refine ⟨?_, ?_⟩
    · rw [d9.kd]
      (repeat first | rw [if_pos (by omega)] | rw [if_neg (by omega)])
      exact k17.1
    · rw [d9.ln]
      (repeat first | rw [if_pos (by omega)] | rw [if_neg (by omega)])
      exact k17.2.1
  have K18 : m_kd h4 18 = 1 ∧ m_ln h4 18 = 12 := by
    refine ⟨?_, ?_⟩
    · rw [d9.kd]
      (repeat first | rw [if_pos (by omega)] | rw [if_neg (by omega)])
      exact k18.1
    · rw [d9.ln]
      (repeat first | rw [if_pos (by omega)] | rw [if_neg (by omega)])
      exact k18.2.1
  refine gd_ex ⟨K15, K0, K0, ⟨by omega, by omega, by omega⟩, trivial⟩ ?_
  refine gd_ex ⟨⟨K16.1, K2, by omega, by omega, s0, by omega, by omega⟩, trivial⟩ ?_
  refine gd_ex ⟨K15, K0, K0, ⟨by omega, by omega, by omega⟩, trivial⟩ ?_
  refine gd_ex ⟨⟨K17.1, K3, by omega, by omega, c0, by omega, by omega⟩, trivial⟩ ?_
  refine gd_ex ⟨K15, K0, K0, ⟨by omega, by omega, by omega⟩, trivial⟩ ?_
  refine gd_ex ⟨⟨K18.1, K4, by omega, by omega, c0, by omega, by omega⟩, trivial⟩ ?_
  refine ⟨_, rfl, (d11.cpy (p := 18) (i := 0) (b := (h.1.1 : Int) + 4) (j0 := 0) (n := cl)).eq (by omega) (by rw [← hsz, ← hcl]; show _ = _; simp) (fun a => ?_) (fun a => ?_) (fun a j => ?_)⟩
  · unfold rK
    by_cases e0 : a = (h.1.1 : Int)
    · (repeat first | rw [if_pos (by omega)] | rw [if_neg (by omega)])
    by_cases e1 : a = (h.1.1 : Int) + 1
    · (repeat first | rw [if_pos (by omega)] | rw [if_neg (by omega)])
    by_cases e2 : a = (h.1.1 : Int) + 2
    · (repeat first | rw [if_pos (by omega)] | rw [if_neg (by omega)])
    by_cases e3 : a = (h.1.1 : Int) + 3
    · (repeat first | rw [if_pos (by omega)] | rw [if_neg (by omega)])
    by_cases e4 : a = (h.1.1 : Int) + 4
    · (repeat first | rw [if_pos (by omega)] | rw [if_neg (by omega)])
    (repeat first | rw [if_pos (by omega)] | rw [if_neg (by omega)])
  · unfold rN
    by_cases e0 : a = (h.1.1 : Int)
    · (repeat first | rw [if_pos (by omega)] | rw [if_neg (by omega)])
    by_cases e1 : a = (h.1.1 : Int) + 1
    · (repeat first | rw [if_pos (by omega)] | rw [if_neg (by omega)])
    by_cases e2 : a = (h.1.1 : Int) + 2
    · (repeat first | rw [if_pos (by omega)] | rw [if_neg (by omega)])
      try exact hsz
    by_cases e3 : a = (h.1.1 : Int) + 3
    · (repeat first | rw [if_pos (by omega)] | rw [if_neg (by omega)])
      try exact hcl
    by_cases e4 : a = (h.1.1 : Int) + 4
    · (repeat first | rw [if_pos (by omega)] | rw [if_neg (by omega)])
      try exact hcl
    (repeat first | rw [if_pos (by omega)] | rw [if_neg (by omega)])
  · unfold rM
    rw [← hsz, ← hcl]
    have z0 : (0 : Int) + (j - 0) = j := by omega
    by_cases e0 : a = (h.1.1 : Int)
    · by_cases j0 : j = 0
      · (repeat first | rw [if_pos (by omega)] | rw [if_neg (by omega)])
      by_cases j1 : j = 1
      · (repeat first | rw [if_pos (by omega)] | rw [if_neg (by omega)])
      by_cases j2 : j = 2
      · (repeat first | rw [if_pos (by omega)] | rw [if_neg (by omega)])
      by_cases j3 : j = 3
      · (repeat first | rw [if_pos (by omega)] | rw [if_neg (by omega)])
      rw [z0]
      try rw [g5]
      (repeat first | rw [if_pos (by omega)] | rw [if_neg (by omega)])
      try rw [g5]
      (repeat first | rw [if_pos (by omega)] | rw [if_neg (by omega)])
      by_cases jn : j < 0
      · (repeat first | rw [if_pos (by omega)] | rw [if_neg (by omega)])
      · (repeat first | rw [if_pos (by omega)] | rw [if_neg (by omega)])
    by_cases e1 : a = (h.1.1 : Int) + 1
    · (repeat first | rw [if_pos (by omega)] | rw [if_neg (by omega)])
    by_cases e2 : a = (h.1.1 : Int) + 2
    · by_cases jj : 0 ≤ j ∧ j < sz
      · (repeat first | rw [if_pos (by omega)] | rw [if_neg (by omega)])
        rw [z0]
      · (repeat first | rw [if_pos (by omega)] | rw [if_neg (by omega)])
    by_cases e3 : a = (h.1.1 : Int) + 3
    · by_cases jj : 0 ≤ j ∧ j < cl
      · (repeat first | rw [if_pos (by omega)] | rw [if_neg (by omega)])
        rw [z0]
      · (repeat first | rw [if_pos (by omega)] | rw [if_neg (by omega)])
    by_cases e4 : a = (h.1.1 : Int) + 4
    · by_cases jj : 0 ≤ j ∧ j < cl
      · (repeat first | rw [if_pos (by omega)] | rw [if_neg (by omega)])
        rw [z0]
      · (repeat first | rw [if_pos (by omega)] | rw [if_neg (by omega)])
    (repeat first | rw [if_pos (by omega)] | rw [if_neg (by omega)])
