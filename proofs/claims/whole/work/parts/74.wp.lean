/-! WEAKEST PRECONDITIONS of the plain functions -/
def Wi (o : Option (Int × MH)) (Q : Int → MH → Prop) : Prop := ∃ v h, o = some (v, h) ∧ Q v h
def Wv (o : Option MH) (Q : MH → Prop) : Prop := ∃ h, o = some h ∧ Q h
theorem wi_ret {v : Int} {h : MH} {Q : Int → MH → Prop} (k : Q v h) : Wi (some (v, h)) Q := ⟨v, h, rfl, k⟩
theorem wv_ret {h : MH} {Q : MH → Prop} (k : Q h) : Wv (some h) Q := ⟨h, rfl, k⟩
theorem wi_eq {o : Option (Int × MH)} {v : Int} {h : MH} {Q : Int → MH → Prop} (e : o = some (v, h)) (k : Q v h) : Wi o Q := ⟨v, h, e, k⟩
theorem wv_eq {o : Option MH} {h : MH} {Q : MH → Prop} (e : o = some h) (k : Q h) : Wv o Q := ⟨h, e, k⟩
theorem wi_mono {o : Option (Int × MH)} {P Q : Int → MH → Prop} (a : Wi o P) (k : ∀ v h, P v h → Q v h) : Wi o Q := by
  obtain ⟨v, h, e, p⟩ := a
  exact ⟨v, h, e, k v h p⟩
theorem wv_mono {o : Option MH} {P Q : MH → Prop} (a : Wv o P) (k : ∀ h, P h → Q h) : Wv o Q := by
  obtain ⟨h, e, p⟩ := a
  exact ⟨h, e, k h p⟩
theorem wi_bd {o : Option (Int × MH)} {f : Int → MH → Option (Int × MH)} {Q : Int → MH → Prop} (k : Wi o (fun v h => Wi (f v h) Q)) : Wi (bd o f) Q := by
  obtain ⟨v, h, e, p⟩ := k
  rw [e]
  exact p
theorem wi_bv {o : Option MH} {f : MH → Option (Int × MH)} {Q : Int → MH → Prop} (k : Wv o (fun h => Wi (f h) Q)) : Wi (bv o f) Q := by
  obtain ⟨h, e, p⟩ := k
  rw [e]
  exact p
theorem wi_be {o : Option (Int × MH)} {f : Int → MH → Option (Int × MH)} {Q : Int → MH → Prop} {v : Int} {h : MH} (e : o = some (v, h)) (k : Wi (f v h) Q) : Wi (bd o f) Q := by
  rw [e]
  exact k
theorem wi_bw {o : Option MH} {f : MH → Option (Int × MH)} {Q : Int → MH → Prop} {h : MH} (e : o = some h) (k : Wi (f h) Q) : Wi (bv o f) Q := by
  rw [e]
  exact k
theorem wi_gc {c : Prop} {cs : List Prop} {o : Option (Int × MH)} {Q : Int → MH → Prop} (hc : c) (k : Wi (gd cs o) Q) : Wi (gd (c :: cs) o) Q := by
  rw [gd_cons hc]
  exact k
theorem wi_ib {i n : Int} {cs : List Prop} {o : Option (Int × MH)} {Q : Int → MH → Prop} (h0 : 0 ≤ i) (h1 : i < n) (k : Wi (gd cs o) Q) : Wi (gd (IB i n :: cs) o) Q := wi_gc ⟨h0, h1⟩ k
theorem wi_gn {o : Option (Int × MH)} {Q : Int → MH → Prop} (k : Wi o Q) : Wi (gd [] o) Q := by
  rw [gd_nil]
  exact k
theorem wi_hl {x : MH} {f : MH → Option (Int × MH)} {Q : Int → MH → Prop} (k : Wi (f x) Q) : Wi (hl x f) Q := k
theorem wi_jn {α : Type} {x : α} {f : α → Option (Int × MH)} {Q : Int → MH → Prop} (k : Wi (f x) Q) : Wi (jn x f) Q := k
theorem wi_ip {c : Prop} [d : Decidable c] {a b : Option (Int × MH)} {Q : Int → MH → Prop} (hc : c) (k : Wi a Q) : Wi (if c then a else b) Q := by
  rw [if_pos hc]
  exact k
theorem wi_in {c : Prop} [d : Decidable c] {a b : Option (Int × MH)} {Q : Int → MH → Prop} (hc : ¬ c) (k : Wi b Q) : Wi (if c then a else b) Q := by
  rw [if_neg hc]
  exact k
theorem wi_it {c : Prop} [d : Decidable c] {a b : Option (Int × MH)} {Q : Int → MH → Prop} (k1 : c → Wi a Q) (k2 : ¬ c → Wi b Q) : Wi (if c then a else b) Q := by
  by_cases hc : c
  · exact wi_ip hc (k1 hc)
  · exact wi_in hc (k2 hc)
theorem wv_bd {o : Option (Int × MH)} {f : Int → MH → Option MH} {Q : MH → Prop} (k : Wi o (fun v h => Wv (f v h) Q)) : Wv (bd o f) Q := by
  obtain ⟨v, h, e, p⟩ := k
  rw [e]
  exact p
theorem wv_bv {o : Option MH} {f : MH → Option MH} {Q : MH → Prop} (k : Wv o (fun h => Wv (f h) Q)) : Wv (bv o f) Q := by
  obtain ⟨h, e, p⟩ := k
  rw [e]
  exact p
theorem wv_be {o : Option (Int × MH)} {f : Int → MH → Option MH} {Q : MH → Prop} {v : Int} {h : MH} (e : o = some (v, h)) (k : Wv (f v h) Q) : Wv (bd o f) Q := by
  rw [e]
  exact k
theorem wv_bw {o : Option MH} {f : MH → Option MH} {Q : MH → Prop} {h : MH} (e : o = some h) (k : Wv (f h) Q) : Wv (bv o f) Q := by
  rw [e]
  exact k
theorem wv_gc {c : Prop} {cs : List Prop} {o : Option MH} {Q : MH → Prop} (hc : c) (k : Wv (gd cs o) Q) : Wv (gd (c :: cs) o) Q := by
  rw [gd_cons hc]
  exact k
theorem wv_ib {i n : Int} {cs : List Prop} {o : Option MH} {Q : MH → Prop} (h0 : 0 ≤ i) (h1 : i < n) (k : Wv (gd cs o) Q) : Wv (gd (IB i n :: cs) o) Q := wv_gc ⟨h0, h1⟩ k
theorem wv_gn {o : Option MH} {Q : MH → Prop} (k : Wv o Q) : Wv (gd [] o) Q := by
  rw [gd_nil]
  exact k
theorem wv_hl {x : MH} {f : MH → Option MH} {Q : MH → Prop} (k : Wv (f x) Q) : Wv (hl x f) Q := k
theorem wv_jn {α : Type} {x : α} {f : α → Option MH} {Q : MH → Prop} (k : Wv (f x) Q) : Wv (jn x f) Q := k
theorem wv_ip {c : Prop} [d : Decidable c] {a b : Option MH} {Q : MH → Prop} (hc : c) (k : Wv a Q) : Wv (if c then a else b) Q := by
  rw [if_pos hc]
  exact k
theorem wv_in {c : Prop} [d : Decidable c] {a b : Option MH} {Q : MH → Prop} (hc : ¬ c) (k : Wv b Q) : Wv (if c then a else b) Q := by
  rw [if_neg hc]
  exact k
theorem wv_it {c : Prop} [d : Decidable c] {a b : Option MH} {Q : MH → Prop} (k1 : c → Wv a Q) (k2 : ¬ c → Wv b Q) : Wv (if c then a else b) Q := by
  by_cases hc : c
  · exact wv_ip hc (k1 hc)
  · exact wv_in hc (k2 hc)
/-! reading behind writing and copying -/
theorem rd_eq {h : MH} {a i v b j : Int} (e1 : b = a) (e2 : j = i) : m_rd (m_wr h a i v) b j = v := by
  rw [m_rd_wr, if_pos ⟨e1, e2⟩]
theorem rd_ne {h : MH} {a i v b j : Int} (e : b ≠ a ∨ j ≠ i) : m_rd (m_wr h a i v) b j = m_rd h b j := by
  rw [m_rd_wr, if_neg (fun z => e.elim (fun q => q z.1) (fun q => q z.2))]
theorem cp_in {h : MH} {a i b j n c k : Int} (e1 : c = b) (e2 : j ≤ k) (e3 : k < j + n) : m_rd (m_cpy h a i b j n) c k = m_rd h a (i + (k - j)) := by
  show (if c = b ∧ j ≤ k ∧ k < j + n then _ else _) = _
  rw [if_pos ⟨e1, e2, e3⟩]
  rfl
theorem cp_out {h : MH} {a i b j n c k : Int} (e : c ≠ b ∨ k < j ∨ j + n ≤ k) : m_rd (m_cpy h a i b j n) c k = m_rd h c k := by
  show (if c = b ∧ j ≤ k ∧ k < j + n then _ else _) = _
  rw [if_neg (by omega)]
  rfl
theorem Fr.cp {P : Int → Int → Prop} {h1 h2 : MH} (a : Fr P h1 h2) {x i y j n : Int} (hp : ∀ k, j ≤ k → k < j + n → P y k) : Fr P h1 (m_cpy h2 x i y j n) := ⟨a.1, a.2.1, fun z k hq => by
  by_cases hc : z = y ∧ j ≤ k ∧ k < j + n
  · obtain ⟨rfl, c2, c3⟩ := hc
    exact absurd (hp k c2 c3) hq
  · rw [cp_out (by omega)]
    exact a.2.2 z k hq⟩
theorem Fr.rd {P : Int → Int → Prop} {h1 h2 : MH} (a : Fr P h1 h2) {x j : Int} (hq : ¬ P x j) : m_rd h2 x j = m_rd h1 x j := a.2.2 x j hq
/-- a row of numbers with one changed -/
def ups (s : Int → Int) (i v : Int) : Int → Int := fun j => if j = i then v else s j
theorem rd_fn {h : MH} {a i v : Int} : m_rd (m_wr h a i v) a = ups (m_rd h a) i v := by
  funext j
  unfold ups
  by_cases hj : j = i
  · rw [if_pos hj, rd_eq rfl hj]
  · rw [if_neg hj, rd_ne (Or.inr hj)]
theorem rd_fo {h : MH} {a i v b : Int} (e : b ≠ a) : m_rd (m_wr h a i v) b = m_rd h b := by
  funext j
  rw [rd_ne (Or.inl e)]
theorem up_eq {s : Int → Int} {i v j : Int} (e : j = i) : ups s i v j = v := if_pos e
theorem up_ne {s : Int → Int} {i v j : Int} (e : j ≠ i) : ups s i v j = s j := if_neg e
theorem lc_lt {x y : Int} : m_lcmp x y < 0 ↔ x < y := by
  unfold m_lcmp
  split <;> (try split) <;> omega
theorem lc_gt {x y : Int} : 0 < m_lcmp x y ↔ y < x := by
  unfold m_lcmp
  split <;> (try split) <;> omega
theorem lc_eq {x y : Int} : m_lcmp x y = 0 ↔ x = y := by
  unfold m_lcmp
  split <;> (try split) <;> omega
