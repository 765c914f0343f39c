/-! for the certificates of methods (made by program) -/
abbrev RIo (r : Int × MH) : MR := (some (.inl r.1), r.2)
abbrev RJo (r : Int × MH) : MR := (some (.inr (.inl r.1)), r.2)
abbrev RAo (r : Int × MH) : MR := (some (.inr (.inr r.1)), r.2)
abbrev RVo (h : MH) : MR := (none, h)
def FU : Nat := 2000
theorem sub_nil {lv : LV} : m_sub [] lv := trivial
theorem sub_cons {lv r : LV} {i : Nat} {v : MV} (h : m_l lv i = some v) (t : m_sub r lv) : m_sub ((i, v) :: r) lv := ⟨h, t⟩
theorem jn_use {α β : Type} {k : α} {f : α → Option β} {r : β} {G : Prop} (C : α → Prop) (hk : C k) (hf : ∀ j, C j → f j = some r → G) (h : jn k f = some r) : G := hf k hk h
/-- a heap gets a name -/
def hl {α : Type} (x : MH) (f : MH → α) : α := f x
theorem hl_of {α : Type} {x : MH} {f : MH → Option α} {r : α} (h : hl x f = some r) : ∃ y, y = x ∧ f y = some r := ⟨x, rfl, h⟩
section RNz
variable {xs : Int → Int} {L : Int} {q : MI} {d pc : Nat} {lv : LV} {h : MH}
theorem RN.iR {x : Int} {r : Int × MH} (hs : m_isop q.2.2.2.2.2 pc .ireturn = true) (ht : q.2.1 = 1) (hF : some (x, h) = some r) : RN xs L q d pc lv [.inl x] h (RIo r) := by
  cases hF
  exact RN.ir hs ht
theorem RN.zR {x : Int} {r : Int × MH} (hs : m_isop q.2.2.2.2.2 pc .ireturn = true) (ht : q.2.1 = 4) (hx : GT x) (hF : some (x, h) = some r) : RN xs L q d pc lv [.inl x] h (RIo r) := by
  cases hF
  exact RN.zr hs ht hx
theorem RN.lR {x : Int} {r : Int × MH} (hs : m_isop q.2.2.2.2.2 pc .lreturn = true) (ht : q.2.1 = 2) (hF : some (x, h) = some r) : RN xs L q d pc lv [.inr (.inl x)] h (RJo r) := by
  cases hF
  exact RN.lr hs ht
theorem RN.aR {x : Int} {r : Int × MH} (hs : m_isop q.2.2.2.2.2 pc .areturn = true) (ht : q.2.1 = 3) (hF : some (x, h) = some r) : RN xs L q d pc lv [.inr (.inr x)] h (RAo r) := by
  cases hF
  exact RN.ar hs ht
theorem RN.vR {r : MH} (hs : m_isop q.2.2.2.2.2 pc .return_ = true) (ht : q.2.1 = 0) (hF : some h = some r) : RN xs L q d pc lv [] h (RVo r) := by
  cases hF
  exact RN.vr hs ht
theorem RN.hl {st : List MV} {x y : MH} {R : MR} (e : y = x) (k : RN xs L q d pc lv st y R) : RN xs L q d pc lv st x R := by
  subst e
  exact k
end RNz
