section RKx
variable {xs : Int → Int} {L : Int} {q : MI} {d pc : Nat} {lv lv2 : LV} {st r : List MV} {h h0 h1 hr : MH} {R : MR}
theorem RK.sub (k : RK xs L q d pc lv2 st h R h0 hr) (hs : m_sub lv2 lv) : RK xs L q d pc lv st h R h0 hr := ⟨RN.sub k.1 hs, k.2⟩
theorem RK.up (hK : KD h0 h1) (k : RK xs L q d pc lv st h R h1 hr) : RK xs L q d pc lv st h R h0 hr := ⟨k.1, k.2.1, hK.tr k.2.2⟩
theorem RN.al {a k n : Int} (hs : m_isop q.2.2.2.2.2 pc .arraylength = true) (t : TA h a k n) (h1 : 1 ≤ k) (h8 : k ≤ 8) (k9 : RN xs L q d (pc + 1) lv (.inl n :: r) h R) : RN xs L q d pc lv (.inr (.inr a) :: r) h R := by
  have e := t.2.1
  subst e
  exact RN.st1 (of_decide_eq_true hs) (pc' := pc + 1) (lv' := lv) (st' := .inl (m_ln h a) :: r) (h' := h) (cs := [GL h a]) rfl ⟨t.gl h1 h8, trivial⟩ rfl k9
theorem RK.iR {x : Int} {r : Int × MH} (hs : m_isop q.2.2.2.2.2 pc .ireturn = true) (ht : q.2.1 = 1) (hL : LR h) (hK : KD h0 h) (hF : some (x, h) = some r) : RK xs L q d pc lv [.inl x] h (RIo r) h0 r.2 := by
  cases hF
  exact ⟨RN.ir hs ht, hL, hK⟩
theorem RK.zR {x : Int} {r : Int × MH} (hs : m_isop q.2.2.2.2.2 pc .ireturn = true) (ht : q.2.1 = 4) (hx : GT x) (hL : LR h) (hK : KD h0 h) (hF : some (x, h) = some r) : RK xs L q d pc lv [.inl x] h (RIo r) h0 r.2 := by
  cases hF
  exact ⟨RN.zr hs ht hx, hL, hK⟩
theorem RK.lR {x : Int} {r : Int × MH} (hs : m_isop q.2.2.2.2.2 pc .lreturn = true) (ht : q.2.1 = 2) (hL : LR h) (hK : KD h0 h) (hF : some (x, h) = some r) : RK xs L q d pc lv [.inr (.inl x)] h (RJo r) h0 r.2 := by
  cases hF
  exact ⟨RN.lr hs ht, hL, hK⟩
theorem RK.aR {x : Int} {r : Int × MH} (hs : m_isop q.2.2.2.2.2 pc .areturn = true) (ht : q.2.1 = 3) (hL : LR h) (hK : KD h0 h) (hF : some (x, h) = some r) : RK xs L q d pc lv [.inr (.inr x)] h (RAo r) h0 r.2 := by
  cases hF
  exact ⟨RN.ar hs ht, hL, hK⟩
theorem RK.vR {r : MH} (hs : m_isop q.2.2.2.2.2 pc .return_ = true) (ht : q.2.1 = 0) (hL : LR h) (hK : KD h0 h) (hF : some h = some r) : RK xs L q d pc lv [] h (RVo r) h0 r := by
  cases hF
  exact ⟨RN.vr hs ht, hL, hK⟩
end RKx
