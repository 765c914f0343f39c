/-! what is made stays made, and a flag that has fallen stays fallen -/
def Mo (h h' : MH) : Prop := h.1.1 ≤ h'.1.1 ∧ h.1.2.1 ≤ h'.1.2.1 ∧ (m_ok h' = true → m_ok h = true)
theorem Mo.rf {h : MH} : Mo h h := ⟨Nat.le_refl _, Nat.le_refl _, id⟩
theorem Mo.tr {a b c : MH} (h1 : Mo a b) (h2 : Mo b c) : Mo a c := ⟨Nat.le_trans h1.1 h2.1, Nat.le_trans h1.2.1 h2.2.1, fun h => h1.2.2 (h2.2.2 h)⟩
theorem Mo.chk {a b : MH} {t : Bool} (h : Mo a b) : Mo a (m_chk t b) := ⟨h.1, h.2.1, fun k => h.2.2 (m_chk_ok k).2⟩
theorem Mo.wr {a : MH} {x i v : Int} : Mo a (m_wr a x i v) := ⟨Nat.le_refl _, Nat.le_refl _, id⟩
theorem Mo.cpy {h : MH} {a i b j n : Int} : Mo h (m_cpy h a i b j n) := ⟨Nat.le_refl _, Nat.le_refl _, id⟩
theorem Mo.al {a : MH} {k n : Int} {ns : Nat} {g : Int → Int} : Mo a (m_al a k n ns g) := ⟨Nat.le_succ _, Nat.le_add_right _ _, id⟩
theorem Mo.al2 {a : MH} {n k : Int} : Mo a (m_al2 a n k) := ⟨by show a.1.1 ≤ a.1.1 + 1 + n.toNat; omega, by show a.1.2.1 ≤ a.1.2.1 + n.toNat + n.toNat * k.toNat; omega, id⟩
theorem Mo.no {pc : Nat} {ls : ML} {st : List MV} {h : MH} : Mo h (m_no pc ls st h).2.2.2 := Mo.rf.chk
theorem m_ld_mo {ty len i pc : Nat} {ls : ML} {st : List MV} {h : MH} : Mo h (m_ld ty len i pc ls st h).2.2.2 := by
  unfold m_ld
  split
  · split
    · exact Mo.rf
    · exact Mo.rf
    · exact Mo.rf
    · exact Mo.no
  · exact Mo.no
theorem m_sto_mo {ty len i pc : Nat} {ls : ML} {st : List MV} {h : MH} : Mo h (m_sto ty len i pc ls st h).2.2.2 := by
  unfold m_sto
  split
  · split
    · exact Mo.rf.chk
    · exact Mo.rf.chk
    · exact Mo.rf.chk
    · exact Mo.no
  · exact Mo.no
theorem m_ii_mo {f : Int → Int → Int} {g : Int → Int → Bool} {pc : Nat} {ls : ML} {st : List MV} {h : MH} : Mo h (m_ii f g pc ls st h).2.2.2 := by
  unfold m_ii
  split
  · exact Mo.rf.chk
  · exact Mo.no
theorem m_ll_mo {f : Int → Int → Int} {g : Int → Int → Bool} {pc : Nat} {ls : ML} {st : List MV} {h : MH} : Mo h (m_ll f g pc ls st h).2.2.2 := by
  unfold m_ll
  split
  · exact Mo.rf.chk
  · exact Mo.no
set_option maxHeartbeats 4000000 in
theorem m_ex_mo {P : MP} {ft : Nat → List Nat} {q : MI} {xs : Int → Int} {L : Int} {op : Instr} {pc : Nat} {ls : ML} {st : List MV} {h : MH} : Mo h (m_ex P ft q xs L op pc ls st h).2.2.2 := by
  cases op
  case iinc i n =>
    simp only [m_ex]
    split
    · exact Mo.rf.chk
    · exact Mo.no
  case arraylength =>
    simp only [m_ex]
    split
    · split
      · exact Mo.rf
      · exact Mo.rf.chk
    · exact Mo.no
  case iaload =>
    simp only [m_ex]
    split
    · split
      · exact Mo.rf.chk
      · exact Mo.rf.chk
    · exact Mo.no
  all_goals first
    | exact Mo.rf
    | exact Mo.rf.chk
    | exact Mo.no
    | exact m_ld_mo
    | exact m_sto_mo
    | exact m_ii_mo
    | exact m_ll_mo
    | (simp only [m_ex]; split <;> first | exact Mo.rf | exact Mo.rf.chk | exact Mo.no | exact Mo.wr.chk | exact Mo.al.chk | exact Mo.al2.chk)
theorem m_nat_mo {k d : Nat} {st : List MV} {h : MH} : Mo h (m_nat k d st h).2 := by
  unfold m_nat
  split
  · split
    · exact Mo.rf.chk
    · exact Mo.rf.chk
  · split
    · exact Mo.cpy.chk
    · exact Mo.rf.chk
  · split
    · exact Mo.rf.chk
    · exact Mo.rf.chk
  · split
    · exact Mo.rf.chk
    · exact Mo.rf.chk
  · split
    · exact Mo.rf.chk
    · exact Mo.rf.chk
  · split
    · exact Mo.rf.chk
    · exact Mo.rf.chk
  · exact Mo.rf.chk
theorem m_swi_mo {k : Nat → MR} {pc : Nat} {x dflt : Int} {h : MH} (hk : ∀ p, Mo h (k p).2) : ∀ (offs : List Int) (lo : Int), Mo h (m_swi k pc x dflt lo offs).2
  | [], lo => hk _
  | o :: r, lo => by
    unfold m_swi
    split
    · exact hk _
    · exact m_swi_mo hk r (lo + 1)
theorem m_lsw_mo {k : Nat → MR} {pc : Nat} {x dflt : Int} {h : MH} (hk : ∀ p, Mo h (k p).2) : ∀ (offs : List (Int × Int)), Mo h (m_lsw k pc x dflt offs).2
  | [] => hk _
  | o :: r => by
    unfold m_lsw
    split
    · exact hk _
    · exact m_lsw_mo hk r
set_option maxHeartbeats 4000000 in
theorem m_run_mo {xs : Int → Int} {L : Int} : ∀ (n d : Nat) (q : MI) (pc : Nat) (ls : ML) (st : List MV) (h : MH), Mo h (m_run xs L n d q pc ls st h).2 := by
  intro n
  induction n with
  | zero => intro d q pc ls st h; exact Mo.rf.chk
  | succ n ih =>
    intro d q pc ls st h
    have call : ∀ (k : Nat) (t : MI → List MV → List MV → Bool), Mo h (match m_mi k, d with
          | some q2, d2 + 1 => match m_args q2.2.2.1 [] st with
            | some (as, r) => m_run xs L n d q (pc + 3) ls ((m_run xs L n d2 q2 0 (m_ent q2.2.2.2.1 as) [] h).1.toList ++ r) (m_chk (t q2 as r) (m_run xs L n d2 q2 0 (m_ent q2.2.2.2.1 as) [] h).2)
            | none => (none, m_bad h)
          | _, _ => m_run xs L n d q (pc + 3) ls (m_nat k d st h).1 (m_nat k d st h).2).2 := by
      intro k t
      split
      · split
        · exact ((ih _ _ _ _ _ _).chk).tr (ih _ _ _ _ _ _)
        · exact Mo.rf.chk
      · exact m_nat_mo.tr (ih _ _ _ _ _ _)
    unfold m_run
    split
    · exact Mo.rf.chk
    · rename_i op hop
      split
      · exact Mo.rf.chk
      · split
        · exact Mo.rf.chk
        · exact Mo.rf.chk
      · split
        · exact Mo.rf.chk
        · exact Mo.rf.chk
      · split
        · exact Mo.rf.chk
        · exact Mo.rf.chk
      · exact Mo.rf.chk.tr (ih _ _ _ _ _ _)
      · split
        · split
          · exact Mo.rf.chk.tr (ih _ _ _ _ _ _)
          · exact Mo.rf.chk.tr (ih _ _ _ _ _ _)
        · exact Mo.rf.chk
      · split
        · split
          · exact Mo.rf.chk.tr (ih _ _ _ _ _ _)
          · exact Mo.rf.chk.tr (ih _ _ _ _ _ _)
        · exact Mo.rf.chk
      · split
        · split
          · exact Mo.rf.chk.tr (ih _ _ _ _ _ _)
          · exact Mo.rf.chk.tr (ih _ _ _ _ _ _)
        · exact Mo.rf.chk
      · split
        · exact m_swi_mo (fun p => Mo.rf.chk.tr (ih _ _ _ _ _ _)) _ _
        · exact Mo.rf.chk
      · split
        · exact m_lsw_mo (fun p => Mo.rf.chk.tr (ih _ _ _ _ _ _)) _
        · exact Mo.rf.chk
      · split
        · exact call _ (fun q2 as r => Nat.ble (m_sum r) 8 && Nat.ble (m_entA as).length q2.2.2.2.1 && m_rcv q2.1 as h)
        · exact Mo.rf.chk
      · split
        · exact call _ (fun q2 as r => Nat.ble (m_sum r) 8 && Nat.ble (m_entA as).length q2.2.2.2.1)
        · exact Mo.rf.chk
      · split
        · exact call _ (fun q2 as r => Nat.ble (m_sum r) 8 && Nat.ble (m_entA as).length q2.2.2.2.1 && m_rcv q2.1 as h)
        · exact Mo.rf.chk
      · exact m_ex_mo.tr (ih _ _ _ _ _ _)
