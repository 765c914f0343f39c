/-! RUNS, by what is known of the locals -/
def RN (xs : Int → Int) (L : Int) (q : MI) (d pc : Nat) (lv : LV) (st : List MV) (h : MH) (R : MR) : Prop := ∀ ls : ML, ls.length = q.2.2.2.1 → Kn lv ls → ∃ N : Nat, ∀ n : Nat, N ≤ n → m_run xs L n d q pc ls st h = R
def m_sub : LV → LV → Prop
  | [], _ => True
  | p :: r, lv => m_l lv p.1 = some p.2 ∧ m_sub r lv
theorem m_sub_l {lv : LV} : ∀ {lv2 : LV}, m_sub lv2 lv → ∀ (k : Nat) (w : MV), m_l lv2 k = some w → m_l lv k = some w
  | [], _, k, w, h => by cases h
  | p :: r, hs, k, w, h => by
    rw [m_l_cons] at h
    by_cases hk : p.1 = k
    · rw [if_pos hk] at h
      cases h
      rw [← hk]
      exact hs.1
    · rw [if_neg hk] at h
      exact m_sub_l hs.2 k w h
/-- the code has these instructions -/
def m_seg (C : MC) (ops : MC) : Bool := ops.all (fun p => decide (m_lk C p.1 = some p.2) && m_cok p.2)
def m_bk (q : MI) : MC → SF → Option (SF × List Prop)
  | [], s => some (s, [])
  | p :: r, s => bif Nat.beq s.1 p.1 then (match m_sx (m_P q.1) m_ft q p.2 s.1 s.2.1 s.2.2.1 s.2.2.2 with
    | none => none
    | some u => match m_bk q r u.1 with
      | none => none
      | some w => some (w.1, u.2 ++ w.2)) else none
theorem m_all_app : ∀ {a b : List Prop}, m_all (a ++ b) → m_all a ∧ m_all b
  | [], b, h => ⟨trivial, h⟩
  | c :: a, b, h => ⟨⟨h.1, (m_all_app (a := a) h.2).1⟩, (m_all_app (a := a) h.2).2⟩
def m_brk (C : MC) (pc : Nat) (op : Instr) (off : Int) (tgt : Nat) : Bool := decide (m_lk C pc = some op) && (decide (0 ≤ (pc : Int) + off) && Nat.beq (m_at pc off) tgt)
def m_isop (C : MC) (pc : Nat) (op : Instr) : Bool := decide (m_lk C pc = some op)
def lvE : Nat → List MV → LV
  | _, [] => []
  | o, v :: r => match v with
    | .inr (.inl _) => (o, v) :: lvE (o + 2) r
    | _ => (o, v) :: lvE (o + 1) r
def m_mx (x y : Int) : Int := if x < y then y else x
def m_mn (x y : Int) : Int := if y < x then y else x
def t_len (a : Int) : Int := ((m_str (-10 - a).toNat).length : Int)
def t_chr (a i : Int) : Int := (m_str (-10 - a).toNat).getD i.toNat 0
def GX (a : Int) : Prop := a ≤ -10 ∧ -10 - (m_nS : Int) < a
def GY (a i : Int) : Prop := a ≤ -10 ∧ -10 - (m_nS : Int) < a ∧ 0 ≤ i ∧ i < t_len a
theorem mif_eq {x y : Int} (h : x = y) : m_if .eq x y = true := decide_eq_true h
theorem mif_eqn {x y : Int} (h : ¬ x = y) : ¬ m_if .eq x y = true := fun z => h (of_decide_eq_true z)
theorem mif_ne {x y : Int} (h : ¬ x = y) : m_if .ne x y = true := by simp [m_if, h]
theorem mif_nen {x y : Int} (h : x = y) : ¬ m_if .ne x y = true := by simp [m_if, h]
theorem mif_lt {x y : Int} (h : x < y) : m_if .lt x y = true := decide_eq_true h
theorem mif_ltn {x y : Int} (h : ¬ x < y) : ¬ m_if .lt x y = true := fun z => h (of_decide_eq_true z)
theorem mif_ge {x y : Int} (h : ¬ x < y) : m_if .ge x y = true := by simp only [m_if, Bool.not_eq_true', decide_eq_false_iff_not]; exact h
theorem mif_gen {x y : Int} (h : x < y) : ¬ m_if .ge x y = true := by simp only [m_if, Bool.not_eq_true', decide_eq_false_iff_not]; exact fun z => z h
theorem mif_gt {x y : Int} (h : y < x) : m_if .gt x y = true := decide_eq_true h
theorem mif_gtn {x y : Int} (h : ¬ y < x) : ¬ m_if .gt x y = true := fun z => h (of_decide_eq_true z)
theorem mif_le {x y : Int} (h : ¬ y < x) : m_if .le x y = true := by simp only [m_if, Bool.not_eq_true', decide_eq_false_iff_not]; exact h
theorem mif_len {x y : Int} (h : y < x) : ¬ m_if .le x y = true := by simp only [m_if, Bool.not_eq_true', decide_eq_false_iff_not]; exact fun z => z h
section RNx
variable {xs : Int → Int} {L : Int} {q : MI} {d pc pc' : Nat} {lv lv' lv2 : LV} {st st' r : List MV} {h h' : MH} {R : MR} {cs : List Prop}
theorem RN.sub (k : RN xs L q d pc lv2 st h R) (hs : m_sub lv2 lv) : RN xs L q d pc lv st h R := fun ls hl H => k ls hl (fun i w hw => H i w (m_sub_l hs i w hw))
theorem RN.st1 {op : Instr} (hop : m_lk q.2.2.2.2.2 pc = some op) (hs : m_sx (m_P q.1) m_ft q op pc lv st h = some ((pc', lv', st', h'), cs)) (hc : m_all cs) (hk : m_cok op = true) (k : RN xs L q d pc' lv' st' h' R) : RN xs L q d pc lv st h R := by
  intro ls hl H
  obtain ⟨ls', h1, h2, h3⟩ := m_sx_ok (xs := xs) (L := L) hs hc hk hl H
  obtain ⟨N, hN⟩ := k ls' h1 h2
  refine ⟨N + 1, fun n hn => ?_⟩
  cases n with
  | zero => omega
  | succ n =>
    rw [m_run_sx hs hop, h3]
    exact hN n (by omega)
theorem RN.blk {ops : MC} (hs : m_seg q.2.2.2.2.2 ops = true) (hb : m_bk q ops (pc, lv, st, h) = some ((pc', lv', st', h'), cs)) (hc : m_all cs) (k : RN xs L q d pc' lv' st' h' R) : RN xs L q d pc lv st h R := by
  induction ops generalizing pc lv st h cs with
  | nil =>
    cases hb
    exact k
  | cons p ops ih =>
    unfold m_seg at hs
    rw [List.all_cons, Bool.and_eq_true, Bool.and_eq_true] at hs
    obtain ⟨⟨a1, a2⟩, a3⟩ := hs
    unfold m_bk at hb
    cases hp : Nat.beq pc p.1 with
    | false =>
      have hp : Nat.beq ((pc, lv, st, h) : SF).1 p.1 = false := hp
      rw [hp] at hb
      cases hb
    | true =>
      have hp' : Nat.beq ((pc, lv, st, h) : SF).1 p.1 = true := hp
      rw [hp', cond_true] at hb
      have e := Nat.eq_of_beq_eq_true hp
      subst e
      split at hb
      · cases hb
      · rename_i u hu
        split at hb
        · cases hb
        · rename_i w hw
          obtain ⟨⟨p1, p2, p3, p4⟩, ucs⟩ := u
          obtain ⟨wS, wcs⟩ := w
          have hb := some_q hb
          obtain ⟨e1, e2⟩ := Prod.mk.inj hb
          dsimp only at e1 e2
          subst e1
          subst e2
          obtain ⟨c1, c2⟩ := m_all_app hc
          exact RN.st1 (of_decide_eq_true a1) hu c1 a2 (ih a3 hw c2)
theorem RN.stp (hr : ∀ (n : Nat) (ls : ML), ls.length = q.2.2.2.1 → Kn lv ls → m_run xs L (n + 1) d q pc ls st h = m_run xs L n d q pc' ls st' h') (k : RN xs L q d pc' lv st' h' R) : RN xs L q d pc lv st h R := by
  intro ls hl H
  obtain ⟨N, hN⟩ := k ls hl H
  refine ⟨N + 1, fun n hn => ?_⟩
  cases n with
  | zero => omega
  | succ n =>
    rw [hr n ls hl H]
    exact hN n (by omega)
theorem RN.end (hr : ∀ (n : Nat) (ls : ML), m_run xs L (n + 1) d q pc ls st h = R) : RN xs L q d pc lv st h R := by
  intro ls hl H
  refine ⟨1, fun n hn => ?_⟩
  cases n with
  | zero => omega
  | succ n => exact hr n ls
theorem brk_ok {op : Instr} {off : Int} {tgt : Nat} (hs : m_brk q.2.2.2.2.2 pc op off tgt = true) : m_lk q.2.2.2.2.2 pc = some op ∧ 0 ≤ (pc : Int) + off ∧ m_at pc off = tgt := by
  unfold m_brk at hs
  simp only [Bool.and_eq_true, decide_eq_true_eq] at hs
  exact ⟨hs.1, hs.2.1, Nat.eq_of_beq_eq_true hs.2.2⟩
theorem RN.goto {off : Int} {tgt : Nat} (hs : m_brk q.2.2.2.2.2 pc (.goto off) off tgt = true) (k : RN xs L q d tgt lv st h R) : RN xs L q d pc lv st h R := by
  obtain ⟨h1, h2, h3⟩ := brk_ok hs
  refine RN.stp (fun n ls _ _ => ?_) k
  conv => lhs; unfold m_run
  rw [h1]
  dsimp only
  rw [h3, chk_t (decide_eq_true h2)]
theorem RN.ict {cd : Jvm.ClassFile.Cond} {off x y : Int} {tgt : Nat} (hs : m_brk q.2.2.2.2.2 pc (.if_icmp cd off) off tgt = true) (hc : m_if cd x y = true) (k : RN xs L q d tgt lv r h R) : RN xs L q d pc lv (.inl y :: .inl x :: r) h R := by
  obtain ⟨h1, h2, h3⟩ := brk_ok hs
  refine RN.stp (fun n ls _ _ => ?_) k
  conv => lhs; unfold m_run
  rw [h1]
  dsimp only
  rw [if_pos hc, h3, chk_t (decide_eq_true h2)]
theorem RN.icf {cd : Jvm.ClassFile.Cond} {off x y : Int} {tgt : Nat} (hs : m_brk q.2.2.2.2.2 pc (.if_icmp cd off) off tgt = true) (hc : ¬ m_if cd x y = true) (k : RN xs L q d (pc + 3) lv r h R) : RN xs L q d pc lv (.inl y :: .inl x :: r) h R := by
  obtain ⟨h1, h2, h3⟩ := brk_ok hs
  refine RN.stp (fun n ls _ _ => ?_) k
  conv => lhs; unfold m_run
  rw [h1]
  dsimp only
  rw [if_neg hc, chk_t (decide_eq_true h2)]
theorem RN.ift {cd : Jvm.ClassFile.Cond} {off x : Int} {tgt : Nat} (hs : m_brk q.2.2.2.2.2 pc (.ifCond cd off) off tgt = true) (hc : m_if cd x 0 = true) (k : RN xs L q d tgt lv r h R) : RN xs L q d pc lv (.inl x :: r) h R := by
  obtain ⟨h1, h2, h3⟩ := brk_ok hs
  refine RN.stp (fun n ls _ _ => ?_) k
  conv => lhs; unfold m_run
  rw [h1]
  dsimp only
  rw [if_pos hc, h3, chk_t (decide_eq_true h2)]
theorem RN.iff {cd : Jvm.ClassFile.Cond} {off x : Int} {tgt : Nat} (hs : m_brk q.2.2.2.2.2 pc (.ifCond cd off) off tgt = true) (hc : ¬ m_if cd x 0 = true) (k : RN xs L q d (pc + 3) lv r h R) : RN xs L q d pc lv (.inl x :: r) h R := by
  obtain ⟨h1, h2, h3⟩ := brk_ok hs
  refine RN.stp (fun n ls _ _ => ?_) k
  conv => lhs; unfold m_run
  rw [h1]
  dsimp only
  rw [if_neg hc, chk_t (decide_eq_true h2)]
theorem RN.nnt {off a : Int} {tgt : Nat} (hs : m_brk q.2.2.2.2.2 pc (.ifnonnull off) off tgt = true) (hc : ¬ a = -1) (k : RN xs L q d tgt lv r h R) : RN xs L q d pc lv (.inr (.inr a) :: r) h R := by
  obtain ⟨h1, h2, h3⟩ := brk_ok hs
  refine RN.stp (fun n ls _ _ => ?_) k
  conv => lhs; unfold m_run
  rw [h1]
  dsimp only
  rw [if_neg hc, h3, chk_t (decide_eq_true h2)]
theorem RN.nnf {off a : Int} {tgt : Nat} (hs : m_brk q.2.2.2.2.2 pc (.ifnonnull off) off tgt = true) (hc : a = -1) (k : RN xs L q d (pc + 3) lv r h R) : RN xs L q d pc lv (.inr (.inr a) :: r) h R := by
  obtain ⟨h1, h2, h3⟩ := brk_ok hs
  refine RN.stp (fun n ls _ _ => ?_) k
  conv => lhs; unfold m_run
  rw [h1]
  dsimp only
  rw [if_pos hc, chk_t (decide_eq_true h2)]
def m_tsk (C : MC) (pc : Nat) (dflt lo hi : Int) (offs : Array Int) : Bool := decide (m_lk C pc = some (.tableswitch dflt lo hi offs)) && (offs.toList.all (fun o => decide (0 ≤ (pc : Int) + o)) && (decide (0 ≤ (pc : Int) + dflt) && decide ((offs.toList.length : Int) = hi - lo + 1)))
theorem RN.tsw {dflt lo hi x : Int} {offs : Array Int} (hs : m_tsk q.2.2.2.2.2 pc dflt lo hi offs = true) (k : RN xs L q d (sw_t pc x dflt lo offs.toList) lv r h R) : RN xs L q d pc lv (.inl x :: r) h R := by
  unfold m_tsk at hs
  rw [Bool.and_eq_true, decide_eq_true_eq] at hs
  refine RN.stp (fun n ls _ _ => ?_) k
  conv => lhs; unfold m_run
  rw [hs.1]
  dsimp only
  rw [m_swi_t, chk_t hs.2]
theorem RN.sth {dflt lo x o : Int} {rs : List Int} {tgt pc0 : Nat} (hx : x = lo) (ht : m_at pc0 o = tgt) (k : RN xs L q d tgt lv st h R) : RN xs L q d (sw_t pc0 x dflt lo (o :: rs)) lv st h R := by
  unfold sw_t
  rw [if_pos hx, ht]
  exact k
theorem RN.stm {dflt lo x o : Int} {rs : List Int} {pc0 : Nat} (hx : ¬ x = lo) (k : RN xs L q d (sw_t pc0 x dflt (lo + 1) rs) lv st h R) : RN xs L q d (sw_t pc0 x dflt lo (o :: rs)) lv st h R := by
  unfold sw_t
  rw [if_neg hx]
  exact k
theorem RN.std {dflt lo x : Int} {tgt pc0 : Nat} (ht : m_at pc0 dflt = tgt) (k : RN xs L q d tgt lv st h R) : RN xs L q d (sw_t pc0 x dflt lo []) lv st h R := by
  unfold sw_t
  rw [ht]
  exact k
def m_lsk (C : MC) (pc : Nat) (dflt : Int) (ps : Array (Int × Int)) : Bool := decide (m_lk C pc = some (.lookupswitch dflt ps)) && (ps.toList.all (fun o => decide (0 ≤ (pc : Int) + o.2)) && (decide (0 ≤ (pc : Int) + dflt) && (ps.toList.zip (ps.toList.drop 1)).all (fun (a, next) => a.1 < next.1)))
theorem RN.lsw {dflt x : Int} {ps : Array (Int × Int)} (hs : m_lsk q.2.2.2.2.2 pc dflt ps = true) (k : RN xs L q d (sw_l pc x dflt ps.toList) lv r h R) : RN xs L q d pc lv (.inl x :: r) h R := by
  unfold m_lsk at hs
  rw [Bool.and_eq_true, decide_eq_true_eq] at hs
  refine RN.stp (fun n ls _ _ => ?_) k
  conv => lhs; unfold m_run
  rw [hs.1]
  dsimp only
  rw [m_lsw_t, chk_t hs.2]
theorem RN.slh {dflt x a o : Int} {rs : List (Int × Int)} {tgt pc0 : Nat} (hx : x = a) (ht : m_at pc0 o = tgt) (k : RN xs L q d tgt lv st h R) : RN xs L q d (sw_l pc0 x dflt ((a, o) :: rs)) lv st h R := by
  unfold sw_l
  rw [if_pos hx, ht]
  exact k
theorem RN.slm {dflt x a o : Int} {rs : List (Int × Int)} {pc0 : Nat} (hx : ¬ x = a) (k : RN xs L q d (sw_l pc0 x dflt rs) lv st h R) : RN xs L q d (sw_l pc0 x dflt ((a, o) :: rs)) lv st h R := by
  unfold sw_l
  rw [if_neg hx]
  exact k
theorem RN.sld {dflt x : Int} {tgt pc0 : Nat} (ht : m_at pc0 dflt = tgt) (k : RN xs L q d tgt lv st h R) : RN xs L q d (sw_l pc0 x dflt []) lv st h R := by
  unfold sw_l
  rw [ht]
  exact k
theorem RN.ir {x : Int} (hs : m_isop q.2.2.2.2.2 pc .ireturn = true) (ht : q.2.1 = 1) : RN xs L q d pc lv [.inl x] h (some (.inl x), h) := by
  refine RN.end (fun n ls => ?_)
  unfold m_run
  rw [of_decide_eq_true hs]
  dsimp only
  rw [ht]
  rfl
theorem RN.zr {x : Int} (hs : m_isop q.2.2.2.2.2 pc .ireturn = true) (ht : q.2.1 = 4) (hx : GT x) : RN xs L q d pc lv [.inl x] h (some (.inl x), h) := by
  refine RN.end (fun n ls => ?_)
  unfold m_run
  rw [of_decide_eq_true hs]
  dsimp only
  rw [ht]
  rcases hx with rfl | rfl <;> rfl
theorem RN.lr {x : Int} (hs : m_isop q.2.2.2.2.2 pc .lreturn = true) (ht : q.2.1 = 2) : RN xs L q d pc lv [.inr (.inl x)] h (some (.inr (.inl x)), h) := by
  refine RN.end (fun n ls => ?_)
  unfold m_run
  rw [of_decide_eq_true hs]
  dsimp only
  rw [ht]
  rfl
theorem RN.ar {x : Int} (hs : m_isop q.2.2.2.2.2 pc .areturn = true) (ht : q.2.1 = 3) : RN xs L q d pc lv [.inr (.inr x)] h (some (.inr (.inr x)), h) := by
  refine RN.end (fun n ls => ?_)
  unfold m_run
  rw [of_decide_eq_true hs]
  dsimp only
  rw [ht]
  rfl
theorem RN.vr (hs : m_isop q.2.2.2.2.2 pc .return_ = true) (ht : q.2.1 = 0) : RN xs L q d pc lv [] h (none, h) := by
  refine RN.end (fun n ls => ?_)
  unfold m_run
  rw [of_decide_eq_true hs]
  dsimp only
  rw [ht]
  rfl
end RNx
