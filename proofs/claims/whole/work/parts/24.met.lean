/-- a return -/
def Rt (cc : ByteArray) (pc : Nat) (q : MI) (st : List MV) (v : Option MV) : Prop :=
  (decode cc pc = .ok (.return_, 1) ∧ st = [] ∧ v = none ∧ q.2.1 = 0) ∨
  (decode cc pc = .ok (.ireturn, 1) ∧ ∃ x : Int, st = [.inl x] ∧ v = some (.inl x) ∧ (q.2.1 = 1 ∨ q.2.1 = 4 ∧ (x = 0 ∨ x = 1))) ∨
  (decode cc pc = .ok (.lreturn, 1) ∧ ∃ x : Int, st = [.inr (.inl x)] ∧ v = some (.inr (.inl x)) ∧ q.2.1 = 2) ∨
  (decode cc pc = .ok (.areturn, 1) ∧ ∃ x : Int, st = [.inr (.inr x)] ∧ v = some (.inr (.inr x)) ∧ q.2.1 = 3)
/-- the simulation, at some fuel -/
def SIM (xs : Int → Int) (L : Int) (l : Launch) (n : Nat) : Prop := ∀ (d : Nat) (q : MI) (pc : Nat) (ls : ML) (st : List MV) (h : MH) (res : MR), m_run xs L n d q pc ls st h = res → m_ok res.2 = true →
  ∀ (p : Program) (e : Env) (R : Room) (s : State) (m : MethodId) (args : Array Value) (below : List Frame) (meth : Method) (c : Code) (Q : State → Prop) (cc : ByteArray) (w0 : va_W) (D : va_G) (A : Nat → Prop) (sA : Nat → Nat) (b zc zs : Nat), Cx p s m args meth c cc A q → m_val cc q.2.2.2.2.2 = true → EV sA b A xs L s → d ≤ R.frames → 64 * d ≤ R.locals → res.2.1.1 ≤ zc + R.cells → res.2.1.2.1 ≤ zs + R.slots →
  (∀ (pc : Nat) (ls : ML) (st : List MV) (h : MH) (v : Option MV) (t : Bool), Rt cc pc q st v → res = (v, m_chk t h) → Go p l e R s m args below meth c Q w0 D A sA b q.2.2.2.1 zc zs (pc, ls, st, h)) →
  Go p l e R s m args below meth c Q w0 D A sA b q.2.2.2.1 zc zs (pc, ls, st, h)
theorem RO.of {ws : va_W} {sA : Nat → Nat} {b : Nat} {x : MV} {v : Value} (h : RV ws sA b x v) : RO ws sA b (some x) (some v) := h
theorem m_nb {x : Int} {n : Int32} (hn : n.toInt = x) (h : x = 0 ∨ x = 1) : narrow .boolean (.int n) = .int n := by
  rcases h with h | h
  · have : n = 0 := Int32.toInt_inj.mp (by rw [hn, h]; rfl)
    subst this
    rfl
  · have : n = 1 := Int32.toInt_inj.mp (by rw [hn, h]; rfl)
    subst this
    rfl
/-- a method's contract out of the simulation of its body -/
theorem MET {xs : Int → Int} {L : Int} {l : Launch} {n d : Nat} (hS : SIM xs L l n) {q : MJ} (hv0 : m_val q.2.2.1 q.1.2.2.2.2.2 = true) (hY : Ym q) {as : List MV} {h : MH} {res : MR} (hres : m_run xs L n d q.1 0 (m_ent q.1.2.2.2.1 as) [] h = res) (hok : m_ok res.2 = true) (hent : (m_entA as).length ≤ q.1.2.2.2.1) (D : va_G) (sA : Nat → Nat) (b : Nat) (ws : va_W) (tys : List (ClassId × FieldType)) (aR : List Value) (sz : Nat) (hRS : RS ws sA b as aR) :
    Met l q.2.1 (Jvm.Cond.code q.2.1 q.2.2.1 q.1.2.2.2.1 q.2.2.2 :: tb_w) { frames := d, cells := res.2.1.1 - h.1.1, slots := res.2.1.2.1 - h.1.2.1, locals := 64 * d } (MPc D sA b xs L h ws tys sz aR) (MQc D sA b ws sz res) (res.2.1.1 - h.1.1) (res.2.1.2.1 - h.1.2.1) (va_A ws sz) := by
  have hmo : Mo h res.2 := by rw [← hres]; exact m_run_mo _ _ _ _ _ _ _
  obtain ⟨y1, y2, y3, y4, y5, y6, y7, y8⟩ := hY
  refine Met.ofW (cc := q.2.2.1) (maxL := q.1.2.2.2.1) (ret := q.2.2.2) y2 rfl ?_
  intro p e s m args below meth c s₁ B hml hv
  obtain ⟨rfl, hsz, hW, hE⟩ := hv
  have hx := B.exec
  have hb := B.bytes
  have hr := B.returns
  have hts := atoms_spec (ws := Jvm.Cond.code q.2.1 q.2.2.1 q.1.2.2.2.1 q.2.2.2 :: tb_w) B.pre
  have hown : s.vm.findClass q.2.1.cls = some m.cls := findClass_of_methodNamed B.named
  have hlocks := B.notSynchronized
  have hnm : meth.name = q.2.1.name := (name_of_methodNamed B.named B.method).1
  subst hsz
  have hA : ∀ q : Nat, s.heap.size ≤ q → va_A ws s.heap.size q := fun q h => Or.inr h
  have C : Cx p s m aR.toArray meth c q.2.2.1 (va_A ws s.heap.size) q.1 := ⟨hx, hb, hml, by rw [← y1]; exact hown, fun w hw => hts w (List.mem_cons_of_mem _ hw), hA, fun hi => by rw [hnm]; exact y7 hi, hlocks⟩
  have hW2 : WR ws D (va_A ws s.heap.size) sA b h s s.heap ws tys := hW.wk (fun k q hk _ => va_A.in hk)
  rw [lg_entry_eq]
  refine hS d q.1 0 (m_ent q.1.2.2.2.1 as) [] h res hres hok p e _ s m aR.toArray below meth c _ q.2.2.1 ws D (va_A ws s.heap.size) sA b h.1.1 h.1.2.1 C hv0 hE (Nat.le_refl _) (Nat.le_refl _) (by show _ ≤ _ + (_ - _); have := hmo.1; omega) (by show _ ≤ _ + (_ - _); have := hmo.2.1; omega) ?_ s.heap [] 0 0 ws tys _ [] hW2 va_S.rf (Nat.zero_add _) (Nat.zero_add _) (RLo.ent hRS hent) trivial
  intro pc ls st h' v t hRt hfin H locs cells slots ws' tys' lsR stR hW' hS' hc hs hL hSt
  dsimp only at hW' hc hs hL hSt
  have e1 : cells = res.2.1.1 - h.1.1 := by rw [hfin]; show cells = h'.1.1 - h.1.1; omega
  have e2 : slots = res.2.1.2.1 - h.1.2.1 := by rw [hfin]; show slots = h'.1.2.1 - h.1.2.1; omega
  rw [← e1, ← e2]
  have hend : ∀ (w : Option Value), RO ws' sA b v w → ∀ t9 : State, t9.heap = H → s.WarmedH t9.vm → MQc D sA b ws s.heap.size res aR.toArray s (.returned w) t9 := by
    intro w hw t9 ht9 hwarm
    refine ⟨⟨w, rfl, ws', tys', by rw [hfin]; exact hw, ?_⟩, hS'.F ht9⟩
    rw [hfin, ht9]
    exact WR.chk (hW'.moved hwarm.alike)
  rcases hRt with ⟨hd, rfl, rfl, hq⟩ | ⟨hd, x, rfl, rfl, hq⟩ | ⟨hd, x, rfl, rfl, hq⟩ | ⟨hd, x, rfl, rfl, hq⟩
  · have := RS.nil hSt
    subst this
    have hrn : q.2.2.2 = none := by
      unfold r_ok at y6
      split at y6
      · rename_i hz; exact hz
      all_goals first | (have := Nat.eq_of_beq_eq_true y6; omega) | cases y6
    exact W.vret hx hb (by rw [hr, hrn]) (hend none trivial) hS'.2.2 hd
  · obtain ⟨w, r1, rfl, hw, h1⟩ := RS.cons hSt
    have := RS.nil h1
    subst this
    obtain ⟨nx, rfl, hnx⟩ := hw.int
    unfold r_ok at y6
    split at y6
    · have := Nat.eq_of_beq_eq_true y6; omega
    · rename_i hz
      exact W.iret hx hb (by rw [hr, hz]) (hend (some (.int nx)) hw) hS'.2.2 hd
    · have := Nat.eq_of_beq_eq_true y6; omega
    · have := Nat.eq_of_beq_eq_true y6; omega
    · rename_i hz
      have := Nat.eq_of_beq_eq_true y6
      exact W.zret (ty := .boolean) hx hb (by rw [hr, hz]) (m_nb hnx (by omega)) (hend (some (.int nx)) hw) hS'.2.2 hd
    · cases y6
  · obtain ⟨w, r1, rfl, hw, h1⟩ := RS.cons hSt
    have := RS.nil h1
    subst this
    obtain ⟨nx, rfl, hnx⟩ := hw.lng
    have hrn : q.2.2.2 = some .long := by
      unfold r_ok at y6
      split at y6
      case h_3 => rename_i hz; exact hz
      all_goals first | (have := Nat.eq_of_beq_eq_true y6; omega) | cases y6
    exact W.lret hx hb (by rw [hr, hrn]) (hend (some (.long nx)) hw) hS'.2.2 hd
  · obtain ⟨w, r1, rfl, hw, h1⟩ := RS.cons hSt
    have := RS.nil h1
    subst this
    have hrn : ∃ C, q.2.2.2 = some (.object C) := by
      unfold r_ok at y6
      split at y6
      case h_4 => rename_i C hz; exact ⟨C, hz⟩
      all_goals first | (have := Nat.eq_of_beq_eq_true y6; omega) | cases y6
    obtain ⟨C0, hrn⟩ := hrn
    exact W.aret hx hb (by rw [hr, hrn]) (Or.inl ⟨C0, rfl⟩) (by rcases hw.ref with ⟨z, -⟩ | ⟨a, z, -⟩; exact Or.inl z; exact Or.inr ⟨a, z⟩) (hend (some w) hw) hS'.2.2 hd
