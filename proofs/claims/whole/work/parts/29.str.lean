/-! TEXTS: length and charAt of the JDK's own String, over the law's constants -/
theorem sj_1 : ∀ j, j < m_nS → (m_sl.getD j 0 < 100 ∧ m_sl.getD j 0 = (m_str j).length ∧ (Int32.ofNat (m_sl.getD j 0)) >>> ((0 : Int32) &&& 31) = Int32.ofNat (m_sl.getD j 0)) := by decide +kernel
theorem sj_2 : ∀ j, j < m_nS → ∀ i, i < m_sl.getD j 0 → ((((((m_sb.getD j []).getD i 0) &&& 255).toUInt32 % 65536).toInt32).toInt = (m_str j).getD i 0 ∧ narrow .char (.int ((((m_sb.getD j []).getD i 0) &&& 255).toUInt32 % 65536).toInt32) = .int ((((m_sb.getD j []).getD i 0) &&& 255).toUInt32 % 65536).toInt32) := by decide +kernel
def sNo : Nat → Prop := fun _ => False
def STn (sA adV : Nat → Nat) (U : State) : Prop := vk_S m_nS m_sl m_sb sA adV sNo U U.heap ∧ va_Z "java/lang/String" "COMPACT_STRINGS" "Z" (.int 1) sNo U U.heap ∧ va_Zq "jdk/internal/util/Preconditions" "SIOOBE_FORMATTER" "Ljava/util/function/BiFunction;" sNo U U.heap
theorem STn.moved {sA adV : Nat → Nat} {u U : State} (hv : u.vm.Alike U.vm) {H : Heap} (hu : u.heap = H) (hh : u.heap.size ≤ U.heap.size) (hq : ∀ q, q < u.heap.size → U.heap[q]? = u.heap[q]?) (h : STn sA adV u) : STn sA adV U :=
  ⟨(h.1.kept (fun a ha _ => hq a ha)).moved hv, (h.2.1.kept (fun a ha _ => hq a ha)).moved hv, (h.2.2.kept (fun a ha _ => hq a ha)).moved hv⟩
def SPc (sA adV : Nat → Nat) (av : List Value) : Array Value → State → Prop := fun a U => a = av.toArray ∧ STn sA adV U
def SQc (v : Option Value) : Array Value → State → Outcome → State → Prop := fun _ st oc t => (∃ w : Option Value, oc = .returned w ∧ w = v) ∧ va_F sNo st t
theorem SPc.blind {sA adV : Nat → Nat} {av : List Value} : FrameBlind (SPc sA adV av) := fun a U g mk h => ⟨h.1, STn.moved (u := U) (U := U.calling g mk a) (Vm.Alike.refl U.vm) rfl (Nat.le_refl _) (fun _ _ => rfl) h.2⟩
section StM
variable {l : Launch} {sA adV : Nat → Nat}
theorem SMet {y : MethodName} {cc : ByteArray} {maxL f : Nat} {ret : Option FieldType} {av : List Value} {v : Option Value} (hy : plainName y.cls = true) (hle : (lg_sl av).length ≤ maxL)
    (body : ∀ (p : Program) (e : Env) (s : State) (m : MethodId) (below : List Frame) (meth : Method) (c : Code) (ls : Array Slot), p.tables.exec = Jvm.exec → c.code = cc → meth.sig.returnType = ret → meth.locks = false → c.maxLocals = maxL → s.vm.findClass y.cls = some m.cls → (∀ w ∈ tb_w, w.before av.toArray s = true) → lv_has ls maxL (lv_args 0 av) → STn sA adV s → W p l e { frames := f, cells := 0, slots := 0, locals := 40 * f } s m av.toArray below meth c s.heap [] 0 0 (MQ below (SQc v) av.toArray s 0 0 sNo) (F0 m 0 ls [])) :
    Met l y (Jvm.Cond.code y cc maxL ret :: tb_w) { frames := f, cells := 0, slots := 0, locals := 40 * f } (SPc sA adV av) (SQc v) 0 0 sNo := by
  refine Met.ofW (cc := cc) (maxL := maxL) (ret := ret) hy rfl ?_
  intro p e s m args below meth c s₁ B hml hv
  obtain ⟨rfl, hE⟩ := hv
  have hts := atoms_spec (ws := Jvm.Cond.code y cc maxL ret :: tb_w) B.pre
  rw [lg_entry_eq]
  exact body p e s m below meth c _ B.exec B.bytes B.returns B.notSynchronized hml (findClass_of_methodNamed B.named) (fun w hw => hts w (List.mem_cons_of_mem _ hw)) (lv_entry av hle) hE
variable {p : Program} {e : Env} {R : Room} {s : State} {m : MethodId} {args : Array Value} {below : List Frame} {meth : Method} {c : Code} {Q : State → Prop} {cc : ByteArray} {A : Nat → Prop} {H : Heap} {locs : List Loc} {cells slots pc : Nat} {ls : Array Slot} {rest : List Value}
/-- behind a call of a text's method -/
theorem st_back {st0 : List Value} {v : Option Value} (run : va_Run p l e R s m args below meth c H locs cells slots 0 0 (F0 m pc ls st0) rest (SQc v #[]) sNo) (hS : va_S A s.heap H locs)
    (k : ∀ (H1 : Heap) (locs1 : List Loc), H.size ≤ H1.size → (∀ q : Nat, q < H.size → H1[q]? = H[q]?) → va_S A s.heap H1 locs1 → W p l e R s m args below meth c H1 locs1 cells slots Q (F0 m (pc + 3) ls (v.toList ++ rest))) : W p l e R s m args below meth c H locs cells slots Q (F0 m pc ls st0) := by
  refine va_callQ (B := fun w _ => w = v) run hS (fun q _ h9 => h9.elim) (fun q h9 => h9.elim) (fun w t H1 locs1 ht hvm hB hz1 hk1 hS1 => ?_)
  subst hB
  exact k H1 locs1 hz1 (fun q hq => hk1 q hq (fun z => z)) hS1
theorem STn.call {U : State} (hE : STn sA adV s) (hU : U.heap = H) (hW : s.WarmedH U.vm) (hS : va_S sNo s.heap H locs) : STn sA adV U :=
  hE.moved hW.alike rfl (by rw [hU]; exact hS.1) (fun q hq => by rw [hU]; exact hS.2.1 q hq (fun z => z))
theorem GoodIn.sub {y : MethodName} {bytes : ByteArray} {maxL : Nat} {ret : Option FieldType} (hw : Jvm.Cond.code y bytes maxL ret ∈ tb_w) : GoodIn tb_w (Jvm.Cond.code y bytes maxL ret :: tb_w) := by
  intro w hw2
  rcases List.mem_cons.mp hw2 with rfl | hw2
  · exact ⟨hw, (tb_good _ hw).2⟩
  · exact ⟨hw2, (tb_good _ hw2).2⟩
end StM
