section CQ
variable {p : Program} {l : Launch} {e : Env} {R : Room} {s : State} {m : MethodId} {args : Array Value} {below : List Frame} {meth : Method} {c : Code} {H : Heap} {locs : List Loc} {cells slots : Nat} {Q : State → Prop}
variable {pc : Nat} {ls : Array Slot} {rest st0 : List Value} {A0 A1 : Nat → Prop} {H0 : Heap} {mc ms : Nat} {free : Addr → Prop}
/-- behind any call -/
theorem va_callQ {B : Option Value → State → Prop} (hr : va_Run p l e R s m args below meth c H locs cells slots mc ms (F0 m pc ls st0) rest (fun st oc t => (∃ v : Option Value, oc = .returned v ∧ B v t) ∧ va_F A1 st t) free) (hS : va_S A0 H0 H locs) (hA : ∀ q, q < H.size → A1 q → A0 q) (hf : ∀ q, free q → A0 q)
    (kk : ∀ (v : Option Value) (t : State) (H1 : Heap) (locs1 : List Loc), t.heap = H1 → s.vm.Alike t.vm → B v t → H.size ≤ H1.size → (∀ q : Nat, q < H.size → ¬ A1 q → H1[q]? = H[q]?) → va_S A0 H0 H1 locs1 → W p l e R s m args below meth c H1 locs1 (cells + mc) (slots + ms) Q (F0 m (pc + 3) ls (v.toList ++ rest))) : W p l e R s m args below meth c H locs cells slots Q (F0 m pc ls st0) := by
  intro T hT X
  obtain ⟨v, st₀, t, T', L, h0, X', hL, e1, e2, ⟨⟨w, hv, hb⟩, hz, hk⟩, st⟩ := hr T hT X
  cases hv
  rw [h0] at hz hk
  obtain ⟨t2, a1, b1⟩ := kk v t T'.heap (locs ++ L) e1.symm (by rw [← e2]; exact X'.warmed.alike) hb (by rw [e1]; exact hz) (fun q h1 h2 => by rw [e1]; exact hk q h1 h2)
    ⟨Nat.le_trans hS.1 (by rw [e1]; exact hz), fun q h1 h2 => by rw [e1, hk q (Nat.lt_of_lt_of_le h1 hS.1) (fun z => h2 (hA q (Nat.lt_of_lt_of_le h1 hS.1) z))]; exact hS.2.1 q h1 h2, fun q hq => by
      rcases List.mem_append.mp hq with h | h
      · exact hS.2.2 q h
      · exact hf _ (hL q h)⟩ T' rfl X'
  exact ⟨t2, st t2 a1, b1⟩
end CQ
/-- what comes back -/
def RO (ws : va_W) (sA : Nat → Nat) (b : Nat) : Option MV → Option Value → Prop
  | none, none => True
  | some x, some v => RV ws sA b x v
  | _, _ => False
/-- what a method finds beside its cells: the script, texts, classes of arrays -/
def NL (U : State) : Prop := (∀ q ∈ m_nl, va_Nw (.methodLinkNest q.1 q.2.1 q.2.2.1 q.2.2.2) U) ∧ va_AOA .int U
def ST (sA : Nat → Nat) (A : Nat → Prop) (U : State) : Prop := ∃ adV : Nat → Nat, vk_S m_nS m_sl m_sb sA adV A U U.heap ∧ va_Z "java/lang/String" "COMPACT_STRINGS" "Z" (.int 1) A U U.heap ∧ va_Zq "jdk/internal/util/Preconditions" "SIOOBE_FORMATTER" "Ljava/util/function/BiFunction;" A U U.heap
def EV (sA : Nat → Nat) (b : Nat) (A : Nat → Prop) (xs : Int → Int) (L : Int) (U : State) : Prop := SX b A xs L U ∧ (va_AO RX5 U ∧ va_AO RX2 U ∧ va_AO RX10 U) ∧ SK sA #[] U ∧ NL U ∧ ST sA A U
theorem va_AOA_spec {ty : FieldType} {s : State} (h : va_AOA ty s) :
    ∃ comp c k, s.vm.findClass (FieldType.array ty).toString = some comp ∧ (s.vm.classes.findIdx? fun x => match x.kind with | .array component _ => component == comp | _ => false) = some c ∧ s.vm.classes[c]? = some k ∧ k.kind = .array comp (.array ty) ∧ s.vm.findClass ("[" ++ (FieldType.array ty).toString) = some c := by
  unfold va_AOA at h
  simp only [Cond.before, Cond.holds, Cond.value, beq_iff_eq] at h
  cases hc : s.vm.findClass (FieldType.array ty).toString with
  | none => simp [hc] at h
  | some comp =>
    simp only [hc, Option.bind_some, Option.bind_eq_some_iff, Option.map_eq_some_iff] at h
    obtain ⟨c, hi, k, hk, hb⟩ := h
    obtain ⟨hlt, hp, -⟩ := Array.findIdx?_eq_some_iff_getElem.mp hi
    have hkk : s.vm.classes[c] = k := (Array.getElem?_eq_some_iff.mp hk).2
    rw [hkk] at hp
    cases hkind : k.kind with
    | array component ty2 =>
      rw [hkind] at hb hp
      simp at hb hp
      exact ⟨comp, c, k, rfl, hi, hk, by rw [hkind, hp, hb.1], hb.2⟩
    | _ => rw [hkind] at hp; simp at hp
theorem va_AOA.moved {ty : FieldType} {u U : State} (hvm : u.vm.Alike U.vm) (h : va_AOA ty u) : va_AOA ty U := by
  obtain ⟨comp, c, k, h1, h2, h3, h4, h5⟩ := va_AOA_spec h
  obtain ⟨k', hk', he⟩ := hvm.2.2 _ _ h3
  have hi : (U.vm.classes.findIdx? fun (x : Class) => match x.kind with | .array component _ => component == comp | _ => false) = some c := by
    have e1 := va_idx_bare U.vm comp
    have e2 := va_idx_bare u.vm comp
    have e3 : U.vm.bare = u.vm.bare := by first | exact hvm.bare_eq | exact hvm.bare_eq.symm
    rw [e3] at e1
    exact (e1.symm.trans e2).trans h2
  have hkind : k'.kind = .array comp (.array ty) := by rw [he]; exact h4
  have f1 : U.vm.findClass (FieldType.array ty).toString = some comp := by rw [hvm.findClass]; exact h1
  have f2 : U.vm.findClass ("[" ++ (FieldType.array ty).toString) = some c := by rw [hvm.findClass]; exact h5
  unfold va_AOA Cond.before Cond.holds
  simp only [Cond.value]
  rw [f1, Option.bind_some]
  refine (congrArg (fun o : Option Nat => (o.bind (fun c => (U.vm.classes[c]?).map fun (k : Class) => match k.kind with | .array _ ty' => decide (ty' = FieldType.array ty) && decide (U.vm.findClass ("[" ++ (FieldType.array ty).toString) = some c) | _ => false) == some true)) hi).trans ?_
  simp [hk', hkind, f2]
/-- a method's start, and its end -/
def MPc (D : va_G) (sA : Nat → Nat) (b : Nat) (xs : Int → Int) (L : Int) (h : MH) (ws : va_W) (tys : List (ClassId × FieldType)) (sz : Nat) (av : List Value) : Array Value → State → Prop := fun a U => a = av.toArray ∧ U.heap.size = sz ∧ WR ws D (fun _ => True) sA b h U U.heap ws tys ∧ EV sA b (va_A ws sz) xs L U
def MQc (D : va_G) (sA : Nat → Nat) (b : Nat) (ws : va_W) (sz : Nat) (res : MR) : Array Value → State → Outcome → State → Prop := fun _ st oc t => (∃ v : Option Value, oc = .returned v ∧ ∃ (ws' : va_W) (tys' : List (ClassId × FieldType)), RO ws' sA b res.1 v ∧ WR ws D (va_A ws sz) sA b res.2 t t.heap ws' tys') ∧ va_F (va_A ws sz) st t
theorem WR.moved {w0 : va_W} {D : va_G} {A : Nat → Prop} {sA : Nat → Nat} {b : Nat} {h : MH} {u U : State} {H : Heap} {ws : va_W} {tys : List (ClassId × FieldType)} (hvm : u.vm.Alike U.vm) (hW : WR w0 D A sA b h u H ws tys) : WR w0 D A sA b h U H ws tys := ⟨va_K.moved hvm hW.1, hW.2⟩
theorem WR.base {w0 : va_W} {D : va_G} {A : Nat → Prop} {sA : Nat → Nat} {b : Nat} {h : MH} {s : State} {H : Heap} {ws : va_W} {tys : List (ClassId × FieldType)} (hW : WR w0 D A sA b h s H ws tys) : WR ws D A sA b h s H ws tys := ⟨hW.1, hW.2.1, hW.2.2.1, hW.2.2.2.1, hW.2.2.2.2.1, hW.2.2.2.2.2.1, va_X2.rf⟩
theorem WR.wk {w0 : va_W} {D : va_G} {A B : Nat → Prop} {sA : Nat → Nat} {b : Nat} {h : MH} {s : State} {H : Heap} {ws : va_W} {tys : List (ClassId × FieldType)} (hW : WR w0 D A sA b h s H ws tys) (hAB : ∀ (k : Nat) (q : Nat × va_E), ws[k]? = some q → A q.1 → B q.1) : WR w0 D B sA b h s H ws tys := ⟨hW.1, hW.2.1, hW.2.2.1.weaken hAB, hW.2.2.2⟩
theorem EV.moved {sA : Nat → Nat} {b : Nat} {A : Nat → Prop} {xs : Int → Int} {L : Int} {u U : State} (hv : U.vm = u.vm) (hh : U.heap = u.heap) (h : EV sA b A xs L u) : EV sA b A xs L U := by
  have hal : u.vm.Alike U.vm := by rw [hv]; exact Vm.Alike.refl _
  obtain ⟨⟨n, g, x1, x2, x3⟩, ⟨o1, o2, o3⟩, hZ, hN, adV, hT⟩ := h
  refine ⟨⟨n, g, ?_, by rw [hh]; exact x2, x3⟩, ⟨o1.moved hal, o2.moved hal, o3.moved hal⟩, fun own i j hp => ?_, ⟨fun q hq => va_Nw.same rfl hv.symm (hN.1 q hq), hN.2.moved hal⟩, adV, by rw [hh]; exact ⟨hT.1.moved hal, hT.2.1.moved hal, hT.2.2.moved hal⟩⟩
  · rw [hh]; exact x1.moved hal
  · obtain ⟨z1, tx, z2⟩ := hZ own i j hp
    exact ⟨z1, tx, z2.same hv⟩
theorem MPc.blind {D : va_G} {sA : Nat → Nat} {b : Nat} {xs : Int → Int} {L : Int} {h : MH} {ws : va_W} {tys : List (ClassId × FieldType)} {sz : Nat} {av : List Value} : FrameBlind (MPc D sA b xs L h ws tys sz av) := by
  intro a U g mk hq
  obtain ⟨q0, q1, q2, q3⟩ := hq
  exact ⟨q0, q1, WR.moved (u := U) (U := U.calling g mk a) (Vm.Alike.refl U.vm) q2, EV.moved (u := U) (U := U.calling g mk a) rfl rfl q3⟩
/-- at a call: what the callee finds -/
theorem EV.call {sA : Nat → Nat} {b : Nat} {A : Nat → Prop} {xs : Int → Int} {L : Int} {s U : State} {H : Heap} {locs : List Loc} {D : va_G} {ws : va_W} (hE : EV sA b A xs L s) (hU : U.heap = H) (hW : s.WarmedH U.vm) (hS : va_S A s.heap H locs) (hD : va_D A ws) (hA : ∀ q, s.heap.size ≤ q → A q) : EV sA b (va_A ws H.size) xs L U := by
  obtain ⟨⟨n, g, x1, x2, x3, x4, x5, x6⟩, ⟨o1, o2, o3⟩, hZ, hN, adV, hT⟩ := hE
  refine ⟨⟨n, g, ?_, by rw [hU]; exact Nat.lt_of_lt_of_le x2 hS.1, ?_, x4, x5, x6⟩, ⟨o1.moved hW.alike, o2.moved hW.alike, o3.moved hW.alike⟩, fun own i j hp => ?_, ⟨fun q hq => (hN.1 q hq).warmM hW, hN.2.moved hW.alike⟩, adV, ?_⟩
  · rw [hU]
    exact (x1.kept (hS.2.1 b x2 x3)).moved hW.alike
  · rintro (⟨k, e, hk⟩ | hz)
    · exact x3 (hD.2 k _ hk)
    · have := hS.1
      omega
  · obtain ⟨z1, tx, z2⟩ := hZ own i j hp
    exact ⟨z1, tx, z2.warm hW⟩
  · rw [hU]
    have hn : ∀ q, va_A ws H.size q → A q := by
      rintro q (⟨k, e, hk⟩ | hz)
      · exact hD.2 k _ hk
      · exact hA q (Nat.le_trans hS.1 hz)
    exact ⟨((hT.1.kept (H1 := H) hS.2.1).moved hW.alike).narrow hn, ((hT.2.1.kept (H1 := H) hS.2.1).moved hW.alike).narrow hn, ((hT.2.2.kept (H1 := H) hS.2.1).moved hW.alike).narrow hn⟩
