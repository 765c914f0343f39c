/-! numbers -/
theorem m_w32_b (x : Int) : m_w32 x = x.bmod 4294967296 := by
  unfold m_w32
  rw [Int.bmod_def]
  split <;> omega
theorem m_w64_b (x : Int) : m_w64 x = x.bmod 18446744073709551616 := by
  unfold m_w64
  rw [Int.bmod_def]
  split <;> omega
theorem m_add32 (x y : Int32) : (x + y).toInt = m_w32 (x.toInt + y.toInt) := by rw [m_w32_b, Int32.toInt_add]
theorem m_sub32 (x y : Int32) : (x - y).toInt = m_w32 (x.toInt - y.toInt) := by rw [m_w32_b, Int32.toInt_sub]
theorem m_mul32 (x y : Int32) : (x * y).toInt = m_w32 (x.toInt * y.toInt) := by rw [m_w32_b, Int32.toInt_mul]
theorem m_div32 (x y : Int32) : (x / y).toInt = m_w32 (x.toInt.tdiv y.toInt) := by rw [m_w32_b, Int32.toInt_div]
theorem m_rem32 (x y : Int32) : (x - x / y * y).toInt = x.toInt.tmod y.toInt := by rw [irem_eq_mod, Int32.toInt_mod]
theorem m_add64 (x y : Int64) : (x + y).toInt = m_w64 (x.toInt + y.toInt) := by rw [m_w64_b, Int64.toInt_add]
theorem m_sub64 (x y : Int64) : (x - y).toInt = m_w64 (x.toInt - y.toInt) := by rw [m_w64_b, Int64.toInt_sub]
theorem m_mul64 (x y : Int64) : (x * y).toInt = m_w64 (x.toInt * y.toInt) := by rw [m_w64_b, Int64.toInt_mul]
theorem m_div64 (x y : Int64) : (x / y).toInt = m_w64 (x.toInt.tdiv y.toInt) := by rw [m_w64_b, Int64.toInt_div]
theorem m_rem64 (x y : Int64) : (x - x / y * y).toInt = x.toInt.tmod y.toInt := by
  have a := (x % y).toInt_lt
  have b := (x % y).le_toInt
  rw [Int64.toInt_mod] at a b
  rw [Int64.toInt_sub, Int64.toInt_mul, Int64.toInt_div, Int.bmod_mul_bmod, Int.sub_bmod_bmod, Int.mul_comm, ← Int.tmod_def]
  exact Int.bmod_eq_of_le_mul_two (by omega) (by omega)
theorem m_ne0 {y : Int32} {x : Int} (h : m_nz x y.toInt = true) : ¬ y = 0 := by
  intro e
  subst e
  simp [m_nz] at h
theorem m_ne064 {y : Int64} {x : Int} (h : m_nz x y.toInt = true) : ¬ y = 0 := by
  intro e
  subst e
  simp [m_nz] at h
section GoS
variable {p : Program} {l : Launch} {e : Env} {R : Room} {s : State} {m : MethodId} {args : Array Value} {below : List Frame} {meth : Method} {c : Code} {Q : State → Prop} {cc : ByteArray} {w0 : va_W} {D : va_G} {A : Nat → Prop} {sA : Nat → Nat} {b nL zc zs : Nat}
def Go (p : Program) (l : Launch) (e : Env) (R : Room) (s : State) (m : MethodId) (args : Array Value) (below : List Frame) (meth : Method) (c : Code) (Q : State → Prop) (w0 : va_W) (D : va_G) (A : Nat → Prop) (sA : Nat → Nat) (b nL zc zs : Nat) (f : MF) : Prop :=
  ∀ (H : Heap) (locs : List Loc) (cells slots : Nat) (ws : va_W) (tys : List (ClassId × FieldType)) (lsR : Array Slot) (stR : List Value), WR w0 D A sA b f.2.2.2 s H ws tys → va_S A s.heap H locs → cells + zc = f.2.2.2.1.1 → slots + zs = f.2.2.2.1.2.1 → RLo ws sA b nL f.2.1 lsR → RS ws sA b f.2.2.1 stR → W p l e R s m args below meth c H locs cells slots Q (F0 m f.1 lsR stR)
theorem m_no_ok {pc : Nat} {ls : ML} {st : List MV} {h : MH} (k : m_ok (m_no pc ls st h).2.2.2 = true) : False := by
  simp [m_no, m_bad, m_ok, m_chk] at k
theorem m_chk_ok {t : Bool} {h : MH} (k : m_ok (m_chk t h) = true) : t = true ∧ m_ok h = true := by
  simpa [m_ok, m_chk] using k
theorem go_ii {f : Int → Int → Int} {g : Int → Int → Bool} {F : Int32 → Int32 → Int32} {pc : Nat} {ls : ML} {st : List MV} {h : MH}
    (hF : ∀ x y : Int32, (F x y).toInt = f x.toInt y.toInt)
    (row : ∀ (H : Heap) (locs : List Loc) (cells slots : Nat) (lsR : Array Slot) (rest : List Value) (x y : Int32), g x.toInt y.toInt = true → W p l e R s m args below meth c H locs cells slots Q (F0 m (pc + 1) lsR (.int (F x y) :: rest)) → W p l e R s m args below meth c H locs cells slots Q (F0 m pc lsR (.int y :: .int x :: rest)))
    (hok : m_ok (m_ii f g pc ls st h).2.2.2 = true) (k : Go p l e R s m args below meth c Q w0 D A sA b nL zc zs (m_ii f g pc ls st h)) : Go p l e R s m args below meth c Q w0 D A sA b nL zc zs (pc, ls, st, h) := by
  intro H locs cells slots ws tys lsR stR hW hS hc hs hL hSt
  unfold m_ii at hok k
  split at hok
  · rename_i y x r
    obtain ⟨v, r1, rfl, hv, h1⟩ := RS.cons hSt
    obtain ⟨v2, r2, rfl, hv2, h2⟩ := RS.cons h1
    obtain ⟨ny, rfl, rfl⟩ := hv.int
    obtain ⟨nx, rfl, rfl⟩ := hv2.int
    refine row _ _ _ _ _ _ _ _ (m_chk_ok hok).1 ?_
    exact k H locs cells slots ws tys lsR _ hW hS hc hs hL ⟨⟨F nx ny, rfl, hF nx ny⟩, h2⟩
  · exact (m_no_ok hok).elim
theorem go_ll {f : Int → Int → Int} {g : Int → Int → Bool} {F : Int64 → Int64 → Int64} {pc : Nat} {ls : ML} {st : List MV} {h : MH}
    (hF : ∀ x y : Int64, (F x y).toInt = f x.toInt y.toInt)
    (row : ∀ (H : Heap) (locs : List Loc) (cells slots : Nat) (lsR : Array Slot) (rest : List Value) (x y : Int64), g x.toInt y.toInt = true → W p l e R s m args below meth c H locs cells slots Q (F0 m (pc + 1) lsR (.long (F x y) :: rest)) → W p l e R s m args below meth c H locs cells slots Q (F0 m pc lsR (.long y :: .long x :: rest)))
    (hok : m_ok (m_ll f g pc ls st h).2.2.2 = true) (k : Go p l e R s m args below meth c Q w0 D A sA b nL zc zs (m_ll f g pc ls st h)) : Go p l e R s m args below meth c Q w0 D A sA b nL zc zs (pc, ls, st, h) := by
  intro H locs cells slots ws tys lsR stR hW hS hc hs hL hSt
  unfold m_ll at hok k
  split at hok
  · rename_i y x r
    obtain ⟨v, r1, rfl, hv, h1⟩ := RS.cons hSt
    obtain ⟨v2, r2, rfl, hv2, h2⟩ := RS.cons h1
    obtain ⟨ny, rfl, rfl⟩ := hv.lng
    obtain ⟨nx, rfl, rfl⟩ := hv2.lng
    refine row _ _ _ _ _ _ _ _ (m_chk_ok hok).1 ?_
    exact k H locs cells slots ws tys lsR _ hW hS hc hs hL ⟨⟨F nx ny, rfl, hF nx ny⟩, h2⟩
  · exact (m_no_ok hok).elim
/-- a value comes upon the stack, nothing else -/
theorem go_push {pc k2 : Nat} {ls : ML} {st : List MV} {h : MH} {x : MV} {v : Value} {t : Bool} (hv : ∀ ws : va_W, RV ws sA b x v)
    (row : ∀ (H : Heap) (locs : List Loc) (cells slots : Nat) (lsR : Array Slot) (rest : List Value), W p l e R s m args below meth c H locs cells slots Q (F0 m (pc + k2) lsR (v :: rest)) → W p l e R s m args below meth c H locs cells slots Q (F0 m pc lsR rest))
    (k : Go p l e R s m args below meth c Q w0 D A sA b nL zc zs (m_nx pc k2 ls (x :: st) (m_chk t h))) : Go p l e R s m args below meth c Q w0 D A sA b nL zc zs (pc, ls, st, h) := by
  intro H locs cells slots ws tys lsR stR hW hS hc hs hL hSt
  refine row _ _ _ _ _ _ ?_
  exact k H locs cells slots ws tys lsR _ hW hS hc hs hL ⟨hv ws, hSt⟩
theorem go_ld {ty len i pc : Nat} {ls : ML} {st : List MV} {h : MH}
    (row : ∀ (H : Heap) (locs : List Loc) (cells slots : Nat) (lsR : Array Slot) (rest : List Value) (v : Value) (x : MV), lsR[i]? = some (.val v) → (match x with | .inl _ => ty = 0 | .inr (.inl _) => ty = 1 | .inr (.inr _) => ty = 2) → (∃ ws : va_W, RV ws sA b x v) → W p l e R s m args below meth c H locs cells slots Q (F0 m (pc + len) lsR (v :: rest)) → W p l e R s m args below meth c H locs cells slots Q (F0 m pc lsR rest))
    (hok : m_ok (m_ld ty len i pc ls st h).2.2.2 = true) (k : Go p l e R s m args below meth c Q w0 D A sA b nL zc zs (m_ld ty len i pc ls st h)) : Go p l e R s m args below meth c Q w0 D A sA b nL zc zs (pc, ls, st, h) := by
  intro H locs cells slots ws tys lsR stR hW hS hc hs hL hSt
  unfold m_ld at hok k
  split at hok
  · rename_i v0 hv0
    obtain ⟨v, h1, h2⟩ := hL.at hv0
    rw [hv0] at k
    split at hok
    · exact row _ _ _ _ _ _ v _ h1 rfl ⟨ws, h2⟩ (k H locs cells slots ws tys lsR _ hW hS hc hs hL ⟨h2, hSt⟩)
    · exact row _ _ _ _ _ _ v _ h1 rfl ⟨ws, h2⟩ (k H locs cells slots ws tys lsR _ hW hS hc hs hL ⟨h2, hSt⟩)
    · exact row _ _ _ _ _ _ v _ h1 rfl ⟨ws, h2⟩ (k H locs cells slots ws tys lsR _ hW hS hc hs hL ⟨h2, hSt⟩)
    · exact (m_no_ok hok).elim
  · exact (m_no_ok hok).elim
end GoS
