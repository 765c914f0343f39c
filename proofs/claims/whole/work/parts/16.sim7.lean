/-- what a constant's entry says: numbers -/
def k_ok (own : Nat) (q : Nat × MV) : Bool := match q.2 with
  | .inl v => t_in (.constant (Rn own) q.1 (Int32.ofInt v)) && decide ((Int32.ofInt v).toInt = v)
  | .inr (.inl v) => t_in (.constantLong (Rn own) q.1 (Int64.ofInt v)) && decide ((Int64.ofInt v).toInt = v)
  | .inr (.inr _) => true
theorem k_all : (List.range 15).all (fun own => (m_P own).2.1.all (k_ok own)) = true := by decide +kernel
theorem k_use (own : Nat) : (m_P own).2.1.all (k_ok own) = true := by
  by_cases h : own < 15
  · exact List.all_eq_true.mp k_all own (List.mem_range.mpr h)
  · match own, h with
    | n + 15, _ => rfl
    | 0, h | 1, h | 2, h | 3, h | 4, h | 5, h | 6, h | 7, h | 8, h | 9, h | 10, h | 11, h | 12, h | 13, h | 14, h => exact absurd (by decide) h
theorem m_bip {n : Int} (h1 : -128 ≤ n) (h2 : n ≤ 127) : (Int8.ofInt n).toInt32.toInt = n := by
  rw [Int8.toInt_toInt32, Int8.toInt_ofInt_of_le (by omega) (by omega)]
theorem m_sip {n : Int} (h1 : -32768 ≤ n) (h2 : n ≤ 32767) : (Int16.ofInt n).toInt32.toInt = n := by
  rw [Int16.toInt_toInt32, Int16.toInt_ofInt_of_le (by omega) (by omega)]
theorem m_lcmp_ok (x y : Int64) : (lg_cmp x y).toInt = m_lcmp x.toInt y.toInt := by
  unfold lg_cmp m_lcmp
  have e1 : (x > y) ↔ y.toInt < x.toInt := Int64.lt_iff_toInt_lt
  have e2 : x = y ↔ x.toInt = y.toInt := Int64.toInt_inj.symm
  by_cases h1 : x > y
  · rw [if_pos h1, if_pos (e1.mp h1)]; rfl
  · rw [if_neg h1, if_neg (fun z => h1 (e1.mpr z))]
    by_cases h2 : x = y
    · rw [if_pos h2, if_pos (e2.mp h2)]; rfl
    · rw [if_neg h2, if_neg (fun z => h2 (e2.mpr z))]; rfl
/-- the script, as the law's own array -/
def SX (b : Nat) (A : Nat → Prop) (xs : Int → Int) (L : Int) (s : State) : Prop := ∃ (n : Nat) (g : Nat → Int32), va_X b n g s s.heap ∧ b < s.heap.size ∧ ¬ A b ∧ L = n ∧ n < 100000 ∧ ∀ j : Nat, j < n → (g j).toInt = xs j
/-- a text of the pool: where it lies -/
def SK (sA : Nat → Nat) (args : Array Value) (s : State) : Prop := ∀ (own i j : Nat), m_l (m_P own).2.1 i = some (.inr (.inr (-10 - (j : Int)))) → j < 20 ∧ ∃ tx : String, vk_R (Rn own) i tx (sA j) s
theorem RV.ref {ws : va_W} {sA : Nat → Nat} {b : Nat} {a : Int} {v : Value} (h : RV ws sA b (.inr (.inr a)) v) : v = .null ∧ a = -1 ∨ ∃ q : Nat, v = .ref q ∧ a ≠ -1 := by
  rcases h with ⟨h1, h2⟩ | ⟨h1, h2⟩ | ⟨j, h0, h1, h2⟩ | ⟨k, q, e, h1, h2, h3⟩
  · exact Or.inl ⟨h2, h1⟩
  · exact Or.inr ⟨_, h2, by omega⟩
  · exact Or.inr ⟨_, h2, by omega⟩
  · exact Or.inr ⟨_, h3, by omega⟩
section GoL
variable {p : Program} {l : Launch} {e : Env} {R : Room} {s : State} {m : MethodId} {args : Array Value} {below : List Frame} {meth : Method} {c : Code} {Q : State → Prop} {cc : ByteArray} {w0 : va_W} {D : va_G} {A : Nat → Prop} {sA : Nat → Nat} {b nL zc zs : Nat} {q : MI}
theorem go_ax (C : Cx p s m args meth c cc A q) {len i pc : Nat} {ls : ML} {st : List MV} {h : MH}
    (row : ∀ (H : Heap) (locs : List Loc) (cells slots : Nat) (lsR : Array Slot) (rest : List Value) (x : Nat), lsR[i]? = some (.val (.ref x)) → W p l e R s m args below meth c H locs cells slots Q (F0 m (pc + len) lsR (.ref x :: rest)) → W p l e R s m args below meth c H locs cells slots Q (F0 m pc lsR rest))
    (rowN : ∀ (H : Heap) (locs : List Loc) (cells slots : Nat) (lsR : Array Slot) (rest : List Value), lsR[i]? = some (.val .null) → W p l e R s m args below meth c H locs cells slots Q (F0 m (pc + len) lsR (.null :: rest)) → W p l e R s m args below meth c H locs cells slots Q (F0 m pc lsR rest))
    (hok : m_ok (m_ld 2 len i pc ls st h).2.2.2 = true) (k : Go p l e R s m args below meth c Q w0 D A sA b nL zc zs (m_ld 2 len i pc ls st h)) : Go p l e R s m args below meth c Q w0 D A sA b nL zc zs (pc, ls, st, h) := by
  refine go_ld (fun H locs cells slots lsR rest v x hl hty hv kk => ?_) hok k
  rcases x with x | x | x
  · cases hty
  · cases hty
  · obtain ⟨ws, hv⟩ := hv
    rcases hv.ref with ⟨rfl, -⟩ | ⟨q9, rfl, -⟩
    · exact rowN _ _ _ _ _ _ hl kk
    · exact row _ _ _ _ _ _ _ hl kk
theorem go_ix {len i pc : Nat} {ls : ML} {st : List MV} {h : MH}
    (row : ∀ (H : Heap) (locs : List Loc) (cells slots : Nat) (lsR : Array Slot) (rest : List Value) (x : Int32), lsR[i]? = some (.val (.int x)) → W p l e R s m args below meth c H locs cells slots Q (F0 m (pc + len) lsR (.int x :: rest)) → W p l e R s m args below meth c H locs cells slots Q (F0 m pc lsR rest))
    (hok : m_ok (m_ld 0 len i pc ls st h).2.2.2 = true) (k : Go p l e R s m args below meth c Q w0 D A sA b nL zc zs (m_ld 0 len i pc ls st h)) : Go p l e R s m args below meth c Q w0 D A sA b nL zc zs (pc, ls, st, h) := by
  refine go_ld (fun H locs cells slots lsR rest v x hl hty hv kk => ?_) hok k
  rcases x with x | x | x
  · obtain ⟨ws, n, rfl, -⟩ := hv
    exact row _ _ _ _ _ _ _ hl kk
  · cases hty
  · cases hty
theorem go_lx {len i pc : Nat} {ls : ML} {st : List MV} {h : MH}
    (row : ∀ (H : Heap) (locs : List Loc) (cells slots : Nat) (lsR : Array Slot) (rest : List Value) (x : Int64), lsR[i]? = some (.val (.long x)) → W p l e R s m args below meth c H locs cells slots Q (F0 m (pc + len) lsR (.long x :: rest)) → W p l e R s m args below meth c H locs cells slots Q (F0 m pc lsR rest))
    (hok : m_ok (m_ld 1 len i pc ls st h).2.2.2 = true) (k : Go p l e R s m args below meth c Q w0 D A sA b nL zc zs (m_ld 1 len i pc ls st h)) : Go p l e R s m args below meth c Q w0 D A sA b nL zc zs (pc, ls, st, h) := by
  refine go_ld (fun H locs cells slots lsR rest v x hl hty hv kk => ?_) hok k
  rcases x with x | x | x
  · cases hty
  · obtain ⟨ws, n, rfl, -⟩ := hv
    exact row _ _ _ _ _ _ _ hl kk
  · cases hty
theorem go_is {len i pc : Nat} {ls : ML} {st : List MV} {h : MH}
    (row : ∀ (H : Heap) (locs : List Loc) (cells slots : Nat) (lsR : Array Slot) (rest : List Value) (x : Int32) (lv : List (Nat × Value)), lv_has lsR nL lv → i < nL → (∀ lsR' : Array Slot, lv_has lsR' nL ((i, .int x) :: lv.filter (fun q => !(q.1 == i) && !(q.1 + 1 == i && q.2.category == 2))) → W p l e R s m args below meth c H locs cells slots Q (F0 m (pc + len) lsR' rest)) → W p l e R s m args below meth c H locs cells slots Q (F0 m pc lsR (.int x :: rest)))
    (hok : m_ok (m_sto 0 len i pc ls st h).2.2.2 = true) (k : Go p l e R s m args below meth c Q w0 D A sA b nL zc zs (m_sto 0 len i pc ls st h)) : Go p l e R s m args below meth c Q w0 D A sA b nL zc zs (pc, ls, st, h) := by
  refine go_sto1 (by decide) (fun H locs cells slots lsR rest v x lv hl hi hty hv kk => ?_) hok k
  rcases x with x | x | x
  · obtain ⟨ws, n, rfl, -⟩ := hv
    exact row _ _ _ _ _ _ _ lv hl hi kk
  · cases hty
  · cases hty
theorem go_as {len i pc : Nat} {ls : ML} {st : List MV} {h : MH}
    (row : ∀ (H : Heap) (locs : List Loc) (cells slots : Nat) (lsR : Array Slot) (rest : List Value) (x : Nat) (lv : List (Nat × Value)), lv_has lsR nL lv → i < nL → (∀ lsR' : Array Slot, lv_has lsR' nL ((i, .ref x) :: lv.filter (fun q => !(q.1 == i) && !(q.1 + 1 == i && q.2.category == 2))) → W p l e R s m args below meth c H locs cells slots Q (F0 m (pc + len) lsR' rest)) → W p l e R s m args below meth c H locs cells slots Q (F0 m pc lsR (.ref x :: rest)))
    (rowN : ∀ (H : Heap) (locs : List Loc) (cells slots : Nat) (lsR : Array Slot) (rest : List Value) (lv : List (Nat × Value)), lv_has lsR nL lv → i < nL → (∀ lsR' : Array Slot, lv_has lsR' nL ((i, .null) :: lv.filter (fun q => !(q.1 == i) && !(q.1 + 1 == i && q.2.category == 2))) → W p l e R s m args below meth c H locs cells slots Q (F0 m (pc + len) lsR' rest)) → W p l e R s m args below meth c H locs cells slots Q (F0 m pc lsR (.null :: rest)))
    (hok : m_ok (m_sto 2 len i pc ls st h).2.2.2 = true) (k : Go p l e R s m args below meth c Q w0 D A sA b nL zc zs (m_sto 2 len i pc ls st h)) : Go p l e R s m args below meth c Q w0 D A sA b nL zc zs (pc, ls, st, h) := by
  refine go_sto1 (by decide) (fun H locs cells slots lsR rest v x lv hl hi hty hv kk => ?_) hok k
  rcases x with x | x | x
  · cases hty
  · cases hty
  · obtain ⟨ws, hv⟩ := hv
    rcases hv.ref with ⟨rfl, -⟩ | ⟨q9, rfl, -⟩
    · exact rowN _ _ _ _ _ _ lv hl hi kk
    · exact row _ _ _ _ _ _ _ lv hl hi kk
theorem go_iinc (C : Cx p s m args meth c cc A q) {i pc : Nat} {n : Int} {ls : ML} {st : List MV} {h : MH} {x : Int} (hdg : decode cc pc = .ok (.iinc i n, 3)) (hg : m_gl ls i = some (.inl x)) (hi : i < ls.length)
    (k : Go p l e R s m args below meth c Q w0 D A sA b nL zc zs (m_nx pc 3 (m_st ls i (.inl (m_w32 (x + n)))) st h)) : Go p l e R s m args below meth c Q w0 D A sA b nL zc zs (pc, ls, st, h) := by
  intro H locs cells slots ws tys lsR stR hW hS hc hs hL hSt
  dsimp only at hW hc hs hL hSt
  obtain ⟨hl0, lv, hl1, hl2⟩ := hL
  obtain ⟨v, g1, g2⟩ := hl2 i _ hg
  obtain ⟨nx, rfl, rfl⟩ := g2
  obtain ⟨kk, hkk⟩ := List.getElem?_of_mem g1
  obtain ⟨hx, hb, -⟩ := C
  refine lv_iinc (k := kk) hx hb hdg hl1 hkk rfl (by omega) rfl (fun lsR' h' => ?_)
  refine k H locs cells slots ws tys lsR' _ hW hS hc hs ⟨(m_st_len _ _ _).trans hl0, _, h', RLo.st1 hl2 ⟨_, rfl, ?_⟩⟩ hSt
  rw [m_add32, Int32.toInt_ofInt, m_w32_b, m_w32_b]
  exact Int.add_bmod_bmod
theorem go_sld (C : Cx p s m args meth c cc A q) {pc : Nat} {ls : ML} {r : List MV} {h : MH} {i : Int} {xs : Int → Int} {L : Int} (hX : SX b A xs L s) (hdg : decode cc pc = .ok (.iaload, 1)) (h0 : 0 ≤ i) (h1 : i < L)
    (k : Go p l e R s m args below meth c Q w0 D A sA b nL zc zs (m_nx pc 1 ls (.inl (xs i) :: r) h)) : Go p l e R s m args below meth c Q w0 D A sA b nL zc zs (pc, ls, .inl i :: .inr (.inr (-2)) :: r, h) := by
  intro H locs cells slots ws tys lsR stR hW hS hc hs hL hSt
  dsimp only at hW hc hs hL hSt
  obtain ⟨v, r1, rfl, hv, h1'⟩ := RS.cons hSt
  obtain ⟨v2, r2, rfl, hv2, h2⟩ := RS.cons h1'
  obtain ⟨ni, rfl, rfl⟩ := hv.int
  have hv2 : v2 = .ref b := by
    rcases hv2 with ⟨z, -⟩ | ⟨-, z⟩ | ⟨j, -, z, -⟩ | ⟨k, q, e, z, -, -⟩
    · omega
    · exact z
    · omega
    · omega
  subst hv2
  obtain ⟨n, g, x1, x2, x3, rfl, x4, x5⟩ := hX
  obtain ⟨j1, j2, j3⟩ := m_idx (n := (n : Int)) h0 h1
  obtain ⟨hx, hb, -⟩ := C
  rw [Int.toNat_natCast] at j1 j3
  refine va_sld hx hb x1 x2 x3 hS j1 hdg (k H locs cells slots ws tys lsR _ hW hS hc hs hL ⟨⟨_, rfl, ?_⟩, h2⟩)
  rw [x5 _ j3, j2]
theorem go_slen (C : Cx p s m args meth c cc A q) {pc : Nat} {ls : ML} {r : List MV} {h : MH} {xs : Int → Int} {L : Int} (hX : SX b A xs L s) (hdg : decode cc pc = .ok (.arraylength, 1))
    (k : Go p l e R s m args below meth c Q w0 D A sA b nL zc zs (m_nx pc 1 ls (.inl L :: r) h)) : Go p l e R s m args below meth c Q w0 D A sA b nL zc zs (pc, ls, .inr (.inr (-2)) :: r, h) := by
  intro H locs cells slots ws tys lsR stR hW hS hc hs hL hSt
  dsimp only at hW hc hs hL hSt
  obtain ⟨v2, r2, rfl, hv2, h2⟩ := RS.cons hSt
  have hv2 : v2 = .ref b := by
    rcases hv2 with ⟨z, -⟩ | ⟨-, z⟩ | ⟨j, -, z, -⟩ | ⟨k, q, e, z, -, -⟩
    · omega
    · exact z
    · omega
    · omega
  subst hv2
  obtain ⟨n, g, x1, x2, x3, rfl, x4, x5⟩ := hX
  obtain ⟨hx, hb, -⟩ := C
  exact va_slen hx hb x1 x2 x3 hS hdg (k H locs cells slots ws tys lsR _ hW hS hc hs hL ⟨⟨nI n, rfl, nI_toInt (by omega)⟩, h2⟩)
end GoL
