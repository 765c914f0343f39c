/-! THE SMALL MACHINE'S STEPS -/
def m_l {α : Type} : List (Nat × α) → Nat → Option α
  | [], _ => none
  | q :: r, k => bif Nat.beq q.1 k then some q.2 else m_l r k
def m_mk (ty : Nat) (x : Int) : MV := match ty with
  | 0 => .inl x
  | 1 => .inr (.inl x)
  | _ => .inr (.inr x)
def m_nx (pc k : Nat) (ls : ML) (st : List MV) (h : MH) : MF := (pc + k, ls, st, h)
def m_no (pc : Nat) (ls : ML) (st : List MV) (h : MH) : MF := (pc, ls, st, m_bad h)
def m_ld (ty : Nat) (len i pc : Nat) (ls : ML) (st : List MV) (h : MH) : MF := match m_gl ls i with
  | some v => match v, ty with
    | .inl x, 0 => m_nx pc len ls (.inl x :: st) h
    | .inr (.inl x), 1 => m_nx pc len ls (.inr (.inl x) :: st) h
    | .inr (.inr x), 2 => m_nx pc len ls (.inr (.inr x) :: st) h
    | _, _ => m_no pc ls st h
  | none => m_no pc ls st h
def m_sto (ty : Nat) (len i pc : Nat) (ls : ML) (st : List MV) (h : MH) : MF := match st with
  | v :: r => match v, ty with
    | .inl x, 0 => m_nx pc len (m_st ls i (.inl x)) r (m_chk (Nat.blt i ls.length) h)
    | .inr (.inl x), 1 => m_nx pc len ((m_st ls i (.inr (.inl x))).set (i + 1) none) r (m_chk (Nat.blt (i + 1) ls.length) h)
    | .inr (.inr x), 2 => m_nx pc len (m_st ls i (.inr (.inr x))) r (m_chk (Nat.blt i ls.length) h)
    | _, _ => m_no pc ls st h
  | [] => m_no pc ls st h
def m_ii (f : Int → Int → Int) (g : Int → Int → Bool) (pc : Nat) (ls : ML) (st : List MV) (h : MH) : MF := match st with
  | .inl y :: .inl x :: r => m_nx pc 1 ls (.inl (f x y) :: r) (m_chk (g x y) h)
  | _ => m_no pc ls st h
def m_ll (f : Int → Int → Int) (g : Int → Int → Bool) (pc : Nat) (ls : ML) (st : List MV) (h : MH) : MF := match st with
  | .inr (.inl y) :: .inr (.inl x) :: r => m_nx pc 1 ls (.inr (.inl (f x y)) :: r) (m_chk (g x y) h)
  | _ => m_no pc ls st h
def m_tt : Int → Int → Bool := fun _ _ => true
def m_nz : Int → Int → Bool := fun _ y => !decide (y = 0)
def m_kof : ArrayType → Int
  | .int => 1
  | .long => 2
  | .byte => 3
  | .boolean => 4
  | _ => 0
def m_sm (n : Int) : Bool := decide (0 ≤ n) && decide (n ≤ 100000)
/-- a new row of rows of ints -/
def m_al2 (h : MH) (n k : Int) : MH := ((h.1.1 + 1 + n.toNat, h.1.2.1 + n.toNat + n.toNat * k.toNat, h.1.2.2), (fun b => if b = (h.1.1 : Int) then (8, n) else if (h.1.1 : Int) < b ∧ b ≤ (h.1.1 : Int) + n then (1, k) else h.2.1 b), fun b j => if b = (h.1.1 : Int) then (h.1.1 : Int) + 1 + j else if (h.1.1 : Int) < b ∧ b ≤ (h.1.1 : Int) + n then 0 else h.2.2 b j)
/-- what a class's pool says: fields (class, slot, type, final), constants, kinds of what is made -/
abbrev MP : Type := List (Nat × Nat × Nat × Nat × Bool) × List (Nat × MV) × List (Nat × Nat)
/-- a method: its class, what it answers (0 nothing, 1 int, 2 long, 3 a reference, 4 a truth), how many it takes, its locals, whether it makes an object, its code -/
abbrev MI : Type := Nat × Nat × Nat × Nat × Bool × MC
/-- one instruction that neither branches nor calls nor returns -/
def m_ex (P : MP) (ft : Nat → List Nat) (q : MI) (xs : Int → Int) (L : Int) (op : Instr) (pc : Nat) (ls : ML) (st : List MV) (h : MH) : MF := match op with
  | .iconst n => m_nx pc 1 ls (.inl n :: st) (m_chk (decide (-1 ≤ n) && decide (n ≤ 5)) h)
  | .bipush n => m_nx pc 2 ls (.inl n :: st) (m_chk (decide (-128 ≤ n) && decide (n ≤ 127)) h)
  | .sipush n => m_nx pc 3 ls (.inl n :: st) (m_chk (decide (-32768 ≤ n) && decide (n ≤ 32767)) h)
  | .lconst n => m_nx pc 1 ls (.inr (.inl ((n : Nat) : Int)) :: st) h
  | .aconst_null => m_nx pc 1 ls (.inr (.inr (-1)) :: st) h
  | .iload_n k => m_ld 0 1 k pc ls st h
  | .iload i => m_ld 0 2 i pc ls st h
  | .lload_n k => m_ld 1 1 k pc ls st h
  | .lload i => m_ld 1 2 i pc ls st h
  | .aload_n k => m_ld 2 1 k pc ls st h
  | .aload i => m_ld 2 2 i pc ls st h
  | .istore_n k => m_sto 0 1 k pc ls st h
  | .istore i => m_sto 0 2 i pc ls st h
  | .lstore_n k => m_sto 1 1 k pc ls st h
  | .lstore i => m_sto 1 2 i pc ls st h
  | .astore_n k => m_sto 2 1 k pc ls st h
  | .astore i => m_sto 2 2 i pc ls st h
  | .iinc i n => match m_gl ls i with
    | some (.inl x) => m_nx pc 3 (m_st ls i (.inl (m_w32 (x + n)))) st (m_chk (Nat.blt i ls.length) h)
    | _ => m_no pc ls st h
  | .iadd => m_ii (fun x y => m_w32 (x + y)) m_tt pc ls st h
  | .isub => m_ii (fun x y => m_w32 (x - y)) m_tt pc ls st h
  | .imul => m_ii (fun x y => m_w32 (x * y)) m_tt pc ls st h
  | .idiv => m_ii (fun x y => m_w32 (x.tdiv y)) m_nz pc ls st h
  | .irem => m_ii (fun x y => x.tmod y) m_nz pc ls st h
  | .iand => m_ii m_band m_tt pc ls st h
  | .ior => m_ii m_bor m_tt pc ls st h
  | .ixor => m_ii m_bxor m_tt pc ls st h
  | .ishl => m_ii m_shl m_tt pc ls st h
  | .ishr => m_ii m_shr m_tt pc ls st h
  | .iushr => m_ii m_ushr m_tt pc ls st h
  | .ladd => m_ll (fun x y => m_w64 (x + y)) m_tt pc ls st h
  | .lsub => m_ll (fun x y => m_w64 (x - y)) m_tt pc ls st h
  | .lmul => m_ll (fun x y => m_w64 (x * y)) m_tt pc ls st h
  | .ldiv => m_ll (fun x y => m_w64 (x.tdiv y)) m_nz pc ls st h
  | .lrem => m_ll (fun x y => x.tmod y) m_nz pc ls st h
  | .land => m_ll m_land m_tt pc ls st h
  | .lor => m_ll m_lor m_tt pc ls st h
  | .lshl => match st with
    | .inl y :: .inr (.inl x) :: r => m_nx pc 1 ls (.inr (.inl (m_lshl x y)) :: r) h
    | _ => m_no pc ls st h
  | .lcmp => match st with
    | .inr (.inl y) :: .inr (.inl x) :: r => m_nx pc 1 ls (.inl (m_lcmp x y) :: r) h
    | _ => m_no pc ls st h
  | .i2l => match st with
    | .inl x :: r => m_nx pc 1 ls (.inr (.inl x) :: r) h
    | _ => m_no pc ls st h
  | .l2i => match st with
    | .inr (.inl x) :: r => m_nx pc 1 ls (.inl (m_w32 x) :: r) h
    | _ => m_no pc ls st h
  | .i2b => match st with
    | .inl x :: r => m_nx pc 1 ls (.inl (m_i2b x) :: r) h
    | _ => m_no pc ls st h
  | .dup => match st with
    | .inl x :: r => m_nx pc 1 ls (.inl x :: .inl x :: r) h
    | .inr (.inr x) :: r => m_nx pc 1 ls (.inr (.inr x) :: .inr (.inr x) :: r) h
    | _ => m_no pc ls st h
  | .dup2 => match st with
    | .inl y :: .inr (.inr x) :: r => m_nx pc 1 ls (.inl y :: .inr (.inr x) :: .inl y :: .inr (.inr x) :: r) h
    | _ => m_no pc ls st h
  | .pop => match st with
    | .inl _ :: r => m_nx pc 1 ls r h
    | .inr (.inr _) :: r => m_nx pc 1 ls r h
    | _ => m_no pc ls st h
  | .getfield i => match st, m_l P.1 i with
    | .inr (.inr a) :: r, some (ci, k, ty, _) => m_nx pc 3 ls (m_mk ty (m_rd h a k) :: r) (m_chk (m_is h a (100 + ci)) h)
    | _, _ => m_no pc ls st h
  | .putfield i => match st, m_l P.1 i with
    | .inl x :: .inr (.inr a) :: r, some (ci, k, 0, fn) => m_nx pc 3 ls r (m_chk (m_is h a (100 + ci) && (!fn || (q.2.2.2.2.1 && Nat.beq q.1 ci))) (m_wr h a k x))
    | .inr (.inl x) :: .inr (.inr a) :: r, some (ci, k, 1, fn) => m_nx pc 3 ls r (m_chk (m_is h a (100 + ci) && (!fn || (q.2.2.2.2.1 && Nat.beq q.1 ci))) (m_wr h a k x))
    | .inr (.inr x) :: .inr (.inr a) :: r, some (ci, k, 2, fn) => m_nx pc 3 ls r (m_chk (m_is h a (100 + ci) && (!fn || (q.2.2.2.2.1 && Nat.beq q.1 ci))) (m_wr h a k x))
    | _, _ => m_no pc ls st h
  | .ldc i => match m_l P.2.1 i with
    | some (.inl x) => m_nx pc 2 ls (.inl x :: st) h
    | some (.inr (.inr a)) => m_nx pc 2 ls (.inr (.inr a) :: st) h
    | _ => m_no pc ls st h
  | .ldc_w i => match m_l P.2.1 i with
    | some (.inl x) => m_nx pc 3 ls (.inl x :: st) h
    | _ => m_no pc ls st h
  | .ldc2_w i => match m_l P.2.1 i with
    | some (.inr (.inl x)) => m_nx pc 3 ls (.inr (.inl x) :: st) h
    | _ => m_no pc ls st h
  | .arraylength => match st with
    | .inr (.inr a) :: r => if a = -2 then m_nx pc 1 ls (.inl L :: r) h else m_nx pc 1 ls (.inl (m_ln h a) :: r) (m_chk (decide (1 ≤ m_kd h a) && decide (m_kd h a ≤ 8)) h)
    | _ => m_no pc ls st h
  | .iaload => match st with
    | .inl i :: .inr (.inr a) :: r => if a = -2 then m_nx pc 1 ls (.inl (xs i) :: r) (m_chk (decide (0 ≤ i) && decide (i < L)) h) else m_nx pc 1 ls (.inl (m_rd h a i) :: r) (m_chk (m_in h a 1 i) h)
    | _ => m_no pc ls st h
  | .laload => match st with
    | .inl i :: .inr (.inr a) :: r => m_nx pc 1 ls (.inr (.inl (m_rd h a i)) :: r) (m_chk (m_in h a 2 i) h)
    | _ => m_no pc ls st h
  | .baload => match st with
    | .inl i :: .inr (.inr a) :: r => m_nx pc 1 ls (.inl (m_rd h a i) :: r) (m_chk (m_in h a 3 i || m_in h a 4 i) h)
    | _ => m_no pc ls st h
  | .aaload => match st with
    | .inl i :: .inr (.inr a) :: r => m_nx pc 1 ls (.inr (.inr (m_rd h a i)) :: r) (m_chk (m_in h a 5 i || m_in h a 6 i || m_in h a 7 i || m_in h a 8 i) h)
    | _ => m_no pc ls st h
  | .iastore => match st with
    | .inl x :: .inl i :: .inr (.inr a) :: r => m_nx pc 1 ls r (m_chk (m_in h a 1 i) (m_wr h a i x))
    | _ => m_no pc ls st h
  | .lastore => match st with
    | .inr (.inl x) :: .inl i :: .inr (.inr a) :: r => m_nx pc 1 ls r (m_chk (m_in h a 2 i) (m_wr h a i x))
    | _ => m_no pc ls st h
  | .bastore => match st with
    | .inl x :: .inl i :: .inr (.inr a) :: r => m_nx pc 1 ls r (m_chk (m_in h a 3 i || m_in h a 4 i) (m_wr h a i (if m_kd h a = 3 then m_i2b x else m_band x 1)))
    | _ => m_no pc ls st h
  | .aastore => match st with
    | .inr (.inr x) :: .inl i :: .inr (.inr a) :: r => m_nx pc 1 ls r (m_chk ((m_in h a 5 i && m_is h x 105) || (m_in h a 6 i && m_is h x 102) || (m_in h a 7 i && m_is h x 110)) (m_wr h a i x))
    | _ => m_no pc ls st h
  | .newarray t => match st with
    | .inl n :: r => m_nx pc 2 ls (.inr (.inr h.1.1) :: r) (m_chk (m_sm n && decide (1 ≤ m_kof t)) (m_al h (m_kof t) n n.toNat (fun _ => 0)))
    | _ => m_no pc ls st h
  | .anewarray i => match st, m_l P.2.2 (i + 1000) with
    | .inl n :: r, some k => m_nx pc 3 ls (.inr (.inr h.1.1) :: r) (m_chk (m_sm n && Nat.ble 5 k && Nat.ble k 7) (m_al h k n n.toNat (fun _ => -1)))
    | _, _ => m_no pc ls st h
  | .multianewarray i dm => match st, m_l P.2.2 i with
    | .inl k :: .inl n :: r, some 8 => m_nx pc 4 ls (.inr (.inr h.1.1) :: r) (m_chk (m_sm n && (m_sm k && (Nat.beq dm 2 && decide (n * k ≤ 100000)))) (m_al2 h n k))
    | _, _ => m_no pc ls st h
  | .new i => match m_l P.2.2 i with
    | some k => m_nx pc 3 ls (.inr (.inr h.1.1) :: st) (m_chk (Nat.ble 100 k) (m_al h k 0 (ft (k - 100)).length (fun j => bif Nat.beq ((ft (k - 100)).getD j.toNat 0) 2 then -1 else 0)))
    | none => m_no pc ls st h
  | _ => m_no pc ls st h
