/-! THE SMALL MACHINE: ints, longs and references as numbers, cells by their places; what can't be is marked by the flag, never thrown -/
abbrev MV : Type := Int ⊕ (Int ⊕ Int)
abbrev MH : Type := (Nat × Nat × Bool) × ((Int → Int × Int) × (Int → Int → Int))
abbrev ML : Type := List (Option MV)
abbrev MR : Type := Option MV × MH
abbrev MF : Type := Nat × ML × List MV × MH
def m_w32 (x : Int) : Int := (x + 2147483648) % 4294967296 - 2147483648
def m_w64 (x : Int) : Int := (x + 9223372036854775808) % 18446744073709551616 - 9223372036854775808
def m_ok (h : MH) : Bool := h.1.2.2
def m_chk (b : Bool) (h : MH) : MH := ((h.1.1, h.1.2.1, b && h.1.2.2), h.2)
def m_rd (h : MH) (a i : Int) : Int := h.2.2 a i
def m_wr (h : MH) (a i v : Int) : MH := (h.1, (h.2.1, fun b j => if b = a ∧ j = i then v else h.2.2 b j))
def m_kd (h : MH) (a : Int) : Int := (h.2.1 a).1
def m_ln (h : MH) (a : Int) : Int := (h.2.1 a).2
def m_is (h : MH) (a k : Int) : Bool := decide (m_kd h a = k)
def m_in (h : MH) (a k i : Int) : Bool := decide (m_kd h a = k) && (decide (0 ≤ i) && decide (i < m_ln h a))
/-- a new cell: its kind, its length, its slots, what it holds at first -/
def m_al (h : MH) (k n : Int) (ns : Nat) (g : Int → Int) : MH := ((h.1.1 + 1, h.1.2.1 + ns, h.1.2.2), (fun b => if b = (h.1.1 : Int) then (k, n) else h.2.1 b), fun b j => if b = (h.1.1 : Int) then g j else h.2.2 b j)
def m_cpy (h : MH) (a i b j n : Int) : MH := (h.1, (h.2.1, fun c k => if c = b ∧ j ≤ k ∧ k < j + n then h.2.2 a (i + (k - j)) else h.2.2 c k))
def m_band (x y : Int) : Int := (Int32.ofInt x &&& Int32.ofInt y).toInt
def m_bor (x y : Int) : Int := (Int32.ofInt x ||| Int32.ofInt y).toInt
def m_bxor (x y : Int) : Int := (Int32.ofInt x ^^^ Int32.ofInt y).toInt
def m_shl (x y : Int) : Int := (Int32.ofInt x <<< (Int32.ofInt y &&& 31)).toInt
def m_shr (x y : Int) : Int := (Int32.ofInt x >>> (Int32.ofInt y &&& 31)).toInt
def m_ushr (x y : Int) : Int := ((Int32.ofInt x).toUInt32 >>> ((Int32.ofInt y).toUInt32 &&& Int32.toUInt32 31)).toInt32.toInt
def m_land (x y : Int) : Int := (Int64.ofInt x &&& Int64.ofInt y).toInt
def m_lor (x y : Int) : Int := (Int64.ofInt x ||| Int64.ofInt y).toInt
def m_lshl (x y : Int) : Int := (Int64.ofInt x <<< ((Int32.ofInt y).toInt64 &&& 63)).toInt
def m_i2b (x : Int) : Int := (Int32.ofInt x).toInt8.toInt32.toInt
def m_lcmp (x y : Int) : Int := if y < x then 1 else if x = y then 0 else -1
def m_gl : ML → Nat → Option MV
  | [], _ => none
  | a :: _, 0 => a
  | _ :: r, k + 1 => m_gl r k
def m_kill (ls : ML) (j : Nat) : ML := match m_gl ls j with
  | some (.inr (.inl _)) => ls.set j none
  | _ => ls
def m_st (ls : ML) (i : Nat) (v : MV) : ML := match i with
  | 0 => ls.set 0 (some v)
  | j + 1 => (m_kill ls j).set (j + 1) (some v)
def m_bad (h : MH) : MH := m_chk false h
/-- the places of a code: where an instruction stands, which, how long -/
abbrev MC : Type := List (Nat × Instr)
def m_lk : MC → Nat → Option Instr
  | [], _ => none
  | q :: r, pc => bif Nat.beq q.1 pc then some q.2 else m_lk r pc
def m_if : Jvm.ClassFile.Cond → Int → Int → Bool
  | .eq, x, y => decide (x = y)
  | .ne, x, y => !decide (x = y)
  | .lt, x, y => decide (x < y)
  | .ge, x, y => !decide (x < y)
  | .gt, x, y => decide (y < x)
  | .le, x, y => !decide (y < x)
def m_len : Instr → Nat
  | .bipush _ => 2
  | .iload _ => 2
  | .lload _ => 2
  | .aload _ => 2
  | .istore _ => 2
  | .lstore _ => 2
  | .astore _ => 2
  | .newarray _ => 2
  | .ldc _ => 2
  | .ldc_w _ => 3
  | .ldc2_w _ => 3
  | .sipush _ => 3
  | .iinc _ _ => 3
  | .getfield _ => 3
  | .putfield _ => 3
  | .invokevirtual _ => 3
  | .invokestatic _ => 3
  | .invokespecial _ => 3
  | .goto _ => 3
  | .ifCond _ _ => 3
  | .if_icmp _ _ => 3
  | .ifnonnull _ => 3
  | .new _ => 3
  | .anewarray _ => 3
  | .multianewarray _ _ => 4
  | .tableswitch _ _ _ _ => 0
  | .lookupswitch _ _ => 0
  | _ => 1
/-- the places of a code are what its bytes decode to -/
def m_val (cc : ByteArray) (C : List (Nat × Instr)) : Bool := C.all fun q => match decode cc q.1 with
  | .ok (o, n) => decide (o = q.2) && (decide (n = m_len o) || decide (m_len o = 0))
  | _ => false
