def m_args : Nat → List MV → List MV → Option (List MV × List MV)
  | 0, acc, st => some (acc, st)
  | _ + 1, _, [] => none
  | k + 1, acc, v :: st => m_args k (v :: acc) st
def m_entA : List MV → ML
  | [] => []
  | v :: r => match v with
    | .inr (.inl _) => some v :: none :: m_entA r
    | _ => some v :: m_entA r
def m_ent (n : Nat) (as : List MV) : ML := m_entA as ++ List.replicate (n - (m_entA as).length) none
def m_at (pc : Nat) (off : Int) : Nat := ((pc : Int) + off).toNat
def m_swi (k : Nat → MR) (pc : Nat) (x : Int) (dflt : Int) : Int → List Int → MR
  | _, [] => k (m_at pc dflt)
  | lo, o :: r => if x = lo then k (m_at pc o) else m_swi k pc x dflt (lo + 1) r
def m_lsw (k : Nat → MR) (pc : Nat) (x : Int) (dflt : Int) : List (Int × Int) → MR
  | [] => k (m_at pc dflt)
  | o :: r => if x = o.1 then k (m_at pc o.2) else m_lsw k pc x dflt r
def m_sum : List MV → Nat
  | [] => 0
  | .inr (.inl _) :: r => 2 + m_sum r
  | _ :: r => 1 + m_sum r
/-- what the machine itself gives: Object's making, the copy of rows, a text's length and letters -/
def m_nat (k : Nat) (d : Nat) (st : List MV) (h : MH) : List MV × MH := match k with
  | 1000 => match st with
    | .inr (.inr a) :: r => (r, m_chk (Nat.ble 1 d && Nat.ble (m_sum r) 8 && !decide (a = -1)) h)
    | _ => (st, m_bad h)
  | 1001 => match st with
    | .inl n :: .inl j :: .inr (.inr b) :: .inl i :: .inr (.inr a) :: r => (r, m_chk (Nat.ble 1 d && Nat.ble (m_sum r) 8 && (m_is h a 1 && (m_is h b 1 && (decide (0 ≤ i) && (decide (0 ≤ j) && (decide (0 ≤ n) && (decide (i + n ≤ m_ln h a) && decide (j + n ≤ m_ln h b)))))))) (m_cpy h a i b j n))
    | _ => (st, m_bad h)
  | 1002 => match st with
    | .inr (.inr a) :: r => (.inl ((m_str (-10 - a).toNat).length : Int) :: r, m_chk (Nat.ble 6 d && Nat.ble (m_sum r) 8 && (decide (a ≤ -10) && decide (-10 - (m_nS : Int) < a))) h)
    | _ => (st, m_bad h)
  | 1003 => match st with
    | .inl i :: .inr (.inr a) :: r => (.inl ((m_str (-10 - a).toNat).getD i.toNat 0) :: r, m_chk (Nat.ble 6 d && Nat.ble (m_sum r) 8 && (decide (a ≤ -10) && (decide (-10 - (m_nS : Int) < a) && (decide (0 ≤ i) && decide (i < ((m_str (-10 - a).toNat).length : Int)))))) h)
    | _ => (st, m_bad h)
  | 1004 => match st with
    | .inl y :: .inl x :: r => (.inl (if x < y then y else x) :: r, m_chk (Nat.ble 1 d && Nat.ble (m_sum r) 8) h)
    | _ => (st, m_bad h)
  | 1005 => match st with
    | .inl y :: .inl x :: r => (.inl (if y < x then y else x) :: r, m_chk (Nat.ble 1 d && Nat.ble (m_sum r) 8) h)
    | _ => (st, m_bad h)
  | _ => (st, m_bad h)
/-- the receiver is an object of the method's class -/
def m_rcv (own : Nat) (as : List MV) (h : MH) : Bool := match as with
  | .inr (.inr a) :: _ => m_is h a (100 + own)
  | _ => false
def m_run (xs : Int → Int) (L : Int) : Nat → Nat → MI → Nat → ML → List MV → MH → MR
  | 0, _, _, _, _, _, h => (none, m_bad h)
  | n + 1, d, q, pc, ls, st, h => match m_lk q.2.2.2.2.2 pc with
    | none => (none, m_bad h)
    | some op => match op with
      | .return_ => (none, m_chk (Nat.beq q.2.1 0 && st.isEmpty) h)
      | .ireturn => match st with
        | [.inl x] => (some (.inl x), m_chk (Nat.beq q.2.1 1 || (Nat.beq q.2.1 4 && (decide (x = 0) || decide (x = 1)))) h)
        | _ => (none, m_bad h)
      | .lreturn => match st with
        | [.inr (.inl x)] => (some (.inr (.inl x)), m_chk (Nat.beq q.2.1 2) h)
        | _ => (none, m_bad h)
      | .areturn => match st with
        | [.inr (.inr x)] => (some (.inr (.inr x)), m_chk (Nat.beq q.2.1 3) h)
        | _ => (none, m_bad h)
      | .goto off => m_run xs L n d q (m_at pc off) ls st (m_chk (decide (0 ≤ (pc : Int) + off)) h)
      | .ifCond c off => match st with
        | .inl x :: r => if m_if c x 0 = true then m_run xs L n d q (m_at pc off) ls r (m_chk (decide (0 ≤ (pc : Int) + off)) h) else m_run xs L n d q (pc + 3) ls r (m_chk (decide (0 ≤ (pc : Int) + off)) h)
        | _ => (none, m_bad h)
      | .if_icmp c off => match st with
        | .inl y :: .inl x :: r => if m_if c x y = true then m_run xs L n d q (m_at pc off) ls r (m_chk (decide (0 ≤ (pc : Int) + off)) h) else m_run xs L n d q (pc + 3) ls r (m_chk (decide (0 ≤ (pc : Int) + off)) h)
        | _ => (none, m_bad h)
      | .ifnonnull off => match st with
        | .inr (.inr a) :: r => if a = -1 then m_run xs L n d q (pc + 3) ls r (m_chk (decide (0 ≤ (pc : Int) + off)) h) else m_run xs L n d q (m_at pc off) ls r (m_chk (decide (0 ≤ (pc : Int) + off)) h)
        | _ => (none, m_bad h)
      | .tableswitch dflt lo hi offs => match st with
        | .inl x :: r => m_swi (fun pc2 => m_run xs L n d q pc2 ls r (m_chk (offs.toList.all (fun o => decide (0 ≤ (pc : Int) + o)) && (decide (0 ≤ (pc : Int) + dflt) && decide ((offs.toList.length : Int) = hi - lo + 1))) h)) pc x dflt lo offs.toList
        | _ => (none, m_bad h)
      | .lookupswitch dflt ps => match st with
        | .inl x :: r => m_lsw (fun pc2 => m_run xs L n d q pc2 ls r (m_chk (ps.toList.all (fun o => decide (0 ≤ (pc : Int) + o.2)) && (decide (0 ≤ (pc : Int) + dflt) && (ps.toList.zip (ps.toList.drop 1)).all (fun (a, next) => a.1 < next.1))) h)) pc x dflt ps.toList
        | _ => (none, m_bad h)
      | .invokevirtual i => match m_l (m_M q.1).1 i with
        | some k => match m_mi k, d with
          | some q2, d2 + 1 => match m_args q2.2.2.1 [] st with
            | some (as, r) => m_run xs L n d q (pc + 3) ls ((m_run xs L n d2 q2 0 (m_ent q2.2.2.2.1 as) [] h).1.toList ++ r) (m_chk (Nat.ble (m_sum r) 8 && Nat.ble (m_entA as).length q2.2.2.2.1 && m_rcv q2.1 as h) (m_run xs L n d2 q2 0 (m_ent q2.2.2.2.1 as) [] h).2)
            | none => (none, m_bad h)
          | _, _ => m_run xs L n d q (pc + 3) ls (m_nat k d st h).1 (m_nat k d st h).2
        | none => (none, m_bad h)
      | .invokestatic i => match m_l (m_M q.1).2.1 i with
        | some k => match m_mi k, d with
          | some q2, d2 + 1 => match m_args q2.2.2.1 [] st with
            | some (as, r) => m_run xs L n d q (pc + 3) ls ((m_run xs L n d2 q2 0 (m_ent q2.2.2.2.1 as) [] h).1.toList ++ r) (m_chk (Nat.ble (m_sum r) 8 && Nat.ble (m_entA as).length q2.2.2.2.1) (m_run xs L n d2 q2 0 (m_ent q2.2.2.2.1 as) [] h).2)
            | none => (none, m_bad h)
          | _, _ => m_run xs L n d q (pc + 3) ls (m_nat k d st h).1 (m_nat k d st h).2
        | none => (none, m_bad h)
      | .invokespecial i => match m_l (m_M q.1).2.2 i with
        | some k => match m_mi k, d with
          | some q2, d2 + 1 => match m_args q2.2.2.1 [] st with
            | some (as, r) => m_run xs L n d q (pc + 3) ls ((m_run xs L n d2 q2 0 (m_ent q2.2.2.2.1 as) [] h).1.toList ++ r) (m_chk (Nat.ble (m_sum r) 8 && Nat.ble (m_entA as).length q2.2.2.2.1 && m_rcv q2.1 as h) (m_run xs L n d2 q2 0 (m_ent q2.2.2.2.1 as) [] h).2)
            | none => (none, m_bad h)
          | _, _ => m_run xs L n d q (pc + 3) ls (m_nat k d st h).1 (m_nat k d st h).2
        | none => (none, m_bad h)
      | op => m_run xs L n d q (m_ex (m_P q.1) m_ft q xs L op pc ls st h).1 (m_ex (m_P q.1) m_ft q xs L op pc ls st h).2.1 (m_ex (m_P q.1) m_ft q xs L op pc ls st h).2.2.1 (m_ex (m_P q.1) m_ft q xs L op pc ls st h).2.2.2
