/-! THE PURE MACHINE: ints are mathematical Ints (their Int32 is what the JVM holds), references are places in a list of cells. -/
abbrev pj_V : Type := Int ⊕ Nat
abbrev pj_C : Type := (Nat × Nat × (Nat → Int)) ⊕ (Nat × List pj_V)
/-- a place below 1000: a cell; 1000: unknown; 1001: null; 1002: the script -/
abbrev pj_X : Type := Nat × (Nat → Int)
def pj_up (f : Nat → Int) (k : Nat) (z : Int) : Nat → Int := fun j => if j = k then z else f j
abbrev pj_rg (x : Int) : Prop := -2147483648 ≤ x ∧ x ≤ 2147483647
/-- a value that may be moved about -/
def pj_ok : pj_V → Bool
  | .inl _ => true
  | .inr r => Nat.ble r 999 || Nat.beq r 1002
def pj_wv (n : Nat) : pj_V → Bool
  | .inl _ => true
  | .inr r => Nat.ble (r + 1) n || Nat.ble 1000 r
def pj_wc (n : Nat) : pj_C → Bool
  | .inl _ => true
  | .inr o => o.2.all (pj_wv n)
def pj_wfa (ls st : List pj_V) (h : List pj_C) : Bool := Nat.ble h.length 900 && (ls.all (pj_wv h.length) && (st.all (pj_wv h.length) && h.all (pj_wc h.length)))
abbrev pj_R : Type := Prop × Nat × List pj_V × List pj_V × List pj_C
/-- a number from 2000 on: a long (its number less 2000) -/
def pj_n2 : pj_V → Bool
  | .inl _ => true
  | .inr r => Nat.ble r 1999
def pj_nl (ls : List pj_V) : Nat → Bool
  | 0 => true
  | k + 1 => match pj_at ls k with
    | some (.inr r) => Nat.ble r 1999
    | _ => true
/-- the words of a stack, no fewer -/
def pj_wd : List pj_V → Nat
  | [] => 0
  | .inl _ :: t => pj_wd t + 1
  | .inr _ :: t => pj_wd t + 2
def pj_ldi (nx : Nat) (ls st : List pj_V) (h : List pj_C) (k : Nat) : Option pj_R := match pj_at ls k with
  | some (.inl z) => some (True, nx, ls, .inl z :: st, h)
  | _ => none
def pj_lda (nx : Nat) (ls st : List pj_V) (h : List pj_C) (k : Nat) : Option pj_R := match pj_at ls k with
  | some (.inr r) => bif pj_ok (.inr r) then some (True, nx, ls, .inr r :: st, h) else none
  | _ => none
def pj_sti (nx : Nat) (ls st : List pj_V) (h : List pj_C) (k : Nat) : Option pj_R := match st with
  | .inl z :: t => bif Nat.blt k ls.length && pj_nl ls k then some (True, nx, ls.set k (.inl z), t, h) else none
  | _ => none
def pj_sta (nx : Nat) (ls st : List pj_V) (h : List pj_C) (k : Nat) : Option pj_R := match st with
  | .inr r :: t => bif (pj_ok (.inr r) && Nat.blt k ls.length) && pj_nl ls k then some (True, nx, ls.set k (.inr r), t, h) else none
  | _ => none
def pj_b2 (nx : Nat) (ls st : List pj_V) (h : List pj_C) (P : Int → Int → Prop) (f : Int → Int → Int) : Option pj_R := match st with
  | .inl y :: .inl x :: t => some (P x y, nx, ls, .inl (f x y) :: t, h)
  | _ => none
def pj_and (x y : Int) : Int := (Int32.ofInt x &&& Int32.ofInt y).toInt
def pj_or (x y : Int) : Int := (Int32.ofInt x ||| Int32.ofInt y).toInt
def pj_xor (x y : Int) : Int := (Int32.ofInt x ^^^ Int32.ofInt y).toInt
def pj_shl (x y : Int) : Int := (Int32.ofInt x <<< (Int32.ofInt y &&& 31)).toInt
abbrev pj_dv (x y : Int) : Prop := (-2147483648 ≤ x ∧ x ≤ 2147483647) ∧ (-2147483648 ≤ y ∧ y ≤ 2147483647) ∧ y ≠ 0
def pj_ldl (nx : Nat) (ls st : List pj_V) (h : List pj_C) (k : Nat) : Option pj_R := match pj_at ls k with
  | some (.inr c) => some (2000 ≤ c, nx, ls, .inr c :: st, h)
  | _ => none
def pj_stl (nx : Nat) (ls st : List pj_V) (h : List pj_C) (k : Nat) : Option pj_R := match st with
  | .inr c :: t => bif Nat.blt (k + 1) ls.length && pj_nl ls k then some (2000 ≤ c, nx, (ls.set k (.inr c)).set (k + 1) (.inr 1000), t, h) else none
  | _ => none
def pj_shr (x y : Int) : Int := (Int32.ofInt x >>> (Int32.ofInt y &&& 31)).toInt
/-- one instruction that neither branches, calls nor returns: what it asks, the next pc, locals, stack, cells -/
def pj_s1 (X : pj_X) (al : Bool) (i : Instr) (nx a b c : Nat) (ls st : List pj_V) (h : List pj_C) : Option pj_R :=
  match i with
  | .iload k => pj_ldi nx ls st h k
  | .iload_n k => pj_ldi nx ls st h k.val
  | .aload k => pj_lda nx ls st h k
  | .aload_n k => pj_lda nx ls st h k.val
  | .istore k => pj_sti nx ls st h k
  | .istore_n k => pj_sti nx ls st h k.val
  | .astore k => pj_sta nx ls st h k
  | .astore_n k => pj_sta nx ls st h k.val
  | .iconst z => some (True, nx, ls, .inl z :: st, h)
  | .bipush z => some (True, nx, ls, .inl z :: st, h)
  | .sipush z => some (True, nx, ls, .inl z :: st, h)
  | .iinc k z => match pj_at ls k with
    | some (.inl x) => bif pj_nl ls k then some (True, nx, ls.set k (.inl (x + z)), st, h) else none
    | _ => none
  | .iadd => match st with
    | .inl y :: .inl x :: t => some (True, nx, ls, .inl (x + y) :: t, h)
    | _ => none
  | .isub => match st with
    | .inl y :: .inl x :: t => some (True, nx, ls, .inl (x - y) :: t, h)
    | _ => none
  | .imul => match st with
    | .inl y :: .inl x :: t => some (True, nx, ls, .inl (x * y) :: t, h)
    | _ => none
  | .idiv => match st with
    | .inl y :: .inl x :: t => some ((-2147483648 ≤ x ∧ x ≤ 2147483647) ∧ (-2147483648 ≤ y ∧ y ≤ 2147483647) ∧ y ≠ 0, nx, ls, .inl (x.tdiv y) :: t, h)
    | _ => none
  | .irem => match st with
    | .inl y :: .inl x :: t => some ((-2147483648 ≤ x ∧ x ≤ 2147483647) ∧ (-2147483648 ≤ y ∧ y ≤ 2147483647) ∧ y ≠ 0, nx, ls, .inl (x.tmod y) :: t, h)
    | _ => none
  | .iand => match st with
    | .inl y :: .inl x :: t => some (True, nx, ls, .inl (pj_and x y) :: t, h)
    | _ => none
  | .ior => match st with
    | .inl y :: .inl x :: t => some (True, nx, ls, .inl (pj_or x y) :: t, h)
    | _ => none
  | .ixor => match st with
    | .inl y :: .inl x :: t => some (True, nx, ls, .inl (pj_xor x y) :: t, h)
    | _ => none
  | .ishl => match st with
    | .inl y :: .inl x :: t => some (True, nx, ls, .inl (pj_shl x y) :: t, h)
    | _ => none
  | .ineg => match st with
    | .inl x :: t => some (True, nx, ls, .inl (-x) :: t, h)
    | _ => none
  | .dup => match st with
    | v :: t => bif pj_n2 v then some (True, nx, ls, v :: v :: t, h) else none
    | _ => none
  | .dup2 => match st with
    | v :: w :: t => bif pj_n2 v && pj_n2 w then some (True, nx, ls, v :: w :: v :: w :: t, h) else none
    | _ => none
  | .pop => match st with
    | v :: t => bif pj_n2 v then some (True, nx, ls, t, h) else none
    | _ => none
  | .goto _ => some (True, a, ls, st, h)
  | .getfield _ => match st with
    | .inr r :: t => match pj_at h r with
      | some (.inr (ci, fs)) => match pj_at fs b with
        | some v => bif Nat.beq ci a && pj_ok v then some (True, nx, ls, v :: t, h) else none
        | _ => none
      | _ => none
    | _ => none
  | .putfield _ => match st with
    | .inl z :: .inr r :: t => match pj_at h r with
      | some (.inr (ci, fs)) => bif Nat.beq ci a && (Nat.beq c 0 && Nat.blt b fs.length) then some (True, nx, ls, t, h.set r (.inr (ci, fs.set b (.inl z)))) else none
      | _ => none
    | .inr v :: .inr r :: t => match pj_at h r with
      | some (.inr (ci, fs)) => bif Nat.beq ci a && (Nat.beq c 1 && (Nat.blt b fs.length && pj_ok (.inr v))) then some (True, nx, ls, t, h.set r (.inr (ci, fs.set b (.inr v)))) else none
      | _ => none
    | _ => none
  | .iaload => match st with
    | .inl j :: .inr r :: t => bif Nat.beq r 1002 then some ((0 ≤ j ∧ j < (X.1 : Int)) ∧ j < 2147483648, nx, ls, .inl (X.2 j.toNat) :: t, h) else match pj_at h r with
      | some (.inl (0, len, f)) => some ((0 ≤ j ∧ j < (len : Int)) ∧ j < 2147483648, nx, ls, .inl (f j.toNat) :: t, h)
      | _ => none
    | _ => none
  | .baload => match st with
    | .inl j :: .inr r :: t => match pj_at h r with
      | some (.inl (1, len, f)) => some ((0 ≤ j ∧ j < (len : Int)) ∧ j < 2147483648, nx, ls, .inl (f j.toNat) :: t, h)
      | _ => none
    | _ => none
  | .iastore => match st with
    | .inl z :: .inl j :: .inr r :: t => match pj_at h r with
      | some (.inl (0, len, f)) => some ((0 ≤ j ∧ j < (len : Int)) ∧ j < 2147483648, nx, ls, t, h.set r (.inl (0, len, pj_up f j.toNat z)))
      | _ => none
    | _ => none
  | .bastore => match st with
    | .inl z :: .inl j :: .inr r :: t => match pj_at h r with
      | some (.inl (1, len, f)) => some (((0 ≤ j ∧ j < (len : Int)) ∧ j < 2147483648) ∧ (z = 0 ∨ z = 1), nx, ls, t, h.set r (.inl (1, len, pj_up f j.toNat z)))
      | _ => none
    | _ => none
  | .arraylength => match st with
    | .inr r :: t => bif Nat.beq r 1002 then some (True, nx, ls, .inl (X.1 : Int) :: t, h) else match pj_at h r with
      | some (.inl (k, len, _)) => bif Nat.beq k 0 || Nat.beq k 1 then some (True, nx, ls, .inl (len : Int) :: t, h) else none
      | _ => none
    | _ => none
  | .new _ => bif al && pj_wfa ls st h then some (True, nx, ls, .inr h.length :: st, h ++ [.inr (a, k_df a)]) else none
  | .newarray _ => match st with
    | .inl z :: t => bif al && pj_wfa ls t h then some (0 ≤ z ∧ z ≤ 100000, nx, ls, .inr h.length :: t, h ++ [.inl (a, z.toNat, fun _ => 0)]) else none
    | _ => none
  | .invokespecial _ => match b with
    | 1 => match st with
      | .inr r :: t => bif pj_ok (.inr r) && Nat.ble (pj_wd t) 8 then some (True, nx, ls, t, h) else none
      | _ => none
    | _ => none
  | .invokestatic _ => match b with
    | 2 => match st with
      | .inl n :: .inl dp :: .inr r1 :: .inl sp :: .inr r0 :: t => match pj_at h r0, pj_at h r1 with
        | some (.inl (0, n0, f)), some (.inl (0, n1, g)) => bif Nat.ble (pj_wd t) 8 then some (((0 ≤ n ∧ n < 2147483648) ∧ (0 ≤ sp ∧ sp < 2147483648)) ∧ ((0 ≤ dp ∧ dp < 2147483648) ∧ (sp + n ≤ (n0 : Int) ∧ dp + n ≤ (n1 : Int))), nx, ls, t, h.set r1 (.inl (0, n1, va_cpy f g sp.toNat dp.toNat n.toNat))) else none
        | _, _ => none
      | _ => none
    | _ => none
  | .ishr => match st with
    | .inl y :: .inl x :: t => some (True, nx, ls, .inl (pj_shr x y) :: t, h)
    | _ => none
  | .ldc _ => some (True, nx, ls, .inl (a : Int) :: st, h)
  | .ldc2_w _ => bif al then some (True, nx, ls, .inr (2000 + a) :: st, h) else none
  | .lconst k => bif al then some (True, nx, ls, .inr (2000 + k.val) :: st, h) else none
  | .lload k => bif al then pj_ldl nx ls st h k else none
  | .lload_n k => bif al then pj_ldl nx ls st h k.val else none
  | .lstore k => bif al then pj_stl nx ls st h k else none
  | .lstore_n k => bif al then pj_stl nx ls st h k.val else none
  | .i2l => bif al then (match st with
    | .inl x :: t => some (0 ≤ x ∧ x ≤ 2147483647, nx, ls, .inr (2000 + x.toNat) :: t, h)
    | _ => none) else none
  | .lmul => bif al then (match st with
    | .inr y :: .inr x :: t => some (2000 ≤ x ∧ 2000 ≤ y, nx, ls, .inr (2000 + (x - 2000) * (y - 2000)) :: t, h)
    | _ => none) else none
  | .ladd => bif al then (match st with
    | .inr y :: .inr x :: t => some (2000 ≤ x ∧ 2000 ≤ y, nx, ls, .inr (2000 + ((x - 2000) + (y - 2000))) :: t, h)
    | _ => none) else none
  | .lcmp => bif al then (match st with
    | .inr y :: .inr x :: t => some (2000 ≤ x ∧ x = y, nx, ls, .inl 0 :: t, h)
    | _ => none) else none
  | _ => none
/-- a branch: what it asks, its condition, the two places, the stack -/
def pj_brO (i : Instr) (nx a : Nat) (st : List pj_V) : Option (Prop × Prop × Nat × Nat × List pj_V) :=
  match i with
  | .ifCond k _ => match st with
    | .inl x :: t => some ((-2147483648 ≤ x ∧ x ≤ 2147483647), (match k with | .eq => x = 0 | .ne => ¬ x = 0 | .lt => x < 0 | .ge => 0 ≤ x | .gt => 0 < x | .le => x ≤ 0), a, nx, t)
    | _ => none
  | .if_icmp k _ => match st with
    | .inl y :: .inl x :: t => some ((-2147483648 ≤ x ∧ x ≤ 2147483647) ∧ (-2147483648 ≤ y ∧ y ≤ 2147483647), (match k with | .eq => x = y | .ne => ¬ x = y | .lt => x < y | .ge => y ≤ x | .gt => y < x | .le => x ≤ y), a, nx, t)
    | _ => none
  | _ => none
def pj_br (i : Instr) (nx a : Nat) (st : List pj_V) : Option (Prop × Prop × Nat × Nat × List pj_V) :=
  match i with
  | .ifCond k _ => match k with
    | .eq => match st with
      | .inl x :: t => some ((-2147483648 ≤ x ∧ x ≤ 2147483647), x = 0, a, nx, t)
      | _ => none
    | .ne => match st with
      | .inl x :: t => some ((-2147483648 ≤ x ∧ x ≤ 2147483647), ¬ x = 0, a, nx, t)
      | _ => none
    | .lt => match st with
      | .inl x :: t => some ((-2147483648 ≤ x ∧ x ≤ 2147483647), x < 0, a, nx, t)
      | _ => none
    | .ge => match st with
      | .inl x :: t => some ((-2147483648 ≤ x ∧ x ≤ 2147483647), 0 ≤ x, a, nx, t)
      | _ => none
    | .gt => match st with
      | .inl x :: t => some ((-2147483648 ≤ x ∧ x ≤ 2147483647), 0 < x, a, nx, t)
      | _ => none
    | .le => match st with
      | .inl x :: t => some ((-2147483648 ≤ x ∧ x ≤ 2147483647), x ≤ 0, a, nx, t)
      | _ => none
  | .if_icmp k _ => match k with
    | .eq => match st with
      | .inl y :: .inl x :: t => some ((-2147483648 ≤ x ∧ x ≤ 2147483647) ∧ (-2147483648 ≤ y ∧ y ≤ 2147483647), x = y, a, nx, t)
      | _ => none
    | .ne => match st with
      | .inl y :: .inl x :: t => some ((-2147483648 ≤ x ∧ x ≤ 2147483647) ∧ (-2147483648 ≤ y ∧ y ≤ 2147483647), ¬ x = y, a, nx, t)
      | _ => none
    | .lt => match st with
      | .inl y :: .inl x :: t => some ((-2147483648 ≤ x ∧ x ≤ 2147483647) ∧ (-2147483648 ≤ y ∧ y ≤ 2147483647), x < y, a, nx, t)
      | _ => none
    | .ge => match st with
      | .inl y :: .inl x :: t => some ((-2147483648 ≤ x ∧ x ≤ 2147483647) ∧ (-2147483648 ≤ y ∧ y ≤ 2147483647), y ≤ x, a, nx, t)
      | _ => none
    | .gt => match st with
      | .inl y :: .inl x :: t => some ((-2147483648 ≤ x ∧ x ≤ 2147483647) ∧ (-2147483648 ≤ y ∧ y ≤ 2147483647), y < x, a, nx, t)
      | _ => none
    | .le => match st with
      | .inl y :: .inl x :: t => some ((-2147483648 ≤ x ∧ x ≤ 2147483647) ∧ (-2147483648 ≤ y ∧ y ≤ 2147483647), x ≤ y, a, nx, t)
      | _ => none
  | _ => none
theorem pj_br_eq (i : Instr) (nx a : Nat) (st : List pj_V) : pj_br i nx a st = pj_brO i nx a st := by
  cases i
  case ifCond k o => cases k <;> (match st with
    | [] => rfl
    | .inl x :: t => rfl
    | .inr r :: t => rfl)
  case if_icmp k o => cases k <;> (match st with
    | [] => rfl
    | .inl x :: [] => rfl
    | .inr r :: t => rfl
    | .inl y :: .inl x :: t => rfl
    | .inl y :: .inr r :: t => rfl)
  all_goals rfl
/-- a return: what it asks, the answer -/
def pj_rn (rt : Nat) (i : Instr) (st : List pj_V) : Option (Prop × Option pj_V) :=
  match i with
  | .return_ => match rt, st with
    | 0, [] => some ((0 : Int) ≤ 0, none)
    | _, _ => none
  | .ireturn => match rt, st with
    | 1, [.inl z] => some ((0 : Int) ≤ 0, some (.inl z))
    | 2, [.inl z] => some (z = 0 ∨ z = 1, some (.inl z))
    | _, _ => none
  | .areturn => match rt, st with
    | 3, [.inr r] => bif Nat.ble r 999 then some ((0 : Int) ≤ 0, some (.inr r)) else none
    | _, _ => none
  | .lreturn => match rt, st with
    | 4, [.inr c] => some (2000 ≤ c, some (.inr c))
    | _, _ => none
  | _ => none
/-- the receiver is of the class, or there is none -/
def pj_rc (kd ci : Nat) (as : List pj_V) (h : List pj_C) : Bool := match kd with
  | 0 => true
  | 1 => match as with
    | .inr r :: _ => match pj_at h r with
      | some (.inr (c, _)) => Nat.beq c ci
      | _ => false
    | _ => false
  | _ => match as with
    | .inr r :: _ => Nat.ble r 999
    | _ => false
def pj_rep : Nat → List pj_V
  | 0 => []
  | n + 1 => .inr 1000 :: pj_rep n
/-- a call: the callee, its locals, the stack below -/
def pj_cl (i : Instr) (a b : Nat) (st : List pj_V) (h : List pj_C) : Option (Nat × List pj_V × List pj_V) :=
  match b with
  | 0 => match i with
    | .invokestatic _ => bif Nat.beq (k_kd a) 0 && Nat.ble (pj_wd (st.drop (k_na a))) 8 && (Nat.ble (k_na a) st.length && (st.take (k_na a)).all pj_n2) then some (a, (st.take (k_na a)).reverse, st.drop (k_na a)) else none
    | .invokevirtual _ => bif Nat.beq (k_kd a) 1 && pj_rc 1 (k_ci a) (st.take (k_na a)).reverse h && Nat.ble (pj_wd (st.drop (k_na a))) 8 && (Nat.ble (k_na a) st.length && (st.take (k_na a)).all pj_n2) then some (a, (st.take (k_na a)).reverse, st.drop (k_na a)) else none
    | .invokespecial _ => bif Nat.beq (k_kd a) 2 && pj_rc 2 (k_ci a) (st.take (k_na a)).reverse h && Nat.ble (pj_wd (st.drop (k_na a))) 8 && (Nat.ble (k_na a) st.length && (st.take (k_na a)).all pj_n2) then some (a, (st.take (k_na a)).reverse, st.drop (k_na a)) else none
    | _ => none
  | _ => none
/-- a switch: what it asks, the number, the place behind it -/
def pj_sw (i : Instr) (st : List pj_V) : Option (Int × Int × Int × Array Int × Int × List pj_V) :=
  match i with
  | .tableswitch d lo hi offs => match st with
    | .inl x :: t => some (d, lo, hi, offs, x, t)
    | _ => none
  | _ => none
def pj_Rn (X : pj_X) (al : Bool) : Nat → Nat → Nat → List pj_V → List pj_V → List pj_C → Option pj_V → List pj_C → Prop
  | 0, _, _, _, _, _, _, _ => False
  | n + 1, M, pc, ls, st, h, r, hf =>
    match k_cd M pc with
    | none => False
    | some (i, nx, a, b, c, _, _) =>
      match pj_s1 X al i nx a b c ls st h with
      | some (P, pc', ls', st', h') => P ∧ pj_Rn X al n M pc' ls' st' h' r hf
      | none => match pj_br i nx a st with
        | some (P, k, pt, pf, t) => P ∧ (k → pj_Rn X al n M pt ls t h r hf) ∧ (¬ k → pj_Rn X al n M pf ls t h r hf)
        | none => match pj_rn (k_rt M) i st with
          | some (P, v) => P ∧ r = v ∧ hf = h
          | none => match pj_cl i a b st h with
            | some (M', as, t) => ∃ (rc : Option pj_V) (hc : List pj_C), pj_Rn X al n M' 0 (as ++ pj_rep (k_nL M' - as.length)) [] h rc hc ∧ (hc.length = h.length ∨ pj_wfa ls t h = true) ∧ pj_Rn X al n M nx ls (rc.toList ++ t) hc r hf
            | none => match pj_sw i st with
              | some (d, lo, hi, offs, x, t) => pj_rg x ∧ ∃ pt : Nat, (((¬ x < lo ∧ ¬ hi < x) ∧ ∃ o, offs[(x - lo).toNat]? = some o ∧ (pc : Int) + o = (pt : Int)) ∨ ((x < lo ∨ hi < x) ∧ (pc : Int) + d = (pt : Int))) ∧ pj_Rn X al n M pt ls t h r hf
              | none => False
