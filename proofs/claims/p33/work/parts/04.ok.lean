/-! what a program checks of the code tables, entry by entry -/
def k_nL (M : Nat) : Nat := (k_mi M).2.2.1
def k_rt (M : Nat) : Nat := (k_mi M).2.2.2.2.1
def k_kd (M : Nat) : Nat := (k_mi M).2.2.2.2.2.1
def k_ci (M : Nat) : Nat := (k_mi M).2.2.2.2.2.2.1
def k_na (M : Nat) : Nat := (k_mi M).2.2.2.2.2.2.2.1
def k_y (M : Nat) : MethodName := (k_mi M).1
def k_b (M : Nat) : ByteArray := (k_mi M).2.1
def k_ret (M : Nat) : Option FieldType := (k_mi M).2.2.2.1
def k_fr (M : Nat) : Nat := (k_mi M).2.2.2.2.2.2.2.2.1
def k_lo (M : Nat) : Nat := (k_mi M).2.2.2.2.2.2.2.2.2.1
def k_cw (M : Nat) : Nat := (k_mi M).2.2.2.2.2.2.2.2.2.2.1
def k_iw (M : Nat) : Nat := (k_mi M).2.2.2.2.2.2.2.2.2.2.2.1
def k_sw (M : Nat) : Nat := (k_mi M).2.2.2.2.2.2.2.2.2.2.2.2.1
def k_nw (M : Nat) : Nat := (k_mi M).2.2.2.2.2.2.2.2.2.2.2.2.2
def pj_len : Instr → Nat
  | .ldc _ | .lload _ | .lstore _ | .bipush _ | .iload _ | .istore _ | .aload _ | .astore _ | .newarray _ => 2
  | .ldc2_w _ | .sipush _ | .iinc _ _ | .goto _ | .ifCond _ _ | .if_icmp _ _ | .new _ | .getfield _ | .putfield _ | .invokevirtual _ | .invokespecial _ | .invokestatic _ => 3
  | _ => 1
def pj_nest : Cond → Bool
  | .fieldLinkNest _ _ _ _ _ _ => true
  | .methodLinkNest _ _ _ _ => true
  | _ => false
def pj_is (d : Nat) (w : Cond) : Bool := (goodWord w || pj_nest w) && decide (pj_tw (d / 1000) (d % 1000) = some w)
/-- the link of a field: 0 none, 1 its own class's, 2 a nest mate's -/
def pj_fl (own : String) (n : Nat) (C nm ds : String) (d : Nat) : Nat := match pj_tw (d / 1000) (d % 1000) with
  | some (.fieldLink o i r f g) => bif decide (o = own ∧ i = n ∧ r = C ∧ f = nm ∧ g = ds) then 1 else 0
  | some (.fieldLinkNest o i r f g _) => bif decide (o = own ∧ i = n ∧ r = C ∧ f = nm ∧ g = ds) then 2 else 0
  | _ => 0
def pj_ty0 (T : u_T) (k : Nat) : FieldType := (parseFieldDescriptor (T k).2.2.1).getD .int
def pj_isInt (ty : FieldType) : Bool := match ty with
  | .int => true
  | _ => false
def pj_isRef (ty : FieldType) : Bool := match ty with
  | .object _ => true
  | .array _ => true
  | _ => false
def pj_okG (M n a b c d : Nat) (put : Bool) : Bool := match pj_at vwCl a with
  | some (C, T, N) => Nat.blt b N && (decide ((T b).1 = C) && (match pj_fl (k_y M).cls n C (T b).2.1 (T b).2.2.1 d with
    | 1 => !put || !(T b).2.2.2 || decide ((k_y M).name = "<init>" ∧ C = (k_y M).cls)
    | 2 => !put || !(T b).2.2.2
    | _ => false) && (!put || (match c with
      | 0 => pj_isInt (pj_ty0 T b)
      | _ => pj_isRef (pj_ty0 T b))))
  | none => false
def pj_okE (M pc : Nat) (e : pj_E) : Bool := match e with
  | (i, nx, a, b, c, d, _) =>
    (decide (decode (k_b M) pc = .ok (i, nx - pc)) && Nat.blt pc nx) && (match i with
      | .tableswitch _ _ _ _ => true
      | i => Nat.beq nx (pc + pj_len i)) && (match i with
      | .bipush z => decide ((Int8.ofInt z).toInt32 = Int32.ofInt z)
      | .sipush z => decide ((Int16.ofInt z).toInt32 = Int32.ofInt z)
      | .ldc n => pj_is d (.constant (k_y M).cls n (Int32.ofInt (a : Int)))
      | .ldc2_w n => pj_is d (.constantLong (k_y M).cls n (Int64.ofInt (a : Int)))
      | .goto o => decide ((pc : Int) + o = (a : Int))
      | .ifCond _ o => decide ((pc : Int) + o = (a : Int))
      | .if_icmp _ o => decide ((pc : Int) + o = (a : Int))
      | .getfield n => pj_okG M n a b c d false
      | .putfield n => pj_okG M n a b c d true
      | .new n => match pj_at vwCl a with
        | some (C, _, N) => pj_is d (.classLink (k_y M).cls n C) && (pj_is (k_cx a).1 (.instantiable C N) && pj_is (k_cx a).2 (.initialized C))
        | none => false
      | .newarray t => pj_is d (.arrayClass (newarray.typeOf t)) && (Nat.beq a 0 && decide (t = .int))
      | .baload => false
      | .bastore => false
      | .invokespecial n => match b with
        | 0 => Nat.blt a 100 && (Nat.beq (k_kd a) 2 && ((match c with
          | 0 => pj_is d (.methodLink (k_y M).cls n (k_y a))
          | _ => pj_is d (.methodLinkNest (k_y M).cls n (k_y a) "LieAlgebra")) && (Nat.ble (k_fr a + 1) (k_fr M) && Nat.ble (8 + (k_nL a + 11) + k_lo a) (k_lo M))))
        | 1 => pj_is d (.methodLink (k_y M).cls n objectInit) && (Nat.ble 1 (k_fr M) && Nat.ble 20 (k_lo M))
        | _ => false
      | .invokevirtual n => match b with
        | 0 => Nat.blt a 100 && (Nat.beq (k_kd a) 1 && ((match c with
          | 0 => pj_is d (.methodLink (k_y M).cls n (k_y a))
          | _ => pj_is d (.methodLinkNest (k_y M).cls n (k_y a) "LieAlgebra")) && (Nat.ble (k_fr a + 1) (k_fr M) && Nat.ble (8 + (k_nL a + 11) + k_lo a) (k_lo M))))
        | _ => false
      | .invokestatic n => match b with
        | 0 => Nat.blt a 100 && (Nat.beq (k_kd a) 0 && ((match c with
          | 0 => pj_is d (.methodLink (k_y M).cls n (k_y a))
          | _ => pj_is d (.methodLinkNest (k_y M).cls n (k_y a) "LieAlgebra")) && (Nat.ble (k_fr a + 1) (k_fr M) && Nat.ble (8 + (k_nL a + 11) + k_lo a) (k_lo M))))
        | 2 => pj_is d (.methodLink (k_y M).cls n arraycopyName) && (Nat.ble 1 (k_fr M) && Nat.ble (8 + (nativeFrameWords "java/lang/System" "arraycopy" 5 + 11)) (k_lo M))
        | _ => false
      | _ => true)
/-- what holds of a method that may be called -/
def pj_okI (M : Nat) : Bool :=
  plainFor (k_y M) && (pj_is (k_cw M) (.code (k_y M) (k_b M) (k_nL M) (k_ret M)) && (pj_is (k_nw M) (.initialized (k_y M).cls) &&
  (decide ((k_y M).cls ≠ "java/lang/invoke/MethodHandle" ∧ (k_y M).cls ≠ "java/lang/invoke/VarHandle") &&
  (decide ((parseMethodDescriptor (k_y M).desc).map (fun d => d.parameters.length) = some (match k_kd M with | 0 => k_na M | _ => k_na M - 1)) && (Nat.ble (k_na M) (k_nL M) &&
  ((match k_kd M with
    | 0 => pj_is (k_iw M) (.static (k_y M))
    | 1 => Nat.blt 0 (k_na M) && (pj_is (k_iw M) (.instanceMethod (k_y M)) && (pj_is (k_sw M) (.selects (k_y M).cls (k_y M) (k_y M)) && decide ((pj_at vwCl (k_ci M)).map (fun q => q.1) = some (k_y M).cls)))
    | 2 => Nat.blt 0 (k_na M) && (pj_is (k_iw M) (.instanceMethod (k_y M)) && decide ((k_y M).name = "<init>" ∧ k_ret M = none))
    | _ => false) &&
  (match k_rt M, k_ret M with
    | 0, none => true
    | 1, some .int => true
    | 2, some .boolean => true
    | 3, some (.object _) => true
    | 4, some .long => true
    | _, _ => false)))))))
theorem pj_fin {M : Nat} {f : Nat → Option pj_E} (B : Nat) (h : ∀ pc, pc < B → (match f pc with | some e => pj_okE M pc e | none => true) = true) (h2 : ∀ pc, B ≤ pc → f pc = none) : ∀ pc e, f pc = some e → pj_okE M pc e = true := by
  intro pc e he
  rcases Nat.lt_or_ge pc B with q | q
  · have := h pc q
    rw [he] at this
    exact this
  · rw [h2 pc q] at he
    cases he
