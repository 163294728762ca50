section
/-- a private method of a class that the tables say can be made, by its rows of tables_1 -/
def lw_okq (q : MethodName × Nat) : Prop := (q.1.cls ≠ "java/lang/invoke/MethodHandle" ∧ q.1.cls ≠ "java/lang/invoke/VarHandle") ∧ Cond.instantiable q.1.cls q.2 ∈ tables_1 ∧ Cond.privateMethod q.1 ∈ tables_1 ∧ Cond.instanceMethod q.1 ∈ tables_1
theorem lw_p0 : lw_okq (⟨"LieAlgebra", "remember", "()V"⟩, 8) := ⟨⟨by decide +kernel, by decide +kernel⟩, List.mem_of_getElem? (i := 13) (by decide +kernel), List.mem_of_getElem? (i := 203) (by decide +kernel), List.mem_of_getElem? (i := 204) (by decide +kernel)⟩
theorem lw_p1 : lw_okq (⟨"LieAlgebra$Change", "begin", "()V"⟩, 4) := ⟨⟨by decide +kernel, by decide +kernel⟩, List.mem_of_getElem? (i := 117) (by decide +kernel), List.mem_of_getElem? (i := 284) (by decide +kernel), List.mem_of_getElem? (i := 285) (by decide +kernel)⟩
theorem lw_p2 : lw_okq (⟨"LieAlgebra$Change", "apply", "()V"⟩, 4) := ⟨⟨by decide +kernel, by decide +kernel⟩, List.mem_of_getElem? (i := 117) (by decide +kernel), List.mem_of_getElem? (i := 291) (by decide +kernel), List.mem_of_getElem? (i := 292) (by decide +kernel)⟩
theorem lw_p3 : lw_okq (⟨"LieAlgebra$Change", "rewrite", "(I)I"⟩, 4) := ⟨⟨by decide +kernel, by decide +kernel⟩, List.mem_of_getElem? (i := 117) (by decide +kernel), List.mem_of_getElem? (i := 306) (by decide +kernel), List.mem_of_getElem? (i := 307) (by decide +kernel)⟩
theorem lw_p4 : lw_okq (⟨"LieAlgebra$Spaces", "descend", "(IZ)LLieAlgebra$Subspace;"⟩, 4) := ⟨⟨by decide +kernel, by decide +kernel⟩, List.mem_of_getElem? (i := 49) (by decide +kernel), List.mem_of_getElem? (i := 412) (by decide +kernel), List.mem_of_getElem? (i := 413) (by decide +kernel)⟩
theorem lw_p5 : lw_okq (⟨"LieAlgebra$Spaces", "fill", "(LLieAlgebra$Subspace;)V"⟩, 4) := ⟨⟨by decide +kernel, by decide +kernel⟩, List.mem_of_getElem? (i := 49) (by decide +kernel), List.mem_of_getElem? (i := 416) (by decide +kernel), List.mem_of_getElem? (i := 417) (by decide +kernel)⟩
theorem lw_p6 : lw_okq (⟨"LieAlgebra$Subspace", "hasLead", "(I)Z"⟩, 5) := ⟨⟨by decide +kernel, by decide +kernel⟩, List.mem_of_getElem? (i := 55) (by decide +kernel), List.mem_of_getElem? (i := 442) (by decide +kernel), List.mem_of_getElem? (i := 443) (by decide +kernel)⟩
theorem lw_p7 : lw_okq (⟨"LieAlgebra$Subspace", "cell", "(II)I"⟩, 5) := ⟨⟨by decide +kernel, by decide +kernel⟩, List.mem_of_getElem? (i := 55) (by decide +kernel), List.mem_of_getElem? (i := 446) (by decide +kernel), List.mem_of_getElem? (i := 447) (by decide +kernel)⟩
theorem lw_p8 : lw_okq (⟨"LieAlgebra$Subspace", "addRow", "(III)V"⟩, 5) := ⟨⟨by decide +kernel, by decide +kernel⟩, List.mem_of_getElem? (i := 55) (by decide +kernel), List.mem_of_getElem? (i := 450) (by decide +kernel), List.mem_of_getElem? (i := 451) (by decide +kernel)⟩
theorem lw_p9 : lw_okq (⟨"LieAlgebra$Spaces", "addProducts", "(LLieAlgebra$Subspace;LLieAlgebra$Subspace;LLieAlgebra$Subspace;)Z"⟩, 4) := ⟨⟨by decide +kernel, by decide +kernel⟩, List.mem_of_getElem? (i := 49) (by decide +kernel), List.mem_of_getElem? (i := 455) (by decide +kernel), List.mem_of_getElem? (i := 456) (by decide +kernel)⟩
theorem lw_p10 : lw_okq (⟨"LieAlgebra$Subspace", "rowAsVector", "(I)I"⟩, 5) := ⟨⟨by decide +kernel, by decide +kernel⟩, List.mem_of_getElem? (i := 55) (by decide +kernel), List.mem_of_getElem? (i := 463) (by decide +kernel), List.mem_of_getElem? (i := 464) (by decide +kernel)⟩
theorem lw_p11 : lw_okq (⟨"LieAlgebra$Maps", "addDerivationRule", "(III)V"⟩, 3) := ⟨⟨by decide +kernel, by decide +kernel⟩, List.mem_of_getElem? (i := 99) (by decide +kernel), List.mem_of_getElem? (i := 524) (by decide +kernel), List.mem_of_getElem? (i := 525) (by decide +kernel)⟩
theorem lw_p12 : lw_okq (⟨"LieAlgebra$Maps", "unknown", "(II)I"⟩, 3) := ⟨⟨by decide +kernel, by decide +kernel⟩, List.mem_of_getElem? (i := 99) (by decide +kernel), List.mem_of_getElem? (i := 528) (by decide +kernel), List.mem_of_getElem? (i := 529) (by decide +kernel)⟩
theorem lw_p13 : lw_okq (⟨"LieAlgebra$Spaces", "close", "(LLieAlgebra$Subspace;LLieAlgebra$Subspace;)V"⟩, 4) := ⟨⟨by decide +kernel, by decide +kernel⟩, List.mem_of_getElem? (i := 49) (by decide +kernel), List.mem_of_getElem? (i := 563) (by decide +kernel), List.mem_of_getElem? (i := 564) (by decide +kernel)⟩
def lw_privs_1 : List (MethodName × Nat) := [(⟨"LieAlgebra", "remember", "()V"⟩, 8), (⟨"LieAlgebra$Change", "begin", "()V"⟩, 4), (⟨"LieAlgebra$Change", "apply", "()V"⟩, 4), (⟨"LieAlgebra$Change", "rewrite", "(I)I"⟩, 4), (⟨"LieAlgebra$Spaces", "descend", "(IZ)LLieAlgebra$Subspace;"⟩, 4), (⟨"LieAlgebra$Spaces", "fill", "(LLieAlgebra$Subspace;)V"⟩, 4), (⟨"LieAlgebra$Subspace", "hasLead", "(I)Z"⟩, 5), (⟨"LieAlgebra$Subspace", "cell", "(II)I"⟩, 5), (⟨"LieAlgebra$Subspace", "addRow", "(III)V"⟩, 5), (⟨"LieAlgebra$Spaces", "addProducts", "(LLieAlgebra$Subspace;LLieAlgebra$Subspace;LLieAlgebra$Subspace;)Z"⟩, 4), (⟨"LieAlgebra$Subspace", "rowAsVector", "(I)I"⟩, 5), (⟨"LieAlgebra$Maps", "addDerivationRule", "(III)V"⟩, 3), (⟨"LieAlgebra$Maps", "unknown", "(II)I"⟩, 3), (⟨"LieAlgebra$Spaces", "close", "(LLieAlgebra$Subspace;LLieAlgebra$Subspace;)V"⟩, 4)]
theorem lw_r1 : ∀ q ∈ lw_privs_1, lw_okq q := List.forall_mem_cons.mpr ⟨lw_p0, List.forall_mem_cons.mpr ⟨lw_p1, List.forall_mem_cons.mpr ⟨lw_p2, List.forall_mem_cons.mpr ⟨lw_p3, List.forall_mem_cons.mpr ⟨lw_p4, List.forall_mem_cons.mpr ⟨lw_p5, List.forall_mem_cons.mpr ⟨lw_p6, List.forall_mem_cons.mpr ⟨lw_p7, List.forall_mem_cons.mpr ⟨lw_p8, List.forall_mem_cons.mpr ⟨lw_p9, List.forall_mem_cons.mpr ⟨lw_p10, List.forall_mem_cons.mpr ⟨lw_p11, List.forall_mem_cons.mpr ⟨lw_p12, List.forall_mem_cons.mpr ⟨lw_p13, fun _ h => absurd h List.not_mem_nil⟩⟩⟩⟩⟩⟩⟩⟩⟩⟩⟩⟩⟩⟩
def lw_privs : List (MethodName × Nat) := lw_privs_1
def lw_tbl : List Cond := k2_sels lw_privs ++ tables_1
theorem lw_privs_ok : ∀ q ∈ lw_privs, lw_okq q := lw_r1

def RX0 : String := "LieAlgebra$Change"
def TX0 : u_T := fun k => match k with
  | 0 => ("LieAlgebra$Change", "table", "LLieAlgebra$Table;", true)
  | 1 => ("LieAlgebra$Change", "draft", "LLieAlgebra$Table;", true)
  | 2 => ("LieAlgebra$Change", "newOnes", "[I", true)
  | _ => ("LieAlgebra$Change", "oldOnes", "[I", true)
def RX1 : String := "LieAlgebra$Maps"
def TX1 : u_T := fun k => match k with
  | 0 => ("LieAlgebra$Maps", "table", "LLieAlgebra$Table;", true)
  | 1 => ("LieAlgebra$Maps", "rows", "LLieAlgebra$Subspace;", true)
  | _ => ("LieAlgebra$Maps", "equations", "LLieAlgebra$Subspace;", true)
def RX2 : String := "LieAlgebra$Script"
def TX2 : u_T := fun k => match k with
  | 0 => ("LieAlgebra$Script", "characters", "[I", true)
  | 1 => ("LieAlgebra$Script", "draft", "LLieAlgebra$Table;", true)
  | 2 => ("LieAlgebra$Script", "length", "I", false)
  | 3 => ("LieAlgebra$Script", "position", "I", false)
  | _ => ("LieAlgebra$Script", "pairsGiven", "I", false)
def RX3 : String := "LieAlgebra$Shelf"
def TX3 : u_T := fun k => match k with
  | 0 => ("LieAlgebra$Shelf", "places", "I", true)
  | _ => ("LieAlgebra$Shelf", "cells", "[I", true)
def RX4 : String := "LieAlgebra$Spaces"
def TX4 : u_T := fun k => match k with
  | 0 => ("LieAlgebra$Spaces", "table", "LLieAlgebra$Table;", true)
  | 1 => ("LieAlgebra$Spaces", "whole", "LLieAlgebra$Subspace;", true)
  | 2 => ("LieAlgebra$Spaces", "first", "LLieAlgebra$Subspace;", true)
  | _ => ("LieAlgebra$Spaces", "second", "LLieAlgebra$Subspace;", true)
def RX5 : String := "LieAlgebra$Subspace"
def TX5 : u_T := fun k => match k with
  | 0 => ("LieAlgebra$Subspace", "columns", "I", true)
  | 1 => ("LieAlgebra$Subspace", "cells", "[I", true)
  | 2 => ("LieAlgebra$Subspace", "p", "I", false)
  | 3 => ("LieAlgebra$Subspace", "width", "I", false)
  | _ => ("LieAlgebra$Subspace", "size", "I", false)
def RX6 : String := "LieAlgebra$Table"
def TX6 : u_T := fun k => match k with
  | 0 => ("LieAlgebra$Table", "p", "I", false)
  | 1 => ("LieAlgebra$Table", "n", "I", false)
  | _ => ("LieAlgebra$Table", "brackets", "[I", true)
def RX7 : String := "LieAlgebra"
def TX7 : u_T := fun k => match k with
  | 0 => ("LieAlgebra", "table", "LLieAlgebra$Table;", true)
  | 1 => ("LieAlgebra", "spaces", "LLieAlgebra$Spaces;", true)
  | 2 => ("LieAlgebra", "maps", "LLieAlgebra$Maps;", true)
  | 3 => ("LieAlgebra", "change", "LLieAlgebra$Change;", true)
  | 4 => ("LieAlgebra", "script", "LLieAlgebra$Script;", true)
  | 5 => ("LieAlgebra", "history", "LLieAlgebra$Shelf;", true)
  | 6 => ("LieAlgebra", "snapshots", "LLieAlgebra$Shelf;", true)
  | _ => ("LieAlgebra", "savedStates", "I", false)
abbrev vwCl : List vw_C := [(RX0, TX0, 4), (RX1, TX1, 3), (RX2, TX2, 5), (RX3, TX3, 2), (RX4, TX4, 4), (RX5, TX5, 5), (RX6, TX6, 3), (RX7, TX7, 8)]
end
section
def pj_at {α : Type} : List α → Nat → Option α
  | [], _ => none
  | c :: _, 0 => some c
  | _ :: cs, k + 1 => pj_at cs k
abbrev pj_E : Type := Instr × Nat × Nat × Nat × Nat × Nat × Bool
/-- LieAlgebra$Change.<init>(LLieAlgebra$Table;)V -/
def kc_Change_init : Nat → Option pj_E := fun pc => bif Nat.ble 35 pc then none else bif Nat.ble 17 pc then (bif Nat.ble 26 pc then (bif Nat.ble 30 pc then (bif Nat.ble 31 pc then (bif Nat.ble 34 pc then (bif Nat.beq pc 34 then some (.return_, 35, 0, 0, 0, 0, false) else none) else (bif Nat.beq pc 31 then some (.putfield 25, 34, 0, 0, 1, 1124, false) else none)) else (bif Nat.beq pc 30 then some (.aload_n 1, 31, 0, 0, 0, 0, false) else none)) else (bif Nat.ble 29 pc then (bif Nat.beq pc 29 then some (.aload_n 0, 30, 0, 0, 0, 0, false) else none) else (bif Nat.beq pc 26 then some (.putfield 22, 29, 0, 3, 1, 1127, false) else none))) else (bif Nat.ble 22 pc then (bif Nat.ble 23 pc then (bif Nat.ble 24 pc then (bif Nat.beq pc 24 then some (.newarray .int, 26, 0, 0, 0, 1047, false) else none) else (bif Nat.beq pc 23 then some (.iconst (5), 24, 0, 0, 0, 0, false) else none)) else (bif Nat.beq pc 22 then some (.aload_n 0, 23, 0, 0, 0, 0, false) else none)) else (bif Nat.ble 19 pc then (bif Nat.beq pc 19 then some (.putfield 18, 22, 0, 2, 1, 1126, false) else none) else (bif Nat.beq pc 17 then some (.newarray .int, 19, 0, 0, 0, 1047, false) else none)))) else (bif Nat.ble 8 pc then (bif Nat.ble 12 pc then (bif Nat.ble 15 pc then (bif Nat.ble 16 pc then (bif Nat.beq pc 16 then some (.iconst (5), 17, 0, 0, 0, 0, false) else none) else (bif Nat.beq pc 15 then some (.aload_n 0, 16, 0, 0, 0, 0, false) else none)) else (bif Nat.beq pc 12 then some (.putfield 12, 15, 0, 1, 1, 1125, false) else none)) else (bif Nat.ble 9 pc then (bif Nat.beq pc 9 then some (.invokespecial 11, 12, 41, 0, 1, 1123, false) else none) else (bif Nat.beq pc 8 then some (.dup, 9, 0, 0, 0, 0, false) else none))) else (bif Nat.ble 4 pc then (bif Nat.ble 5 pc then (bif Nat.beq pc 5 then some (.new 9, 8, 6, 0, 0, 1122, false) else none) else (bif Nat.beq pc 4 then some (.aload_n 0, 5, 0, 0, 0, 0, false) else none)) else (bif Nat.ble 1 pc then (bif Nat.beq pc 1 then some (.invokespecial 3, 4, 0, 1, 0, 1121, false) else none) else (bif Nat.beq pc 0 then some (.aload_n 0, 1, 0, 0, 0, 0, false) else none))))
/-- LieAlgebra$Change.add(III)V -/
def kc_Change_add : Nat → Option pj_E := fun pc => bif Nat.ble 74 pc then none else bif Nat.ble 37 pc then (bif Nat.ble 54 pc then (bif Nat.ble 63 pc then (bif Nat.ble 69 pc then (bif Nat.ble 70 pc then (bif Nat.ble 73 pc then (bif Nat.beq pc 73 then some (.return_, 74, 0, 0, 0, 0, false) else none) else (bif Nat.beq pc 70 then some (.invokevirtual 43, 73, 3, 0, 0, 2050, false) else none)) else (bif Nat.beq pc 69 then some (.aload_n 0, 70, 0, 0, 0, 0, false) else none)) else (bif Nat.ble 66 pc then (bif Nat.beq pc 66 then some (.invokestatic 39, 69, 63, 0, 1, 2048, false) else none) else (bif Nat.beq pc 63 then some (.invokevirtual 35, 66, 50, 0, 0, 2049, false) else none))) else (bif Nat.ble 58 pc then (bif Nat.ble 61 pc then (bif Nat.ble 62 pc then (bif Nat.beq pc 62 then some (.ineg, 63, 0, 0, 0, 0, false) else none) else (bif Nat.beq pc 61 then some (.iload_n 3, 62, 0, 0, 0, 0, false) else none)) else (bif Nat.beq pc 58 then some (.invokevirtual 31, 61, 44, 0, 0, 2047, false) else none)) else (bif Nat.ble 57 pc then (bif Nat.beq pc 57 then some (.iload_n 2, 58, 0, 0, 0, 0, false) else none) else (bif Nat.beq pc 54 then some (.getfield 25, 57, 0, 0, 1, 1124, false) else none)))) else (bif Nat.ble 45 pc then (bif Nat.ble 49 pc then (bif Nat.ble 50 pc then (bif Nat.ble 53 pc then (bif Nat.beq pc 53 then some (.aload_n 0, 54, 0, 0, 0, 0, false) else none) else (bif Nat.beq pc 50 then some (.invokevirtual 31, 53, 44, 0, 0, 2047, false) else none)) else (bif Nat.beq pc 49 then some (.iload_n 1, 50, 0, 0, 0, 0, false) else none)) else (bif Nat.ble 46 pc then (bif Nat.beq pc 46 then some (.getfield 25, 49, 0, 0, 1, 1124, false) else none) else (bif Nat.beq pc 45 then some (.aload_n 0, 46, 0, 0, 0, 0, false) else none))) else (bif Nat.ble 41 pc then (bif Nat.ble 42 pc then (bif Nat.beq pc 42 then some (.getfield 25, 45, 0, 0, 1, 1124, false) else none) else (bif Nat.beq pc 41 then some (.aload_n 0, 42, 0, 0, 0, 0, false) else none)) else (bif Nat.ble 40 pc then (bif Nat.beq pc 40 then some (.iload_n 1, 41, 0, 0, 0, 0, false) else none) else (bif Nat.beq pc 37 then some (.getfield 22, 40, 0, 3, 1, 1127, false) else none))))) else (bif Nat.ble 17 pc then (bif Nat.ble 26 pc then (bif Nat.ble 30 pc then (bif Nat.ble 33 pc then (bif Nat.ble 36 pc then (bif Nat.beq pc 36 then some (.aload_n 0, 37, 0, 0, 0, 0, false) else none) else (bif Nat.beq pc 33 then some (.invokestatic 39, 36, 63, 0, 1, 2048, false) else none)) else (bif Nat.beq pc 30 then some (.invokevirtual 35, 33, 50, 0, 0, 2049, false) else none)) else (bif Nat.ble 29 pc then (bif Nat.beq pc 29 then some (.iload_n 3, 30, 0, 0, 0, 0, false) else none) else (bif Nat.beq pc 26 then some (.invokevirtual 31, 29, 44, 0, 0, 2047, false) else none))) else (bif Nat.ble 21 pc then (bif Nat.ble 22 pc then (bif Nat.ble 25 pc then (bif Nat.beq pc 25 then some (.iload_n 2, 26, 0, 0, 0, 0, false) else none) else (bif Nat.beq pc 22 then some (.getfield 25, 25, 0, 0, 1, 1124, false) else none)) else (bif Nat.beq pc 21 then some (.aload_n 0, 22, 0, 0, 0, 0, false) else none)) else (bif Nat.ble 18 pc then (bif Nat.beq pc 18 then some (.invokevirtual 31, 21, 44, 0, 0, 2047, false) else none) else (bif Nat.beq pc 17 then some (.iload_n 1, 18, 0, 0, 0, 0, false) else none)))) else (bif Nat.ble 8 pc then (bif Nat.ble 10 pc then (bif Nat.ble 13 pc then (bif Nat.ble 14 pc then (bif Nat.beq pc 14 then some (.getfield 25, 17, 0, 0, 1, 1124, false) else none) else (bif Nat.beq pc 13 then some (.aload_n 0, 14, 0, 0, 0, 0, false) else none)) else (bif Nat.beq pc 10 then some (.getfield 25, 13, 0, 0, 1, 1124, false) else none)) else (bif Nat.ble 9 pc then (bif Nat.beq pc 9 then some (.aload_n 0, 10, 0, 0, 0, 0, false) else none) else (bif Nat.beq pc 8 then some (.iload_n 1, 9, 0, 0, 0, 0, false) else none))) else (bif Nat.ble 4 pc then (bif Nat.ble 5 pc then (bif Nat.beq pc 5 then some (.getfield 18, 8, 0, 2, 1, 1126, false) else none) else (bif Nat.beq pc 4 then some (.aload_n 0, 5, 0, 0, 0, 0, false) else none)) else (bif Nat.ble 1 pc then (bif Nat.beq pc 1 then some (.invokevirtual 28, 4, 2, 0, 0, 2043, false) else none) else (bif Nat.beq pc 0 then some (.aload_n 0, 1, 0, 0, 0, 0, false) else none)))))
/-- LieAlgebra$Change.begin()V -/
def kc_Change_begin : Nat → Option pj_E := fun pc => bif Nat.ble 52 pc then none else bif Nat.ble 23 pc then (bif Nat.ble 35 pc then (bif Nat.ble 42 pc then (bif Nat.ble 48 pc then (bif Nat.ble 51 pc then (bif Nat.beq pc 51 then some (.return_, 52, 0, 0, 0, 0, false) else none) else (bif Nat.beq pc 48 then some (.goto (-46), 51, 2, 0, 0, 0, false) else none)) else (bif Nat.ble 45 pc then (bif Nat.beq pc 45 then some (.iinc 1 (1), 48, 0, 0, 0, 0, false) else none) else (bif Nat.beq pc 42 then some (.invokestatic 39, 45, 63, 0, 1, 2048, false) else none))) else (bif Nat.ble 38 pc then (bif Nat.ble 39 pc then (bif Nat.beq pc 39 then some (.invokevirtual 31, 42, 44, 0, 0, 2047, false) else none) else (bif Nat.beq pc 38 then some (.iload_n 1, 39, 0, 0, 0, 0, false) else none)) else (bif Nat.beq pc 35 then some (.getfield 25, 38, 0, 0, 1, 1124, false) else none))) else (bif Nat.ble 30 pc then (bif Nat.ble 33 pc then (bif Nat.ble 34 pc then (bif Nat.beq pc 34 then some (.aload_n 0, 35, 0, 0, 0, 0, false) else none) else (bif Nat.beq pc 33 then some (.iload_n 1, 34, 0, 0, 0, 0, false) else none)) else (bif Nat.beq pc 30 then some (.getfield 22, 33, 0, 3, 1, 1127, false) else none)) else (bif Nat.ble 26 pc then (bif Nat.ble 29 pc then (bif Nat.beq pc 29 then some (.aload_n 0, 30, 0, 0, 0, 0, false) else none) else (bif Nat.beq pc 26 then some (.invokestatic 39, 29, 63, 0, 1, 2048, false) else none)) else (bif Nat.beq pc 23 then some (.invokevirtual 31, 26, 44, 0, 0, 2047, false) else none)))) else (bif Nat.ble 10 pc then (bif Nat.ble 17 pc then (bif Nat.ble 19 pc then (bif Nat.ble 22 pc then (bif Nat.beq pc 22 then some (.iload_n 1, 23, 0, 0, 0, 0, false) else none) else (bif Nat.beq pc 19 then some (.getfield 25, 22, 0, 0, 1, 1124, false) else none)) else (bif Nat.ble 18 pc then (bif Nat.beq pc 18 then some (.aload_n 0, 19, 0, 0, 0, 0, false) else none) else (bif Nat.beq pc 17 then some (.iload_n 1, 18, 0, 0, 0, 0, false) else none))) else (bif Nat.ble 13 pc then (bif Nat.ble 14 pc then (bif Nat.beq pc 14 then some (.getfield 18, 17, 0, 2, 1, 1126, false) else none) else (bif Nat.beq pc 13 then some (.aload_n 0, 14, 0, 0, 0, 0, false) else none)) else (bif Nat.beq pc 10 then some (.if_icmp .ge (41), 13, 51, 0, 0, 0, false) else none))) else (bif Nat.ble 3 pc then (bif Nat.ble 4 pc then (bif Nat.ble 7 pc then (bif Nat.beq pc 7 then some (.getfield 54, 10, 6, 1, 0, 1036, false) else none) else (bif Nat.beq pc 4 then some (.getfield 25, 7, 0, 0, 1, 1124, false) else none)) else (bif Nat.beq pc 3 then some (.aload_n 0, 4, 0, 0, 0, 0, false) else none)) else (bif Nat.ble 1 pc then (bif Nat.ble 2 pc then (bif Nat.beq pc 2 then some (.iload_n 1, 3, 0, 0, 0, 0, true) else none) else (bif Nat.beq pc 1 then some (.istore_n 1, 2, 0, 0, 0, 0, false) else none)) else (bif Nat.beq pc 0 then some (.iconst (0), 1, 0, 0, 0, 0, false) else none))))
/-- LieAlgebra$Change.apply()V -/
def kc_Change_apply : Nat → Option pj_E := fun pc => bif Nat.ble 111 pc then none else bif Nat.ble 53 pc then (bif Nat.ble 79 pc then (bif Nat.ble 96 pc then (bif Nat.ble 103 pc then (bif Nat.ble 107 pc then (bif Nat.ble 110 pc then (bif Nat.beq pc 110 then some (.return_, 111, 0, 0, 0, 0, false) else none) else (bif Nat.beq pc 107 then some (.invokevirtual 74, 110, 55, 0, 0, 2071, false) else none)) else (bif Nat.ble 104 pc then (bif Nat.beq pc 104 then some (.getfield 12, 107, 0, 1, 1, 1125, false) else none) else (bif Nat.beq pc 103 then some (.aload_n 0, 104, 0, 0, 0, 0, false) else none))) else (bif Nat.ble 99 pc then (bif Nat.ble 100 pc then (bif Nat.beq pc 100 then some (.getfield 25, 103, 0, 0, 1, 1124, false) else none) else (bif Nat.beq pc 99 then some (.aload_n 0, 100, 0, 0, 0, 0, false) else none)) else (bif Nat.beq pc 96 then some (.goto (-73), 99, 23, 0, 0, 0, false) else none))) else (bif Nat.ble 84 pc then (bif Nat.ble 90 pc then (bif Nat.ble 93 pc then (bif Nat.beq pc 93 then some (.iinc 1 (1), 96, 0, 0, 0, 0, false) else none) else (bif Nat.beq pc 90 then some (.goto (-52), 93, 38, 0, 0, 0, false) else none)) else (bif Nat.ble 87 pc then (bif Nat.beq pc 87 then some (.iinc 2 (1), 90, 0, 0, 0, 0, false) else none) else (bif Nat.beq pc 84 then some (.invokevirtual 70, 87, 49, 0, 0, 2070, false) else none))) else (bif Nat.ble 80 pc then (bif Nat.ble 81 pc then (bif Nat.beq pc 81 then some (.invokevirtual 67, 84, 4, 0, 0, 2065, false) else none) else (bif Nat.beq pc 80 then some (.iload_n 3, 81, 0, 0, 0, 0, false) else none)) else (bif Nat.beq pc 79 then some (.aload_n 0, 80, 0, 0, 0, 0, false) else none)))) else (bif Nat.ble 66 pc then (bif Nat.ble 73 pc then (bif Nat.ble 77 pc then (bif Nat.ble 78 pc then (bif Nat.beq pc 78 then some (.iload_n 2, 79, 0, 0, 0, 0, false) else none) else (bif Nat.beq pc 77 then some (.iload_n 1, 78, 0, 0, 0, 0, false) else none)) else (bif Nat.ble 74 pc then (bif Nat.beq pc 74 then some (.getfield 12, 77, 0, 1, 1, 1125, false) else none) else (bif Nat.beq pc 73 then some (.aload_n 0, 74, 0, 0, 0, 0, false) else none))) else (bif Nat.ble 69 pc then (bif Nat.ble 72 pc then (bif Nat.beq pc 72 then some (.istore_n 3, 73, 0, 0, 0, 0, false) else none) else (bif Nat.beq pc 69 then some (.invokevirtual 64, 72, 53, 0, 0, 2056, false) else none)) else (bif Nat.beq pc 66 then some (.invokestatic 60, 69, 62, 0, 1, 2055, false) else none))) else (bif Nat.ble 58 pc then (bif Nat.ble 62 pc then (bif Nat.ble 65 pc then (bif Nat.beq pc 65 then some (.iload_n 2, 66, 0, 0, 0, 0, false) else none) else (bif Nat.beq pc 62 then some (.getfield 18, 65, 0, 2, 1, 1126, false) else none)) else (bif Nat.ble 61 pc then (bif Nat.beq pc 61 then some (.aload_n 0, 62, 0, 0, 0, 0, false) else none) else (bif Nat.beq pc 58 then some (.invokestatic 60, 61, 62, 0, 1, 2055, false) else none))) else (bif Nat.ble 54 pc then (bif Nat.ble 57 pc then (bif Nat.beq pc 57 then some (.iload_n 1, 58, 0, 0, 0, 0, false) else none) else (bif Nat.beq pc 54 then some (.getfield 18, 57, 0, 2, 1, 1126, false) else none)) else (bif Nat.beq pc 53 then some (.aload_n 0, 54, 0, 0, 0, 0, false) else none))))) else (bif Nat.ble 25 pc then (bif Nat.ble 38 pc then (bif Nat.ble 43 pc then (bif Nat.ble 49 pc then (bif Nat.ble 50 pc then (bif Nat.beq pc 50 then some (.getfield 25, 53, 0, 0, 1, 1124, false) else none) else (bif Nat.beq pc 49 then some (.aload_n 0, 50, 0, 0, 0, 0, false) else none)) else (bif Nat.ble 46 pc then (bif Nat.beq pc 46 then some (.if_icmp .ge (47), 49, 93, 0, 0, 0, false) else none) else (bif Nat.beq pc 43 then some (.getfield 54, 46, 6, 1, 0, 1036, false) else none))) else (bif Nat.ble 39 pc then (bif Nat.ble 40 pc then (bif Nat.beq pc 40 then some (.getfield 25, 43, 0, 0, 1, 1124, false) else none) else (bif Nat.beq pc 39 then some (.aload_n 0, 40, 0, 0, 0, 0, false) else none)) else (bif Nat.beq pc 38 then some (.iload_n 2, 39, 0, 0, 0, 0, true) else none))) else (bif Nat.ble 34 pc then (bif Nat.ble 36 pc then (bif Nat.ble 37 pc then (bif Nat.beq pc 37 then some (.istore_n 2, 38, 0, 0, 0, 0, false) else none) else (bif Nat.beq pc 36 then some (.iadd, 37, 0, 0, 0, 0, false) else none)) else (bif Nat.ble 35 pc then (bif Nat.beq pc 35 then some (.iconst (1), 36, 0, 0, 0, 0, false) else none) else (bif Nat.beq pc 34 then some (.iload_n 1, 35, 0, 0, 0, 0, false) else none))) else (bif Nat.ble 28 pc then (bif Nat.ble 31 pc then (bif Nat.beq pc 31 then some (.if_icmp .ge (68), 34, 99, 0, 0, 0, false) else none) else (bif Nat.beq pc 28 then some (.getfield 54, 31, 6, 1, 0, 1036, false) else none)) else (bif Nat.beq pc 25 then some (.getfield 25, 28, 0, 0, 1, 1124, false) else none)))) else (bif Nat.ble 12 pc then (bif Nat.ble 21 pc then (bif Nat.ble 23 pc then (bif Nat.ble 24 pc then (bif Nat.beq pc 24 then some (.aload_n 0, 25, 0, 0, 0, 0, false) else none) else (bif Nat.beq pc 23 then some (.iload_n 1, 24, 0, 0, 0, 0, true) else none)) else (bif Nat.ble 22 pc then (bif Nat.beq pc 22 then some (.istore_n 1, 23, 0, 0, 0, 0, false) else none) else (bif Nat.beq pc 21 then some (.iconst (0), 22, 0, 0, 0, 0, false) else none))) else (bif Nat.ble 15 pc then (bif Nat.ble 18 pc then (bif Nat.beq pc 18 then some (.invokevirtual 57, 21, 42, 0, 0, 2054, false) else none) else (bif Nat.beq pc 15 then some (.getfield 54, 18, 6, 1, 0, 1036, false) else none)) else (bif Nat.beq pc 12 then some (.getfield 25, 15, 0, 0, 1, 1124, false) else none))) else (bif Nat.ble 5 pc then (bif Nat.ble 8 pc then (bif Nat.ble 11 pc then (bif Nat.beq pc 11 then some (.aload_n 0, 12, 0, 0, 0, 0, false) else none) else (bif Nat.beq pc 8 then some (.getfield 46, 11, 6, 0, 0, 1028, false) else none)) else (bif Nat.beq pc 5 then some (.getfield 25, 8, 0, 0, 1, 1124, false) else none)) else (bif Nat.ble 1 pc then (bif Nat.ble 4 pc then (bif Nat.beq pc 4 then some (.aload_n 0, 5, 0, 0, 0, 0, false) else none) else (bif Nat.beq pc 1 then some (.getfield 12, 4, 0, 1, 1, 1125, false) else none)) else (bif Nat.beq pc 0 then some (.aload_n 0, 1, 0, 0, 0, 0, false) else none)))))
/-- LieAlgebra$Change.rewrite(I)I -/
def kc_Change_rewrite : Nat → Option pj_E := fun pc => bif Nat.ble 49 pc then none else bif Nat.ble 21 pc then (bif Nat.ble 34 pc then (bif Nat.ble 41 pc then (bif Nat.ble 47 pc then (bif Nat.ble 48 pc then (bif Nat.beq pc 48 then some (.ireturn, 49, 0, 0, 0, 0, false) else none) else (bif Nat.beq pc 47 then some (.iload_n 2, 48, 0, 0, 0, 0, false) else none)) else (bif Nat.ble 44 pc then (bif Nat.beq pc 44 then some (.goto (-40), 47, 4, 0, 0, 0, false) else none) else (bif Nat.beq pc 41 then some (.iinc 3 (1), 44, 0, 0, 0, 0, false) else none))) else (bif Nat.ble 37 pc then (bif Nat.ble 40 pc then (bif Nat.beq pc 40 then some (.istore_n 2, 41, 0, 0, 0, 0, false) else none) else (bif Nat.beq pc 37 then some (.invokevirtual 35, 40, 50, 0, 0, 2049, false) else none)) else (bif Nat.beq pc 34 then some (.invokevirtual 78, 37, 54, 0, 0, 2069, false) else none))) else (bif Nat.ble 28 pc then (bif Nat.ble 32 pc then (bif Nat.ble 33 pc then (bif Nat.beq pc 33 then some (.iload_n 3, 34, 0, 0, 0, 0, false) else none) else (bif Nat.beq pc 32 then some (.iload_n 1, 33, 0, 0, 0, 0, false) else none)) else (bif Nat.ble 29 pc then (bif Nat.beq pc 29 then some (.getfield 25, 32, 0, 0, 1, 1124, false) else none) else (bif Nat.beq pc 28 then some (.aload_n 0, 29, 0, 0, 0, 0, false) else none))) else (bif Nat.ble 24 pc then (bif Nat.ble 25 pc then (bif Nat.beq pc 25 then some (.invokestatic 60, 28, 62, 0, 1, 2055, false) else none) else (bif Nat.beq pc 24 then some (.iload_n 3, 25, 0, 0, 0, 0, false) else none)) else (bif Nat.beq pc 21 then some (.getfield 22, 24, 0, 3, 1, 1127, false) else none)))) else (bif Nat.ble 6 pc then (bif Nat.ble 15 pc then (bif Nat.ble 19 pc then (bif Nat.ble 20 pc then (bif Nat.beq pc 20 then some (.aload_n 0, 21, 0, 0, 0, 0, false) else none) else (bif Nat.beq pc 19 then some (.iload_n 2, 20, 0, 0, 0, 0, false) else none)) else (bif Nat.ble 16 pc then (bif Nat.beq pc 16 then some (.getfield 25, 19, 0, 0, 1, 1124, false) else none) else (bif Nat.beq pc 15 then some (.aload_n 0, 16, 0, 0, 0, 0, false) else none))) else (bif Nat.ble 9 pc then (bif Nat.ble 12 pc then (bif Nat.beq pc 12 then some (.if_icmp .ge (35), 15, 47, 0, 0, 0, false) else none) else (bif Nat.beq pc 9 then some (.getfield 54, 12, 6, 1, 0, 1036, false) else none)) else (bif Nat.beq pc 6 then some (.getfield 25, 9, 0, 0, 1, 1124, false) else none))) else (bif Nat.ble 3 pc then (bif Nat.ble 4 pc then (bif Nat.ble 5 pc then (bif Nat.beq pc 5 then some (.aload_n 0, 6, 0, 0, 0, 0, false) else none) else (bif Nat.beq pc 4 then some (.iload_n 3, 5, 0, 0, 0, 0, true) else none)) else (bif Nat.beq pc 3 then some (.istore_n 3, 4, 0, 0, 0, 0, false) else none)) else (bif Nat.ble 1 pc then (bif Nat.ble 2 pc then (bif Nat.beq pc 2 then some (.iconst (0), 3, 0, 0, 0, 0, false) else none) else (bif Nat.beq pc 1 then some (.istore_n 2, 2, 0, 0, 0, 0, false) else none)) else (bif Nat.beq pc 0 then some (.iconst (0), 1, 0, 0, 0, 0, false) else none))))
/-- LieAlgebra$Change.scale(II)V -/
def kc_Change_scale : Nat → Option pj_E := fun pc => bif Nat.ble 55 pc then none else bif Nat.ble 26 pc then (bif Nat.ble 39 pc then (bif Nat.ble 47 pc then (bif Nat.ble 51 pc then (bif Nat.ble 54 pc then (bif Nat.beq pc 54 then some (.return_, 55, 0, 0, 0, 0, false) else none) else (bif Nat.beq pc 51 then some (.invokevirtual 43, 54, 3, 0, 0, 2050, false) else none)) else (bif Nat.ble 50 pc then (bif Nat.beq pc 50 then some (.aload_n 0, 51, 0, 0, 0, 0, false) else none) else (bif Nat.beq pc 47 then some (.invokestatic 39, 50, 63, 0, 1, 2048, false) else none))) else (bif Nat.ble 43 pc then (bif Nat.ble 46 pc then (bif Nat.beq pc 46 then some (.imul, 47, 0, 0, 0, 0, false) else none) else (bif Nat.beq pc 43 then some (.invokevirtual 31, 46, 44, 0, 0, 2047, false) else none)) else (bif Nat.ble 42 pc then (bif Nat.beq pc 42 then some (.iload_n 1, 43, 0, 0, 0, 0, false) else none) else (bif Nat.beq pc 39 then some (.getfield 25, 42, 0, 0, 1, 1124, false) else none)))) else (bif Nat.ble 29 pc then (bif Nat.ble 35 pc then (bif Nat.ble 38 pc then (bif Nat.beq pc 38 then some (.aload_n 0, 39, 0, 0, 0, 0, false) else none) else (bif Nat.beq pc 35 then some (.invokestatic 50, 38, 66, 0, 1, 2085, false) else none)) else (bif Nat.ble 32 pc then (bif Nat.beq pc 32 then some (.getfield 46, 35, 6, 0, 0, 1028, false) else none) else (bif Nat.beq pc 29 then some (.getfield 25, 32, 0, 0, 1, 1124, false) else none))) else (bif Nat.ble 27 pc then (bif Nat.ble 28 pc then (bif Nat.beq pc 28 then some (.aload_n 0, 29, 0, 0, 0, 0, false) else none) else (bif Nat.beq pc 27 then some (.iload_n 2, 28, 0, 0, 0, 0, false) else none)) else (bif Nat.beq pc 26 then some (.iload_n 1, 27, 0, 0, 0, 0, false) else none)))) else (bif Nat.ble 11 pc then (bif Nat.ble 18 pc then (bif Nat.ble 22 pc then (bif Nat.ble 23 pc then (bif Nat.beq pc 23 then some (.getfield 22, 26, 0, 3, 1, 1127, false) else none) else (bif Nat.beq pc 22 then some (.aload_n 0, 23, 0, 0, 0, 0, false) else none)) else (bif Nat.ble 19 pc then (bif Nat.beq pc 19 then some (.invokestatic 39, 22, 63, 0, 1, 2048, false) else none) else (bif Nat.beq pc 18 then some (.imul, 19, 0, 0, 0, 0, false) else none))) else (bif Nat.ble 14 pc then (bif Nat.ble 15 pc then (bif Nat.beq pc 15 then some (.invokevirtual 31, 18, 44, 0, 0, 2047, false) else none) else (bif Nat.beq pc 14 then some (.iload_n 1, 15, 0, 0, 0, 0, false) else none)) else (bif Nat.beq pc 11 then some (.getfield 25, 14, 0, 0, 1, 1124, false) else none))) else (bif Nat.ble 5 pc then (bif Nat.ble 9 pc then (bif Nat.ble 10 pc then (bif Nat.beq pc 10 then some (.aload_n 0, 11, 0, 0, 0, 0, false) else none) else (bif Nat.beq pc 9 then some (.iload_n 2, 10, 0, 0, 0, 0, false) else none)) else (bif Nat.ble 8 pc then (bif Nat.beq pc 8 then some (.iload_n 1, 9, 0, 0, 0, 0, false) else none) else (bif Nat.beq pc 5 then some (.getfield 18, 8, 0, 2, 1, 1126, false) else none))) else (bif Nat.ble 1 pc then (bif Nat.ble 4 pc then (bif Nat.beq pc 4 then some (.aload_n 0, 5, 0, 0, 0, 0, false) else none) else (bif Nat.beq pc 1 then some (.invokevirtual 28, 4, 2, 0, 0, 2043, false) else none)) else (bif Nat.beq pc 0 then some (.aload_n 0, 1, 0, 0, 0, 0, false) else none))))
/-- LieAlgebra$Change.exchange(II)V -/
def kc_Change_exchange : Nat → Option pj_E := fun pc => bif Nat.ble 73 pc then none else bif Nat.ble 36 pc then (bif Nat.ble 53 pc then (bif Nat.ble 62 pc then (bif Nat.ble 68 pc then (bif Nat.ble 69 pc then (bif Nat.ble 72 pc then (bif Nat.beq pc 72 then some (.return_, 73, 0, 0, 0, 0, false) else none) else (bif Nat.beq pc 69 then some (.invokevirtual 43, 72, 3, 0, 0, 2050, false) else none)) else (bif Nat.beq pc 68 then some (.aload_n 0, 69, 0, 0, 0, 0, false) else none)) else (bif Nat.ble 65 pc then (bif Nat.beq pc 65 then some (.invokestatic 39, 68, 63, 0, 1, 2048, false) else none) else (bif Nat.beq pc 62 then some (.invokevirtual 31, 65, 44, 0, 0, 2047, false) else none))) else (bif Nat.ble 57 pc then (bif Nat.ble 58 pc then (bif Nat.ble 61 pc then (bif Nat.beq pc 61 then some (.iload_n 1, 62, 0, 0, 0, 0, false) else none) else (bif Nat.beq pc 58 then some (.getfield 25, 61, 0, 0, 1, 1124, false) else none)) else (bif Nat.beq pc 57 then some (.aload_n 0, 58, 0, 0, 0, 0, false) else none)) else (bif Nat.ble 56 pc then (bif Nat.beq pc 56 then some (.iload_n 2, 57, 0, 0, 0, 0, false) else none) else (bif Nat.beq pc 53 then some (.getfield 22, 56, 0, 3, 1, 1127, false) else none)))) else (bif Nat.ble 42 pc then (bif Nat.ble 46 pc then (bif Nat.ble 49 pc then (bif Nat.ble 52 pc then (bif Nat.beq pc 52 then some (.aload_n 0, 53, 0, 0, 0, 0, false) else none) else (bif Nat.beq pc 49 then some (.invokestatic 39, 52, 63, 0, 1, 2048, false) else none)) else (bif Nat.beq pc 46 then some (.invokevirtual 31, 49, 44, 0, 0, 2047, false) else none)) else (bif Nat.ble 45 pc then (bif Nat.beq pc 45 then some (.iload_n 2, 46, 0, 0, 0, 0, false) else none) else (bif Nat.beq pc 42 then some (.getfield 25, 45, 0, 0, 1, 1124, false) else none))) else (bif Nat.ble 40 pc then (bif Nat.ble 41 pc then (bif Nat.beq pc 41 then some (.aload_n 0, 42, 0, 0, 0, 0, false) else none) else (bif Nat.beq pc 40 then some (.iload_n 1, 41, 0, 0, 0, 0, false) else none)) else (bif Nat.ble 37 pc then (bif Nat.beq pc 37 then some (.getfield 22, 40, 0, 3, 1, 1127, false) else none) else (bif Nat.beq pc 36 then some (.aload_n 0, 37, 0, 0, 0, 0, false) else none))))) else (bif Nat.ble 17 pc then (bif Nat.ble 25 pc then (bif Nat.ble 29 pc then (bif Nat.ble 30 pc then (bif Nat.ble 33 pc then (bif Nat.beq pc 33 then some (.invokestatic 39, 36, 63, 0, 1, 2048, false) else none) else (bif Nat.beq pc 30 then some (.invokevirtual 31, 33, 44, 0, 0, 2047, false) else none)) else (bif Nat.beq pc 29 then some (.iload_n 1, 30, 0, 0, 0, 0, false) else none)) else (bif Nat.ble 26 pc then (bif Nat.beq pc 26 then some (.getfield 25, 29, 0, 0, 1, 1124, false) else none) else (bif Nat.beq pc 25 then some (.aload_n 0, 26, 0, 0, 0, 0, false) else none))) else (bif Nat.ble 21 pc then (bif Nat.ble 24 pc then (bif Nat.beq pc 24 then some (.iload_n 2, 25, 0, 0, 0, 0, false) else none) else (bif Nat.beq pc 21 then some (.getfield 18, 24, 0, 2, 1, 1126, false) else none)) else (bif Nat.ble 20 pc then (bif Nat.beq pc 20 then some (.aload_n 0, 21, 0, 0, 0, 0, false) else none) else (bif Nat.beq pc 17 then some (.invokestatic 39, 20, 63, 0, 1, 2048, false) else none)))) else (bif Nat.ble 8 pc then (bif Nat.ble 10 pc then (bif Nat.ble 13 pc then (bif Nat.ble 14 pc then (bif Nat.beq pc 14 then some (.invokevirtual 31, 17, 44, 0, 0, 2047, false) else none) else (bif Nat.beq pc 13 then some (.iload_n 2, 14, 0, 0, 0, 0, false) else none)) else (bif Nat.beq pc 10 then some (.getfield 25, 13, 0, 0, 1, 1124, false) else none)) else (bif Nat.ble 9 pc then (bif Nat.beq pc 9 then some (.aload_n 0, 10, 0, 0, 0, 0, false) else none) else (bif Nat.beq pc 8 then some (.iload_n 1, 9, 0, 0, 0, 0, false) else none))) else (bif Nat.ble 4 pc then (bif Nat.ble 5 pc then (bif Nat.beq pc 5 then some (.getfield 18, 8, 0, 2, 1, 1126, false) else none) else (bif Nat.beq pc 4 then some (.aload_n 0, 5, 0, 0, 0, 0, false) else none)) else (bif Nat.ble 1 pc then (bif Nat.beq pc 1 then some (.invokevirtual 28, 4, 2, 0, 0, 2043, false) else none) else (bif Nat.beq pc 0 then some (.aload_n 0, 1, 0, 0, 0, 0, false) else none)))))
/-- LieAlgebra$Maps.<init>(LLieAlgebra$Table;)V -/
def kc_Maps_init : Nat → Option pj_E := fun pc => bif Nat.ble 35 pc then none else bif Nat.ble 17 pc then (bif Nat.ble 26 pc then (bif Nat.ble 30 pc then (bif Nat.ble 31 pc then (bif Nat.ble 34 pc then (bif Nat.beq pc 34 then some (.return_, 35, 0, 0, 0, 0, false) else none) else (bif Nat.beq pc 31 then some (.putfield 23, 34, 1, 0, 1, 1106, false) else none)) else (bif Nat.beq pc 30 then some (.aload_n 1, 31, 0, 0, 0, 0, false) else none)) else (bif Nat.ble 29 pc then (bif Nat.beq pc 29 then some (.aload_n 0, 30, 0, 0, 0, 0, false) else none) else (bif Nat.beq pc 26 then some (.putfield 20, 29, 1, 2, 1, 1108, false) else none))) else (bif Nat.ble 21 pc then (bif Nat.ble 23 pc then (bif Nat.beq pc 23 then some (.invokespecial 11, 26, 30, 0, 0, 1105, false) else none) else (bif Nat.beq pc 21 then some (.bipush (25), 23, 0, 0, 0, 0, false) else none)) else (bif Nat.ble 20 pc then (bif Nat.beq pc 20 then some (.dup, 21, 0, 0, 0, 0, false) else none) else (bif Nat.beq pc 17 then some (.new 9, 20, 5, 0, 0, 1104, false) else none)))) else (bif Nat.ble 8 pc then (bif Nat.ble 10 pc then (bif Nat.ble 13 pc then (bif Nat.ble 16 pc then (bif Nat.beq pc 16 then some (.aload_n 0, 17, 0, 0, 0, 0, false) else none) else (bif Nat.beq pc 13 then some (.putfield 14, 16, 1, 1, 1, 1107, false) else none)) else (bif Nat.beq pc 10 then some (.invokespecial 11, 13, 30, 0, 0, 1105, false) else none)) else (bif Nat.ble 9 pc then (bif Nat.beq pc 9 then some (.iconst (5), 10, 0, 0, 0, 0, false) else none) else (bif Nat.beq pc 8 then some (.dup, 9, 0, 0, 0, 0, false) else none))) else (bif Nat.ble 4 pc then (bif Nat.ble 5 pc then (bif Nat.beq pc 5 then some (.new 9, 8, 5, 0, 0, 1104, false) else none) else (bif Nat.beq pc 4 then some (.aload_n 0, 5, 0, 0, 0, 0, false) else none)) else (bif Nat.ble 1 pc then (bif Nat.beq pc 1 then some (.invokespecial 3, 4, 0, 1, 0, 1103, false) else none) else (bif Nat.beq pc 0 then some (.aload_n 0, 1, 0, 0, 0, 0, false) else none))))
/-- LieAlgebra$Maps.radicalSize()I -/
def kc_Maps_radicalSize : Nat → Option pj_E := fun pc => bif Nat.ble 111 pc then none else bif Nat.ble 52 pc then (bif Nat.ble 81 pc then (bif Nat.ble 96 pc then (bif Nat.ble 103 pc then (bif Nat.ble 109 pc then (bif Nat.ble 110 pc then (bif Nat.beq pc 110 then some (.ireturn, 111, 0, 0, 0, 0, false) else none) else (bif Nat.beq pc 109 then some (.isub, 110, 0, 0, 0, 0, false) else none)) else (bif Nat.ble 106 pc then (bif Nat.beq pc 106 then some (.getfield 69, 109, 5, 4, 0, 1072, false) else none) else (bif Nat.beq pc 103 then some (.getfield 14, 106, 1, 1, 1, 1107, false) else none))) else (bif Nat.ble 99 pc then (bif Nat.ble 102 pc then (bif Nat.beq pc 102 then some (.aload_n 0, 103, 0, 0, 0, 0, false) else none) else (bif Nat.beq pc 99 then some (.getfield 27, 102, 6, 1, 0, 1033, false) else none)) else (bif Nat.beq pc 96 then some (.getfield 23, 99, 1, 0, 1, 1106, false) else none))) else (bif Nat.ble 88 pc then (bif Nat.ble 92 pc then (bif Nat.ble 95 pc then (bif Nat.beq pc 95 then some (.aload_n 0, 96, 0, 0, 0, 0, false) else none) else (bif Nat.beq pc 92 then some (.goto (-69), 95, 23, 0, 0, 0, false) else none)) else (bif Nat.ble 89 pc then (bif Nat.beq pc 89 then some (.iinc 1 (1), 92, 0, 0, 0, 0, false) else none) else (bif Nat.beq pc 88 then some (.pop, 89, 0, 0, 0, 0, false) else none))) else (bif Nat.ble 82 pc then (bif Nat.ble 85 pc then (bif Nat.beq pc 85 then some (.invokevirtual 65, 88, 34, 0, 0, 3034, false) else none) else (bif Nat.beq pc 82 then some (.getfield 14, 85, 1, 1, 1, 1107, false) else none)) else (bif Nat.beq pc 81 then some (.aload_n 0, 82, 0, 0, 0, 0, false) else none)))) else (bif Nat.ble 62 pc then (bif Nat.ble 69 pc then (bif Nat.ble 75 pc then (bif Nat.ble 78 pc then (bif Nat.beq pc 78 then some (.goto (-42), 81, 36, 0, 0, 0, false) else none) else (bif Nat.beq pc 75 then some (.iinc 2 (1), 78, 0, 0, 0, 0, false) else none)) else (bif Nat.ble 72 pc then (bif Nat.beq pc 72 then some (.invokevirtual 62, 75, 33, 0, 0, 3033, false) else none) else (bif Nat.beq pc 69 then some (.invokevirtual 59, 72, 9, 0, 0, 3026, false) else none))) else (bif Nat.ble 65 pc then (bif Nat.ble 66 pc then (bif Nat.beq pc 66 then some (.invokevirtual 33, 69, 44, 0, 0, 3025, false) else none) else (bif Nat.beq pc 65 then some (.iload_n 2, 66, 0, 0, 0, 0, false) else none)) else (bif Nat.beq pc 62 then some (.getfield 23, 65, 1, 0, 1, 1106, false) else none))) else (bif Nat.ble 57 pc then (bif Nat.ble 58 pc then (bif Nat.ble 61 pc then (bif Nat.beq pc 61 then some (.aload_n 0, 62, 0, 0, 0, 0, false) else none) else (bif Nat.beq pc 58 then some (.invokevirtual 33, 61, 44, 0, 0, 3025, false) else none)) else (bif Nat.beq pc 57 then some (.iload_n 1, 58, 0, 0, 0, 0, false) else none)) else (bif Nat.ble 53 pc then (bif Nat.ble 54 pc then (bif Nat.beq pc 54 then some (.getfield 23, 57, 1, 0, 1, 1106, false) else none) else (bif Nat.beq pc 53 then some (.aload_n 0, 54, 0, 0, 0, 0, false) else none)) else (bif Nat.beq pc 52 then some (.aload_n 0, 53, 0, 0, 0, 0, false) else none))))) else (bif Nat.ble 25 pc then (bif Nat.ble 37 pc then (bif Nat.ble 44 pc then (bif Nat.ble 48 pc then (bif Nat.ble 51 pc then (bif Nat.beq pc 51 then some (.iload_n 2, 52, 0, 0, 0, 0, false) else none) else (bif Nat.beq pc 48 then some (.getfield 14, 51, 1, 1, 1, 1107, false) else none)) else (bif Nat.ble 47 pc then (bif Nat.beq pc 47 then some (.aload_n 0, 48, 0, 0, 0, 0, false) else none) else (bif Nat.beq pc 44 then some (.if_icmp .ge (37), 47, 81, 0, 0, 0, false) else none))) else (bif Nat.ble 38 pc then (bif Nat.ble 41 pc then (bif Nat.beq pc 41 then some (.getfield 27, 44, 6, 1, 0, 1033, false) else none) else (bif Nat.beq pc 38 then some (.getfield 23, 41, 1, 0, 1, 1106, false) else none)) else (bif Nat.beq pc 37 then some (.aload_n 0, 38, 0, 0, 0, 0, false) else none))) else (bif Nat.ble 34 pc then (bif Nat.ble 35 pc then (bif Nat.ble 36 pc then (bif Nat.beq pc 36 then some (.iload_n 2, 37, 0, 0, 0, 0, true) else none) else (bif Nat.beq pc 35 then some (.istore_n 2, 36, 0, 0, 0, 0, false) else none)) else (bif Nat.beq pc 34 then some (.iconst (0), 35, 0, 0, 0, 0, false) else none)) else (bif Nat.ble 28 pc then (bif Nat.ble 31 pc then (bif Nat.beq pc 31 then some (.if_icmp .ge (64), 34, 95, 0, 0, 0, false) else none) else (bif Nat.beq pc 28 then some (.getfield 27, 31, 6, 1, 0, 1033, false) else none)) else (bif Nat.beq pc 25 then some (.getfield 23, 28, 1, 0, 1, 1106, false) else none)))) else (bif Nat.ble 12 pc then (bif Nat.ble 21 pc then (bif Nat.ble 23 pc then (bif Nat.ble 24 pc then (bif Nat.beq pc 24 then some (.aload_n 0, 25, 0, 0, 0, 0, false) else none) else (bif Nat.beq pc 23 then some (.iload_n 1, 24, 0, 0, 0, 0, true) else none)) else (bif Nat.ble 22 pc then (bif Nat.beq pc 22 then some (.istore_n 1, 23, 0, 0, 0, 0, false) else none) else (bif Nat.beq pc 21 then some (.iconst (0), 22, 0, 0, 0, 0, false) else none))) else (bif Nat.ble 15 pc then (bif Nat.ble 18 pc then (bif Nat.beq pc 18 then some (.invokevirtual 55, 21, 31, 0, 0, 3024, false) else none) else (bif Nat.beq pc 15 then some (.getfield 27, 18, 6, 1, 0, 1033, false) else none)) else (bif Nat.beq pc 12 then some (.getfield 23, 15, 1, 0, 1, 1106, false) else none))) else (bif Nat.ble 5 pc then (bif Nat.ble 8 pc then (bif Nat.ble 11 pc then (bif Nat.beq pc 11 then some (.aload_n 0, 12, 0, 0, 0, 0, false) else none) else (bif Nat.beq pc 8 then some (.getfield 52, 11, 6, 0, 0, 1029, false) else none)) else (bif Nat.beq pc 5 then some (.getfield 23, 8, 1, 0, 1, 1106, false) else none)) else (bif Nat.ble 1 pc then (bif Nat.ble 4 pc then (bif Nat.beq pc 4 then some (.aload_n 0, 5, 0, 0, 0, 0, false) else none) else (bif Nat.beq pc 1 then some (.getfield 14, 4, 1, 1, 1, 1107, false) else none)) else (bif Nat.beq pc 0 then some (.aload_n 0, 1, 0, 0, 0, 0, false) else none)))))
/-- LieAlgebra$Maps.trace(II)I -/
def kc_Maps_trace : Nat → Option pj_E := fun pc => bif Nat.ble 73 pc then none else bif Nat.ble 33 pc then (bif Nat.ble 53 pc then (bif Nat.ble 64 pc then (bif Nat.ble 68 pc then (bif Nat.ble 69 pc then (bif Nat.ble 72 pc then (bif Nat.beq pc 72 then some (.ireturn, 73, 0, 0, 0, 0, false) else none) else (bif Nat.beq pc 69 then some (.invokevirtual 49, 72, 51, 0, 0, 3032, false) else none)) else (bif Nat.beq pc 68 then some (.iload_n 3, 69, 0, 0, 0, 0, false) else none)) else (bif Nat.ble 65 pc then (bif Nat.beq pc 65 then some (.getfield 23, 68, 1, 0, 1, 1106, false) else none) else (bif Nat.beq pc 64 then some (.aload_n 0, 65, 0, 0, 0, 0, false) else none))) else (bif Nat.ble 57 pc then (bif Nat.ble 58 pc then (bif Nat.ble 61 pc then (bif Nat.beq pc 61 then some (.goto (-56), 64, 5, 0, 0, 0, false) else none) else (bif Nat.beq pc 58 then some (.iinc 4 (1), 61, 0, 0, 0, 0, false) else none)) else (bif Nat.beq pc 57 then some (.istore_n 3, 58, 0, 0, 0, 0, false) else none)) else (bif Nat.ble 56 pc then (bif Nat.beq pc 56 then some (.iadd, 57, 0, 0, 0, 0, false) else none) else (bif Nat.beq pc 53 then some (.invokevirtual 46, 56, 54, 0, 0, 3031, false) else none)))) else (bif Nat.ble 44 pc then (bif Nat.ble 46 pc then (bif Nat.ble 49 pc then (bif Nat.ble 51 pc then (bif Nat.beq pc 51 then some (.iload 4, 53, 0, 0, 0, 0, false) else none) else (bif Nat.beq pc 49 then some (.iload 5, 51, 0, 0, 0, 0, false) else none)) else (bif Nat.beq pc 46 then some (.getfield 23, 49, 1, 0, 1, 1106, false) else none)) else (bif Nat.ble 45 pc then (bif Nat.beq pc 45 then some (.aload_n 0, 46, 0, 0, 0, 0, false) else none) else (bif Nat.beq pc 44 then some (.iload_n 3, 45, 0, 0, 0, 0, false) else none))) else (bif Nat.ble 39 pc then (bif Nat.ble 42 pc then (bif Nat.beq pc 42 then some (.istore 5, 44, 0, 0, 0, 0, false) else none) else (bif Nat.beq pc 39 then some (.invokevirtual 37, 42, 53, 0, 0, 3030, false) else none)) else (bif Nat.ble 36 pc then (bif Nat.beq pc 36 then some (.invokevirtual 37, 39, 53, 0, 0, 3030, false) else none) else (bif Nat.beq pc 33 then some (.invokevirtual 33, 36, 44, 0, 0, 3025, false) else none))))) else (bif Nat.ble 17 pc then (bif Nat.ble 23 pc then (bif Nat.ble 27 pc then (bif Nat.ble 28 pc then (bif Nat.ble 31 pc then (bif Nat.beq pc 31 then some (.iload 4, 33, 0, 0, 0, 0, false) else none) else (bif Nat.beq pc 28 then some (.getfield 23, 31, 1, 0, 1, 1106, false) else none)) else (bif Nat.beq pc 27 then some (.aload_n 0, 28, 0, 0, 0, 0, false) else none)) else (bif Nat.ble 26 pc then (bif Nat.beq pc 26 then some (.iload_n 2, 27, 0, 0, 0, 0, false) else none) else (bif Nat.beq pc 23 then some (.getfield 23, 26, 1, 0, 1, 1106, false) else none))) else (bif Nat.ble 21 pc then (bif Nat.ble 22 pc then (bif Nat.beq pc 22 then some (.aload_n 0, 23, 0, 0, 0, 0, false) else none) else (bif Nat.beq pc 21 then some (.iload_n 1, 22, 0, 0, 0, 0, false) else none)) else (bif Nat.ble 18 pc then (bif Nat.beq pc 18 then some (.getfield 23, 21, 1, 0, 1, 1106, false) else none) else (bif Nat.beq pc 17 then some (.aload_n 0, 18, 0, 0, 0, 0, false) else none)))) else (bif Nat.ble 5 pc then (bif Nat.ble 8 pc then (bif Nat.ble 11 pc then (bif Nat.ble 14 pc then (bif Nat.beq pc 14 then some (.if_icmp .ge (50), 17, 64, 0, 0, 0, false) else none) else (bif Nat.beq pc 11 then some (.getfield 27, 14, 6, 1, 0, 1033, false) else none)) else (bif Nat.beq pc 8 then some (.getfield 23, 11, 1, 0, 1, 1106, false) else none)) else (bif Nat.ble 7 pc then (bif Nat.beq pc 7 then some (.aload_n 0, 8, 0, 0, 0, 0, false) else none) else (bif Nat.beq pc 5 then some (.iload 4, 7, 0, 0, 0, 0, true) else none))) else (bif Nat.ble 2 pc then (bif Nat.ble 3 pc then (bif Nat.beq pc 3 then some (.istore 4, 5, 0, 0, 0, 0, false) else none) else (bif Nat.beq pc 2 then some (.iconst (0), 3, 0, 0, 0, 0, false) else none)) else (bif Nat.ble 1 pc then (bif Nat.beq pc 1 then some (.istore_n 3, 2, 0, 0, 0, 0, false) else none) else (bif Nat.beq pc 0 then some (.iconst (0), 1, 0, 0, 0, 0, false) else none)))))
/-- LieAlgebra$Maps.derivationCount()I -/
def kc_Maps_derivationCount : Nat → Option pj_E := fun pc => bif Nat.ble 119 pc then none else bif Nat.ble 57 pc then (bif Nat.ble 86 pc then (bif Nat.ble 103 pc then (bif Nat.ble 111 pc then (bif Nat.ble 117 pc then (bif Nat.ble 118 pc then (bif Nat.beq pc 118 then some (.ireturn, 119, 0, 0, 0, 0, false) else none) else (bif Nat.beq pc 117 then some (.isub, 118, 0, 0, 0, 0, false) else none)) else (bif Nat.ble 114 pc then (bif Nat.beq pc 114 then some (.getfield 69, 117, 5, 4, 0, 1072, false) else none) else (bif Nat.beq pc 111 then some (.getfield 20, 114, 1, 2, 1, 1108, false) else none))) else (bif Nat.ble 109 pc then (bif Nat.ble 110 pc then (bif Nat.beq pc 110 then some (.aload_n 0, 111, 0, 0, 0, 0, false) else none) else (bif Nat.beq pc 109 then some (.imul, 110, 0, 0, 0, 0, false) else none)) else (bif Nat.ble 106 pc then (bif Nat.beq pc 106 then some (.getfield 27, 109, 6, 1, 0, 1033, false) else none) else (bif Nat.beq pc 103 then some (.getfield 23, 106, 1, 0, 1, 1106, false) else none)))) else (bif Nat.ble 95 pc then (bif Nat.ble 99 pc then (bif Nat.ble 102 pc then (bif Nat.beq pc 102 then some (.aload_n 0, 103, 0, 0, 0, 0, false) else none) else (bif Nat.beq pc 99 then some (.getfield 27, 102, 6, 1, 0, 1033, false) else none)) else (bif Nat.ble 96 pc then (bif Nat.beq pc 96 then some (.getfield 23, 99, 1, 0, 1, 1106, false) else none) else (bif Nat.beq pc 95 then some (.aload_n 0, 96, 0, 0, 0, 0, false) else none))) else (bif Nat.ble 89 pc then (bif Nat.ble 92 pc then (bif Nat.beq pc 92 then some (.goto (-61), 95, 31, 0, 0, 0, false) else none) else (bif Nat.beq pc 89 then some (.iinc 1 (1), 92, 0, 0, 0, 0, false) else none)) else (bif Nat.beq pc 86 then some (.goto (-40), 89, 46, 0, 0, 0, false) else none)))) else (bif Nat.ble 70 pc then (bif Nat.ble 74 pc then (bif Nat.ble 80 pc then (bif Nat.ble 83 pc then (bif Nat.beq pc 83 then some (.iinc 2 (1), 86, 0, 0, 0, 0, false) else none) else (bif Nat.beq pc 80 then some (.goto (-21), 83, 59, 0, 0, 0, false) else none)) else (bif Nat.ble 77 pc then (bif Nat.beq pc 77 then some (.iinc 3 (1), 80, 0, 0, 0, 0, false) else none) else (bif Nat.beq pc 74 then some (.invokevirtual 72, 77, 11, 0, 0, 3043, false) else none))) else (bif Nat.ble 72 pc then (bif Nat.ble 73 pc then (bif Nat.beq pc 73 then some (.iload_n 3, 74, 0, 0, 0, 0, false) else none) else (bif Nat.beq pc 72 then some (.iload_n 2, 73, 0, 0, 0, 0, false) else none)) else (bif Nat.ble 71 pc then (bif Nat.beq pc 71 then some (.iload_n 1, 72, 0, 0, 0, 0, false) else none) else (bif Nat.beq pc 70 then some (.aload_n 0, 71, 0, 0, 0, 0, false) else none)))) else (bif Nat.ble 60 pc then (bif Nat.ble 64 pc then (bif Nat.ble 67 pc then (bif Nat.beq pc 67 then some (.if_icmp .ge (16), 70, 83, 0, 0, 0, false) else none) else (bif Nat.beq pc 64 then some (.getfield 27, 67, 6, 1, 0, 1033, false) else none)) else (bif Nat.ble 61 pc then (bif Nat.beq pc 61 then some (.getfield 23, 64, 1, 0, 1, 1106, false) else none) else (bif Nat.beq pc 60 then some (.aload_n 0, 61, 0, 0, 0, 0, false) else none))) else (bif Nat.ble 58 pc then (bif Nat.ble 59 pc then (bif Nat.beq pc 59 then some (.iload_n 3, 60, 0, 0, 0, 0, true) else none) else (bif Nat.beq pc 58 then some (.istore_n 3, 59, 0, 0, 0, 0, false) else none)) else (bif Nat.beq pc 57 then some (.iconst (0), 58, 0, 0, 0, 0, false) else none))))) else (bif Nat.ble 30 pc then (bif Nat.ble 43 pc then (bif Nat.ble 47 pc then (bif Nat.ble 51 pc then (bif Nat.ble 54 pc then (bif Nat.beq pc 54 then some (.if_icmp .ge (35), 57, 89, 0, 0, 0, false) else none) else (bif Nat.beq pc 51 then some (.getfield 27, 54, 6, 1, 0, 1033, false) else none)) else (bif Nat.ble 48 pc then (bif Nat.beq pc 48 then some (.getfield 23, 51, 1, 0, 1, 1106, false) else none) else (bif Nat.beq pc 47 then some (.aload_n 0, 48, 0, 0, 0, 0, false) else none))) else (bif Nat.ble 45 pc then (bif Nat.ble 46 pc then (bif Nat.beq pc 46 then some (.iload_n 2, 47, 0, 0, 0, 0, true) else none) else (bif Nat.beq pc 45 then some (.istore_n 2, 46, 0, 0, 0, 0, false) else none)) else (bif Nat.ble 44 pc then (bif Nat.beq pc 44 then some (.iadd, 45, 0, 0, 0, 0, false) else none) else (bif Nat.beq pc 43 then some (.iconst (1), 44, 0, 0, 0, 0, false) else none)))) else (bif Nat.ble 33 pc then (bif Nat.ble 39 pc then (bif Nat.ble 42 pc then (bif Nat.beq pc 42 then some (.iload_n 1, 43, 0, 0, 0, 0, false) else none) else (bif Nat.beq pc 39 then some (.if_icmp .ge (56), 42, 95, 0, 0, 0, false) else none)) else (bif Nat.ble 36 pc then (bif Nat.beq pc 36 then some (.getfield 27, 39, 6, 1, 0, 1033, false) else none) else (bif Nat.beq pc 33 then some (.getfield 23, 36, 1, 0, 1, 1106, false) else none))) else (bif Nat.ble 31 pc then (bif Nat.ble 32 pc then (bif Nat.beq pc 32 then some (.aload_n 0, 33, 0, 0, 0, 0, false) else none) else (bif Nat.beq pc 31 then some (.iload_n 1, 32, 0, 0, 0, 0, true) else none)) else (bif Nat.beq pc 30 then some (.istore_n 1, 31, 0, 0, 0, 0, false) else none)))) else (bif Nat.ble 15 pc then (bif Nat.ble 22 pc then (bif Nat.ble 26 pc then (bif Nat.ble 29 pc then (bif Nat.beq pc 29 then some (.iconst (0), 30, 0, 0, 0, 0, false) else none) else (bif Nat.beq pc 26 then some (.invokevirtual 55, 29, 31, 0, 0, 3024, false) else none)) else (bif Nat.ble 25 pc then (bif Nat.beq pc 25 then some (.imul, 26, 0, 0, 0, 0, false) else none) else (bif Nat.beq pc 22 then some (.getfield 27, 25, 6, 1, 0, 1033, false) else none))) else (bif Nat.ble 18 pc then (bif Nat.ble 19 pc then (bif Nat.beq pc 19 then some (.getfield 23, 22, 1, 0, 1, 1106, false) else none) else (bif Nat.beq pc 18 then some (.aload_n 0, 19, 0, 0, 0, 0, false) else none)) else (bif Nat.beq pc 15 then some (.getfield 27, 18, 6, 1, 0, 1033, false) else none))) else (bif Nat.ble 5 pc then (bif Nat.ble 11 pc then (bif Nat.ble 12 pc then (bif Nat.beq pc 12 then some (.getfield 23, 15, 1, 0, 1, 1106, false) else none) else (bif Nat.beq pc 11 then some (.aload_n 0, 12, 0, 0, 0, 0, false) else none)) else (bif Nat.ble 8 pc then (bif Nat.beq pc 8 then some (.getfield 52, 11, 6, 0, 0, 1029, false) else none) else (bif Nat.beq pc 5 then some (.getfield 23, 8, 1, 0, 1, 1106, false) else none))) else (bif Nat.ble 1 pc then (bif Nat.ble 4 pc then (bif Nat.beq pc 4 then some (.aload_n 0, 5, 0, 0, 0, 0, false) else none) else (bif Nat.beq pc 1 then some (.getfield 20, 4, 1, 2, 1, 1108, false) else none)) else (bif Nat.beq pc 0 then some (.aload_n 0, 1, 0, 0, 0, 0, false) else none)))))
/-- LieAlgebra$Maps.addDerivationRule(III)V -/
def kc_Maps_addDerivationRule : Nat → Option pj_E := fun pc => bif Nat.ble 128 pc then none else bif Nat.ble 63 pc then (bif Nat.ble 95 pc then (bif Nat.ble 110 pc then (bif Nat.ble 120 pc then (bif Nat.ble 126 pc then (bif Nat.ble 127 pc then (bif Nat.beq pc 127 then some (.return_, 128, 0, 0, 0, 0, false) else none) else (bif Nat.beq pc 126 then some (.pop, 127, 0, 0, 0, 0, false) else none)) else (bif Nat.ble 123 pc then (bif Nat.beq pc 123 then some (.invokevirtual 65, 126, 34, 0, 0, 3034, false) else none) else (bif Nat.beq pc 120 then some (.getfield 20, 123, 1, 2, 1, 1108, false) else none))) else (bif Nat.ble 116 pc then (bif Nat.ble 119 pc then (bif Nat.beq pc 119 then some (.aload_n 0, 120, 0, 0, 0, 0, false) else none) else (bif Nat.beq pc 116 then some (.goto (-113), 119, 3, 0, 0, 0, false) else none)) else (bif Nat.ble 113 pc then (bif Nat.beq pc 113 then some (.iinc 4 (1), 116, 0, 0, 0, 0, false) else none) else (bif Nat.beq pc 110 then some (.invokevirtual 62, 113, 33, 0, 0, 3033, false) else none)))) else (bif Nat.ble 102 pc then (bif Nat.ble 106 pc then (bif Nat.ble 109 pc then (bif Nat.beq pc 109 then some (.ineg, 110, 0, 0, 0, 0, false) else none) else (bif Nat.beq pc 106 then some (.invokevirtual 46, 109, 54, 0, 0, 3031, false) else none)) else (bif Nat.ble 105 pc then (bif Nat.beq pc 105 then some (.iload_n 3, 106, 0, 0, 0, 0, false) else none) else (bif Nat.beq pc 102 then some (.invokevirtual 79, 105, 48, 0, 0, 3051, false) else none))) else (bif Nat.ble 99 pc then (bif Nat.ble 100 pc then (bif Nat.beq pc 100 then some (.iload 4, 102, 0, 0, 0, 0, false) else none) else (bif Nat.beq pc 99 then some (.iload_n 1, 100, 0, 0, 0, 0, false) else none)) else (bif Nat.ble 96 pc then (bif Nat.beq pc 96 then some (.getfield 23, 99, 1, 0, 1, 1106, false) else none) else (bif Nat.beq pc 95 then some (.aload_n 0, 96, 0, 0, 0, 0, false) else none))))) else (bif Nat.ble 80 pc then (bif Nat.ble 87 pc then (bif Nat.ble 91 pc then (bif Nat.ble 92 pc then (bif Nat.beq pc 92 then some (.getfield 23, 95, 1, 0, 1, 1106, false) else none) else (bif Nat.beq pc 91 then some (.aload_n 0, 92, 0, 0, 0, 0, false) else none)) else (bif Nat.ble 88 pc then (bif Nat.beq pc 88 then some (.invokevirtual 76, 91, 12, 0, 0, 3047, false) else none) else (bif Nat.beq pc 87 then some (.iload_n 2, 88, 0, 0, 0, 0, false) else none))) else (bif Nat.ble 84 pc then (bif Nat.ble 85 pc then (bif Nat.beq pc 85 then some (.iload 4, 87, 0, 0, 0, 0, false) else none) else (bif Nat.beq pc 84 then some (.aload_n 0, 85, 0, 0, 0, 0, false) else none)) else (bif Nat.ble 81 pc then (bif Nat.beq pc 81 then some (.getfield 20, 84, 1, 2, 1, 1108, false) else none) else (bif Nat.beq pc 80 then some (.aload_n 0, 81, 0, 0, 0, 0, false) else none)))) else (bif Nat.ble 72 pc then (bif Nat.ble 76 pc then (bif Nat.ble 77 pc then (bif Nat.beq pc 77 then some (.invokevirtual 62, 80, 33, 0, 0, 3033, false) else none) else (bif Nat.beq pc 76 then some (.ineg, 77, 0, 0, 0, 0, false) else none)) else (bif Nat.ble 73 pc then (bif Nat.beq pc 73 then some (.invokevirtual 46, 76, 54, 0, 0, 3031, false) else none) else (bif Nat.beq pc 72 then some (.iload_n 3, 73, 0, 0, 0, 0, false) else none))) else (bif Nat.ble 68 pc then (bif Nat.ble 69 pc then (bif Nat.beq pc 69 then some (.invokevirtual 79, 72, 48, 0, 0, 3051, false) else none) else (bif Nat.beq pc 68 then some (.iload_n 2, 69, 0, 0, 0, 0, false) else none)) else (bif Nat.ble 66 pc then (bif Nat.beq pc 66 then some (.iload 4, 68, 0, 0, 0, 0, false) else none) else (bif Nat.beq pc 63 then some (.getfield 23, 66, 1, 0, 1, 1106, false) else none)))))) else (bif Nat.ble 31 pc then (bif Nat.ble 48 pc then (bif Nat.ble 55 pc then (bif Nat.ble 59 pc then (bif Nat.ble 62 pc then (bif Nat.beq pc 62 then some (.aload_n 0, 63, 0, 0, 0, 0, false) else none) else (bif Nat.beq pc 59 then some (.getfield 23, 62, 1, 0, 1, 1106, false) else none)) else (bif Nat.ble 58 pc then (bif Nat.beq pc 58 then some (.aload_n 0, 59, 0, 0, 0, 0, false) else none) else (bif Nat.beq pc 55 then some (.invokevirtual 76, 58, 12, 0, 0, 3047, false) else none))) else (bif Nat.ble 52 pc then (bif Nat.ble 54 pc then (bif Nat.beq pc 54 then some (.iload_n 1, 55, 0, 0, 0, 0, false) else none) else (bif Nat.beq pc 52 then some (.iload 4, 54, 0, 0, 0, 0, false) else none)) else (bif Nat.ble 51 pc then (bif Nat.beq pc 51 then some (.aload_n 0, 52, 0, 0, 0, 0, false) else none) else (bif Nat.beq pc 48 then some (.getfield 20, 51, 1, 2, 1, 1108, false) else none)))) else (bif Nat.ble 39 pc then (bif Nat.ble 44 pc then (bif Nat.ble 47 pc then (bif Nat.beq pc 47 then some (.aload_n 0, 48, 0, 0, 0, 0, false) else none) else (bif Nat.beq pc 44 then some (.invokevirtual 62, 47, 33, 0, 0, 3033, false) else none)) else (bif Nat.ble 41 pc then (bif Nat.beq pc 41 then some (.invokevirtual 46, 44, 54, 0, 0, 3031, false) else none) else (bif Nat.beq pc 39 then some (.iload 4, 41, 0, 0, 0, 0, false) else none))) else (bif Nat.ble 35 pc then (bif Nat.ble 36 pc then (bif Nat.beq pc 36 then some (.invokevirtual 79, 39, 48, 0, 0, 3051, false) else none) else (bif Nat.beq pc 35 then some (.iload_n 2, 36, 0, 0, 0, 0, false) else none)) else (bif Nat.ble 34 pc then (bif Nat.beq pc 34 then some (.iload_n 1, 35, 0, 0, 0, 0, false) else none) else (bif Nat.beq pc 31 then some (.getfield 23, 34, 1, 0, 1, 1106, false) else none))))) else (bif Nat.ble 16 pc then (bif Nat.ble 23 pc then (bif Nat.ble 27 pc then (bif Nat.ble 30 pc then (bif Nat.beq pc 30 then some (.aload_n 0, 31, 0, 0, 0, 0, false) else none) else (bif Nat.beq pc 27 then some (.getfield 23, 30, 1, 0, 1, 1106, false) else none)) else (bif Nat.ble 26 pc then (bif Nat.beq pc 26 then some (.aload_n 0, 27, 0, 0, 0, 0, false) else none) else (bif Nat.beq pc 23 then some (.invokevirtual 76, 26, 12, 0, 0, 3047, false) else none))) else (bif Nat.ble 20 pc then (bif Nat.ble 21 pc then (bif Nat.beq pc 21 then some (.iload 4, 23, 0, 0, 0, 0, false) else none) else (bif Nat.beq pc 20 then some (.iload_n 3, 21, 0, 0, 0, 0, false) else none)) else (bif Nat.ble 19 pc then (bif Nat.beq pc 19 then some (.aload_n 0, 20, 0, 0, 0, 0, false) else none) else (bif Nat.beq pc 16 then some (.getfield 20, 19, 1, 2, 1, 1108, false) else none)))) else (bif Nat.ble 6 pc then (bif Nat.ble 12 pc then (bif Nat.ble 15 pc then (bif Nat.beq pc 15 then some (.aload_n 0, 16, 0, 0, 0, 0, false) else none) else (bif Nat.beq pc 12 then some (.if_icmp .ge (107), 15, 119, 0, 0, 0, false) else none)) else (bif Nat.ble 9 pc then (bif Nat.beq pc 9 then some (.getfield 27, 12, 6, 1, 0, 1033, false) else none) else (bif Nat.beq pc 6 then some (.getfield 23, 9, 1, 0, 1, 1106, false) else none))) else (bif Nat.ble 3 pc then (bif Nat.ble 5 pc then (bif Nat.beq pc 5 then some (.aload_n 0, 6, 0, 0, 0, 0, false) else none) else (bif Nat.beq pc 3 then some (.iload 4, 5, 0, 0, 0, 0, true) else none)) else (bif Nat.ble 1 pc then (bif Nat.beq pc 1 then some (.istore 4, 3, 0, 0, 0, 0, false) else none) else (bif Nat.beq pc 0 then some (.iconst (0), 1, 0, 0, 0, 0, false) else none))))))
/-- LieAlgebra$Maps.unknown(II)I -/
def kc_Maps_unknown : Nat → Option pj_E := fun pc => bif Nat.ble 12 pc then none else bif Nat.ble 8 pc then (bif Nat.ble 10 pc then (bif Nat.ble 11 pc then (bif Nat.beq pc 11 then some (.ireturn, 12, 0, 0, 0, 0, false) else none) else (bif Nat.beq pc 10 then some (.iadd, 11, 0, 0, 0, 0, false) else none)) else (bif Nat.ble 9 pc then (bif Nat.beq pc 9 then some (.iload_n 2, 10, 0, 0, 0, 0, false) else none) else (bif Nat.beq pc 8 then some (.imul, 9, 0, 0, 0, 0, false) else none))) else (bif Nat.ble 2 pc then (bif Nat.ble 5 pc then (bif Nat.beq pc 5 then some (.getfield 27, 8, 6, 1, 0, 1033, false) else none) else (bif Nat.beq pc 2 then some (.getfield 23, 5, 1, 0, 1, 1106, false) else none)) else (bif Nat.ble 1 pc then (bif Nat.beq pc 1 then some (.aload_n 0, 2, 0, 0, 0, 0, false) else none) else (bif Nat.beq pc 0 then some (.iload_n 1, 1, 0, 0, 0, 0, false) else none)))
/-- LieAlgebra$Script.<init>()V -/
def kc_Script_init : Nat → Option pj_E := fun pc => bif Nat.ble 24 pc then none else bif Nat.ble 12 pc then (bif Nat.ble 17 pc then (bif Nat.ble 20 pc then (bif Nat.ble 23 pc then (bif Nat.beq pc 23 then some (.return_, 24, 0, 0, 0, 0, false) else none) else (bif Nat.beq pc 20 then some (.putfield 18, 23, 2, 1, 1, 1146, false) else none)) else (bif Nat.beq pc 17 then some (.invokespecial 17, 20, 41, 0, 1, 1144, false) else none)) else (bif Nat.ble 13 pc then (bif Nat.ble 16 pc then (bif Nat.beq pc 16 then some (.dup, 17, 0, 0, 0, 0, false) else none) else (bif Nat.beq pc 13 then some (.new 15, 16, 6, 0, 0, 1143, false) else none)) else (bif Nat.beq pc 12 then some (.aload_n 0, 13, 0, 0, 0, 0, false) else none))) else (bif Nat.ble 5 pc then (bif Nat.ble 7 pc then (bif Nat.ble 9 pc then (bif Nat.beq pc 9 then some (.putfield 9, 12, 2, 0, 1, 1145, false) else none) else (bif Nat.beq pc 7 then some (.newarray .int, 9, 0, 0, 0, 1047, false) else none)) else (bif Nat.beq pc 5 then some (.bipush (120), 7, 0, 0, 0, 0, false) else none)) else (bif Nat.ble 1 pc then (bif Nat.ble 4 pc then (bif Nat.beq pc 4 then some (.aload_n 0, 5, 0, 0, 0, 0, false) else none) else (bif Nat.beq pc 1 then some (.invokespecial 3, 4, 0, 1, 0, 1142, false) else none)) else (bif Nat.beq pc 0 then some (.aload_n 0, 1, 0, 0, 0, 0, false) else none)))
/-- LieAlgebra$Shelf.<init>(I)V -/
def kc_Shelf_init : Nat → Option pj_E := fun pc => bif Nat.ble 32 pc then none else bif Nat.ble 15 pc then (bif Nat.ble 23 pc then (bif Nat.ble 26 pc then (bif Nat.ble 28 pc then (bif Nat.ble 31 pc then (bif Nat.beq pc 31 then some (.return_, 32, 0, 0, 0, 0, false) else none) else (bif Nat.beq pc 28 then some (.putfield 24, 31, 3, 1, 1, 1167, false) else none)) else (bif Nat.beq pc 26 then some (.newarray .int, 28, 0, 0, 0, 1047, false) else none)) else (bif Nat.ble 25 pc then (bif Nat.beq pc 25 then some (.imul, 26, 0, 0, 0, 0, false) else none) else (bif Nat.beq pc 23 then some (.bipush (27), 25, 0, 0, 0, 0, false) else none))) else (bif Nat.ble 19 pc then (bif Nat.ble 20 pc then (bif Nat.beq pc 20 then some (.getfield 20, 23, 3, 0, 0, 1166, false) else none) else (bif Nat.beq pc 19 then some (.aload_n 0, 20, 0, 0, 0, 0, false) else none)) else (bif Nat.ble 18 pc then (bif Nat.beq pc 18 then some (.aload_n 0, 19, 0, 0, 0, 0, false) else none) else (bif Nat.beq pc 15 then some (.putfield 20, 18, 3, 0, 0, 1166, false) else none)))) else (bif Nat.ble 6 pc then (bif Nat.ble 9 pc then (bif Nat.ble 12 pc then (bif Nat.beq pc 12 then some (.invokestatic 17, 15, 87, 0, 0, 1165, false) else none) else (bif Nat.beq pc 9 then some (.invokestatic 11, 12, 86, 0, 0, 1164, false) else none)) else (bif Nat.ble 7 pc then (bif Nat.beq pc 7 then some (.bipush (6), 9, 0, 0, 0, 0, false) else none) else (bif Nat.beq pc 6 then some (.iload_n 1, 7, 0, 0, 0, 0, false) else none))) else (bif Nat.ble 4 pc then (bif Nat.ble 5 pc then (bif Nat.beq pc 5 then some (.iconst (1), 6, 0, 0, 0, 0, false) else none) else (bif Nat.beq pc 4 then some (.aload_n 0, 5, 0, 0, 0, 0, false) else none)) else (bif Nat.ble 1 pc then (bif Nat.beq pc 1 then some (.invokespecial 5, 4, 0, 1, 0, 1163, false) else none) else (bif Nat.beq pc 0 then some (.aload_n 0, 1, 0, 0, 0, 0, false) else none))))
/-- LieAlgebra$Shelf.dropFirst()V -/
def kc_Shelf_dropFirst : Nat → Option pj_E := fun pc => bif Nat.ble 23 pc then none else bif Nat.ble 11 pc then (bif Nat.ble 16 pc then (bif Nat.ble 19 pc then (bif Nat.ble 22 pc then (bif Nat.beq pc 22 then some (.return_, 23, 0, 0, 0, 0, false) else none) else (bif Nat.beq pc 19 then some (.invokestatic 43, 22, 0, 2, 0, 1210, false) else none)) else (bif Nat.ble 18 pc then (bif Nat.beq pc 18 then some (.isub, 19, 0, 0, 0, 0, false) else none) else (bif Nat.beq pc 16 then some (.bipush (27), 18, 0, 0, 0, 0, false) else none))) else (bif Nat.ble 12 pc then (bif Nat.ble 15 pc then (bif Nat.beq pc 15 then some (.arraylength, 16, 0, 0, 0, 0, false) else none) else (bif Nat.beq pc 12 then some (.getfield 24, 15, 3, 1, 1, 1167, false) else none)) else (bif Nat.beq pc 11 then some (.aload_n 0, 12, 0, 0, 0, 0, false) else none))) else (bif Nat.ble 6 pc then (bif Nat.ble 7 pc then (bif Nat.ble 10 pc then (bif Nat.beq pc 10 then some (.iconst (0), 11, 0, 0, 0, 0, false) else none) else (bif Nat.beq pc 7 then some (.getfield 24, 10, 3, 1, 1, 1167, false) else none)) else (bif Nat.beq pc 6 then some (.aload_n 0, 7, 0, 0, 0, 0, false) else none)) else (bif Nat.ble 1 pc then (bif Nat.ble 4 pc then (bif Nat.beq pc 4 then some (.bipush (27), 6, 0, 0, 0, 0, false) else none) else (bif Nat.beq pc 1 then some (.getfield 24, 4, 3, 1, 1, 1167, false) else none)) else (bif Nat.beq pc 0 then some (.aload_n 0, 1, 0, 0, 0, 0, false) else none)))
/-- LieAlgebra$Shelf.keep(ILLieAlgebra$Table;)V -/
def kc_Shelf_keep : Nat → Option pj_E := fun pc => bif Nat.ble 58 pc then none else bif Nat.ble 29 pc then (bif Nat.ble 44 pc then (bif Nat.ble 50 pc then (bif Nat.ble 52 pc then (bif Nat.ble 54 pc then (bif Nat.ble 57 pc then (bif Nat.beq pc 57 then some (.return_, 58, 0, 0, 0, 0, false) else none) else (bif Nat.beq pc 54 then some (.invokestatic 43, 57, 0, 2, 0, 1210, false) else none)) else (bif Nat.beq pc 52 then some (.bipush (25), 54, 0, 0, 0, 0, false) else none)) else (bif Nat.ble 51 pc then (bif Nat.beq pc 51 then some (.iadd, 52, 0, 0, 0, 0, false) else none) else (bif Nat.beq pc 50 then some (.iconst (2), 51, 0, 0, 0, 0, false) else none))) else (bif Nat.ble 46 pc then (bif Nat.ble 49 pc then (bif Nat.beq pc 49 then some (.iload_n 3, 50, 0, 0, 0, 0, false) else none) else (bif Nat.beq pc 46 then some (.getfield 24, 49, 3, 1, 1, 1167, false) else none)) else (bif Nat.ble 45 pc then (bif Nat.beq pc 45 then some (.aload_n 0, 46, 0, 0, 0, 0, false) else none) else (bif Nat.beq pc 44 then some (.iconst (0), 45, 0, 0, 0, 0, false) else none)))) else (bif Nat.ble 35 pc then (bif Nat.ble 39 pc then (bif Nat.ble 40 pc then (bif Nat.ble 41 pc then (bif Nat.beq pc 41 then some (.getfield 40, 44, 6, 2, 1, 1039, false) else none) else (bif Nat.beq pc 40 then some (.aload_n 2, 41, 0, 0, 0, 0, false) else none)) else (bif Nat.beq pc 39 then some (.iastore, 40, 0, 0, 0, 0, false) else none)) else (bif Nat.ble 36 pc then (bif Nat.beq pc 36 then some (.getfield 37, 39, 6, 1, 0, 1034, false) else none) else (bif Nat.beq pc 35 then some (.aload_n 2, 36, 0, 0, 0, 0, false) else none))) else (bif Nat.ble 33 pc then (bif Nat.ble 34 pc then (bif Nat.beq pc 34 then some (.iadd, 35, 0, 0, 0, 0, false) else none) else (bif Nat.beq pc 33 then some (.iconst (1), 34, 0, 0, 0, 0, false) else none)) else (bif Nat.ble 32 pc then (bif Nat.beq pc 32 then some (.iload_n 3, 33, 0, 0, 0, 0, false) else none) else (bif Nat.beq pc 29 then some (.getfield 24, 32, 3, 1, 1, 1167, false) else none))))) else (bif Nat.ble 16 pc then (bif Nat.ble 22 pc then (bif Nat.ble 24 pc then (bif Nat.ble 27 pc then (bif Nat.ble 28 pc then (bif Nat.beq pc 28 then some (.aload_n 0, 29, 0, 0, 0, 0, false) else none) else (bif Nat.beq pc 27 then some (.iastore, 28, 0, 0, 0, 0, false) else none)) else (bif Nat.beq pc 24 then some (.getfield 32, 27, 6, 0, 0, 1027, false) else none)) else (bif Nat.ble 23 pc then (bif Nat.beq pc 23 then some (.aload_n 2, 24, 0, 0, 0, 0, false) else none) else (bif Nat.beq pc 22 then some (.iload_n 3, 23, 0, 0, 0, 0, false) else none))) else (bif Nat.ble 18 pc then (bif Nat.ble 19 pc then (bif Nat.beq pc 19 then some (.getfield 24, 22, 3, 1, 1, 1167, false) else none) else (bif Nat.beq pc 18 then some (.aload_n 0, 19, 0, 0, 0, 0, false) else none)) else (bif Nat.ble 17 pc then (bif Nat.beq pc 17 then some (.istore_n 3, 18, 0, 0, 0, 0, false) else none) else (bif Nat.beq pc 16 then some (.imul, 17, 0, 0, 0, 0, false) else none)))) else (bif Nat.ble 6 pc then (bif Nat.ble 12 pc then (bif Nat.ble 13 pc then (bif Nat.ble 14 pc then (bif Nat.beq pc 14 then some (.bipush (27), 16, 0, 0, 0, 0, false) else none) else (bif Nat.beq pc 13 then some (.iload_n 1, 14, 0, 0, 0, 0, false) else none)) else (bif Nat.beq pc 12 then some (.return_, 13, 0, 0, 0, 0, false) else none)) else (bif Nat.ble 9 pc then (bif Nat.beq pc 9 then some (.if_icmp .lt (4), 12, 13, 0, 0, 0, false) else none) else (bif Nat.beq pc 6 then some (.getfield 20, 9, 3, 0, 0, 1166, false) else none))) else (bif Nat.ble 4 pc then (bif Nat.ble 5 pc then (bif Nat.beq pc 5 then some (.aload_n 0, 6, 0, 0, 0, 0, false) else none) else (bif Nat.beq pc 4 then some (.iload_n 1, 5, 0, 0, 0, 0, false) else none)) else (bif Nat.ble 1 pc then (bif Nat.beq pc 1 then some (.ifCond .lt (11), 4, 12, 0, 0, 0, false) else none) else (bif Nat.beq pc 0 then some (.iload_n 1, 1, 0, 0, 0, 0, false) else none)))))
/-- LieAlgebra$Shelf.fetch(ILLieAlgebra$Table;)V -/
def kc_Shelf_fetch : Nat → Option pj_E := fun pc => bif Nat.ble 58 pc then none else bif Nat.ble 29 pc then (bif Nat.ble 44 pc then (bif Nat.ble 48 pc then (bif Nat.ble 52 pc then (bif Nat.ble 54 pc then (bif Nat.ble 57 pc then (bif Nat.beq pc 57 then some (.return_, 58, 0, 0, 0, 0, false) else none) else (bif Nat.beq pc 54 then some (.invokestatic 43, 57, 0, 2, 0, 1210, false) else none)) else (bif Nat.beq pc 52 then some (.bipush (25), 54, 0, 0, 0, 0, false) else none)) else (bif Nat.ble 51 pc then (bif Nat.beq pc 51 then some (.iconst (0), 52, 0, 0, 0, 0, false) else none) else (bif Nat.beq pc 48 then some (.getfield 40, 51, 6, 2, 1, 1039, false) else none))) else (bif Nat.ble 46 pc then (bif Nat.ble 47 pc then (bif Nat.beq pc 47 then some (.aload_n 2, 48, 0, 0, 0, 0, false) else none) else (bif Nat.beq pc 46 then some (.iadd, 47, 0, 0, 0, 0, false) else none)) else (bif Nat.ble 45 pc then (bif Nat.beq pc 45 then some (.iconst (2), 46, 0, 0, 0, 0, false) else none) else (bif Nat.beq pc 44 then some (.iload_n 3, 45, 0, 0, 0, 0, false) else none)))) else (bif Nat.ble 35 pc then (bif Nat.ble 37 pc then (bif Nat.ble 40 pc then (bif Nat.ble 41 pc then (bif Nat.beq pc 41 then some (.getfield 24, 44, 3, 1, 1, 1167, false) else none) else (bif Nat.beq pc 40 then some (.aload_n 0, 41, 0, 0, 0, 0, false) else none)) else (bif Nat.beq pc 37 then some (.putfield 37, 40, 6, 1, 0, 1034, false) else none)) else (bif Nat.ble 36 pc then (bif Nat.beq pc 36 then some (.iaload, 37, 0, 0, 0, 0, false) else none) else (bif Nat.beq pc 35 then some (.iadd, 36, 0, 0, 0, 0, false) else none))) else (bif Nat.ble 33 pc then (bif Nat.ble 34 pc then (bif Nat.beq pc 34 then some (.iconst (1), 35, 0, 0, 0, 0, false) else none) else (bif Nat.beq pc 33 then some (.iload_n 3, 34, 0, 0, 0, 0, false) else none)) else (bif Nat.ble 30 pc then (bif Nat.beq pc 30 then some (.getfield 24, 33, 3, 1, 1, 1167, false) else none) else (bif Nat.beq pc 29 then some (.aload_n 0, 30, 0, 0, 0, 0, false) else none))))) else (bif Nat.ble 16 pc then (bif Nat.ble 20 pc then (bif Nat.ble 24 pc then (bif Nat.ble 25 pc then (bif Nat.ble 28 pc then (bif Nat.beq pc 28 then some (.aload_n 2, 29, 0, 0, 0, 0, false) else none) else (bif Nat.beq pc 25 then some (.putfield 32, 28, 6, 0, 0, 1027, false) else none)) else (bif Nat.beq pc 24 then some (.iaload, 25, 0, 0, 0, 0, false) else none)) else (bif Nat.ble 23 pc then (bif Nat.beq pc 23 then some (.iload_n 3, 24, 0, 0, 0, 0, false) else none) else (bif Nat.beq pc 20 then some (.getfield 24, 23, 3, 1, 1, 1167, false) else none))) else (bif Nat.ble 18 pc then (bif Nat.ble 19 pc then (bif Nat.beq pc 19 then some (.aload_n 0, 20, 0, 0, 0, 0, false) else none) else (bif Nat.beq pc 18 then some (.aload_n 2, 19, 0, 0, 0, 0, false) else none)) else (bif Nat.ble 17 pc then (bif Nat.beq pc 17 then some (.istore_n 3, 18, 0, 0, 0, 0, false) else none) else (bif Nat.beq pc 16 then some (.imul, 17, 0, 0, 0, 0, false) else none)))) else (bif Nat.ble 6 pc then (bif Nat.ble 12 pc then (bif Nat.ble 13 pc then (bif Nat.ble 14 pc then (bif Nat.beq pc 14 then some (.bipush (27), 16, 0, 0, 0, 0, false) else none) else (bif Nat.beq pc 13 then some (.iload_n 1, 14, 0, 0, 0, 0, false) else none)) else (bif Nat.beq pc 12 then some (.return_, 13, 0, 0, 0, 0, false) else none)) else (bif Nat.ble 9 pc then (bif Nat.beq pc 9 then some (.if_icmp .lt (4), 12, 13, 0, 0, 0, false) else none) else (bif Nat.beq pc 6 then some (.getfield 20, 9, 3, 0, 0, 1166, false) else none))) else (bif Nat.ble 4 pc then (bif Nat.ble 5 pc then (bif Nat.beq pc 5 then some (.aload_n 0, 6, 0, 0, 0, 0, false) else none) else (bif Nat.beq pc 4 then some (.iload_n 1, 5, 0, 0, 0, 0, false) else none)) else (bif Nat.ble 1 pc then (bif Nat.beq pc 1 then some (.ifCond .lt (11), 4, 12, 0, 0, 0, false) else none) else (bif Nat.beq pc 0 then some (.iload_n 1, 1, 0, 0, 0, 0, false) else none)))))
/-- LieAlgebra$Shelf.isEmpty(I)Z -/
def kc_Shelf_isEmpty : Nat → Option pj_E := fun pc => bif Nat.ble 20 pc then none else bif Nat.ble 8 pc then (bif Nat.ble 15 pc then (bif Nat.ble 18 pc then (bif Nat.ble 19 pc then (bif Nat.beq pc 19 then some (.ireturn, 20, 0, 0, 0, 0, false) else none) else (bif Nat.beq pc 18 then some (.iconst (0), 19, 0, 0, 0, 0, false) else none)) else (bif Nat.beq pc 15 then some (.goto (4), 18, 19, 0, 0, 0, false) else none)) else (bif Nat.ble 11 pc then (bif Nat.ble 14 pc then (bif Nat.beq pc 14 then some (.iconst (1), 15, 0, 0, 0, 0, false) else none) else (bif Nat.beq pc 11 then some (.ifCond .ne (7), 14, 18, 0, 0, 0, false) else none)) else (bif Nat.beq pc 8 then some (.invokestatic 28, 11, 62, 0, 1, 2120, false) else none))) else (bif Nat.ble 4 pc then (bif Nat.ble 5 pc then (bif Nat.ble 7 pc then (bif Nat.beq pc 7 then some (.imul, 8, 0, 0, 0, 0, false) else none) else (bif Nat.beq pc 5 then some (.bipush (27), 7, 0, 0, 0, 0, false) else none)) else (bif Nat.beq pc 4 then some (.iload_n 1, 5, 0, 0, 0, 0, false) else none)) else (bif Nat.ble 1 pc then (bif Nat.beq pc 1 then some (.getfield 24, 4, 3, 1, 1, 1167, false) else none) else (bif Nat.beq pc 0 then some (.aload_n 0, 1, 0, 0, 0, 0, false) else none)))
/-- LieAlgebra$Spaces.<init>(LLieAlgebra$Table;)V -/
def kc_Spaces_init : Nat → Option pj_E := fun pc => bif Nat.ble 46 pc then none else bif Nat.ble 22 pc then (bif Nat.ble 34 pc then (bif Nat.ble 41 pc then (bif Nat.ble 42 pc then (bif Nat.ble 45 pc then (bif Nat.beq pc 45 then some (.return_, 46, 0, 0, 0, 0, false) else none) else (bif Nat.beq pc 42 then some (.putfield 26, 45, 4, 0, 1, 1085, false) else none)) else (bif Nat.beq pc 41 then some (.aload_n 1, 42, 0, 0, 0, 0, false) else none)) else (bif Nat.ble 37 pc then (bif Nat.ble 40 pc then (bif Nat.beq pc 40 then some (.aload_n 0, 41, 0, 0, 0, 0, false) else none) else (bif Nat.beq pc 37 then some (.putfield 23, 40, 4, 3, 1, 1088, false) else none)) else (bif Nat.beq pc 34 then some (.invokespecial 11, 37, 30, 0, 0, 1056, false) else none))) else (bif Nat.ble 29 pc then (bif Nat.ble 32 pc then (bif Nat.ble 33 pc then (bif Nat.beq pc 33 then some (.iconst (5), 34, 0, 0, 0, 0, false) else none) else (bif Nat.beq pc 32 then some (.dup, 33, 0, 0, 0, 0, false) else none)) else (bif Nat.beq pc 29 then some (.new 9, 32, 5, 0, 0, 1054, false) else none)) else (bif Nat.ble 25 pc then (bif Nat.ble 28 pc then (bif Nat.beq pc 28 then some (.aload_n 0, 29, 0, 0, 0, 0, false) else none) else (bif Nat.beq pc 25 then some (.putfield 20, 28, 4, 2, 1, 1087, false) else none)) else (bif Nat.beq pc 22 then some (.invokespecial 11, 25, 30, 0, 0, 1056, false) else none)))) else (bif Nat.ble 10 pc then (bif Nat.ble 17 pc then (bif Nat.ble 20 pc then (bif Nat.ble 21 pc then (bif Nat.beq pc 21 then some (.iconst (5), 22, 0, 0, 0, 0, false) else none) else (bif Nat.beq pc 20 then some (.dup, 21, 0, 0, 0, 0, false) else none)) else (bif Nat.beq pc 17 then some (.new 9, 20, 5, 0, 0, 1054, false) else none)) else (bif Nat.ble 13 pc then (bif Nat.ble 16 pc then (bif Nat.beq pc 16 then some (.aload_n 0, 17, 0, 0, 0, 0, false) else none) else (bif Nat.beq pc 13 then some (.putfield 14, 16, 4, 1, 1, 1086, false) else none)) else (bif Nat.beq pc 10 then some (.invokespecial 11, 13, 30, 0, 0, 1056, false) else none))) else (bif Nat.ble 5 pc then (bif Nat.ble 8 pc then (bif Nat.ble 9 pc then (bif Nat.beq pc 9 then some (.iconst (5), 10, 0, 0, 0, 0, false) else none) else (bif Nat.beq pc 8 then some (.dup, 9, 0, 0, 0, 0, false) else none)) else (bif Nat.beq pc 5 then some (.new 9, 8, 5, 0, 0, 1054, false) else none)) else (bif Nat.ble 1 pc then (bif Nat.ble 4 pc then (bif Nat.beq pc 4 then some (.aload_n 0, 5, 0, 0, 0, 0, false) else none) else (bif Nat.beq pc 1 then some (.invokespecial 3, 4, 0, 1, 0, 1053, false) else none)) else (bif Nat.beq pc 0 then some (.aload_n 0, 1, 0, 0, 0, 0, false) else none))))
/-- LieAlgebra$Spaces.derived(I)LLieAlgebra$Subspace; -/
def kc_Spaces_derived : Nat → Option pj_E := fun pc => bif Nat.ble 7 pc then none else bif Nat.ble 2 pc then (bif Nat.ble 3 pc then (bif Nat.ble 6 pc then (bif Nat.beq pc 6 then some (.areturn, 7, 0, 0, 0, 0, false) else none) else (bif Nat.beq pc 3 then some (.invokevirtual 30, 6, 21, 0, 0, 2171, false) else none)) else (bif Nat.beq pc 2 then some (.iconst (0), 3, 0, 0, 0, 0, false) else none)) else (bif Nat.ble 1 pc then (bif Nat.beq pc 1 then some (.iload_n 1, 2, 0, 0, 0, 0, false) else none) else (bif Nat.beq pc 0 then some (.aload_n 0, 1, 0, 0, 0, 0, false) else none))
/-- LieAlgebra$Spaces.descend(IZ)LLieAlgebra$Subspace; -/
def kc_Spaces_descend : Nat → Option pj_E := fun pc => bif Nat.ble 120 pc then none else bif Nat.ble 60 pc then (bif Nat.ble 89 pc then (bif Nat.ble 105 pc then (bif Nat.ble 112 pc then (bif Nat.ble 118 pc then (bif Nat.ble 119 pc then (bif Nat.beq pc 119 then some (.areturn, 120, 0, 0, 0, 0, false) else none) else (bif Nat.beq pc 118 then some (.aload_n 3, 119, 0, 0, 0, 0, false) else none)) else (bif Nat.ble 115 pc then (bif Nat.beq pc 115 then some (.goto (-82), 118, 33, 0, 0, 0, false) else none) else (bif Nat.beq pc 112 then some (.iinc 6 (1), 115, 0, 0, 0, 0, false) else none))) else (bif Nat.ble 108 pc then (bif Nat.ble 110 pc then (bif Nat.beq pc 110 then some (.astore 4, 112, 0, 0, 0, 0, false) else none) else (bif Nat.beq pc 108 then some (.aload 7, 110, 0, 0, 0, 0, false) else none)) else (bif Nat.ble 107 pc then (bif Nat.beq pc 107 then some (.astore_n 3, 108, 0, 0, 0, 0, false) else none) else (bif Nat.beq pc 105 then some (.aload 4, 107, 0, 0, 0, 0, false) else none)))) else (bif Nat.ble 99 pc then (bif Nat.ble 102 pc then (bif Nat.ble 103 pc then (bif Nat.beq pc 103 then some (.astore 7, 105, 0, 0, 0, 0, false) else none) else (bif Nat.beq pc 102 then some (.aload_n 3, 103, 0, 0, 0, 0, false) else none)) else (bif Nat.ble 100 pc then (bif Nat.beq pc 100 then some (.istore 5, 102, 0, 0, 0, 0, false) else none) else (bif Nat.beq pc 99 then some (.iconst (0), 100, 0, 0, 0, 0, false) else none))) else (bif Nat.ble 95 pc then (bif Nat.ble 96 pc then (bif Nat.beq pc 96 then some (.goto (4), 99, 100, 0, 0, 0, false) else none) else (bif Nat.beq pc 95 then some (.iconst (1), 96, 0, 0, 0, 0, false) else none)) else (bif Nat.ble 92 pc then (bif Nat.beq pc 92 then some (.if_icmp .ge (7), 95, 99, 0, 0, 0, false) else none) else (bif Nat.beq pc 89 then some (.getfield 55, 92, 5, 4, 0, 1071, false) else none))))) else (bif Nat.ble 75 pc then (bif Nat.ble 82 pc then (bif Nat.ble 85 pc then (bif Nat.ble 88 pc then (bif Nat.beq pc 88 then some (.aload_n 3, 89, 0, 0, 0, 0, false) else none) else (bif Nat.beq pc 85 then some (.getfield 55, 88, 5, 4, 0, 1071, false) else none)) else (bif Nat.ble 83 pc then (bif Nat.beq pc 83 then some (.aload 4, 85, 0, 0, 0, 0, false) else none) else (bif Nat.beq pc 82 then some (.pop, 83, 0, 0, 0, 0, false) else none))) else (bif Nat.ble 77 pc then (bif Nat.ble 79 pc then (bif Nat.beq pc 79 then some (.invokevirtual 51, 82, 23, 0, 0, 2214, false) else none) else (bif Nat.beq pc 77 then some (.aload 4, 79, 0, 0, 0, 0, false) else none)) else (bif Nat.ble 76 pc then (bif Nat.beq pc 76 then some (.aload_n 3, 77, 0, 0, 0, 0, false) else none) else (bif Nat.beq pc 75 then some (.aload_n 3, 76, 0, 0, 0, 0, false) else none)))) else (bif Nat.ble 65 pc then (bif Nat.ble 69 pc then (bif Nat.ble 72 pc then (bif Nat.beq pc 72 then some (.goto (4), 75, 76, 0, 0, 0, false) else none) else (bif Nat.beq pc 69 then some (.getfield 14, 72, 4, 1, 1, 1086, false) else none)) else (bif Nat.ble 68 pc then (bif Nat.beq pc 68 then some (.aload_n 0, 69, 0, 0, 0, 0, false) else none) else (bif Nat.beq pc 65 then some (.ifCond .eq (10), 68, 75, 0, 0, 0, false) else none))) else (bif Nat.ble 63 pc then (bif Nat.ble 64 pc then (bif Nat.beq pc 64 then some (.iload_n 2, 65, 0, 0, 0, 0, false) else none) else (bif Nat.beq pc 63 then some (.aload_n 0, 64, 0, 0, 0, 0, false) else none)) else (bif Nat.beq pc 60 then some (.invokevirtual 47, 63, 31, 0, 0, 2179, false) else none))))) else (bif Nat.ble 28 pc then (bif Nat.ble 41 pc then (bif Nat.ble 50 pc then (bif Nat.ble 54 pc then (bif Nat.ble 57 pc then (bif Nat.beq pc 57 then some (.getfield 44, 60, 6, 1, 0, 1035, false) else none) else (bif Nat.beq pc 54 then some (.getfield 26, 57, 4, 0, 1, 1085, false) else none)) else (bif Nat.ble 53 pc then (bif Nat.beq pc 53 then some (.aload_n 0, 54, 0, 0, 0, 0, false) else none) else (bif Nat.beq pc 50 then some (.getfield 38, 53, 6, 0, 0, 1030, false) else none))) else (bif Nat.ble 46 pc then (bif Nat.ble 47 pc then (bif Nat.beq pc 47 then some (.getfield 26, 50, 4, 0, 1, 1085, false) else none) else (bif Nat.beq pc 46 then some (.aload_n 0, 47, 0, 0, 0, 0, false) else none)) else (bif Nat.ble 44 pc then (bif Nat.beq pc 44 then some (.aload 4, 46, 0, 0, 0, 0, false) else none) else (bif Nat.beq pc 41 then some (.ifCond .eq (77), 44, 118, 0, 0, 0, false) else none)))) else (bif Nat.ble 33 pc then (bif Nat.ble 36 pc then (bif Nat.ble 39 pc then (bif Nat.beq pc 39 then some (.iload 5, 41, 0, 0, 0, 0, false) else none) else (bif Nat.beq pc 36 then some (.if_icmp .ge (82), 39, 118, 0, 0, 0, false) else none)) else (bif Nat.ble 35 pc then (bif Nat.beq pc 35 then some (.iload_n 1, 36, 0, 0, 0, 0, false) else none) else (bif Nat.beq pc 33 then some (.iload 6, 35, 0, 0, 0, 0, true) else none))) else (bif Nat.ble 30 pc then (bif Nat.ble 31 pc then (bif Nat.beq pc 31 then some (.istore 6, 33, 0, 0, 0, 0, false) else none) else (bif Nat.beq pc 30 then some (.iconst (0), 31, 0, 0, 0, 0, false) else none)) else (bif Nat.beq pc 28 then some (.istore 5, 30, 0, 0, 0, 0, false) else none)))) else (bif Nat.ble 13 pc then (bif Nat.ble 21 pc then (bif Nat.ble 25 pc then (bif Nat.ble 27 pc then (bif Nat.beq pc 27 then some (.iconst (1), 28, 0, 0, 0, 0, false) else none) else (bif Nat.beq pc 25 then some (.astore 4, 27, 0, 0, 0, 0, false) else none)) else (bif Nat.ble 22 pc then (bif Nat.beq pc 22 then some (.getfield 23, 25, 4, 3, 1, 1088, false) else none) else (bif Nat.beq pc 21 then some (.aload_n 0, 22, 0, 0, 0, 0, false) else none))) else (bif Nat.ble 17 pc then (bif Nat.ble 20 pc then (bif Nat.beq pc 20 then some (.astore_n 3, 21, 0, 0, 0, 0, false) else none) else (bif Nat.beq pc 17 then some (.getfield 20, 20, 4, 2, 1, 1087, false) else none)) else (bif Nat.ble 16 pc then (bif Nat.beq pc 16 then some (.aload_n 0, 17, 0, 0, 0, 0, false) else none) else (bif Nat.beq pc 13 then some (.invokevirtual 34, 16, 22, 0, 0, 2175, false) else none)))) else (bif Nat.ble 5 pc then (bif Nat.ble 9 pc then (bif Nat.ble 10 pc then (bif Nat.beq pc 10 then some (.getfield 20, 13, 4, 2, 1, 1087, false) else none) else (bif Nat.beq pc 9 then some (.aload_n 0, 10, 0, 0, 0, 0, false) else none)) else (bif Nat.ble 8 pc then (bif Nat.beq pc 8 then some (.aload_n 0, 9, 0, 0, 0, 0, false) else none) else (bif Nat.beq pc 5 then some (.invokevirtual 34, 8, 22, 0, 0, 2175, false) else none))) else (bif Nat.ble 1 pc then (bif Nat.ble 2 pc then (bif Nat.beq pc 2 then some (.getfield 14, 5, 4, 1, 1, 1086, false) else none) else (bif Nat.beq pc 1 then some (.aload_n 0, 2, 0, 0, 0, 0, false) else none)) else (bif Nat.beq pc 0 then some (.aload_n 0, 1, 0, 0, 0, 0, false) else none)))))
/-- LieAlgebra$Spaces.fill(LLieAlgebra$Subspace;)V -/
def kc_Spaces_fill : Nat → Option pj_E := fun pc => bif Nat.ble 55 pc then none else bif Nat.ble 25 pc then (bif Nat.ble 40 pc then (bif Nat.ble 47 pc then (bif Nat.ble 51 pc then (bif Nat.ble 54 pc then (bif Nat.beq pc 54 then some (.return_, 55, 0, 0, 0, 0, false) else none) else (bif Nat.beq pc 51 then some (.goto (-31), 54, 20, 0, 0, 0, false) else none)) else (bif Nat.ble 48 pc then (bif Nat.beq pc 48 then some (.iinc 2 (1), 51, 0, 0, 0, 0, false) else none) else (bif Nat.beq pc 47 then some (.pop, 48, 0, 0, 0, 0, false) else none))) else (bif Nat.ble 41 pc then (bif Nat.ble 44 pc then (bif Nat.beq pc 44 then some (.invokevirtual 62, 47, 32, 0, 0, 2185, false) else none) else (bif Nat.beq pc 41 then some (.invokevirtual 58, 44, 44, 0, 0, 2184, false) else none)) else (bif Nat.beq pc 40 then some (.iload_n 2, 41, 0, 0, 0, 0, false) else none))) else (bif Nat.ble 32 pc then (bif Nat.ble 36 pc then (bif Nat.ble 37 pc then (bif Nat.beq pc 37 then some (.getfield 26, 40, 4, 0, 1, 1085, false) else none) else (bif Nat.beq pc 36 then some (.aload_n 0, 37, 0, 0, 0, 0, false) else none)) else (bif Nat.ble 33 pc then (bif Nat.beq pc 33 then some (.getfield 26, 36, 4, 0, 1, 1085, false) else none) else (bif Nat.beq pc 32 then some (.aload_n 0, 33, 0, 0, 0, 0, false) else none))) else (bif Nat.ble 28 pc then (bif Nat.ble 31 pc then (bif Nat.beq pc 31 then some (.aload_n 1, 32, 0, 0, 0, 0, false) else none) else (bif Nat.beq pc 28 then some (.if_icmp .ge (26), 31, 54, 0, 0, 0, false) else none)) else (bif Nat.beq pc 25 then some (.getfield 44, 28, 6, 1, 0, 1035, false) else none)))) else (bif Nat.ble 12 pc then (bif Nat.ble 19 pc then (bif Nat.ble 21 pc then (bif Nat.ble 22 pc then (bif Nat.beq pc 22 then some (.getfield 26, 25, 4, 0, 1, 1085, false) else none) else (bif Nat.beq pc 21 then some (.aload_n 0, 22, 0, 0, 0, 0, false) else none)) else (bif Nat.ble 20 pc then (bif Nat.beq pc 20 then some (.iload_n 2, 21, 0, 0, 0, 0, true) else none) else (bif Nat.beq pc 19 then some (.istore_n 2, 20, 0, 0, 0, 0, false) else none))) else (bif Nat.ble 15 pc then (bif Nat.ble 18 pc then (bif Nat.beq pc 18 then some (.iconst (0), 19, 0, 0, 0, 0, false) else none) else (bif Nat.beq pc 15 then some (.invokevirtual 47, 18, 31, 0, 0, 2179, false) else none)) else (bif Nat.beq pc 12 then some (.getfield 44, 15, 6, 1, 0, 1035, false) else none))) else (bif Nat.ble 5 pc then (bif Nat.ble 8 pc then (bif Nat.ble 9 pc then (bif Nat.beq pc 9 then some (.getfield 26, 12, 4, 0, 1, 1085, false) else none) else (bif Nat.beq pc 8 then some (.aload_n 0, 9, 0, 0, 0, 0, false) else none)) else (bif Nat.beq pc 5 then some (.getfield 38, 8, 6, 0, 0, 1030, false) else none)) else (bif Nat.ble 1 pc then (bif Nat.ble 2 pc then (bif Nat.beq pc 2 then some (.getfield 26, 5, 4, 0, 1, 1085, false) else none) else (bif Nat.beq pc 1 then some (.aload_n 0, 2, 0, 0, 0, 0, false) else none)) else (bif Nat.beq pc 0 then some (.aload_n 1, 1, 0, 0, 0, 0, false) else none))))
/-- LieAlgebra$Spaces.addProducts(LLieAlgebra$Subspace;LLieAlgebra$Subspace;LLieAlgebra$Subspace;)Z -/
def kc_Spaces_addProducts : Nat → Option pj_E := fun pc => bif Nat.ble 96 pc then none else bif Nat.ble 45 pc then (bif Nat.ble 69 pc then (bif Nat.ble 81 pc then (bif Nat.ble 90 pc then (bif Nat.ble 93 pc then (bif Nat.ble 95 pc then (bif Nat.beq pc 95 then some (.ireturn, 96, 0, 0, 0, 0, false) else none) else (bif Nat.beq pc 93 then some (.iload 4, 95, 0, 0, 0, 0, false) else none)) else (bif Nat.beq pc 90 then some (.goto (-72), 93, 18, 0, 0, 0, false) else none)) else (bif Nat.ble 84 pc then (bif Nat.ble 87 pc then (bif Nat.beq pc 87 then some (.iinc 7 (1), 90, 0, 0, 0, 0, false) else none) else (bif Nat.beq pc 84 then some (.goto (-56), 87, 28, 0, 0, 0, false) else none)) else (bif Nat.beq pc 81 then some (.iinc 8 (1), 84, 0, 0, 0, 0, false) else none))) else (bif Nat.ble 75 pc then (bif Nat.ble 78 pc then (bif Nat.ble 79 pc then (bif Nat.beq pc 79 then some (.istore 4, 81, 0, 0, 0, 0, false) else none) else (bif Nat.beq pc 78 then some (.iconst (0), 79, 0, 0, 0, 0, false) else none)) else (bif Nat.beq pc 75 then some (.goto (4), 78, 79, 0, 0, 0, false) else none)) else (bif Nat.ble 71 pc then (bif Nat.ble 74 pc then (bif Nat.beq pc 74 then some (.iconst (1), 75, 0, 0, 0, 0, false) else none) else (bif Nat.beq pc 71 then some (.ifCond .eq (7), 74, 78, 0, 0, 0, false) else none)) else (bif Nat.beq pc 69 then some (.iload 4, 71, 0, 0, 0, 0, false) else none)))) else (bif Nat.ble 56 pc then (bif Nat.ble 61 pc then (bif Nat.ble 63 pc then (bif Nat.ble 66 pc then (bif Nat.beq pc 66 then some (.ifCond .ne (8), 69, 74, 0, 0, 0, false) else none) else (bif Nat.beq pc 63 then some (.invokevirtual 62, 66, 32, 0, 0, 2185, false) else none)) else (bif Nat.beq pc 61 then some (.iload 9, 63, 0, 0, 0, 0, false) else none)) else (bif Nat.ble 57 pc then (bif Nat.ble 58 pc then (bif Nat.beq pc 58 then some (.getfield 26, 61, 4, 0, 1, 1085, false) else none) else (bif Nat.beq pc 57 then some (.aload_n 0, 58, 0, 0, 0, 0, false) else none)) else (bif Nat.beq pc 56 then some (.aload_n 3, 57, 0, 0, 0, 0, false) else none))) else (bif Nat.ble 48 pc then (bif Nat.ble 51 pc then (bif Nat.ble 54 pc then (bif Nat.beq pc 54 then some (.istore 9, 56, 0, 0, 0, 0, false) else none) else (bif Nat.beq pc 51 then some (.invokevirtual 69, 54, 53, 0, 0, 2226, false) else none)) else (bif Nat.beq pc 48 then some (.invokevirtual 66, 51, 38, 0, 0, 2218, false) else none)) else (bif Nat.ble 46 pc then (bif Nat.beq pc 46 then some (.iload 8, 48, 0, 0, 0, 0, false) else none) else (bif Nat.beq pc 45 then some (.aload_n 2, 46, 0, 0, 0, 0, false) else none))))) else (bif Nat.ble 20 pc then (bif Nat.ble 32 pc then (bif Nat.ble 39 pc then (bif Nat.ble 40 pc then (bif Nat.ble 42 pc then (bif Nat.beq pc 42 then some (.invokevirtual 66, 45, 38, 0, 0, 2218, false) else none) else (bif Nat.beq pc 40 then some (.iload 7, 42, 0, 0, 0, 0, false) else none)) else (bif Nat.beq pc 39 then some (.aload_n 1, 40, 0, 0, 0, 0, false) else none)) else (bif Nat.ble 35 pc then (bif Nat.ble 36 pc then (bif Nat.beq pc 36 then some (.getfield 26, 39, 4, 0, 1, 1085, false) else none) else (bif Nat.beq pc 35 then some (.aload_n 0, 36, 0, 0, 0, 0, false) else none)) else (bif Nat.beq pc 32 then some (.if_icmp .ge (55), 35, 87, 0, 0, 0, false) else none))) else (bif Nat.ble 26 pc then (bif Nat.ble 28 pc then (bif Nat.ble 30 pc then (bif Nat.beq pc 30 then some (.iload 6, 32, 0, 0, 0, 0, false) else none) else (bif Nat.beq pc 28 then some (.iload 8, 30, 0, 0, 0, 0, true) else none)) else (bif Nat.beq pc 26 then some (.istore 8, 28, 0, 0, 0, 0, false) else none)) else (bif Nat.ble 22 pc then (bif Nat.ble 25 pc then (bif Nat.beq pc 25 then some (.iconst (0), 26, 0, 0, 0, 0, false) else none) else (bif Nat.beq pc 22 then some (.if_icmp .ge (71), 25, 93, 0, 0, 0, false) else none)) else (bif Nat.beq pc 20 then some (.iload 5, 22, 0, 0, 0, 0, false) else none)))) else (bif Nat.ble 9 pc then (bif Nat.ble 15 pc then (bif Nat.ble 16 pc then (bif Nat.ble 18 pc then (bif Nat.beq pc 18 then some (.iload 7, 20, 0, 0, 0, 0, true) else none) else (bif Nat.beq pc 16 then some (.istore 7, 18, 0, 0, 0, 0, false) else none)) else (bif Nat.beq pc 15 then some (.iconst (0), 16, 0, 0, 0, 0, false) else none)) else (bif Nat.ble 10 pc then (bif Nat.ble 13 pc then (bif Nat.beq pc 13 then some (.istore 6, 15, 0, 0, 0, 0, false) else none) else (bif Nat.beq pc 10 then some (.getfield 55, 13, 5, 4, 0, 1071, false) else none)) else (bif Nat.beq pc 9 then some (.aload_n 2, 10, 0, 0, 0, 0, false) else none))) else (bif Nat.ble 3 pc then (bif Nat.ble 4 pc then (bif Nat.ble 7 pc then (bif Nat.beq pc 7 then some (.istore 5, 9, 0, 0, 0, 0, false) else none) else (bif Nat.beq pc 4 then some (.getfield 55, 7, 5, 4, 0, 1071, false) else none)) else (bif Nat.beq pc 3 then some (.aload_n 1, 4, 0, 0, 0, 0, false) else none)) else (bif Nat.ble 1 pc then (bif Nat.beq pc 1 then some (.istore 4, 3, 0, 0, 0, 0, false) else none) else (bif Nat.beq pc 0 then some (.iconst (0), 1, 0, 0, 0, 0, false) else none)))))
/-- LieAlgebra$Spaces.lowerCentral(I)LLieAlgebra$Subspace; -/
def kc_Spaces_lowerCentral : Nat → Option pj_E := fun pc => bif Nat.ble 7 pc then none else bif Nat.ble 2 pc then (bif Nat.ble 3 pc then (bif Nat.ble 6 pc then (bif Nat.beq pc 6 then some (.areturn, 7, 0, 0, 0, 0, false) else none) else (bif Nat.beq pc 3 then some (.invokevirtual 30, 6, 21, 0, 0, 2171, false) else none)) else (bif Nat.beq pc 2 then some (.iconst (1), 3, 0, 0, 0, 0, false) else none)) else (bif Nat.ble 1 pc then (bif Nat.beq pc 1 then some (.iload_n 1, 2, 0, 0, 0, 0, false) else none) else (bif Nat.beq pc 0 then some (.aload_n 0, 1, 0, 0, 0, 0, false) else none))
/-- LieAlgebra$Spaces.center()LLieAlgebra$Subspace; -/
def kc_Spaces_center : Nat → Option pj_E := fun pc => bif Nat.ble 127 pc then none else bif Nat.ble 60 pc then (bif Nat.ble 91 pc then (bif Nat.ble 111 pc then (bif Nat.ble 119 pc then (bif Nat.ble 123 pc then (bif Nat.ble 126 pc then (bif Nat.beq pc 126 then some (.areturn, 127, 0, 0, 0, 0, false) else none) else (bif Nat.beq pc 123 then some (.getfield 23, 126, 4, 3, 1, 1088, false) else none)) else (bif Nat.ble 122 pc then (bif Nat.beq pc 122 then some (.aload_n 0, 123, 0, 0, 0, 0, false) else none) else (bif Nat.beq pc 119 then some (.invokevirtual 86, 122, 40, 0, 0, 3011, false) else none))) else (bif Nat.ble 115 pc then (bif Nat.ble 116 pc then (bif Nat.beq pc 116 then some (.getfield 23, 119, 4, 3, 1, 1088, false) else none) else (bif Nat.beq pc 115 then some (.aload_n 0, 116, 0, 0, 0, 0, false) else none)) else (bif Nat.ble 112 pc then (bif Nat.beq pc 112 then some (.getfield 20, 115, 4, 2, 1, 1087, false) else none) else (bif Nat.beq pc 111 then some (.aload_n 0, 112, 0, 0, 0, 0, false) else none)))) else (bif Nat.ble 99 pc then (bif Nat.ble 105 pc then (bif Nat.ble 108 pc then (bif Nat.beq pc 108 then some (.goto (-85), 111, 23, 0, 0, 0, false) else none) else (bif Nat.beq pc 105 then some (.iinc 1 (1), 108, 0, 0, 0, 0, false) else none)) else (bif Nat.ble 102 pc then (bif Nat.beq pc 102 then some (.goto (-66), 105, 36, 0, 0, 0, false) else none) else (bif Nat.beq pc 99 then some (.iinc 2 (1), 102, 0, 0, 0, 0, false) else none))) else (bif Nat.ble 95 pc then (bif Nat.ble 98 pc then (bif Nat.beq pc 98 then some (.pop, 99, 0, 0, 0, 0, false) else none) else (bif Nat.beq pc 95 then some (.invokevirtual 82, 98, 34, 0, 0, 3010, false) else none)) else (bif Nat.ble 92 pc then (bif Nat.beq pc 92 then some (.getfield 20, 95, 4, 2, 1, 1087, false) else none) else (bif Nat.beq pc 91 then some (.aload_n 0, 92, 0, 0, 0, 0, false) else none))))) else (bif Nat.ble 73 pc then (bif Nat.ble 79 pc then (bif Nat.ble 85 pc then (bif Nat.ble 88 pc then (bif Nat.beq pc 88 then some (.goto (-39), 91, 49, 0, 0, 0, false) else none) else (bif Nat.beq pc 85 then some (.iinc 3 (1), 88, 0, 0, 0, 0, false) else none)) else (bif Nat.ble 82 pc then (bif Nat.beq pc 82 then some (.invokevirtual 79, 85, 33, 0, 0, 3009, false) else none) else (bif Nat.beq pc 79 then some (.invokevirtual 76, 82, 54, 0, 0, 3008, false) else none))) else (bif Nat.ble 75 pc then (bif Nat.ble 78 pc then (bif Nat.beq pc 78 then some (.iload_n 2, 79, 0, 0, 0, 0, false) else none) else (bif Nat.beq pc 75 then some (.invokevirtual 73, 78, 48, 0, 0, 3007, false) else none)) else (bif Nat.ble 74 pc then (bif Nat.beq pc 74 then some (.iload_n 1, 75, 0, 0, 0, 0, false) else none) else (bif Nat.beq pc 73 then some (.iload_n 3, 74, 0, 0, 0, 0, false) else none)))) else (bif Nat.ble 65 pc then (bif Nat.ble 69 pc then (bif Nat.ble 70 pc then (bif Nat.beq pc 70 then some (.getfield 26, 73, 4, 0, 1, 1085, false) else none) else (bif Nat.beq pc 69 then some (.aload_n 0, 70, 0, 0, 0, 0, false) else none)) else (bif Nat.ble 66 pc then (bif Nat.beq pc 66 then some (.getfield 26, 69, 4, 0, 1, 1085, false) else none) else (bif Nat.beq pc 65 then some (.aload_n 0, 66, 0, 0, 0, 0, false) else none))) else (bif Nat.ble 61 pc then (bif Nat.ble 64 pc then (bif Nat.beq pc 64 then some (.iload_n 3, 65, 0, 0, 0, 0, false) else none) else (bif Nat.beq pc 61 then some (.getfield 20, 64, 4, 2, 1, 1087, false) else none)) else (bif Nat.beq pc 60 then some (.aload_n 0, 61, 0, 0, 0, 0, false) else none))))) else (bif Nat.ble 31 pc then (bif Nat.ble 44 pc then (bif Nat.ble 50 pc then (bif Nat.ble 54 pc then (bif Nat.ble 57 pc then (bif Nat.beq pc 57 then some (.if_icmp .ge (34), 60, 91, 0, 0, 0, false) else none) else (bif Nat.beq pc 54 then some (.getfield 44, 57, 6, 1, 0, 1035, false) else none)) else (bif Nat.ble 51 pc then (bif Nat.beq pc 51 then some (.getfield 26, 54, 4, 0, 1, 1085, false) else none) else (bif Nat.beq pc 50 then some (.aload_n 0, 51, 0, 0, 0, 0, false) else none))) else (bif Nat.ble 48 pc then (bif Nat.ble 49 pc then (bif Nat.beq pc 49 then some (.iload_n 3, 50, 0, 0, 0, 0, true) else none) else (bif Nat.beq pc 48 then some (.istore_n 3, 49, 0, 0, 0, 0, false) else none)) else (bif Nat.ble 47 pc then (bif Nat.beq pc 47 then some (.iconst (0), 48, 0, 0, 0, 0, false) else none) else (bif Nat.beq pc 44 then some (.if_icmp .ge (61), 47, 105, 0, 0, 0, false) else none)))) else (bif Nat.ble 36 pc then (bif Nat.ble 38 pc then (bif Nat.ble 41 pc then (bif Nat.beq pc 41 then some (.getfield 44, 44, 6, 1, 0, 1035, false) else none) else (bif Nat.beq pc 38 then some (.getfield 26, 41, 4, 0, 1, 1085, false) else none)) else (bif Nat.ble 37 pc then (bif Nat.beq pc 37 then some (.aload_n 0, 38, 0, 0, 0, 0, false) else none) else (bif Nat.beq pc 36 then some (.iload_n 2, 37, 0, 0, 0, 0, true) else none))) else (bif Nat.ble 34 pc then (bif Nat.ble 35 pc then (bif Nat.beq pc 35 then some (.istore_n 2, 36, 0, 0, 0, 0, false) else none) else (bif Nat.beq pc 34 then some (.iconst (0), 35, 0, 0, 0, 0, false) else none)) else (bif Nat.beq pc 31 then some (.if_icmp .ge (80), 34, 111, 0, 0, 0, false) else none)))) else (bif Nat.ble 15 pc then (bif Nat.ble 23 pc then (bif Nat.ble 25 pc then (bif Nat.ble 28 pc then (bif Nat.beq pc 28 then some (.getfield 44, 31, 6, 1, 0, 1035, false) else none) else (bif Nat.beq pc 25 then some (.getfield 26, 28, 4, 0, 1, 1085, false) else none)) else (bif Nat.ble 24 pc then (bif Nat.beq pc 24 then some (.aload_n 0, 25, 0, 0, 0, 0, false) else none) else (bif Nat.beq pc 23 then some (.iload_n 1, 24, 0, 0, 0, 0, true) else none))) else (bif Nat.ble 21 pc then (bif Nat.ble 22 pc then (bif Nat.beq pc 22 then some (.istore_n 1, 23, 0, 0, 0, 0, false) else none) else (bif Nat.beq pc 21 then some (.iconst (0), 22, 0, 0, 0, 0, false) else none)) else (bif Nat.ble 18 pc then (bif Nat.beq pc 18 then some (.invokevirtual 47, 21, 31, 0, 0, 2179, false) else none) else (bif Nat.beq pc 15 then some (.getfield 44, 18, 6, 1, 0, 1035, false) else none)))) else (bif Nat.ble 5 pc then (bif Nat.ble 11 pc then (bif Nat.ble 12 pc then (bif Nat.beq pc 12 then some (.getfield 26, 15, 4, 0, 1, 1085, false) else none) else (bif Nat.beq pc 11 then some (.aload_n 0, 12, 0, 0, 0, 0, false) else none)) else (bif Nat.ble 8 pc then (bif Nat.beq pc 8 then some (.getfield 38, 11, 6, 0, 0, 1030, false) else none) else (bif Nat.beq pc 5 then some (.getfield 26, 8, 4, 0, 1, 1085, false) else none))) else (bif Nat.ble 1 pc then (bif Nat.ble 4 pc then (bif Nat.beq pc 4 then some (.aload_n 0, 5, 0, 0, 0, 0, false) else none) else (bif Nat.beq pc 1 then some (.getfield 20, 4, 4, 2, 1, 1087, false) else none)) else (bif Nat.beq pc 0 then some (.aload_n 0, 1, 0, 0, 0, 0, false) else none)))))
/-- LieAlgebra$Spaces.bracketsWith(I)LLieAlgebra$Subspace; -/
def kc_Spaces_bracketsWith : Nat → Option pj_E := fun pc => bif Nat.ble 73 pc then none else bif Nat.ble 35 pc then (bif Nat.ble 54 pc then (bif Nat.ble 62 pc then (bif Nat.ble 68 pc then (bif Nat.ble 69 pc then (bif Nat.ble 72 pc then (bif Nat.beq pc 72 then some (.areturn, 73, 0, 0, 0, 0, false) else none) else (bif Nat.beq pc 69 then some (.getfield 20, 72, 4, 2, 1, 1087, false) else none)) else (bif Nat.beq pc 68 then some (.aload_n 0, 69, 0, 0, 0, 0, false) else none)) else (bif Nat.ble 65 pc then (bif Nat.beq pc 65 then some (.goto (-42), 68, 23, 0, 0, 0, false) else none) else (bif Nat.beq pc 62 then some (.iinc 2 (1), 65, 0, 0, 0, 0, false) else none))) else (bif Nat.ble 58 pc then (bif Nat.ble 61 pc then (bif Nat.beq pc 61 then some (.pop, 62, 0, 0, 0, 0, false) else none) else (bif Nat.beq pc 58 then some (.invokevirtual 62, 61, 32, 0, 0, 2185, false) else none)) else (bif Nat.ble 55 pc then (bif Nat.beq pc 55 then some (.invokevirtual 69, 58, 53, 0, 0, 2226, false) else none) else (bif Nat.beq pc 54 then some (.iload_n 1, 55, 0, 0, 0, 0, false) else none)))) else (bif Nat.ble 43 pc then (bif Nat.ble 47 pc then (bif Nat.ble 50 pc then (bif Nat.ble 51 pc then (bif Nat.beq pc 51 then some (.invokevirtual 58, 54, 44, 0, 0, 2184, false) else none) else (bif Nat.beq pc 50 then some (.iload_n 2, 51, 0, 0, 0, 0, false) else none)) else (bif Nat.beq pc 47 then some (.getfield 26, 50, 4, 0, 1, 1085, false) else none)) else (bif Nat.ble 46 pc then (bif Nat.beq pc 46 then some (.aload_n 0, 47, 0, 0, 0, 0, false) else none) else (bif Nat.beq pc 43 then some (.getfield 26, 46, 4, 0, 1, 1085, false) else none))) else (bif Nat.ble 39 pc then (bif Nat.ble 42 pc then (bif Nat.beq pc 42 then some (.aload_n 0, 43, 0, 0, 0, 0, false) else none) else (bif Nat.beq pc 39 then some (.getfield 26, 42, 4, 0, 1, 1085, false) else none)) else (bif Nat.ble 38 pc then (bif Nat.beq pc 38 then some (.aload_n 0, 39, 0, 0, 0, 0, false) else none) else (bif Nat.beq pc 35 then some (.getfield 20, 38, 4, 2, 1, 1087, false) else none))))) else (bif Nat.ble 18 pc then (bif Nat.ble 24 pc then (bif Nat.ble 28 pc then (bif Nat.ble 31 pc then (bif Nat.ble 34 pc then (bif Nat.beq pc 34 then some (.aload_n 0, 35, 0, 0, 0, 0, false) else none) else (bif Nat.beq pc 31 then some (.if_icmp .ge (37), 34, 68, 0, 0, 0, false) else none)) else (bif Nat.beq pc 28 then some (.getfield 44, 31, 6, 1, 0, 1035, false) else none)) else (bif Nat.ble 25 pc then (bif Nat.beq pc 25 then some (.getfield 26, 28, 4, 0, 1, 1085, false) else none) else (bif Nat.beq pc 24 then some (.aload_n 0, 25, 0, 0, 0, 0, false) else none))) else (bif Nat.ble 22 pc then (bif Nat.ble 23 pc then (bif Nat.beq pc 23 then some (.iload_n 2, 24, 0, 0, 0, 0, true) else none) else (bif Nat.beq pc 22 then some (.istore_n 2, 23, 0, 0, 0, 0, false) else none)) else (bif Nat.ble 21 pc then (bif Nat.beq pc 21 then some (.iconst (0), 22, 0, 0, 0, 0, false) else none) else (bif Nat.beq pc 18 then some (.invokevirtual 47, 21, 31, 0, 0, 2179, false) else none)))) else (bif Nat.ble 8 pc then (bif Nat.ble 12 pc then (bif Nat.ble 15 pc then (bif Nat.beq pc 15 then some (.getfield 44, 18, 6, 1, 0, 1035, false) else none) else (bif Nat.beq pc 12 then some (.getfield 26, 15, 4, 0, 1, 1085, false) else none)) else (bif Nat.ble 11 pc then (bif Nat.beq pc 11 then some (.aload_n 0, 12, 0, 0, 0, 0, false) else none) else (bif Nat.beq pc 8 then some (.getfield 38, 11, 6, 0, 0, 1030, false) else none))) else (bif Nat.ble 4 pc then (bif Nat.ble 5 pc then (bif Nat.beq pc 5 then some (.getfield 26, 8, 4, 0, 1, 1085, false) else none) else (bif Nat.beq pc 4 then some (.aload_n 0, 5, 0, 0, 0, 0, false) else none)) else (bif Nat.ble 1 pc then (bif Nat.beq pc 1 then some (.getfield 20, 4, 4, 2, 1, 1087, false) else none) else (bif Nat.beq pc 0 then some (.aload_n 0, 1, 0, 0, 0, 0, false) else none)))))
/-- LieAlgebra$Spaces.ideal(I)LLieAlgebra$Subspace; -/
def kc_Spaces_ideal : Nat → Option pj_E := fun pc => bif Nat.ble 59 pc then none else bif Nat.ble 30 pc then (bif Nat.ble 43 pc then (bif Nat.ble 51 pc then (bif Nat.ble 55 pc then (bif Nat.ble 58 pc then (bif Nat.beq pc 58 then some (.areturn, 59, 0, 0, 0, 0, false) else none) else (bif Nat.beq pc 55 then some (.getfield 20, 58, 4, 2, 1, 1087, false) else none)) else (bif Nat.ble 54 pc then (bif Nat.beq pc 54 then some (.aload_n 0, 55, 0, 0, 0, 0, false) else none) else (bif Nat.beq pc 51 then some (.invokevirtual 89, 54, 28, 0, 0, 3082, false) else none))) else (bif Nat.ble 47 pc then (bif Nat.ble 48 pc then (bif Nat.beq pc 48 then some (.getfield 20, 51, 4, 2, 1, 1087, false) else none) else (bif Nat.beq pc 47 then some (.aload_n 0, 48, 0, 0, 0, 0, false) else none)) else (bif Nat.ble 44 pc then (bif Nat.beq pc 44 then some (.getfield 14, 47, 4, 1, 1, 1086, false) else none) else (bif Nat.beq pc 43 then some (.aload_n 0, 44, 0, 0, 0, 0, false) else none)))) else (bif Nat.ble 37 pc then (bif Nat.ble 41 pc then (bif Nat.ble 42 pc then (bif Nat.beq pc 42 then some (.aload_n 0, 43, 0, 0, 0, 0, false) else none) else (bif Nat.beq pc 41 then some (.pop, 42, 0, 0, 0, 0, false) else none)) else (bif Nat.ble 38 pc then (bif Nat.beq pc 38 then some (.invokevirtual 62, 41, 32, 0, 0, 2185, false) else none) else (bif Nat.beq pc 37 then some (.iload_n 1, 38, 0, 0, 0, 0, false) else none))) else (bif Nat.ble 33 pc then (bif Nat.ble 34 pc then (bif Nat.beq pc 34 then some (.getfield 26, 37, 4, 0, 1, 1085, false) else none) else (bif Nat.beq pc 33 then some (.aload_n 0, 34, 0, 0, 0, 0, false) else none)) else (bif Nat.beq pc 30 then some (.getfield 20, 33, 4, 2, 1, 1087, false) else none)))) else (bif Nat.ble 13 pc then (bif Nat.ble 20 pc then (bif Nat.ble 26 pc then (bif Nat.ble 29 pc then (bif Nat.beq pc 29 then some (.aload_n 0, 30, 0, 0, 0, 0, false) else none) else (bif Nat.beq pc 26 then some (.invokevirtual 47, 29, 31, 0, 0, 2179, false) else none)) else (bif Nat.ble 23 pc then (bif Nat.beq pc 23 then some (.getfield 44, 26, 6, 1, 0, 1035, false) else none) else (bif Nat.beq pc 20 then some (.getfield 26, 23, 4, 0, 1, 1085, false) else none))) else (bif Nat.ble 16 pc then (bif Nat.ble 19 pc then (bif Nat.beq pc 19 then some (.aload_n 0, 20, 0, 0, 0, 0, false) else none) else (bif Nat.beq pc 16 then some (.getfield 38, 19, 6, 0, 0, 1030, false) else none)) else (bif Nat.beq pc 13 then some (.getfield 26, 16, 4, 0, 1, 1085, false) else none))) else (bif Nat.ble 5 pc then (bif Nat.ble 9 pc then (bif Nat.ble 12 pc then (bif Nat.beq pc 12 then some (.aload_n 0, 13, 0, 0, 0, 0, false) else none) else (bif Nat.beq pc 9 then some (.getfield 20, 12, 4, 2, 1, 1087, false) else none)) else (bif Nat.ble 8 pc then (bif Nat.beq pc 8 then some (.aload_n 0, 9, 0, 0, 0, 0, false) else none) else (bif Nat.beq pc 5 then some (.invokevirtual 34, 8, 22, 0, 0, 2175, false) else none))) else (bif Nat.ble 1 pc then (bif Nat.ble 2 pc then (bif Nat.beq pc 2 then some (.getfield 14, 5, 4, 1, 1, 1086, false) else none) else (bif Nat.beq pc 1 then some (.aload_n 0, 2, 0, 0, 0, 0, false) else none)) else (bif Nat.beq pc 0 then some (.aload_n 0, 1, 0, 0, 0, 0, false) else none))))
/-- LieAlgebra$Spaces.close(LLieAlgebra$Subspace;LLieAlgebra$Subspace;)V -/
def kc_Spaces_close : Nat → Option pj_E := fun pc => bif Nat.ble 36 pc then none else bif Nat.ble 18 pc then (bif Nat.ble 25 pc then (bif Nat.ble 29 pc then (bif Nat.ble 32 pc then (bif Nat.ble 35 pc then (bif Nat.beq pc 35 then some (.return_, 36, 0, 0, 0, 0, false) else none) else (bif Nat.beq pc 32 then some (.goto (-27), 35, 5, 0, 0, 0, false) else none)) else (bif Nat.beq pc 29 then some (.iinc 4 (1), 32, 0, 0, 0, 0, false) else none)) else (bif Nat.ble 28 pc then (bif Nat.beq pc 28 then some (.istore_n 3, 29, 0, 0, 0, 0, false) else none) else (bif Nat.beq pc 25 then some (.invokevirtual 51, 28, 23, 0, 0, 2214, false) else none))) else (bif Nat.ble 22 pc then (bif Nat.ble 23 pc then (bif Nat.ble 24 pc then (bif Nat.beq pc 24 then some (.aload_n 2, 25, 0, 0, 0, 0, false) else none) else (bif Nat.beq pc 23 then some (.aload_n 2, 24, 0, 0, 0, 0, false) else none)) else (bif Nat.beq pc 22 then some (.aload_n 1, 23, 0, 0, 0, 0, false) else none)) else (bif Nat.ble 21 pc then (bif Nat.beq pc 21 then some (.aload_n 0, 22, 0, 0, 0, 0, false) else none) else (bif Nat.beq pc 18 then some (.ifCond .eq (17), 21, 35, 0, 0, 0, false) else none)))) else (bif Nat.ble 7 pc then (bif Nat.ble 11 pc then (bif Nat.ble 14 pc then (bif Nat.ble 17 pc then (bif Nat.beq pc 17 then some (.iload_n 3, 18, 0, 0, 0, 0, false) else none) else (bif Nat.beq pc 14 then some (.if_icmp .gt (21), 17, 35, 0, 0, 0, false) else none)) else (bif Nat.beq pc 11 then some (.getfield 44, 14, 6, 1, 0, 1035, false) else none)) else (bif Nat.ble 8 pc then (bif Nat.beq pc 8 then some (.getfield 26, 11, 4, 0, 1, 1085, false) else none) else (bif Nat.beq pc 7 then some (.aload_n 0, 8, 0, 0, 0, 0, false) else none))) else (bif Nat.ble 2 pc then (bif Nat.ble 3 pc then (bif Nat.ble 5 pc then (bif Nat.beq pc 5 then some (.iload 4, 7, 0, 0, 0, 0, true) else none) else (bif Nat.beq pc 3 then some (.istore 4, 5, 0, 0, 0, 0, false) else none)) else (bif Nat.beq pc 2 then some (.iconst (0), 3, 0, 0, 0, 0, false) else none)) else (bif Nat.ble 1 pc then (bif Nat.beq pc 1 then some (.istore_n 3, 2, 0, 0, 0, 0, false) else none) else (bif Nat.beq pc 0 then some (.iconst (1), 1, 0, 0, 0, 0, false) else none))))
/-- LieAlgebra$Spaces.subalgebra(II)LLieAlgebra$Subspace; -/
def kc_Spaces_subalgebra : Nat → Option pj_E := fun pc => bif Nat.ble 64 pc then none else bif Nat.ble 34 pc then (bif Nat.ble 48 pc then (bif Nat.ble 56 pc then (bif Nat.ble 60 pc then (bif Nat.ble 63 pc then (bif Nat.beq pc 63 then some (.areturn, 64, 0, 0, 0, 0, false) else none) else (bif Nat.beq pc 60 then some (.getfield 20, 63, 4, 2, 1, 1087, false) else none)) else (bif Nat.ble 59 pc then (bif Nat.beq pc 59 then some (.aload_n 0, 60, 0, 0, 0, 0, false) else none) else (bif Nat.beq pc 56 then some (.invokevirtual 89, 59, 28, 0, 0, 3082, false) else none))) else (bif Nat.ble 52 pc then (bif Nat.ble 53 pc then (bif Nat.beq pc 53 then some (.getfield 20, 56, 4, 2, 1, 1087, false) else none) else (bif Nat.beq pc 52 then some (.aload_n 0, 53, 0, 0, 0, 0, false) else none)) else (bif Nat.ble 49 pc then (bif Nat.beq pc 49 then some (.getfield 20, 52, 4, 2, 1, 1087, false) else none) else (bif Nat.beq pc 48 then some (.aload_n 0, 49, 0, 0, 0, 0, false) else none)))) else (bif Nat.ble 42 pc then (bif Nat.ble 46 pc then (bif Nat.ble 47 pc then (bif Nat.beq pc 47 then some (.aload_n 0, 48, 0, 0, 0, 0, false) else none) else (bif Nat.beq pc 46 then some (.pop, 47, 0, 0, 0, 0, false) else none)) else (bif Nat.ble 43 pc then (bif Nat.beq pc 43 then some (.invokevirtual 62, 46, 32, 0, 0, 2185, false) else none) else (bif Nat.beq pc 42 then some (.iload_n 2, 43, 0, 0, 0, 0, false) else none))) else (bif Nat.ble 38 pc then (bif Nat.ble 39 pc then (bif Nat.beq pc 39 then some (.getfield 26, 42, 4, 0, 1, 1085, false) else none) else (bif Nat.beq pc 38 then some (.aload_n 0, 39, 0, 0, 0, 0, false) else none)) else (bif Nat.ble 35 pc then (bif Nat.beq pc 35 then some (.getfield 20, 38, 4, 2, 1, 1087, false) else none) else (bif Nat.beq pc 34 then some (.aload_n 0, 35, 0, 0, 0, 0, false) else none))))) else (bif Nat.ble 18 pc then (bif Nat.ble 26 pc then (bif Nat.ble 30 pc then (bif Nat.ble 33 pc then (bif Nat.beq pc 33 then some (.pop, 34, 0, 0, 0, 0, false) else none) else (bif Nat.beq pc 30 then some (.invokevirtual 62, 33, 32, 0, 0, 2185, false) else none)) else (bif Nat.ble 29 pc then (bif Nat.beq pc 29 then some (.iload_n 1, 30, 0, 0, 0, 0, false) else none) else (bif Nat.beq pc 26 then some (.getfield 26, 29, 4, 0, 1, 1085, false) else none))) else (bif Nat.ble 22 pc then (bif Nat.ble 25 pc then (bif Nat.beq pc 25 then some (.aload_n 0, 26, 0, 0, 0, 0, false) else none) else (bif Nat.beq pc 22 then some (.getfield 20, 25, 4, 2, 1, 1087, false) else none)) else (bif Nat.ble 21 pc then (bif Nat.beq pc 21 then some (.aload_n 0, 22, 0, 0, 0, 0, false) else none) else (bif Nat.beq pc 18 then some (.invokevirtual 47, 21, 31, 0, 0, 2179, false) else none)))) else (bif Nat.ble 8 pc then (bif Nat.ble 12 pc then (bif Nat.ble 15 pc then (bif Nat.beq pc 15 then some (.getfield 44, 18, 6, 1, 0, 1035, false) else none) else (bif Nat.beq pc 12 then some (.getfield 26, 15, 4, 0, 1, 1085, false) else none)) else (bif Nat.ble 11 pc then (bif Nat.beq pc 11 then some (.aload_n 0, 12, 0, 0, 0, 0, false) else none) else (bif Nat.beq pc 8 then some (.getfield 38, 11, 6, 0, 0, 1030, false) else none))) else (bif Nat.ble 4 pc then (bif Nat.ble 5 pc then (bif Nat.beq pc 5 then some (.getfield 26, 8, 4, 0, 1, 1085, false) else none) else (bif Nat.beq pc 4 then some (.aload_n 0, 5, 0, 0, 0, 0, false) else none)) else (bif Nat.ble 1 pc then (bif Nat.beq pc 1 then some (.getfield 20, 4, 4, 2, 1, 1087, false) else none) else (bif Nat.beq pc 0 then some (.aload_n 0, 1, 0, 0, 0, 0, false) else none)))))
/-- LieAlgebra$Subspace.<init>(I)V -/
def kc_Subspace_init : Nat → Option pj_E := fun pc => bif Nat.ble 41 pc then none else bif Nat.ble 20 pc then (bif Nat.ble 30 pc then (bif Nat.ble 35 pc then (bif Nat.ble 37 pc then (bif Nat.ble 40 pc then (bif Nat.beq pc 40 then some (.return_, 41, 0, 0, 0, 0, false) else none) else (bif Nat.beq pc 37 then some (.putfield 27, 40, 5, 1, 1, 1067, false) else none)) else (bif Nat.beq pc 35 then some (.newarray .int, 37, 0, 0, 0, 1047, false) else none)) else (bif Nat.ble 31 pc then (bif Nat.ble 34 pc then (bif Nat.beq pc 34 then some (.imul, 35, 0, 0, 0, 0, false) else none) else (bif Nat.beq pc 31 then some (.getfield 24, 34, 5, 0, 0, 1066, false) else none)) else (bif Nat.beq pc 30 then some (.aload_n 0, 31, 0, 0, 0, 0, false) else none))) else (bif Nat.ble 25 pc then (bif Nat.ble 28 pc then (bif Nat.ble 29 pc then (bif Nat.beq pc 29 then some (.iadd, 30, 0, 0, 0, 0, false) else none) else (bif Nat.beq pc 28 then some (.iconst (1), 29, 0, 0, 0, 0, false) else none)) else (bif Nat.beq pc 25 then some (.getfield 24, 28, 5, 0, 0, 1066, false) else none)) else (bif Nat.ble 23 pc then (bif Nat.ble 24 pc then (bif Nat.beq pc 24 then some (.aload_n 0, 25, 0, 0, 0, 0, false) else none) else (bif Nat.beq pc 23 then some (.aload_n 0, 24, 0, 0, 0, 0, false) else none)) else (bif Nat.beq pc 20 then some (.putfield 24, 23, 5, 0, 0, 1066, false) else none)))) else (bif Nat.ble 9 pc then (bif Nat.ble 12 pc then (bif Nat.ble 14 pc then (bif Nat.ble 17 pc then (bif Nat.beq pc 17 then some (.invokestatic 21, 20, 87, 0, 0, 1063, false) else none) else (bif Nat.beq pc 14 then some (.invokestatic 15, 17, 86, 0, 0, 1060, false) else none)) else (bif Nat.beq pc 12 then some (.bipush (25), 14, 0, 0, 0, 0, false) else none)) else (bif Nat.ble 10 pc then (bif Nat.ble 11 pc then (bif Nat.beq pc 11 then some (.iload_n 1, 12, 0, 0, 0, 0, false) else none) else (bif Nat.beq pc 10 then some (.iconst (1), 11, 0, 0, 0, 0, false) else none)) else (bif Nat.beq pc 9 then some (.aload_n 0, 10, 0, 0, 0, 0, false) else none))) else (bif Nat.ble 4 pc then (bif Nat.ble 5 pc then (bif Nat.ble 6 pc then (bif Nat.beq pc 6 then some (.putfield 9, 9, 5, 2, 0, 1068, false) else none) else (bif Nat.beq pc 5 then some (.iconst (3), 6, 0, 0, 0, 0, false) else none)) else (bif Nat.beq pc 4 then some (.aload_n 0, 5, 0, 0, 0, 0, false) else none)) else (bif Nat.ble 1 pc then (bif Nat.beq pc 1 then some (.invokespecial 3, 4, 0, 1, 0, 1059, false) else none) else (bif Nat.beq pc 0 then some (.aload_n 0, 1, 0, 0, 0, 0, false) else none))))
/-- LieAlgebra$Subspace.begin(II)V -/
def kc_Subspace_begin : Nat → Option pj_E := fun pc => bif Nat.ble 35 pc then none else bif Nat.ble 15 pc then (bif Nat.ble 26 pc then (bif Nat.ble 30 pc then (bif Nat.ble 31 pc then (bif Nat.ble 34 pc then (bif Nat.beq pc 34 then some (.return_, 35, 0, 0, 0, 0, false) else none) else (bif Nat.beq pc 31 then some (.invokestatic 37, 34, 88, 0, 0, 2183, false) else none)) else (bif Nat.beq pc 30 then some (.iconst (0), 31, 0, 0, 0, 0, false) else none)) else (bif Nat.ble 27 pc then (bif Nat.beq pc 27 then some (.getfield 27, 30, 5, 1, 1, 1067, false) else none) else (bif Nat.beq pc 26 then some (.aload_n 0, 27, 0, 0, 0, 0, false) else none))) else (bif Nat.ble 21 pc then (bif Nat.ble 22 pc then (bif Nat.ble 23 pc then (bif Nat.beq pc 23 then some (.putfield 34, 26, 5, 4, 0, 1070, false) else none) else (bif Nat.beq pc 22 then some (.iconst (0), 23, 0, 0, 0, 0, false) else none)) else (bif Nat.beq pc 21 then some (.aload_n 0, 22, 0, 0, 0, 0, false) else none)) else (bif Nat.ble 18 pc then (bif Nat.beq pc 18 then some (.putfield 31, 21, 5, 3, 0, 1069, false) else none) else (bif Nat.beq pc 15 then some (.invokestatic 21, 18, 87, 0, 0, 1063, false) else none)))) else (bif Nat.ble 6 pc then (bif Nat.ble 8 pc then (bif Nat.ble 9 pc then (bif Nat.ble 12 pc then (bif Nat.beq pc 12 then some (.invokestatic 15, 15, 86, 0, 0, 1060, false) else none) else (bif Nat.beq pc 9 then some (.getfield 24, 12, 5, 0, 0, 1066, false) else none)) else (bif Nat.beq pc 8 then some (.aload_n 0, 9, 0, 0, 0, 0, false) else none)) else (bif Nat.ble 7 pc then (bif Nat.beq pc 7 then some (.iload_n 2, 8, 0, 0, 0, 0, false) else none) else (bif Nat.beq pc 6 then some (.iconst (0), 7, 0, 0, 0, 0, false) else none))) else (bif Nat.ble 2 pc then (bif Nat.ble 5 pc then (bif Nat.beq pc 5 then some (.aload_n 0, 6, 0, 0, 0, 0, false) else none) else (bif Nat.beq pc 2 then some (.putfield 9, 5, 5, 2, 0, 1068, false) else none)) else (bif Nat.ble 1 pc then (bif Nat.beq pc 1 then some (.iload_n 1, 2, 0, 0, 0, 0, false) else none) else (bif Nat.beq pc 0 then some (.aload_n 0, 1, 0, 0, 0, 0, false) else none))))
/-- LieAlgebra$Subspace.join(LLieAlgebra$Table;I)Z -/
def kc_Subspace_join : Nat → Option pj_E := fun pc => bif Nat.ble 32 pc then none else bif Nat.ble 13 pc then (bif Nat.ble 21 pc then (bif Nat.ble 27 pc then (bif Nat.ble 28 pc then (bif Nat.ble 31 pc then (bif Nat.beq pc 31 then some (.ireturn, 32, 0, 0, 0, 0, false) else none) else (bif Nat.beq pc 28 then some (.invokevirtual 69, 31, 34, 0, 0, 2197, false) else none)) else (bif Nat.beq pc 27 then some (.aload_n 0, 28, 0, 0, 0, 0, false) else none)) else (bif Nat.ble 24 pc then (bif Nat.beq pc 24 then some (.goto (-22), 27, 2, 0, 0, 0, false) else none) else (bif Nat.beq pc 21 then some (.iinc 3 (1), 24, 0, 0, 0, 0, false) else none))) else (bif Nat.ble 15 pc then (bif Nat.ble 18 pc then (bif Nat.beq pc 18 then some (.invokevirtual 65, 21, 33, 0, 0, 2190, false) else none) else (bif Nat.beq pc 15 then some (.invokevirtual 60, 18, 54, 0, 0, 2189, false) else none)) else (bif Nat.ble 14 pc then (bif Nat.beq pc 14 then some (.iload_n 3, 15, 0, 0, 0, 0, false) else none) else (bif Nat.beq pc 13 then some (.iload_n 2, 14, 0, 0, 0, 0, false) else none)))) else (bif Nat.ble 4 pc then (bif Nat.ble 10 pc then (bif Nat.ble 11 pc then (bif Nat.ble 12 pc then (bif Nat.beq pc 12 then some (.aload_n 1, 13, 0, 0, 0, 0, false) else none) else (bif Nat.beq pc 11 then some (.iload_n 3, 12, 0, 0, 0, 0, false) else none)) else (bif Nat.beq pc 10 then some (.aload_n 0, 11, 0, 0, 0, 0, false) else none)) else (bif Nat.ble 7 pc then (bif Nat.beq pc 7 then some (.if_icmp .ge (20), 10, 27, 0, 0, 0, false) else none) else (bif Nat.beq pc 4 then some (.getfield 31, 7, 5, 3, 0, 1069, false) else none))) else (bif Nat.ble 2 pc then (bif Nat.ble 3 pc then (bif Nat.beq pc 3 then some (.aload_n 0, 4, 0, 0, 0, 0, false) else none) else (bif Nat.beq pc 2 then some (.iload_n 3, 3, 0, 0, 0, 0, true) else none)) else (bif Nat.ble 1 pc then (bif Nat.beq pc 1 then some (.istore_n 3, 2, 0, 0, 0, 0, false) else none) else (bif Nat.beq pc 0 then some (.iconst (0), 1, 0, 0, 0, 0, false) else none))))
/-- LieAlgebra$Subspace.addIncoming(II)V -/
def kc_Subspace_addIncoming : Nat → Option pj_E := fun pc => bif Nat.ble 63 pc then none else bif Nat.ble 30 pc then (bif Nat.ble 47 pc then (bif Nat.ble 54 pc then (bif Nat.ble 58 pc then (bif Nat.ble 61 pc then (bif Nat.ble 62 pc then (bif Nat.beq pc 62 then some (.return_, 63, 0, 0, 0, 0, false) else none) else (bif Nat.beq pc 61 then some (.iastore, 62, 0, 0, 0, 0, false) else none)) else (bif Nat.beq pc 58 then some (.invokestatic 43, 61, 95, 0, 0, 2194, false) else none)) else (bif Nat.ble 55 pc then (bif Nat.beq pc 55 then some (.getfield 9, 58, 5, 2, 0, 1068, false) else none) else (bif Nat.beq pc 54 then some (.aload_n 0, 55, 0, 0, 0, 0, false) else none))) else (bif Nat.ble 51 pc then (bif Nat.ble 52 pc then (bif Nat.ble 53 pc then (bif Nat.beq pc 53 then some (.iadd, 54, 0, 0, 0, 0, false) else none) else (bif Nat.beq pc 52 then some (.iload_n 2, 53, 0, 0, 0, 0, false) else none)) else (bif Nat.beq pc 51 then some (.iaload, 52, 0, 0, 0, 0, false) else none)) else (bif Nat.ble 50 pc then (bif Nat.beq pc 50 then some (.iload_n 3, 51, 0, 0, 0, 0, false) else none) else (bif Nat.beq pc 47 then some (.getfield 27, 50, 5, 1, 1, 1067, false) else none)))) else (bif Nat.ble 38 pc then (bif Nat.ble 42 pc then (bif Nat.ble 45 pc then (bif Nat.ble 46 pc then (bif Nat.beq pc 46 then some (.aload_n 0, 47, 0, 0, 0, 0, false) else none) else (bif Nat.beq pc 45 then some (.iload_n 3, 46, 0, 0, 0, 0, false) else none)) else (bif Nat.beq pc 42 then some (.getfield 27, 45, 5, 1, 1, 1067, false) else none)) else (bif Nat.ble 41 pc then (bif Nat.beq pc 41 then some (.aload_n 0, 42, 0, 0, 0, 0, false) else none) else (bif Nat.beq pc 38 then some (.if_icmp .le (24), 41, 62, 0, 0, 0, false) else none))) else (bif Nat.ble 34 pc then (bif Nat.ble 37 pc then (bif Nat.beq pc 37 then some (.iconst (1), 38, 0, 0, 0, 0, false) else none) else (bif Nat.beq pc 34 then some (.getfield 9, 37, 5, 2, 0, 1068, false) else none)) else (bif Nat.ble 33 pc then (bif Nat.beq pc 33 then some (.aload_n 0, 34, 0, 0, 0, 0, false) else none) else (bif Nat.beq pc 30 then some (.if_icmp .ge (32), 33, 62, 0, 0, 0, false) else none))))) else (bif Nat.ble 13 pc then (bif Nat.ble 21 pc then (bif Nat.ble 25 pc then (bif Nat.ble 26 pc then (bif Nat.ble 29 pc then (bif Nat.beq pc 29 then some (.arraylength, 30, 0, 0, 0, 0, false) else none) else (bif Nat.beq pc 26 then some (.getfield 27, 29, 5, 1, 1, 1067, false) else none)) else (bif Nat.beq pc 25 then some (.aload_n 0, 26, 0, 0, 0, 0, false) else none)) else (bif Nat.ble 24 pc then (bif Nat.beq pc 24 then some (.iload_n 3, 25, 0, 0, 0, 0, false) else none) else (bif Nat.beq pc 21 then some (.if_icmp .ge (41), 24, 62, 0, 0, 0, false) else none))) else (bif Nat.ble 17 pc then (bif Nat.ble 18 pc then (bif Nat.beq pc 18 then some (.getfield 31, 21, 5, 3, 0, 1069, false) else none) else (bif Nat.beq pc 17 then some (.aload_n 0, 18, 0, 0, 0, 0, false) else none)) else (bif Nat.ble 16 pc then (bif Nat.beq pc 16 then some (.iload_n 1, 17, 0, 0, 0, 0, false) else none) else (bif Nat.beq pc 13 then some (.ifCond .lt (49), 16, 62, 0, 0, 0, false) else none)))) else (bif Nat.ble 8 pc then (bif Nat.ble 10 pc then (bif Nat.ble 11 pc then (bif Nat.ble 12 pc then (bif Nat.beq pc 12 then some (.iload_n 1, 13, 0, 0, 0, 0, false) else none) else (bif Nat.beq pc 11 then some (.istore_n 3, 12, 0, 0, 0, 0, false) else none)) else (bif Nat.beq pc 10 then some (.iadd, 11, 0, 0, 0, 0, false) else none)) else (bif Nat.ble 9 pc then (bif Nat.beq pc 9 then some (.iload_n 1, 10, 0, 0, 0, 0, false) else none) else (bif Nat.beq pc 8 then some (.imul, 9, 0, 0, 0, 0, false) else none))) else (bif Nat.ble 4 pc then (bif Nat.ble 5 pc then (bif Nat.beq pc 5 then some (.getfield 24, 8, 5, 0, 0, 1066, false) else none) else (bif Nat.beq pc 4 then some (.aload_n 0, 5, 0, 0, 0, 0, false) else none)) else (bif Nat.ble 1 pc then (bif Nat.beq pc 1 then some (.getfield 24, 4, 5, 0, 0, 1066, false) else none) else (bif Nat.beq pc 0 then some (.aload_n 0, 1, 0, 0, 0, 0, false) else none)))))
/-- LieAlgebra$Subspace.takeIncoming()Z -/
def kc_Subspace_takeIncoming : Nat → Option pj_E := fun pc => bif Nat.ble 163 pc then none else bif Nat.ble 84 pc then (bif Nat.ble 122 pc then (bif Nat.ble 142 pc then (bif Nat.ble 152 pc then (bif Nat.ble 157 pc then (bif Nat.ble 161 pc then (bif Nat.ble 162 pc then (bif Nat.beq pc 162 then some (.ireturn, 163, 0, 0, 0, 0, false) else none) else (bif Nat.beq pc 161 then some (.iconst (1), 162, 0, 0, 0, 0, false) else none)) else (bif Nat.ble 158 pc then (bif Nat.beq pc 158 then some (.putfield 34, 161, 5, 4, 0, 1070, false) else none) else (bif Nat.beq pc 157 then some (.iadd, 158, 0, 0, 0, 0, false) else none))) else (bif Nat.ble 153 pc then (bif Nat.ble 156 pc then (bif Nat.beq pc 156 then some (.iconst (1), 157, 0, 0, 0, 0, false) else none) else (bif Nat.beq pc 153 then some (.getfield 34, 156, 5, 4, 0, 1070, false) else none)) else (bif Nat.beq pc 152 then some (.dup, 153, 0, 0, 0, 0, false) else none))) else (bif Nat.ble 147 pc then (bif Nat.ble 148 pc then (bif Nat.ble 151 pc then (bif Nat.beq pc 151 then some (.aload_n 0, 152, 0, 0, 0, 0, false) else none) else (bif Nat.beq pc 148 then some (.invokevirtual 53, 151, 37, 0, 0, 2209, false) else none)) else (bif Nat.beq pc 147 then some (.isub, 148, 0, 0, 0, 0, false) else none)) else (bif Nat.ble 143 pc then (bif Nat.ble 146 pc then (bif Nat.beq pc 146 then some (.iconst (1), 147, 0, 0, 0, 0, false) else none) else (bif Nat.beq pc 143 then some (.getfield 9, 146, 5, 2, 0, 1068, false) else none)) else (bif Nat.beq pc 142 then some (.aload_n 0, 143, 0, 0, 0, 0, false) else none)))) else (bif Nat.ble 134 pc then (bif Nat.ble 139 pc then (bif Nat.ble 140 pc then (bif Nat.ble 141 pc then (bif Nat.beq pc 141 then some (.iload_n 1, 142, 0, 0, 0, 0, false) else none) else (bif Nat.beq pc 140 then some (.iload_n 1, 141, 0, 0, 0, 0, false) else none)) else (bif Nat.beq pc 139 then some (.aload_n 0, 140, 0, 0, 0, 0, false) else none)) else (bif Nat.ble 135 pc then (bif Nat.ble 136 pc then (bif Nat.beq pc 136 then some (.invokevirtual 53, 139, 37, 0, 0, 2209, false) else none) else (bif Nat.beq pc 135 then some (.iconst (1), 136, 0, 0, 0, 0, false) else none)) else (bif Nat.beq pc 134 then some (.iload_n 1, 135, 0, 0, 0, 0, false) else none))) else (bif Nat.ble 129 pc then (bif Nat.ble 132 pc then (bif Nat.ble 133 pc then (bif Nat.beq pc 133 then some (.iload_n 2, 134, 0, 0, 0, 0, false) else none) else (bif Nat.beq pc 132 then some (.aload_n 0, 133, 0, 0, 0, 0, false) else none)) else (bif Nat.beq pc 129 then some (.goto (-25), 132, 104, 0, 0, 0, false) else none)) else (bif Nat.ble 123 pc then (bif Nat.ble 126 pc then (bif Nat.beq pc 126 then some (.iinc 3 (1), 129, 0, 0, 0, 0, false) else none) else (bif Nat.beq pc 123 then some (.invokevirtual 53, 126, 37, 0, 0, 2209, false) else none)) else (bif Nat.beq pc 122 then some (.isub, 123, 0, 0, 0, 0, false) else none))))) else (bif Nat.ble 104 pc then (bif Nat.ble 112 pc then (bif Nat.ble 117 pc then (bif Nat.ble 118 pc then (bif Nat.ble 119 pc then (bif Nat.beq pc 119 then some (.invokevirtual 50, 122, 36, 0, 0, 2205, false) else none) else (bif Nat.beq pc 118 then some (.iload_n 2, 119, 0, 0, 0, 0, false) else none)) else (bif Nat.beq pc 117 then some (.iload_n 3, 118, 0, 0, 0, 0, false) else none)) else (bif Nat.ble 113 pc then (bif Nat.ble 116 pc then (bif Nat.beq pc 116 then some (.aload_n 0, 117, 0, 0, 0, 0, false) else none) else (bif Nat.beq pc 113 then some (.getfield 9, 116, 5, 2, 0, 1068, false) else none)) else (bif Nat.beq pc 112 then some (.aload_n 0, 113, 0, 0, 0, 0, false) else none))) else (bif Nat.ble 109 pc then (bif Nat.ble 110 pc then (bif Nat.ble 111 pc then (bif Nat.beq pc 111 then some (.iload_n 1, 112, 0, 0, 0, 0, false) else none) else (bif Nat.beq pc 110 then some (.iload_n 3, 111, 0, 0, 0, 0, false) else none)) else (bif Nat.beq pc 109 then some (.aload_n 0, 110, 0, 0, 0, 0, false) else none)) else (bif Nat.ble 105 pc then (bif Nat.ble 106 pc then (bif Nat.beq pc 106 then some (.if_icmp .ge (26), 109, 132, 0, 0, 0, false) else none) else (bif Nat.beq pc 105 then some (.iload_n 2, 106, 0, 0, 0, 0, false) else none)) else (bif Nat.beq pc 104 then some (.iload_n 3, 105, 0, 0, 0, 0, true) else none)))) else (bif Nat.ble 94 pc then (bif Nat.ble 99 pc then (bif Nat.ble 102 pc then (bif Nat.ble 103 pc then (bif Nat.beq pc 103 then some (.istore_n 3, 104, 0, 0, 0, 0, false) else none) else (bif Nat.beq pc 102 then some (.iconst (0), 103, 0, 0, 0, 0, false) else none)) else (bif Nat.beq pc 99 then some (.invokevirtual 53, 102, 37, 0, 0, 2209, false) else none)) else (bif Nat.ble 97 pc then (bif Nat.ble 98 pc then (bif Nat.beq pc 98 then some (.isub, 99, 0, 0, 0, 0, false) else none) else (bif Nat.beq pc 97 then some (.iconst (1), 98, 0, 0, 0, 0, false) else none)) else (bif Nat.beq pc 94 then some (.invokestatic 57, 97, 66, 0, 1, 2213, false) else none))) else (bif Nat.ble 87 pc then (bif Nat.ble 90 pc then (bif Nat.ble 91 pc then (bif Nat.beq pc 91 then some (.getfield 9, 94, 5, 2, 0, 1068, false) else none) else (bif Nat.beq pc 90 then some (.aload_n 0, 91, 0, 0, 0, 0, false) else none)) else (bif Nat.beq pc 87 then some (.invokevirtual 50, 90, 36, 0, 0, 2205, false) else none)) else (bif Nat.ble 85 pc then (bif Nat.ble 86 pc then (bif Nat.beq pc 86 then some (.iload_n 2, 87, 0, 0, 0, 0, false) else none) else (bif Nat.beq pc 85 then some (.iload_n 1, 86, 0, 0, 0, 0, false) else none)) else (bif Nat.beq pc 84 then some (.aload_n 0, 85, 0, 0, 0, 0, false) else none)))))) else (bif Nat.ble 40 pc then (bif Nat.ble 62 pc then (bif Nat.ble 76 pc then (bif Nat.ble 81 pc then (bif Nat.ble 82 pc then (bif Nat.ble 83 pc then (bif Nat.beq pc 83 then some (.iload_n 1, 84, 0, 0, 0, 0, false) else none) else (bif Nat.beq pc 82 then some (.iload_n 1, 83, 0, 0, 0, 0, false) else none)) else (bif Nat.beq pc 81 then some (.aload_n 0, 82, 0, 0, 0, 0, false) else none)) else (bif Nat.ble 79 pc then (bif Nat.ble 80 pc then (bif Nat.beq pc 80 then some (.ireturn, 81, 0, 0, 0, 0, false) else none) else (bif Nat.beq pc 79 then some (.iconst (0), 80, 0, 0, 0, 0, false) else none)) else (bif Nat.beq pc 76 then some (.if_icmp .ne (5), 79, 81, 0, 0, 0, false) else none))) else (bif Nat.ble 71 pc then (bif Nat.ble 72 pc then (bif Nat.ble 73 pc then (bif Nat.beq pc 73 then some (.getfield 31, 76, 5, 3, 0, 1069, false) else none) else (bif Nat.beq pc 72 then some (.aload_n 0, 73, 0, 0, 0, 0, false) else none)) else (bif Nat.beq pc 71 then some (.iload_n 2, 72, 0, 0, 0, 0, false) else none)) else (bif Nat.ble 65 pc then (bif Nat.ble 68 pc then (bif Nat.beq pc 68 then some (.goto (-20), 71, 48, 0, 0, 0, false) else none) else (bif Nat.beq pc 65 then some (.iinc 2 (1), 68, 0, 0, 0, 0, false) else none)) else (bif Nat.beq pc 62 then some (.ifCond .ne (9), 65, 71, 0, 0, 0, false) else none)))) else (bif Nat.ble 50 pc then (bif Nat.ble 57 pc then (bif Nat.ble 58 pc then (bif Nat.ble 59 pc then (bif Nat.beq pc 59 then some (.invokevirtual 50, 62, 36, 0, 0, 2205, false) else none) else (bif Nat.beq pc 58 then some (.iload_n 2, 59, 0, 0, 0, 0, false) else none)) else (bif Nat.beq pc 57 then some (.iload_n 1, 58, 0, 0, 0, 0, false) else none)) else (bif Nat.ble 53 pc then (bif Nat.ble 56 pc then (bif Nat.beq pc 56 then some (.aload_n 0, 57, 0, 0, 0, 0, false) else none) else (bif Nat.beq pc 53 then some (.if_icmp .ge (18), 56, 71, 0, 0, 0, false) else none)) else (bif Nat.beq pc 50 then some (.getfield 31, 53, 5, 3, 0, 1069, false) else none))) else (bif Nat.ble 47 pc then (bif Nat.ble 48 pc then (bif Nat.ble 49 pc then (bif Nat.beq pc 49 then some (.aload_n 0, 50, 0, 0, 0, 0, false) else none) else (bif Nat.beq pc 48 then some (.iload_n 2, 49, 0, 0, 0, 0, true) else none)) else (bif Nat.beq pc 47 then some (.istore_n 2, 48, 0, 0, 0, 0, false) else none)) else (bif Nat.ble 43 pc then (bif Nat.ble 46 pc then (bif Nat.beq pc 46 then some (.iconst (0), 47, 0, 0, 0, 0, false) else none) else (bif Nat.beq pc 43 then some (.goto (-36), 46, 7, 0, 0, 0, false) else none)) else (bif Nat.beq pc 40 then some (.iinc 2 (1), 43, 0, 0, 0, 0, false) else none))))) else (bif Nat.ble 20 pc then (bif Nat.ble 30 pc then (bif Nat.ble 33 pc then (bif Nat.ble 36 pc then (bif Nat.ble 37 pc then (bif Nat.beq pc 37 then some (.invokevirtual 53, 40, 37, 0, 0, 2209, false) else none) else (bif Nat.beq pc 36 then some (.isub, 37, 0, 0, 0, 0, false) else none)) else (bif Nat.beq pc 33 then some (.invokevirtual 50, 36, 36, 0, 0, 2205, false) else none)) else (bif Nat.ble 31 pc then (bif Nat.ble 32 pc then (bif Nat.beq pc 32 then some (.iload_n 2, 33, 0, 0, 0, 0, false) else none) else (bif Nat.beq pc 31 then some (.iload_n 1, 32, 0, 0, 0, 0, false) else none)) else (bif Nat.beq pc 30 then some (.aload_n 0, 31, 0, 0, 0, 0, false) else none))) else (bif Nat.ble 25 pc then (bif Nat.ble 26 pc then (bif Nat.ble 27 pc then (bif Nat.beq pc 27 then some (.getfield 9, 30, 5, 2, 0, 1068, false) else none) else (bif Nat.beq pc 26 then some (.aload_n 0, 27, 0, 0, 0, 0, false) else none)) else (bif Nat.beq pc 25 then some (.iload_n 2, 26, 0, 0, 0, 0, false) else none)) else (bif Nat.ble 23 pc then (bif Nat.ble 24 pc then (bif Nat.beq pc 24 then some (.iload_n 1, 25, 0, 0, 0, 0, false) else none) else (bif Nat.beq pc 23 then some (.aload_n 0, 24, 0, 0, 0, 0, false) else none)) else (bif Nat.beq pc 20 then some (.ifCond .eq (20), 23, 40, 0, 0, 0, false) else none)))) else (bif Nat.ble 8 pc then (bif Nat.ble 15 pc then (bif Nat.ble 16 pc then (bif Nat.ble 17 pc then (bif Nat.beq pc 17 then some (.invokevirtual 46, 20, 35, 0, 0, 2201, false) else none) else (bif Nat.beq pc 16 then some (.iload_n 2, 17, 0, 0, 0, 0, false) else none)) else (bif Nat.beq pc 15 then some (.aload_n 0, 16, 0, 0, 0, 0, false) else none)) else (bif Nat.ble 9 pc then (bif Nat.ble 12 pc then (bif Nat.beq pc 12 then some (.if_icmp .ge (34), 15, 46, 0, 0, 0, false) else none) else (bif Nat.beq pc 9 then some (.getfield 31, 12, 5, 3, 0, 1069, false) else none)) else (bif Nat.beq pc 8 then some (.aload_n 0, 9, 0, 0, 0, 0, false) else none))) else (bif Nat.ble 5 pc then (bif Nat.ble 6 pc then (bif Nat.ble 7 pc then (bif Nat.beq pc 7 then some (.iload_n 2, 8, 0, 0, 0, 0, true) else none) else (bif Nat.beq pc 6 then some (.istore_n 2, 7, 0, 0, 0, 0, false) else none)) else (bif Nat.beq pc 5 then some (.iconst (0), 6, 0, 0, 0, 0, false) else none)) else (bif Nat.ble 1 pc then (bif Nat.ble 4 pc then (bif Nat.beq pc 4 then some (.istore_n 1, 5, 0, 0, 0, 0, false) else none) else (bif Nat.beq pc 1 then some (.getfield 24, 4, 5, 0, 0, 1066, false) else none)) else (bif Nat.beq pc 0 then some (.aload_n 0, 1, 0, 0, 0, 0, false) else none))))))
/-- LieAlgebra$Subspace.hasLead(I)Z -/
def kc_Subspace_hasLead : Nat → Option pj_E := fun pc => bif Nat.ble 37 pc then none else bif Nat.ble 15 pc then (bif Nat.ble 27 pc then (bif Nat.ble 32 pc then (bif Nat.ble 35 pc then (bif Nat.ble 36 pc then (bif Nat.beq pc 36 then some (.ireturn, 37, 0, 0, 0, 0, false) else none) else (bif Nat.beq pc 35 then some (.iconst (0), 36, 0, 0, 0, 0, false) else none)) else (bif Nat.beq pc 32 then some (.goto (4), 35, 36, 0, 0, 0, false) else none)) else (bif Nat.ble 28 pc then (bif Nat.ble 31 pc then (bif Nat.beq pc 31 then some (.iconst (1), 32, 0, 0, 0, 0, false) else none) else (bif Nat.beq pc 28 then some (.ifCond .eq (7), 31, 35, 0, 0, 0, false) else none)) else (bif Nat.beq pc 27 then some (.iaload, 28, 0, 0, 0, 0, false) else none))) else (bif Nat.ble 22 pc then (bif Nat.ble 23 pc then (bif Nat.ble 26 pc then (bif Nat.beq pc 26 then some (.iload_n 2, 27, 0, 0, 0, 0, false) else none) else (bif Nat.beq pc 23 then some (.getfield 27, 26, 5, 1, 1, 1067, false) else none)) else (bif Nat.beq pc 22 then some (.aload_n 0, 23, 0, 0, 0, 0, false) else none)) else (bif Nat.ble 18 pc then (bif Nat.ble 19 pc then (bif Nat.beq pc 19 then some (.if_icmp .ge (16), 22, 35, 0, 0, 0, false) else none) else (bif Nat.beq pc 18 then some (.arraylength, 19, 0, 0, 0, 0, false) else none)) else (bif Nat.beq pc 15 then some (.getfield 27, 18, 5, 1, 1, 1067, false) else none)))) else (bif Nat.ble 7 pc then (bif Nat.ble 10 pc then (bif Nat.ble 13 pc then (bif Nat.ble 14 pc then (bif Nat.beq pc 14 then some (.aload_n 0, 15, 0, 0, 0, 0, false) else none) else (bif Nat.beq pc 13 then some (.iload_n 2, 14, 0, 0, 0, 0, false) else none)) else (bif Nat.beq pc 10 then some (.ifCond .lt (25), 13, 35, 0, 0, 0, false) else none)) else (bif Nat.ble 8 pc then (bif Nat.ble 9 pc then (bif Nat.beq pc 9 then some (.iload_n 2, 10, 0, 0, 0, 0, false) else none) else (bif Nat.beq pc 8 then some (.istore_n 2, 9, 0, 0, 0, 0, false) else none)) else (bif Nat.beq pc 7 then some (.iadd, 8, 0, 0, 0, 0, false) else none))) else (bif Nat.ble 2 pc then (bif Nat.ble 5 pc then (bif Nat.ble 6 pc then (bif Nat.beq pc 6 then some (.iload_n 1, 7, 0, 0, 0, 0, false) else none) else (bif Nat.beq pc 5 then some (.imul, 6, 0, 0, 0, 0, false) else none)) else (bif Nat.beq pc 2 then some (.getfield 24, 5, 5, 0, 0, 1066, false) else none)) else (bif Nat.ble 1 pc then (bif Nat.beq pc 1 then some (.aload_n 0, 2, 0, 0, 0, 0, false) else none) else (bif Nat.beq pc 0 then some (.iload_n 1, 1, 0, 0, 0, 0, false) else none))))
/-- LieAlgebra$Subspace.cell(II)I -/
def kc_Subspace_cell : Nat → Option pj_E := fun pc => bif Nat.ble 33 pc then none else bif Nat.ble 14 pc then (bif Nat.ble 23 pc then (bif Nat.ble 28 pc then (bif Nat.ble 31 pc then (bif Nat.ble 32 pc then (bif Nat.beq pc 32 then some (.ireturn, 33, 0, 0, 0, 0, false) else none) else (bif Nat.beq pc 31 then some (.iconst (0), 32, 0, 0, 0, 0, false) else none)) else (bif Nat.beq pc 28 then some (.goto (4), 31, 32, 0, 0, 0, false) else none)) else (bif Nat.ble 26 pc then (bif Nat.ble 27 pc then (bif Nat.beq pc 27 then some (.iaload, 28, 0, 0, 0, 0, false) else none) else (bif Nat.beq pc 26 then some (.iload_n 3, 27, 0, 0, 0, 0, false) else none)) else (bif Nat.beq pc 23 then some (.getfield 27, 26, 5, 1, 1, 1067, false) else none))) else (bif Nat.ble 18 pc then (bif Nat.ble 19 pc then (bif Nat.ble 22 pc then (bif Nat.beq pc 22 then some (.aload_n 0, 23, 0, 0, 0, 0, false) else none) else (bif Nat.beq pc 19 then some (.if_icmp .ge (12), 22, 31, 0, 0, 0, false) else none)) else (bif Nat.beq pc 18 then some (.arraylength, 19, 0, 0, 0, 0, false) else none)) else (bif Nat.ble 15 pc then (bif Nat.beq pc 15 then some (.getfield 27, 18, 5, 1, 1, 1067, false) else none) else (bif Nat.beq pc 14 then some (.aload_n 0, 15, 0, 0, 0, 0, false) else none)))) else (bif Nat.ble 7 pc then (bif Nat.ble 9 pc then (bif Nat.ble 10 pc then (bif Nat.ble 13 pc then (bif Nat.beq pc 13 then some (.iload_n 3, 14, 0, 0, 0, 0, false) else none) else (bif Nat.beq pc 10 then some (.ifCond .lt (21), 13, 31, 0, 0, 0, false) else none)) else (bif Nat.beq pc 9 then some (.iload_n 3, 10, 0, 0, 0, 0, false) else none)) else (bif Nat.ble 8 pc then (bif Nat.beq pc 8 then some (.istore_n 3, 9, 0, 0, 0, 0, false) else none) else (bif Nat.beq pc 7 then some (.iadd, 8, 0, 0, 0, 0, false) else none))) else (bif Nat.ble 2 pc then (bif Nat.ble 5 pc then (bif Nat.ble 6 pc then (bif Nat.beq pc 6 then some (.iload_n 2, 7, 0, 0, 0, 0, false) else none) else (bif Nat.beq pc 5 then some (.imul, 6, 0, 0, 0, 0, false) else none)) else (bif Nat.beq pc 2 then some (.getfield 24, 5, 5, 0, 0, 1066, false) else none)) else (bif Nat.ble 1 pc then (bif Nat.beq pc 1 then some (.aload_n 0, 2, 0, 0, 0, 0, false) else none) else (bif Nat.beq pc 0 then some (.iload_n 1, 1, 0, 0, 0, 0, false) else none))))
/-- LieAlgebra$Subspace.addRow(III)V -/
def kc_Subspace_addRow : Nat → Option pj_E := fun pc => bif Nat.ble 121 pc then none else bif Nat.ble 61 pc then (bif Nat.ble 93 pc then (bif Nat.ble 106 pc then (bif Nat.ble 112 pc then (bif Nat.ble 114 pc then (bif Nat.ble 117 pc then (bif Nat.ble 120 pc then (bif Nat.beq pc 120 then some (.return_, 121, 0, 0, 0, 0, false) else none) else (bif Nat.beq pc 117 then some (.goto (-51), 120, 66, 0, 0, 0, false) else none)) else (bif Nat.beq pc 114 then some (.iinc 7 (1), 117, 0, 0, 0, 0, false) else none)) else (bif Nat.ble 113 pc then (bif Nat.beq pc 113 then some (.iastore, 114, 0, 0, 0, 0, false) else none) else (bif Nat.beq pc 112 then some (.irem, 113, 0, 0, 0, 0, false) else none))) else (bif Nat.ble 108 pc then (bif Nat.ble 109 pc then (bif Nat.beq pc 109 then some (.getfield 9, 112, 5, 2, 0, 1068, false) else none) else (bif Nat.beq pc 108 then some (.aload_n 0, 109, 0, 0, 0, 0, false) else none)) else (bif Nat.ble 107 pc then (bif Nat.beq pc 107 then some (.iadd, 108, 0, 0, 0, 0, false) else none) else (bif Nat.beq pc 106 then some (.imul, 107, 0, 0, 0, 0, false) else none)))) else (bif Nat.ble 100 pc then (bif Nat.ble 104 pc then (bif Nat.ble 105 pc then (bif Nat.beq pc 105 then some (.iaload, 106, 0, 0, 0, 0, false) else none) else (bif Nat.beq pc 104 then some (.iadd, 105, 0, 0, 0, 0, false) else none)) else (bif Nat.ble 102 pc then (bif Nat.beq pc 102 then some (.iload 7, 104, 0, 0, 0, 0, false) else none) else (bif Nat.beq pc 100 then some (.iload 6, 102, 0, 0, 0, 0, false) else none))) else (bif Nat.ble 96 pc then (bif Nat.ble 97 pc then (bif Nat.beq pc 97 then some (.getfield 27, 100, 5, 1, 1, 1067, false) else none) else (bif Nat.beq pc 96 then some (.aload_n 0, 97, 0, 0, 0, 0, false) else none)) else (bif Nat.ble 94 pc then (bif Nat.beq pc 94 then some (.iload 4, 96, 0, 0, 0, 0, false) else none) else (bif Nat.beq pc 93 then some (.iaload, 94, 0, 0, 0, 0, false) else none))))) else (bif Nat.ble 76 pc then (bif Nat.ble 84 pc then (bif Nat.ble 88 pc then (bif Nat.ble 90 pc then (bif Nat.ble 92 pc then (bif Nat.beq pc 92 then some (.iadd, 93, 0, 0, 0, 0, false) else none) else (bif Nat.beq pc 90 then some (.iload 7, 92, 0, 0, 0, 0, false) else none)) else (bif Nat.beq pc 88 then some (.iload 5, 90, 0, 0, 0, 0, false) else none)) else (bif Nat.ble 85 pc then (bif Nat.beq pc 85 then some (.getfield 27, 88, 5, 1, 1, 1067, false) else none) else (bif Nat.beq pc 84 then some (.aload_n 0, 85, 0, 0, 0, 0, false) else none))) else (bif Nat.ble 81 pc then (bif Nat.ble 83 pc then (bif Nat.beq pc 83 then some (.iadd, 84, 0, 0, 0, 0, false) else none) else (bif Nat.beq pc 81 then some (.iload 7, 83, 0, 0, 0, 0, false) else none)) else (bif Nat.ble 79 pc then (bif Nat.beq pc 79 then some (.iload 5, 81, 0, 0, 0, 0, false) else none) else (bif Nat.beq pc 76 then some (.getfield 27, 79, 5, 1, 1, 1067, false) else none)))) else (bif Nat.ble 68 pc then (bif Nat.ble 72 pc then (bif Nat.ble 75 pc then (bif Nat.beq pc 75 then some (.aload_n 0, 76, 0, 0, 0, 0, false) else none) else (bif Nat.beq pc 72 then some (.if_icmp .ge (48), 75, 120, 0, 0, 0, false) else none)) else (bif Nat.ble 69 pc then (bif Nat.beq pc 69 then some (.getfield 31, 72, 5, 3, 0, 1069, false) else none) else (bif Nat.beq pc 68 then some (.aload_n 0, 69, 0, 0, 0, 0, false) else none))) else (bif Nat.ble 64 pc then (bif Nat.ble 66 pc then (bif Nat.beq pc 66 then some (.iload 7, 68, 0, 0, 0, 0, true) else none) else (bif Nat.beq pc 64 then some (.istore 7, 66, 0, 0, 0, 0, false) else none)) else (bif Nat.ble 63 pc then (bif Nat.beq pc 63 then some (.iconst (0), 64, 0, 0, 0, 0, false) else none) else (bif Nat.beq pc 61 then some (.istore 6, 63, 0, 0, 0, 0, false) else none)))))) else (bif Nat.ble 33 pc then (bif Nat.ble 47 pc then (bif Nat.ble 53 pc then (bif Nat.ble 56 pc then (bif Nat.ble 57 pc then (bif Nat.ble 60 pc then (bif Nat.beq pc 60 then some (.imul, 61, 0, 0, 0, 0, false) else none) else (bif Nat.beq pc 57 then some (.getfield 24, 60, 5, 0, 0, 1066, false) else none)) else (bif Nat.beq pc 56 then some (.aload_n 0, 57, 0, 0, 0, 0, false) else none)) else (bif Nat.ble 55 pc then (bif Nat.beq pc 55 then some (.iload_n 2, 56, 0, 0, 0, 0, false) else none) else (bif Nat.beq pc 53 then some (.istore 5, 55, 0, 0, 0, 0, false) else none))) else (bif Nat.ble 49 pc then (bif Nat.ble 52 pc then (bif Nat.beq pc 52 then some (.imul, 53, 0, 0, 0, 0, false) else none) else (bif Nat.beq pc 49 then some (.getfield 24, 52, 5, 0, 0, 1066, false) else none)) else (bif Nat.ble 48 pc then (bif Nat.beq pc 48 then some (.aload_n 0, 49, 0, 0, 0, 0, false) else none) else (bif Nat.beq pc 47 then some (.iload_n 1, 48, 0, 0, 0, 0, false) else none)))) else (bif Nat.ble 39 pc then (bif Nat.ble 43 pc then (bif Nat.ble 46 pc then (bif Nat.beq pc 46 then some (.return_, 47, 0, 0, 0, 0, false) else none) else (bif Nat.beq pc 43 then some (.ifCond .ne (4), 46, 47, 0, 0, 0, false) else none)) else (bif Nat.ble 41 pc then (bif Nat.beq pc 41 then some (.iload 4, 43, 0, 0, 0, 0, false) else none) else (bif Nat.beq pc 39 then some (.istore 4, 41, 0, 0, 0, 0, false) else none))) else (bif Nat.ble 35 pc then (bif Nat.ble 38 pc then (bif Nat.beq pc 38 then some (.irem, 39, 0, 0, 0, 0, false) else none) else (bif Nat.beq pc 35 then some (.getfield 9, 38, 5, 2, 0, 1068, false) else none)) else (bif Nat.ble 34 pc then (bif Nat.beq pc 34 then some (.aload_n 0, 35, 0, 0, 0, 0, false) else none) else (bif Nat.beq pc 33 then some (.iload_n 3, 34, 0, 0, 0, 0, false) else none))))) else (bif Nat.ble 14 pc then (bif Nat.ble 24 pc then (bif Nat.ble 26 pc then (bif Nat.ble 29 pc then (bif Nat.ble 32 pc then (bif Nat.beq pc 32 then some (.return_, 33, 0, 0, 0, 0, false) else none) else (bif Nat.beq pc 29 then some (.if_icmp .le (4), 32, 33, 0, 0, 0, false) else none)) else (bif Nat.beq pc 26 then some (.getfield 24, 29, 5, 0, 0, 1066, false) else none)) else (bif Nat.ble 25 pc then (bif Nat.beq pc 25 then some (.aload_n 0, 26, 0, 0, 0, 0, false) else none) else (bif Nat.beq pc 24 then some (.iload_n 2, 25, 0, 0, 0, 0, false) else none))) else (bif Nat.ble 20 pc then (bif Nat.ble 21 pc then (bif Nat.beq pc 21 then some (.ifCond .lt (11), 24, 32, 0, 0, 0, false) else none) else (bif Nat.beq pc 20 then some (.iload_n 2, 21, 0, 0, 0, 0, false) else none)) else (bif Nat.ble 17 pc then (bif Nat.beq pc 17 then some (.if_icmp .gt (15), 20, 32, 0, 0, 0, false) else none) else (bif Nat.beq pc 14 then some (.getfield 24, 17, 5, 0, 0, 1066, false) else none)))) else (bif Nat.ble 8 pc then (bif Nat.ble 12 pc then (bif Nat.ble 13 pc then (bif Nat.beq pc 13 then some (.aload_n 0, 14, 0, 0, 0, 0, false) else none) else (bif Nat.beq pc 12 then some (.iload_n 1, 13, 0, 0, 0, 0, false) else none)) else (bif Nat.ble 9 pc then (bif Nat.beq pc 9 then some (.ifCond .lt (23), 12, 32, 0, 0, 0, false) else none) else (bif Nat.beq pc 8 then some (.iload_n 1, 9, 0, 0, 0, 0, false) else none))) else (bif Nat.ble 4 pc then (bif Nat.ble 5 pc then (bif Nat.beq pc 5 then some (.if_icmp .lt (27), 8, 32, 0, 0, 0, false) else none) else (bif Nat.beq pc 4 then some (.iconst (2), 5, 0, 0, 0, 0, false) else none)) else (bif Nat.ble 1 pc then (bif Nat.beq pc 1 then some (.getfield 9, 4, 5, 2, 0, 1068, false) else none) else (bif Nat.beq pc 0 then some (.aload_n 0, 1, 0, 0, 0, 0, false) else none))))))
/-- LieAlgebra$Subspace.vector(I)I -/
def kc_Subspace_vector : Nat → Option pj_E := fun pc => bif Nat.ble 43 pc then none else bif Nat.ble 20 pc then (bif Nat.ble 30 pc then (bif Nat.ble 37 pc then (bif Nat.ble 40 pc then (bif Nat.ble 42 pc then (bif Nat.beq pc 42 then some (.ireturn, 43, 0, 0, 0, 0, false) else none) else (bif Nat.beq pc 40 then some (.bipush (-9), 42, 0, 0, 0, 0, false) else none)) else (bif Nat.beq pc 37 then some (.goto (-33), 40, 4, 0, 0, 0, false) else none)) else (bif Nat.ble 31 pc then (bif Nat.ble 34 pc then (bif Nat.beq pc 34 then some (.iinc 3 (1), 37, 0, 0, 0, 0, false) else none) else (bif Nat.beq pc 31 then some (.iinc 2 (1), 34, 0, 0, 0, 0, false) else none)) else (bif Nat.beq pc 30 then some (.ireturn, 31, 0, 0, 0, 0, false) else none))) else (bif Nat.ble 25 pc then (bif Nat.ble 26 pc then (bif Nat.ble 27 pc then (bif Nat.beq pc 27 then some (.invokevirtual 73, 30, 39, 0, 0, 2222, false) else none) else (bif Nat.beq pc 26 then some (.iload_n 3, 27, 0, 0, 0, 0, false) else none)) else (bif Nat.beq pc 25 then some (.aload_n 0, 26, 0, 0, 0, 0, false) else none)) else (bif Nat.ble 21 pc then (bif Nat.ble 22 pc then (bif Nat.beq pc 22 then some (.if_icmp .ne (9), 25, 31, 0, 0, 0, false) else none) else (bif Nat.beq pc 21 then some (.iload_n 1, 22, 0, 0, 0, 0, false) else none)) else (bif Nat.beq pc 20 then some (.iload_n 2, 21, 0, 0, 0, 0, false) else none)))) else (bif Nat.ble 6 pc then (bif Nat.ble 13 pc then (bif Nat.ble 14 pc then (bif Nat.ble 17 pc then (bif Nat.beq pc 17 then some (.ifCond .eq (17), 20, 34, 0, 0, 0, false) else none) else (bif Nat.beq pc 14 then some (.invokevirtual 46, 17, 35, 0, 0, 2201, false) else none)) else (bif Nat.beq pc 13 then some (.iload_n 3, 14, 0, 0, 0, 0, false) else none)) else (bif Nat.ble 9 pc then (bif Nat.ble 12 pc then (bif Nat.beq pc 12 then some (.aload_n 0, 13, 0, 0, 0, 0, false) else none) else (bif Nat.beq pc 9 then some (.if_icmp .ge (31), 12, 40, 0, 0, 0, false) else none)) else (bif Nat.beq pc 6 then some (.getfield 31, 9, 5, 3, 0, 1069, false) else none))) else (bif Nat.ble 3 pc then (bif Nat.ble 4 pc then (bif Nat.ble 5 pc then (bif Nat.beq pc 5 then some (.aload_n 0, 6, 0, 0, 0, 0, false) else none) else (bif Nat.beq pc 4 then some (.iload_n 3, 5, 0, 0, 0, 0, true) else none)) else (bif Nat.beq pc 3 then some (.istore_n 3, 4, 0, 0, 0, 0, false) else none)) else (bif Nat.ble 1 pc then (bif Nat.ble 2 pc then (bif Nat.beq pc 2 then some (.iconst (0), 3, 0, 0, 0, 0, false) else none) else (bif Nat.beq pc 1 then some (.istore_n 2, 2, 0, 0, 0, 0, false) else none)) else (bif Nat.beq pc 0 then some (.iconst (0), 1, 0, 0, 0, 0, false) else none))))
/-- LieAlgebra$Subspace.rowAsVector(I)I -/
def kc_Subspace_rowAsVector : Nat → Option pj_E := fun pc => bif Nat.ble 43 pc then none else bif Nat.ble 21 pc then (bif Nat.ble 30 pc then (bif Nat.ble 35 pc then (bif Nat.ble 41 pc then (bif Nat.ble 42 pc then (bif Nat.beq pc 42 then some (.ireturn, 43, 0, 0, 0, 0, false) else none) else (bif Nat.beq pc 41 then some (.iload_n 2, 42, 0, 0, 0, 0, false) else none)) else (bif Nat.ble 38 pc then (bif Nat.beq pc 38 then some (.goto (-31), 41, 7, 0, 0, 0, false) else none) else (bif Nat.beq pc 35 then some (.iinc 4 (1), 38, 0, 0, 0, 0, false) else none))) else (bif Nat.ble 33 pc then (bif Nat.ble 34 pc then (bif Nat.beq pc 34 then some (.istore_n 3, 35, 0, 0, 0, 0, false) else none) else (bif Nat.beq pc 33 then some (.imul, 34, 0, 0, 0, 0, false) else none)) else (bif Nat.beq pc 30 then some (.getfield 9, 33, 5, 2, 0, 1068, false) else none))) else (bif Nat.ble 26 pc then (bif Nat.ble 28 pc then (bif Nat.ble 29 pc then (bif Nat.beq pc 29 then some (.aload_n 0, 30, 0, 0, 0, 0, false) else none) else (bif Nat.beq pc 28 then some (.iload_n 3, 29, 0, 0, 0, 0, false) else none)) else (bif Nat.ble 27 pc then (bif Nat.beq pc 27 then some (.istore_n 2, 28, 0, 0, 0, 0, false) else none) else (bif Nat.beq pc 26 then some (.iadd, 27, 0, 0, 0, 0, false) else none))) else (bif Nat.ble 24 pc then (bif Nat.ble 25 pc then (bif Nat.beq pc 25 then some (.imul, 26, 0, 0, 0, 0, false) else none) else (bif Nat.beq pc 24 then some (.iload_n 3, 25, 0, 0, 0, 0, false) else none)) else (bif Nat.beq pc 21 then some (.invokevirtual 50, 24, 36, 0, 0, 2205, false) else none)))) else (bif Nat.ble 9 pc then (bif Nat.ble 16 pc then (bif Nat.ble 18 pc then (bif Nat.ble 19 pc then (bif Nat.beq pc 19 then some (.iload 4, 21, 0, 0, 0, 0, false) else none) else (bif Nat.beq pc 18 then some (.iload_n 1, 19, 0, 0, 0, 0, false) else none)) else (bif Nat.ble 17 pc then (bif Nat.beq pc 17 then some (.aload_n 0, 18, 0, 0, 0, 0, false) else none) else (bif Nat.beq pc 16 then some (.iload_n 2, 17, 0, 0, 0, 0, false) else none))) else (bif Nat.ble 10 pc then (bif Nat.ble 13 pc then (bif Nat.beq pc 13 then some (.if_icmp .ge (28), 16, 41, 0, 0, 0, false) else none) else (bif Nat.beq pc 10 then some (.getfield 31, 13, 5, 3, 0, 1069, false) else none)) else (bif Nat.beq pc 9 then some (.aload_n 0, 10, 0, 0, 0, 0, false) else none))) else (bif Nat.ble 3 pc then (bif Nat.ble 5 pc then (bif Nat.ble 7 pc then (bif Nat.beq pc 7 then some (.iload 4, 9, 0, 0, 0, 0, true) else none) else (bif Nat.beq pc 5 then some (.istore 4, 7, 0, 0, 0, 0, false) else none)) else (bif Nat.ble 4 pc then (bif Nat.beq pc 4 then some (.iconst (0), 5, 0, 0, 0, 0, false) else none) else (bif Nat.beq pc 3 then some (.istore_n 3, 4, 0, 0, 0, 0, false) else none))) else (bif Nat.ble 1 pc then (bif Nat.ble 2 pc then (bif Nat.beq pc 2 then some (.iconst (1), 3, 0, 0, 0, 0, false) else none) else (bif Nat.beq pc 1 then some (.istore_n 2, 2, 0, 0, 0, 0, false) else none)) else (bif Nat.beq pc 0 then some (.iconst (0), 1, 0, 0, 0, 0, false) else none))))
/-- LieAlgebra$Subspace.solveInto(LLieAlgebra$Subspace;)V -/
def kc_Subspace_solveInto : Nat → Option pj_E := fun pc => bif Nat.ble 79 pc then none else bif Nat.ble 37 pc then (bif Nat.ble 54 pc then (bif Nat.ble 67 pc then (bif Nat.ble 72 pc then (bif Nat.ble 75 pc then (bif Nat.ble 78 pc then (bif Nat.beq pc 78 then some (.return_, 79, 0, 0, 0, 0, false) else none) else (bif Nat.beq pc 75 then some (.goto (-61), 78, 14, 0, 0, 0, false) else none)) else (bif Nat.beq pc 72 then some (.iinc 2 (1), 75, 0, 0, 0, 0, false) else none)) else (bif Nat.ble 68 pc then (bif Nat.ble 71 pc then (bif Nat.beq pc 71 then some (.pop, 72, 0, 0, 0, 0, false) else none) else (bif Nat.beq pc 68 then some (.invokevirtual 69, 71, 34, 0, 0, 2197, false) else none)) else (bif Nat.beq pc 67 then some (.aload_n 1, 68, 0, 0, 0, 0, false) else none))) else (bif Nat.ble 58 pc then (bif Nat.ble 61 pc then (bif Nat.ble 64 pc then (bif Nat.beq pc 64 then some (.goto (-32), 67, 32, 0, 0, 0, false) else none) else (bif Nat.beq pc 61 then some (.iinc 3 (1), 64, 0, 0, 0, 0, false) else none)) else (bif Nat.beq pc 58 then some (.invokevirtual 65, 61, 33, 0, 0, 2190, false) else none)) else (bif Nat.ble 57 pc then (bif Nat.beq pc 57 then some (.ineg, 58, 0, 0, 0, 0, false) else none) else (bif Nat.beq pc 54 then some (.invokevirtual 50, 57, 36, 0, 0, 2205, false) else none)))) else (bif Nat.ble 44 pc then (bif Nat.ble 51 pc then (bif Nat.ble 52 pc then (bif Nat.ble 53 pc then (bif Nat.beq pc 53 then some (.iload_n 2, 54, 0, 0, 0, 0, false) else none) else (bif Nat.beq pc 52 then some (.iload_n 3, 53, 0, 0, 0, 0, false) else none)) else (bif Nat.beq pc 51 then some (.aload_n 0, 52, 0, 0, 0, 0, false) else none)) else (bif Nat.ble 47 pc then (bif Nat.ble 48 pc then (bif Nat.beq pc 48 then some (.goto (10), 51, 58, 0, 0, 0, false) else none) else (bif Nat.beq pc 47 then some (.iconst (1), 48, 0, 0, 0, 0, false) else none)) else (bif Nat.beq pc 44 then some (.if_icmp .ne (7), 47, 51, 0, 0, 0, false) else none))) else (bif Nat.ble 41 pc then (bif Nat.ble 42 pc then (bif Nat.ble 43 pc then (bif Nat.beq pc 43 then some (.iload_n 2, 44, 0, 0, 0, 0, false) else none) else (bif Nat.beq pc 42 then some (.iload_n 3, 43, 0, 0, 0, 0, false) else none)) else (bif Nat.beq pc 41 then some (.iload_n 3, 42, 0, 0, 0, 0, false) else none)) else (bif Nat.ble 40 pc then (bif Nat.beq pc 40 then some (.aload_n 1, 41, 0, 0, 0, 0, false) else none) else (bif Nat.beq pc 37 then some (.if_icmp .ge (30), 40, 67, 0, 0, 0, false) else none))))) else (bif Nat.ble 16 pc then (bif Nat.ble 27 pc then (bif Nat.ble 32 pc then (bif Nat.ble 33 pc then (bif Nat.ble 34 pc then (bif Nat.beq pc 34 then some (.getfield 31, 37, 5, 3, 0, 1069, false) else none) else (bif Nat.beq pc 33 then some (.aload_n 0, 34, 0, 0, 0, 0, false) else none)) else (bif Nat.beq pc 32 then some (.iload_n 3, 33, 0, 0, 0, 0, true) else none)) else (bif Nat.ble 30 pc then (bif Nat.ble 31 pc then (bif Nat.beq pc 31 then some (.istore_n 3, 32, 0, 0, 0, 0, false) else none) else (bif Nat.beq pc 30 then some (.iconst (0), 31, 0, 0, 0, 0, false) else none)) else (bif Nat.beq pc 27 then some (.ifCond .ne (45), 30, 72, 0, 0, 0, false) else none))) else (bif Nat.ble 22 pc then (bif Nat.ble 23 pc then (bif Nat.ble 24 pc then (bif Nat.beq pc 24 then some (.invokevirtual 46, 27, 35, 0, 0, 2201, false) else none) else (bif Nat.beq pc 23 then some (.iload_n 2, 24, 0, 0, 0, 0, false) else none)) else (bif Nat.beq pc 22 then some (.aload_n 0, 23, 0, 0, 0, 0, false) else none)) else (bif Nat.ble 19 pc then (bif Nat.beq pc 19 then some (.if_icmp .ge (59), 22, 78, 0, 0, 0, false) else none) else (bif Nat.beq pc 16 then some (.getfield 31, 19, 5, 3, 0, 1069, false) else none)))) else (bif Nat.ble 9 pc then (bif Nat.ble 13 pc then (bif Nat.ble 14 pc then (bif Nat.ble 15 pc then (bif Nat.beq pc 15 then some (.aload_n 0, 16, 0, 0, 0, 0, false) else none) else (bif Nat.beq pc 14 then some (.iload_n 2, 15, 0, 0, 0, 0, true) else none)) else (bif Nat.beq pc 13 then some (.istore_n 2, 14, 0, 0, 0, 0, false) else none)) else (bif Nat.ble 12 pc then (bif Nat.beq pc 12 then some (.iconst (0), 13, 0, 0, 0, 0, false) else none) else (bif Nat.beq pc 9 then some (.invokevirtual 77, 12, 31, 0, 0, 3015, false) else none))) else (bif Nat.ble 2 pc then (bif Nat.ble 5 pc then (bif Nat.ble 6 pc then (bif Nat.beq pc 6 then some (.getfield 31, 9, 5, 3, 0, 1069, false) else none) else (bif Nat.beq pc 5 then some (.aload_n 0, 6, 0, 0, 0, 0, false) else none)) else (bif Nat.beq pc 2 then some (.getfield 9, 5, 5, 2, 0, 1068, false) else none)) else (bif Nat.ble 1 pc then (bif Nat.beq pc 1 then some (.aload_n 0, 2, 0, 0, 0, 0, false) else none) else (bif Nat.beq pc 0 then some (.aload_n 1, 1, 0, 0, 0, 0, false) else none)))))
/-- LieAlgebra$Table.<init>()V -/
def kc_Table_init : Nat → Option pj_E := fun pc => bif Nat.ble 23 pc then none else bif Nat.ble 10 pc then (bif Nat.ble 15 pc then (bif Nat.ble 19 pc then (bif Nat.ble 22 pc then (bif Nat.beq pc 22 then some (.return_, 23, 0, 0, 0, 0, false) else none) else (bif Nat.beq pc 19 then some (.putfield 18, 22, 6, 2, 1, 1038, false) else none)) else (bif Nat.ble 17 pc then (bif Nat.beq pc 17 then some (.newarray .int, 19, 0, 0, 0, 1047, false) else none) else (bif Nat.beq pc 15 then some (.bipush (25), 17, 0, 0, 0, 0, false) else none))) else (bif Nat.ble 11 pc then (bif Nat.ble 14 pc then (bif Nat.beq pc 14 then some (.aload_n 0, 15, 0, 0, 0, 0, false) else none) else (bif Nat.beq pc 11 then some (.putfield 15, 14, 6, 1, 0, 1032, false) else none)) else (bif Nat.beq pc 10 then some (.iconst (3), 11, 0, 0, 0, 0, false) else none))) else (bif Nat.ble 5 pc then (bif Nat.ble 6 pc then (bif Nat.ble 9 pc then (bif Nat.beq pc 9 then some (.aload_n 0, 10, 0, 0, 0, 0, false) else none) else (bif Nat.beq pc 6 then some (.putfield 9, 9, 6, 0, 0, 1026, false) else none)) else (bif Nat.beq pc 5 then some (.iconst (3), 6, 0, 0, 0, 0, false) else none)) else (bif Nat.ble 1 pc then (bif Nat.ble 4 pc then (bif Nat.beq pc 4 then some (.aload_n 0, 5, 0, 0, 0, 0, false) else none) else (bif Nat.beq pc 1 then some (.invokespecial 3, 4, 0, 1, 0, 1025, false) else none)) else (bif Nat.beq pc 0 then some (.aload_n 0, 1, 0, 0, 0, 0, false) else none)))
/-- LieAlgebra$Table.begin(II)V -/
def kc_Table_begin : Nat → Option pj_E := fun pc => bif Nat.ble 19 pc then none else bif Nat.ble 7 pc then (bif Nat.ble 14 pc then (bif Nat.ble 15 pc then (bif Nat.ble 18 pc then (bif Nat.beq pc 18 then some (.return_, 19, 0, 0, 0, 0, false) else none) else (bif Nat.beq pc 15 then some (.invokestatic 22, 18, 88, 0, 0, 1221, false) else none)) else (bif Nat.beq pc 14 then some (.iconst (0), 15, 0, 0, 0, 0, false) else none)) else (bif Nat.ble 10 pc then (bif Nat.ble 11 pc then (bif Nat.beq pc 11 then some (.getfield 18, 14, 6, 2, 1, 1038, false) else none) else (bif Nat.beq pc 10 then some (.aload_n 0, 11, 0, 0, 0, 0, false) else none)) else (bif Nat.beq pc 7 then some (.putfield 15, 10, 6, 1, 0, 1032, false) else none))) else (bif Nat.ble 2 pc then (bif Nat.ble 5 pc then (bif Nat.ble 6 pc then (bif Nat.beq pc 6 then some (.iload_n 2, 7, 0, 0, 0, 0, false) else none) else (bif Nat.beq pc 5 then some (.aload_n 0, 6, 0, 0, 0, 0, false) else none)) else (bif Nat.beq pc 2 then some (.putfield 9, 5, 6, 0, 0, 1026, false) else none)) else (bif Nat.ble 1 pc then (bif Nat.beq pc 1 then some (.iload_n 1, 2, 0, 0, 0, 0, false) else none) else (bif Nat.beq pc 0 then some (.aload_n 0, 1, 0, 0, 0, 0, false) else none)))
/-- LieAlgebra$Table.vectorCount()I -/
def kc_Table_vectorCount : Nat → Option pj_E := fun pc => bif Nat.ble 9 pc then none else bif Nat.ble 2 pc then (bif Nat.ble 5 pc then (bif Nat.ble 8 pc then (bif Nat.beq pc 8 then some (.ireturn, 9, 0, 0, 0, 0, false) else none) else (bif Nat.beq pc 5 then some (.invokevirtual 42, 8, 44, 0, 0, 1228, false) else none)) else (bif Nat.beq pc 2 then some (.getfield 15, 5, 6, 1, 0, 1032, false) else none)) else (bif Nat.ble 1 pc then (bif Nat.beq pc 1 then some (.aload_n 0, 2, 0, 0, 0, 0, false) else none) else (bif Nat.beq pc 0 then some (.aload_n 0, 1, 0, 0, 0, 0, false) else none))
/-- LieAlgebra$Table.power(I)I -/
def kc_Table_power : Nat → Option pj_E := fun pc => bif Nat.ble 29 pc then none else bif Nat.ble 11 pc then (bif Nat.ble 20 pc then (bif Nat.ble 24 pc then (bif Nat.ble 27 pc then (bif Nat.ble 28 pc then (bif Nat.beq pc 28 then some (.ireturn, 29, 0, 0, 0, 0, false) else none) else (bif Nat.beq pc 27 then some (.iload_n 2, 28, 0, 0, 0, 0, false) else none)) else (bif Nat.beq pc 24 then some (.goto (-20), 27, 4, 0, 0, 0, false) else none)) else (bif Nat.ble 21 pc then (bif Nat.beq pc 21 then some (.iinc 3 (1), 24, 0, 0, 0, 0, false) else none) else (bif Nat.beq pc 20 then some (.istore_n 2, 21, 0, 0, 0, 0, false) else none))) else (bif Nat.ble 15 pc then (bif Nat.ble 16 pc then (bif Nat.ble 19 pc then (bif Nat.beq pc 19 then some (.imul, 20, 0, 0, 0, 0, false) else none) else (bif Nat.beq pc 16 then some (.getfield 9, 19, 6, 0, 0, 1026, false) else none)) else (bif Nat.beq pc 15 then some (.aload_n 0, 16, 0, 0, 0, 0, false) else none)) else (bif Nat.ble 14 pc then (bif Nat.beq pc 14 then some (.iload_n 2, 15, 0, 0, 0, 0, false) else none) else (bif Nat.beq pc 11 then some (.if_icmp .ge (16), 14, 27, 0, 0, 0, false) else none)))) else (bif Nat.ble 4 pc then (bif Nat.ble 6 pc then (bif Nat.ble 9 pc then (bif Nat.ble 10 pc then (bif Nat.beq pc 10 then some (.iconst (5), 11, 0, 0, 0, 0, false) else none) else (bif Nat.beq pc 9 then some (.iload_n 3, 10, 0, 0, 0, 0, false) else none)) else (bif Nat.beq pc 6 then some (.if_icmp .ge (21), 9, 27, 0, 0, 0, false) else none)) else (bif Nat.ble 5 pc then (bif Nat.beq pc 5 then some (.iload_n 1, 6, 0, 0, 0, 0, false) else none) else (bif Nat.beq pc 4 then some (.iload_n 3, 5, 0, 0, 0, 0, true) else none))) else (bif Nat.ble 2 pc then (bif Nat.ble 3 pc then (bif Nat.beq pc 3 then some (.istore_n 3, 4, 0, 0, 0, 0, false) else none) else (bif Nat.beq pc 2 then some (.iconst (0), 3, 0, 0, 0, 0, false) else none)) else (bif Nat.ble 1 pc then (bif Nat.beq pc 1 then some (.istore_n 2, 2, 0, 0, 0, 0, false) else none) else (bif Nat.beq pc 0 then some (.iconst (1), 1, 0, 0, 0, 0, false) else none))))
/-- LieAlgebra$Table.hasPair(II)Z -/
def kc_Table_hasPair : Nat → Option pj_E := fun pc => bif Nat.ble 27 pc then none else bif Nat.ble 13 pc then (bif Nat.ble 21 pc then (bif Nat.ble 25 pc then (bif Nat.ble 26 pc then (bif Nat.beq pc 26 then some (.ireturn, 27, 0, 0, 0, 0, false) else none) else (bif Nat.beq pc 25 then some (.iconst (0), 26, 0, 0, 0, 0, false) else none)) else (bif Nat.ble 22 pc then (bif Nat.beq pc 22 then some (.goto (4), 25, 26, 0, 0, 0, false) else none) else (bif Nat.beq pc 21 then some (.iconst (1), 22, 0, 0, 0, 0, false) else none))) else (bif Nat.ble 17 pc then (bif Nat.ble 18 pc then (bif Nat.beq pc 18 then some (.if_icmp .eq (7), 21, 25, 0, 0, 0, false) else none) else (bif Nat.beq pc 17 then some (.iload_n 2, 18, 0, 0, 0, 0, false) else none)) else (bif Nat.ble 16 pc then (bif Nat.beq pc 16 then some (.iload_n 1, 17, 0, 0, 0, 0, false) else none) else (bif Nat.beq pc 13 then some (.ifCond .eq (12), 16, 25, 0, 0, 0, false) else none)))) else (bif Nat.ble 5 pc then (bif Nat.ble 9 pc then (bif Nat.ble 10 pc then (bif Nat.beq pc 10 then some (.invokevirtual 34, 13, 46, 0, 0, 2000, false) else none) else (bif Nat.beq pc 9 then some (.iload_n 2, 10, 0, 0, 0, 0, false) else none)) else (bif Nat.ble 8 pc then (bif Nat.beq pc 8 then some (.aload_n 0, 9, 0, 0, 0, 0, false) else none) else (bif Nat.beq pc 5 then some (.ifCond .eq (20), 8, 25, 0, 0, 0, false) else none))) else (bif Nat.ble 1 pc then (bif Nat.ble 2 pc then (bif Nat.beq pc 2 then some (.invokevirtual 34, 5, 46, 0, 0, 2000, false) else none) else (bif Nat.beq pc 1 then some (.iload_n 1, 2, 0, 0, 0, 0, false) else none)) else (bif Nat.beq pc 0 then some (.aload_n 0, 1, 0, 0, 0, 0, false) else none)))
/-- LieAlgebra$Table.hasIndex(I)Z -/
def kc_Table_hasIndex : Nat → Option pj_E := fun pc => bif Nat.ble 18 pc then none else bif Nat.ble 9 pc then (bif Nat.ble 13 pc then (bif Nat.ble 16 pc then (bif Nat.ble 17 pc then (bif Nat.beq pc 17 then some (.ireturn, 18, 0, 0, 0, 0, false) else none) else (bif Nat.beq pc 16 then some (.iconst (0), 17, 0, 0, 0, 0, false) else none)) else (bif Nat.beq pc 13 then some (.goto (4), 16, 17, 0, 0, 0, false) else none)) else (bif Nat.ble 12 pc then (bif Nat.beq pc 12 then some (.iconst (1), 13, 0, 0, 0, 0, false) else none) else (bif Nat.beq pc 9 then some (.if_icmp .ge (7), 12, 16, 0, 0, 0, false) else none))) else (bif Nat.ble 4 pc then (bif Nat.ble 5 pc then (bif Nat.ble 6 pc then (bif Nat.beq pc 6 then some (.getfield 15, 9, 6, 1, 0, 1032, false) else none) else (bif Nat.beq pc 5 then some (.aload_n 0, 6, 0, 0, 0, 0, false) else none)) else (bif Nat.beq pc 4 then some (.iload_n 1, 5, 0, 0, 0, 0, false) else none)) else (bif Nat.ble 1 pc then (bif Nat.beq pc 1 then some (.ifCond .lt (15), 4, 16, 0, 0, 0, false) else none) else (bif Nat.beq pc 0 then some (.iload_n 1, 1, 0, 0, 0, 0, false) else none)))
/-- LieAlgebra$Table.hasVector(I)Z -/
def kc_Table_hasVector : Nat → Option pj_E := fun pc => bif Nat.ble 18 pc then none else bif Nat.ble 9 pc then (bif Nat.ble 13 pc then (bif Nat.ble 16 pc then (bif Nat.ble 17 pc then (bif Nat.beq pc 17 then some (.ireturn, 18, 0, 0, 0, 0, false) else none) else (bif Nat.beq pc 16 then some (.iconst (0), 17, 0, 0, 0, 0, false) else none)) else (bif Nat.beq pc 13 then some (.goto (4), 16, 17, 0, 0, 0, false) else none)) else (bif Nat.ble 12 pc then (bif Nat.beq pc 12 then some (.iconst (1), 13, 0, 0, 0, 0, false) else none) else (bif Nat.beq pc 9 then some (.if_icmp .ge (7), 12, 16, 0, 0, 0, false) else none))) else (bif Nat.ble 4 pc then (bif Nat.ble 5 pc then (bif Nat.ble 6 pc then (bif Nat.beq pc 6 then some (.invokevirtual 38, 9, 43, 0, 0, 2008, false) else none) else (bif Nat.beq pc 5 then some (.aload_n 0, 6, 0, 0, 0, 0, false) else none)) else (bif Nat.beq pc 4 then some (.iload_n 1, 5, 0, 0, 0, 0, false) else none)) else (bif Nat.ble 1 pc then (bif Nat.beq pc 1 then some (.ifCond .lt (15), 4, 16, 0, 0, 0, false) else none) else (bif Nat.beq pc 0 then some (.iload_n 1, 1, 0, 0, 0, 0, false) else none)))
/-- LieAlgebra$Table.entry(II)I -/
def kc_Table_entry : Nat → Option pj_E := fun pc => bif Nat.ble 13 pc then none else bif Nat.ble 6 pc then (bif Nat.ble 8 pc then (bif Nat.ble 9 pc then (bif Nat.ble 12 pc then (bif Nat.beq pc 12 then some (.ireturn, 13, 0, 0, 0, 0, false) else none) else (bif Nat.beq pc 9 then some (.invokestatic 49, 12, 62, 0, 1, 2013, false) else none)) else (bif Nat.beq pc 8 then some (.iadd, 9, 0, 0, 0, 0, false) else none)) else (bif Nat.ble 7 pc then (bif Nat.beq pc 7 then some (.iload_n 2, 8, 0, 0, 0, 0, false) else none) else (bif Nat.beq pc 6 then some (.imul, 7, 0, 0, 0, 0, false) else none))) else (bif Nat.ble 4 pc then (bif Nat.ble 5 pc then (bif Nat.beq pc 5 then some (.iconst (5), 6, 0, 0, 0, 0, false) else none) else (bif Nat.beq pc 4 then some (.iload_n 1, 5, 0, 0, 0, 0, false) else none)) else (bif Nat.ble 1 pc then (bif Nat.beq pc 1 then some (.getfield 18, 4, 6, 2, 1, 1038, false) else none) else (bif Nat.beq pc 0 then some (.aload_n 0, 1, 0, 0, 0, 0, false) else none)))
/-- LieAlgebra$Table.setEntry(III)V -/
def kc_Table_setEntry : Nat → Option pj_E := fun pc => bif Nat.ble 33 pc then none else bif Nat.ble 17 pc then (bif Nat.ble 23 pc then (bif Nat.ble 26 pc then (bif Nat.ble 29 pc then (bif Nat.ble 32 pc then (bif Nat.beq pc 32 then some (.return_, 33, 0, 0, 0, 0, false) else none) else (bif Nat.beq pc 29 then some (.invokestatic 53, 32, 63, 0, 1, 2020, false) else none)) else (bif Nat.beq pc 26 then some (.invokevirtual 57, 29, 50, 0, 0, 2023, false) else none)) else (bif Nat.ble 24 pc then (bif Nat.ble 25 pc then (bif Nat.beq pc 25 then some (.iconst (-1), 26, 0, 0, 0, 0, false) else none) else (bif Nat.beq pc 24 then some (.iload_n 3, 25, 0, 0, 0, 0, false) else none)) else (bif Nat.beq pc 23 then some (.iconst (0), 24, 0, 0, 0, 0, false) else none))) else (bif Nat.ble 20 pc then (bif Nat.ble 21 pc then (bif Nat.ble 22 pc then (bif Nat.beq pc 22 then some (.aload_n 0, 23, 0, 0, 0, 0, false) else none) else (bif Nat.beq pc 21 then some (.iadd, 22, 0, 0, 0, 0, false) else none)) else (bif Nat.beq pc 20 then some (.iload_n 1, 21, 0, 0, 0, 0, false) else none)) else (bif Nat.ble 18 pc then (bif Nat.ble 19 pc then (bif Nat.beq pc 19 then some (.imul, 20, 0, 0, 0, 0, false) else none) else (bif Nat.beq pc 18 then some (.iconst (5), 19, 0, 0, 0, 0, false) else none)) else (bif Nat.beq pc 17 then some (.iload_n 2, 18, 0, 0, 0, 0, false) else none)))) else (bif Nat.ble 7 pc then (bif Nat.ble 10 pc then (bif Nat.ble 13 pc then (bif Nat.ble 14 pc then (bif Nat.beq pc 14 then some (.getfield 18, 17, 6, 2, 1, 1038, false) else none) else (bif Nat.beq pc 13 then some (.aload_n 0, 14, 0, 0, 0, 0, false) else none)) else (bif Nat.beq pc 10 then some (.invokestatic 53, 13, 63, 0, 1, 2020, false) else none)) else (bif Nat.ble 8 pc then (bif Nat.ble 9 pc then (bif Nat.beq pc 9 then some (.iload_n 3, 10, 0, 0, 0, 0, false) else none) else (bif Nat.beq pc 8 then some (.iadd, 9, 0, 0, 0, 0, false) else none)) else (bif Nat.beq pc 7 then some (.iload_n 2, 8, 0, 0, 0, 0, false) else none))) else (bif Nat.ble 4 pc then (bif Nat.ble 5 pc then (bif Nat.ble 6 pc then (bif Nat.beq pc 6 then some (.imul, 7, 0, 0, 0, 0, false) else none) else (bif Nat.beq pc 5 then some (.iconst (5), 6, 0, 0, 0, 0, false) else none)) else (bif Nat.beq pc 4 then some (.iload_n 1, 5, 0, 0, 0, 0, false) else none)) else (bif Nat.ble 1 pc then (bif Nat.beq pc 1 then some (.getfield 18, 4, 6, 2, 1, 1038, false) else none) else (bif Nat.beq pc 0 then some (.aload_n 0, 1, 0, 0, 0, 0, false) else none))))
/-- LieAlgebra$Table.plus(III)I -/
def kc_Table_plus : Nat → Option pj_E := fun pc => bif Nat.ble 106 pc then none else bif Nat.ble 53 pc then (bif Nat.ble 77 pc then (bif Nat.ble 90 pc then (bif Nat.ble 97 pc then (bif Nat.ble 103 pc then (bif Nat.ble 105 pc then (bif Nat.beq pc 105 then some (.ireturn, 106, 0, 0, 0, 0, false) else none) else (bif Nat.beq pc 103 then some (.iload 5, 105, 0, 0, 0, 0, false) else none)) else (bif Nat.ble 100 pc then (bif Nat.beq pc 100 then some (.goto (-78), 103, 22, 0, 0, 0, false) else none) else (bif Nat.beq pc 97 then some (.iinc 9 (1), 100, 0, 0, 0, 0, false) else none))) else (bif Nat.ble 94 pc then (bif Nat.ble 95 pc then (bif Nat.beq pc 95 then some (.istore 6, 97, 0, 0, 0, 0, false) else none) else (bif Nat.beq pc 94 then some (.imul, 95, 0, 0, 0, 0, false) else none)) else (bif Nat.ble 91 pc then (bif Nat.beq pc 91 then some (.getfield 9, 94, 6, 0, 0, 1026, false) else none) else (bif Nat.beq pc 90 then some (.aload_n 0, 91, 0, 0, 0, 0, false) else none)))) else (bif Nat.ble 82 pc then (bif Nat.ble 86 pc then (bif Nat.ble 88 pc then (bif Nat.beq pc 88 then some (.iload 6, 90, 0, 0, 0, 0, false) else none) else (bif Nat.beq pc 86 then some (.istore 8, 88, 0, 0, 0, 0, false) else none)) else (bif Nat.ble 85 pc then (bif Nat.beq pc 85 then some (.idiv, 86, 0, 0, 0, 0, false) else none) else (bif Nat.beq pc 82 then some (.getfield 9, 85, 6, 0, 0, 1026, false) else none))) else (bif Nat.ble 79 pc then (bif Nat.ble 81 pc then (bif Nat.beq pc 81 then some (.aload_n 0, 82, 0, 0, 0, 0, false) else none) else (bif Nat.beq pc 79 then some (.iload 8, 81, 0, 0, 0, 0, false) else none)) else (bif Nat.beq pc 77 then some (.istore 7, 79, 0, 0, 0, 0, false) else none)))) else (bif Nat.ble 64 pc then (bif Nat.ble 70 pc then (bif Nat.ble 73 pc then (bif Nat.ble 76 pc then (bif Nat.beq pc 76 then some (.idiv, 77, 0, 0, 0, 0, false) else none) else (bif Nat.beq pc 73 then some (.getfield 9, 76, 6, 0, 0, 1026, false) else none)) else (bif Nat.ble 72 pc then (bif Nat.beq pc 72 then some (.aload_n 0, 73, 0, 0, 0, 0, false) else none) else (bif Nat.beq pc 70 then some (.iload 7, 72, 0, 0, 0, 0, false) else none))) else (bif Nat.ble 67 pc then (bif Nat.ble 68 pc then (bif Nat.beq pc 68 then some (.istore 5, 70, 0, 0, 0, 0, false) else none) else (bif Nat.beq pc 67 then some (.iadd, 68, 0, 0, 0, 0, false) else none)) else (bif Nat.ble 66 pc then (bif Nat.beq pc 66 then some (.imul, 67, 0, 0, 0, 0, false) else none) else (bif Nat.beq pc 64 then some (.iload 6, 66, 0, 0, 0, 0, false) else none)))) else (bif Nat.ble 58 pc then (bif Nat.ble 60 pc then (bif Nat.ble 63 pc then (bif Nat.beq pc 63 then some (.irem, 64, 0, 0, 0, 0, false) else none) else (bif Nat.beq pc 60 then some (.getfield 9, 63, 6, 0, 0, 1026, false) else none)) else (bif Nat.ble 59 pc then (bif Nat.beq pc 59 then some (.aload_n 0, 60, 0, 0, 0, 0, false) else none) else (bif Nat.beq pc 58 then some (.iadd, 59, 0, 0, 0, 0, false) else none))) else (bif Nat.ble 56 pc then (bif Nat.ble 57 pc then (bif Nat.beq pc 57 then some (.imul, 58, 0, 0, 0, 0, false) else none) else (bif Nat.beq pc 56 then some (.irem, 57, 0, 0, 0, 0, false) else none)) else (bif Nat.beq pc 53 then some (.getfield 9, 56, 6, 0, 0, 1026, false) else none))))) else (bif Nat.ble 24 pc then (bif Nat.ble 39 pc then (bif Nat.ble 47 pc then (bif Nat.ble 50 pc then (bif Nat.ble 52 pc then (bif Nat.beq pc 52 then some (.aload_n 0, 53, 0, 0, 0, 0, false) else none) else (bif Nat.beq pc 50 then some (.iload 8, 52, 0, 0, 0, 0, false) else none)) else (bif Nat.ble 48 pc then (bif Nat.beq pc 48 then some (.iload 4, 50, 0, 0, 0, 0, false) else none) else (bif Nat.beq pc 47 then some (.irem, 48, 0, 0, 0, 0, false) else none))) else (bif Nat.ble 43 pc then (bif Nat.ble 44 pc then (bif Nat.beq pc 44 then some (.getfield 9, 47, 6, 0, 0, 1026, false) else none) else (bif Nat.beq pc 43 then some (.aload_n 0, 44, 0, 0, 0, 0, false) else none)) else (bif Nat.ble 41 pc then (bif Nat.beq pc 41 then some (.iload 7, 43, 0, 0, 0, 0, false) else none) else (bif Nat.beq pc 39 then some (.iload 5, 41, 0, 0, 0, 0, false) else none)))) else (bif Nat.ble 31 pc then (bif Nat.ble 35 pc then (bif Nat.ble 36 pc then (bif Nat.beq pc 36 then some (.if_icmp .le (67), 39, 103, 0, 0, 0, false) else none) else (bif Nat.beq pc 35 then some (.iconst (1), 36, 0, 0, 0, 0, false) else none)) else (bif Nat.ble 32 pc then (bif Nat.beq pc 32 then some (.getfield 9, 35, 6, 0, 0, 1026, false) else none) else (bif Nat.beq pc 31 then some (.aload_n 0, 32, 0, 0, 0, 0, false) else none))) else (bif Nat.ble 25 pc then (bif Nat.ble 28 pc then (bif Nat.beq pc 28 then some (.if_icmp .ge (75), 31, 103, 0, 0, 0, false) else none) else (bif Nat.beq pc 25 then some (.getfield 15, 28, 6, 1, 0, 1032, false) else none)) else (bif Nat.beq pc 24 then some (.aload_n 0, 25, 0, 0, 0, 0, false) else none)))) else (bif Nat.ble 11 pc then (bif Nat.ble 17 pc then (bif Nat.ble 20 pc then (bif Nat.ble 22 pc then (bif Nat.beq pc 22 then some (.iload 9, 24, 0, 0, 0, 0, true) else none) else (bif Nat.beq pc 20 then some (.istore 9, 22, 0, 0, 0, 0, false) else none)) else (bif Nat.ble 19 pc then (bif Nat.beq pc 19 then some (.iconst (0), 20, 0, 0, 0, 0, false) else none) else (bif Nat.beq pc 17 then some (.istore 8, 19, 0, 0, 0, 0, false) else none))) else (bif Nat.ble 14 pc then (bif Nat.ble 16 pc then (bif Nat.beq pc 16 then some (.iload_n 2, 17, 0, 0, 0, 0, false) else none) else (bif Nat.beq pc 14 then some (.istore 7, 16, 0, 0, 0, 0, false) else none)) else (bif Nat.ble 13 pc then (bif Nat.beq pc 13 then some (.iload_n 1, 14, 0, 0, 0, 0, false) else none) else (bif Nat.beq pc 11 then some (.istore 6, 13, 0, 0, 0, 0, false) else none)))) else (bif Nat.ble 5 pc then (bif Nat.ble 8 pc then (bif Nat.ble 10 pc then (bif Nat.beq pc 10 then some (.iconst (1), 11, 0, 0, 0, 0, false) else none) else (bif Nat.beq pc 8 then some (.istore 5, 10, 0, 0, 0, 0, false) else none)) else (bif Nat.ble 7 pc then (bif Nat.beq pc 7 then some (.iconst (0), 8, 0, 0, 0, 0, false) else none) else (bif Nat.beq pc 5 then some (.istore 4, 7, 0, 0, 0, 0, false) else none))) else (bif Nat.ble 1 pc then (bif Nat.ble 2 pc then (bif Nat.beq pc 2 then some (.invokevirtual 46, 5, 51, 0, 0, 2027, false) else none) else (bif Nat.beq pc 1 then some (.iload_n 3, 2, 0, 0, 0, 0, false) else none)) else (bif Nat.beq pc 0 then some (.aload_n 0, 1, 0, 0, 0, 0, false) else none)))))
/-- LieAlgebra$Table.reduce(I)I -/
def kc_Table_reduce : Nat → Option pj_E := fun pc => bif Nat.ble 32 pc then none else bif Nat.ble 16 pc then (bif Nat.ble 23 pc then (bif Nat.ble 27 pc then (bif Nat.ble 30 pc then (bif Nat.ble 31 pc then (bif Nat.beq pc 31 then some (.ireturn, 32, 0, 0, 0, 0, false) else none) else (bif Nat.beq pc 30 then some (.iload_n 2, 31, 0, 0, 0, 0, false) else none)) else (bif Nat.beq pc 27 then some (.goto (4), 30, 31, 0, 0, 0, false) else none)) else (bif Nat.ble 26 pc then (bif Nat.beq pc 26 then some (.iadd, 27, 0, 0, 0, 0, false) else none) else (bif Nat.beq pc 23 then some (.getfield 9, 26, 6, 0, 0, 1026, false) else none))) else (bif Nat.ble 18 pc then (bif Nat.ble 21 pc then (bif Nat.ble 22 pc then (bif Nat.beq pc 22 then some (.aload_n 0, 23, 0, 0, 0, 0, false) else none) else (bif Nat.beq pc 21 then some (.iload_n 2, 22, 0, 0, 0, 0, false) else none)) else (bif Nat.beq pc 18 then some (.ifCond .ge (12), 21, 30, 0, 0, 0, false) else none)) else (bif Nat.ble 17 pc then (bif Nat.beq pc 17 then some (.iload_n 2, 18, 0, 0, 0, 0, false) else none) else (bif Nat.beq pc 16 then some (.istore_n 2, 17, 0, 0, 0, 0, false) else none)))) else (bif Nat.ble 9 pc then (bif Nat.ble 11 pc then (bif Nat.ble 12 pc then (bif Nat.ble 15 pc then (bif Nat.beq pc 15 then some (.irem, 16, 0, 0, 0, 0, false) else none) else (bif Nat.beq pc 12 then some (.getfield 9, 15, 6, 0, 0, 1026, false) else none)) else (bif Nat.beq pc 11 then some (.aload_n 0, 12, 0, 0, 0, 0, false) else none)) else (bif Nat.ble 10 pc then (bif Nat.beq pc 10 then some (.iload_n 1, 11, 0, 0, 0, 0, false) else none) else (bif Nat.beq pc 9 then some (.ireturn, 10, 0, 0, 0, 0, false) else none))) else (bif Nat.ble 4 pc then (bif Nat.ble 5 pc then (bif Nat.ble 8 pc then (bif Nat.beq pc 8 then some (.iconst (0), 9, 0, 0, 0, 0, false) else none) else (bif Nat.beq pc 5 then some (.if_icmp .ge (5), 8, 10, 0, 0, 0, false) else none)) else (bif Nat.beq pc 4 then some (.iconst (2), 5, 0, 0, 0, 0, false) else none)) else (bif Nat.ble 1 pc then (bif Nat.beq pc 1 then some (.getfield 9, 4, 6, 0, 0, 1026, false) else none) else (bif Nat.beq pc 0 then some (.aload_n 0, 1, 0, 0, 0, 0, false) else none))))
/-- LieAlgebra$Table.hasFactor(I)Z -/
def kc_Table_hasFactor : Nat → Option pj_E := fun pc => bif Nat.ble 19 pc then none else bif Nat.ble 7 pc then (bif Nat.ble 14 pc then (bif Nat.ble 17 pc then (bif Nat.ble 18 pc then (bif Nat.beq pc 18 then some (.ireturn, 19, 0, 0, 0, 0, false) else none) else (bif Nat.beq pc 17 then some (.iconst (0), 18, 0, 0, 0, 0, false) else none)) else (bif Nat.beq pc 14 then some (.goto (4), 17, 18, 0, 0, 0, false) else none)) else (bif Nat.ble 10 pc then (bif Nat.ble 13 pc then (bif Nat.beq pc 13 then some (.iconst (1), 14, 0, 0, 0, 0, false) else none) else (bif Nat.beq pc 10 then some (.if_icmp .ge (7), 13, 17, 0, 0, 0, false) else none)) else (bif Nat.beq pc 7 then some (.getfield 9, 10, 6, 0, 0, 1026, false) else none))) else (bif Nat.ble 2 pc then (bif Nat.ble 5 pc then (bif Nat.ble 6 pc then (bif Nat.beq pc 6 then some (.aload_n 0, 7, 0, 0, 0, 0, false) else none) else (bif Nat.beq pc 5 then some (.iload_n 1, 6, 0, 0, 0, 0, false) else none)) else (bif Nat.beq pc 2 then some (.if_icmp .lt (15), 5, 17, 0, 0, 0, false) else none)) else (bif Nat.ble 1 pc then (bif Nat.beq pc 1 then some (.iconst (1), 2, 0, 0, 0, 0, false) else none) else (bif Nat.beq pc 0 then some (.iload_n 1, 1, 0, 0, 0, 0, false) else none)))
/-- LieAlgebra$Table.product(II)I -/
def kc_Table_product : Nat → Option pj_E := fun pc => bif Nat.ble 119 pc then none else bif Nat.ble 58 pc then (bif Nat.ble 86 pc then (bif Nat.ble 101 pc then (bif Nat.ble 111 pc then (bif Nat.ble 117 pc then (bif Nat.ble 118 pc then (bif Nat.beq pc 118 then some (.ireturn, 119, 0, 0, 0, 0, false) else none) else (bif Nat.beq pc 117 then some (.iload_n 3, 118, 0, 0, 0, 0, false) else none)) else (bif Nat.ble 114 pc then (bif Nat.beq pc 114 then some (.goto (-109), 117, 5, 0, 0, 0, false) else none) else (bif Nat.beq pc 111 then some (.iinc 4 (1), 114, 0, 0, 0, 0, false) else none))) else (bif Nat.ble 105 pc then (bif Nat.ble 108 pc then (bif Nat.beq pc 108 then some (.goto (-70), 111, 38, 0, 0, 0, false) else none) else (bif Nat.beq pc 105 then some (.iinc 7 (1), 108, 0, 0, 0, 0, false) else none)) else (bif Nat.ble 104 pc then (bif Nat.beq pc 104 then some (.istore_n 3, 105, 0, 0, 0, 0, false) else none) else (bif Nat.beq pc 101 then some (.invokevirtual 57, 104, 50, 0, 0, 2023, false) else none)))) else (bif Nat.ble 92 pc then (bif Nat.ble 96 pc then (bif Nat.ble 99 pc then (bif Nat.beq pc 99 then some (.iload 8, 101, 0, 0, 0, 0, false) else none) else (bif Nat.beq pc 96 then some (.invokevirtual 61, 99, 48, 0, 0, 2064, false) else none)) else (bif Nat.ble 94 pc then (bif Nat.beq pc 94 then some (.iload 7, 96, 0, 0, 0, 0, false) else none) else (bif Nat.beq pc 92 then some (.iload 4, 94, 0, 0, 0, 0, false) else none))) else (bif Nat.ble 90 pc then (bif Nat.ble 91 pc then (bif Nat.beq pc 91 then some (.aload_n 0, 92, 0, 0, 0, 0, false) else none) else (bif Nat.beq pc 90 then some (.iload_n 3, 91, 0, 0, 0, 0, false) else none)) else (bif Nat.ble 89 pc then (bif Nat.beq pc 89 then some (.aload_n 0, 90, 0, 0, 0, 0, false) else none) else (bif Nat.beq pc 86 then some (.ifCond .eq (19), 89, 105, 0, 0, 0, false) else none))))) else (bif Nat.ble 71 pc then (bif Nat.ble 78 pc then (bif Nat.ble 82 pc then (bif Nat.ble 84 pc then (bif Nat.beq pc 84 then some (.iload 8, 86, 0, 0, 0, 0, false) else none) else (bif Nat.beq pc 82 then some (.istore 8, 84, 0, 0, 0, 0, false) else none)) else (bif Nat.ble 79 pc then (bif Nat.beq pc 79 then some (.invokevirtual 46, 82, 51, 0, 0, 2027, false) else none) else (bif Nat.beq pc 78 then some (.isub, 79, 0, 0, 0, 0, false) else none))) else (bif Nat.ble 74 pc then (bif Nat.ble 77 pc then (bif Nat.beq pc 77 then some (.imul, 78, 0, 0, 0, 0, false) else none) else (bif Nat.beq pc 74 then some (.invokevirtual 65, 77, 54, 0, 0, 2060, false) else none)) else (bif Nat.ble 72 pc then (bif Nat.beq pc 72 then some (.iload 7, 74, 0, 0, 0, 0, false) else none) else (bif Nat.beq pc 71 then some (.iload_n 1, 72, 0, 0, 0, 0, false) else none)))) else (bif Nat.ble 64 pc then (bif Nat.ble 68 pc then (bif Nat.ble 70 pc then (bif Nat.beq pc 70 then some (.aload_n 0, 71, 0, 0, 0, 0, false) else none) else (bif Nat.beq pc 68 then some (.iload 6, 70, 0, 0, 0, 0, false) else none)) else (bif Nat.ble 67 pc then (bif Nat.beq pc 67 then some (.imul, 68, 0, 0, 0, 0, false) else none) else (bif Nat.beq pc 64 then some (.invokevirtual 65, 67, 54, 0, 0, 2060, false) else none))) else (bif Nat.ble 61 pc then (bif Nat.ble 62 pc then (bif Nat.beq pc 62 then some (.iload 7, 64, 0, 0, 0, 0, false) else none) else (bif Nat.beq pc 61 then some (.iload_n 2, 62, 0, 0, 0, 0, false) else none)) else (bif Nat.ble 60 pc then (bif Nat.beq pc 60 then some (.aload_n 0, 61, 0, 0, 0, 0, false) else none) else (bif Nat.beq pc 58 then some (.iload 5, 60, 0, 0, 0, 0, false) else none)))))) else (bif Nat.ble 25 pc then (bif Nat.ble 40 pc then (bif Nat.ble 49 pc then (bif Nat.ble 54 pc then (bif Nat.ble 57 pc then (bif Nat.beq pc 57 then some (.aload_n 0, 58, 0, 0, 0, 0, false) else none) else (bif Nat.beq pc 54 then some (.ifCond .eq (57), 57, 111, 0, 0, 0, false) else none)) else (bif Nat.ble 52 pc then (bif Nat.beq pc 52 then some (.iload 6, 54, 0, 0, 0, 0, false) else none) else (bif Nat.beq pc 49 then some (.ifCond .ne (8), 52, 57, 0, 0, 0, false) else none))) else (bif Nat.ble 44 pc then (bif Nat.ble 47 pc then (bif Nat.beq pc 47 then some (.iload 5, 49, 0, 0, 0, 0, false) else none) else (bif Nat.beq pc 44 then some (.if_icmp .ge (67), 47, 111, 0, 0, 0, false) else none)) else (bif Nat.ble 41 pc then (bif Nat.beq pc 41 then some (.getfield 15, 44, 6, 1, 0, 1032, false) else none) else (bif Nat.beq pc 40 then some (.aload_n 0, 41, 0, 0, 0, 0, false) else none)))) else (bif Nat.ble 34 pc then (bif Nat.ble 36 pc then (bif Nat.ble 38 pc then (bif Nat.beq pc 38 then some (.iload 7, 40, 0, 0, 0, 0, true) else none) else (bif Nat.beq pc 36 then some (.istore 7, 38, 0, 0, 0, 0, false) else none)) else (bif Nat.ble 35 pc then (bif Nat.beq pc 35 then some (.iadd, 36, 0, 0, 0, 0, false) else none) else (bif Nat.beq pc 34 then some (.iconst (1), 35, 0, 0, 0, 0, false) else none))) else (bif Nat.ble 30 pc then (bif Nat.ble 32 pc then (bif Nat.beq pc 32 then some (.iload 4, 34, 0, 0, 0, 0, false) else none) else (bif Nat.beq pc 30 then some (.istore 6, 32, 0, 0, 0, 0, false) else none)) else (bif Nat.ble 27 pc then (bif Nat.beq pc 27 then some (.invokevirtual 65, 30, 54, 0, 0, 2060, false) else none) else (bif Nat.beq pc 25 then some (.iload 4, 27, 0, 0, 0, 0, false) else none))))) else (bif Nat.ble 11 pc then (bif Nat.ble 18 pc then (bif Nat.ble 23 pc then (bif Nat.ble 24 pc then (bif Nat.beq pc 24 then some (.iload_n 2, 25, 0, 0, 0, 0, false) else none) else (bif Nat.beq pc 23 then some (.aload_n 0, 24, 0, 0, 0, 0, false) else none)) else (bif Nat.ble 21 pc then (bif Nat.beq pc 21 then some (.istore 5, 23, 0, 0, 0, 0, false) else none) else (bif Nat.beq pc 18 then some (.invokevirtual 65, 21, 54, 0, 0, 2060, false) else none))) else (bif Nat.ble 15 pc then (bif Nat.ble 16 pc then (bif Nat.beq pc 16 then some (.iload 4, 18, 0, 0, 0, 0, false) else none) else (bif Nat.beq pc 15 then some (.iload_n 1, 16, 0, 0, 0, 0, false) else none)) else (bif Nat.ble 14 pc then (bif Nat.beq pc 14 then some (.aload_n 0, 15, 0, 0, 0, 0, false) else none) else (bif Nat.beq pc 11 then some (.if_icmp .ge (106), 14, 117, 0, 0, 0, false) else none)))) else (bif Nat.ble 3 pc then (bif Nat.ble 7 pc then (bif Nat.ble 8 pc then (bif Nat.beq pc 8 then some (.getfield 15, 11, 6, 1, 0, 1032, false) else none) else (bif Nat.beq pc 7 then some (.aload_n 0, 8, 0, 0, 0, 0, false) else none)) else (bif Nat.ble 5 pc then (bif Nat.beq pc 5 then some (.iload 4, 7, 0, 0, 0, 0, true) else none) else (bif Nat.beq pc 3 then some (.istore 4, 5, 0, 0, 0, 0, false) else none))) else (bif Nat.ble 1 pc then (bif Nat.ble 2 pc then (bif Nat.beq pc 2 then some (.iconst (0), 3, 0, 0, 0, 0, false) else none) else (bif Nat.beq pc 1 then some (.istore_n 3, 2, 0, 0, 0, 0, false) else none)) else (bif Nat.beq pc 0 then some (.iconst (0), 1, 0, 0, 0, 0, false) else none)))))
/-- LieAlgebra$Table.coordinate(II)I -/
def kc_Table_coordinate : Nat → Option pj_E := fun pc => bif Nat.ble 31 pc then none else bif Nat.ble 15 pc then (bif Nat.ble 22 pc then (bif Nat.ble 26 pc then (bif Nat.ble 29 pc then (bif Nat.ble 30 pc then (bif Nat.beq pc 30 then some (.ireturn, 31, 0, 0, 0, 0, false) else none) else (bif Nat.beq pc 29 then some (.iconst (0), 30, 0, 0, 0, 0, false) else none)) else (bif Nat.beq pc 26 then some (.goto (4), 29, 30, 0, 0, 0, false) else none)) else (bif Nat.ble 25 pc then (bif Nat.beq pc 25 then some (.irem, 26, 0, 0, 0, 0, false) else none) else (bif Nat.beq pc 22 then some (.getfield 9, 25, 6, 0, 0, 1026, false) else none))) else (bif Nat.ble 19 pc then (bif Nat.ble 20 pc then (bif Nat.ble 21 pc then (bif Nat.beq pc 21 then some (.aload_n 0, 22, 0, 0, 0, 0, false) else none) else (bif Nat.beq pc 20 then some (.idiv, 21, 0, 0, 0, 0, false) else none)) else (bif Nat.beq pc 19 then some (.iload_n 3, 20, 0, 0, 0, 0, false) else none)) else (bif Nat.ble 18 pc then (bif Nat.beq pc 18 then some (.iload_n 1, 19, 0, 0, 0, 0, false) else none) else (bif Nat.beq pc 15 then some (.if_icmp .le (14), 18, 29, 0, 0, 0, false) else none)))) else (bif Nat.ble 6 pc then (bif Nat.ble 10 pc then (bif Nat.ble 11 pc then (bif Nat.ble 14 pc then (bif Nat.beq pc 14 then some (.iconst (1), 15, 0, 0, 0, 0, false) else none) else (bif Nat.beq pc 11 then some (.getfield 9, 14, 6, 0, 0, 1026, false) else none)) else (bif Nat.beq pc 10 then some (.aload_n 0, 11, 0, 0, 0, 0, false) else none)) else (bif Nat.ble 7 pc then (bif Nat.beq pc 7 then some (.ifCond .le (22), 10, 29, 0, 0, 0, false) else none) else (bif Nat.beq pc 6 then some (.iload_n 3, 7, 0, 0, 0, 0, false) else none))) else (bif Nat.ble 2 pc then (bif Nat.ble 5 pc then (bif Nat.beq pc 5 then some (.istore_n 3, 6, 0, 0, 0, 0, false) else none) else (bif Nat.beq pc 2 then some (.invokevirtual 42, 5, 44, 0, 0, 1228, false) else none)) else (bif Nat.ble 1 pc then (bif Nat.beq pc 1 then some (.iload_n 2, 2, 0, 0, 0, 0, false) else none) else (bif Nat.beq pc 0 then some (.aload_n 0, 1, 0, 0, 0, 0, false) else none))))
/-- LieAlgebra$Table.copyFrom(LLieAlgebra$Table;)V -/
def kc_Table_copyFrom : Nat → Option pj_E := fun pc => bif Nat.ble 35 pc then none else bif Nat.ble 17 pc then (bif Nat.ble 26 pc then (bif Nat.ble 30 pc then (bif Nat.ble 31 pc then (bif Nat.ble 34 pc then (bif Nat.beq pc 34 then some (.return_, 35, 0, 0, 0, 0, false) else none) else (bif Nat.beq pc 31 then some (.invokestatic 28, 34, 0, 2, 0, 2075, false) else none)) else (bif Nat.beq pc 30 then some (.arraylength, 31, 0, 0, 0, 0, false) else none)) else (bif Nat.ble 27 pc then (bif Nat.beq pc 27 then some (.getfield 18, 30, 6, 2, 1, 1038, false) else none) else (bif Nat.beq pc 26 then some (.aload_n 0, 27, 0, 0, 0, 0, false) else none))) else (bif Nat.ble 21 pc then (bif Nat.ble 22 pc then (bif Nat.ble 25 pc then (bif Nat.beq pc 25 then some (.iconst (0), 26, 0, 0, 0, 0, false) else none) else (bif Nat.beq pc 22 then some (.getfield 18, 25, 6, 2, 1, 1038, false) else none)) else (bif Nat.beq pc 21 then some (.aload_n 0, 22, 0, 0, 0, 0, false) else none)) else (bif Nat.ble 20 pc then (bif Nat.beq pc 20 then some (.iconst (0), 21, 0, 0, 0, 0, false) else none) else (bif Nat.beq pc 17 then some (.getfield 18, 20, 6, 2, 1, 1038, false) else none)))) else (bif Nat.ble 8 pc then (bif Nat.ble 10 pc then (bif Nat.ble 13 pc then (bif Nat.ble 16 pc then (bif Nat.beq pc 16 then some (.aload_n 1, 17, 0, 0, 0, 0, false) else none) else (bif Nat.beq pc 13 then some (.putfield 15, 16, 6, 1, 0, 1032, false) else none)) else (bif Nat.beq pc 10 then some (.getfield 15, 13, 6, 1, 0, 1032, false) else none)) else (bif Nat.ble 9 pc then (bif Nat.beq pc 9 then some (.aload_n 1, 10, 0, 0, 0, 0, false) else none) else (bif Nat.beq pc 8 then some (.aload_n 0, 9, 0, 0, 0, 0, false) else none))) else (bif Nat.ble 2 pc then (bif Nat.ble 5 pc then (bif Nat.beq pc 5 then some (.putfield 9, 8, 6, 0, 0, 1026, false) else none) else (bif Nat.beq pc 2 then some (.getfield 9, 5, 6, 0, 0, 1026, false) else none)) else (bif Nat.ble 1 pc then (bif Nat.beq pc 1 then some (.aload_n 1, 2, 0, 0, 0, 0, false) else none) else (bif Nat.beq pc 0 then some (.aload_n 0, 1, 0, 0, 0, 0, false) else none))))
/-- LieAlgebra$Table.pairsWithBracket()I -/
def kc_Table_pairsWithBracket : Nat → Option pj_E := fun pc => bif Nat.ble 48 pc then none else bif Nat.ble 19 pc then (bif Nat.ble 31 pc then (bif Nat.ble 40 pc then (bif Nat.ble 46 pc then (bif Nat.ble 47 pc then (bif Nat.beq pc 47 then some (.ireturn, 48, 0, 0, 0, 0, false) else none) else (bif Nat.beq pc 46 then some (.iload_n 1, 47, 0, 0, 0, 0, false) else none)) else (bif Nat.ble 43 pc then (bif Nat.beq pc 43 then some (.goto (-39), 46, 4, 0, 0, 0, false) else none) else (bif Nat.beq pc 40 then some (.iinc 2 (1), 43, 0, 0, 0, 0, false) else none))) else (bif Nat.ble 34 pc then (bif Nat.ble 37 pc then (bif Nat.beq pc 37 then some (.goto (-23), 40, 14, 0, 0, 0, false) else none) else (bif Nat.beq pc 34 then some (.iinc 3 (1), 37, 0, 0, 0, 0, false) else none)) else (bif Nat.beq pc 31 then some (.iinc 1 (1), 34, 0, 0, 0, 0, false) else none))) else (bif Nat.ble 24 pc then (bif Nat.ble 25 pc then (bif Nat.ble 28 pc then (bif Nat.beq pc 28 then some (.ifCond .eq (6), 31, 34, 0, 0, 0, false) else none) else (bif Nat.beq pc 25 then some (.invokevirtual 61, 28, 48, 0, 0, 2064, false) else none)) else (bif Nat.beq pc 24 then some (.iload_n 3, 25, 0, 0, 0, 0, false) else none)) else (bif Nat.ble 22 pc then (bif Nat.ble 23 pc then (bif Nat.beq pc 23 then some (.iload_n 2, 24, 0, 0, 0, 0, false) else none) else (bif Nat.beq pc 22 then some (.aload_n 0, 23, 0, 0, 0, 0, false) else none)) else (bif Nat.beq pc 19 then some (.if_icmp .ge (21), 22, 40, 0, 0, 0, false) else none)))) else (bif Nat.ble 6 pc then (bif Nat.ble 13 pc then (bif Nat.ble 15 pc then (bif Nat.ble 16 pc then (bif Nat.beq pc 16 then some (.getfield 15, 19, 6, 1, 0, 1032, false) else none) else (bif Nat.beq pc 15 then some (.aload_n 0, 16, 0, 0, 0, 0, false) else none)) else (bif Nat.ble 14 pc then (bif Nat.beq pc 14 then some (.iload_n 3, 15, 0, 0, 0, 0, true) else none) else (bif Nat.beq pc 13 then some (.istore_n 3, 14, 0, 0, 0, 0, false) else none))) else (bif Nat.ble 9 pc then (bif Nat.ble 12 pc then (bif Nat.beq pc 12 then some (.iconst (0), 13, 0, 0, 0, 0, false) else none) else (bif Nat.beq pc 9 then some (.if_icmp .ge (37), 12, 46, 0, 0, 0, false) else none)) else (bif Nat.beq pc 6 then some (.getfield 15, 9, 6, 1, 0, 1032, false) else none))) else (bif Nat.ble 3 pc then (bif Nat.ble 4 pc then (bif Nat.ble 5 pc then (bif Nat.beq pc 5 then some (.aload_n 0, 6, 0, 0, 0, 0, false) else none) else (bif Nat.beq pc 4 then some (.iload_n 2, 5, 0, 0, 0, 0, true) else none)) else (bif Nat.beq pc 3 then some (.istore_n 2, 4, 0, 0, 0, 0, false) else none)) else (bif Nat.ble 1 pc then (bif Nat.ble 2 pc then (bif Nat.beq pc 2 then some (.iconst (0), 3, 0, 0, 0, 0, false) else none) else (bif Nat.beq pc 1 then some (.istore_n 1, 2, 0, 0, 0, 0, false) else none)) else (bif Nat.beq pc 0 then some (.iconst (0), 1, 0, 0, 0, 0, false) else none))))
/-- LieAlgebra$Table.jacobiValue(III)I -/
def kc_Table_jacobiValue : Nat → Option pj_E := fun pc => bif Nat.ble 64 pc then none else bif Nat.ble 29 pc then (bif Nat.ble 46 pc then (bif Nat.ble 53 pc then (bif Nat.ble 59 pc then (bif Nat.ble 60 pc then (bif Nat.ble 63 pc then (bif Nat.beq pc 63 then some (.ireturn, 64, 0, 0, 0, 0, false) else none) else (bif Nat.beq pc 60 then some (.invokevirtual 57, 63, 50, 0, 0, 2023, false) else none)) else (bif Nat.beq pc 59 then some (.iconst (1), 60, 0, 0, 0, 0, false) else none)) else (bif Nat.ble 56 pc then (bif Nat.beq pc 56 then some (.invokevirtual 68, 59, 53, 0, 0, 2162, false) else none) else (bif Nat.beq pc 53 then some (.invokevirtual 61, 56, 48, 0, 0, 2064, false) else none))) else (bif Nat.ble 50 pc then (bif Nat.ble 51 pc then (bif Nat.ble 52 pc then (bif Nat.beq pc 52 then some (.iload_n 2, 53, 0, 0, 0, 0, false) else none) else (bif Nat.beq pc 51 then some (.iload_n 1, 52, 0, 0, 0, 0, false) else none)) else (bif Nat.beq pc 50 then some (.aload_n 0, 51, 0, 0, 0, 0, false) else none)) else (bif Nat.ble 47 pc then (bif Nat.beq pc 47 then some (.invokevirtual 42, 50, 44, 0, 0, 1228, false) else none) else (bif Nat.beq pc 46 then some (.iload_n 3, 47, 0, 0, 0, 0, false) else none)))) else (bif Nat.ble 39 pc then (bif Nat.ble 42 pc then (bif Nat.ble 44 pc then (bif Nat.ble 45 pc then (bif Nat.beq pc 45 then some (.aload_n 0, 46, 0, 0, 0, 0, false) else none) else (bif Nat.beq pc 44 then some (.aload_n 0, 45, 0, 0, 0, 0, false) else none)) else (bif Nat.beq pc 42 then some (.iload 4, 44, 0, 0, 0, 0, false) else none)) else (bif Nat.ble 41 pc then (bif Nat.beq pc 41 then some (.aload_n 0, 42, 0, 0, 0, 0, false) else none) else (bif Nat.beq pc 39 then some (.istore 4, 41, 0, 0, 0, 0, false) else none))) else (bif Nat.ble 35 pc then (bif Nat.ble 36 pc then (bif Nat.beq pc 36 then some (.invokevirtual 57, 39, 50, 0, 0, 2023, false) else none) else (bif Nat.beq pc 35 then some (.iconst (1), 36, 0, 0, 0, 0, false) else none)) else (bif Nat.ble 32 pc then (bif Nat.beq pc 32 then some (.invokevirtual 68, 35, 53, 0, 0, 2162, false) else none) else (bif Nat.beq pc 29 then some (.invokevirtual 61, 32, 48, 0, 0, 2064, false) else none))))) else (bif Nat.ble 15 pc then (bif Nat.ble 22 pc then (bif Nat.ble 26 pc then (bif Nat.ble 27 pc then (bif Nat.ble 28 pc then (bif Nat.beq pc 28 then some (.iload_n 1, 29, 0, 0, 0, 0, false) else none) else (bif Nat.beq pc 27 then some (.iload_n 3, 28, 0, 0, 0, 0, false) else none)) else (bif Nat.beq pc 26 then some (.aload_n 0, 27, 0, 0, 0, 0, false) else none)) else (bif Nat.ble 23 pc then (bif Nat.beq pc 23 then some (.invokevirtual 42, 26, 44, 0, 0, 1228, false) else none) else (bif Nat.beq pc 22 then some (.iload_n 2, 23, 0, 0, 0, 0, false) else none))) else (bif Nat.ble 18 pc then (bif Nat.ble 20 pc then (bif Nat.ble 21 pc then (bif Nat.beq pc 21 then some (.aload_n 0, 22, 0, 0, 0, 0, false) else none) else (bif Nat.beq pc 20 then some (.aload_n 0, 21, 0, 0, 0, 0, false) else none)) else (bif Nat.beq pc 18 then some (.iload 4, 20, 0, 0, 0, 0, false) else none)) else (bif Nat.ble 17 pc then (bif Nat.beq pc 17 then some (.aload_n 0, 18, 0, 0, 0, 0, false) else none) else (bif Nat.beq pc 15 then some (.istore 4, 17, 0, 0, 0, 0, false) else none)))) else (bif Nat.ble 6 pc then (bif Nat.ble 8 pc then (bif Nat.ble 9 pc then (bif Nat.ble 12 pc then (bif Nat.beq pc 12 then some (.invokevirtual 68, 15, 53, 0, 0, 2162, false) else none) else (bif Nat.beq pc 9 then some (.invokevirtual 61, 12, 48, 0, 0, 2064, false) else none)) else (bif Nat.beq pc 8 then some (.iload_n 3, 9, 0, 0, 0, 0, false) else none)) else (bif Nat.ble 7 pc then (bif Nat.beq pc 7 then some (.iload_n 2, 8, 0, 0, 0, 0, false) else none) else (bif Nat.beq pc 6 then some (.aload_n 0, 7, 0, 0, 0, 0, false) else none))) else (bif Nat.ble 2 pc then (bif Nat.ble 3 pc then (bif Nat.beq pc 3 then some (.invokevirtual 42, 6, 44, 0, 0, 1228, false) else none) else (bif Nat.beq pc 2 then some (.iload_n 1, 3, 0, 0, 0, 0, false) else none)) else (bif Nat.ble 1 pc then (bif Nat.beq pc 1 then some (.aload_n 0, 2, 0, 0, 0, 0, false) else none) else (bif Nat.beq pc 0 then some (.aload_n 0, 1, 0, 0, 0, 0, false) else none)))))
/-- LieAlgebra.<init>()V -/
def kc_Li_init : Nat → Option pj_E := fun pc => bif Nat.ble 97 pc then none else bif Nat.ble 49 pc then (bif Nat.ble 72 pc then (bif Nat.ble 85 pc then (bif Nat.ble 90 pc then (bif Nat.ble 93 pc then (bif Nat.ble 96 pc then (bif Nat.beq pc 96 then some (.return_, 97, 0, 0, 0, 0, false) else none) else (bif Nat.beq pc 93 then some (.putfield 55, 96, 7, 6, 1, 1179, false) else none)) else (bif Nat.beq pc 90 then some (.invokespecial 48, 93, 14, 0, 0, 1160, false) else none)) else (bif Nat.ble 88 pc then (bif Nat.ble 89 pc then (bif Nat.beq pc 89 then some (.iconst (2), 90, 0, 0, 0, 0, false) else none) else (bif Nat.beq pc 88 then some (.dup, 89, 0, 0, 0, 0, false) else none)) else (bif Nat.beq pc 85 then some (.new 46, 88, 3, 0, 0, 1158, false) else none))) else (bif Nat.ble 78 pc then (bif Nat.ble 81 pc then (bif Nat.ble 84 pc then (bif Nat.beq pc 84 then some (.aload_n 0, 85, 0, 0, 0, 0, false) else none) else (bif Nat.beq pc 81 then some (.putfield 51, 84, 7, 5, 1, 1178, false) else none)) else (bif Nat.beq pc 78 then some (.invokespecial 48, 81, 14, 0, 0, 1160, false) else none)) else (bif Nat.ble 75 pc then (bif Nat.ble 76 pc then (bif Nat.beq pc 76 then some (.bipush (6), 78, 0, 0, 0, 0, false) else none) else (bif Nat.beq pc 75 then some (.dup, 76, 0, 0, 0, 0, false) else none)) else (bif Nat.beq pc 72 then some (.new 46, 75, 3, 0, 0, 1158, false) else none)))) else (bif Nat.ble 60 pc then (bif Nat.ble 65 pc then (bif Nat.ble 68 pc then (bif Nat.ble 71 pc then (bif Nat.beq pc 71 then some (.aload_n 0, 72, 0, 0, 0, 0, false) else none) else (bif Nat.beq pc 68 then some (.putfield 42, 71, 7, 4, 1, 1177, false) else none)) else (bif Nat.beq pc 65 then some (.invokespecial 41, 68, 13, 0, 1, 1139, false) else none)) else (bif Nat.ble 61 pc then (bif Nat.ble 64 pc then (bif Nat.beq pc 64 then some (.dup, 65, 0, 0, 0, 0, false) else none) else (bif Nat.beq pc 61 then some (.new 39, 64, 2, 0, 0, 1137, false) else none)) else (bif Nat.beq pc 60 then some (.aload_n 0, 61, 0, 0, 0, 0, false) else none))) else (bif Nat.ble 51 pc then (bif Nat.ble 54 pc then (bif Nat.ble 57 pc then (bif Nat.beq pc 57 then some (.putfield 35, 60, 7, 3, 1, 1176, false) else none) else (bif Nat.beq pc 54 then some (.invokespecial 34, 57, 0, 0, 0, 1118, false) else none)) else (bif Nat.beq pc 51 then some (.getfield 10, 54, 7, 0, 1, 1173, false) else none)) else (bif Nat.ble 50 pc then (bif Nat.beq pc 50 then some (.aload_n 0, 51, 0, 0, 0, 0, false) else none) else (bif Nat.beq pc 49 then some (.dup, 50, 0, 0, 0, 0, false) else none))))) else (bif Nat.ble 21 pc then (bif Nat.ble 35 pc then (bif Nat.ble 42 pc then (bif Nat.ble 45 pc then (bif Nat.ble 46 pc then (bif Nat.beq pc 46 then some (.new 32, 49, 0, 0, 0, 1116, false) else none) else (bif Nat.beq pc 45 then some (.aload_n 0, 46, 0, 0, 0, 0, false) else none)) else (bif Nat.beq pc 42 then some (.putfield 28, 45, 7, 2, 1, 1175, false) else none)) else (bif Nat.ble 36 pc then (bif Nat.ble 39 pc then (bif Nat.beq pc 39 then some (.invokespecial 27, 42, 7, 0, 0, 1100, false) else none) else (bif Nat.beq pc 36 then some (.getfield 10, 39, 7, 0, 1, 1173, false) else none)) else (bif Nat.beq pc 35 then some (.aload_n 0, 36, 0, 0, 0, 0, false) else none))) else (bif Nat.ble 30 pc then (bif Nat.ble 31 pc then (bif Nat.ble 34 pc then (bif Nat.beq pc 34 then some (.dup, 35, 0, 0, 0, 0, false) else none) else (bif Nat.beq pc 31 then some (.new 25, 34, 1, 0, 0, 1098, false) else none)) else (bif Nat.beq pc 30 then some (.aload_n 0, 31, 0, 0, 0, 0, false) else none)) else (bif Nat.ble 24 pc then (bif Nat.ble 27 pc then (bif Nat.beq pc 27 then some (.putfield 21, 30, 7, 1, 1, 1174, false) else none) else (bif Nat.beq pc 24 then some (.invokespecial 18, 27, 19, 0, 0, 1050, false) else none)) else (bif Nat.beq pc 21 then some (.getfield 10, 24, 7, 0, 1, 1173, false) else none)))) else (bif Nat.ble 9 pc then (bif Nat.ble 16 pc then (bif Nat.ble 19 pc then (bif Nat.ble 20 pc then (bif Nat.beq pc 20 then some (.aload_n 0, 21, 0, 0, 0, 0, false) else none) else (bif Nat.beq pc 19 then some (.dup, 20, 0, 0, 0, 0, false) else none)) else (bif Nat.beq pc 16 then some (.new 16, 19, 4, 0, 0, 1048, false) else none)) else (bif Nat.ble 12 pc then (bif Nat.ble 15 pc then (bif Nat.beq pc 15 then some (.aload_n 0, 16, 0, 0, 0, 0, false) else none) else (bif Nat.beq pc 12 then some (.putfield 10, 15, 7, 0, 1, 1173, false) else none)) else (bif Nat.beq pc 9 then some (.invokespecial 9, 12, 41, 0, 1, 1022, false) else none))) else (bif Nat.ble 4 pc then (bif Nat.ble 5 pc then (bif Nat.ble 8 pc then (bif Nat.beq pc 8 then some (.dup, 9, 0, 0, 0, 0, false) else none) else (bif Nat.beq pc 5 then some (.new 7, 8, 6, 0, 0, 1020, false) else none)) else (bif Nat.beq pc 4 then some (.aload_n 0, 5, 0, 0, 0, 0, false) else none)) else (bif Nat.ble 1 pc then (bif Nat.beq pc 1 then some (.invokespecial 1, 4, 0, 1, 0, 1017, false) else none) else (bif Nat.beq pc 0 then some (.aload_n 0, 1, 0, 0, 0, 0, false) else none)))))
/-- LieAlgebra.configure(II)I -/
def kc_Li_configure : Nat → Option pj_E := fun pc => bif Nat.ble 64 pc then none else bif Nat.ble 31 pc then (bif Nat.ble 44 pc then (bif Nat.ble 53 pc then (bif Nat.ble 57 pc then (bif Nat.ble 60 pc then (bif Nat.ble 63 pc then (bif Nat.beq pc 63 then some (.ireturn, 64, 0, 0, 0, 0, false) else none) else (bif Nat.beq pc 60 then some (.invokevirtual 65, 63, 43, 0, 0, 1224, false) else none)) else (bif Nat.beq pc 57 then some (.getfield 10, 60, 7, 0, 1, 1173, false) else none)) else (bif Nat.ble 56 pc then (bif Nat.beq pc 56 then some (.aload_n 0, 57, 0, 0, 0, 0, false) else none) else (bif Nat.beq pc 53 then some (.invokevirtual 61, 56, 42, 0, 0, 1217, false) else none))) else (bif Nat.ble 48 pc then (bif Nat.ble 51 pc then (bif Nat.ble 52 pc then (bif Nat.beq pc 52 then some (.iload_n 2, 53, 0, 0, 0, 0, false) else none) else (bif Nat.beq pc 51 then some (.iload_n 1, 52, 0, 0, 0, 0, false) else none)) else (bif Nat.beq pc 48 then some (.getfield 10, 51, 7, 0, 1, 1173, false) else none)) else (bif Nat.ble 47 pc then (bif Nat.beq pc 47 then some (.aload_n 0, 48, 0, 0, 0, 0, false) else none) else (bif Nat.beq pc 44 then some (.invokevirtual 58, 47, 60, 0, 0, 1202, false) else none)))) else (bif Nat.ble 37 pc then (bif Nat.ble 41 pc then (bif Nat.ble 42 pc then (bif Nat.ble 43 pc then (bif Nat.beq pc 43 then some (.aload_n 0, 44, 0, 0, 0, 0, false) else none) else (bif Nat.beq pc 42 then some (.ireturn, 43, 0, 0, 0, 0, false) else none)) else (bif Nat.beq pc 41 then some (.iconst (-1), 42, 0, 0, 0, 0, false) else none)) else (bif Nat.ble 38 pc then (bif Nat.beq pc 38 then some (.if_icmp .le (5), 41, 43, 0, 0, 0, false) else none) else (bif Nat.beq pc 37 then some (.iconst (5), 38, 0, 0, 0, 0, false) else none))) else (bif Nat.ble 33 pc then (bif Nat.ble 36 pc then (bif Nat.beq pc 36 then some (.iload_n 2, 37, 0, 0, 0, 0, false) else none) else (bif Nat.beq pc 33 then some (.if_icmp .lt (8), 36, 41, 0, 0, 0, false) else none)) else (bif Nat.ble 32 pc then (bif Nat.beq pc 32 then some (.iconst (1), 33, 0, 0, 0, 0, false) else none) else (bif Nat.beq pc 31 then some (.iload_n 2, 32, 0, 0, 0, 0, false) else none))))) else (bif Nat.ble 15 pc then (bif Nat.ble 22 pc then (bif Nat.ble 26 pc then (bif Nat.ble 27 pc then (bif Nat.ble 28 pc then (bif Nat.beq pc 28 then some (.ifCond .eq (13), 31, 41, 0, 0, 0, false) else none) else (bif Nat.beq pc 27 then some (.iload_n 3, 28, 0, 0, 0, 0, false) else none)) else (bif Nat.beq pc 26 then some (.istore_n 3, 27, 0, 0, 0, 0, false) else none)) else (bif Nat.ble 25 pc then (bif Nat.beq pc 25 then some (.iconst (0), 26, 0, 0, 0, 0, false) else none) else (bif Nat.beq pc 22 then some (.goto (4), 25, 26, 0, 0, 0, false) else none))) else (bif Nat.ble 18 pc then (bif Nat.ble 21 pc then (bif Nat.beq pc 21 then some (.iconst (1), 22, 0, 0, 0, 0, false) else none) else (bif Nat.beq pc 18 then some (.if_icmp .ne (7), 21, 25, 0, 0, 0, false) else none)) else (bif Nat.ble 16 pc then (bif Nat.beq pc 16 then some (.bipush (7), 18, 0, 0, 0, 0, false) else none) else (bif Nat.beq pc 15 then some (.iload_n 1, 16, 0, 0, 0, 0, false) else none)))) else (bif Nat.ble 6 pc then (bif Nat.ble 10 pc then (bif Nat.ble 11 pc then (bif Nat.ble 12 pc then (bif Nat.beq pc 12 then some (.if_icmp .eq (9), 15, 21, 0, 0, 0, false) else none) else (bif Nat.beq pc 11 then some (.iconst (5), 12, 0, 0, 0, 0, false) else none)) else (bif Nat.beq pc 10 then some (.iload_n 1, 11, 0, 0, 0, 0, false) else none)) else (bif Nat.ble 7 pc then (bif Nat.beq pc 7 then some (.if_icmp .eq (14), 10, 21, 0, 0, 0, false) else none) else (bif Nat.beq pc 6 then some (.iconst (3), 7, 0, 0, 0, 0, false) else none))) else (bif Nat.ble 2 pc then (bif Nat.ble 5 pc then (bif Nat.beq pc 5 then some (.iload_n 1, 6, 0, 0, 0, 0, false) else none) else (bif Nat.beq pc 2 then some (.if_icmp .eq (19), 5, 21, 0, 0, 0, false) else none)) else (bif Nat.ble 1 pc then (bif Nat.beq pc 1 then some (.iconst (2), 2, 0, 0, 0, 0, false) else none) else (bif Nat.beq pc 0 then some (.iload_n 1, 1, 0, 0, 0, 0, false) else none)))))
/-- LieAlgebra.remember()V -/
def kc_Li_remember : Nat → Option pj_E := fun pc => bif Nat.ble 52 pc then none else bif Nat.ble 26 pc then (bif Nat.ble 41 pc then (bif Nat.ble 46 pc then (bif Nat.ble 48 pc then (bif Nat.ble 51 pc then (bif Nat.beq pc 51 then some (.return_, 52, 0, 0, 0, 0, false) else none) else (bif Nat.beq pc 48 then some (.putfield 180, 51, 7, 7, 0, 1180, false) else none)) else (bif Nat.ble 47 pc then (bif Nat.beq pc 47 then some (.iadd, 48, 0, 0, 0, 0, false) else none) else (bif Nat.beq pc 46 then some (.iconst (1), 47, 0, 0, 0, 0, false) else none))) else (bif Nat.ble 42 pc then (bif Nat.ble 43 pc then (bif Nat.beq pc 43 then some (.getfield 180, 46, 7, 7, 0, 1180, false) else none) else (bif Nat.beq pc 42 then some (.dup, 43, 0, 0, 0, 0, false) else none)) else (bif Nat.beq pc 41 then some (.aload_n 0, 42, 0, 0, 0, 0, false) else none))) else (bif Nat.ble 31 pc then (bif Nat.ble 35 pc then (bif Nat.ble 38 pc then (bif Nat.beq pc 38 then some (.invokevirtual 187, 41, 16, 0, 0, 1213, false) else none) else (bif Nat.beq pc 35 then some (.getfield 10, 38, 7, 0, 1, 1173, false) else none)) else (bif Nat.ble 34 pc then (bif Nat.beq pc 34 then some (.aload_n 0, 35, 0, 0, 0, 0, false) else none) else (bif Nat.beq pc 31 then some (.getfield 180, 34, 7, 7, 0, 1180, false) else none))) else (bif Nat.ble 27 pc then (bif Nat.ble 30 pc then (bif Nat.beq pc 30 then some (.aload_n 0, 31, 0, 0, 0, 0, false) else none) else (bif Nat.beq pc 27 then some (.getfield 51, 30, 7, 5, 1, 1178, false) else none)) else (bif Nat.beq pc 26 then some (.aload_n 0, 27, 0, 0, 0, 0, false) else none)))) else (bif Nat.ble 13 pc then (bif Nat.ble 18 pc then (bif Nat.ble 22 pc then (bif Nat.ble 23 pc then (bif Nat.beq pc 23 then some (.putfield 180, 26, 7, 7, 0, 1180, false) else none) else (bif Nat.beq pc 22 then some (.isub, 23, 0, 0, 0, 0, false) else none)) else (bif Nat.ble 21 pc then (bif Nat.beq pc 21 then some (.iconst (1), 22, 0, 0, 0, 0, false) else none) else (bif Nat.beq pc 18 then some (.getfield 180, 21, 7, 7, 0, 1180, false) else none))) else (bif Nat.ble 16 pc then (bif Nat.ble 17 pc then (bif Nat.beq pc 17 then some (.dup, 18, 0, 0, 0, 0, false) else none) else (bif Nat.beq pc 16 then some (.aload_n 0, 17, 0, 0, 0, 0, false) else none)) else (bif Nat.beq pc 13 then some (.invokevirtual 193, 16, 15, 0, 0, 1206, false) else none))) else (bif Nat.ble 6 pc then (bif Nat.ble 9 pc then (bif Nat.ble 10 pc then (bif Nat.beq pc 10 then some (.getfield 51, 13, 7, 5, 1, 1178, false) else none) else (bif Nat.beq pc 9 then some (.aload_n 0, 10, 0, 0, 0, 0, false) else none)) else (bif Nat.beq pc 6 then some (.if_icmp .ne (20), 9, 26, 0, 0, 0, false) else none)) else (bif Nat.ble 1 pc then (bif Nat.ble 4 pc then (bif Nat.beq pc 4 then some (.bipush (6), 6, 0, 0, 0, 0, false) else none) else (bif Nat.beq pc 1 then some (.getfield 180, 4, 7, 7, 0, 1180, false) else none)) else (bif Nat.beq pc 0 then some (.aload_n 0, 1, 0, 0, 0, 0, false) else none))))
/-- LieAlgebra.setBracket(III)I -/
def kc_Li_setBracket : Nat → Option pj_E := fun pc => bif Nat.ble 53 pc then none else bif Nat.ble 26 pc then (bif Nat.ble 40 pc then (bif Nat.ble 46 pc then (bif Nat.ble 50 pc then (bif Nat.ble 52 pc then (bif Nat.beq pc 52 then some (.ireturn, 53, 0, 0, 0, 0, false) else none) else (bif Nat.beq pc 50 then some (.iload 4, 52, 0, 0, 0, 0, false) else none)) else (bif Nat.ble 47 pc then (bif Nat.beq pc 47 then some (.invokevirtual 81, 50, 49, 0, 0, 2016, false) else none) else (bif Nat.beq pc 46 then some (.iload_n 3, 47, 0, 0, 0, 0, false) else none))) else (bif Nat.ble 44 pc then (bif Nat.ble 45 pc then (bif Nat.beq pc 45 then some (.iload_n 2, 46, 0, 0, 0, 0, false) else none) else (bif Nat.beq pc 44 then some (.iload_n 1, 45, 0, 0, 0, 0, false) else none)) else (bif Nat.ble 41 pc then (bif Nat.beq pc 41 then some (.getfield 10, 44, 7, 0, 1, 1173, false) else none) else (bif Nat.beq pc 40 then some (.aload_n 0, 41, 0, 0, 0, 0, false) else none)))) else (bif Nat.ble 31 pc then (bif Nat.ble 36 pc then (bif Nat.ble 37 pc then (bif Nat.beq pc 37 then some (.invokevirtual 58, 40, 60, 0, 0, 1202, false) else none) else (bif Nat.beq pc 36 then some (.aload_n 0, 37, 0, 0, 0, 0, false) else none)) else (bif Nat.ble 34 pc then (bif Nat.beq pc 34 then some (.istore 4, 36, 0, 0, 0, 0, false) else none) else (bif Nat.beq pc 31 then some (.invokevirtual 77, 34, 48, 0, 0, 2009, false) else none))) else (bif Nat.ble 29 pc then (bif Nat.ble 30 pc then (bif Nat.beq pc 30 then some (.iload_n 2, 31, 0, 0, 0, 0, false) else none) else (bif Nat.beq pc 29 then some (.iload_n 1, 30, 0, 0, 0, 0, false) else none)) else (bif Nat.beq pc 26 then some (.getfield 10, 29, 7, 0, 1, 1173, false) else none)))) else (bif Nat.ble 13 pc then (bif Nat.ble 20 pc then (bif Nat.ble 24 pc then (bif Nat.ble 25 pc then (bif Nat.beq pc 25 then some (.aload_n 0, 26, 0, 0, 0, 0, false) else none) else (bif Nat.beq pc 24 then some (.ireturn, 25, 0, 0, 0, 0, false) else none)) else (bif Nat.ble 23 pc then (bif Nat.beq pc 23 then some (.iconst (-1), 24, 0, 0, 0, 0, false) else none) else (bif Nat.beq pc 20 then some (.ifCond .ne (5), 23, 25, 0, 0, 0, false) else none))) else (bif Nat.ble 16 pc then (bif Nat.ble 17 pc then (bif Nat.beq pc 17 then some (.invokevirtual 73, 20, 47, 0, 0, 2004, false) else none) else (bif Nat.beq pc 16 then some (.iload_n 3, 17, 0, 0, 0, 0, false) else none)) else (bif Nat.beq pc 13 then some (.getfield 10, 16, 7, 0, 1, 1173, false) else none))) else (bif Nat.ble 5 pc then (bif Nat.ble 9 pc then (bif Nat.ble 12 pc then (bif Nat.beq pc 12 then some (.aload_n 0, 13, 0, 0, 0, 0, false) else none) else (bif Nat.beq pc 9 then some (.ifCond .eq (14), 12, 23, 0, 0, 0, false) else none)) else (bif Nat.ble 6 pc then (bif Nat.beq pc 6 then some (.invokevirtual 69, 9, 45, 0, 0, 1236, false) else none) else (bif Nat.beq pc 5 then some (.iload_n 2, 6, 0, 0, 0, 0, false) else none))) else (bif Nat.ble 1 pc then (bif Nat.ble 4 pc then (bif Nat.beq pc 4 then some (.iload_n 1, 5, 0, 0, 0, 0, false) else none) else (bif Nat.beq pc 1 then some (.getfield 10, 4, 7, 0, 1, 1173, false) else none)) else (bif Nat.beq pc 0 then some (.aload_n 0, 1, 0, 0, 0, 0, false) else none))))
/-- LieAlgebra.at([II)I -/
def kc_Li_at : Nat → Option pj_E := fun pc => bif Nat.ble 18 pc then none else bif Nat.ble 10 pc then (bif Nat.ble 13 pc then (bif Nat.ble 16 pc then (bif Nat.ble 17 pc then (bif Nat.beq pc 17 then some (.ireturn, 18, 0, 0, 0, 0, false) else none) else (bif Nat.beq pc 16 then some (.iconst (0), 17, 0, 0, 0, 0, false) else none)) else (bif Nat.beq pc 13 then some (.goto (4), 16, 17, 0, 0, 0, false) else none)) else (bif Nat.ble 11 pc then (bif Nat.ble 12 pc then (bif Nat.beq pc 12 then some (.iaload, 13, 0, 0, 0, 0, false) else none) else (bif Nat.beq pc 11 then some (.iload_n 1, 12, 0, 0, 0, 0, false) else none)) else (bif Nat.beq pc 10 then some (.aload_n 0, 11, 0, 0, 0, 0, false) else none))) else (bif Nat.ble 5 pc then (bif Nat.ble 6 pc then (bif Nat.ble 7 pc then (bif Nat.beq pc 7 then some (.if_icmp .ge (9), 10, 16, 0, 0, 0, false) else none) else (bif Nat.beq pc 6 then some (.arraylength, 7, 0, 0, 0, 0, false) else none)) else (bif Nat.beq pc 5 then some (.aload_n 0, 6, 0, 0, 0, 0, false) else none)) else (bif Nat.ble 1 pc then (bif Nat.ble 4 pc then (bif Nat.beq pc 4 then some (.iload_n 1, 5, 0, 0, 0, 0, false) else none) else (bif Nat.beq pc 1 then some (.ifCond .lt (15), 4, 16, 0, 0, 0, false) else none)) else (bif Nat.beq pc 0 then some (.iload_n 1, 1, 0, 0, 0, 0, false) else none)))
/-- LieAlgebra.put([III)V -/
def kc_Li_put : Nat → Option pj_E := fun pc => bif Nat.ble 15 pc then none else bif Nat.ble 7 pc then (bif Nat.ble 12 pc then (bif Nat.ble 13 pc then (bif Nat.ble 14 pc then (bif Nat.beq pc 14 then some (.return_, 15, 0, 0, 0, 0, false) else none) else (bif Nat.beq pc 13 then some (.iastore, 14, 0, 0, 0, 0, false) else none)) else (bif Nat.beq pc 12 then some (.iload_n 2, 13, 0, 0, 0, 0, false) else none)) else (bif Nat.ble 10 pc then (bif Nat.ble 11 pc then (bif Nat.beq pc 11 then some (.iload_n 1, 12, 0, 0, 0, 0, false) else none) else (bif Nat.beq pc 10 then some (.aload_n 0, 11, 0, 0, 0, 0, false) else none)) else (bif Nat.beq pc 7 then some (.if_icmp .ge (7), 10, 14, 0, 0, 0, false) else none))) else (bif Nat.ble 4 pc then (bif Nat.ble 5 pc then (bif Nat.ble 6 pc then (bif Nat.beq pc 6 then some (.arraylength, 7, 0, 0, 0, 0, false) else none) else (bif Nat.beq pc 5 then some (.aload_n 0, 6, 0, 0, 0, 0, false) else none)) else (bif Nat.beq pc 4 then some (.iload_n 1, 5, 0, 0, 0, 0, false) else none)) else (bif Nat.ble 1 pc then (bif Nat.beq pc 1 then some (.ifCond .lt (13), 4, 14, 0, 0, 0, false) else none) else (bif Nat.beq pc 0 then some (.iload_n 1, 1, 0, 0, 0, 0, false) else none)))
/-- LieAlgebra.addBasis(III)I -/
def kc_Li_addBasis : Nat → Option pj_E := fun pc => bif Nat.ble 49 pc then none else bif Nat.ble 25 pc then (bif Nat.ble 36 pc then (bif Nat.ble 43 pc then (bif Nat.ble 45 pc then (bif Nat.ble 48 pc then (bif Nat.beq pc 48 then some (.ireturn, 49, 0, 0, 0, 0, false) else none) else (bif Nat.beq pc 45 then some (.invokevirtual 77, 48, 48, 0, 0, 2009, false) else none)) else (bif Nat.ble 44 pc then (bif Nat.beq pc 44 then some (.iload_n 2, 45, 0, 0, 0, 0, false) else none) else (bif Nat.beq pc 43 then some (.iload_n 1, 44, 0, 0, 0, 0, false) else none))) else (bif Nat.ble 39 pc then (bif Nat.ble 40 pc then (bif Nat.beq pc 40 then some (.getfield 10, 43, 7, 0, 1, 1173, false) else none) else (bif Nat.beq pc 39 then some (.aload_n 0, 40, 0, 0, 0, 0, false) else none)) else (bif Nat.beq pc 36 then some (.invokevirtual 169, 39, 1, 0, 0, 2039, false) else none))) else (bif Nat.ble 30 pc then (bif Nat.ble 34 pc then (bif Nat.ble 35 pc then (bif Nat.beq pc 35 then some (.iload_n 3, 36, 0, 0, 0, 0, false) else none) else (bif Nat.beq pc 34 then some (.iload_n 2, 35, 0, 0, 0, 0, false) else none)) else (bif Nat.ble 33 pc then (bif Nat.beq pc 33 then some (.iload_n 1, 34, 0, 0, 0, 0, false) else none) else (bif Nat.beq pc 30 then some (.getfield 35, 33, 7, 3, 1, 1176, false) else none))) else (bif Nat.ble 26 pc then (bif Nat.ble 29 pc then (bif Nat.beq pc 29 then some (.aload_n 0, 30, 0, 0, 0, 0, false) else none) else (bif Nat.beq pc 26 then some (.invokevirtual 58, 29, 60, 0, 0, 1202, false) else none)) else (bif Nat.beq pc 25 then some (.aload_n 0, 26, 0, 0, 0, 0, false) else none)))) else (bif Nat.ble 12 pc then (bif Nat.ble 17 pc then (bif Nat.ble 23 pc then (bif Nat.ble 24 pc then (bif Nat.beq pc 24 then some (.ireturn, 25, 0, 0, 0, 0, false) else none) else (bif Nat.beq pc 23 then some (.iconst (-1), 24, 0, 0, 0, 0, false) else none)) else (bif Nat.ble 20 pc then (bif Nat.beq pc 20 then some (.ifCond .ne (5), 23, 25, 0, 0, 0, false) else none) else (bif Nat.beq pc 17 then some (.invokevirtual 166, 20, 52, 0, 0, 2035, false) else none))) else (bif Nat.ble 13 pc then (bif Nat.ble 16 pc then (bif Nat.beq pc 16 then some (.iload_n 3, 17, 0, 0, 0, 0, false) else none) else (bif Nat.beq pc 13 then some (.getfield 10, 16, 7, 0, 1, 1173, false) else none)) else (bif Nat.beq pc 12 then some (.aload_n 0, 13, 0, 0, 0, 0, false) else none))) else (bif Nat.ble 5 pc then (bif Nat.ble 6 pc then (bif Nat.ble 9 pc then (bif Nat.beq pc 9 then some (.ifCond .eq (14), 12, 23, 0, 0, 0, false) else none) else (bif Nat.beq pc 6 then some (.invokevirtual 69, 9, 45, 0, 0, 1236, false) else none)) else (bif Nat.beq pc 5 then some (.iload_n 2, 6, 0, 0, 0, 0, false) else none)) else (bif Nat.ble 1 pc then (bif Nat.ble 4 pc then (bif Nat.beq pc 4 then some (.iload_n 1, 5, 0, 0, 0, 0, false) else none) else (bif Nat.beq pc 1 then some (.getfield 10, 4, 7, 0, 1, 1173, false) else none)) else (bif Nat.beq pc 0 then some (.aload_n 0, 1, 0, 0, 0, 0, false) else none))))
/-- LieAlgebra.scaleBasis(II)I -/
def kc_Li_scaleBasis : Nat → Option pj_E := fun pc => bif Nat.ble 45 pc then none else bif Nat.ble 23 pc then (bif Nat.ble 33 pc then (bif Nat.ble 38 pc then (bif Nat.ble 41 pc then (bif Nat.ble 44 pc then (bif Nat.beq pc 44 then some (.ireturn, 45, 0, 0, 0, 0, false) else none) else (bif Nat.beq pc 41 then some (.invokevirtual 174, 44, 56, 0, 0, 2088, false) else none)) else (bif Nat.beq pc 38 then some (.getfield 10, 41, 7, 0, 1, 1173, false) else none)) else (bif Nat.ble 34 pc then (bif Nat.ble 37 pc then (bif Nat.beq pc 37 then some (.aload_n 0, 38, 0, 0, 0, 0, false) else none) else (bif Nat.beq pc 34 then some (.invokevirtual 171, 37, 5, 0, 0, 2081, false) else none)) else (bif Nat.beq pc 33 then some (.iload_n 2, 34, 0, 0, 0, 0, false) else none))) else (bif Nat.ble 28 pc then (bif Nat.ble 29 pc then (bif Nat.ble 32 pc then (bif Nat.beq pc 32 then some (.iload_n 1, 33, 0, 0, 0, 0, false) else none) else (bif Nat.beq pc 29 then some (.getfield 35, 32, 7, 3, 1, 1176, false) else none)) else (bif Nat.beq pc 28 then some (.aload_n 0, 29, 0, 0, 0, 0, false) else none)) else (bif Nat.ble 24 pc then (bif Nat.ble 25 pc then (bif Nat.beq pc 25 then some (.invokevirtual 58, 28, 60, 0, 0, 1202, false) else none) else (bif Nat.beq pc 24 then some (.aload_n 0, 25, 0, 0, 0, 0, false) else none)) else (bif Nat.beq pc 23 then some (.ireturn, 24, 0, 0, 0, 0, false) else none)))) else (bif Nat.ble 11 pc then (bif Nat.ble 16 pc then (bif Nat.ble 19 pc then (bif Nat.ble 22 pc then (bif Nat.beq pc 22 then some (.iconst (-1), 23, 0, 0, 0, 0, false) else none) else (bif Nat.beq pc 19 then some (.ifCond .ne (5), 22, 24, 0, 0, 0, false) else none)) else (bif Nat.beq pc 16 then some (.invokevirtual 166, 19, 52, 0, 0, 2035, false) else none)) else (bif Nat.ble 12 pc then (bif Nat.ble 15 pc then (bif Nat.beq pc 15 then some (.iload_n 2, 16, 0, 0, 0, 0, false) else none) else (bif Nat.beq pc 12 then some (.getfield 10, 15, 7, 0, 1, 1173, false) else none)) else (bif Nat.beq pc 11 then some (.aload_n 0, 12, 0, 0, 0, 0, false) else none))) else (bif Nat.ble 4 pc then (bif Nat.ble 5 pc then (bif Nat.ble 8 pc then (bif Nat.beq pc 8 then some (.ifCond .eq (14), 11, 22, 0, 0, 0, false) else none) else (bif Nat.beq pc 5 then some (.invokevirtual 145, 8, 46, 0, 0, 2080, false) else none)) else (bif Nat.beq pc 4 then some (.iload_n 1, 5, 0, 0, 0, 0, false) else none)) else (bif Nat.ble 1 pc then (bif Nat.beq pc 1 then some (.getfield 10, 4, 7, 0, 1, 1173, false) else none) else (bif Nat.beq pc 0 then some (.aload_n 0, 1, 0, 0, 0, 0, false) else none))))
/-- LieAlgebra.inverse(II)I -/
def kc_Li_inverse : Nat → Option pj_E := fun pc => bif Nat.ble 26 pc then none else bif Nat.ble 11 pc then (bif Nat.ble 17 pc then (bif Nat.ble 21 pc then (bif Nat.ble 24 pc then (bif Nat.ble 25 pc then (bif Nat.beq pc 25 then some (.ireturn, 26, 0, 0, 0, 0, false) else none) else (bif Nat.beq pc 24 then some (.iconst (1), 25, 0, 0, 0, 0, false) else none)) else (bif Nat.beq pc 21 then some (.goto (-19), 24, 2, 0, 0, 0, false) else none)) else (bif Nat.ble 18 pc then (bif Nat.beq pc 18 then some (.iinc 2 (1), 21, 0, 0, 0, 0, false) else none) else (bif Nat.beq pc 17 then some (.ireturn, 18, 0, 0, 0, 0, false) else none))) else (bif Nat.ble 13 pc then (bif Nat.ble 16 pc then (bif Nat.beq pc 16 then some (.iload_n 2, 17, 0, 0, 0, 0, false) else none) else (bif Nat.beq pc 13 then some (.if_icmp .ne (5), 16, 18, 0, 0, 0, false) else none)) else (bif Nat.ble 12 pc then (bif Nat.beq pc 12 then some (.iconst (1), 13, 0, 0, 0, 0, false) else none) else (bif Nat.beq pc 11 then some (.irem, 12, 0, 0, 0, 0, false) else none)))) else (bif Nat.ble 4 pc then (bif Nat.ble 8 pc then (bif Nat.ble 9 pc then (bif Nat.ble 10 pc then (bif Nat.beq pc 10 then some (.iload_n 1, 11, 0, 0, 0, 0, false) else none) else (bif Nat.beq pc 9 then some (.imul, 10, 0, 0, 0, 0, false) else none)) else (bif Nat.beq pc 8 then some (.iload_n 0, 9, 0, 0, 0, 0, false) else none)) else (bif Nat.ble 7 pc then (bif Nat.beq pc 7 then some (.iload_n 2, 8, 0, 0, 0, 0, false) else none) else (bif Nat.beq pc 4 then some (.if_icmp .ge (20), 7, 24, 0, 0, 0, false) else none))) else (bif Nat.ble 2 pc then (bif Nat.ble 3 pc then (bif Nat.beq pc 3 then some (.iload_n 1, 4, 0, 0, 0, 0, false) else none) else (bif Nat.beq pc 2 then some (.iload_n 2, 3, 0, 0, 0, 0, true) else none)) else (bif Nat.ble 1 pc then (bif Nat.beq pc 1 then some (.istore_n 2, 2, 0, 0, 0, 0, false) else none) else (bif Nat.beq pc 0 then some (.iconst (1), 1, 0, 0, 0, 0, false) else none))))
/-- LieAlgebra.swapBasis(II)I -/
def kc_Li_swapBasis : Nat → Option pj_E := fun pc => bif Nat.ble 37 pc then none else bif Nat.ble 18 pc then (bif Nat.ble 27 pc then (bif Nat.ble 32 pc then (bif Nat.ble 33 pc then (bif Nat.ble 36 pc then (bif Nat.beq pc 36 then some (.ireturn, 37, 0, 0, 0, 0, false) else none) else (bif Nat.beq pc 33 then some (.invokevirtual 77, 36, 48, 0, 0, 2009, false) else none)) else (bif Nat.beq pc 32 then some (.iload_n 2, 33, 0, 0, 0, 0, false) else none)) else (bif Nat.ble 28 pc then (bif Nat.ble 31 pc then (bif Nat.beq pc 31 then some (.iload_n 1, 32, 0, 0, 0, 0, false) else none) else (bif Nat.beq pc 28 then some (.getfield 10, 31, 7, 0, 1, 1173, false) else none)) else (bif Nat.beq pc 27 then some (.aload_n 0, 28, 0, 0, 0, 0, false) else none))) else (bif Nat.ble 22 pc then (bif Nat.ble 23 pc then (bif Nat.ble 24 pc then (bif Nat.beq pc 24 then some (.invokevirtual 177, 27, 6, 0, 0, 2096, false) else none) else (bif Nat.beq pc 23 then some (.iload_n 2, 24, 0, 0, 0, 0, false) else none)) else (bif Nat.beq pc 22 then some (.iload_n 1, 23, 0, 0, 0, 0, false) else none)) else (bif Nat.ble 19 pc then (bif Nat.beq pc 19 then some (.getfield 35, 22, 7, 3, 1, 1176, false) else none) else (bif Nat.beq pc 18 then some (.aload_n 0, 19, 0, 0, 0, 0, false) else none)))) else (bif Nat.ble 9 pc then (bif Nat.ble 13 pc then (bif Nat.ble 14 pc then (bif Nat.ble 15 pc then (bif Nat.beq pc 15 then some (.invokevirtual 58, 18, 60, 0, 0, 1202, false) else none) else (bif Nat.beq pc 14 then some (.aload_n 0, 15, 0, 0, 0, 0, false) else none)) else (bif Nat.beq pc 13 then some (.ireturn, 14, 0, 0, 0, 0, false) else none)) else (bif Nat.ble 12 pc then (bif Nat.beq pc 12 then some (.iconst (-1), 13, 0, 0, 0, 0, false) else none) else (bif Nat.beq pc 9 then some (.ifCond .ne (5), 12, 14, 0, 0, 0, false) else none))) else (bif Nat.ble 4 pc then (bif Nat.ble 5 pc then (bif Nat.ble 6 pc then (bif Nat.beq pc 6 then some (.invokevirtual 69, 9, 45, 0, 0, 1236, false) else none) else (bif Nat.beq pc 5 then some (.iload_n 2, 6, 0, 0, 0, 0, false) else none)) else (bif Nat.beq pc 4 then some (.iload_n 1, 5, 0, 0, 0, 0, false) else none)) else (bif Nat.ble 1 pc then (bif Nat.beq pc 1 then some (.getfield 10, 4, 7, 0, 1, 1173, false) else none) else (bif Nat.beq pc 0 then some (.aload_n 0, 1, 0, 0, 0, 0, false) else none))))
/-- LieAlgebra.undo()I -/
def kc_Li_undo : Nat → Option pj_E := fun pc => bif Nat.ble 40 pc then none else bif Nat.ble 17 pc then (bif Nat.ble 28 pc then (bif Nat.ble 35 pc then (bif Nat.ble 36 pc then (bif Nat.ble 39 pc then (bif Nat.beq pc 39 then some (.ireturn, 40, 0, 0, 0, 0, false) else none) else (bif Nat.beq pc 36 then some (.getfield 180, 39, 7, 7, 0, 1180, false) else none)) else (bif Nat.beq pc 35 then some (.aload_n 0, 36, 0, 0, 0, 0, false) else none)) else (bif Nat.ble 29 pc then (bif Nat.ble 32 pc then (bif Nat.beq pc 32 then some (.invokevirtual 183, 35, 17, 0, 0, 2104, false) else none) else (bif Nat.beq pc 29 then some (.getfield 10, 32, 7, 0, 1, 1173, false) else none)) else (bif Nat.beq pc 28 then some (.aload_n 0, 29, 0, 0, 0, 0, false) else none))) else (bif Nat.ble 21 pc then (bif Nat.ble 24 pc then (bif Nat.ble 25 pc then (bif Nat.beq pc 25 then some (.getfield 180, 28, 7, 7, 0, 1180, false) else none) else (bif Nat.beq pc 24 then some (.aload_n 0, 25, 0, 0, 0, 0, false) else none)) else (bif Nat.beq pc 21 then some (.getfield 51, 24, 7, 5, 1, 1178, false) else none)) else (bif Nat.ble 20 pc then (bif Nat.beq pc 20 then some (.aload_n 0, 21, 0, 0, 0, 0, false) else none) else (bif Nat.beq pc 17 then some (.putfield 180, 20, 7, 7, 0, 1180, false) else none)))) else (bif Nat.ble 10 pc then (bif Nat.ble 12 pc then (bif Nat.ble 15 pc then (bif Nat.ble 16 pc then (bif Nat.beq pc 16 then some (.isub, 17, 0, 0, 0, 0, false) else none) else (bif Nat.beq pc 15 then some (.iconst (1), 16, 0, 0, 0, 0, false) else none)) else (bif Nat.beq pc 12 then some (.getfield 180, 15, 7, 7, 0, 1180, false) else none)) else (bif Nat.ble 11 pc then (bif Nat.beq pc 11 then some (.dup, 12, 0, 0, 0, 0, false) else none) else (bif Nat.beq pc 10 then some (.aload_n 0, 11, 0, 0, 0, 0, false) else none))) else (bif Nat.ble 4 pc then (bif Nat.ble 7 pc then (bif Nat.ble 9 pc then (bif Nat.beq pc 9 then some (.ireturn, 10, 0, 0, 0, 0, false) else none) else (bif Nat.beq pc 7 then some (.bipush (-2), 9, 0, 0, 0, 0, false) else none)) else (bif Nat.beq pc 4 then some (.ifCond .ne (6), 7, 10, 0, 0, 0, false) else none)) else (bif Nat.ble 1 pc then (bif Nat.beq pc 1 then some (.getfield 180, 4, 7, 7, 0, 1180, false) else none) else (bif Nat.beq pc 0 then some (.aload_n 0, 1, 0, 0, 0, 0, false) else none))))
/-- LieAlgebra.save(I)I -/
def kc_Li_save : Nat → Option pj_E := fun pc => bif Nat.ble 31 pc then none else bif Nat.ble 12 pc then (bif Nat.ble 20 pc then (bif Nat.ble 24 pc then (bif Nat.ble 27 pc then (bif Nat.ble 30 pc then (bif Nat.beq pc 30 then some (.ireturn, 31, 0, 0, 0, 0, false) else none) else (bif Nat.beq pc 27 then some (.getfield 105, 30, 6, 1, 0, 1037, false) else none)) else (bif Nat.beq pc 24 then some (.getfield 10, 27, 7, 0, 1, 1173, false) else none)) else (bif Nat.ble 23 pc then (bif Nat.beq pc 23 then some (.aload_n 0, 24, 0, 0, 0, 0, false) else none) else (bif Nat.beq pc 20 then some (.invokevirtual 187, 23, 16, 0, 0, 1213, false) else none))) else (bif Nat.ble 16 pc then (bif Nat.ble 17 pc then (bif Nat.beq pc 17 then some (.getfield 10, 20, 7, 0, 1, 1173, false) else none) else (bif Nat.beq pc 16 then some (.aload_n 0, 17, 0, 0, 0, 0, false) else none)) else (bif Nat.ble 15 pc then (bif Nat.beq pc 15 then some (.iload_n 1, 16, 0, 0, 0, 0, false) else none) else (bif Nat.beq pc 12 then some (.getfield 55, 15, 7, 6, 1, 1179, false) else none)))) else (bif Nat.ble 6 pc then (bif Nat.ble 10 pc then (bif Nat.ble 11 pc then (bif Nat.beq pc 11 then some (.aload_n 0, 12, 0, 0, 0, 0, false) else none) else (bif Nat.beq pc 10 then some (.ireturn, 11, 0, 0, 0, 0, false) else none)) else (bif Nat.ble 9 pc then (bif Nat.beq pc 9 then some (.iconst (-1), 10, 0, 0, 0, 0, false) else none) else (bif Nat.beq pc 6 then some (.if_icmp .le (5), 9, 11, 0, 0, 0, false) else none))) else (bif Nat.ble 4 pc then (bif Nat.ble 5 pc then (bif Nat.beq pc 5 then some (.iconst (1), 6, 0, 0, 0, 0, false) else none) else (bif Nat.beq pc 4 then some (.iload_n 1, 5, 0, 0, 0, 0, false) else none)) else (bif Nat.ble 1 pc then (bif Nat.beq pc 1 then some (.ifCond .lt (8), 4, 9, 0, 0, 0, false) else none) else (bif Nat.beq pc 0 then some (.iload_n 1, 1, 0, 0, 0, 0, false) else none))))
/-- LieAlgebra.restore(I)I -/
def kc_Li_restore : Nat → Option pj_E := fun pc => bif Nat.ble 50 pc then none else bif Nat.ble 24 pc then (bif Nat.ble 37 pc then (bif Nat.ble 42 pc then (bif Nat.ble 46 pc then (bif Nat.ble 49 pc then (bif Nat.beq pc 49 then some (.ireturn, 50, 0, 0, 0, 0, false) else none) else (bif Nat.beq pc 46 then some (.getfield 105, 49, 6, 1, 0, 1037, false) else none)) else (bif Nat.ble 43 pc then (bif Nat.beq pc 43 then some (.getfield 10, 46, 7, 0, 1, 1173, false) else none) else (bif Nat.beq pc 42 then some (.aload_n 0, 43, 0, 0, 0, 0, false) else none))) else (bif Nat.ble 38 pc then (bif Nat.ble 39 pc then (bif Nat.beq pc 39 then some (.putfield 180, 42, 7, 7, 0, 1180, false) else none) else (bif Nat.beq pc 38 then some (.iconst (0), 39, 0, 0, 0, 0, false) else none)) else (bif Nat.beq pc 37 then some (.aload_n 0, 38, 0, 0, 0, 0, false) else none))) else (bif Nat.ble 29 pc then (bif Nat.ble 31 pc then (bif Nat.ble 34 pc then (bif Nat.beq pc 34 then some (.invokevirtual 183, 37, 17, 0, 0, 2104, false) else none) else (bif Nat.beq pc 31 then some (.getfield 10, 34, 7, 0, 1, 1173, false) else none)) else (bif Nat.ble 30 pc then (bif Nat.beq pc 30 then some (.aload_n 0, 31, 0, 0, 0, 0, false) else none) else (bif Nat.beq pc 29 then some (.iload_n 1, 30, 0, 0, 0, 0, false) else none))) else (bif Nat.ble 25 pc then (bif Nat.ble 26 pc then (bif Nat.beq pc 26 then some (.getfield 55, 29, 7, 6, 1, 1179, false) else none) else (bif Nat.beq pc 25 then some (.aload_n 0, 26, 0, 0, 0, 0, false) else none)) else (bif Nat.beq pc 24 then some (.ireturn, 25, 0, 0, 0, 0, false) else none)))) else (bif Nat.ble 10 pc then (bif Nat.ble 15 pc then (bif Nat.ble 19 pc then (bif Nat.ble 22 pc then (bif Nat.beq pc 22 then some (.bipush (-2), 24, 0, 0, 0, 0, false) else none) else (bif Nat.beq pc 19 then some (.ifCond .eq (6), 22, 25, 0, 0, 0, false) else none)) else (bif Nat.ble 16 pc then (bif Nat.beq pc 16 then some (.invokevirtual 190, 19, 18, 0, 0, 2116, false) else none) else (bif Nat.beq pc 15 then some (.iload_n 1, 16, 0, 0, 0, 0, false) else none))) else (bif Nat.ble 11 pc then (bif Nat.ble 12 pc then (bif Nat.beq pc 12 then some (.getfield 55, 15, 7, 6, 1, 1179, false) else none) else (bif Nat.beq pc 11 then some (.aload_n 0, 12, 0, 0, 0, 0, false) else none)) else (bif Nat.beq pc 10 then some (.ireturn, 11, 0, 0, 0, 0, false) else none))) else (bif Nat.ble 5 pc then (bif Nat.ble 6 pc then (bif Nat.ble 9 pc then (bif Nat.beq pc 9 then some (.iconst (-1), 10, 0, 0, 0, 0, false) else none) else (bif Nat.beq pc 6 then some (.if_icmp .le (5), 9, 11, 0, 0, 0, false) else none)) else (bif Nat.beq pc 5 then some (.iconst (1), 6, 0, 0, 0, 0, false) else none)) else (bif Nat.ble 1 pc then (bif Nat.ble 4 pc then (bif Nat.beq pc 4 then some (.iload_n 1, 5, 0, 0, 0, 0, false) else none) else (bif Nat.beq pc 1 then some (.ifCond .lt (8), 4, 9, 0, 0, 0, false) else none)) else (bif Nat.beq pc 0 then some (.iload_n 1, 1, 0, 0, 0, 0, false) else none))))
/-- LieAlgebra.prime()I -/
def kc_Li_prime : Nat → Option pj_E := fun pc => bif Nat.ble 8 pc then none else bif Nat.ble 4 pc then (bif Nat.ble 7 pc then (bif Nat.beq pc 7 then some (.ireturn, 8, 0, 0, 0, 0, false) else none) else (bif Nat.beq pc 4 then some (.getfield 102, 7, 6, 0, 0, 1031, false) else none)) else (bif Nat.ble 1 pc then (bif Nat.beq pc 1 then some (.getfield 10, 4, 7, 0, 1, 1173, false) else none) else (bif Nat.beq pc 0 then some (.aload_n 0, 1, 0, 0, 0, 0, false) else none))
/-- LieAlgebra.dimension()I -/
def kc_Li_dimension : Nat → Option pj_E := fun pc => bif Nat.ble 8 pc then none else bif Nat.ble 4 pc then (bif Nat.ble 7 pc then (bif Nat.beq pc 7 then some (.ireturn, 8, 0, 0, 0, 0, false) else none) else (bif Nat.beq pc 4 then some (.getfield 105, 7, 6, 1, 0, 1037, false) else none)) else (bif Nat.ble 1 pc then (bif Nat.beq pc 1 then some (.getfield 10, 4, 7, 0, 1, 1173, false) else none) else (bif Nat.beq pc 0 then some (.aload_n 0, 1, 0, 0, 0, 0, false) else none))
/-- LieAlgebra.bracket(II)I -/
def kc_Li_bracket : Nat → Option pj_E := fun pc => bif Nat.ble 34 pc then none else bif Nat.ble 19 pc then (bif Nat.ble 25 pc then (bif Nat.ble 29 pc then (bif Nat.ble 30 pc then (bif Nat.ble 33 pc then (bif Nat.beq pc 33 then some (.ireturn, 34, 0, 0, 0, 0, false) else none) else (bif Nat.beq pc 30 then some (.invokevirtual 108, 33, 53, 0, 0, 2150, false) else none)) else (bif Nat.beq pc 29 then some (.iload_n 2, 30, 0, 0, 0, 0, false) else none)) else (bif Nat.ble 28 pc then (bif Nat.beq pc 28 then some (.iload_n 1, 29, 0, 0, 0, 0, false) else none) else (bif Nat.beq pc 25 then some (.getfield 10, 28, 7, 0, 1, 1173, false) else none))) else (bif Nat.ble 23 pc then (bif Nat.ble 24 pc then (bif Nat.beq pc 24 then some (.aload_n 0, 25, 0, 0, 0, 0, false) else none) else (bif Nat.beq pc 23 then some (.ireturn, 24, 0, 0, 0, 0, false) else none)) else (bif Nat.ble 22 pc then (bif Nat.beq pc 22 then some (.iconst (-1), 23, 0, 0, 0, 0, false) else none) else (bif Nat.beq pc 19 then some (.ifCond .ne (5), 22, 24, 0, 0, 0, false) else none)))) else (bif Nat.ble 8 pc then (bif Nat.ble 12 pc then (bif Nat.ble 15 pc then (bif Nat.ble 16 pc then (bif Nat.beq pc 16 then some (.invokevirtual 73, 19, 47, 0, 0, 2004, false) else none) else (bif Nat.beq pc 15 then some (.iload_n 2, 16, 0, 0, 0, 0, false) else none)) else (bif Nat.beq pc 12 then some (.getfield 10, 15, 7, 0, 1, 1173, false) else none)) else (bif Nat.ble 11 pc then (bif Nat.beq pc 11 then some (.aload_n 0, 12, 0, 0, 0, 0, false) else none) else (bif Nat.beq pc 8 then some (.ifCond .eq (14), 11, 22, 0, 0, 0, false) else none))) else (bif Nat.ble 4 pc then (bif Nat.ble 5 pc then (bif Nat.beq pc 5 then some (.invokevirtual 73, 8, 47, 0, 0, 2004, false) else none) else (bif Nat.beq pc 4 then some (.iload_n 1, 5, 0, 0, 0, 0, false) else none)) else (bif Nat.ble 1 pc then (bif Nat.beq pc 1 then some (.getfield 10, 4, 7, 0, 1, 1173, false) else none) else (bif Nat.beq pc 0 then some (.aload_n 0, 1, 0, 0, 0, 0, false) else none))))
/-- LieAlgebra.jacobiFailure()I -/
def kc_Li_jacobiFailure : Nat → Option pj_E := fun pc => bif Nat.ble 89 pc then none else bif Nat.ble 43 pc then (bif Nat.ble 63 pc then (bif Nat.ble 71 pc then (bif Nat.ble 80 pc then (bif Nat.ble 86 pc then (bif Nat.ble 88 pc then (bif Nat.beq pc 88 then some (.ireturn, 89, 0, 0, 0, 0, false) else none) else (bif Nat.beq pc 86 then some (.bipush (-9), 88, 0, 0, 0, 0, false) else none)) else (bif Nat.ble 83 pc then (bif Nat.beq pc 83 then some (.goto (-81), 86, 2, 0, 0, 0, false) else none) else (bif Nat.beq pc 80 then some (.iinc 1 (1), 83, 0, 0, 0, 0, false) else none))) else (bif Nat.ble 74 pc then (bif Nat.ble 77 pc then (bif Nat.beq pc 77 then some (.goto (-60), 80, 17, 0, 0, 0, false) else none) else (bif Nat.beq pc 74 then some (.iinc 2 (1), 77, 0, 0, 0, 0, false) else none)) else (bif Nat.beq pc 71 then some (.goto (-39), 74, 32, 0, 0, 0, false) else none))) else (bif Nat.ble 66 pc then (bif Nat.ble 67 pc then (bif Nat.ble 68 pc then (bif Nat.beq pc 68 then some (.iinc 3 (1), 71, 0, 0, 0, 0, false) else none) else (bif Nat.beq pc 67 then some (.ireturn, 68, 0, 0, 0, 0, false) else none)) else (bif Nat.beq pc 66 then some (.iadd, 67, 0, 0, 0, 0, false) else none)) else (bif Nat.ble 64 pc then (bif Nat.ble 65 pc then (bif Nat.beq pc 65 then some (.iload_n 3, 66, 0, 0, 0, 0, false) else none) else (bif Nat.beq pc 64 then some (.iadd, 65, 0, 0, 0, 0, false) else none)) else (bif Nat.beq pc 63 then some (.imul, 64, 0, 0, 0, 0, false) else none)))) else (bif Nat.ble 53 pc then (bif Nat.ble 59 pc then (bif Nat.ble 60 pc then (bif Nat.ble 62 pc then (bif Nat.beq pc 62 then some (.iload_n 2, 63, 0, 0, 0, 0, false) else none) else (bif Nat.beq pc 60 then some (.bipush (10), 62, 0, 0, 0, 0, false) else none)) else (bif Nat.beq pc 59 then some (.imul, 60, 0, 0, 0, 0, false) else none)) else (bif Nat.ble 56 pc then (bif Nat.ble 58 pc then (bif Nat.beq pc 58 then some (.iload_n 1, 59, 0, 0, 0, 0, false) else none) else (bif Nat.beq pc 56 then some (.bipush (100), 58, 0, 0, 0, 0, false) else none)) else (bif Nat.beq pc 53 then some (.ifCond .eq (15), 56, 68, 0, 0, 0, false) else none))) else (bif Nat.ble 48 pc then (bif Nat.ble 49 pc then (bif Nat.ble 50 pc then (bif Nat.beq pc 50 then some (.invokevirtual 111, 53, 57, 0, 0, 2158, false) else none) else (bif Nat.beq pc 49 then some (.iload_n 3, 50, 0, 0, 0, 0, false) else none)) else (bif Nat.beq pc 48 then some (.iload_n 2, 49, 0, 0, 0, 0, false) else none)) else (bif Nat.ble 44 pc then (bif Nat.ble 47 pc then (bif Nat.beq pc 47 then some (.iload_n 1, 48, 0, 0, 0, 0, false) else none) else (bif Nat.beq pc 44 then some (.getfield 10, 47, 7, 0, 1, 1173, false) else none)) else (bif Nat.beq pc 43 then some (.aload_n 0, 44, 0, 0, 0, 0, false) else none))))) else (bif Nat.ble 18 pc then (bif Nat.ble 30 pc then (bif Nat.ble 33 pc then (bif Nat.ble 37 pc then (bif Nat.ble 40 pc then (bif Nat.beq pc 40 then some (.if_icmp .ge (34), 43, 74, 0, 0, 0, false) else none) else (bif Nat.beq pc 37 then some (.getfield 105, 40, 6, 1, 0, 1037, false) else none)) else (bif Nat.ble 34 pc then (bif Nat.beq pc 34 then some (.getfield 10, 37, 7, 0, 1, 1173, false) else none) else (bif Nat.beq pc 33 then some (.aload_n 0, 34, 0, 0, 0, 0, false) else none))) else (bif Nat.ble 31 pc then (bif Nat.ble 32 pc then (bif Nat.beq pc 32 then some (.iload_n 3, 33, 0, 0, 0, 0, true) else none) else (bif Nat.beq pc 31 then some (.istore_n 3, 32, 0, 0, 0, 0, false) else none)) else (bif Nat.beq pc 30 then some (.iadd, 31, 0, 0, 0, 0, false) else none))) else (bif Nat.ble 25 pc then (bif Nat.ble 28 pc then (bif Nat.ble 29 pc then (bif Nat.beq pc 29 then some (.iconst (1), 30, 0, 0, 0, 0, false) else none) else (bif Nat.beq pc 28 then some (.iload_n 2, 29, 0, 0, 0, 0, false) else none)) else (bif Nat.beq pc 25 then some (.if_icmp .ge (55), 28, 80, 0, 0, 0, false) else none)) else (bif Nat.ble 19 pc then (bif Nat.ble 22 pc then (bif Nat.beq pc 22 then some (.getfield 105, 25, 6, 1, 0, 1037, false) else none) else (bif Nat.beq pc 19 then some (.getfield 10, 22, 7, 0, 1, 1173, false) else none)) else (bif Nat.beq pc 18 then some (.aload_n 0, 19, 0, 0, 0, 0, false) else none)))) else (bif Nat.ble 10 pc then (bif Nat.ble 15 pc then (bif Nat.ble 16 pc then (bif Nat.ble 17 pc then (bif Nat.beq pc 17 then some (.iload_n 2, 18, 0, 0, 0, 0, true) else none) else (bif Nat.beq pc 16 then some (.istore_n 2, 17, 0, 0, 0, 0, false) else none)) else (bif Nat.beq pc 15 then some (.iadd, 16, 0, 0, 0, 0, false) else none)) else (bif Nat.ble 13 pc then (bif Nat.ble 14 pc then (bif Nat.beq pc 14 then some (.iconst (1), 15, 0, 0, 0, 0, false) else none) else (bif Nat.beq pc 13 then some (.iload_n 1, 14, 0, 0, 0, 0, false) else none)) else (bif Nat.beq pc 10 then some (.if_icmp .ge (76), 13, 86, 0, 0, 0, false) else none))) else (bif Nat.ble 3 pc then (bif Nat.ble 4 pc then (bif Nat.ble 7 pc then (bif Nat.beq pc 7 then some (.getfield 105, 10, 6, 1, 0, 1037, false) else none) else (bif Nat.beq pc 4 then some (.getfield 10, 7, 7, 0, 1, 1173, false) else none)) else (bif Nat.beq pc 3 then some (.aload_n 0, 4, 0, 0, 0, 0, false) else none)) else (bif Nat.ble 1 pc then (bif Nat.ble 2 pc then (bif Nat.beq pc 2 then some (.iload_n 1, 3, 0, 0, 0, 0, true) else none) else (bif Nat.beq pc 1 then some (.istore_n 1, 2, 0, 0, 0, 0, false) else none)) else (bif Nat.beq pc 0 then some (.iconst (0), 1, 0, 0, 0, 0, false) else none)))))
/-- LieAlgebra.derivedDimension(I)I -/
def kc_Li_derivedDimension : Nat → Option pj_E := fun pc => bif Nat.ble 24 pc then none else bif Nat.ble 11 pc then (bif Nat.ble 16 pc then (bif Nat.ble 20 pc then (bif Nat.ble 23 pc then (bif Nat.beq pc 23 then some (.ireturn, 24, 0, 0, 0, 0, false) else none) else (bif Nat.beq pc 20 then some (.getfield 119, 23, 5, 4, 0, 1073, false) else none)) else (bif Nat.ble 17 pc then (bif Nat.beq pc 17 then some (.invokevirtual 115, 20, 20, 0, 0, 2167, false) else none) else (bif Nat.beq pc 16 then some (.iload_n 1, 17, 0, 0, 0, 0, false) else none))) else (bif Nat.ble 12 pc then (bif Nat.ble 13 pc then (bif Nat.beq pc 13 then some (.getfield 21, 16, 7, 1, 1, 1174, false) else none) else (bif Nat.beq pc 12 then some (.aload_n 0, 13, 0, 0, 0, 0, false) else none)) else (bif Nat.beq pc 11 then some (.ireturn, 12, 0, 0, 0, 0, false) else none))) else (bif Nat.ble 5 pc then (bif Nat.ble 7 pc then (bif Nat.ble 10 pc then (bif Nat.beq pc 10 then some (.iconst (-1), 11, 0, 0, 0, 0, false) else none) else (bif Nat.beq pc 7 then some (.if_icmp .le (5), 10, 12, 0, 0, 0, false) else none)) else (bif Nat.beq pc 5 then some (.bipush (9), 7, 0, 0, 0, 0, false) else none)) else (bif Nat.ble 1 pc then (bif Nat.ble 4 pc then (bif Nat.beq pc 4 then some (.iload_n 1, 5, 0, 0, 0, 0, false) else none) else (bif Nat.beq pc 1 then some (.ifCond .lt (9), 4, 10, 0, 0, 0, false) else none)) else (bif Nat.beq pc 0 then some (.iload_n 1, 1, 0, 0, 0, 0, false) else none)))
/-- LieAlgebra.lowerCentralDimension(I)I -/
def kc_Li_lowerCentralDimension : Nat → Option pj_E := fun pc => bif Nat.ble 24 pc then none else bif Nat.ble 11 pc then (bif Nat.ble 16 pc then (bif Nat.ble 20 pc then (bif Nat.ble 23 pc then (bif Nat.beq pc 23 then some (.ireturn, 24, 0, 0, 0, 0, false) else none) else (bif Nat.beq pc 20 then some (.getfield 119, 23, 5, 4, 0, 1073, false) else none)) else (bif Nat.ble 17 pc then (bif Nat.beq pc 17 then some (.invokevirtual 124, 20, 24, 0, 0, 2231, false) else none) else (bif Nat.beq pc 16 then some (.iload_n 1, 17, 0, 0, 0, 0, false) else none))) else (bif Nat.ble 12 pc then (bif Nat.ble 13 pc then (bif Nat.beq pc 13 then some (.getfield 21, 16, 7, 1, 1, 1174, false) else none) else (bif Nat.beq pc 12 then some (.aload_n 0, 13, 0, 0, 0, 0, false) else none)) else (bif Nat.beq pc 11 then some (.ireturn, 12, 0, 0, 0, 0, false) else none))) else (bif Nat.ble 5 pc then (bif Nat.ble 7 pc then (bif Nat.ble 10 pc then (bif Nat.beq pc 10 then some (.iconst (-1), 11, 0, 0, 0, 0, false) else none) else (bif Nat.beq pc 7 then some (.if_icmp .le (5), 10, 12, 0, 0, 0, false) else none)) else (bif Nat.beq pc 5 then some (.bipush (9), 7, 0, 0, 0, 0, false) else none)) else (bif Nat.ble 1 pc then (bif Nat.ble 4 pc then (bif Nat.beq pc 4 then some (.iload_n 1, 5, 0, 0, 0, 0, false) else none) else (bif Nat.beq pc 1 then some (.ifCond .lt (9), 4, 10, 0, 0, 0, false) else none)) else (bif Nat.beq pc 0 then some (.iload_n 1, 1, 0, 0, 0, 0, false) else none)))
/-- LieAlgebra.kind()I -/
def kc_Li_kind : Nat → Option pj_E := fun pc => bif Nat.ble 38 pc then none else bif Nat.ble 18 pc then (bif Nat.ble 29 pc then (bif Nat.ble 33 pc then (bif Nat.ble 36 pc then (bif Nat.ble 37 pc then (bif Nat.beq pc 37 then some (.ireturn, 38, 0, 0, 0, 0, false) else none) else (bif Nat.beq pc 36 then some (.iconst (0), 37, 0, 0, 0, 0, false) else none)) else (bif Nat.beq pc 33 then some (.goto (4), 36, 37, 0, 0, 0, false) else none)) else (bif Nat.ble 32 pc then (bif Nat.beq pc 32 then some (.iconst (1), 33, 0, 0, 0, 0, false) else none) else (bif Nat.beq pc 29 then some (.ifCond .ne (7), 32, 36, 0, 0, 0, false) else none))) else (bif Nat.ble 23 pc then (bif Nat.ble 26 pc then (bif Nat.beq pc 26 then some (.getfield 119, 29, 5, 4, 0, 1073, false) else none) else (bif Nat.beq pc 23 then some (.invokevirtual 115, 26, 20, 0, 0, 2167, false) else none)) else (bif Nat.ble 21 pc then (bif Nat.beq pc 21 then some (.bipush (9), 23, 0, 0, 0, 0, false) else none) else (bif Nat.beq pc 18 then some (.getfield 21, 21, 7, 1, 1, 1174, false) else none)))) else (bif Nat.ble 9 pc then (bif Nat.ble 15 pc then (bif Nat.ble 16 pc then (bif Nat.ble 17 pc then (bif Nat.beq pc 17 then some (.aload_n 0, 18, 0, 0, 0, 0, false) else none) else (bif Nat.beq pc 16 then some (.ireturn, 17, 0, 0, 0, 0, false) else none)) else (bif Nat.beq pc 15 then some (.iconst (2), 16, 0, 0, 0, 0, false) else none)) else (bif Nat.ble 12 pc then (bif Nat.beq pc 12 then some (.ifCond .ne (5), 15, 17, 0, 0, 0, false) else none) else (bif Nat.beq pc 9 then some (.getfield 119, 12, 5, 4, 0, 1073, false) else none))) else (bif Nat.ble 4 pc then (bif Nat.ble 6 pc then (bif Nat.beq pc 6 then some (.invokevirtual 124, 9, 24, 0, 0, 2231, false) else none) else (bif Nat.beq pc 4 then some (.bipush (9), 6, 0, 0, 0, 0, false) else none)) else (bif Nat.ble 1 pc then (bif Nat.beq pc 1 then some (.getfield 21, 4, 7, 1, 1, 1174, false) else none) else (bif Nat.beq pc 0 then some (.aload_n 0, 1, 0, 0, 0, 0, false) else none))))
/-- LieAlgebra.centerDimension()I -/
def kc_Li_centerDimension : Nat → Option pj_E := fun pc => bif Nat.ble 11 pc then none else bif Nat.ble 4 pc then (bif Nat.ble 7 pc then (bif Nat.ble 10 pc then (bif Nat.beq pc 10 then some (.ireturn, 11, 0, 0, 0, 0, false) else none) else (bif Nat.beq pc 7 then some (.getfield 119, 10, 5, 4, 0, 1073, false) else none)) else (bif Nat.beq pc 4 then some (.invokevirtual 131, 7, 25, 0, 0, 3003, false) else none)) else (bif Nat.ble 1 pc then (bif Nat.beq pc 1 then some (.getfield 21, 4, 7, 1, 1, 1174, false) else none) else (bif Nat.beq pc 0 then some (.aload_n 0, 1, 0, 0, 0, 0, false) else none))
/-- LieAlgebra.killingRadicalDimension()I -/
def kc_Li_killingRadicalDimension : Nat → Option pj_E := fun pc => bif Nat.ble 8 pc then none else bif Nat.ble 4 pc then (bif Nat.ble 7 pc then (bif Nat.beq pc 7 then some (.ireturn, 8, 0, 0, 0, 0, false) else none) else (bif Nat.beq pc 4 then some (.invokevirtual 160, 7, 8, 0, 0, 3020, false) else none)) else (bif Nat.ble 1 pc then (bif Nat.beq pc 1 then some (.getfield 28, 4, 7, 2, 1, 1175, false) else none) else (bif Nat.beq pc 0 then some (.aload_n 0, 1, 0, 0, 0, 0, false) else none))
/-- LieAlgebra.derivationDimension()I -/
def kc_Li_derivationDimension : Nat → Option pj_E := fun pc => bif Nat.ble 8 pc then none else bif Nat.ble 4 pc then (bif Nat.ble 7 pc then (bif Nat.beq pc 7 then some (.ireturn, 8, 0, 0, 0, 0, false) else none) else (bif Nat.beq pc 4 then some (.invokevirtual 163, 7, 10, 0, 0, 3039, false) else none)) else (bif Nat.ble 1 pc then (bif Nat.beq pc 1 then some (.getfield 28, 4, 7, 2, 1, 1175, false) else none) else (bif Nat.beq pc 0 then some (.aload_n 0, 1, 0, 0, 0, 0, false) else none))
/-- LieAlgebra.killing(II)I -/
def kc_Li_killing : Nat → Option pj_E := fun pc => bif Nat.ble 34 pc then none else bif Nat.ble 19 pc then (bif Nat.ble 25 pc then (bif Nat.ble 29 pc then (bif Nat.ble 30 pc then (bif Nat.ble 33 pc then (bif Nat.beq pc 33 then some (.ireturn, 34, 0, 0, 0, 0, false) else none) else (bif Nat.beq pc 30 then some (.invokevirtual 157, 33, 9, 0, 0, 3065, false) else none)) else (bif Nat.beq pc 29 then some (.iload_n 2, 30, 0, 0, 0, 0, false) else none)) else (bif Nat.ble 28 pc then (bif Nat.beq pc 28 then some (.iload_n 1, 29, 0, 0, 0, 0, false) else none) else (bif Nat.beq pc 25 then some (.getfield 28, 28, 7, 2, 1, 1175, false) else none))) else (bif Nat.ble 23 pc then (bif Nat.ble 24 pc then (bif Nat.beq pc 24 then some (.aload_n 0, 25, 0, 0, 0, 0, false) else none) else (bif Nat.beq pc 23 then some (.ireturn, 24, 0, 0, 0, 0, false) else none)) else (bif Nat.ble 22 pc then (bif Nat.beq pc 22 then some (.iconst (-1), 23, 0, 0, 0, 0, false) else none) else (bif Nat.beq pc 19 then some (.ifCond .ne (5), 22, 24, 0, 0, 0, false) else none)))) else (bif Nat.ble 8 pc then (bif Nat.ble 12 pc then (bif Nat.ble 15 pc then (bif Nat.ble 16 pc then (bif Nat.beq pc 16 then some (.invokevirtual 73, 19, 47, 0, 0, 2004, false) else none) else (bif Nat.beq pc 15 then some (.iload_n 2, 16, 0, 0, 0, 0, false) else none)) else (bif Nat.beq pc 12 then some (.getfield 10, 15, 7, 0, 1, 1173, false) else none)) else (bif Nat.ble 11 pc then (bif Nat.beq pc 11 then some (.aload_n 0, 12, 0, 0, 0, 0, false) else none) else (bif Nat.beq pc 8 then some (.ifCond .eq (14), 11, 22, 0, 0, 0, false) else none))) else (bif Nat.ble 4 pc then (bif Nat.ble 5 pc then (bif Nat.beq pc 5 then some (.invokevirtual 73, 8, 47, 0, 0, 2004, false) else none) else (bif Nat.beq pc 4 then some (.iload_n 1, 5, 0, 0, 0, 0, false) else none)) else (bif Nat.ble 1 pc then (bif Nat.beq pc 1 then some (.getfield 10, 4, 7, 0, 1, 1173, false) else none) else (bif Nat.beq pc 0 then some (.aload_n 0, 1, 0, 0, 0, 0, false) else none))))
/-- LieAlgebra.centralizerDimension(I)I -/
def kc_Li_centralizerDimension : Nat → Option pj_E := fun pc => bif Nat.ble 33 pc then none else bif Nat.ble 14 pc then (bif Nat.ble 24 pc then (bif Nat.ble 28 pc then (bif Nat.ble 31 pc then (bif Nat.ble 32 pc then (bif Nat.beq pc 32 then some (.ireturn, 33, 0, 0, 0, 0, false) else none) else (bif Nat.beq pc 31 then some (.isub, 32, 0, 0, 0, 0, false) else none)) else (bif Nat.beq pc 28 then some (.getfield 119, 31, 5, 4, 0, 1073, false) else none)) else (bif Nat.ble 25 pc then (bif Nat.beq pc 25 then some (.invokevirtual 135, 28, 26, 0, 0, 3070, false) else none) else (bif Nat.beq pc 24 then some (.iload_n 1, 25, 0, 0, 0, 0, false) else none))) else (bif Nat.ble 20 pc then (bif Nat.ble 21 pc then (bif Nat.beq pc 21 then some (.getfield 21, 24, 7, 1, 1, 1174, false) else none) else (bif Nat.beq pc 20 then some (.aload_n 0, 21, 0, 0, 0, 0, false) else none)) else (bif Nat.ble 17 pc then (bif Nat.beq pc 17 then some (.getfield 105, 20, 6, 1, 0, 1037, false) else none) else (bif Nat.beq pc 14 then some (.getfield 10, 17, 7, 0, 1, 1173, false) else none)))) else (bif Nat.ble 8 pc then (bif Nat.ble 12 pc then (bif Nat.ble 13 pc then (bif Nat.beq pc 13 then some (.aload_n 0, 14, 0, 0, 0, 0, false) else none) else (bif Nat.beq pc 12 then some (.ireturn, 13, 0, 0, 0, 0, false) else none)) else (bif Nat.ble 11 pc then (bif Nat.beq pc 11 then some (.iconst (-1), 12, 0, 0, 0, 0, false) else none) else (bif Nat.beq pc 8 then some (.ifCond .ne (5), 11, 13, 0, 0, 0, false) else none))) else (bif Nat.ble 4 pc then (bif Nat.ble 5 pc then (bif Nat.beq pc 5 then some (.invokevirtual 73, 8, 47, 0, 0, 2004, false) else none) else (bif Nat.beq pc 4 then some (.iload_n 1, 5, 0, 0, 0, 0, false) else none)) else (bif Nat.ble 1 pc then (bif Nat.beq pc 1 then some (.getfield 10, 4, 7, 0, 1, 1173, false) else none) else (bif Nat.beq pc 0 then some (.aload_n 0, 1, 0, 0, 0, 0, false) else none))))
/-- LieAlgebra.idealDimension(I)I -/
def kc_Li_idealDimension : Nat → Option pj_E := fun pc => bif Nat.ble 25 pc then none else bif Nat.ble 12 pc then (bif Nat.ble 17 pc then (bif Nat.ble 21 pc then (bif Nat.ble 24 pc then (bif Nat.beq pc 24 then some (.ireturn, 25, 0, 0, 0, 0, false) else none) else (bif Nat.beq pc 21 then some (.getfield 119, 24, 5, 4, 0, 1073, false) else none)) else (bif Nat.ble 18 pc then (bif Nat.beq pc 18 then some (.invokevirtual 138, 21, 27, 0, 0, 3078, false) else none) else (bif Nat.beq pc 17 then some (.iload_n 1, 18, 0, 0, 0, 0, false) else none))) else (bif Nat.ble 13 pc then (bif Nat.ble 14 pc then (bif Nat.beq pc 14 then some (.getfield 21, 17, 7, 1, 1, 1174, false) else none) else (bif Nat.beq pc 13 then some (.aload_n 0, 14, 0, 0, 0, 0, false) else none)) else (bif Nat.beq pc 12 then some (.ireturn, 13, 0, 0, 0, 0, false) else none))) else (bif Nat.ble 5 pc then (bif Nat.ble 8 pc then (bif Nat.ble 11 pc then (bif Nat.beq pc 11 then some (.iconst (-1), 12, 0, 0, 0, 0, false) else none) else (bif Nat.beq pc 8 then some (.ifCond .ne (5), 11, 13, 0, 0, 0, false) else none)) else (bif Nat.beq pc 5 then some (.invokevirtual 73, 8, 47, 0, 0, 2004, false) else none)) else (bif Nat.ble 1 pc then (bif Nat.ble 4 pc then (bif Nat.beq pc 4 then some (.iload_n 1, 5, 0, 0, 0, 0, false) else none) else (bif Nat.beq pc 1 then some (.getfield 10, 4, 7, 0, 1, 1173, false) else none)) else (bif Nat.beq pc 0 then some (.aload_n 0, 1, 0, 0, 0, 0, false) else none)))
/-- LieAlgebra.subalgebraDimension(II)I -/
def kc_Li_subalgebraDimension : Nat → Option pj_E := fun pc => bif Nat.ble 37 pc then none else bif Nat.ble 19 pc then (bif Nat.ble 28 pc then (bif Nat.ble 30 pc then (bif Nat.ble 33 pc then (bif Nat.ble 36 pc then (bif Nat.beq pc 36 then some (.ireturn, 37, 0, 0, 0, 0, false) else none) else (bif Nat.beq pc 33 then some (.getfield 119, 36, 5, 4, 0, 1073, false) else none)) else (bif Nat.beq pc 30 then some (.invokevirtual 141, 33, 29, 0, 0, 3090, false) else none)) else (bif Nat.ble 29 pc then (bif Nat.beq pc 29 then some (.iload_n 2, 30, 0, 0, 0, 0, false) else none) else (bif Nat.beq pc 28 then some (.iload_n 1, 29, 0, 0, 0, 0, false) else none))) else (bif Nat.ble 23 pc then (bif Nat.ble 24 pc then (bif Nat.ble 25 pc then (bif Nat.beq pc 25 then some (.getfield 21, 28, 7, 1, 1, 1174, false) else none) else (bif Nat.beq pc 24 then some (.aload_n 0, 25, 0, 0, 0, 0, false) else none)) else (bif Nat.beq pc 23 then some (.ireturn, 24, 0, 0, 0, 0, false) else none)) else (bif Nat.ble 22 pc then (bif Nat.beq pc 22 then some (.iconst (-1), 23, 0, 0, 0, 0, false) else none) else (bif Nat.beq pc 19 then some (.ifCond .ne (5), 22, 24, 0, 0, 0, false) else none)))) else (bif Nat.ble 8 pc then (bif Nat.ble 12 pc then (bif Nat.ble 15 pc then (bif Nat.ble 16 pc then (bif Nat.beq pc 16 then some (.invokevirtual 73, 19, 47, 0, 0, 2004, false) else none) else (bif Nat.beq pc 15 then some (.iload_n 2, 16, 0, 0, 0, 0, false) else none)) else (bif Nat.beq pc 12 then some (.getfield 10, 15, 7, 0, 1, 1173, false) else none)) else (bif Nat.ble 11 pc then (bif Nat.beq pc 11 then some (.aload_n 0, 12, 0, 0, 0, 0, false) else none) else (bif Nat.beq pc 8 then some (.ifCond .eq (14), 11, 22, 0, 0, 0, false) else none))) else (bif Nat.ble 4 pc then (bif Nat.ble 5 pc then (bif Nat.beq pc 5 then some (.invokevirtual 73, 8, 47, 0, 0, 2004, false) else none) else (bif Nat.beq pc 4 then some (.iload_n 1, 5, 0, 0, 0, 0, false) else none)) else (bif Nat.ble 1 pc then (bif Nat.beq pc 1 then some (.getfield 10, 4, 7, 0, 1, 1173, false) else none) else (bif Nat.beq pc 0 then some (.aload_n 0, 1, 0, 0, 0, 0, false) else none))))
/-- LieAlgebra.derivedVector(II)I -/
def kc_Li_derivedVector : Nat → Option pj_E := fun pc => bif Nat.ble 29 pc then none else bif Nat.ble 15 pc then (bif Nat.ble 21 pc then (bif Nat.ble 25 pc then (bif Nat.ble 28 pc then (bif Nat.beq pc 28 then some (.ireturn, 29, 0, 0, 0, 0, false) else none) else (bif Nat.beq pc 25 then some (.invokevirtual 127, 28, 38, 0, 0, 3101, false) else none)) else (bif Nat.ble 24 pc then (bif Nat.beq pc 24 then some (.iload_n 2, 25, 0, 0, 0, 0, false) else none) else (bif Nat.beq pc 21 then some (.invokevirtual 115, 24, 20, 0, 0, 2167, false) else none))) else (bif Nat.ble 17 pc then (bif Nat.ble 20 pc then (bif Nat.beq pc 20 then some (.iload_n 1, 21, 0, 0, 0, 0, false) else none) else (bif Nat.beq pc 17 then some (.getfield 21, 20, 7, 1, 1, 1174, false) else none)) else (bif Nat.ble 16 pc then (bif Nat.beq pc 16 then some (.aload_n 0, 17, 0, 0, 0, 0, false) else none) else (bif Nat.beq pc 15 then some (.ireturn, 16, 0, 0, 0, 0, false) else none)))) else (bif Nat.ble 7 pc then (bif Nat.ble 11 pc then (bif Nat.ble 14 pc then (bif Nat.beq pc 14 then some (.iconst (-1), 15, 0, 0, 0, 0, false) else none) else (bif Nat.beq pc 11 then some (.ifCond .ge (5), 14, 16, 0, 0, 0, false) else none)) else (bif Nat.ble 10 pc then (bif Nat.beq pc 10 then some (.iload_n 2, 11, 0, 0, 0, 0, false) else none) else (bif Nat.beq pc 7 then some (.if_icmp .gt (7), 10, 14, 0, 0, 0, false) else none))) else (bif Nat.ble 4 pc then (bif Nat.ble 5 pc then (bif Nat.beq pc 5 then some (.bipush (9), 7, 0, 0, 0, 0, false) else none) else (bif Nat.beq pc 4 then some (.iload_n 1, 5, 0, 0, 0, 0, false) else none)) else (bif Nat.ble 1 pc then (bif Nat.beq pc 1 then some (.ifCond .lt (13), 4, 14, 0, 0, 0, false) else none) else (bif Nat.beq pc 0 then some (.iload_n 1, 1, 0, 0, 0, 0, false) else none))))
/-- java/lang/Math.min(II)I -/
def kc_Math_min : Nat → Option pj_E := fun pc => bif Nat.ble 11 pc then none else bif Nat.ble 5 pc then (bif Nat.ble 9 pc then (bif Nat.ble 10 pc then (bif Nat.beq pc 10 then some (.ireturn, 11, 0, 0, 0, 0, false) else none) else (bif Nat.beq pc 9 then some (.iload_n 1, 10, 0, 0, 0, 0, false) else none)) else (bif Nat.ble 6 pc then (bif Nat.beq pc 6 then some (.goto (4), 9, 10, 0, 0, 0, false) else none) else (bif Nat.beq pc 5 then some (.iload_n 0, 6, 0, 0, 0, 0, false) else none))) else (bif Nat.ble 1 pc then (bif Nat.ble 2 pc then (bif Nat.beq pc 2 then some (.if_icmp .gt (7), 5, 9, 0, 0, 0, false) else none) else (bif Nat.beq pc 1 then some (.iload_n 1, 2, 0, 0, 0, 0, false) else none)) else (bif Nat.beq pc 0 then some (.iload_n 0, 1, 0, 0, 0, 0, false) else none))
/-- java/lang/Math.max(II)I -/
def kc_Math_max : Nat → Option pj_E := fun pc => bif Nat.ble 11 pc then none else bif Nat.ble 5 pc then (bif Nat.ble 9 pc then (bif Nat.ble 10 pc then (bif Nat.beq pc 10 then some (.ireturn, 11, 0, 0, 0, 0, false) else none) else (bif Nat.beq pc 9 then some (.iload_n 1, 10, 0, 0, 0, 0, false) else none)) else (bif Nat.ble 6 pc then (bif Nat.beq pc 6 then some (.goto (4), 9, 10, 0, 0, 0, false) else none) else (bif Nat.beq pc 5 then some (.iload_n 0, 6, 0, 0, 0, 0, false) else none))) else (bif Nat.ble 1 pc then (bif Nat.ble 2 pc then (bif Nat.beq pc 2 then some (.if_icmp .lt (7), 5, 9, 0, 0, 0, false) else none) else (bif Nat.beq pc 1 then some (.iload_n 1, 2, 0, 0, 0, 0, false) else none)) else (bif Nat.beq pc 0 then some (.iload_n 0, 1, 0, 0, 0, 0, false) else none))
/-- java/util/Arrays.fill([II)V -/
def kc_Arrays_fill : Nat → Option pj_E := fun pc => bif Nat.ble 21 pc then none else bif Nat.ble 7 pc then (bif Nat.ble 13 pc then (bif Nat.ble 17 pc then (bif Nat.ble 20 pc then (bif Nat.beq pc 20 then some (.return_, 21, 0, 0, 0, 0, false) else none) else (bif Nat.beq pc 17 then some (.goto (-12), 20, 5, 0, 0, 0, false) else none)) else (bif Nat.ble 14 pc then (bif Nat.beq pc 14 then some (.iinc 2 (1), 17, 0, 0, 0, 0, false) else none) else (bif Nat.beq pc 13 then some (.iastore, 14, 0, 0, 0, 0, false) else none))) else (bif Nat.ble 11 pc then (bif Nat.ble 12 pc then (bif Nat.beq pc 12 then some (.iload_n 1, 13, 0, 0, 0, 0, false) else none) else (bif Nat.beq pc 11 then some (.iload_n 2, 12, 0, 0, 0, 0, false) else none)) else (bif Nat.ble 10 pc then (bif Nat.beq pc 10 then some (.aload_n 0, 11, 0, 0, 0, 0, false) else none) else (bif Nat.beq pc 7 then some (.if_icmp .ge (13), 10, 20, 0, 0, 0, false) else none)))) else (bif Nat.ble 3 pc then (bif Nat.ble 5 pc then (bif Nat.ble 6 pc then (bif Nat.beq pc 6 then some (.iload_n 3, 7, 0, 0, 0, 0, false) else none) else (bif Nat.beq pc 5 then some (.iload_n 2, 6, 0, 0, 0, 0, true) else none)) else (bif Nat.ble 4 pc then (bif Nat.beq pc 4 then some (.istore_n 3, 5, 0, 0, 0, 0, false) else none) else (bif Nat.beq pc 3 then some (.arraylength, 4, 0, 0, 0, 0, false) else none))) else (bif Nat.ble 1 pc then (bif Nat.ble 2 pc then (bif Nat.beq pc 2 then some (.aload_n 0, 3, 0, 0, 0, 0, false) else none) else (bif Nat.beq pc 1 then some (.istore_n 2, 2, 0, 0, 0, 0, false) else none)) else (bif Nat.beq pc 0 then some (.iconst (0), 1, 0, 0, 0, 0, false) else none)))
/-- LieAlgebraLaw.cell([II)I -/
def kc_Lw_cell : Nat → Option pj_E := fun pc => bif Nat.ble 25 pc then none else bif Nat.ble 15 pc then (bif Nat.ble 19 pc then (bif Nat.ble 22 pc then (bif Nat.ble 23 pc then (bif Nat.ble 24 pc then (bif Nat.beq pc 24 then some (.ireturn, 25, 0, 0, 0, 0, false) else none) else (bif Nat.beq pc 23 then some (.imul, 24, 0, 0, 0, 0, false) else none)) else (bif Nat.beq pc 22 then some (.iadd, 23, 0, 0, 0, 0, false) else none)) else (bif Nat.ble 20 pc then (bif Nat.beq pc 20 then some (.bipush (11), 22, 0, 0, 0, 0, false) else none) else (bif Nat.beq pc 19 then some (.iload_n 1, 20, 0, 0, 0, 0, false) else none))) else (bif Nat.ble 17 pc then (bif Nat.ble 18 pc then (bif Nat.beq pc 18 then some (.imul, 19, 0, 0, 0, 0, false) else none) else (bif Nat.beq pc 17 then some (.iadd, 18, 0, 0, 0, 0, false) else none)) else (bif Nat.ble 16 pc then (bif Nat.beq pc 16 then some (.iconst (3), 17, 0, 0, 0, 0, false) else none) else (bif Nat.beq pc 15 then some (.iload_n 1, 16, 0, 0, 0, 0, false) else none)))) else (bif Nat.ble 6 pc then (bif Nat.ble 8 pc then (bif Nat.ble 9 pc then (bif Nat.ble 12 pc then (bif Nat.beq pc 12 then some (.sipush (7919), 15, 0, 0, 0, 0, false) else none) else (bif Nat.beq pc 9 then some (.goto (15), 12, 24, 0, 0, 0, false) else none)) else (bif Nat.beq pc 8 then some (.iaload, 9, 0, 0, 0, 0, false) else none)) else (bif Nat.ble 7 pc then (bif Nat.beq pc 7 then some (.iload_n 1, 8, 0, 0, 0, 0, false) else none) else (bif Nat.beq pc 6 then some (.aload_n 0, 7, 0, 0, 0, 0, false) else none))) else (bif Nat.ble 2 pc then (bif Nat.ble 3 pc then (bif Nat.beq pc 3 then some (.if_icmp .ge (9), 6, 12, 0, 0, 0, false) else none) else (bif Nat.beq pc 2 then some (.arraylength, 3, 0, 0, 0, 0, false) else none)) else (bif Nat.ble 1 pc then (bif Nat.beq pc 1 then some (.aload_n 0, 2, 0, 0, 0, 0, false) else none) else (bif Nat.beq pc 0 then some (.iload_n 1, 1, 0, 0, 0, 0, false) else none))))
/-- LieAlgebraLaw.low(II)I -/
def kc_Lw_low : Nat → Option pj_E := fun pc => bif Nat.ble 7 pc then none else bif Nat.ble 4 pc then (bif Nat.ble 5 pc then (bif Nat.ble 6 pc then (bif Nat.beq pc 6 then some (.ireturn, 7, 0, 0, 0, 0, false) else none) else (bif Nat.beq pc 5 then some (.irem, 6, 0, 0, 0, 0, false) else none)) else (bif Nat.beq pc 4 then some (.iload_n 1, 5, 0, 0, 0, 0, false) else none)) else (bif Nat.ble 1 pc then (bif Nat.ble 3 pc then (bif Nat.beq pc 3 then some (.iand, 4, 0, 0, 0, 0, false) else none) else (bif Nat.beq pc 1 then some (.ldc 7, 3, 2147483647, 0, 0, 2127, false) else none)) else (bif Nat.beq pc 0 then some (.iload_n 0, 1, 0, 0, 0, 0, false) else none))
/-- LieAlgebraLaw.power(II)I -/
def kc_Lw_power : Nat → Option pj_E := fun pc => bif Nat.ble 21 pc then none else bif Nat.ble 9 pc then (bif Nat.ble 13 pc then (bif Nat.ble 19 pc then (bif Nat.ble 20 pc then (bif Nat.beq pc 20 then some (.ireturn, 21, 0, 0, 0, 0, false) else none) else (bif Nat.beq pc 19 then some (.iload_n 2, 20, 0, 0, 0, 0, false) else none)) else (bif Nat.ble 16 pc then (bif Nat.beq pc 16 then some (.goto (-12), 19, 4, 0, 0, 0, false) else none) else (bif Nat.beq pc 13 then some (.iinc 3 (1), 16, 0, 0, 0, 0, false) else none))) else (bif Nat.ble 11 pc then (bif Nat.ble 12 pc then (bif Nat.beq pc 12 then some (.istore_n 2, 13, 0, 0, 0, 0, false) else none) else (bif Nat.beq pc 11 then some (.imul, 12, 0, 0, 0, 0, false) else none)) else (bif Nat.ble 10 pc then (bif Nat.beq pc 10 then some (.iload_n 0, 11, 0, 0, 0, 0, false) else none) else (bif Nat.beq pc 9 then some (.iload_n 2, 10, 0, 0, 0, 0, false) else none)))) else (bif Nat.ble 3 pc then (bif Nat.ble 5 pc then (bif Nat.ble 6 pc then (bif Nat.beq pc 6 then some (.if_icmp .ge (13), 9, 19, 0, 0, 0, false) else none) else (bif Nat.beq pc 5 then some (.iload_n 1, 6, 0, 0, 0, 0, false) else none)) else (bif Nat.ble 4 pc then (bif Nat.beq pc 4 then some (.iload_n 3, 5, 0, 0, 0, 0, true) else none) else (bif Nat.beq pc 3 then some (.istore_n 3, 4, 0, 0, 0, 0, false) else none))) else (bif Nat.ble 1 pc then (bif Nat.ble 2 pc then (bif Nat.beq pc 2 then some (.iconst (0), 3, 0, 0, 0, 0, false) else none) else (bif Nat.beq pc 1 then some (.istore_n 2, 2, 0, 0, 0, 0, false) else none)) else (bif Nat.beq pc 0 then some (.iconst (1), 1, 0, 0, 0, 0, false) else none)))
/-- LieAlgebraLaw.mod(II)I -/
def kc_Lw_mod : Nat → Option pj_E := fun pc => bif Nat.ble 8 pc then none else bif Nat.ble 4 pc then (bif Nat.ble 6 pc then (bif Nat.ble 7 pc then (bif Nat.beq pc 7 then some (.ireturn, 8, 0, 0, 0, 0, false) else none) else (bif Nat.beq pc 6 then some (.irem, 7, 0, 0, 0, 0, false) else none)) else (bif Nat.ble 5 pc then (bif Nat.beq pc 5 then some (.iload_n 1, 6, 0, 0, 0, 0, false) else none) else (bif Nat.beq pc 4 then some (.iadd, 5, 0, 0, 0, 0, false) else none))) else (bif Nat.ble 2 pc then (bif Nat.ble 3 pc then (bif Nat.beq pc 3 then some (.iload_n 1, 4, 0, 0, 0, 0, false) else none) else (bif Nat.beq pc 2 then some (.irem, 3, 0, 0, 0, 0, false) else none)) else (bif Nat.ble 1 pc then (bif Nat.beq pc 1 then some (.iload_n 1, 2, 0, 0, 0, 0, false) else none) else (bif Nat.beq pc 0 then some (.iload_n 0, 1, 0, 0, 0, 0, false) else none)))
/-- LieAlgebraLaw.digest(LLieAlgebra;)J -/
def kc_Lw_digest : Nat → Option pj_E := fun pc => bif Nat.ble 83 pc then none else bif Nat.ble 38 pc then (bif Nat.ble 58 pc then (bif Nat.ble 69 pc then (bif Nat.ble 78 pc then (bif Nat.ble 81 pc then (bif Nat.ble 82 pc then (bif Nat.beq pc 82 then some (.lreturn, 83, 0, 0, 0, 0, false) else none) else (bif Nat.beq pc 81 then some (.lload_n 1, 82, 0, 0, 0, 0, false) else none)) else (bif Nat.beq pc 78 then some (.goto (-54), 81, 24, 0, 0, 0, false) else none)) else (bif Nat.ble 72 pc then (bif Nat.ble 75 pc then (bif Nat.beq pc 75 then some (.iinc 4 (1), 78, 0, 0, 0, 0, false) else none) else (bif Nat.beq pc 72 then some (.goto (-36), 75, 36, 0, 0, 0, false) else none)) else (bif Nat.beq pc 69 then some (.iinc 5 (1), 72, 0, 0, 0, 0, false) else none))) else (bif Nat.ble 66 pc then (bif Nat.ble 67 pc then (bif Nat.ble 68 pc then (bif Nat.beq pc 68 then some (.lstore_n 1, 69, 0, 0, 0, 0, false) else none) else (bif Nat.beq pc 67 then some (.ladd, 68, 0, 0, 0, 0, false) else none)) else (bif Nat.beq pc 66 then some (.i2l, 67, 0, 0, 0, 0, false) else none)) else (bif Nat.ble 60 pc then (bif Nat.ble 63 pc then (bif Nat.beq pc 63 then some (.invokevirtual 32, 66, 73, 0, 0, 2146, false) else none) else (bif Nat.beq pc 60 then some (.invokestatic 29, 63, 91, 0, 0, 2128, false) else none)) else (bif Nat.beq pc 58 then some (.iload 5, 60, 0, 0, 0, 0, false) else none)))) else (bif Nat.ble 49 pc then (bif Nat.ble 52 pc then (bif Nat.ble 54 pc then (bif Nat.ble 57 pc then (bif Nat.beq pc 57 then some (.iload_n 3, 58, 0, 0, 0, 0, false) else none) else (bif Nat.beq pc 54 then some (.invokestatic 29, 57, 91, 0, 0, 2128, false) else none)) else (bif Nat.beq pc 52 then some (.iload 4, 54, 0, 0, 0, 0, false) else none)) else (bif Nat.ble 50 pc then (bif Nat.ble 51 pc then (bif Nat.beq pc 51 then some (.iload_n 3, 52, 0, 0, 0, 0, false) else none) else (bif Nat.beq pc 50 then some (.aload_n 0, 51, 0, 0, 0, 0, false) else none)) else (bif Nat.beq pc 49 then some (.lmul, 50, 0, 0, 0, 0, false) else none))) else (bif Nat.ble 42 pc then (bif Nat.ble 45 pc then (bif Nat.ble 48 pc then (bif Nat.beq pc 48 then some (.lload_n 1, 49, 0, 0, 0, 0, false) else none) else (bif Nat.beq pc 45 then some (.ldc2_w 18, 48, 31, 0, 0, 2137, false) else none)) else (bif Nat.beq pc 42 then some (.if_icmp .ge (33), 45, 75, 0, 0, 0, false) else none)) else (bif Nat.ble 39 pc then (bif Nat.beq pc 39 then some (.invokevirtual 26, 42, 72, 0, 0, 2142, false) else none) else (bif Nat.beq pc 38 then some (.aload_n 0, 39, 0, 0, 0, 0, false) else none))))) else (bif Nat.ble 17 pc then (bif Nat.ble 26 pc then (bif Nat.ble 33 pc then (bif Nat.ble 34 pc then (bif Nat.ble 36 pc then (bif Nat.beq pc 36 then some (.iload 5, 38, 0, 0, 0, 0, true) else none) else (bif Nat.beq pc 34 then some (.istore 5, 36, 0, 0, 0, 0, false) else none)) else (bif Nat.beq pc 33 then some (.iconst (0), 34, 0, 0, 0, 0, false) else none)) else (bif Nat.ble 27 pc then (bif Nat.ble 30 pc then (bif Nat.beq pc 30 then some (.if_icmp .ge (51), 33, 81, 0, 0, 0, false) else none) else (bif Nat.beq pc 27 then some (.invokevirtual 26, 30, 72, 0, 0, 2142, false) else none)) else (bif Nat.beq pc 26 then some (.aload_n 0, 27, 0, 0, 0, 0, false) else none))) else (bif Nat.ble 21 pc then (bif Nat.ble 22 pc then (bif Nat.ble 24 pc then (bif Nat.beq pc 24 then some (.iload 4, 26, 0, 0, 0, 0, true) else none) else (bif Nat.beq pc 22 then some (.istore 4, 24, 0, 0, 0, 0, false) else none)) else (bif Nat.beq pc 21 then some (.iconst (0), 22, 0, 0, 0, 0, false) else none)) else (bif Nat.ble 20 pc then (bif Nat.beq pc 20 then some (.istore_n 3, 21, 0, 0, 0, 0, false) else none) else (bif Nat.beq pc 17 then some (.invokevirtual 20, 20, 71, 0, 0, 2138, false) else none)))) else (bif Nat.ble 9 pc then (bif Nat.ble 14 pc then (bif Nat.ble 15 pc then (bif Nat.ble 16 pc then (bif Nat.beq pc 16 then some (.aload_n 0, 17, 0, 0, 0, 0, false) else none) else (bif Nat.beq pc 15 then some (.lstore_n 1, 16, 0, 0, 0, 0, false) else none)) else (bif Nat.beq pc 14 then some (.ladd, 15, 0, 0, 0, 0, false) else none)) else (bif Nat.ble 10 pc then (bif Nat.ble 13 pc then (bif Nat.beq pc 13 then some (.i2l, 14, 0, 0, 0, 0, false) else none) else (bif Nat.beq pc 10 then some (.invokevirtual 26, 13, 72, 0, 0, 2142, false) else none)) else (bif Nat.beq pc 9 then some (.aload_n 0, 10, 0, 0, 0, 0, false) else none))) else (bif Nat.ble 4 pc then (bif Nat.ble 7 pc then (bif Nat.ble 8 pc then (bif Nat.beq pc 8 then some (.lmul, 9, 0, 0, 0, 0, false) else none) else (bif Nat.beq pc 7 then some (.i2l, 8, 0, 0, 0, 0, false) else none)) else (bif Nat.beq pc 4 then some (.invokevirtual 20, 7, 71, 0, 0, 2138, false) else none)) else (bif Nat.ble 3 pc then (bif Nat.beq pc 3 then some (.aload_n 0, 4, 0, 0, 0, 0, false) else none) else (bif Nat.beq pc 0 then some (.ldc2_w 18, 3, 31, 0, 0, 2137, false) else none)))))
/-- LieAlgebraLaw.kinds(LLieAlgebra;)J -/
def kc_Lw_kinds : Nat → Option pj_E := fun pc => bif Nat.ble 97 pc then none else bif Nat.ble 47 pc then (bif Nat.ble 74 pc then (bif Nat.ble 87 pc then (bif Nat.ble 91 pc then (bif Nat.ble 95 pc then (bif Nat.ble 96 pc then (bif Nat.beq pc 96 then some (.lreturn, 97, 0, 0, 0, 0, false) else none) else (bif Nat.beq pc 95 then some (.ladd, 96, 0, 0, 0, 0, false) else none)) else (bif Nat.ble 94 pc then (bif Nat.beq pc 94 then some (.i2l, 95, 0, 0, 0, 0, false) else none) else (bif Nat.beq pc 91 then some (.invokevirtual 54, 94, 80, 0, 0, 3035, false) else none))) else (bif Nat.ble 89 pc then (bif Nat.ble 90 pc then (bif Nat.beq pc 90 then some (.aload_n 0, 91, 0, 0, 0, 0, false) else none) else (bif Nat.beq pc 89 then some (.lmul, 90, 0, 0, 0, 0, false) else none)) else (bif Nat.ble 88 pc then (bif Nat.beq pc 88 then some (.ladd, 89, 0, 0, 0, 0, false) else none) else (bif Nat.beq pc 87 then some (.i2l, 88, 0, 0, 0, 0, false) else none)))) else (bif Nat.ble 81 pc then (bif Nat.ble 83 pc then (bif Nat.ble 84 pc then (bif Nat.beq pc 84 then some (.invokevirtual 51, 87, 79, 0, 0, 3016, false) else none) else (bif Nat.beq pc 83 then some (.aload_n 0, 84, 0, 0, 0, 0, false) else none)) else (bif Nat.ble 82 pc then (bif Nat.beq pc 82 then some (.lmul, 83, 0, 0, 0, 0, false) else none) else (bif Nat.beq pc 81 then some (.lload_n 1, 82, 0, 0, 0, 0, false) else none))) else (bif Nat.ble 75 pc then (bif Nat.ble 78 pc then (bif Nat.beq pc 78 then some (.ldc2_w 18, 81, 31, 0, 0, 2137, false) else none) else (bif Nat.beq pc 75 then some (.ldc2_w 18, 78, 31, 0, 0, 2137, false) else none)) else (bif Nat.beq pc 74 then some (.lstore_n 1, 75, 0, 0, 0, 0, false) else none)))) else (bif Nat.ble 62 pc then (bif Nat.ble 68 pc then (bif Nat.ble 72 pc then (bif Nat.ble 73 pc then (bif Nat.beq pc 73 then some (.ladd, 74, 0, 0, 0, 0, false) else none) else (bif Nat.beq pc 72 then some (.i2l, 73, 0, 0, 0, 0, false) else none)) else (bif Nat.ble 69 pc then (bif Nat.beq pc 69 then some (.invokevirtual 48, 72, 78, 0, 0, 2239, false) else none) else (bif Nat.beq pc 68 then some (.aload_n 0, 69, 0, 0, 0, 0, false) else none))) else (bif Nat.ble 66 pc then (bif Nat.ble 67 pc then (bif Nat.beq pc 67 then some (.lmul, 68, 0, 0, 0, 0, false) else none) else (bif Nat.beq pc 66 then some (.ladd, 67, 0, 0, 0, 0, false) else none)) else (bif Nat.ble 65 pc then (bif Nat.beq pc 65 then some (.i2l, 66, 0, 0, 0, 0, false) else none) else (bif Nat.beq pc 62 then some (.invokevirtual 45, 65, 77, 0, 0, 2235, false) else none)))) else (bif Nat.ble 56 pc then (bif Nat.ble 60 pc then (bif Nat.ble 61 pc then (bif Nat.beq pc 61 then some (.aload_n 0, 62, 0, 0, 0, 0, false) else none) else (bif Nat.beq pc 60 then some (.lmul, 61, 0, 0, 0, 0, false) else none)) else (bif Nat.ble 59 pc then (bif Nat.beq pc 59 then some (.lload_n 1, 60, 0, 0, 0, 0, false) else none) else (bif Nat.beq pc 56 then some (.ldc2_w 18, 59, 31, 0, 0, 2137, false) else none))) else (bif Nat.ble 50 pc then (bif Nat.ble 53 pc then (bif Nat.beq pc 53 then some (.ldc2_w 18, 56, 31, 0, 0, 2137, false) else none) else (bif Nat.beq pc 50 then some (.goto (-33), 53, 17, 0, 0, 0, false) else none)) else (bif Nat.beq pc 47 then some (.iinc 3 (1), 50, 0, 0, 0, 0, false) else none))))) else (bif Nat.ble 26 pc then (bif Nat.ble 37 pc then (bif Nat.ble 41 pc then (bif Nat.ble 45 pc then (bif Nat.ble 46 pc then (bif Nat.beq pc 46 then some (.lstore_n 1, 47, 0, 0, 0, 0, false) else none) else (bif Nat.beq pc 45 then some (.ladd, 46, 0, 0, 0, 0, false) else none)) else (bif Nat.ble 44 pc then (bif Nat.beq pc 44 then some (.i2l, 45, 0, 0, 0, 0, false) else none) else (bif Nat.beq pc 41 then some (.invokevirtual 42, 44, 76, 0, 0, 2227, false) else none))) else (bif Nat.ble 39 pc then (bif Nat.ble 40 pc then (bif Nat.beq pc 40 then some (.iload_n 3, 41, 0, 0, 0, 0, false) else none) else (bif Nat.beq pc 39 then some (.aload_n 0, 40, 0, 0, 0, 0, false) else none)) else (bif Nat.ble 38 pc then (bif Nat.beq pc 38 then some (.lmul, 39, 0, 0, 0, 0, false) else none) else (bif Nat.beq pc 37 then some (.ladd, 38, 0, 0, 0, 0, false) else none)))) else (bif Nat.ble 31 pc then (bif Nat.ble 33 pc then (bif Nat.ble 36 pc then (bif Nat.beq pc 36 then some (.i2l, 37, 0, 0, 0, 0, false) else none) else (bif Nat.beq pc 33 then some (.invokevirtual 38, 36, 75, 0, 0, 2163, false) else none)) else (bif Nat.ble 32 pc then (bif Nat.beq pc 32 then some (.iload_n 3, 33, 0, 0, 0, 0, false) else none) else (bif Nat.beq pc 31 then some (.aload_n 0, 32, 0, 0, 0, 0, false) else none))) else (bif Nat.ble 29 pc then (bif Nat.ble 30 pc then (bif Nat.beq pc 30 then some (.lmul, 31, 0, 0, 0, 0, false) else none) else (bif Nat.beq pc 29 then some (.lload_n 1, 30, 0, 0, 0, 0, false) else none)) else (bif Nat.beq pc 26 then some (.ldc2_w 18, 29, 31, 0, 0, 2137, false) else none)))) else (bif Nat.ble 14 pc then (bif Nat.ble 17 pc then (bif Nat.ble 20 pc then (bif Nat.ble 23 pc then (bif Nat.beq pc 23 then some (.ldc2_w 18, 26, 31, 0, 0, 2137, false) else none) else (bif Nat.beq pc 20 then some (.if_icmp .ge (33), 23, 53, 0, 0, 0, false) else none)) else (bif Nat.ble 18 pc then (bif Nat.beq pc 18 then some (.bipush (6), 20, 0, 0, 0, 0, false) else none) else (bif Nat.beq pc 17 then some (.iload_n 3, 18, 0, 0, 0, 0, true) else none))) else (bif Nat.ble 15 pc then (bif Nat.ble 16 pc then (bif Nat.beq pc 16 then some (.istore_n 3, 17, 0, 0, 0, 0, false) else none) else (bif Nat.beq pc 15 then some (.iconst (0), 16, 0, 0, 0, 0, false) else none)) else (bif Nat.beq pc 14 then some (.lstore_n 1, 15, 0, 0, 0, 0, false) else none))) else (bif Nat.ble 6 pc then (bif Nat.ble 10 pc then (bif Nat.ble 13 pc then (bif Nat.beq pc 13 then some (.lconst 0, 14, 0, 0, 0, 0, false) else none) else (bif Nat.beq pc 10 then some (.goto (4), 13, 14, 0, 0, 0, false) else none)) else (bif Nat.ble 9 pc then (bif Nat.beq pc 9 then some (.lconst 1, 10, 0, 0, 0, 0, false) else none) else (bif Nat.beq pc 6 then some (.if_icmp .ne (7), 9, 13, 0, 0, 0, false) else none))) else (bif Nat.ble 1 pc then (bif Nat.ble 4 pc then (bif Nat.beq pc 4 then some (.bipush (-9), 6, 0, 0, 0, 0, false) else none) else (bif Nat.beq pc 1 then some (.invokevirtual 35, 4, 74, 0, 0, 2154, false) else none)) else (bif Nat.beq pc 0 then some (.aload_n 0, 1, 0, 0, 0, 0, false) else none)))))
/-- java/lang/Math.floorMod(II)I -/
def kc_Math_floorMod : Nat → Option pj_E := fun pc => bif Nat.ble 20 pc then none else bif Nat.ble 10 pc then (bif Nat.ble 16 pc then (bif Nat.ble 18 pc then (bif Nat.ble 19 pc then (bif Nat.beq pc 19 then some (.ireturn, 20, 0, 0, 0, 0, false) else none) else (bif Nat.beq pc 18 then some (.iload_n 2, 19, 0, 0, 0, 0, false) else none)) else (bif Nat.ble 17 pc then (bif Nat.beq pc 17 then some (.ireturn, 18, 0, 0, 0, 0, false) else none) else (bif Nat.beq pc 16 then some (.iadd, 17, 0, 0, 0, 0, false) else none))) else (bif Nat.ble 14 pc then (bif Nat.ble 15 pc then (bif Nat.beq pc 15 then some (.iload_n 1, 16, 0, 0, 0, 0, false) else none) else (bif Nat.beq pc 14 then some (.iload_n 2, 15, 0, 0, 0, 0, false) else none)) else (bif Nat.ble 11 pc then (bif Nat.beq pc 11 then some (.ifCond .eq (7), 14, 18, 0, 0, 0, false) else none) else (bif Nat.beq pc 10 then some (.iload_n 2, 11, 0, 0, 0, 0, false) else none)))) else (bif Nat.ble 4 pc then (bif Nat.ble 6 pc then (bif Nat.ble 7 pc then (bif Nat.beq pc 7 then some (.ifCond .ge (11), 10, 18, 0, 0, 0, false) else none) else (bif Nat.beq pc 6 then some (.ixor, 7, 0, 0, 0, 0, false) else none)) else (bif Nat.ble 5 pc then (bif Nat.beq pc 5 then some (.iload_n 1, 6, 0, 0, 0, 0, false) else none) else (bif Nat.beq pc 4 then some (.iload_n 0, 5, 0, 0, 0, 0, false) else none))) else (bif Nat.ble 2 pc then (bif Nat.ble 3 pc then (bif Nat.beq pc 3 then some (.istore_n 2, 4, 0, 0, 0, 0, false) else none) else (bif Nat.beq pc 2 then some (.irem, 3, 0, 0, 0, 0, false) else none)) else (bif Nat.ble 1 pc then (bif Nat.beq pc 1 then some (.iload_n 1, 2, 0, 0, 0, 0, false) else none) else (bif Nat.beq pc 0 then some (.iload_n 0, 1, 0, 0, 0, 0, false) else none))))
/-- LieAlgebraLaw.linear(LLieAlgebra;IIIIII)Z -/
def kc_Lw_linear : Nat → Option pj_E := fun pc => bif Nat.ble 346 pc then none else bif Nat.ble 169 pc then (bif Nat.ble 258 pc then (bif Nat.ble 303 pc then (bif Nat.ble 324 pc then (bif Nat.ble 336 pc then (bif Nat.ble 341 pc then (bif Nat.ble 344 pc then (bif Nat.ble 345 pc then (bif Nat.beq pc 345 then some (.ireturn, 346, 0, 0, 0, 0, false) else none) else (bif Nat.beq pc 344 then some (.iconst (0), 345, 0, 0, 0, 0, false) else none)) else (bif Nat.beq pc 341 then some (.goto (4), 344, 345, 0, 0, 0, false) else none)) else (bif Nat.ble 337 pc then (bif Nat.ble 340 pc then (bif Nat.beq pc 340 then some (.iconst (1), 341, 0, 0, 0, 0, false) else none) else (bif Nat.beq pc 337 then some (.if_icmp .ne (7), 340, 344, 0, 0, 0, false) else none)) else (bif Nat.beq pc 336 then some (.iconst (1), 337, 0, 0, 0, 0, false) else none))) else (bif Nat.ble 329 pc then (bif Nat.ble 332 pc then (bif Nat.ble 333 pc then (bif Nat.beq pc 333 then some (.goto (4), 336, 337, 0, 0, 0, false) else none) else (bif Nat.beq pc 332 then some (.iconst (0), 333, 0, 0, 0, 0, false) else none)) else (bif Nat.beq pc 329 then some (.ifCond .ne (7), 332, 336, 0, 0, 0, false) else none)) else (bif Nat.ble 325 pc then (bif Nat.ble 328 pc then (bif Nat.beq pc 328 then some (.iload_n 3, 329, 0, 0, 0, 0, false) else none) else (bif Nat.beq pc 325 then some (.invokevirtual 70, 328, 84, 0, 0, 3086, false) else none)) else (bif Nat.beq pc 324 then some (.iload_n 3, 325, 0, 0, 0, 0, false) else none)))) else (bif Nat.ble 313 pc then (bif Nat.ble 319 pc then (bif Nat.ble 322 pc then (bif Nat.ble 323 pc then (bif Nat.beq pc 323 then some (.iload_n 3, 324, 0, 0, 0, 0, false) else none) else (bif Nat.beq pc 322 then some (.aload_n 0, 323, 0, 0, 0, 0, false) else none)) else (bif Nat.beq pc 319 then some (.if_icmp .gt (25), 322, 344, 0, 0, 0, false) else none)) else (bif Nat.ble 315 pc then (bif Nat.ble 318 pc then (bif Nat.beq pc 318 then some (.iload_n 2, 319, 0, 0, 0, 0, false) else none) else (bif Nat.beq pc 315 then some (.invokevirtual 70, 318, 84, 0, 0, 3086, false) else none)) else (bif Nat.beq pc 313 then some (.iload 4, 315, 0, 0, 0, 0, false) else none))) else (bif Nat.ble 308 pc then (bif Nat.ble 311 pc then (bif Nat.ble 312 pc then (bif Nat.beq pc 312 then some (.iload_n 3, 313, 0, 0, 0, 0, false) else none) else (bif Nat.beq pc 311 then some (.aload_n 0, 312, 0, 0, 0, 0, false) else none)) else (bif Nat.beq pc 308 then some (.if_icmp .lt (36), 311, 344, 0, 0, 0, false) else none)) else (bif Nat.ble 304 pc then (bif Nat.ble 307 pc then (bif Nat.beq pc 307 then some (.iconst (1), 308, 0, 0, 0, 0, false) else none) else (bif Nat.beq pc 304 then some (.invokevirtual 67, 307, 83, 0, 0, 3074, false) else none)) else (bif Nat.beq pc 303 then some (.iload_n 3, 304, 0, 0, 0, 0, false) else none))))) else (bif Nat.ble 279 pc then (bif Nat.ble 293 pc then (bif Nat.ble 298 pc then (bif Nat.ble 299 pc then (bif Nat.ble 302 pc then (bif Nat.beq pc 302 then some (.aload_n 0, 303, 0, 0, 0, 0, false) else none) else (bif Nat.beq pc 299 then some (.if_icmp .lt (45), 302, 344, 0, 0, 0, false) else none)) else (bif Nat.beq pc 298 then some (.iconst (1), 299, 0, 0, 0, 0, false) else none)) else (bif Nat.ble 294 pc then (bif Nat.ble 295 pc then (bif Nat.beq pc 295 then some (.invokevirtual 64, 298, 82, 0, 0, 3066, false) else none) else (bif Nat.beq pc 294 then some (.iload_n 3, 295, 0, 0, 0, 0, false) else none)) else (bif Nat.beq pc 293 then some (.aload_n 0, 294, 0, 0, 0, 0, false) else none))) else (bif Nat.ble 284 pc then (bif Nat.ble 287 pc then (bif Nat.ble 290 pc then (bif Nat.beq pc 290 then some (.goto (21), 293, 311, 0, 0, 0, false) else none) else (bif Nat.beq pc 287 then some (.ifCond .ne (57), 290, 344, 0, 0, 0, false) else none)) else (bif Nat.beq pc 284 then some (.invokevirtual 67, 287, 83, 0, 0, 3074, false) else none)) else (bif Nat.ble 282 pc then (bif Nat.ble 283 pc then (bif Nat.beq pc 283 then some (.iload_n 3, 284, 0, 0, 0, 0, false) else none) else (bif Nat.beq pc 282 then some (.aload_n 0, 283, 0, 0, 0, 0, false) else none)) else (bif Nat.beq pc 279 then some (.if_icmp .ne (65), 282, 344, 0, 0, 0, false) else none)))) else (bif Nat.ble 269 pc then (bif Nat.ble 274 pc then (bif Nat.ble 275 pc then (bif Nat.ble 278 pc then (bif Nat.beq pc 278 then some (.iload_n 2, 279, 0, 0, 0, 0, false) else none) else (bif Nat.beq pc 275 then some (.invokevirtual 64, 278, 82, 0, 0, 3066, false) else none)) else (bif Nat.beq pc 274 then some (.iload_n 3, 275, 0, 0, 0, 0, false) else none)) else (bif Nat.ble 270 pc then (bif Nat.ble 273 pc then (bif Nat.beq pc 273 then some (.aload_n 0, 274, 0, 0, 0, 0, false) else none) else (bif Nat.beq pc 270 then some (.ifCond .ne (23), 273, 293, 0, 0, 0, false) else none)) else (bif Nat.beq pc 269 then some (.iload_n 3, 270, 0, 0, 0, 0, false) else none))) else (bif Nat.ble 262 pc then (bif Nat.ble 263 pc then (bif Nat.ble 266 pc then (bif Nat.beq pc 266 then some (.if_icmp .gt (78), 269, 344, 0, 0, 0, false) else none) else (bif Nat.beq pc 263 then some (.invokevirtual 64, 266, 82, 0, 0, 3066, false) else none)) else (bif Nat.beq pc 262 then some (.iload_n 3, 263, 0, 0, 0, 0, false) else none)) else (bif Nat.ble 261 pc then (bif Nat.beq pc 261 then some (.aload_n 0, 262, 0, 0, 0, 0, false) else none) else (bif Nat.beq pc 258 then some (.invokevirtual 48, 261, 78, 0, 0, 2239, false) else none)))))) else (bif Nat.ble 213 pc then (bif Nat.ble 236 pc then (bif Nat.ble 248 pc then (bif Nat.ble 255 pc then (bif Nat.ble 256 pc then (bif Nat.ble 257 pc then (bif Nat.beq pc 257 then some (.aload_n 0, 258, 0, 0, 0, 0, false) else none) else (bif Nat.beq pc 256 then some (.ireturn, 257, 0, 0, 0, 0, false) else none)) else (bif Nat.beq pc 255 then some (.iconst (0), 256, 0, 0, 0, 0, false) else none)) else (bif Nat.ble 251 pc then (bif Nat.ble 252 pc then (bif Nat.beq pc 252 then some (.if_icmp .ge (5), 255, 257, 0, 0, 0, false) else none) else (bif Nat.beq pc 251 then some (.isub, 252, 0, 0, 0, 0, false) else none)) else (bif Nat.beq pc 248 then some (.invokevirtual 48, 251, 78, 0, 0, 2239, false) else none))) else (bif Nat.ble 243 pc then (bif Nat.ble 246 pc then (bif Nat.ble 247 pc then (bif Nat.beq pc 247 then some (.aload_n 0, 248, 0, 0, 0, 0, false) else none) else (bif Nat.beq pc 246 then some (.iload_n 2, 247, 0, 0, 0, 0, false) else none)) else (bif Nat.beq pc 243 then some (.invokevirtual 54, 246, 80, 0, 0, 3035, false) else none)) else (bif Nat.ble 239 pc then (bif Nat.ble 242 pc then (bif Nat.beq pc 242 then some (.aload_n 0, 243, 0, 0, 0, 0, false) else none) else (bif Nat.beq pc 239 then some (.if_icmp .ne (16), 242, 255, 0, 0, 0, false) else none)) else (bif Nat.beq pc 236 then some (.invokevirtual 61, 239, 81, 0, 0, 3061, false) else none)))) else (bif Nat.ble 226 pc then (bif Nat.ble 229 pc then (bif Nat.ble 231 pc then (bif Nat.ble 233 pc then (bif Nat.beq pc 233 then some (.invokevirtual 32, 236, 73, 0, 0, 2146, false) else none) else (bif Nat.beq pc 231 then some (.iload 5, 233, 0, 0, 0, 0, false) else none)) else (bif Nat.beq pc 229 then some (.iload 4, 231, 0, 0, 0, 0, false) else none)) else (bif Nat.ble 227 pc then (bif Nat.ble 228 pc then (bif Nat.beq pc 228 then some (.aload_n 0, 229, 0, 0, 0, 0, false) else none) else (bif Nat.beq pc 227 then some (.iload_n 3, 228, 0, 0, 0, 0, false) else none)) else (bif Nat.beq pc 226 then some (.aload_n 0, 227, 0, 0, 0, 0, false) else none))) else (bif Nat.ble 219 pc then (bif Nat.ble 221 pc then (bif Nat.ble 223 pc then (bif Nat.beq pc 223 then some (.invokevirtual 61, 226, 81, 0, 0, 3061, false) else none) else (bif Nat.beq pc 221 then some (.iload 5, 223, 0, 0, 0, 0, false) else none)) else (bif Nat.beq pc 219 then some (.iload 7, 221, 0, 0, 0, 0, false) else none)) else (bif Nat.ble 215 pc then (bif Nat.ble 218 pc then (bif Nat.beq pc 218 then some (.aload_n 0, 219, 0, 0, 0, 0, false) else none) else (bif Nat.beq pc 215 then some (.ifCond .ne (40), 218, 255, 0, 0, 0, false) else none)) else (bif Nat.beq pc 213 then some (.iload 8, 215, 0, 0, 0, 0, false) else none))))) else (bif Nat.ble 187 pc then (bif Nat.ble 201 pc then (bif Nat.ble 206 pc then (bif Nat.ble 208 pc then (bif Nat.ble 210 pc then (bif Nat.beq pc 210 then some (.ifCond .eq (47), 213, 257, 0, 0, 0, false) else none) else (bif Nat.beq pc 208 then some (.iload 9, 210, 0, 0, 0, 0, false) else none)) else (bif Nat.beq pc 206 then some (.istore 9, 208, 0, 0, 0, 0, false) else none)) else (bif Nat.ble 202 pc then (bif Nat.ble 205 pc then (bif Nat.beq pc 205 then some (.iconst (0), 206, 0, 0, 0, 0, false) else none) else (bif Nat.beq pc 202 then some (.goto (4), 205, 206, 0, 0, 0, false) else none)) else (bif Nat.beq pc 201 then some (.iconst (1), 202, 0, 0, 0, 0, false) else none))) else (bif Nat.ble 193 pc then (bif Nat.ble 196 pc then (bif Nat.ble 198 pc then (bif Nat.beq pc 198 then some (.if_icmp .ne (7), 201, 205, 0, 0, 0, false) else none) else (bif Nat.beq pc 196 then some (.bipush (-9), 198, 0, 0, 0, 0, false) else none)) else (bif Nat.beq pc 193 then some (.invokevirtual 35, 196, 74, 0, 0, 2154, false) else none)) else (bif Nat.ble 190 pc then (bif Nat.ble 192 pc then (bif Nat.beq pc 192 then some (.aload_n 0, 193, 0, 0, 0, 0, false) else none) else (bif Nat.beq pc 190 then some (.istore 8, 192, 0, 0, 0, 0, false) else none)) else (bif Nat.beq pc 187 then some (.invokestatic 57, 190, 97, 0, 0, 3055, false) else none)))) else (bif Nat.ble 176 pc then (bif Nat.ble 182 pc then (bif Nat.ble 185 pc then (bif Nat.ble 186 pc then (bif Nat.beq pc 186 then some (.iload_n 2, 187, 0, 0, 0, 0, false) else none) else (bif Nat.beq pc 185 then some (.iload_n 1, 186, 0, 0, 0, 0, false) else none)) else (bif Nat.beq pc 182 then some (.invokevirtual 32, 185, 73, 0, 0, 2146, false) else none)) else (bif Nat.ble 177 pc then (bif Nat.ble 179 pc then (bif Nat.beq pc 179 then some (.invokevirtual 32, 182, 73, 0, 0, 2146, false) else none) else (bif Nat.beq pc 177 then some (.iload 4, 179, 0, 0, 0, 0, false) else none)) else (bif Nat.beq pc 176 then some (.iload_n 3, 177, 0, 0, 0, 0, false) else none))) else (bif Nat.ble 172 pc then (bif Nat.ble 173 pc then (bif Nat.ble 175 pc then (bif Nat.beq pc 175 then some (.aload_n 0, 176, 0, 0, 0, 0, false) else none) else (bif Nat.beq pc 173 then some (.iload 5, 175, 0, 0, 0, 0, false) else none)) else (bif Nat.beq pc 172 then some (.aload_n 0, 173, 0, 0, 0, 0, false) else none)) else (bif Nat.ble 171 pc then (bif Nat.beq pc 171 then some (.iconst (1), 172, 0, 0, 0, 0, false) else none) else (bif Nat.beq pc 169 then some (.iload 8, 171, 0, 0, 0, 0, false) else none))))))) else (bif Nat.ble 84 pc then (bif Nat.ble 126 pc then (bif Nat.ble 148 pc then (bif Nat.ble 156 pc then (bif Nat.ble 163 pc then (bif Nat.ble 164 pc then (bif Nat.ble 167 pc then (bif Nat.beq pc 167 then some (.istore 8, 169, 0, 0, 0, 0, false) else none) else (bif Nat.beq pc 164 then some (.invokestatic 57, 167, 97, 0, 0, 3055, false) else none)) else (bif Nat.beq pc 163 then some (.iload_n 2, 164, 0, 0, 0, 0, false) else none)) else (bif Nat.ble 159 pc then (bif Nat.ble 162 pc then (bif Nat.beq pc 162 then some (.iload_n 1, 163, 0, 0, 0, 0, false) else none) else (bif Nat.beq pc 159 then some (.invokevirtual 32, 162, 73, 0, 0, 2146, false) else none)) else (bif Nat.beq pc 156 then some (.invokevirtual 32, 159, 73, 0, 0, 2146, false) else none))) else (bif Nat.ble 152 pc then (bif Nat.ble 153 pc then (bif Nat.ble 155 pc then (bif Nat.beq pc 155 then some (.iload_n 3, 156, 0, 0, 0, 0, false) else none) else (bif Nat.beq pc 153 then some (.iload 5, 155, 0, 0, 0, 0, false) else none)) else (bif Nat.beq pc 152 then some (.aload_n 0, 153, 0, 0, 0, 0, false) else none)) else (bif Nat.ble 149 pc then (bif Nat.ble 150 pc then (bif Nat.beq pc 150 then some (.iload 4, 152, 0, 0, 0, 0, false) else none) else (bif Nat.beq pc 149 then some (.aload_n 0, 150, 0, 0, 0, 0, false) else none)) else (bif Nat.beq pc 148 then some (.iconst (1), 149, 0, 0, 0, 0, false) else none)))) else (bif Nat.ble 136 pc then (bif Nat.ble 140 pc then (bif Nat.ble 142 pc then (bif Nat.ble 145 pc then (bif Nat.beq pc 145 then some (.invokevirtual 32, 148, 73, 0, 0, 2146, false) else none) else (bif Nat.beq pc 142 then some (.invokevirtual 32, 145, 73, 0, 0, 2146, false) else none)) else (bif Nat.beq pc 140 then some (.iload 5, 142, 0, 0, 0, 0, false) else none)) else (bif Nat.ble 137 pc then (bif Nat.ble 138 pc then (bif Nat.beq pc 138 then some (.iload 4, 140, 0, 0, 0, 0, false) else none) else (bif Nat.beq pc 137 then some (.aload_n 0, 138, 0, 0, 0, 0, false) else none)) else (bif Nat.beq pc 136 then some (.iload_n 3, 137, 0, 0, 0, 0, false) else none))) else (bif Nat.ble 133 pc then (bif Nat.ble 134 pc then (bif Nat.ble 135 pc then (bif Nat.beq pc 135 then some (.aload_n 0, 136, 0, 0, 0, 0, false) else none) else (bif Nat.beq pc 134 then some (.ireturn, 135, 0, 0, 0, 0, false) else none)) else (bif Nat.beq pc 133 then some (.iconst (0), 134, 0, 0, 0, 0, false) else none)) else (bif Nat.ble 127 pc then (bif Nat.ble 130 pc then (bif Nat.beq pc 130 then some (.if_icmp .eq (5), 133, 135, 0, 0, 0, false) else none) else (bif Nat.beq pc 127 then some (.invokestatic 14, 130, 92, 0, 0, 2131, false) else none)) else (bif Nat.beq pc 126 then some (.iload_n 1, 127, 0, 0, 0, 0, false) else none))))) else (bif Nat.ble 104 pc then (bif Nat.ble 116 pc then (bif Nat.ble 121 pc then (bif Nat.ble 124 pc then (bif Nat.ble 125 pc then (bif Nat.beq pc 125 then some (.iadd, 126, 0, 0, 0, 0, false) else none) else (bif Nat.beq pc 124 then some (.imul, 125, 0, 0, 0, 0, false) else none)) else (bif Nat.beq pc 121 then some (.invokevirtual 61, 124, 81, 0, 0, 3061, false) else none)) else (bif Nat.ble 117 pc then (bif Nat.ble 119 pc then (bif Nat.beq pc 119 then some (.iload 4, 121, 0, 0, 0, 0, false) else none) else (bif Nat.beq pc 117 then some (.iload 5, 119, 0, 0, 0, 0, false) else none)) else (bif Nat.beq pc 116 then some (.aload_n 0, 117, 0, 0, 0, 0, false) else none))) else (bif Nat.ble 109 pc then (bif Nat.ble 111 pc then (bif Nat.ble 114 pc then (bif Nat.beq pc 114 then some (.iload 6, 116, 0, 0, 0, 0, false) else none) else (bif Nat.beq pc 111 then some (.invokevirtual 61, 114, 81, 0, 0, 3061, false) else none)) else (bif Nat.beq pc 109 then some (.iload 4, 111, 0, 0, 0, 0, false) else none)) else (bif Nat.ble 107 pc then (bif Nat.ble 108 pc then (bif Nat.beq pc 108 then some (.iload_n 3, 109, 0, 0, 0, 0, false) else none) else (bif Nat.beq pc 107 then some (.aload_n 0, 108, 0, 0, 0, 0, false) else none)) else (bif Nat.beq pc 104 then some (.invokevirtual 61, 107, 81, 0, 0, 3061, false) else none)))) else (bif Nat.ble 93 pc then (bif Nat.ble 98 pc then (bif Nat.ble 99 pc then (bif Nat.ble 102 pc then (bif Nat.beq pc 102 then some (.iload 4, 104, 0, 0, 0, 0, false) else none) else (bif Nat.beq pc 99 then some (.invokestatic 57, 102, 97, 0, 0, 3055, false) else none)) else (bif Nat.beq pc 98 then some (.iload_n 2, 99, 0, 0, 0, 0, false) else none)) else (bif Nat.ble 95 pc then (bif Nat.ble 97 pc then (bif Nat.beq pc 97 then some (.iload_n 1, 98, 0, 0, 0, 0, false) else none) else (bif Nat.beq pc 95 then some (.iload 5, 97, 0, 0, 0, 0, false) else none)) else (bif Nat.beq pc 93 then some (.iload 6, 95, 0, 0, 0, 0, false) else none))) else (bif Nat.ble 88 pc then (bif Nat.ble 91 pc then (bif Nat.ble 92 pc then (bif Nat.beq pc 92 then some (.iload_n 3, 93, 0, 0, 0, 0, false) else none) else (bif Nat.beq pc 91 then some (.aload_n 0, 92, 0, 0, 0, 0, false) else none)) else (bif Nat.beq pc 88 then some (.if_icmp .ne (45), 91, 133, 0, 0, 0, false) else none)) else (bif Nat.ble 85 pc then (bif Nat.beq pc 85 then some (.invokevirtual 61, 88, 81, 0, 0, 3061, false) else none) else (bif Nat.beq pc 84 then some (.iload_n 3, 85, 0, 0, 0, 0, false) else none)))))) else (bif Nat.ble 40 pc then (bif Nat.ble 64 pc then (bif Nat.ble 74 pc then (bif Nat.ble 78 pc then (bif Nat.ble 81 pc then (bif Nat.ble 82 pc then (bif Nat.beq pc 82 then some (.iload 4, 84, 0, 0, 0, 0, false) else none) else (bif Nat.beq pc 81 then some (.aload_n 0, 82, 0, 0, 0, 0, false) else none)) else (bif Nat.beq pc 78 then some (.invokevirtual 61, 81, 81, 0, 0, 3061, false) else none)) else (bif Nat.ble 75 pc then (bif Nat.ble 76 pc then (bif Nat.beq pc 76 then some (.iload 4, 78, 0, 0, 0, 0, false) else none) else (bif Nat.beq pc 75 then some (.iload_n 3, 76, 0, 0, 0, 0, false) else none)) else (bif Nat.beq pc 74 then some (.aload_n 0, 75, 0, 0, 0, 0, false) else none))) else (bif Nat.ble 69 pc then (bif Nat.ble 72 pc then (bif Nat.ble 73 pc then (bif Nat.beq pc 73 then some (.ireturn, 74, 0, 0, 0, 0, false) else none) else (bif Nat.beq pc 72 then some (.iconst (0), 73, 0, 0, 0, 0, false) else none)) else (bif Nat.beq pc 69 then some (.if_icmp .eq (5), 72, 74, 0, 0, 0, false) else none)) else (bif Nat.ble 65 pc then (bif Nat.ble 66 pc then (bif Nat.beq pc 66 then some (.invokestatic 57, 69, 97, 0, 0, 3055, false) else none) else (bif Nat.beq pc 65 then some (.iload_n 2, 66, 0, 0, 0, 0, false) else none)) else (bif Nat.beq pc 64 then some (.iload_n 1, 65, 0, 0, 0, 0, false) else none)))) else (bif Nat.ble 52 pc then (bif Nat.ble 57 pc then (bif Nat.ble 59 pc then (bif Nat.ble 61 pc then (bif Nat.beq pc 61 then some (.invokevirtual 32, 64, 73, 0, 0, 2146, false) else none) else (bif Nat.beq pc 59 then some (.iload 4, 61, 0, 0, 0, 0, false) else none)) else (bif Nat.beq pc 57 then some (.iload 5, 59, 0, 0, 0, 0, false) else none)) else (bif Nat.ble 54 pc then (bif Nat.ble 56 pc then (bif Nat.beq pc 56 then some (.aload_n 0, 57, 0, 0, 0, 0, false) else none) else (bif Nat.beq pc 54 then some (.iload 6, 56, 0, 0, 0, 0, false) else none)) else (bif Nat.beq pc 52 then some (.iload 7, 54, 0, 0, 0, 0, false) else none))) else (bif Nat.ble 44 pc then (bif Nat.ble 47 pc then (bif Nat.ble 49 pc then (bif Nat.beq pc 49 then some (.invokevirtual 32, 52, 73, 0, 0, 2146, false) else none) else (bif Nat.beq pc 47 then some (.iload 4, 49, 0, 0, 0, 0, false) else none)) else (bif Nat.beq pc 44 then some (.invokestatic 57, 47, 97, 0, 0, 3055, false) else none)) else (bif Nat.ble 42 pc then (bif Nat.ble 43 pc then (bif Nat.beq pc 43 then some (.iload_n 2, 44, 0, 0, 0, 0, false) else none) else (bif Nat.beq pc 42 then some (.iload_n 1, 43, 0, 0, 0, 0, false) else none)) else (bif Nat.beq pc 40 then some (.iload 5, 42, 0, 0, 0, 0, false) else none))))) else (bif Nat.ble 20 pc then (bif Nat.ble 29 pc then (bif Nat.ble 36 pc then (bif Nat.ble 37 pc then (bif Nat.ble 38 pc then (bif Nat.beq pc 38 then some (.iload 6, 40, 0, 0, 0, 0, false) else none) else (bif Nat.beq pc 37 then some (.iload_n 3, 38, 0, 0, 0, 0, false) else none)) else (bif Nat.beq pc 36 then some (.aload_n 0, 37, 0, 0, 0, 0, false) else none)) else (bif Nat.ble 30 pc then (bif Nat.ble 33 pc then (bif Nat.beq pc 33 then some (.ifCond .ne (39), 36, 72, 0, 0, 0, false) else none) else (bif Nat.beq pc 30 then some (.invokestatic 57, 33, 97, 0, 0, 3055, false) else none)) else (bif Nat.beq pc 29 then some (.iload_n 2, 30, 0, 0, 0, 0, false) else none))) else (bif Nat.ble 24 pc then (bif Nat.ble 25 pc then (bif Nat.ble 28 pc then (bif Nat.beq pc 28 then some (.iload_n 1, 29, 0, 0, 0, 0, false) else none) else (bif Nat.beq pc 25 then some (.invokevirtual 32, 28, 73, 0, 0, 2146, false) else none)) else (bif Nat.beq pc 24 then some (.iload_n 3, 25, 0, 0, 0, 0, false) else none)) else (bif Nat.ble 21 pc then (bif Nat.ble 22 pc then (bif Nat.beq pc 22 then some (.iload 4, 24, 0, 0, 0, 0, false) else none) else (bif Nat.beq pc 21 then some (.aload_n 0, 22, 0, 0, 0, 0, false) else none)) else (bif Nat.beq pc 20 then some (.iconst (1), 21, 0, 0, 0, 0, false) else none)))) else (bif Nat.ble 9 pc then (bif Nat.ble 12 pc then (bif Nat.ble 15 pc then (bif Nat.ble 18 pc then (bif Nat.beq pc 18 then some (.iload 7, 20, 0, 0, 0, 0, false) else none) else (bif Nat.beq pc 15 then some (.ifCond .ne (57), 18, 72, 0, 0, 0, false) else none)) else (bif Nat.beq pc 12 then some (.invokevirtual 32, 15, 73, 0, 0, 2146, false) else none)) else (bif Nat.ble 10 pc then (bif Nat.ble 11 pc then (bif Nat.beq pc 11 then some (.iload_n 3, 12, 0, 0, 0, 0, false) else none) else (bif Nat.beq pc 10 then some (.iload_n 3, 11, 0, 0, 0, 0, false) else none)) else (bif Nat.beq pc 9 then some (.aload_n 0, 10, 0, 0, 0, 0, false) else none))) else (bif Nat.ble 2 pc then (bif Nat.ble 4 pc then (bif Nat.ble 7 pc then (bif Nat.beq pc 7 then some (.istore 7, 9, 0, 0, 0, 0, false) else none) else (bif Nat.beq pc 4 then some (.invokevirtual 32, 7, 73, 0, 0, 2146, false) else none)) else (bif Nat.beq pc 2 then some (.iload 4, 4, 0, 0, 0, 0, false) else none)) else (bif Nat.ble 1 pc then (bif Nat.beq pc 1 then some (.iload_n 3, 2, 0, 0, 0, 0, false) else none) else (bif Nat.beq pc 0 then some (.aload_n 0, 1, 0, 0, 0, 0, false) else none)))))))
/-- LieAlgebraLaw.sum(IIIII)I -/
def kc_Lw_sum : Nat → Option pj_E := fun pc => bif Nat.ble 51 pc then none else bif Nat.ble 25 pc then (bif Nat.ble 35 pc then (bif Nat.ble 42 pc then (bif Nat.ble 48 pc then (bif Nat.ble 50 pc then (bif Nat.beq pc 50 then some (.ireturn, 51, 0, 0, 0, 0, false) else none) else (bif Nat.beq pc 48 then some (.iload 5, 50, 0, 0, 0, 0, false) else none)) else (bif Nat.ble 45 pc then (bif Nat.beq pc 45 then some (.goto (-36), 48, 9, 0, 0, 0, false) else none) else (bif Nat.beq pc 42 then some (.iinc 6 (-1), 45, 0, 0, 0, 0, false) else none))) else (bif Nat.ble 39 pc then (bif Nat.ble 40 pc then (bif Nat.beq pc 40 then some (.istore 5, 42, 0, 0, 0, 0, false) else none) else (bif Nat.beq pc 39 then some (.iadd, 40, 0, 0, 0, 0, false) else none)) else (bif Nat.ble 36 pc then (bif Nat.beq pc 36 then some (.invokestatic 14, 39, 92, 0, 0, 2131, false) else none) else (bif Nat.beq pc 35 then some (.iload_n 3, 36, 0, 0, 0, 0, false) else none)))) else (bif Nat.ble 28 pc then (bif Nat.ble 33 pc then (bif Nat.ble 34 pc then (bif Nat.beq pc 34 then some (.iadd, 35, 0, 0, 0, 0, false) else none) else (bif Nat.beq pc 33 then some (.imul, 34, 0, 0, 0, 0, false) else none)) else (bif Nat.ble 30 pc then (bif Nat.beq pc 30 then some (.invokestatic 8, 33, 98, 0, 0, 3058, false) else none) else (bif Nat.beq pc 28 then some (.iload 6, 30, 0, 0, 0, 0, false) else none))) else (bif Nat.ble 26 pc then (bif Nat.ble 27 pc then (bif Nat.beq pc 27 then some (.iload_n 3, 28, 0, 0, 0, 0, false) else none) else (bif Nat.beq pc 26 then some (.iload_n 2, 27, 0, 0, 0, 0, false) else none)) else (bif Nat.beq pc 25 then some (.iload_n 1, 26, 0, 0, 0, 0, false) else none)))) else (bif Nat.ble 11 pc then (bif Nat.ble 18 pc then (bif Nat.ble 20 pc then (bif Nat.ble 22 pc then (bif Nat.beq pc 22 then some (.invokestatic 8, 25, 98, 0, 0, 3058, false) else none) else (bif Nat.beq pc 20 then some (.iload 6, 22, 0, 0, 0, 0, false) else none)) else (bif Nat.ble 19 pc then (bif Nat.beq pc 19 then some (.iload_n 3, 20, 0, 0, 0, 0, false) else none) else (bif Nat.beq pc 18 then some (.iload_n 0, 19, 0, 0, 0, 0, false) else none))) else (bif Nat.ble 15 pc then (bif Nat.ble 17 pc then (bif Nat.beq pc 17 then some (.imul, 18, 0, 0, 0, 0, false) else none) else (bif Nat.beq pc 15 then some (.iload 5, 17, 0, 0, 0, 0, false) else none)) else (bif Nat.ble 14 pc then (bif Nat.beq pc 14 then some (.iload_n 3, 15, 0, 0, 0, 0, false) else none) else (bif Nat.beq pc 11 then some (.ifCond .lt (37), 14, 48, 0, 0, 0, false) else none)))) else (bif Nat.ble 5 pc then (bif Nat.ble 7 pc then (bif Nat.ble 9 pc then (bif Nat.beq pc 9 then some (.iload 6, 11, 0, 0, 0, 0, true) else none) else (bif Nat.beq pc 7 then some (.istore 6, 9, 0, 0, 0, 0, false) else none)) else (bif Nat.ble 6 pc then (bif Nat.beq pc 6 then some (.isub, 7, 0, 0, 0, 0, false) else none) else (bif Nat.beq pc 5 then some (.iconst (1), 6, 0, 0, 0, 0, false) else none))) else (bif Nat.ble 1 pc then (bif Nat.ble 3 pc then (bif Nat.beq pc 3 then some (.iload 4, 5, 0, 0, 0, 0, false) else none) else (bif Nat.beq pc 1 then some (.istore 5, 3, 0, 0, 0, 0, false) else none)) else (bif Nat.beq pc 0 then some (.iconst (0), 1, 0, 0, 0, 0, false) else none))))
/-- LieAlgebraLaw.digit(III)I -/
def kc_Lw_digit : Nat → Option pj_E := fun pc => bif Nat.ble 25 pc then none else bif Nat.ble 12 pc then (bif Nat.ble 18 pc then (bif Nat.ble 22 pc then (bif Nat.ble 23 pc then (bif Nat.ble 24 pc then (bif Nat.beq pc 24 then some (.ireturn, 25, 0, 0, 0, 0, false) else none) else (bif Nat.beq pc 23 then some (.irem, 24, 0, 0, 0, 0, false) else none)) else (bif Nat.beq pc 22 then some (.iload_n 1, 23, 0, 0, 0, 0, false) else none)) else (bif Nat.ble 21 pc then (bif Nat.beq pc 21 then some (.iload_n 3, 22, 0, 0, 0, 0, false) else none) else (bif Nat.beq pc 18 then some (.goto (-13), 21, 5, 0, 0, 0, false) else none))) else (bif Nat.ble 14 pc then (bif Nat.ble 15 pc then (bif Nat.beq pc 15 then some (.iinc 4 (1), 18, 0, 0, 0, 0, false) else none) else (bif Nat.beq pc 14 then some (.istore_n 3, 15, 0, 0, 0, 0, false) else none)) else (bif Nat.ble 13 pc then (bif Nat.beq pc 13 then some (.idiv, 14, 0, 0, 0, 0, false) else none) else (bif Nat.beq pc 12 then some (.iload_n 1, 13, 0, 0, 0, 0, false) else none)))) else (bif Nat.ble 5 pc then (bif Nat.ble 8 pc then (bif Nat.ble 11 pc then (bif Nat.beq pc 11 then some (.iload_n 3, 12, 0, 0, 0, 0, false) else none) else (bif Nat.beq pc 8 then some (.if_icmp .ge (13), 11, 21, 0, 0, 0, false) else none)) else (bif Nat.ble 7 pc then (bif Nat.beq pc 7 then some (.iload_n 2, 8, 0, 0, 0, 0, false) else none) else (bif Nat.beq pc 5 then some (.iload 4, 7, 0, 0, 0, 0, true) else none))) else (bif Nat.ble 2 pc then (bif Nat.ble 3 pc then (bif Nat.beq pc 3 then some (.istore 4, 5, 0, 0, 0, 0, false) else none) else (bif Nat.beq pc 2 then some (.iconst (0), 3, 0, 0, 0, 0, false) else none)) else (bif Nat.ble 1 pc then (bif Nat.beq pc 1 then some (.istore_n 3, 2, 0, 0, 0, 0, false) else none) else (bif Nat.beq pc 0 then some (.iload_n 0, 1, 0, 0, 0, 0, false) else none))))
/-- LieAlgebraLaw.falls(LLieAlgebra;I)Z -/
def kc_Lw_falls : Nat → Option pj_E := fun pc => bif Nat.ble 213 pc then none else bif Nat.ble 101 pc then (bif Nat.ble 159 pc then (bif Nat.ble 187 pc then (bif Nat.ble 200 pc then (bif Nat.ble 207 pc then (bif Nat.ble 211 pc then (bif Nat.ble 212 pc then (bif Nat.beq pc 212 then some (.ireturn, 213, 0, 0, 0, 0, false) else none) else (bif Nat.beq pc 211 then some (.iconst (0), 212, 0, 0, 0, 0, false) else none)) else (bif Nat.ble 208 pc then (bif Nat.beq pc 208 then some (.goto (4), 211, 212, 0, 0, 0, false) else none) else (bif Nat.beq pc 207 then some (.iconst (1), 208, 0, 0, 0, 0, false) else none))) else (bif Nat.ble 203 pc then (bif Nat.ble 204 pc then (bif Nat.beq pc 204 then some (.if_icmp .ne (7), 207, 211, 0, 0, 0, false) else none) else (bif Nat.beq pc 203 then some (.iconst (0), 204, 0, 0, 0, 0, false) else none)) else (bif Nat.beq pc 200 then some (.goto (4), 203, 204, 0, 0, 0, false) else none))) else (bif Nat.ble 192 pc then (bif Nat.ble 196 pc then (bif Nat.ble 199 pc then (bif Nat.beq pc 199 then some (.iconst (1), 200, 0, 0, 0, 0, false) else none) else (bif Nat.beq pc 196 then some (.ifCond .ne (7), 199, 203, 0, 0, 0, false) else none)) else (bif Nat.ble 195 pc then (bif Nat.beq pc 195 then some (.iload_n 2, 196, 0, 0, 0, 0, false) else none) else (bif Nat.beq pc 192 then some (.goto (12), 195, 204, 0, 0, 0, false) else none))) else (bif Nat.ble 188 pc then (bif Nat.ble 191 pc then (bif Nat.beq pc 191 then some (.iconst (2), 192, 0, 0, 0, 0, false) else none) else (bif Nat.beq pc 188 then some (.ifCond .ne (7), 191, 195, 0, 0, 0, false) else none)) else (bif Nat.beq pc 187 then some (.iload_n 3, 188, 0, 0, 0, 0, false) else none)))) else (bif Nat.ble 172 pc then (bif Nat.ble 179 pc then (bif Nat.ble 183 pc then (bif Nat.ble 185 pc then (bif Nat.beq pc 185 then some (.iload 4, 187, 0, 0, 0, 0, false) else none) else (bif Nat.beq pc 183 then some (.istore 4, 185, 0, 0, 0, 0, false) else none)) else (bif Nat.ble 180 pc then (bif Nat.beq pc 180 then some (.invokevirtual 45, 183, 77, 0, 0, 2235, false) else none) else (bif Nat.beq pc 179 then some (.aload_n 0, 180, 0, 0, 0, 0, false) else none))) else (bif Nat.ble 173 pc then (bif Nat.ble 176 pc then (bif Nat.beq pc 176 then some (.goto (-169), 179, 7, 0, 0, 0, false) else none) else (bif Nat.beq pc 173 then some (.iinc 4 (1), 176, 0, 0, 0, 0, false) else none)) else (bif Nat.beq pc 172 then some (.istore_n 3, 173, 0, 0, 0, 0, false) else none))) else (bif Nat.ble 167 pc then (bif Nat.ble 169 pc then (bif Nat.ble 170 pc then (bif Nat.beq pc 170 then some (.iload 6, 172, 0, 0, 0, 0, false) else none) else (bif Nat.beq pc 169 then some (.istore_n 2, 170, 0, 0, 0, 0, false) else none)) else (bif Nat.beq pc 167 then some (.iload 5, 169, 0, 0, 0, 0, false) else none)) else (bif Nat.ble 161 pc then (bif Nat.ble 164 pc then (bif Nat.beq pc 164 then some (.goto (-83), 167, 81, 0, 0, 0, false) else none) else (bif Nat.beq pc 161 then some (.iinc 8 (1), 164, 0, 0, 0, 0, false) else none)) else (bif Nat.beq pc 159 then some (.istore 7, 161, 0, 0, 0, 0, false) else none))))) else (bif Nat.ble 130 pc then (bif Nat.ble 146 pc then (bif Nat.ble 152 pc then (bif Nat.ble 156 pc then (bif Nat.ble 157 pc then (bif Nat.beq pc 157 then some (.iload 10, 159, 0, 0, 0, 0, false) else none) else (bif Nat.beq pc 156 then some (.ireturn, 157, 0, 0, 0, 0, false) else none)) else (bif Nat.ble 155 pc then (bif Nat.beq pc 155 then some (.iconst (0), 156, 0, 0, 0, 0, false) else none) else (bif Nat.beq pc 152 then some (.if_icmp .eq (5), 155, 157, 0, 0, 0, false) else none))) else (bif Nat.ble 148 pc then (bif Nat.ble 151 pc then (bif Nat.beq pc 151 then some (.iconst (1), 152, 0, 0, 0, 0, false) else none) else (bif Nat.beq pc 148 then some (.invokestatic 8, 151, 98, 0, 0, 3058, false) else none)) else (bif Nat.beq pc 146 then some (.iload 10, 148, 0, 0, 0, 0, false) else none))) else (bif Nat.ble 137 pc then (bif Nat.ble 142 pc then (bif Nat.ble 143 pc then (bif Nat.beq pc 143 then some (.invokevirtual 20, 146, 71, 0, 0, 2138, false) else none) else (bif Nat.beq pc 142 then some (.aload_n 0, 143, 0, 0, 0, 0, false) else none)) else (bif Nat.ble 140 pc then (bif Nat.beq pc 140 then some (.iload 9, 142, 0, 0, 0, 0, false) else none) else (bif Nat.beq pc 137 then some (.if_icmp .le (18), 140, 155, 0, 0, 0, false) else none))) else (bif Nat.ble 133 pc then (bif Nat.ble 135 pc then (bif Nat.beq pc 135 then some (.iload 7, 137, 0, 0, 0, 0, false) else none) else (bif Nat.beq pc 133 then some (.iload 10, 135, 0, 0, 0, 0, false) else none)) else (bif Nat.beq pc 130 then some (.if_icmp .lt (25), 133, 155, 0, 0, 0, false) else none)))) else (bif Nat.ble 113 pc then (bif Nat.ble 121 pc then (bif Nat.ble 127 pc then (bif Nat.ble 129 pc then (bif Nat.beq pc 129 then some (.iconst (1), 130, 0, 0, 0, 0, false) else none) else (bif Nat.beq pc 127 then some (.iload 9, 129, 0, 0, 0, 0, false) else none)) else (bif Nat.ble 124 pc then (bif Nat.beq pc 124 then some (.goto (-23), 127, 101, 0, 0, 0, false) else none) else (bif Nat.beq pc 121 then some (.iinc 10 (1), 124, 0, 0, 0, 0, false) else none))) else (bif Nat.ble 115 pc then (bif Nat.ble 118 pc then (bif Nat.beq pc 118 then some (.ifCond .ne (9), 121, 127, 0, 0, 0, false) else none) else (bif Nat.beq pc 115 then some (.invokestatic 8, 118, 98, 0, 0, 3058, false) else none)) else (bif Nat.beq pc 113 then some (.iload 10, 115, 0, 0, 0, 0, false) else none))) else (bif Nat.ble 107 pc then (bif Nat.ble 109 pc then (bif Nat.ble 110 pc then (bif Nat.beq pc 110 then some (.invokevirtual 20, 113, 71, 0, 0, 2138, false) else none) else (bif Nat.beq pc 109 then some (.aload_n 0, 110, 0, 0, 0, 0, false) else none)) else (bif Nat.beq pc 107 then some (.iload 9, 109, 0, 0, 0, 0, false) else none)) else (bif Nat.ble 103 pc then (bif Nat.ble 104 pc then (bif Nat.beq pc 104 then some (.if_icmp .ge (23), 107, 127, 0, 0, 0, false) else none) else (bif Nat.beq pc 103 then some (.iload_n 1, 104, 0, 0, 0, 0, false) else none)) else (bif Nat.beq pc 101 then some (.iload 10, 103, 0, 0, 0, 0, true) else none)))))) else (bif Nat.ble 49 pc then (bif Nat.ble 75 pc then (bif Nat.ble 88 pc then (bif Nat.ble 93 pc then (bif Nat.ble 98 pc then (bif Nat.ble 99 pc then (bif Nat.beq pc 99 then some (.istore 10, 101, 0, 0, 0, 0, false) else none) else (bif Nat.beq pc 98 then some (.iconst (0), 99, 0, 0, 0, 0, false) else none)) else (bif Nat.ble 96 pc then (bif Nat.beq pc 96 then some (.istore 9, 98, 0, 0, 0, 0, false) else none) else (bif Nat.beq pc 93 then some (.invokevirtual 73, 96, 85, 0, 0, 3097, false) else none))) else (bif Nat.ble 89 pc then (bif Nat.ble 91 pc then (bif Nat.beq pc 91 then some (.iload 8, 93, 0, 0, 0, 0, false) else none) else (bif Nat.beq pc 89 then some (.iload 4, 91, 0, 0, 0, 0, false) else none)) else (bif Nat.beq pc 88 then some (.aload_n 0, 89, 0, 0, 0, 0, false) else none))) else (bif Nat.ble 79 pc then (bif Nat.ble 83 pc then (bif Nat.ble 85 pc then (bif Nat.beq pc 85 then some (.if_icmp .ge (82), 88, 167, 0, 0, 0, false) else none) else (bif Nat.beq pc 83 then some (.iload 5, 85, 0, 0, 0, 0, false) else none)) else (bif Nat.ble 81 pc then (bif Nat.beq pc 81 then some (.iload 8, 83, 0, 0, 0, 0, true) else none) else (bif Nat.beq pc 79 then some (.istore 8, 81, 0, 0, 0, 0, false) else none))) else (bif Nat.ble 76 pc then (bif Nat.ble 78 pc then (bif Nat.beq pc 78 then some (.iconst (0), 79, 0, 0, 0, 0, false) else none) else (bif Nat.beq pc 76 then some (.istore 7, 78, 0, 0, 0, 0, false) else none)) else (bif Nat.beq pc 75 then some (.iconst (-1), 76, 0, 0, 0, 0, false) else none)))) else (bif Nat.ble 61 pc then (bif Nat.ble 68 pc then (bif Nat.ble 73 pc then (bif Nat.ble 74 pc then (bif Nat.beq pc 74 then some (.ireturn, 75, 0, 0, 0, 0, false) else none) else (bif Nat.beq pc 73 then some (.iconst (0), 74, 0, 0, 0, 0, false) else none)) else (bif Nat.ble 70 pc then (bif Nat.beq pc 70 then some (.if_icmp .eq (5), 73, 75, 0, 0, 0, false) else none) else (bif Nat.beq pc 68 then some (.bipush (-9), 70, 0, 0, 0, 0, false) else none))) else (bif Nat.ble 63 pc then (bif Nat.ble 65 pc then (bif Nat.beq pc 65 then some (.invokevirtual 73, 68, 85, 0, 0, 3097, false) else none) else (bif Nat.beq pc 63 then some (.iload 5, 65, 0, 0, 0, 0, false) else none)) else (bif Nat.beq pc 61 then some (.iload 4, 63, 0, 0, 0, 0, false) else none))) else (bif Nat.ble 56 pc then (bif Nat.ble 57 pc then (bif Nat.ble 60 pc then (bif Nat.beq pc 60 then some (.aload_n 0, 61, 0, 0, 0, 0, false) else none) else (bif Nat.beq pc 57 then some (.if_icmp .ne (16), 60, 73, 0, 0, 0, false) else none)) else (bif Nat.beq pc 56 then some (.iload_n 1, 57, 0, 0, 0, 0, false) else none)) else (bif Nat.ble 51 pc then (bif Nat.ble 54 pc then (bif Nat.beq pc 54 then some (.iload 5, 56, 0, 0, 0, 0, false) else none) else (bif Nat.beq pc 51 then some (.ifCond .ne (9), 54, 60, 0, 0, 0, false) else none)) else (bif Nat.beq pc 49 then some (.iload 4, 51, 0, 0, 0, 0, false) else none))))) else (bif Nat.ble 22 pc then (bif Nat.ble 33 pc then (bif Nat.ble 39 pc then (bif Nat.ble 44 pc then (bif Nat.ble 46 pc then (bif Nat.beq pc 46 then some (.if_icmp .gt (27), 49, 73, 0, 0, 0, false) else none) else (bif Nat.beq pc 44 then some (.iload 6, 46, 0, 0, 0, 0, false) else none)) else (bif Nat.ble 42 pc then (bif Nat.beq pc 42 then some (.iload 5, 44, 0, 0, 0, 0, false) else none) else (bif Nat.beq pc 39 then some (.if_icmp .gt (34), 42, 73, 0, 0, 0, false) else none))) else (bif Nat.ble 36 pc then (bif Nat.ble 38 pc then (bif Nat.beq pc 38 then some (.iload_n 3, 39, 0, 0, 0, 0, false) else none) else (bif Nat.beq pc 36 then some (.iload 6, 38, 0, 0, 0, 0, false) else none)) else (bif Nat.beq pc 33 then some (.if_icmp .gt (40), 36, 73, 0, 0, 0, false) else none))) else (bif Nat.ble 28 pc then (bif Nat.ble 30 pc then (bif Nat.ble 32 pc then (bif Nat.beq pc 32 then some (.iload_n 2, 33, 0, 0, 0, 0, false) else none) else (bif Nat.beq pc 30 then some (.iload 5, 32, 0, 0, 0, 0, false) else none)) else (bif Nat.beq pc 28 then some (.istore 6, 30, 0, 0, 0, 0, false) else none)) else (bif Nat.ble 23 pc then (bif Nat.ble 25 pc then (bif Nat.beq pc 25 then some (.invokevirtual 42, 28, 76, 0, 0, 2227, false) else none) else (bif Nat.beq pc 23 then some (.iload 4, 25, 0, 0, 0, 0, false) else none)) else (bif Nat.beq pc 22 then some (.aload_n 0, 23, 0, 0, 0, 0, false) else none)))) else (bif Nat.ble 7 pc then (bif Nat.ble 14 pc then (bif Nat.ble 17 pc then (bif Nat.ble 20 pc then (bif Nat.beq pc 20 then some (.istore 5, 22, 0, 0, 0, 0, false) else none) else (bif Nat.beq pc 17 then some (.invokevirtual 38, 20, 75, 0, 0, 2163, false) else none)) else (bif Nat.ble 15 pc then (bif Nat.beq pc 15 then some (.iload 4, 17, 0, 0, 0, 0, false) else none) else (bif Nat.beq pc 14 then some (.aload_n 0, 15, 0, 0, 0, 0, false) else none))) else (bif Nat.ble 9 pc then (bif Nat.ble 11 pc then (bif Nat.beq pc 11 then some (.if_icmp .ge (168), 14, 179, 0, 0, 0, false) else none) else (bif Nat.beq pc 9 then some (.bipush (10), 11, 0, 0, 0, 0, false) else none)) else (bif Nat.beq pc 7 then some (.iload 4, 9, 0, 0, 0, 0, true) else none))) else (bif Nat.ble 3 pc then (bif Nat.ble 4 pc then (bif Nat.ble 5 pc then (bif Nat.beq pc 5 then some (.istore 4, 7, 0, 0, 0, 0, false) else none) else (bif Nat.beq pc 4 then some (.iconst (0), 5, 0, 0, 0, 0, false) else none)) else (bif Nat.beq pc 3 then some (.istore_n 3, 4, 0, 0, 0, 0, false) else none)) else (bif Nat.ble 1 pc then (bif Nat.ble 2 pc then (bif Nat.beq pc 2 then some (.iload_n 1, 3, 0, 0, 0, 0, false) else none) else (bif Nat.beq pc 1 then some (.istore_n 2, 2, 0, 0, 0, 0, false) else none)) else (bif Nat.beq pc 0 then some (.iload_n 1, 1, 0, 0, 0, 0, false) else none))))))
/-- LieAlgebraLaw.law([I)Z -/
def kc_Lw_law : Nat → Option pj_E := fun pc => bif Nat.ble 634 pc then none else bif Nat.ble 309 pc then (bif Nat.ble 468 pc then (bif Nat.ble 554 pc then (bif Nat.ble 593 pc then (bif Nat.ble 613 pc then (bif Nat.ble 624 pc then (bif Nat.ble 629 pc then (bif Nat.ble 632 pc then (bif Nat.ble 633 pc then (bif Nat.beq pc 633 then some (.ireturn, 634, 0, 0, 0, 0, false) else none) else (bif Nat.beq pc 632 then some (.iconst (0), 633, 0, 0, 0, 0, false) else none)) else (bif Nat.beq pc 629 then some (.goto (4), 632, 633, 0, 0, 0, false) else none)) else (bif Nat.ble 625 pc then (bif Nat.ble 628 pc then (bif Nat.beq pc 628 then some (.iconst (1), 629, 0, 0, 0, 0, false) else none) else (bif Nat.beq pc 625 then some (.ifCond .ne (7), 628, 632, 0, 0, 0, false) else none)) else (bif Nat.beq pc 624 then some (.lcmp, 625, 0, 0, 0, 0, false) else none))) else (bif Nat.ble 618 pc then (bif Nat.ble 619 pc then (bif Nat.ble 622 pc then (bif Nat.beq pc 622 then some (.lload 15, 624, 0, 0, 0, 0, false) else none) else (bif Nat.beq pc 619 then some (.invokestatic 98, 622, 93, 0, 0, 2134, false) else none)) else (bif Nat.beq pc 618 then some (.aload_n 1, 619, 0, 0, 0, 0, false) else none)) else (bif Nat.ble 615 pc then (bif Nat.beq pc 615 then some (.if_icmp .ne (17), 618, 632, 0, 0, 0, false) else none) else (bif Nat.beq pc 613 then some (.bipush (-2), 615, 0, 0, 0, 0, false) else none)))) else (bif Nat.ble 603 pc then (bif Nat.ble 608 pc then (bif Nat.ble 609 pc then (bif Nat.ble 610 pc then (bif Nat.beq pc 610 then some (.invokevirtual 120, 613, 70, 0, 0, 2112, false) else none) else (bif Nat.beq pc 609 then some (.iconst (0), 610, 0, 0, 0, 0, false) else none)) else (bif Nat.beq pc 608 then some (.aload_n 1, 609, 0, 0, 0, 0, false) else none)) else (bif Nat.ble 605 pc then (bif Nat.beq pc 605 then some (.if_icmp .ne (27), 608, 632, 0, 0, 0, false) else none) else (bif Nat.beq pc 603 then some (.bipush (-2), 605, 0, 0, 0, 0, false) else none))) else (bif Nat.ble 596 pc then (bif Nat.ble 599 pc then (bif Nat.ble 600 pc then (bif Nat.beq pc 600 then some (.invokevirtual 117, 603, 68, 0, 0, 2100, false) else none) else (bif Nat.beq pc 599 then some (.aload_n 1, 600, 0, 0, 0, 0, false) else none)) else (bif Nat.beq pc 596 then some (.ifCond .ne (36), 599, 632, 0, 0, 0, false) else none)) else (bif Nat.ble 595 pc then (bif Nat.beq pc 595 then some (.lcmp, 596, 0, 0, 0, 0, false) else none) else (bif Nat.beq pc 593 then some (.lload 15, 595, 0, 0, 0, 0, false) else none))))) else (bif Nat.ble 570 pc then (bif Nat.ble 580 pc then (bif Nat.ble 586 pc then (bif Nat.ble 589 pc then (bif Nat.ble 590 pc then (bif Nat.beq pc 590 then some (.invokestatic 98, 593, 93, 0, 0, 2134, false) else none) else (bif Nat.beq pc 589 then some (.aload_n 1, 590, 0, 0, 0, 0, false) else none)) else (bif Nat.beq pc 586 then some (.if_icmp .ne (46), 589, 632, 0, 0, 0, false) else none)) else (bif Nat.ble 581 pc then (bif Nat.ble 584 pc then (bif Nat.beq pc 584 then some (.iload 4, 586, 0, 0, 0, 0, false) else none) else (bif Nat.beq pc 581 then some (.invokevirtual 120, 584, 70, 0, 0, 2112, false) else none)) else (bif Nat.beq pc 580 then some (.iconst (1), 581, 0, 0, 0, 0, false) else none))) else (bif Nat.ble 575 pc then (bif Nat.ble 576 pc then (bif Nat.ble 579 pc then (bif Nat.beq pc 579 then some (.aload_n 1, 580, 0, 0, 0, 0, false) else none) else (bif Nat.beq pc 576 then some (.ifCond .ne (56), 579, 632, 0, 0, 0, false) else none)) else (bif Nat.beq pc 575 then some (.lcmp, 576, 0, 0, 0, 0, false) else none)) else (bif Nat.ble 573 pc then (bif Nat.beq pc 573 then some (.lload 6, 575, 0, 0, 0, 0, false) else none) else (bif Nat.beq pc 570 then some (.invokestatic 98, 573, 93, 0, 0, 2134, false) else none)))) else (bif Nat.ble 561 pc then (bif Nat.ble 565 pc then (bif Nat.ble 566 pc then (bif Nat.ble 569 pc then (bif Nat.beq pc 569 then some (.aload_n 1, 570, 0, 0, 0, 0, false) else none) else (bif Nat.beq pc 566 then some (.if_icmp .ne (66), 569, 632, 0, 0, 0, false) else none)) else (bif Nat.beq pc 565 then some (.iconst (-1), 566, 0, 0, 0, 0, false) else none)) else (bif Nat.ble 562 pc then (bif Nat.beq pc 562 then some (.invokevirtual 87, 565, 61, 0, 0, 1232, false) else none) else (bif Nat.beq pc 561 then some (.iconst (0), 562, 0, 0, 0, 0, false) else none))) else (bif Nat.ble 556 pc then (bif Nat.ble 557 pc then (bif Nat.ble 559 pc then (bif Nat.beq pc 559 then some (.iload 11, 561, 0, 0, 0, 0, false) else none) else (bif Nat.beq pc 557 then some (.iload 11, 559, 0, 0, 0, 0, false) else none)) else (bif Nat.beq pc 556 then some (.aload_n 1, 557, 0, 0, 0, 0, false) else none)) else (bif Nat.ble 555 pc then (bif Nat.beq pc 555 then some (.ireturn, 556, 0, 0, 0, 0, false) else none) else (bif Nat.beq pc 554 then some (.iconst (0), 555, 0, 0, 0, 0, false) else none)))))) else (bif Nat.ble 510 pc then (bif Nat.ble 531 pc then (bif Nat.ble 541 pc then (bif Nat.ble 548 pc then (bif Nat.ble 550 pc then (bif Nat.ble 551 pc then (bif Nat.beq pc 551 then some (.ifCond .eq (5), 554, 556, 0, 0, 0, false) else none) else (bif Nat.beq pc 550 then some (.lcmp, 551, 0, 0, 0, 0, false) else none)) else (bif Nat.beq pc 548 then some (.lload 6, 550, 0, 0, 0, 0, false) else none)) else (bif Nat.ble 544 pc then (bif Nat.ble 545 pc then (bif Nat.beq pc 545 then some (.invokestatic 98, 548, 93, 0, 0, 2134, false) else none) else (bif Nat.beq pc 544 then some (.aload_n 1, 545, 0, 0, 0, 0, false) else none)) else (bif Nat.beq pc 541 then some (.ifCond .lt (13), 544, 554, 0, 0, 0, false) else none))) else (bif Nat.ble 534 pc then (bif Nat.ble 537 pc then (bif Nat.ble 538 pc then (bif Nat.beq pc 538 then some (.invokevirtual 117, 541, 68, 0, 0, 2100, false) else none) else (bif Nat.beq pc 537 then some (.aload_n 1, 538, 0, 0, 0, 0, false) else none)) else (bif Nat.beq pc 534 then some (.ifCond .ne (20), 537, 554, 0, 0, 0, false) else none)) else (bif Nat.ble 533 pc then (bif Nat.beq pc 533 then some (.lcmp, 534, 0, 0, 0, 0, false) else none) else (bif Nat.beq pc 531 then some (.lload 15, 533, 0, 0, 0, 0, false) else none)))) else (bif Nat.ble 520 pc then (bif Nat.ble 524 pc then (bif Nat.ble 527 pc then (bif Nat.ble 528 pc then (bif Nat.beq pc 528 then some (.invokestatic 98, 531, 93, 0, 0, 2134, false) else none) else (bif Nat.beq pc 527 then some (.aload_n 1, 528, 0, 0, 0, 0, false) else none)) else (bif Nat.beq pc 524 then some (.ifCond .lt (30), 527, 554, 0, 0, 0, false) else none)) else (bif Nat.ble 521 pc then (bif Nat.beq pc 521 then some (.invokevirtual 117, 524, 68, 0, 0, 2100, false) else none) else (bif Nat.beq pc 520 then some (.aload_n 1, 521, 0, 0, 0, 0, false) else none))) else (bif Nat.ble 514 pc then (bif Nat.ble 516 pc then (bif Nat.ble 517 pc then (bif Nat.beq pc 517 then some (.ifCond .ne (37), 520, 554, 0, 0, 0, false) else none) else (bif Nat.beq pc 516 then some (.lcmp, 517, 0, 0, 0, 0, false) else none)) else (bif Nat.beq pc 514 then some (.lload 6, 516, 0, 0, 0, 0, false) else none)) else (bif Nat.ble 511 pc then (bif Nat.beq pc 511 then some (.invokestatic 98, 514, 93, 0, 0, 2134, false) else none) else (bif Nat.beq pc 510 then some (.aload_n 1, 511, 0, 0, 0, 0, false) else none))))) else (bif Nat.ble 488 pc then (bif Nat.ble 497 pc then (bif Nat.ble 502 pc then (bif Nat.ble 504 pc then (bif Nat.ble 507 pc then (bif Nat.beq pc 507 then some (.ifCond .lt (47), 510, 554, 0, 0, 0, false) else none) else (bif Nat.beq pc 504 then some (.invokevirtual 111, 507, 67, 0, 0, 2092, false) else none)) else (bif Nat.beq pc 502 then some (.iload 11, 504, 0, 0, 0, 0, false) else none)) else (bif Nat.ble 499 pc then (bif Nat.ble 500 pc then (bif Nat.beq pc 500 then some (.iload 12, 502, 0, 0, 0, 0, false) else none) else (bif Nat.beq pc 499 then some (.aload_n 1, 500, 0, 0, 0, 0, false) else none)) else (bif Nat.beq pc 497 then some (.lstore 15, 499, 0, 0, 0, 0, false) else none))) else (bif Nat.ble 492 pc then (bif Nat.ble 493 pc then (bif Nat.ble 494 pc then (bif Nat.beq pc 494 then some (.invokestatic 98, 497, 93, 0, 0, 2134, false) else none) else (bif Nat.beq pc 493 then some (.aload_n 1, 494, 0, 0, 0, 0, false) else none)) else (bif Nat.beq pc 492 then some (.ireturn, 493, 0, 0, 0, 0, false) else none)) else (bif Nat.ble 491 pc then (bif Nat.beq pc 491 then some (.iconst (0), 492, 0, 0, 0, 0, false) else none) else (bif Nat.beq pc 488 then some (.if_icmp .eq (5), 491, 493, 0, 0, 0, false) else none)))) else (bif Nat.ble 478 pc then (bif Nat.ble 482 pc then (bif Nat.ble 483 pc then (bif Nat.ble 486 pc then (bif Nat.beq pc 486 then some (.iload 4, 488, 0, 0, 0, 0, false) else none) else (bif Nat.beq pc 483 then some (.invokevirtual 114, 486, 69, 0, 0, 2108, false) else none)) else (bif Nat.beq pc 482 then some (.iconst (1), 483, 0, 0, 0, 0, false) else none)) else (bif Nat.ble 481 pc then (bif Nat.beq pc 481 then some (.aload_n 1, 482, 0, 0, 0, 0, false) else none) else (bif Nat.beq pc 478 then some (.ifCond .ne (13), 481, 491, 0, 0, 0, false) else none))) else (bif Nat.ble 472 pc then (bif Nat.ble 475 pc then (bif Nat.ble 477 pc then (bif Nat.beq pc 477 then some (.lcmp, 478, 0, 0, 0, 0, false) else none) else (bif Nat.beq pc 475 then some (.lload 8, 477, 0, 0, 0, 0, false) else none)) else (bif Nat.beq pc 472 then some (.invokestatic 102, 475, 94, 0, 0, 2151, false) else none)) else (bif Nat.ble 471 pc then (bif Nat.beq pc 471 then some (.aload_n 1, 472, 0, 0, 0, 0, false) else none) else (bif Nat.beq pc 468 then some (.ifCond .lt (23), 471, 491, 0, 0, 0, false) else none))))))) else (bif Nat.ble 384 pc then (bif Nat.ble 423 pc then (bif Nat.ble 444 pc then (bif Nat.ble 456 pc then (bif Nat.ble 461 pc then (bif Nat.ble 463 pc then (bif Nat.ble 465 pc then (bif Nat.beq pc 465 then some (.invokevirtual 111, 468, 67, 0, 0, 2092, false) else none) else (bif Nat.beq pc 463 then some (.iload 12, 465, 0, 0, 0, 0, false) else none)) else (bif Nat.beq pc 461 then some (.iload 11, 463, 0, 0, 0, 0, false) else none)) else (bif Nat.ble 457 pc then (bif Nat.ble 460 pc then (bif Nat.beq pc 460 then some (.aload_n 1, 461, 0, 0, 0, 0, false) else none) else (bif Nat.beq pc 457 then some (.ifCond .ne (34), 460, 491, 0, 0, 0, false) else none)) else (bif Nat.beq pc 456 then some (.lcmp, 457, 0, 0, 0, 0, false) else none))) else (bif Nat.ble 450 pc then (bif Nat.ble 451 pc then (bif Nat.ble 454 pc then (bif Nat.beq pc 454 then some (.lload 6, 456, 0, 0, 0, 0, false) else none) else (bif Nat.beq pc 451 then some (.invokestatic 98, 454, 93, 0, 0, 2134, false) else none)) else (bif Nat.beq pc 450 then some (.aload_n 1, 451, 0, 0, 0, 0, false) else none)) else (bif Nat.ble 447 pc then (bif Nat.beq pc 447 then some (.ifCond .lt (44), 450, 491, 0, 0, 0, false) else none) else (bif Nat.beq pc 444 then some (.invokevirtual 108, 447, 65, 0, 0, 2076, false) else none)))) else (bif Nat.ble 435 pc then (bif Nat.ble 439 pc then (bif Nat.ble 440 pc then (bif Nat.ble 442 pc then (bif Nat.beq pc 442 then some (.iload 14, 444, 0, 0, 0, 0, false) else none) else (bif Nat.beq pc 440 then some (.iload 11, 442, 0, 0, 0, 0, false) else none)) else (bif Nat.beq pc 439 then some (.aload_n 1, 440, 0, 0, 0, 0, false) else none)) else (bif Nat.ble 436 pc then (bif Nat.beq pc 436 then some (.ifCond .ne (55), 439, 491, 0, 0, 0, false) else none) else (bif Nat.beq pc 435 then some (.lcmp, 436, 0, 0, 0, 0, false) else none))) else (bif Nat.ble 429 pc then (bif Nat.ble 430 pc then (bif Nat.ble 433 pc then (bif Nat.beq pc 433 then some (.lload 8, 435, 0, 0, 0, 0, false) else none) else (bif Nat.beq pc 430 then some (.invokestatic 102, 433, 94, 0, 0, 2151, false) else none)) else (bif Nat.beq pc 429 then some (.aload_n 1, 430, 0, 0, 0, 0, false) else none)) else (bif Nat.ble 426 pc then (bif Nat.beq pc 426 then some (.ifCond .lt (65), 429, 491, 0, 0, 0, false) else none) else (bif Nat.beq pc 423 then some (.invokevirtual 108, 426, 65, 0, 0, 2076, false) else none))))) else (bif Nat.ble 401 pc then (bif Nat.ble 409 pc then (bif Nat.ble 418 pc then (bif Nat.ble 419 pc then (bif Nat.ble 421 pc then (bif Nat.beq pc 421 then some (.iload 13, 423, 0, 0, 0, 0, false) else none) else (bif Nat.beq pc 419 then some (.iload 11, 421, 0, 0, 0, 0, false) else none)) else (bif Nat.beq pc 418 then some (.aload_n 1, 419, 0, 0, 0, 0, false) else none)) else (bif Nat.ble 412 pc then (bif Nat.ble 415 pc then (bif Nat.beq pc 415 then some (.goto (-16), 418, 399, 0, 0, 0, false) else none) else (bif Nat.beq pc 412 then some (.iinc 14 (1), 415, 0, 0, 0, 0, false) else none)) else (bif Nat.beq pc 409 then some (.if_icmp .eq (9), 412, 418, 0, 0, 0, false) else none))) else (bif Nat.ble 404 pc then (bif Nat.ble 405 pc then (bif Nat.ble 408 pc then (bif Nat.beq pc 408 then some (.iconst (1), 409, 0, 0, 0, 0, false) else none) else (bif Nat.beq pc 405 then some (.invokestatic 14, 408, 92, 0, 0, 2131, false) else none)) else (bif Nat.beq pc 404 then some (.iload_n 3, 405, 0, 0, 0, 0, false) else none)) else (bif Nat.ble 403 pc then (bif Nat.beq pc 403 then some (.imul, 404, 0, 0, 0, 0, false) else none) else (bif Nat.beq pc 401 then some (.iload 13, 403, 0, 0, 0, 0, false) else none)))) else (bif Nat.ble 394 pc then (bif Nat.ble 396 pc then (bif Nat.ble 397 pc then (bif Nat.ble 399 pc then (bif Nat.beq pc 399 then some (.iload 14, 401, 0, 0, 0, 0, true) else none) else (bif Nat.beq pc 397 then some (.istore 14, 399, 0, 0, 0, 0, false) else none)) else (bif Nat.beq pc 396 then some (.iconst (1), 397, 0, 0, 0, 0, false) else none)) else (bif Nat.ble 395 pc then (bif Nat.beq pc 395 then some (.ireturn, 396, 0, 0, 0, 0, false) else none) else (bif Nat.beq pc 394 then some (.iconst (0), 395, 0, 0, 0, 0, false) else none))) else (bif Nat.ble 388 pc then (bif Nat.ble 390 pc then (bif Nat.ble 391 pc then (bif Nat.beq pc 391 then some (.ifCond .eq (5), 394, 396, 0, 0, 0, false) else none) else (bif Nat.beq pc 390 then some (.lcmp, 391, 0, 0, 0, 0, false) else none)) else (bif Nat.beq pc 388 then some (.lload 6, 390, 0, 0, 0, 0, false) else none)) else (bif Nat.ble 385 pc then (bif Nat.beq pc 385 then some (.invokestatic 98, 388, 93, 0, 0, 2134, false) else none) else (bif Nat.beq pc 384 then some (.aload_n 1, 385, 0, 0, 0, 0, false) else none)))))) else (bif Nat.ble 340 pc then (bif Nat.ble 361 pc then (bif Nat.ble 372 pc then (bif Nat.ble 377 pc then (bif Nat.ble 378 pc then (bif Nat.ble 381 pc then (bif Nat.beq pc 381 then some (.ifCond .lt (13), 384, 394, 0, 0, 0, false) else none) else (bif Nat.beq pc 378 then some (.invokevirtual 105, 381, 64, 0, 0, 2031, false) else none)) else (bif Nat.beq pc 377 then some (.isub, 378, 0, 0, 0, 0, false) else none)) else (bif Nat.ble 374 pc then (bif Nat.ble 375 pc then (bif Nat.beq pc 375 then some (.iload 13, 377, 0, 0, 0, 0, false) else none) else (bif Nat.beq pc 374 then some (.iload_n 3, 375, 0, 0, 0, 0, false) else none)) else (bif Nat.beq pc 372 then some (.iload 12, 374, 0, 0, 0, 0, false) else none))) else (bif Nat.ble 366 pc then (bif Nat.ble 369 pc then (bif Nat.ble 370 pc then (bif Nat.beq pc 370 then some (.iload 11, 372, 0, 0, 0, 0, false) else none) else (bif Nat.beq pc 369 then some (.aload_n 1, 370, 0, 0, 0, 0, false) else none)) else (bif Nat.beq pc 366 then some (.ifCond .eq (28), 369, 394, 0, 0, 0, false) else none)) else (bif Nat.ble 363 pc then (bif Nat.beq pc 363 then some (.invokestatic 90, 366, 99, 0, 0, 3094, false) else none) else (bif Nat.beq pc 361 then some (.iload 4, 363, 0, 0, 0, 0, false) else none)))) else (bif Nat.ble 351 pc then (bif Nat.ble 356 pc then (bif Nat.ble 357 pc then (bif Nat.ble 360 pc then (bif Nat.beq pc 360 then some (.aload_n 1, 361, 0, 0, 0, 0, false) else none) else (bif Nat.beq pc 357 then some (.ifCond .ne (37), 360, 394, 0, 0, 0, false) else none)) else (bif Nat.beq pc 356 then some (.lcmp, 357, 0, 0, 0, 0, false) else none)) else (bif Nat.ble 354 pc then (bif Nat.beq pc 354 then some (.lload 8, 356, 0, 0, 0, 0, false) else none) else (bif Nat.beq pc 351 then some (.invokestatic 102, 354, 94, 0, 0, 2151, false) else none))) else (bif Nat.ble 344 pc then (bif Nat.ble 347 pc then (bif Nat.ble 350 pc then (bif Nat.beq pc 350 then some (.aload_n 1, 351, 0, 0, 0, 0, false) else none) else (bif Nat.beq pc 347 then some (.ifCond .lt (47), 350, 394, 0, 0, 0, false) else none)) else (bif Nat.beq pc 344 then some (.invokevirtual 105, 347, 64, 0, 0, 2031, false) else none)) else (bif Nat.ble 342 pc then (bif Nat.beq pc 342 then some (.iload 13, 344, 0, 0, 0, 0, false) else none) else (bif Nat.beq pc 340 then some (.iload 12, 342, 0, 0, 0, 0, false) else none))))) else (bif Nat.ble 325 pc then (bif Nat.ble 331 pc then (bif Nat.ble 335 pc then (bif Nat.ble 337 pc then (bif Nat.ble 338 pc then (bif Nat.beq pc 338 then some (.iload 11, 340, 0, 0, 0, 0, false) else none) else (bif Nat.beq pc 337 then some (.aload_n 1, 338, 0, 0, 0, 0, false) else none)) else (bif Nat.beq pc 335 then some (.istore 13, 337, 0, 0, 0, 0, false) else none)) else (bif Nat.ble 334 pc then (bif Nat.beq pc 334 then some (.iadd, 335, 0, 0, 0, 0, false) else none) else (bif Nat.beq pc 331 then some (.invokestatic 81, 334, 90, 0, 0, 2124, false) else none))) else (bif Nat.ble 328 pc then (bif Nat.ble 329 pc then (bif Nat.ble 330 pc then (bif Nat.beq pc 330 then some (.isub, 331, 0, 0, 0, 0, false) else none) else (bif Nat.beq pc 329 then some (.iconst (1), 330, 0, 0, 0, 0, false) else none)) else (bif Nat.beq pc 328 then some (.iload_n 3, 329, 0, 0, 0, 0, false) else none)) else (bif Nat.ble 327 pc then (bif Nat.beq pc 327 then some (.ishr, 328, 0, 0, 0, 0, false) else none) else (bif Nat.beq pc 325 then some (.bipush (6), 327, 0, 0, 0, 0, false) else none)))) else (bif Nat.ble 317 pc then (bif Nat.ble 320 pc then (bif Nat.ble 322 pc then (bif Nat.ble 323 pc then (bif Nat.beq pc 323 then some (.iload 10, 325, 0, 0, 0, 0, false) else none) else (bif Nat.beq pc 322 then some (.iconst (1), 323, 0, 0, 0, 0, false) else none)) else (bif Nat.beq pc 320 then some (.istore 12, 322, 0, 0, 0, 0, false) else none)) else (bif Nat.ble 319 pc then (bif Nat.beq pc 319 then some (.irem, 320, 0, 0, 0, 0, false) else none) else (bif Nat.beq pc 317 then some (.iload 4, 319, 0, 0, 0, 0, false) else none))) else (bif Nat.ble 312 pc then (bif Nat.ble 313 pc then (bif Nat.ble 316 pc then (bif Nat.beq pc 316 then some (.iadd, 317, 0, 0, 0, 0, false) else none) else (bif Nat.beq pc 313 then some (.invokestatic 81, 316, 90, 0, 0, 2124, false) else none)) else (bif Nat.beq pc 312 then some (.isub, 313, 0, 0, 0, 0, false) else none)) else (bif Nat.ble 311 pc then (bif Nat.beq pc 311 then some (.iconst (1), 312, 0, 0, 0, 0, false) else none) else (bif Nat.beq pc 309 then some (.iload 4, 311, 0, 0, 0, 0, false) else none)))))))) else (bif Nat.ble 150 pc then (bif Nat.ble 226 pc then (bif Nat.ble 269 pc then (bif Nat.ble 290 pc then (bif Nat.ble 301 pc then (bif Nat.ble 305 pc then (bif Nat.ble 307 pc then (bif Nat.ble 308 pc then (bif Nat.beq pc 308 then some (.ishr, 309, 0, 0, 0, 0, false) else none) else (bif Nat.beq pc 307 then some (.iconst (3), 308, 0, 0, 0, 0, false) else none)) else (bif Nat.beq pc 305 then some (.iload 10, 307, 0, 0, 0, 0, false) else none)) else (bif Nat.ble 303 pc then (bif Nat.ble 304 pc then (bif Nat.beq pc 304 then some (.iadd, 305, 0, 0, 0, 0, false) else none) else (bif Nat.beq pc 303 then some (.iconst (1), 304, 0, 0, 0, 0, false) else none)) else (bif Nat.beq pc 301 then some (.iload 11, 303, 0, 0, 0, 0, false) else none))) else (bif Nat.ble 294 pc then (bif Nat.ble 296 pc then (bif Nat.ble 299 pc then (bif Nat.beq pc 299 then some (.istore 11, 301, 0, 0, 0, 0, false) else none) else (bif Nat.beq pc 296 then some (.invokestatic 81, 299, 90, 0, 0, 2124, false) else none)) else (bif Nat.beq pc 294 then some (.iload 4, 296, 0, 0, 0, 0, false) else none)) else (bif Nat.ble 292 pc then (bif Nat.beq pc 292 then some (.iload 10, 294, 0, 0, 0, 0, false) else none) else (bif Nat.beq pc 290 then some (.istore 10, 292, 0, 0, 0, 0, false) else none)))) else (bif Nat.ble 279 pc then (bif Nat.ble 284 pc then (bif Nat.ble 285 pc then (bif Nat.ble 287 pc then (bif Nat.beq pc 287 then some (.invokestatic 77, 290, 89, 0, 0, 2121, false) else none) else (bif Nat.beq pc 285 then some (.bipush (15), 287, 0, 0, 0, 0, false) else none)) else (bif Nat.beq pc 284 then some (.aload_n 0, 285, 0, 0, 0, 0, false) else none)) else (bif Nat.ble 282 pc then (bif Nat.beq pc 282 then some (.lstore 8, 284, 0, 0, 0, 0, false) else none) else (bif Nat.beq pc 279 then some (.invokestatic 102, 282, 94, 0, 0, 2151, false) else none))) else (bif Nat.ble 273 pc then (bif Nat.ble 276 pc then (bif Nat.ble 278 pc then (bif Nat.beq pc 278 then some (.aload_n 1, 279, 0, 0, 0, 0, false) else none) else (bif Nat.beq pc 276 then some (.lstore 6, 278, 0, 0, 0, 0, false) else none)) else (bif Nat.beq pc 273 then some (.invokestatic 98, 276, 93, 0, 0, 2134, false) else none)) else (bif Nat.ble 272 pc then (bif Nat.beq pc 272 then some (.aload_n 1, 273, 0, 0, 0, 0, false) else none) else (bif Nat.beq pc 269 then some (.goto (-72), 272, 197, 0, 0, 0, false) else none))))) else (bif Nat.ble 246 pc then (bif Nat.ble 255 pc then (bif Nat.ble 264 pc then (bif Nat.ble 265 pc then (bif Nat.ble 266 pc then (bif Nat.beq pc 266 then some (.iinc 6 (1), 269, 0, 0, 0, 0, false) else none) else (bif Nat.beq pc 265 then some (.ireturn, 266, 0, 0, 0, 0, false) else none)) else (bif Nat.beq pc 264 then some (.iconst (0), 265, 0, 0, 0, 0, false) else none)) else (bif Nat.ble 258 pc then (bif Nat.ble 261 pc then (bif Nat.beq pc 261 then some (.ifCond .ne (5), 264, 266, 0, 0, 0, false) else none) else (bif Nat.beq pc 258 then some (.invokestatic 94, 261, 96, 0, 0, 3052, false) else none)) else (bif Nat.beq pc 255 then some (.invokestatic 81, 258, 90, 0, 0, 2124, false) else none))) else (bif Nat.ble 251 pc then (bif Nat.ble 253 pc then (bif Nat.ble 254 pc then (bif Nat.beq pc 254 then some (.iload_n 3, 255, 0, 0, 0, 0, false) else none) else (bif Nat.beq pc 253 then some (.ishr, 254, 0, 0, 0, 0, false) else none)) else (bif Nat.beq pc 251 then some (.bipush (20), 253, 0, 0, 0, 0, false) else none)) else (bif Nat.ble 249 pc then (bif Nat.beq pc 249 then some (.iload 7, 251, 0, 0, 0, 0, false) else none) else (bif Nat.beq pc 246 then some (.invokestatic 81, 249, 90, 0, 0, 2124, false) else none)))) else (bif Nat.ble 236 pc then (bif Nat.ble 241 pc then (bif Nat.ble 243 pc then (bif Nat.ble 244 pc then (bif Nat.beq pc 244 then some (.iload 5, 246, 0, 0, 0, 0, false) else none) else (bif Nat.beq pc 243 then some (.ishr, 244, 0, 0, 0, 0, false) else none)) else (bif Nat.beq pc 241 then some (.bipush (10), 243, 0, 0, 0, 0, false) else none)) else (bif Nat.ble 239 pc then (bif Nat.beq pc 239 then some (.iload 7, 241, 0, 0, 0, 0, false) else none) else (bif Nat.beq pc 236 then some (.invokestatic 81, 239, 90, 0, 0, 2124, false) else none))) else (bif Nat.ble 230 pc then (bif Nat.ble 231 pc then (bif Nat.ble 234 pc then (bif Nat.beq pc 234 then some (.iload 5, 236, 0, 0, 0, 0, false) else none) else (bif Nat.beq pc 231 then some (.invokestatic 77, 234, 89, 0, 0, 2121, false) else none)) else (bif Nat.beq pc 230 then some (.iadd, 231, 0, 0, 0, 0, false) else none)) else (bif Nat.ble 228 pc then (bif Nat.beq pc 228 then some (.iload 6, 230, 0, 0, 0, 0, false) else none) else (bif Nat.beq pc 226 then some (.bipush (12), 228, 0, 0, 0, 0, false) else none)))))) else (bif Nat.ble 189 pc then (bif Nat.ble 206 pc then (bif Nat.ble 215 pc then (bif Nat.ble 220 pc then (bif Nat.ble 222 pc then (bif Nat.ble 225 pc then (bif Nat.beq pc 225 then some (.aload_n 0, 226, 0, 0, 0, 0, false) else none) else (bif Nat.beq pc 222 then some (.invokestatic 81, 225, 90, 0, 0, 2124, false) else none)) else (bif Nat.beq pc 220 then some (.iload 5, 222, 0, 0, 0, 0, false) else none)) else (bif Nat.ble 216 pc then (bif Nat.ble 218 pc then (bif Nat.beq pc 218 then some (.iload 7, 220, 0, 0, 0, 0, false) else none) else (bif Nat.beq pc 216 then some (.iload 4, 218, 0, 0, 0, 0, false) else none)) else (bif Nat.beq pc 215 then some (.iload_n 3, 216, 0, 0, 0, 0, false) else none))) else (bif Nat.ble 209 pc then (bif Nat.ble 212 pc then (bif Nat.ble 214 pc then (bif Nat.beq pc 214 then some (.aload_n 1, 215, 0, 0, 0, 0, false) else none) else (bif Nat.beq pc 212 then some (.istore 7, 214, 0, 0, 0, 0, false) else none)) else (bif Nat.beq pc 209 then some (.invokestatic 77, 212, 89, 0, 0, 2121, false) else none)) else (bif Nat.ble 208 pc then (bif Nat.beq pc 208 then some (.iadd, 209, 0, 0, 0, 0, false) else none) else (bif Nat.beq pc 206 then some (.iload 6, 208, 0, 0, 0, 0, false) else none)))) else (bif Nat.ble 197 pc then (bif Nat.ble 200 pc then (bif Nat.ble 203 pc then (bif Nat.ble 204 pc then (bif Nat.beq pc 204 then some (.bipush (9), 206, 0, 0, 0, 0, false) else none) else (bif Nat.beq pc 203 then some (.aload_n 0, 204, 0, 0, 0, 0, false) else none)) else (bif Nat.beq pc 200 then some (.if_icmp .ge (72), 203, 272, 0, 0, 0, false) else none)) else (bif Nat.ble 199 pc then (bif Nat.beq pc 199 then some (.iconst (3), 200, 0, 0, 0, 0, false) else none) else (bif Nat.beq pc 197 then some (.iload 6, 199, 0, 0, 0, 0, true) else none))) else (bif Nat.ble 193 pc then (bif Nat.ble 194 pc then (bif Nat.ble 195 pc then (bif Nat.beq pc 195 then some (.istore 6, 197, 0, 0, 0, 0, false) else none) else (bif Nat.beq pc 194 then some (.iconst (0), 195, 0, 0, 0, 0, false) else none)) else (bif Nat.beq pc 193 then some (.ireturn, 194, 0, 0, 0, 0, false) else none)) else (bif Nat.ble 192 pc then (bif Nat.beq pc 192 then some (.iconst (0), 193, 0, 0, 0, 0, false) else none) else (bif Nat.beq pc 189 then some (.ifCond .ne (5), 192, 194, 0, 0, 0, false) else none))))) else (bif Nat.ble 166 pc then (bif Nat.ble 177 pc then (bif Nat.ble 183 pc then (bif Nat.ble 184 pc then (bif Nat.ble 186 pc then (bif Nat.beq pc 186 then some (.invokestatic 90, 189, 99, 0, 0, 3094, false) else none) else (bif Nat.beq pc 184 then some (.iload 4, 186, 0, 0, 0, 0, false) else none)) else (bif Nat.beq pc 183 then some (.aload_n 1, 184, 0, 0, 0, 0, false) else none)) else (bif Nat.ble 180 pc then (bif Nat.beq pc 180 then some (.goto (-93), 183, 87, 0, 0, 0, false) else none) else (bif Nat.beq pc 177 then some (.iinc 6 (1), 180, 0, 0, 0, 0, false) else none))) else (bif Nat.ble 171 pc then (bif Nat.ble 173 pc then (bif Nat.ble 176 pc then (bif Nat.beq pc 176 then some (.pop, 177, 0, 0, 0, 0, false) else none) else (bif Nat.beq pc 173 then some (.invokevirtual 87, 176, 61, 0, 0, 1232, false) else none)) else (bif Nat.beq pc 171 then some (.iload 8, 173, 0, 0, 0, 0, false) else none)) else (bif Nat.ble 168 pc then (bif Nat.beq pc 168 then some (.invokestatic 81, 171, 90, 0, 0, 2124, false) else none) else (bif Nat.beq pc 166 then some (.iload 4, 168, 0, 0, 0, 0, false) else none)))) else (bif Nat.ble 157 pc then (bif Nat.ble 162 pc then (bif Nat.ble 164 pc then (bif Nat.ble 165 pc then (bif Nat.beq pc 165 then some (.ishr, 166, 0, 0, 0, 0, false) else none) else (bif Nat.beq pc 164 then some (.iconst (5), 165, 0, 0, 0, 0, false) else none)) else (bif Nat.beq pc 162 then some (.iload 7, 164, 0, 0, 0, 0, false) else none)) else (bif Nat.ble 159 pc then (bif Nat.beq pc 159 then some (.invokestatic 81, 162, 90, 0, 0, 2124, false) else none) else (bif Nat.beq pc 157 then some (.iload 4, 159, 0, 0, 0, 0, false) else none))) else (bif Nat.ble 153 pc then (bif Nat.ble 155 pc then (bif Nat.ble 156 pc then (bif Nat.beq pc 156 then some (.ishr, 157, 0, 0, 0, 0, false) else none) else (bif Nat.beq pc 155 then some (.iconst (2), 156, 0, 0, 0, 0, false) else none)) else (bif Nat.beq pc 153 then some (.iload 7, 155, 0, 0, 0, 0, false) else none)) else (bif Nat.ble 152 pc then (bif Nat.beq pc 152 then some (.aload_n 1, 153, 0, 0, 0, 0, false) else none) else (bif Nat.beq pc 150 then some (.istore 8, 152, 0, 0, 0, 0, false) else none))))))) else (bif Nat.ble 71 pc then (bif Nat.ble 108 pc then (bif Nat.ble 130 pc then (bif Nat.ble 137 pc then (bif Nat.ble 144 pc then (bif Nat.ble 145 pc then (bif Nat.ble 147 pc then (bif Nat.beq pc 147 then some (.invokestatic 81, 150, 90, 0, 0, 2124, false) else none) else (bif Nat.beq pc 145 then some (.iload 5, 147, 0, 0, 0, 0, false) else none)) else (bif Nat.beq pc 144 then some (.ishr, 145, 0, 0, 0, 0, false) else none)) else (bif Nat.ble 140 pc then (bif Nat.ble 142 pc then (bif Nat.beq pc 142 then some (.bipush (8), 144, 0, 0, 0, 0, false) else none) else (bif Nat.beq pc 140 then some (.iload 7, 142, 0, 0, 0, 0, false) else none)) else (bif Nat.beq pc 137 then some (.goto (13), 140, 150, 0, 0, 0, false) else none))) else (bif Nat.ble 132 pc then (bif Nat.ble 133 pc then (bif Nat.ble 136 pc then (bif Nat.beq pc 136 then some (.iconst (0), 137, 0, 0, 0, 0, false) else none) else (bif Nat.beq pc 133 then some (.if_icmp .ne (7), 136, 140, 0, 0, 0, false) else none)) else (bif Nat.beq pc 132 then some (.iconst (1), 133, 0, 0, 0, 0, false) else none)) else (bif Nat.ble 131 pc then (bif Nat.beq pc 131 then some (.iand, 132, 0, 0, 0, 0, false) else none) else (bif Nat.beq pc 130 then some (.iconst (3), 131, 0, 0, 0, 0, false) else none)))) else (bif Nat.ble 117 pc then (bif Nat.ble 122 pc then (bif Nat.ble 125 pc then (bif Nat.ble 128 pc then (bif Nat.beq pc 128 then some (.iload 7, 130, 0, 0, 0, 0, false) else none) else (bif Nat.beq pc 125 then some (.goto (25), 128, 150, 0, 0, 0, false) else none)) else (bif Nat.beq pc 122 then some (.invokestatic 29, 125, 91, 0, 0, 2128, false) else none)) else (bif Nat.ble 119 pc then (bif Nat.beq pc 119 then some (.invokestatic 81, 122, 90, 0, 0, 2124, false) else none) else (bif Nat.beq pc 117 then some (.iload 4, 119, 0, 0, 0, 0, false) else none))) else (bif Nat.ble 112 pc then (bif Nat.ble 114 pc then (bif Nat.ble 116 pc then (bif Nat.beq pc 116 then some (.ishr, 117, 0, 0, 0, 0, false) else none) else (bif Nat.beq pc 114 then some (.bipush (8), 116, 0, 0, 0, 0, false) else none)) else (bif Nat.beq pc 112 then some (.iload 7, 114, 0, 0, 0, 0, false) else none)) else (bif Nat.ble 111 pc then (bif Nat.beq pc 111 then some (.iload_n 3, 112, 0, 0, 0, 0, false) else none) else (bif Nat.beq pc 108 then some (.ifCond .ne (20), 111, 128, 0, 0, 0, false) else none))))) else (bif Nat.ble 89 pc then (bif Nat.ble 98 pc then (bif Nat.ble 104 pc then (bif Nat.ble 106 pc then (bif Nat.ble 107 pc then (bif Nat.beq pc 107 then some (.iand, 108, 0, 0, 0, 0, false) else none) else (bif Nat.beq pc 106 then some (.iconst (3), 107, 0, 0, 0, 0, false) else none)) else (bif Nat.beq pc 104 then some (.iload 7, 106, 0, 0, 0, 0, false) else none)) else (bif Nat.ble 99 pc then (bif Nat.ble 102 pc then (bif Nat.beq pc 102 then some (.istore 7, 104, 0, 0, 0, 0, false) else none) else (bif Nat.beq pc 99 then some (.invokestatic 77, 102, 89, 0, 0, 2121, false) else none)) else (bif Nat.beq pc 98 then some (.iadd, 99, 0, 0, 0, 0, false) else none))) else (bif Nat.ble 94 pc then (bif Nat.ble 95 pc then (bif Nat.ble 96 pc then (bif Nat.beq pc 96 then some (.iload 6, 98, 0, 0, 0, 0, false) else none) else (bif Nat.beq pc 95 then some (.iconst (1), 96, 0, 0, 0, 0, false) else none)) else (bif Nat.beq pc 94 then some (.aload_n 0, 95, 0, 0, 0, 0, false) else none)) else (bif Nat.ble 91 pc then (bif Nat.beq pc 91 then some (.if_icmp .ge (92), 94, 183, 0, 0, 0, false) else none) else (bif Nat.beq pc 89 then some (.bipush (8), 91, 0, 0, 0, 0, false) else none)))) else (bif Nat.ble 82 pc then (bif Nat.ble 84 pc then (bif Nat.ble 85 pc then (bif Nat.ble 87 pc then (bif Nat.beq pc 87 then some (.iload 6, 89, 0, 0, 0, 0, true) else none) else (bif Nat.beq pc 85 then some (.istore 6, 87, 0, 0, 0, 0, false) else none)) else (bif Nat.beq pc 84 then some (.iconst (0), 85, 0, 0, 0, 0, false) else none)) else (bif Nat.ble 83 pc then (bif Nat.beq pc 83 then some (.ireturn, 84, 0, 0, 0, 0, false) else none) else (bif Nat.beq pc 82 then some (.iconst (0), 83, 0, 0, 0, 0, false) else none))) else (bif Nat.ble 74 pc then (bif Nat.ble 77 pc then (bif Nat.ble 79 pc then (bif Nat.beq pc 79 then some (.if_icmp .eq (5), 82, 84, 0, 0, 0, false) else none) else (bif Nat.beq pc 77 then some (.iload 5, 79, 0, 0, 0, 0, false) else none)) else (bif Nat.beq pc 74 then some (.invokevirtual 84, 77, 59, 0, 0, 1198, false) else none)) else (bif Nat.ble 72 pc then (bif Nat.beq pc 72 then some (.iload 4, 74, 0, 0, 0, 0, false) else none) else (bif Nat.beq pc 71 then some (.iload_n 3, 72, 0, 0, 0, 0, false) else none)))))) else (bif Nat.ble 36 pc then (bif Nat.ble 53 pc then (bif Nat.ble 60 pc then (bif Nat.ble 65 pc then (bif Nat.ble 68 pc then (bif Nat.ble 70 pc then (bif Nat.beq pc 70 then some (.aload_n 1, 71, 0, 0, 0, 0, false) else none) else (bif Nat.beq pc 68 then some (.istore 5, 70, 0, 0, 0, 0, false) else none)) else (bif Nat.beq pc 65 then some (.invokestatic 29, 68, 91, 0, 0, 2128, false) else none)) else (bif Nat.ble 62 pc then (bif Nat.ble 63 pc then (bif Nat.beq pc 63 then some (.iload 4, 65, 0, 0, 0, 0, false) else none) else (bif Nat.beq pc 62 then some (.iload_n 3, 63, 0, 0, 0, 0, false) else none)) else (bif Nat.beq pc 60 then some (.istore 4, 62, 0, 0, 0, 0, false) else none))) else (bif Nat.ble 55 pc then (bif Nat.ble 56 pc then (bif Nat.ble 59 pc then (bif Nat.beq pc 59 then some (.iadd, 60, 0, 0, 0, 0, false) else none) else (bif Nat.beq pc 56 then some (.invokestatic 81, 59, 90, 0, 0, 2124, false) else none)) else (bif Nat.beq pc 55 then some (.iconst (4), 56, 0, 0, 0, 0, false) else none)) else (bif Nat.ble 54 pc then (bif Nat.beq pc 54 then some (.ishr, 55, 0, 0, 0, 0, false) else none) else (bif Nat.beq pc 53 then some (.iconst (3), 54, 0, 0, 0, 0, false) else none)))) else (bif Nat.ble 46 pc then (bif Nat.ble 48 pc then (bif Nat.ble 49 pc then (bif Nat.ble 50 pc then (bif Nat.beq pc 50 then some (.invokestatic 77, 53, 89, 0, 0, 2121, false) else none) else (bif Nat.beq pc 49 then some (.iconst (0), 50, 0, 0, 0, 0, false) else none)) else (bif Nat.beq pc 48 then some (.aload_n 0, 49, 0, 0, 0, 0, false) else none)) else (bif Nat.ble 47 pc then (bif Nat.beq pc 47 then some (.iconst (2), 48, 0, 0, 0, 0, false) else none) else (bif Nat.beq pc 46 then some (.istore_n 3, 47, 0, 0, 0, 0, false) else none))) else (bif Nat.ble 40 pc then (bif Nat.ble 41 pc then (bif Nat.ble 44 pc then (bif Nat.beq pc 44 then some (.bipush (7), 46, 0, 0, 0, 0, false) else none) else (bif Nat.beq pc 41 then some (.goto (5), 44, 46, 0, 0, 0, false) else none)) else (bif Nat.beq pc 40 then some (.iconst (5), 41, 0, 0, 0, 0, false) else none)) else (bif Nat.ble 37 pc then (bif Nat.beq pc 37 then some (.if_icmp .ne (7), 40, 44, 0, 0, 0, false) else none) else (bif Nat.beq pc 36 then some (.iconst (2), 37, 0, 0, 0, 0, false) else none))))) else (bif Nat.ble 18 pc then (bif Nat.ble 27 pc then (bif Nat.ble 31 pc then (bif Nat.ble 32 pc then (bif Nat.ble 35 pc then (bif Nat.beq pc 35 then some (.iload_n 2, 36, 0, 0, 0, 0, false) else none) else (bif Nat.beq pc 32 then some (.goto (14), 35, 46, 0, 0, 0, false) else none)) else (bif Nat.beq pc 31 then some (.iconst (3), 32, 0, 0, 0, 0, false) else none)) else (bif Nat.ble 28 pc then (bif Nat.beq pc 28 then some (.if_icmp .ne (7), 31, 35, 0, 0, 0, false) else none) else (bif Nat.beq pc 27 then some (.iconst (1), 28, 0, 0, 0, 0, false) else none))) else (bif Nat.ble 22 pc then (bif Nat.ble 23 pc then (bif Nat.ble 26 pc then (bif Nat.beq pc 26 then some (.iload_n 2, 27, 0, 0, 0, 0, false) else none) else (bif Nat.beq pc 23 then some (.goto (23), 26, 46, 0, 0, 0, false) else none)) else (bif Nat.beq pc 22 then some (.iconst (2), 23, 0, 0, 0, 0, false) else none)) else (bif Nat.ble 19 pc then (bif Nat.beq pc 19 then some (.ifCond .ne (7), 22, 26, 0, 0, 0, false) else none) else (bif Nat.beq pc 18 then some (.iload_n 2, 19, 0, 0, 0, 0, false) else none)))) else (bif Nat.ble 9 pc then (bif Nat.ble 13 pc then (bif Nat.ble 14 pc then (bif Nat.ble 17 pc then (bif Nat.beq pc 17 then some (.istore_n 2, 18, 0, 0, 0, 0, false) else none) else (bif Nat.beq pc 14 then some (.invokestatic 81, 17, 90, 0, 0, 2124, false) else none)) else (bif Nat.beq pc 13 then some (.iconst (4), 14, 0, 0, 0, 0, false) else none)) else (bif Nat.ble 10 pc then (bif Nat.beq pc 10 then some (.invokestatic 77, 13, 89, 0, 0, 2121, false) else none) else (bif Nat.beq pc 9 then some (.iconst (0), 10, 0, 0, 0, 0, false) else none))) else (bif Nat.ble 4 pc then (bif Nat.ble 7 pc then (bif Nat.ble 8 pc then (bif Nat.beq pc 8 then some (.aload_n 0, 9, 0, 0, 0, 0, false) else none) else (bif Nat.beq pc 7 then some (.astore_n 1, 8, 0, 0, 0, 0, false) else none)) else (bif Nat.beq pc 4 then some (.invokespecial 76, 7, 58, 0, 0, 1014, false) else none)) else (bif Nat.ble 3 pc then (bif Nat.beq pc 3 then some (.dup, 4, 0, 0, 0, 0, false) else none) else (bif Nat.beq pc 0 then some (.new 21, 3, 7, 0, 0, 1012, false) else none))))))))
def k_cd : Nat → Nat → Option pj_E := fun M pc => bif Nat.ble 101 M then none else bif Nat.ble 50 M then (bif Nat.ble 75 M then (bif Nat.ble 88 M then (bif Nat.ble 94 M then (bif Nat.ble 97 M then (bif Nat.ble 99 M then (bif Nat.ble 100 M then (kc_Lw_law pc) else (kc_Lw_falls pc)) else (bif Nat.ble 98 M then (kc_Lw_digit pc) else (kc_Lw_sum pc))) else (bif Nat.ble 95 M then (bif Nat.ble 96 M then (kc_Lw_linear pc) else (kc_Math_floorMod pc)) else (kc_Lw_kinds pc))) else (bif Nat.ble 91 M then (bif Nat.ble 92 M then (bif Nat.ble 93 M then (kc_Lw_digest pc) else (kc_Lw_mod pc)) else (kc_Lw_power pc)) else (bif Nat.ble 89 M then (bif Nat.ble 90 M then (kc_Lw_low pc) else (kc_Lw_cell pc)) else (kc_Arrays_fill pc)))) else (bif Nat.ble 81 M then (bif Nat.ble 84 M then (bif Nat.ble 86 M then (bif Nat.ble 87 M then (kc_Math_max pc) else (kc_Math_min pc)) else (bif Nat.ble 85 M then (kc_Li_derivedVector pc) else (kc_Li_subalgebraDimension pc))) else (bif Nat.ble 82 M then (bif Nat.ble 83 M then (kc_Li_idealDimension pc) else (kc_Li_centralizerDimension pc)) else (kc_Li_killing pc))) else (bif Nat.ble 78 M then (bif Nat.ble 79 M then (bif Nat.ble 80 M then (kc_Li_derivationDimension pc) else (kc_Li_killingRadicalDimension pc)) else (kc_Li_centerDimension pc)) else (bif Nat.ble 76 M then (bif Nat.ble 77 M then (kc_Li_kind pc) else (kc_Li_lowerCentralDimension pc)) else (kc_Li_derivedDimension pc))))) else (bif Nat.ble 62 M then (bif Nat.ble 68 M then (bif Nat.ble 71 M then (bif Nat.ble 73 M then (bif Nat.ble 74 M then (kc_Li_jacobiFailure pc) else (kc_Li_bracket pc)) else (bif Nat.ble 72 M then (kc_Li_dimension pc) else (kc_Li_prime pc))) else (bif Nat.ble 69 M then (bif Nat.ble 70 M then (kc_Li_restore pc) else (kc_Li_save pc)) else (kc_Li_undo pc))) else (bif Nat.ble 65 M then (bif Nat.ble 66 M then (bif Nat.ble 67 M then (kc_Li_swapBasis pc) else (kc_Li_inverse pc)) else (kc_Li_scaleBasis pc)) else (bif Nat.ble 63 M then (bif Nat.ble 64 M then (kc_Li_addBasis pc) else (kc_Li_put pc)) else (kc_Li_at pc)))) else (bif Nat.ble 56 M then (bif Nat.ble 59 M then (bif Nat.ble 60 M then (bif Nat.ble 61 M then (kc_Li_setBracket pc) else (kc_Li_remember pc)) else (kc_Li_configure pc)) else (bif Nat.ble 57 M then (bif Nat.ble 58 M then (kc_Li_init pc) else (kc_Table_jacobiValue pc)) else (kc_Table_pairsWithBracket pc))) else (bif Nat.ble 53 M then (bif Nat.ble 54 M then (bif Nat.ble 55 M then (kc_Table_copyFrom pc) else (kc_Table_coordinate pc)) else (kc_Table_product pc)) else (bif Nat.ble 51 M then (bif Nat.ble 52 M then (kc_Table_hasFactor pc) else (kc_Table_reduce pc)) else (kc_Table_plus pc)))))) else (bif Nat.ble 25 M then (bif Nat.ble 37 M then (bif Nat.ble 43 M then (bif Nat.ble 46 M then (bif Nat.ble 48 M then (bif Nat.ble 49 M then (kc_Table_setEntry pc) else (kc_Table_entry pc)) else (bif Nat.ble 47 M then (kc_Table_hasVector pc) else (kc_Table_hasIndex pc))) else (bif Nat.ble 44 M then (bif Nat.ble 45 M then (kc_Table_hasPair pc) else (kc_Table_power pc)) else (kc_Table_vectorCount pc))) else (bif Nat.ble 40 M then (bif Nat.ble 41 M then (bif Nat.ble 42 M then (kc_Table_begin pc) else (kc_Table_init pc)) else (kc_Subspace_solveInto pc)) else (bif Nat.ble 38 M then (bif Nat.ble 39 M then (kc_Subspace_rowAsVector pc) else (kc_Subspace_vector pc)) else (kc_Subspace_addRow pc)))) else (bif Nat.ble 31 M then (bif Nat.ble 34 M then (bif Nat.ble 35 M then (bif Nat.ble 36 M then (kc_Subspace_cell pc) else (kc_Subspace_hasLead pc)) else (kc_Subspace_takeIncoming pc)) else (bif Nat.ble 32 M then (bif Nat.ble 33 M then (kc_Subspace_addIncoming pc) else (kc_Subspace_join pc)) else (kc_Subspace_begin pc))) else (bif Nat.ble 28 M then (bif Nat.ble 29 M then (bif Nat.ble 30 M then (kc_Subspace_init pc) else (kc_Spaces_subalgebra pc)) else (kc_Spaces_close pc)) else (bif Nat.ble 26 M then (bif Nat.ble 27 M then (kc_Spaces_ideal pc) else (kc_Spaces_bracketsWith pc)) else (kc_Spaces_center pc))))) else (bif Nat.ble 12 M then (bif Nat.ble 18 M then (bif Nat.ble 21 M then (bif Nat.ble 23 M then (bif Nat.ble 24 M then (kc_Spaces_lowerCentral pc) else (kc_Spaces_addProducts pc)) else (bif Nat.ble 22 M then (kc_Spaces_fill pc) else (kc_Spaces_descend pc))) else (bif Nat.ble 19 M then (bif Nat.ble 20 M then (kc_Spaces_derived pc) else (kc_Spaces_init pc)) else (kc_Shelf_isEmpty pc))) else (bif Nat.ble 15 M then (bif Nat.ble 16 M then (bif Nat.ble 17 M then (kc_Shelf_fetch pc) else (kc_Shelf_keep pc)) else (kc_Shelf_dropFirst pc)) else (bif Nat.ble 13 M then (bif Nat.ble 14 M then (kc_Shelf_init pc) else (kc_Script_init pc)) else (kc_Maps_unknown pc)))) else (bif Nat.ble 6 M then (bif Nat.ble 9 M then (bif Nat.ble 10 M then (bif Nat.ble 11 M then (kc_Maps_addDerivationRule pc) else (kc_Maps_derivationCount pc)) else (kc_Maps_trace pc)) else (bif Nat.ble 7 M then (bif Nat.ble 8 M then (kc_Maps_radicalSize pc) else (kc_Maps_init pc)) else (kc_Change_exchange pc))) else (bif Nat.ble 3 M then (bif Nat.ble 4 M then (bif Nat.ble 5 M then (kc_Change_scale pc) else (kc_Change_rewrite pc)) else (kc_Change_apply pc)) else (bif Nat.ble 1 M then (bif Nat.ble 2 M then (kc_Change_begin pc) else (kc_Change_add pc)) else (kc_Change_init pc))))))
abbrev pj_I : Type := MethodName × ByteArray × Nat × Option FieldType × Nat × Nat × Nat × Nat × Nat × Nat × Nat × Nat × Nat × Nat
def k_mi : Nat → pj_I := fun M => bif Nat.ble 50 M then (bif Nat.ble 75 M then (bif Nat.ble 88 M then (bif Nat.ble 94 M then (bif Nat.ble 97 M then (bif Nat.ble 99 M then (bif Nat.ble 100 M then ((⟨"LieAlgebraLaw", "law", "([I)Z"⟩, code, 17, some .boolean, 2, 0, 99, 1, 9, 222, 0, 0, 0, 1000)) else ((⟨"LieAlgebraLaw", "falls", "(LLieAlgebra;I)Z"⟩, method_11_code, 11, some .boolean, 2, 0, 99, 2, 8, 192, 3096, 3095, 0, 1000))) else (bif Nat.ble 98 M then ((⟨"LieAlgebraLaw", "digit", "(III)I"⟩, method_4_code, 5, some .int, 1, 0, 99, 3, 0, 0, 3060, 3059, 0, 1000)) else ((⟨"LieAlgebraLaw", "sum", "(IIIII)I"⟩, method_7_code, 7, some .int, 1, 0, 99, 5, 1, 24, 3057, 3056, 0, 1000)))) else (bif Nat.ble 95 M then (bif Nat.ble 96 M then ((⟨"LieAlgebraLaw", "linear", "(LLieAlgebra;IIIIII)Z"⟩, method_10_code, 10, some .boolean, 2, 0, 99, 7, 8, 190, 3054, 3053, 0, 1000)) else ((⟨"java/lang/Math", "floorMod", "(II)I"⟩, prog_11_method_50_code, 3, some .int, 1, 0, 99, 2, 0, 0, 2196, 2195, 0, 1005))) else ((⟨"LieAlgebraLaw", "kinds", "(LLieAlgebra;)J"⟩, method_9_code, 4, some .long, 4, 0, 99, 1, 8, 191, 2153, 2152, 0, 1000)))) else (bif Nat.ble 91 M then (bif Nat.ble 92 M then (bif Nat.ble 93 M then ((⟨"LieAlgebraLaw", "digest", "(LLieAlgebra;)J"⟩, method_8_code, 6, some .long, 4, 0, 99, 1, 4, 101, 2136, 2135, 0, 1000)) else ((⟨"LieAlgebraLaw", "mod", "(II)I"⟩, method_6_code, 2, some .int, 1, 0, 99, 2, 0, 0, 2133, 2132, 0, 1000))) else ((⟨"LieAlgebraLaw", "power", "(II)I"⟩, method_5_code, 4, some .int, 1, 0, 99, 2, 0, 0, 2130, 2129, 0, 1000))) else (bif Nat.ble 89 M then (bif Nat.ble 90 M then ((⟨"LieAlgebraLaw", "low", "(II)I"⟩, method_3_code, 2, some .int, 1, 0, 99, 2, 0, 0, 2126, 2125, 0, 1000)) else ((⟨"LieAlgebraLaw", "cell", "([II)I"⟩, method_2_code, 2, some .int, 1, 0, 99, 2, 0, 0, 2123, 2122, 0, 1000))) else ((⟨"java/util/Arrays", "fill", "([II)V"⟩, prog_13_method_103_code, 4, none, 0, 0, 99, 2, 0, 0, 1223, 1222, 0, 1011))))) else (bif Nat.ble 81 M then (bif Nat.ble 84 M then (bif Nat.ble 86 M then (bif Nat.ble 87 M then ((⟨"java/lang/Math", "max", "(II)I"⟩, prog_11_method_65_code, 2, some .int, 1, 0, 99, 2, 0, 0, 1065, 1064, 0, 1005)) else ((⟨"java/lang/Math", "min", "(II)I"⟩, prog_11_method_69_code, 2, some .int, 1, 0, 99, 2, 0, 0, 1062, 1061, 0, 1005))) else (bif Nat.ble 85 M then ((⟨"LieAlgebra", "derivedVector", "(II)I"⟩, prog_1_method_13_code, 3, some .int, 1, 1, 7, 3, 7, 170, 3100, 3098, 3099, 1001)) else ((⟨"LieAlgebra", "subalgebraDimension", "(II)I"⟩, prog_1_method_19_code, 3, some .int, 1, 1, 7, 3, 7, 168, 3089, 3087, 3088, 1001)))) else (bif Nat.ble 82 M then (bif Nat.ble 83 M then ((⟨"LieAlgebra", "idealDimension", "(I)I"⟩, prog_1_method_18_code, 2, some .int, 1, 1, 7, 2, 7, 167, 3077, 3075, 3076, 1001)) else ((⟨"LieAlgebra", "centralizerDimension", "(I)I"⟩, prog_1_method_17_code, 2, some .int, 1, 1, 7, 2, 5, 115, 3069, 3067, 3068, 1001))) else ((⟨"LieAlgebra", "killing", "(II)I"⟩, prog_1_method_23_code, 3, some .int, 1, 1, 7, 3, 4, 104, 3064, 3062, 3063, 1001)))) else (bif Nat.ble 78 M then (bif Nat.ble 79 M then (bif Nat.ble 80 M then ((⟨"LieAlgebra", "derivationDimension", "()I"⟩, prog_1_method_25_code, 1, some .int, 1, 1, 7, 1, 5, 117, 3038, 3036, 3037, 1001)) else ((⟨"LieAlgebra", "killingRadicalDimension", "()I"⟩, prog_1_method_24_code, 1, some .int, 1, 1, 7, 1, 5, 126, 3019, 3017, 3018, 1001))) else ((⟨"LieAlgebra", "centerDimension", "()I"⟩, prog_1_method_15_code, 1, some .int, 1, 1, 7, 1, 5, 116, 3002, 3000, 3001, 1001))) else (bif Nat.ble 76 M then (bif Nat.ble 77 M then ((⟨"LieAlgebra", "kind", "()I"⟩, prog_1_method_14_code, 1, some .int, 1, 1, 7, 1, 7, 170, 2238, 2236, 2237, 1001)) else ((⟨"LieAlgebra", "lowerCentralDimension", "(I)I"⟩, prog_1_method_12_code, 2, some .int, 1, 1, 7, 2, 7, 170, 2230, 2228, 2229, 1001))) else ((⟨"LieAlgebra", "derivedDimension", "(I)I"⟩, prog_1_method_11_code, 2, some .int, 1, 1, 7, 2, 7, 170, 2166, 2164, 2165, 1001)))))) else (bif Nat.ble 62 M then (bif Nat.ble 68 M then (bif Nat.ble 71 M then (bif Nat.ble 73 M then (bif Nat.ble 74 M then ((⟨"LieAlgebra", "jacobiFailure", "()I"⟩, prog_1_method_10_code, 4, some .int, 1, 1, 7, 1, 4, 103, 2157, 2155, 2156, 1001)) else ((⟨"LieAlgebra", "bracket", "(II)I"⟩, prog_1_method_9_code, 3, some .int, 1, 1, 7, 3, 3, 79, 2149, 2147, 2148, 1001))) else (bif Nat.ble 72 M then ((⟨"LieAlgebra", "dimension", "()I"⟩, prog_1_method_8_code, 1, some .int, 1, 1, 7, 1, 1, 20, 2145, 2143, 2144, 1001)) else ((⟨"LieAlgebra", "prime", "()I"⟩, prog_1_method_7_code, 1, some .int, 1, 1, 7, 1, 0, 0, 2141, 2139, 2140, 1001)))) else (bif Nat.ble 69 M then (bif Nat.ble 70 M then ((⟨"LieAlgebra", "restore", "(I)I"⟩, prog_1_method_31_code, 2, some .int, 1, 1, 7, 2, 2, 63, 2115, 2113, 2114, 1001)) else ((⟨"LieAlgebra", "save", "(I)I"⟩, prog_1_method_30_code, 2, some .int, 1, 1, 7, 2, 2, 63, 2111, 2109, 2110, 1001))) else ((⟨"LieAlgebra", "undo", "()I"⟩, prog_1_method_29_code, 1, some .int, 1, 1, 7, 1, 2, 63, 2103, 2101, 2102, 1001)))) else (bif Nat.ble 65 M then (bif Nat.ble 66 M then (bif Nat.ble 67 M then ((⟨"LieAlgebra", "swapBasis", "(II)I"⟩, prog_1_method_28_code, 3, some .int, 1, 1, 7, 3, 5, 124, 2095, 2093, 2094, 1001)) else ((⟨"LieAlgebra", "inverse", "(II)I"⟩, prog_1_method_35_code, 3, some .int, 1, 0, 7, 2, 0, 0, 2087, 2086, 0, 1001))) else ((⟨"LieAlgebra", "scaleBasis", "(II)I"⟩, prog_1_method_27_code, 3, some .int, 1, 1, 7, 3, 5, 124, 2079, 2077, 2078, 1001))) else (bif Nat.ble 63 M then (bif Nat.ble 64 M then ((⟨"LieAlgebra", "addBasis", "(III)I"⟩, prog_1_method_26_code, 4, some .int, 1, 1, 7, 4, 5, 125, 2034, 2032, 2033, 1001)) else ((⟨"LieAlgebra", "put", "([III)V"⟩, prog_1_method_34_code, 3, none, 0, 0, 7, 3, 0, 0, 2022, 2021, 0, 1001))) else ((⟨"LieAlgebra", "at", "([II)I"⟩, prog_1_method_33_code, 2, some .int, 1, 0, 7, 2, 0, 0, 2015, 2014, 0, 1001))))) else (bif Nat.ble 56 M then (bif Nat.ble 59 M then (bif Nat.ble 60 M then (bif Nat.ble 61 M then ((⟨"LieAlgebra", "setBracket", "(III)I"⟩, prog_1_method_3_code, 5, some .int, 1, 1, 7, 4, 3, 83, 1235, 1233, 1234, 1001)) else ((⟨"LieAlgebra", "remember", "()V"⟩, prog_1_method_32_code, 1, none, 0, 1, 7, 1, 2, 63, 1205, 1204, 20000, 1001))) else ((⟨"LieAlgebra", "configure", "(II)I"⟩, prog_1_method_2_code, 4, some .int, 1, 1, 7, 3, 3, 83, 1201, 1199, 1200, 1001))) else (bif Nat.ble 57 M then (bif Nat.ble 58 M then ((⟨"LieAlgebra", "<init>", "()V"⟩, prog_1_method_1_code, 1, none, 0, 2, 7, 1, 3, 63, 1016, 1015, 0, 1001)) else ((⟨"LieAlgebra$Table", "jacobiValue", "(III)I"⟩, prog_8_method_17_code, 5, some .int, 1, 1, 6, 4, 3, 79, 2161, 2159, 2160, 1002))) else ((⟨"LieAlgebra$Table", "pairsWithBracket", "()I"⟩, prog_8_method_15_code, 4, some .int, 1, 1, 6, 1, 2, 43, 2091, 2089, 2090, 1002)))) else (bif Nat.ble 53 M then (bif Nat.ble 54 M then (bif Nat.ble 55 M then ((⟨"LieAlgebra$Table", "copyFrom", "(LLieAlgebra$Table;)V"⟩, prog_8_method_3_code, 2, none, 0, 1, 6, 2, 1, 40, 2074, 2072, 2073, 1002)) else ((⟨"LieAlgebra$Table", "coordinate", "(II)I"⟩, prog_8_method_11_code, 4, some .int, 1, 1, 6, 3, 1, 23, 2063, 2061, 2062, 1002))) else ((⟨"LieAlgebra$Table", "product", "(II)I"⟩, prog_8_method_16_code, 9, some .int, 1, 1, 6, 3, 2, 51, 2059, 2057, 2058, 1002))) else (bif Nat.ble 51 M then (bif Nat.ble 52 M then ((⟨"LieAlgebra$Table", "hasFactor", "(I)Z"⟩, prog_8_method_7_code, 2, some .boolean, 2, 1, 6, 2, 0, 0, 2038, 2036, 2037, 1002)) else ((⟨"LieAlgebra$Table", "reduce", "(I)I"⟩, prog_8_method_10_code, 3, some .int, 1, 1, 6, 2, 0, 0, 2030, 2028, 2029, 1002))) else ((⟨"LieAlgebra$Table", "plus", "(III)I"⟩, prog_8_method_12_code, 10, some .int, 1, 1, 6, 4, 1, 22, 2026, 2024, 2025, 1002))))))) else (bif Nat.ble 25 M then (bif Nat.ble 37 M then (bif Nat.ble 43 M then (bif Nat.ble 46 M then (bif Nat.ble 48 M then (bif Nat.ble 49 M then ((⟨"LieAlgebra$Table", "setEntry", "(III)V"⟩, prog_8_method_14_code, 4, none, 0, 1, 6, 4, 2, 51, 2019, 2017, 2018, 1002)) else ((⟨"LieAlgebra$Table", "entry", "(II)I"⟩, prog_8_method_13_code, 3, some .int, 1, 1, 6, 3, 1, 21, 2012, 2010, 2011, 1002))) else (bif Nat.ble 47 M then ((⟨"LieAlgebra$Table", "hasVector", "(I)Z"⟩, prog_8_method_6_code, 2, some .boolean, 2, 1, 6, 2, 2, 43, 2007, 2005, 2006, 1002)) else ((⟨"LieAlgebra$Table", "hasIndex", "(I)Z"⟩, prog_8_method_4_code, 2, some .boolean, 2, 1, 6, 2, 1, 20, 2003, 2001, 2002, 1002)))) else (bif Nat.ble 44 M then (bif Nat.ble 45 M then ((⟨"LieAlgebra$Table", "hasPair", "(II)Z"⟩, prog_8_method_5_code, 3, some .boolean, 2, 1, 6, 3, 2, 41, 1239, 1237, 1238, 1002)) else ((⟨"LieAlgebra$Table", "power", "(I)I"⟩, prog_8_method_9_code, 4, some .int, 1, 1, 6, 2, 0, 0, 1231, 1229, 1230, 1002))) else ((⟨"LieAlgebra$Table", "vectorCount", "()I"⟩, prog_8_method_8_code, 1, some .int, 1, 1, 6, 1, 1, 23, 1227, 1225, 1226, 1002)))) else (bif Nat.ble 40 M then (bif Nat.ble 41 M then (bif Nat.ble 42 M then ((⟨"LieAlgebra$Table", "begin", "(II)V"⟩, prog_8_method_2_code, 3, none, 0, 1, 6, 3, 1, 23, 1220, 1218, 1219, 1002)) else ((⟨"LieAlgebra$Table", "<init>", "()V"⟩, prog_8_method_1_code, 1, none, 0, 2, 6, 1, 1, 20, 1024, 1023, 0, 1002))) else ((⟨"LieAlgebra$Subspace", "solveInto", "(LLieAlgebra$Subspace;)V"⟩, prog_7_method_11_code, 4, none, 0, 1, 5, 2, 3, 70, 3014, 3012, 3013, 1004))) else (bif Nat.ble 38 M then (bif Nat.ble 39 M then ((⟨"LieAlgebra$Subspace", "rowAsVector", "(I)I"⟩, prog_7_method_10_code, 5, some .int, 1, 1, 5, 2, 2, 43, 2225, 2224, 20010, 1004)) else ((⟨"LieAlgebra$Subspace", "vector", "(I)I"⟩, prog_7_method_9_code, 4, some .int, 1, 1, 5, 2, 3, 67, 2221, 2219, 2220, 1004))) else ((⟨"LieAlgebra$Subspace", "addRow", "(III)V"⟩, prog_7_method_7_code, 8, none, 0, 1, 5, 4, 1, 20, 2212, 2211, 20008, 1004))))) else (bif Nat.ble 31 M then (bif Nat.ble 34 M then (bif Nat.ble 35 M then (bif Nat.ble 36 M then ((⟨"LieAlgebra$Subspace", "cell", "(II)I"⟩, prog_7_method_3_code, 4, some .int, 1, 1, 5, 3, 1, 20, 2208, 2207, 20007, 1004)) else ((⟨"LieAlgebra$Subspace", "hasLead", "(I)Z"⟩, prog_7_method_4_code, 3, some .boolean, 2, 1, 5, 2, 1, 20, 2204, 2203, 20006, 1004))) else ((⟨"LieAlgebra$Subspace", "takeIncoming", "()Z"⟩, prog_7_method_6_code, 4, some .boolean, 2, 1, 5, 1, 2, 47, 2200, 2198, 2199, 1004))) else (bif Nat.ble 32 M then (bif Nat.ble 33 M then ((⟨"LieAlgebra$Subspace", "addIncoming", "(II)V"⟩, prog_7_method_5_code, 4, none, 0, 1, 5, 3, 1, 22, 2193, 2191, 2192, 1004)) else ((⟨"LieAlgebra$Subspace", "join", "(LLieAlgebra$Table;I)Z"⟩, prog_7_method_8_code, 4, some .boolean, 2, 1, 5, 3, 3, 70, 2188, 2186, 2187, 1004))) else ((⟨"LieAlgebra$Subspace", "begin", "(II)V"⟩, prog_7_method_2_code, 3, none, 0, 1, 5, 3, 1, 23, 2182, 2180, 2181, 1004)))) else (bif Nat.ble 28 M then (bif Nat.ble 29 M then (bif Nat.ble 30 M then ((⟨"LieAlgebra$Subspace", "<init>", "(I)V"⟩, prog_7_method_1_code, 2, none, 0, 2, 5, 2, 1, 21, 1058, 1057, 0, 1004)) else ((⟨"LieAlgebra$Spaces", "subalgebra", "(II)LLieAlgebra$Subspace;"⟩, prog_6_method_10_code, 3, some (.object "LieAlgebra$Subspace"), 3, 1, 4, 3, 6, 146, 3093, 3091, 3092, 1003))) else ((⟨"LieAlgebra$Spaces", "close", "(LLieAlgebra$Subspace;LLieAlgebra$Subspace;)V"⟩, prog_6_method_11_code, 5, none, 0, 1, 4, 3, 5, 122, 3085, 3084, 20013, 1003))) else (bif Nat.ble 26 M then (bif Nat.ble 27 M then ((⟨"LieAlgebra$Spaces", "ideal", "(I)LLieAlgebra$Subspace;"⟩, prog_6_method_9_code, 2, some (.object "LieAlgebra$Subspace"), 3, 1, 4, 2, 6, 146, 3081, 3079, 3080, 1003)) else ((⟨"LieAlgebra$Spaces", "bracketsWith", "(I)LLieAlgebra$Subspace;"⟩, prog_6_method_8_code, 3, some (.object "LieAlgebra$Subspace"), 3, 1, 4, 2, 4, 93, 3073, 3071, 3072, 1003))) else ((⟨"LieAlgebra$Spaces", "center", "()LLieAlgebra$Subspace;"⟩, prog_6_method_7_code, 4, some (.object "LieAlgebra$Subspace"), 3, 1, 4, 1, 4, 93, 3006, 3004, 3005, 1003)))))) else (bif Nat.ble 12 M then (bif Nat.ble 18 M then (bif Nat.ble 21 M then (bif Nat.ble 23 M then (bif Nat.ble 24 M then ((⟨"LieAlgebra$Spaces", "lowerCentral", "(I)LLieAlgebra$Subspace;"⟩, prog_6_method_3_code, 2, some (.object "LieAlgebra$Subspace"), 3, 1, 4, 2, 6, 149, 2234, 2232, 2233, 1003)) else ((⟨"LieAlgebra$Spaces", "addProducts", "(LLieAlgebra$Subspace;LLieAlgebra$Subspace;LLieAlgebra$Subspace;)Z"⟩, prog_6_method_6_code, 10, some .boolean, 2, 1, 4, 4, 4, 93, 2217, 2216, 20009, 1003))) else (bif Nat.ble 22 M then ((⟨"LieAlgebra$Spaces", "fill", "(LLieAlgebra$Subspace;)V"⟩, prog_6_method_5_code, 3, none, 0, 1, 4, 2, 4, 93, 2178, 2177, 20005, 1003)) else ((⟨"LieAlgebra$Spaces", "descend", "(IZ)LLieAlgebra$Subspace;"⟩, prog_6_method_4_code, 8, some (.object "LieAlgebra$Subspace"), 3, 1, 4, 3, 5, 122, 2174, 2173, 20004, 1003)))) else (bif Nat.ble 19 M then (bif Nat.ble 20 M then ((⟨"LieAlgebra$Spaces", "derived", "(I)LLieAlgebra$Subspace;"⟩, prog_6_method_2_code, 2, some (.object "LieAlgebra$Subspace"), 3, 1, 4, 2, 6, 149, 2170, 2168, 2169, 1003)) else ((⟨"LieAlgebra$Spaces", "<init>", "(LLieAlgebra$Table;)V"⟩, prog_6_method_1_code, 2, none, 0, 2, 4, 2, 2, 42, 1052, 1051, 0, 1003))) else ((⟨"LieAlgebra$Shelf", "isEmpty", "(I)Z"⟩, prog_5_method_2_code, 2, some .boolean, 2, 1, 3, 2, 1, 21, 2119, 2117, 2118, 1009)))) else (bif Nat.ble 15 M then (bif Nat.ble 16 M then (bif Nat.ble 17 M then ((⟨"LieAlgebra$Shelf", "fetch", "(ILLieAlgebra$Table;)V"⟩, prog_5_method_4_code, 4, none, 0, 1, 3, 3, 1, 40, 2107, 2105, 2106, 1009)) else ((⟨"LieAlgebra$Shelf", "keep", "(ILLieAlgebra$Table;)V"⟩, prog_5_method_3_code, 4, none, 0, 1, 3, 3, 1, 40, 1216, 1214, 1215, 1009))) else ((⟨"LieAlgebra$Shelf", "dropFirst", "()V"⟩, prog_5_method_5_code, 1, none, 0, 1, 3, 1, 1, 40, 1209, 1207, 1208, 1009))) else (bif Nat.ble 13 M then (bif Nat.ble 14 M then ((⟨"LieAlgebra$Shelf", "<init>", "(I)V"⟩, prog_5_method_1_code, 2, none, 0, 2, 3, 2, 1, 21, 1162, 1161, 0, 1009)) else ((⟨"LieAlgebra$Script", "<init>", "()V"⟩, prog_4_method_1_code, 1, none, 0, 2, 2, 1, 2, 40, 1141, 1140, 0, 1008))) else ((⟨"LieAlgebra$Maps", "unknown", "(II)I"⟩, prog_3_method_7_code, 3, some .int, 1, 1, 1, 3, 1, 20, 3050, 3049, 20012, 1006))))) else (bif Nat.ble 6 M then (bif Nat.ble 9 M then (bif Nat.ble 10 M then (bif Nat.ble 11 M then ((⟨"LieAlgebra$Maps", "addDerivationRule", "(III)V"⟩, prog_3_method_6_code, 5, none, 0, 1, 1, 4, 3, 70, 3046, 3045, 20011, 1006)) else ((⟨"LieAlgebra$Maps", "derivationCount", "()I"⟩, prog_3_method_5_code, 4, some .int, 1, 1, 1, 1, 4, 94, 3042, 3040, 3041, 1006))) else ((⟨"LieAlgebra$Maps", "trace", "(II)I"⟩, prog_3_method_3_code, 6, some .int, 1, 1, 1, 3, 3, 79, 3029, 3027, 3028, 1006))) else (bif Nat.ble 7 M then (bif Nat.ble 8 M then ((⟨"LieAlgebra$Maps", "radicalSize", "()I"⟩, prog_3_method_4_code, 3, some .int, 1, 1, 1, 1, 4, 104, 3023, 3021, 3022, 1006)) else ((⟨"LieAlgebra$Maps", "<init>", "(LLieAlgebra$Table;)V"⟩, prog_3_method_1_code, 2, none, 0, 2, 1, 2, 2, 42, 1102, 1101, 0, 1006))) else ((⟨"LieAlgebra$Change", "exchange", "(II)V"⟩, prog_2_method_4_code, 3, none, 0, 1, 0, 3, 4, 102, 2099, 2097, 2098, 1007)))) else (bif Nat.ble 3 M then (bif Nat.ble 4 M then (bif Nat.ble 5 M then ((⟨"LieAlgebra$Change", "scale", "(II)V"⟩, prog_2_method_3_code, 3, none, 0, 1, 0, 3, 4, 102, 2084, 2082, 2083, 1007)) else ((⟨"LieAlgebra$Change", "rewrite", "(I)I"⟩, prog_2_method_7_code, 4, some .int, 1, 1, 0, 2, 2, 51, 2068, 2067, 20003, 1007))) else ((⟨"LieAlgebra$Change", "apply", "()V"⟩, prog_2_method_6_code, 4, none, 0, 1, 0, 1, 3, 79, 2053, 2052, 20002, 1007))) else (bif Nat.ble 1 M then (bif Nat.ble 2 M then ((⟨"LieAlgebra$Change", "begin", "()V"⟩, prog_2_method_5_code, 2, none, 0, 1, 0, 1, 1, 23, 2046, 2045, 20001, 1007)) else ((⟨"LieAlgebra$Change", "add", "(III)V"⟩, prog_2_method_2_code, 4, none, 0, 1, 0, 4, 4, 102, 2042, 2040, 2041, 1007))) else ((⟨"LieAlgebra$Change", "<init>", "(LLieAlgebra$Table;)V"⟩, prog_2_method_1_code, 2, none, 0, 2, 0, 2, 2, 40, 1120, 1119, 0, 1007)))))))
def k_df : Nat → List (Int ⊕ Nat)
  | 0 => [.inr 1001, .inr 1001, .inr 1001, .inr 1001]
  | 1 => [.inr 1001, .inr 1001, .inr 1001]
  | 2 => [.inr 1001, .inr 1001, .inl 0, .inl 0, .inl 0]
  | 3 => [.inl 0, .inr 1001]
  | 4 => [.inr 1001, .inr 1001, .inr 1001, .inr 1001]
  | 5 => [.inl 0, .inr 1001, .inl 0, .inl 0, .inl 0]
  | 6 => [.inl 0, .inl 0, .inr 1001]
  | 7 => [.inr 1001, .inr 1001, .inr 1001, .inr 1001, .inr 1001, .inr 1001, .inr 1001, .inl 0]
  | _ => []
/-- class: where its instantiable and initialized stand -/
def k_cx : Nat → Nat × Nat
  | 0 => (1117, 1007)
  | 1 => (1099, 1006)
  | 2 => (1138, 1008)
  | 3 => (1159, 1009)
  | 4 => (1049, 1003)
  | 5 => (1055, 1004)
  | 6 => (1021, 1002)
  | 7 => (1013, 1001)
  | _ => (0, 0)
def pj_tw (ch i : Nat) : Option Cond := match ch with
  | 1 => pj_at tables_1_1 i
  | 2 => pj_at tables_1_2 i
  | 3 => pj_at tables_1_3 i
  | 20 => pj_at (k2_sels lw_privs_1) i
  | _ => none
abbrev m_Change_init : Nat := 0
abbrev m_Change_add : Nat := 1
abbrev m_Change_begin : Nat := 2
abbrev m_Change_apply : Nat := 3
abbrev m_Change_rewrite : Nat := 4
abbrev m_Change_scale : Nat := 5
abbrev m_Change_exchange : Nat := 6
abbrev m_Maps_init : Nat := 7
abbrev m_Maps_radicalSize : Nat := 8
abbrev m_Maps_trace : Nat := 9
abbrev m_Maps_derivationCount : Nat := 10
abbrev m_Maps_addDerivationRule : Nat := 11
abbrev m_Maps_unknown : Nat := 12
abbrev m_Script_init : Nat := 13
abbrev m_Shelf_init : Nat := 14
abbrev m_Shelf_dropFirst : Nat := 15
abbrev m_Shelf_keep : Nat := 16
abbrev m_Shelf_fetch : Nat := 17
abbrev m_Shelf_isEmpty : Nat := 18
abbrev m_Spaces_init : Nat := 19
abbrev m_Spaces_derived : Nat := 20
abbrev m_Spaces_descend : Nat := 21
abbrev m_Spaces_fill : Nat := 22
abbrev m_Spaces_addProducts : Nat := 23
abbrev m_Spaces_lowerCentral : Nat := 24
abbrev m_Spaces_center : Nat := 25
abbrev m_Spaces_bracketsWith : Nat := 26
abbrev m_Spaces_ideal : Nat := 27
abbrev m_Spaces_close : Nat := 28
abbrev m_Spaces_subalgebra : Nat := 29
abbrev m_Subspace_init : Nat := 30
abbrev m_Subspace_begin : Nat := 31
abbrev m_Subspace_join : Nat := 32
abbrev m_Subspace_addIncoming : Nat := 33
abbrev m_Subspace_takeIncoming : Nat := 34
abbrev m_Subspace_hasLead : Nat := 35
abbrev m_Subspace_cell : Nat := 36
abbrev m_Subspace_addRow : Nat := 37
abbrev m_Subspace_vector : Nat := 38
abbrev m_Subspace_rowAsVector : Nat := 39
abbrev m_Subspace_solveInto : Nat := 40
abbrev m_Table_init : Nat := 41
abbrev m_Table_begin : Nat := 42
abbrev m_Table_vectorCount : Nat := 43
abbrev m_Table_power : Nat := 44
abbrev m_Table_hasPair : Nat := 45
abbrev m_Table_hasIndex : Nat := 46
abbrev m_Table_hasVector : Nat := 47
abbrev m_Table_entry : Nat := 48
abbrev m_Table_setEntry : Nat := 49
abbrev m_Table_plus : Nat := 50
abbrev m_Table_reduce : Nat := 51
abbrev m_Table_hasFactor : Nat := 52
abbrev m_Table_product : Nat := 53
abbrev m_Table_coordinate : Nat := 54
abbrev m_Table_copyFrom : Nat := 55
abbrev m_Table_pairsWithBracket : Nat := 56
abbrev m_Table_jacobiValue : Nat := 57
abbrev m_Li_init : Nat := 58
abbrev m_Li_configure : Nat := 59
abbrev m_Li_remember : Nat := 60
abbrev m_Li_setBracket : Nat := 61
abbrev m_Li_at : Nat := 62
abbrev m_Li_put : Nat := 63
abbrev m_Li_addBasis : Nat := 64
abbrev m_Li_scaleBasis : Nat := 65
abbrev m_Li_inverse : Nat := 66
abbrev m_Li_swapBasis : Nat := 67
abbrev m_Li_undo : Nat := 68
abbrev m_Li_save : Nat := 69
abbrev m_Li_restore : Nat := 70
abbrev m_Li_prime : Nat := 71
abbrev m_Li_dimension : Nat := 72
abbrev m_Li_bracket : Nat := 73
abbrev m_Li_jacobiFailure : Nat := 74
abbrev m_Li_derivedDimension : Nat := 75
abbrev m_Li_lowerCentralDimension : Nat := 76
abbrev m_Li_kind : Nat := 77
abbrev m_Li_centerDimension : Nat := 78
abbrev m_Li_killingRadicalDimension : Nat := 79
abbrev m_Li_derivationDimension : Nat := 80
abbrev m_Li_killing : Nat := 81
abbrev m_Li_centralizerDimension : Nat := 82
abbrev m_Li_idealDimension : Nat := 83
abbrev m_Li_subalgebraDimension : Nat := 84
abbrev m_Li_derivedVector : Nat := 85
abbrev m_Math_min : Nat := 86
abbrev m_Math_max : Nat := 87
abbrev m_Arrays_fill : Nat := 88
abbrev m_Lw_cell : Nat := 89
abbrev m_Lw_low : Nat := 90
abbrev m_Lw_power : Nat := 91
abbrev m_Lw_mod : Nat := 92
abbrev m_Lw_digest : Nat := 93
abbrev m_Lw_kinds : Nat := 94
abbrev m_Math_floorMod : Nat := 95
abbrev m_Lw_linear : Nat := 96
abbrev m_Lw_sum : Nat := 97
abbrev m_Lw_digit : Nat := 98
abbrev m_Lw_falls : Nat := 99
abbrev m_Lw_law : Nat := 100
end
section
/-! what a program checks of the code tables, entry by entry -/
def k_nL (M : Nat) : Nat := (k_mi M).2.2.1
def k_rt (M : Nat) : Nat := (k_mi M).2.2.2.2.1
def k_kd (M : Nat) : Nat := (k_mi M).2.2.2.2.2.1
def k_ci (M : Nat) : Nat := (k_mi M).2.2.2.2.2.2.1
def k_na (M : Nat) : Nat := (k_mi M).2.2.2.2.2.2.2.1
def k_y (M : Nat) : MethodName := (k_mi M).1
def k_b (M : Nat) : ByteArray := (k_mi M).2.1
def k_ret (M : Nat) : Option FieldType := (k_mi M).2.2.2.1
def k_fr (M : Nat) : Nat := (k_mi M).2.2.2.2.2.2.2.2.1
def k_lo (M : Nat) : Nat := (k_mi M).2.2.2.2.2.2.2.2.2.1
def k_cw (M : Nat) : Nat := (k_mi M).2.2.2.2.2.2.2.2.2.2.1
def k_iw (M : Nat) : Nat := (k_mi M).2.2.2.2.2.2.2.2.2.2.2.1
def k_sw (M : Nat) : Nat := (k_mi M).2.2.2.2.2.2.2.2.2.2.2.2.1
def k_nw (M : Nat) : Nat := (k_mi M).2.2.2.2.2.2.2.2.2.2.2.2.2
def pj_len : Instr → Nat
  | .ldc _ | .lload _ | .lstore _ | .bipush _ | .iload _ | .istore _ | .aload _ | .astore _ | .newarray _ => 2
  | .ldc2_w _ | .sipush _ | .iinc _ _ | .goto _ | .ifCond _ _ | .if_icmp _ _ | .new _ | .getfield _ | .putfield _ | .invokevirtual _ | .invokespecial _ | .invokestatic _ => 3
  | _ => 1
def pj_nest : Cond → Bool
  | .fieldLinkNest _ _ _ _ _ _ => true
  | .methodLinkNest _ _ _ _ => true
  | _ => false
def pj_is (d : Nat) (w : Cond) : Bool := (goodWord w || pj_nest w) && decide (pj_tw (d / 1000) (d % 1000) = some w)
/-- the link of a field: 0 none, 1 its own class's, 2 a nest mate's -/
def pj_fl (own : String) (n : Nat) (C nm ds : String) (d : Nat) : Nat := match pj_tw (d / 1000) (d % 1000) with
  | some (.fieldLink o i r f g) => bif decide (o = own ∧ i = n ∧ r = C ∧ f = nm ∧ g = ds) then 1 else 0
  | some (.fieldLinkNest o i r f g _) => bif decide (o = own ∧ i = n ∧ r = C ∧ f = nm ∧ g = ds) then 2 else 0
  | _ => 0
def pj_ty0 (T : u_T) (k : Nat) : FieldType := (parseFieldDescriptor (T k).2.2.1).getD .int
def pj_isInt (ty : FieldType) : Bool := match ty with
  | .int => true
  | _ => false
def pj_isRef (ty : FieldType) : Bool := match ty with
  | .object _ => true
  | .array _ => true
  | _ => false
def pj_okG (M n a b c d : Nat) (put : Bool) : Bool := match pj_at vwCl a with
  | some (C, T, N) => Nat.blt b N && (decide ((T b).1 = C) && (match pj_fl (k_y M).cls n C (T b).2.1 (T b).2.2.1 d with
    | 1 => !put || !(T b).2.2.2 || decide ((k_y M).name = "<init>" ∧ C = (k_y M).cls)
    | 2 => !put || !(T b).2.2.2
    | _ => false) && (!put || (match c with
      | 0 => pj_isInt (pj_ty0 T b)
      | _ => pj_isRef (pj_ty0 T b))))
  | none => false
def pj_okE (M pc : Nat) (e : pj_E) : Bool := match e with
  | (i, nx, a, b, c, d, _) =>
    (decide (decode (k_b M) pc = .ok (i, nx - pc)) && Nat.blt pc nx) && (match i with
      | .tableswitch _ _ _ _ => true
      | i => Nat.beq nx (pc + pj_len i)) && (match i with
      | .bipush z => decide ((Int8.ofInt z).toInt32 = Int32.ofInt z)
      | .sipush z => decide ((Int16.ofInt z).toInt32 = Int32.ofInt z)
      | .ldc n => pj_is d (.constant (k_y M).cls n (Int32.ofInt (a : Int)))
      | .ldc2_w n => pj_is d (.constantLong (k_y M).cls n (Int64.ofInt (a : Int)))
      | .goto o => decide ((pc : Int) + o = (a : Int))
      | .ifCond _ o => decide ((pc : Int) + o = (a : Int))
      | .if_icmp _ o => decide ((pc : Int) + o = (a : Int))
      | .getfield n => pj_okG M n a b c d false
      | .putfield n => pj_okG M n a b c d true
      | .new n => match pj_at vwCl a with
        | some (C, _, N) => pj_is d (.classLink (k_y M).cls n C) && (pj_is (k_cx a).1 (.instantiable C N) && pj_is (k_cx a).2 (.initialized C))
        | none => false
      | .newarray t => pj_is d (.arrayClass (newarray.typeOf t)) && ((Nat.beq a 0 && decide (t = .int)) || (Nat.beq a 1 && decide (t = .boolean)))
      | .invokespecial n => match b with
        | 0 => Nat.blt a 100 && (Nat.beq (k_kd a) 2 && ((match c with
          | 0 => pj_is d (.methodLink (k_y M).cls n (k_y a))
          | _ => pj_is d (.methodLinkNest (k_y M).cls n (k_y a) "LieAlgebra")) && (Nat.ble (k_fr a + 1) (k_fr M) && Nat.ble (8 + (k_nL a + 11) + k_lo a) (k_lo M))))
        | 1 => pj_is d (.methodLink (k_y M).cls n objectInit) && (Nat.ble 1 (k_fr M) && Nat.ble 20 (k_lo M))
        | _ => false
      | .invokevirtual n => match b with
        | 0 => Nat.blt a 100 && (Nat.beq (k_kd a) 1 && ((match c with
          | 0 => pj_is d (.methodLink (k_y M).cls n (k_y a))
          | _ => pj_is d (.methodLinkNest (k_y M).cls n (k_y a) "LieAlgebra")) && (Nat.ble (k_fr a + 1) (k_fr M) && Nat.ble (8 + (k_nL a + 11) + k_lo a) (k_lo M))))
        | _ => false
      | .invokestatic n => match b with
        | 0 => Nat.blt a 100 && (Nat.beq (k_kd a) 0 && ((match c with
          | 0 => pj_is d (.methodLink (k_y M).cls n (k_y a))
          | _ => pj_is d (.methodLinkNest (k_y M).cls n (k_y a) "LieAlgebra")) && (Nat.ble (k_fr a + 1) (k_fr M) && Nat.ble (8 + (k_nL a + 11) + k_lo a) (k_lo M))))
        | 2 => pj_is d (.methodLink (k_y M).cls n arraycopyName) && (Nat.ble 1 (k_fr M) && Nat.ble (8 + (nativeFrameWords "java/lang/System" "arraycopy" 5 + 11)) (k_lo M))
        | _ => false
      | _ => true)
/-- what holds of a method that may be called -/
def pj_okI (M : Nat) : Bool :=
  plainFor (k_y M) && (pj_is (k_cw M) (.code (k_y M) (k_b M) (k_nL M) (k_ret M)) && (pj_is (k_nw M) (.initialized (k_y M).cls) &&
  (decide ((k_y M).cls ≠ "java/lang/invoke/MethodHandle" ∧ (k_y M).cls ≠ "java/lang/invoke/VarHandle") &&
  (decide ((parseMethodDescriptor (k_y M).desc).map (fun d => d.parameters.length) = some (match k_kd M with | 0 => k_na M | _ => k_na M - 1)) && (Nat.ble (k_na M) (k_nL M) &&
  ((match k_kd M with
    | 0 => pj_is (k_iw M) (.static (k_y M))
    | 1 => Nat.blt 0 (k_na M) && (pj_is (k_iw M) (.instanceMethod (k_y M)) && (pj_is (k_sw M) (.selects (k_y M).cls (k_y M) (k_y M)) && decide ((pj_at vwCl (k_ci M)).map (fun q => q.1) = some (k_y M).cls)))
    | 2 => Nat.blt 0 (k_na M) && (pj_is (k_iw M) (.instanceMethod (k_y M)) && decide ((k_y M).name = "<init>" ∧ k_ret M = none))
    | _ => false) &&
  (match k_rt M, k_ret M with
    | 0, none => true
    | 1, some .int => true
    | 2, some .boolean => true
    | 3, some (.object _) => true
    | 4, some .long => true
    | _, _ => false)))))))
theorem pj_fin {M : Nat} {f : Nat → Option pj_E} (B : Nat) (h : ∀ pc, pc < B → (match f pc with | some e => pj_okE M pc e | none => true) = true) (h2 : ∀ pc, B ≤ pc → f pc = none) : ∀ pc e, f pc = some e → pj_okE M pc e = true := by
  intro pc e he
  rcases Nat.lt_or_ge pc B with q | q
  · have := h pc q
    rw [he] at this
    exact this
  · rw [h2 pc q] at he
    cases he
end
section
set_option maxRecDepth 100000 in
theorem kn_Change_init : ∀ pc e, kc_Change_init pc = some e → pj_okE 0 pc e = true := pj_fin 35 (by decide +kernel) (fun pc h => by show cond (Nat.ble 35 pc) none _ = none; rw [Nat.ble_eq_true_of_le h]; rfl)
set_option maxRecDepth 100000 in
theorem kn_Change_add : ∀ pc e, kc_Change_add pc = some e → pj_okE 1 pc e = true := pj_fin 74 (by decide +kernel) (fun pc h => by show cond (Nat.ble 74 pc) none _ = none; rw [Nat.ble_eq_true_of_le h]; rfl)
set_option maxRecDepth 100000 in
theorem kn_Change_begin : ∀ pc e, kc_Change_begin pc = some e → pj_okE 2 pc e = true := pj_fin 52 (by decide +kernel) (fun pc h => by show cond (Nat.ble 52 pc) none _ = none; rw [Nat.ble_eq_true_of_le h]; rfl)
set_option maxRecDepth 100000 in
theorem kn_Change_apply : ∀ pc e, kc_Change_apply pc = some e → pj_okE 3 pc e = true := pj_fin 111 (by decide +kernel) (fun pc h => by show cond (Nat.ble 111 pc) none _ = none; rw [Nat.ble_eq_true_of_le h]; rfl)
set_option maxRecDepth 100000 in
theorem kn_Change_rewrite : ∀ pc e, kc_Change_rewrite pc = some e → pj_okE 4 pc e = true := pj_fin 49 (by decide +kernel) (fun pc h => by show cond (Nat.ble 49 pc) none _ = none; rw [Nat.ble_eq_true_of_le h]; rfl)
set_option maxRecDepth 100000 in
theorem kn_Change_scale : ∀ pc e, kc_Change_scale pc = some e → pj_okE 5 pc e = true := pj_fin 55 (by decide +kernel) (fun pc h => by show cond (Nat.ble 55 pc) none _ = none; rw [Nat.ble_eq_true_of_le h]; rfl)
set_option maxRecDepth 100000 in
theorem kn_Change_exchange : ∀ pc e, kc_Change_exchange pc = some e → pj_okE 6 pc e = true := pj_fin 73 (by decide +kernel) (fun pc h => by show cond (Nat.ble 73 pc) none _ = none; rw [Nat.ble_eq_true_of_le h]; rfl)
set_option maxRecDepth 100000 in
theorem kn_Maps_init : ∀ pc e, kc_Maps_init pc = some e → pj_okE 7 pc e = true := pj_fin 35 (by decide +kernel) (fun pc h => by show cond (Nat.ble 35 pc) none _ = none; rw [Nat.ble_eq_true_of_le h]; rfl)
set_option maxRecDepth 100000 in
theorem kn_Maps_radicalSize : ∀ pc e, kc_Maps_radicalSize pc = some e → pj_okE 8 pc e = true := pj_fin 111 (by decide +kernel) (fun pc h => by show cond (Nat.ble 111 pc) none _ = none; rw [Nat.ble_eq_true_of_le h]; rfl)
set_option maxRecDepth 100000 in
theorem kn_Maps_trace : ∀ pc e, kc_Maps_trace pc = some e → pj_okE 9 pc e = true := pj_fin 73 (by decide +kernel) (fun pc h => by show cond (Nat.ble 73 pc) none _ = none; rw [Nat.ble_eq_true_of_le h]; rfl)
set_option maxRecDepth 100000 in
theorem kn_Maps_derivationCount : ∀ pc e, kc_Maps_derivationCount pc = some e → pj_okE 10 pc e = true := pj_fin 119 (by decide +kernel) (fun pc h => by show cond (Nat.ble 119 pc) none _ = none; rw [Nat.ble_eq_true_of_le h]; rfl)
set_option maxRecDepth 100000 in
theorem kn_Maps_addDerivationRule : ∀ pc e, kc_Maps_addDerivationRule pc = some e → pj_okE 11 pc e = true := pj_fin 128 (by decide +kernel) (fun pc h => by show cond (Nat.ble 128 pc) none _ = none; rw [Nat.ble_eq_true_of_le h]; rfl)
set_option maxRecDepth 100000 in
theorem kn_Maps_unknown : ∀ pc e, kc_Maps_unknown pc = some e → pj_okE 12 pc e = true := pj_fin 12 (by decide +kernel) (fun pc h => by show cond (Nat.ble 12 pc) none _ = none; rw [Nat.ble_eq_true_of_le h]; rfl)
set_option maxRecDepth 100000 in
theorem kn_Script_init : ∀ pc e, kc_Script_init pc = some e → pj_okE 13 pc e = true := pj_fin 24 (by decide +kernel) (fun pc h => by show cond (Nat.ble 24 pc) none _ = none; rw [Nat.ble_eq_true_of_le h]; rfl)
set_option maxRecDepth 100000 in
theorem kn_Shelf_init : ∀ pc e, kc_Shelf_init pc = some e → pj_okE 14 pc e = true := pj_fin 32 (by decide +kernel) (fun pc h => by show cond (Nat.ble 32 pc) none _ = none; rw [Nat.ble_eq_true_of_le h]; rfl)
set_option maxRecDepth 100000 in
theorem kn_Shelf_dropFirst : ∀ pc e, kc_Shelf_dropFirst pc = some e → pj_okE 15 pc e = true := pj_fin 23 (by decide +kernel) (fun pc h => by show cond (Nat.ble 23 pc) none _ = none; rw [Nat.ble_eq_true_of_le h]; rfl)
set_option maxRecDepth 100000 in
theorem kn_Shelf_keep : ∀ pc e, kc_Shelf_keep pc = some e → pj_okE 16 pc e = true := pj_fin 58 (by decide +kernel) (fun pc h => by show cond (Nat.ble 58 pc) none _ = none; rw [Nat.ble_eq_true_of_le h]; rfl)
set_option maxRecDepth 100000 in
theorem kn_Shelf_fetch : ∀ pc e, kc_Shelf_fetch pc = some e → pj_okE 17 pc e = true := pj_fin 58 (by decide +kernel) (fun pc h => by show cond (Nat.ble 58 pc) none _ = none; rw [Nat.ble_eq_true_of_le h]; rfl)
set_option maxRecDepth 100000 in
theorem kn_Shelf_isEmpty : ∀ pc e, kc_Shelf_isEmpty pc = some e → pj_okE 18 pc e = true := pj_fin 20 (by decide +kernel) (fun pc h => by show cond (Nat.ble 20 pc) none _ = none; rw [Nat.ble_eq_true_of_le h]; rfl)
set_option maxRecDepth 100000 in
theorem kn_Spaces_init : ∀ pc e, kc_Spaces_init pc = some e → pj_okE 19 pc e = true := pj_fin 46 (by decide +kernel) (fun pc h => by show cond (Nat.ble 46 pc) none _ = none; rw [Nat.ble_eq_true_of_le h]; rfl)
set_option maxRecDepth 100000 in
theorem kn_Spaces_derived : ∀ pc e, kc_Spaces_derived pc = some e → pj_okE 20 pc e = true := pj_fin 7 (by decide +kernel) (fun pc h => by show cond (Nat.ble 7 pc) none _ = none; rw [Nat.ble_eq_true_of_le h]; rfl)
set_option maxRecDepth 100000 in
theorem kn_Spaces_descend : ∀ pc e, kc_Spaces_descend pc = some e → pj_okE 21 pc e = true := pj_fin 120 (by decide +kernel) (fun pc h => by show cond (Nat.ble 120 pc) none _ = none; rw [Nat.ble_eq_true_of_le h]; rfl)
set_option maxRecDepth 100000 in
theorem kn_Spaces_fill : ∀ pc e, kc_Spaces_fill pc = some e → pj_okE 22 pc e = true := pj_fin 55 (by decide +kernel) (fun pc h => by show cond (Nat.ble 55 pc) none _ = none; rw [Nat.ble_eq_true_of_le h]; rfl)
set_option maxRecDepth 100000 in
theorem kn_Spaces_addProducts : ∀ pc e, kc_Spaces_addProducts pc = some e → pj_okE 23 pc e = true := pj_fin 96 (by decide +kernel) (fun pc h => by show cond (Nat.ble 96 pc) none _ = none; rw [Nat.ble_eq_true_of_le h]; rfl)
set_option maxRecDepth 100000 in
theorem kn_Spaces_lowerCentral : ∀ pc e, kc_Spaces_lowerCentral pc = some e → pj_okE 24 pc e = true := pj_fin 7 (by decide +kernel) (fun pc h => by show cond (Nat.ble 7 pc) none _ = none; rw [Nat.ble_eq_true_of_le h]; rfl)
set_option maxRecDepth 100000 in
theorem kn_Spaces_center : ∀ pc e, kc_Spaces_center pc = some e → pj_okE 25 pc e = true := pj_fin 127 (by decide +kernel) (fun pc h => by show cond (Nat.ble 127 pc) none _ = none; rw [Nat.ble_eq_true_of_le h]; rfl)
set_option maxRecDepth 100000 in
theorem kn_Spaces_bracketsWith : ∀ pc e, kc_Spaces_bracketsWith pc = some e → pj_okE 26 pc e = true := pj_fin 73 (by decide +kernel) (fun pc h => by show cond (Nat.ble 73 pc) none _ = none; rw [Nat.ble_eq_true_of_le h]; rfl)
set_option maxRecDepth 100000 in
theorem kn_Spaces_ideal : ∀ pc e, kc_Spaces_ideal pc = some e → pj_okE 27 pc e = true := pj_fin 59 (by decide +kernel) (fun pc h => by show cond (Nat.ble 59 pc) none _ = none; rw [Nat.ble_eq_true_of_le h]; rfl)
set_option maxRecDepth 100000 in
theorem kn_Spaces_close : ∀ pc e, kc_Spaces_close pc = some e → pj_okE 28 pc e = true := pj_fin 36 (by decide +kernel) (fun pc h => by show cond (Nat.ble 36 pc) none _ = none; rw [Nat.ble_eq_true_of_le h]; rfl)
set_option maxRecDepth 100000 in
theorem kn_Spaces_subalgebra : ∀ pc e, kc_Spaces_subalgebra pc = some e → pj_okE 29 pc e = true := pj_fin 64 (by decide +kernel) (fun pc h => by show cond (Nat.ble 64 pc) none _ = none; rw [Nat.ble_eq_true_of_le h]; rfl)
set_option maxRecDepth 100000 in
theorem kn_Subspace_init : ∀ pc e, kc_Subspace_init pc = some e → pj_okE 30 pc e = true := pj_fin 41 (by decide +kernel) (fun pc h => by show cond (Nat.ble 41 pc) none _ = none; rw [Nat.ble_eq_true_of_le h]; rfl)
set_option maxRecDepth 100000 in
theorem kn_Subspace_begin : ∀ pc e, kc_Subspace_begin pc = some e → pj_okE 31 pc e = true := pj_fin 35 (by decide +kernel) (fun pc h => by show cond (Nat.ble 35 pc) none _ = none; rw [Nat.ble_eq_true_of_le h]; rfl)
set_option maxRecDepth 100000 in
theorem kn_Subspace_join : ∀ pc e, kc_Subspace_join pc = some e → pj_okE 32 pc e = true := pj_fin 32 (by decide +kernel) (fun pc h => by show cond (Nat.ble 32 pc) none _ = none; rw [Nat.ble_eq_true_of_le h]; rfl)
set_option maxRecDepth 100000 in
theorem kn_Subspace_addIncoming : ∀ pc e, kc_Subspace_addIncoming pc = some e → pj_okE 33 pc e = true := pj_fin 63 (by decide +kernel) (fun pc h => by show cond (Nat.ble 63 pc) none _ = none; rw [Nat.ble_eq_true_of_le h]; rfl)
set_option maxRecDepth 100000 in
theorem kn_Subspace_takeIncoming : ∀ pc e, kc_Subspace_takeIncoming pc = some e → pj_okE 34 pc e = true := pj_fin 163 (by decide +kernel) (fun pc h => by show cond (Nat.ble 163 pc) none _ = none; rw [Nat.ble_eq_true_of_le h]; rfl)
set_option maxRecDepth 100000 in
theorem kn_Subspace_hasLead : ∀ pc e, kc_Subspace_hasLead pc = some e → pj_okE 35 pc e = true := pj_fin 37 (by decide +kernel) (fun pc h => by show cond (Nat.ble 37 pc) none _ = none; rw [Nat.ble_eq_true_of_le h]; rfl)
set_option maxRecDepth 100000 in
theorem kn_Subspace_cell : ∀ pc e, kc_Subspace_cell pc = some e → pj_okE 36 pc e = true := pj_fin 33 (by decide +kernel) (fun pc h => by show cond (Nat.ble 33 pc) none _ = none; rw [Nat.ble_eq_true_of_le h]; rfl)
set_option maxRecDepth 100000 in
theorem kn_Subspace_addRow : ∀ pc e, kc_Subspace_addRow pc = some e → pj_okE 37 pc e = true := pj_fin 121 (by decide +kernel) (fun pc h => by show cond (Nat.ble 121 pc) none _ = none; rw [Nat.ble_eq_true_of_le h]; rfl)
set_option maxRecDepth 100000 in
theorem kn_Subspace_vector : ∀ pc e, kc_Subspace_vector pc = some e → pj_okE 38 pc e = true := pj_fin 43 (by decide +kernel) (fun pc h => by show cond (Nat.ble 43 pc) none _ = none; rw [Nat.ble_eq_true_of_le h]; rfl)
set_option maxRecDepth 100000 in
theorem kn_Subspace_rowAsVector : ∀ pc e, kc_Subspace_rowAsVector pc = some e → pj_okE 39 pc e = true := pj_fin 43 (by decide +kernel) (fun pc h => by show cond (Nat.ble 43 pc) none _ = none; rw [Nat.ble_eq_true_of_le h]; rfl)
set_option maxRecDepth 100000 in
theorem kn_Subspace_solveInto : ∀ pc e, kc_Subspace_solveInto pc = some e → pj_okE 40 pc e = true := pj_fin 79 (by decide +kernel) (fun pc h => by show cond (Nat.ble 79 pc) none _ = none; rw [Nat.ble_eq_true_of_le h]; rfl)
set_option maxRecDepth 100000 in
theorem kn_Table_init : ∀ pc e, kc_Table_init pc = some e → pj_okE 41 pc e = true := pj_fin 23 (by decide +kernel) (fun pc h => by show cond (Nat.ble 23 pc) none _ = none; rw [Nat.ble_eq_true_of_le h]; rfl)
set_option maxRecDepth 100000 in
theorem kn_Table_begin : ∀ pc e, kc_Table_begin pc = some e → pj_okE 42 pc e = true := pj_fin 19 (by decide +kernel) (fun pc h => by show cond (Nat.ble 19 pc) none _ = none; rw [Nat.ble_eq_true_of_le h]; rfl)
set_option maxRecDepth 100000 in
theorem kn_Table_vectorCount : ∀ pc e, kc_Table_vectorCount pc = some e → pj_okE 43 pc e = true := pj_fin 9 (by decide +kernel) (fun pc h => by show cond (Nat.ble 9 pc) none _ = none; rw [Nat.ble_eq_true_of_le h]; rfl)
set_option maxRecDepth 100000 in
theorem kn_Table_power : ∀ pc e, kc_Table_power pc = some e → pj_okE 44 pc e = true := pj_fin 29 (by decide +kernel) (fun pc h => by show cond (Nat.ble 29 pc) none _ = none; rw [Nat.ble_eq_true_of_le h]; rfl)
set_option maxRecDepth 100000 in
theorem kn_Table_hasPair : ∀ pc e, kc_Table_hasPair pc = some e → pj_okE 45 pc e = true := pj_fin 27 (by decide +kernel) (fun pc h => by show cond (Nat.ble 27 pc) none _ = none; rw [Nat.ble_eq_true_of_le h]; rfl)
set_option maxRecDepth 100000 in
theorem kn_Table_hasIndex : ∀ pc e, kc_Table_hasIndex pc = some e → pj_okE 46 pc e = true := pj_fin 18 (by decide +kernel) (fun pc h => by show cond (Nat.ble 18 pc) none _ = none; rw [Nat.ble_eq_true_of_le h]; rfl)
set_option maxRecDepth 100000 in
theorem kn_Table_hasVector : ∀ pc e, kc_Table_hasVector pc = some e → pj_okE 47 pc e = true := pj_fin 18 (by decide +kernel) (fun pc h => by show cond (Nat.ble 18 pc) none _ = none; rw [Nat.ble_eq_true_of_le h]; rfl)
set_option maxRecDepth 100000 in
theorem kn_Table_entry : ∀ pc e, kc_Table_entry pc = some e → pj_okE 48 pc e = true := pj_fin 13 (by decide +kernel) (fun pc h => by show cond (Nat.ble 13 pc) none _ = none; rw [Nat.ble_eq_true_of_le h]; rfl)
set_option maxRecDepth 100000 in
theorem kn_Table_setEntry : ∀ pc e, kc_Table_setEntry pc = some e → pj_okE 49 pc e = true := pj_fin 33 (by decide +kernel) (fun pc h => by show cond (Nat.ble 33 pc) none _ = none; rw [Nat.ble_eq_true_of_le h]; rfl)
set_option maxRecDepth 100000 in
theorem kn_Table_plus : ∀ pc e, kc_Table_plus pc = some e → pj_okE 50 pc e = true := pj_fin 106 (by decide +kernel) (fun pc h => by show cond (Nat.ble 106 pc) none _ = none; rw [Nat.ble_eq_true_of_le h]; rfl)
set_option maxRecDepth 100000 in
theorem kn_Table_reduce : ∀ pc e, kc_Table_reduce pc = some e → pj_okE 51 pc e = true := pj_fin 32 (by decide +kernel) (fun pc h => by show cond (Nat.ble 32 pc) none _ = none; rw [Nat.ble_eq_true_of_le h]; rfl)
set_option maxRecDepth 100000 in
theorem kn_Table_hasFactor : ∀ pc e, kc_Table_hasFactor pc = some e → pj_okE 52 pc e = true := pj_fin 19 (by decide +kernel) (fun pc h => by show cond (Nat.ble 19 pc) none _ = none; rw [Nat.ble_eq_true_of_le h]; rfl)
set_option maxRecDepth 100000 in
theorem kn_Table_product : ∀ pc e, kc_Table_product pc = some e → pj_okE 53 pc e = true := pj_fin 119 (by decide +kernel) (fun pc h => by show cond (Nat.ble 119 pc) none _ = none; rw [Nat.ble_eq_true_of_le h]; rfl)
set_option maxRecDepth 100000 in
theorem kn_Table_coordinate : ∀ pc e, kc_Table_coordinate pc = some e → pj_okE 54 pc e = true := pj_fin 31 (by decide +kernel) (fun pc h => by show cond (Nat.ble 31 pc) none _ = none; rw [Nat.ble_eq_true_of_le h]; rfl)
set_option maxRecDepth 100000 in
theorem kn_Table_copyFrom : ∀ pc e, kc_Table_copyFrom pc = some e → pj_okE 55 pc e = true := pj_fin 35 (by decide +kernel) (fun pc h => by show cond (Nat.ble 35 pc) none _ = none; rw [Nat.ble_eq_true_of_le h]; rfl)
set_option maxRecDepth 100000 in
theorem kn_Table_pairsWithBracket : ∀ pc e, kc_Table_pairsWithBracket pc = some e → pj_okE 56 pc e = true := pj_fin 48 (by decide +kernel) (fun pc h => by show cond (Nat.ble 48 pc) none _ = none; rw [Nat.ble_eq_true_of_le h]; rfl)
set_option maxRecDepth 100000 in
theorem kn_Table_jacobiValue : ∀ pc e, kc_Table_jacobiValue pc = some e → pj_okE 57 pc e = true := pj_fin 64 (by decide +kernel) (fun pc h => by show cond (Nat.ble 64 pc) none _ = none; rw [Nat.ble_eq_true_of_le h]; rfl)
set_option maxRecDepth 100000 in
theorem kn_Li_init : ∀ pc e, kc_Li_init pc = some e → pj_okE 58 pc e = true := pj_fin 97 (by decide +kernel) (fun pc h => by show cond (Nat.ble 97 pc) none _ = none; rw [Nat.ble_eq_true_of_le h]; rfl)
set_option maxRecDepth 100000 in
theorem kn_Li_configure : ∀ pc e, kc_Li_configure pc = some e → pj_okE 59 pc e = true := pj_fin 64 (by decide +kernel) (fun pc h => by show cond (Nat.ble 64 pc) none _ = none; rw [Nat.ble_eq_true_of_le h]; rfl)
set_option maxRecDepth 100000 in
theorem kn_Li_remember : ∀ pc e, kc_Li_remember pc = some e → pj_okE 60 pc e = true := pj_fin 52 (by decide +kernel) (fun pc h => by show cond (Nat.ble 52 pc) none _ = none; rw [Nat.ble_eq_true_of_le h]; rfl)
set_option maxRecDepth 100000 in
theorem kn_Li_setBracket : ∀ pc e, kc_Li_setBracket pc = some e → pj_okE 61 pc e = true := pj_fin 53 (by decide +kernel) (fun pc h => by show cond (Nat.ble 53 pc) none _ = none; rw [Nat.ble_eq_true_of_le h]; rfl)
set_option maxRecDepth 100000 in
theorem kn_Li_at : ∀ pc e, kc_Li_at pc = some e → pj_okE 62 pc e = true := pj_fin 18 (by decide +kernel) (fun pc h => by show cond (Nat.ble 18 pc) none _ = none; rw [Nat.ble_eq_true_of_le h]; rfl)
set_option maxRecDepth 100000 in
theorem kn_Li_put : ∀ pc e, kc_Li_put pc = some e → pj_okE 63 pc e = true := pj_fin 15 (by decide +kernel) (fun pc h => by show cond (Nat.ble 15 pc) none _ = none; rw [Nat.ble_eq_true_of_le h]; rfl)
set_option maxRecDepth 100000 in
theorem kn_Li_addBasis : ∀ pc e, kc_Li_addBasis pc = some e → pj_okE 64 pc e = true := pj_fin 49 (by decide +kernel) (fun pc h => by show cond (Nat.ble 49 pc) none _ = none; rw [Nat.ble_eq_true_of_le h]; rfl)
set_option maxRecDepth 100000 in
theorem kn_Li_scaleBasis : ∀ pc e, kc_Li_scaleBasis pc = some e → pj_okE 65 pc e = true := pj_fin 45 (by decide +kernel) (fun pc h => by show cond (Nat.ble 45 pc) none _ = none; rw [Nat.ble_eq_true_of_le h]; rfl)
set_option maxRecDepth 100000 in
theorem kn_Li_inverse : ∀ pc e, kc_Li_inverse pc = some e → pj_okE 66 pc e = true := pj_fin 26 (by decide +kernel) (fun pc h => by show cond (Nat.ble 26 pc) none _ = none; rw [Nat.ble_eq_true_of_le h]; rfl)
set_option maxRecDepth 100000 in
theorem kn_Li_swapBasis : ∀ pc e, kc_Li_swapBasis pc = some e → pj_okE 67 pc e = true := pj_fin 37 (by decide +kernel) (fun pc h => by show cond (Nat.ble 37 pc) none _ = none; rw [Nat.ble_eq_true_of_le h]; rfl)
set_option maxRecDepth 100000 in
theorem kn_Li_undo : ∀ pc e, kc_Li_undo pc = some e → pj_okE 68 pc e = true := pj_fin 40 (by decide +kernel) (fun pc h => by show cond (Nat.ble 40 pc) none _ = none; rw [Nat.ble_eq_true_of_le h]; rfl)
set_option maxRecDepth 100000 in
theorem kn_Li_save : ∀ pc e, kc_Li_save pc = some e → pj_okE 69 pc e = true := pj_fin 31 (by decide +kernel) (fun pc h => by show cond (Nat.ble 31 pc) none _ = none; rw [Nat.ble_eq_true_of_le h]; rfl)
set_option maxRecDepth 100000 in
theorem kn_Li_restore : ∀ pc e, kc_Li_restore pc = some e → pj_okE 70 pc e = true := pj_fin 50 (by decide +kernel) (fun pc h => by show cond (Nat.ble 50 pc) none _ = none; rw [Nat.ble_eq_true_of_le h]; rfl)
set_option maxRecDepth 100000 in
theorem kn_Li_prime : ∀ pc e, kc_Li_prime pc = some e → pj_okE 71 pc e = true := pj_fin 8 (by decide +kernel) (fun pc h => by show cond (Nat.ble 8 pc) none _ = none; rw [Nat.ble_eq_true_of_le h]; rfl)
set_option maxRecDepth 100000 in
theorem kn_Li_dimension : ∀ pc e, kc_Li_dimension pc = some e → pj_okE 72 pc e = true := pj_fin 8 (by decide +kernel) (fun pc h => by show cond (Nat.ble 8 pc) none _ = none; rw [Nat.ble_eq_true_of_le h]; rfl)
set_option maxRecDepth 100000 in
theorem kn_Li_bracket : ∀ pc e, kc_Li_bracket pc = some e → pj_okE 73 pc e = true := pj_fin 34 (by decide +kernel) (fun pc h => by show cond (Nat.ble 34 pc) none _ = none; rw [Nat.ble_eq_true_of_le h]; rfl)
set_option maxRecDepth 100000 in
theorem kn_Li_jacobiFailure : ∀ pc e, kc_Li_jacobiFailure pc = some e → pj_okE 74 pc e = true := pj_fin 89 (by decide +kernel) (fun pc h => by show cond (Nat.ble 89 pc) none _ = none; rw [Nat.ble_eq_true_of_le h]; rfl)
set_option maxRecDepth 100000 in
theorem kn_Li_derivedDimension : ∀ pc e, kc_Li_derivedDimension pc = some e → pj_okE 75 pc e = true := pj_fin 24 (by decide +kernel) (fun pc h => by show cond (Nat.ble 24 pc) none _ = none; rw [Nat.ble_eq_true_of_le h]; rfl)
set_option maxRecDepth 100000 in
theorem kn_Li_lowerCentralDimension : ∀ pc e, kc_Li_lowerCentralDimension pc = some e → pj_okE 76 pc e = true := pj_fin 24 (by decide +kernel) (fun pc h => by show cond (Nat.ble 24 pc) none _ = none; rw [Nat.ble_eq_true_of_le h]; rfl)
set_option maxRecDepth 100000 in
theorem kn_Li_kind : ∀ pc e, kc_Li_kind pc = some e → pj_okE 77 pc e = true := pj_fin 38 (by decide +kernel) (fun pc h => by show cond (Nat.ble 38 pc) none _ = none; rw [Nat.ble_eq_true_of_le h]; rfl)
set_option maxRecDepth 100000 in
theorem kn_Li_centerDimension : ∀ pc e, kc_Li_centerDimension pc = some e → pj_okE 78 pc e = true := pj_fin 11 (by decide +kernel) (fun pc h => by show cond (Nat.ble 11 pc) none _ = none; rw [Nat.ble_eq_true_of_le h]; rfl)
set_option maxRecDepth 100000 in
theorem kn_Li_killingRadicalDimension : ∀ pc e, kc_Li_killingRadicalDimension pc = some e → pj_okE 79 pc e = true := pj_fin 8 (by decide +kernel) (fun pc h => by show cond (Nat.ble 8 pc) none _ = none; rw [Nat.ble_eq_true_of_le h]; rfl)
set_option maxRecDepth 100000 in
theorem kn_Li_derivationDimension : ∀ pc e, kc_Li_derivationDimension pc = some e → pj_okE 80 pc e = true := pj_fin 8 (by decide +kernel) (fun pc h => by show cond (Nat.ble 8 pc) none _ = none; rw [Nat.ble_eq_true_of_le h]; rfl)
set_option maxRecDepth 100000 in
theorem kn_Li_killing : ∀ pc e, kc_Li_killing pc = some e → pj_okE 81 pc e = true := pj_fin 34 (by decide +kernel) (fun pc h => by show cond (Nat.ble 34 pc) none _ = none; rw [Nat.ble_eq_true_of_le h]; rfl)
set_option maxRecDepth 100000 in
theorem kn_Li_centralizerDimension : ∀ pc e, kc_Li_centralizerDimension pc = some e → pj_okE 82 pc e = true := pj_fin 33 (by decide +kernel) (fun pc h => by show cond (Nat.ble 33 pc) none _ = none; rw [Nat.ble_eq_true_of_le h]; rfl)
set_option maxRecDepth 100000 in
theorem kn_Li_idealDimension : ∀ pc e, kc_Li_idealDimension pc = some e → pj_okE 83 pc e = true := pj_fin 25 (by decide +kernel) (fun pc h => by show cond (Nat.ble 25 pc) none _ = none; rw [Nat.ble_eq_true_of_le h]; rfl)
set_option maxRecDepth 100000 in
theorem kn_Li_subalgebraDimension : ∀ pc e, kc_Li_subalgebraDimension pc = some e → pj_okE 84 pc e = true := pj_fin 37 (by decide +kernel) (fun pc h => by show cond (Nat.ble 37 pc) none _ = none; rw [Nat.ble_eq_true_of_le h]; rfl)
set_option maxRecDepth 100000 in
theorem kn_Li_derivedVector : ∀ pc e, kc_Li_derivedVector pc = some e → pj_okE 85 pc e = true := pj_fin 29 (by decide +kernel) (fun pc h => by show cond (Nat.ble 29 pc) none _ = none; rw [Nat.ble_eq_true_of_le h]; rfl)
set_option maxRecDepth 100000 in
theorem kn_Math_min : ∀ pc e, kc_Math_min pc = some e → pj_okE 86 pc e = true := pj_fin 11 (by decide +kernel) (fun pc h => by show cond (Nat.ble 11 pc) none _ = none; rw [Nat.ble_eq_true_of_le h]; rfl)
set_option maxRecDepth 100000 in
theorem kn_Math_max : ∀ pc e, kc_Math_max pc = some e → pj_okE 87 pc e = true := pj_fin 11 (by decide +kernel) (fun pc h => by show cond (Nat.ble 11 pc) none _ = none; rw [Nat.ble_eq_true_of_le h]; rfl)
set_option maxRecDepth 100000 in
theorem kn_Arrays_fill : ∀ pc e, kc_Arrays_fill pc = some e → pj_okE 88 pc e = true := pj_fin 21 (by decide +kernel) (fun pc h => by show cond (Nat.ble 21 pc) none _ = none; rw [Nat.ble_eq_true_of_le h]; rfl)
set_option maxRecDepth 100000 in
theorem kn_Lw_cell : ∀ pc e, kc_Lw_cell pc = some e → pj_okE 89 pc e = true := pj_fin 25 (by decide +kernel) (fun pc h => by show cond (Nat.ble 25 pc) none _ = none; rw [Nat.ble_eq_true_of_le h]; rfl)
set_option maxRecDepth 100000 in
theorem kn_Lw_low : ∀ pc e, kc_Lw_low pc = some e → pj_okE 90 pc e = true := pj_fin 7 (by decide +kernel) (fun pc h => by show cond (Nat.ble 7 pc) none _ = none; rw [Nat.ble_eq_true_of_le h]; rfl)
set_option maxRecDepth 100000 in
theorem kn_Lw_power : ∀ pc e, kc_Lw_power pc = some e → pj_okE 91 pc e = true := pj_fin 21 (by decide +kernel) (fun pc h => by show cond (Nat.ble 21 pc) none _ = none; rw [Nat.ble_eq_true_of_le h]; rfl)
set_option maxRecDepth 100000 in
theorem kn_Lw_mod : ∀ pc e, kc_Lw_mod pc = some e → pj_okE 92 pc e = true := pj_fin 8 (by decide +kernel) (fun pc h => by show cond (Nat.ble 8 pc) none _ = none; rw [Nat.ble_eq_true_of_le h]; rfl)
set_option maxRecDepth 100000 in
theorem kn_Lw_digest : ∀ pc e, kc_Lw_digest pc = some e → pj_okE 93 pc e = true := pj_fin 83 (by decide +kernel) (fun pc h => by show cond (Nat.ble 83 pc) none _ = none; rw [Nat.ble_eq_true_of_le h]; rfl)
set_option maxRecDepth 100000 in
theorem kn_Lw_kinds : ∀ pc e, kc_Lw_kinds pc = some e → pj_okE 94 pc e = true := pj_fin 97 (by decide +kernel) (fun pc h => by show cond (Nat.ble 97 pc) none _ = none; rw [Nat.ble_eq_true_of_le h]; rfl)
set_option maxRecDepth 100000 in
theorem kn_Math_floorMod : ∀ pc e, kc_Math_floorMod pc = some e → pj_okE 95 pc e = true := pj_fin 20 (by decide +kernel) (fun pc h => by show cond (Nat.ble 20 pc) none _ = none; rw [Nat.ble_eq_true_of_le h]; rfl)
set_option maxRecDepth 100000 in
theorem kn_Lw_linear_0 : ∀ q, q < 60 → (match kc_Lw_linear (0 + q) with | some e => pj_okE 96 (0 + q) e | none => true) = true := by decide +kernel
set_option maxRecDepth 100000 in
theorem kn_Lw_linear_60 : ∀ q, q < 60 → (match kc_Lw_linear (60 + q) with | some e => pj_okE 96 (60 + q) e | none => true) = true := by decide +kernel
set_option maxRecDepth 100000 in
theorem kn_Lw_linear_120 : ∀ q, q < 60 → (match kc_Lw_linear (120 + q) with | some e => pj_okE 96 (120 + q) e | none => true) = true := by decide +kernel
set_option maxRecDepth 100000 in
theorem kn_Lw_linear_180 : ∀ q, q < 60 → (match kc_Lw_linear (180 + q) with | some e => pj_okE 96 (180 + q) e | none => true) = true := by decide +kernel
set_option maxRecDepth 100000 in
theorem kn_Lw_linear_240 : ∀ q, q < 60 → (match kc_Lw_linear (240 + q) with | some e => pj_okE 96 (240 + q) e | none => true) = true := by decide +kernel
set_option maxRecDepth 100000 in
theorem kn_Lw_linear_300 : ∀ q, q < 60 → (match kc_Lw_linear (300 + q) with | some e => pj_okE 96 (300 + q) e | none => true) = true := by decide +kernel
set_option maxRecDepth 100000 in
theorem kn_Lw_linear : ∀ pc e, kc_Lw_linear pc = some e → pj_okE 96 pc e = true := pj_fin 346 (by
  intro pc h
  by_cases h0 : pc < 60
  · have := kn_Lw_linear_0 (pc - 0) (by omega)
    rwa [show 0 + (pc - 0) = pc by omega] at this
  by_cases h60 : pc < 120
  · have := kn_Lw_linear_60 (pc - 60) (by omega)
    rwa [show 60 + (pc - 60) = pc by omega] at this
  by_cases h120 : pc < 180
  · have := kn_Lw_linear_120 (pc - 120) (by omega)
    rwa [show 120 + (pc - 120) = pc by omega] at this
  by_cases h180 : pc < 240
  · have := kn_Lw_linear_180 (pc - 180) (by omega)
    rwa [show 180 + (pc - 180) = pc by omega] at this
  by_cases h240 : pc < 300
  · have := kn_Lw_linear_240 (pc - 240) (by omega)
    rwa [show 240 + (pc - 240) = pc by omega] at this
  by_cases h300 : pc < 360
  · have := kn_Lw_linear_300 (pc - 300) (by omega)
    rwa [show 300 + (pc - 300) = pc by omega] at this
  exact absurd h (by omega)) (fun pc h => by show cond (Nat.ble 346 pc) none _ = none; rw [Nat.ble_eq_true_of_le h]; rfl)
set_option maxRecDepth 100000 in
theorem kn_Lw_sum : ∀ pc e, kc_Lw_sum pc = some e → pj_okE 97 pc e = true := pj_fin 51 (by decide +kernel) (fun pc h => by show cond (Nat.ble 51 pc) none _ = none; rw [Nat.ble_eq_true_of_le h]; rfl)
set_option maxRecDepth 100000 in
theorem kn_Lw_digit : ∀ pc e, kc_Lw_digit pc = some e → pj_okE 98 pc e = true := pj_fin 25 (by decide +kernel) (fun pc h => by show cond (Nat.ble 25 pc) none _ = none; rw [Nat.ble_eq_true_of_le h]; rfl)
set_option maxRecDepth 100000 in
theorem kn_Lw_falls : ∀ pc e, kc_Lw_falls pc = some e → pj_okE 99 pc e = true := pj_fin 213 (by decide +kernel) (fun pc h => by show cond (Nat.ble 213 pc) none _ = none; rw [Nat.ble_eq_true_of_le h]; rfl)
set_option maxRecDepth 100000 in
theorem kn_Lw_law_0 : ∀ q, q < 60 → (match kc_Lw_law (0 + q) with | some e => pj_okE 100 (0 + q) e | none => true) = true := by decide +kernel
set_option maxRecDepth 100000 in
theorem kn_Lw_law_60 : ∀ q, q < 60 → (match kc_Lw_law (60 + q) with | some e => pj_okE 100 (60 + q) e | none => true) = true := by decide +kernel
set_option maxRecDepth 100000 in
theorem kn_Lw_law_120 : ∀ q, q < 60 → (match kc_Lw_law (120 + q) with | some e => pj_okE 100 (120 + q) e | none => true) = true := by decide +kernel
set_option maxRecDepth 100000 in
theorem kn_Lw_law_180 : ∀ q, q < 60 → (match kc_Lw_law (180 + q) with | some e => pj_okE 100 (180 + q) e | none => true) = true := by decide +kernel
set_option maxRecDepth 100000 in
theorem kn_Lw_law_240 : ∀ q, q < 60 → (match kc_Lw_law (240 + q) with | some e => pj_okE 100 (240 + q) e | none => true) = true := by decide +kernel
set_option maxRecDepth 100000 in
theorem kn_Lw_law_300 : ∀ q, q < 60 → (match kc_Lw_law (300 + q) with | some e => pj_okE 100 (300 + q) e | none => true) = true := by decide +kernel
set_option maxRecDepth 100000 in
theorem kn_Lw_law_360 : ∀ q, q < 60 → (match kc_Lw_law (360 + q) with | some e => pj_okE 100 (360 + q) e | none => true) = true := by decide +kernel
set_option maxRecDepth 100000 in
theorem kn_Lw_law_420 : ∀ q, q < 60 → (match kc_Lw_law (420 + q) with | some e => pj_okE 100 (420 + q) e | none => true) = true := by decide +kernel
set_option maxRecDepth 100000 in
theorem kn_Lw_law_480 : ∀ q, q < 60 → (match kc_Lw_law (480 + q) with | some e => pj_okE 100 (480 + q) e | none => true) = true := by decide +kernel
set_option maxRecDepth 100000 in
theorem kn_Lw_law_540 : ∀ q, q < 60 → (match kc_Lw_law (540 + q) with | some e => pj_okE 100 (540 + q) e | none => true) = true := by decide +kernel
set_option maxRecDepth 100000 in
theorem kn_Lw_law_600 : ∀ q, q < 60 → (match kc_Lw_law (600 + q) with | some e => pj_okE 100 (600 + q) e | none => true) = true := by decide +kernel
set_option maxRecDepth 100000 in
theorem kn_Lw_law : ∀ pc e, kc_Lw_law pc = some e → pj_okE 100 pc e = true := pj_fin 634 (by
  intro pc h
  by_cases h0 : pc < 60
  · have := kn_Lw_law_0 (pc - 0) (by omega)
    rwa [show 0 + (pc - 0) = pc by omega] at this
  by_cases h60 : pc < 120
  · have := kn_Lw_law_60 (pc - 60) (by omega)
    rwa [show 60 + (pc - 60) = pc by omega] at this
  by_cases h120 : pc < 180
  · have := kn_Lw_law_120 (pc - 120) (by omega)
    rwa [show 120 + (pc - 120) = pc by omega] at this
  by_cases h180 : pc < 240
  · have := kn_Lw_law_180 (pc - 180) (by omega)
    rwa [show 180 + (pc - 180) = pc by omega] at this
  by_cases h240 : pc < 300
  · have := kn_Lw_law_240 (pc - 240) (by omega)
    rwa [show 240 + (pc - 240) = pc by omega] at this
  by_cases h300 : pc < 360
  · have := kn_Lw_law_300 (pc - 300) (by omega)
    rwa [show 300 + (pc - 300) = pc by omega] at this
  by_cases h360 : pc < 420
  · have := kn_Lw_law_360 (pc - 360) (by omega)
    rwa [show 360 + (pc - 360) = pc by omega] at this
  by_cases h420 : pc < 480
  · have := kn_Lw_law_420 (pc - 420) (by omega)
    rwa [show 420 + (pc - 420) = pc by omega] at this
  by_cases h480 : pc < 540
  · have := kn_Lw_law_480 (pc - 480) (by omega)
    rwa [show 480 + (pc - 480) = pc by omega] at this
  by_cases h540 : pc < 600
  · have := kn_Lw_law_540 (pc - 540) (by omega)
    rwa [show 540 + (pc - 540) = pc by omega] at this
  by_cases h600 : pc < 660
  · have := kn_Lw_law_600 (pc - 600) (by omega)
    rwa [show 600 + (pc - 600) = pc by omega] at this
  exact absurd h (by omega)) (fun pc h => by show cond (Nat.ble 634 pc) none _ = none; rw [Nat.ble_eq_true_of_le h]; rfl)
theorem k_okM : ∀ (M : Nat) (pc : Nat) (e : pj_E), k_cd M pc = some e → pj_okE M pc e = true := fun M => match M with
  | 0 => kn_Change_init
  | 1 => kn_Change_add
  | 2 => kn_Change_begin
  | 3 => kn_Change_apply
  | 4 => kn_Change_rewrite
  | 5 => kn_Change_scale
  | 6 => kn_Change_exchange
  | 7 => kn_Maps_init
  | 8 => kn_Maps_radicalSize
  | 9 => kn_Maps_trace
  | 10 => kn_Maps_derivationCount
  | 11 => kn_Maps_addDerivationRule
  | 12 => kn_Maps_unknown
  | 13 => kn_Script_init
  | 14 => kn_Shelf_init
  | 15 => kn_Shelf_dropFirst
  | 16 => kn_Shelf_keep
  | 17 => kn_Shelf_fetch
  | 18 => kn_Shelf_isEmpty
  | 19 => kn_Spaces_init
  | 20 => kn_Spaces_derived
  | 21 => kn_Spaces_descend
  | 22 => kn_Spaces_fill
  | 23 => kn_Spaces_addProducts
  | 24 => kn_Spaces_lowerCentral
  | 25 => kn_Spaces_center
  | 26 => kn_Spaces_bracketsWith
  | 27 => kn_Spaces_ideal
  | 28 => kn_Spaces_close
  | 29 => kn_Spaces_subalgebra
  | 30 => kn_Subspace_init
  | 31 => kn_Subspace_begin
  | 32 => kn_Subspace_join
  | 33 => kn_Subspace_addIncoming
  | 34 => kn_Subspace_takeIncoming
  | 35 => kn_Subspace_hasLead
  | 36 => kn_Subspace_cell
  | 37 => kn_Subspace_addRow
  | 38 => kn_Subspace_vector
  | 39 => kn_Subspace_rowAsVector
  | 40 => kn_Subspace_solveInto
  | 41 => kn_Table_init
  | 42 => kn_Table_begin
  | 43 => kn_Table_vectorCount
  | 44 => kn_Table_power
  | 45 => kn_Table_hasPair
  | 46 => kn_Table_hasIndex
  | 47 => kn_Table_hasVector
  | 48 => kn_Table_entry
  | 49 => kn_Table_setEntry
  | 50 => kn_Table_plus
  | 51 => kn_Table_reduce
  | 52 => kn_Table_hasFactor
  | 53 => kn_Table_product
  | 54 => kn_Table_coordinate
  | 55 => kn_Table_copyFrom
  | 56 => kn_Table_pairsWithBracket
  | 57 => kn_Table_jacobiValue
  | 58 => kn_Li_init
  | 59 => kn_Li_configure
  | 60 => kn_Li_remember
  | 61 => kn_Li_setBracket
  | 62 => kn_Li_at
  | 63 => kn_Li_put
  | 64 => kn_Li_addBasis
  | 65 => kn_Li_scaleBasis
  | 66 => kn_Li_inverse
  | 67 => kn_Li_swapBasis
  | 68 => kn_Li_undo
  | 69 => kn_Li_save
  | 70 => kn_Li_restore
  | 71 => kn_Li_prime
  | 72 => kn_Li_dimension
  | 73 => kn_Li_bracket
  | 74 => kn_Li_jacobiFailure
  | 75 => kn_Li_derivedDimension
  | 76 => kn_Li_lowerCentralDimension
  | 77 => kn_Li_kind
  | 78 => kn_Li_centerDimension
  | 79 => kn_Li_killingRadicalDimension
  | 80 => kn_Li_derivationDimension
  | 81 => kn_Li_killing
  | 82 => kn_Li_centralizerDimension
  | 83 => kn_Li_idealDimension
  | 84 => kn_Li_subalgebraDimension
  | 85 => kn_Li_derivedVector
  | 86 => kn_Math_min
  | 87 => kn_Math_max
  | 88 => kn_Arrays_fill
  | 89 => kn_Lw_cell
  | 90 => kn_Lw_low
  | 91 => kn_Lw_power
  | 92 => kn_Lw_mod
  | 93 => kn_Lw_digest
  | 94 => kn_Lw_kinds
  | 95 => kn_Math_floorMod
  | 96 => kn_Lw_linear
  | 97 => kn_Lw_sum
  | 98 => kn_Lw_digit
  | 99 => kn_Lw_falls
  | 100 => kn_Lw_law
  | n + 101 => fun pc e h => by rw [show k_cd (n + 101) pc = none from by show cond (Nat.ble 101 (n + 101)) none _ = none; rw [Nat.ble_eq_true_of_le (Nat.le_add_left _ _)]; rfl] at h; cases h
set_option maxRecDepth 100000 in
theorem k_okI_0 : ∀ k, k < 6 → pj_okI (0 + k) = true := by decide +kernel
set_option maxRecDepth 100000 in
theorem k_okI_6 : ∀ k, k < 6 → pj_okI (6 + k) = true := by decide +kernel
set_option maxRecDepth 100000 in
theorem k_okI_12 : ∀ k, k < 6 → pj_okI (12 + k) = true := by decide +kernel
set_option maxRecDepth 100000 in
theorem k_okI_18 : ∀ k, k < 6 → pj_okI (18 + k) = true := by decide +kernel
set_option maxRecDepth 100000 in
theorem k_okI_24 : ∀ k, k < 6 → pj_okI (24 + k) = true := by decide +kernel
set_option maxRecDepth 100000 in
theorem k_okI_30 : ∀ k, k < 6 → pj_okI (30 + k) = true := by decide +kernel
set_option maxRecDepth 100000 in
theorem k_okI_36 : ∀ k, k < 6 → pj_okI (36 + k) = true := by decide +kernel
set_option maxRecDepth 100000 in
theorem k_okI_42 : ∀ k, k < 6 → pj_okI (42 + k) = true := by decide +kernel
set_option maxRecDepth 100000 in
theorem k_okI_48 : ∀ k, k < 6 → pj_okI (48 + k) = true := by decide +kernel
set_option maxRecDepth 100000 in
theorem k_okI_54 : ∀ k, k < 6 → pj_okI (54 + k) = true := by decide +kernel
set_option maxRecDepth 100000 in
theorem k_okI_60 : ∀ k, k < 6 → pj_okI (60 + k) = true := by decide +kernel
set_option maxRecDepth 100000 in
theorem k_okI_66 : ∀ k, k < 6 → pj_okI (66 + k) = true := by decide +kernel
set_option maxRecDepth 100000 in
theorem k_okI_72 : ∀ k, k < 6 → pj_okI (72 + k) = true := by decide +kernel
set_option maxRecDepth 100000 in
theorem k_okI_78 : ∀ k, k < 6 → pj_okI (78 + k) = true := by decide +kernel
set_option maxRecDepth 100000 in
theorem k_okI_84 : ∀ k, k < 6 → pj_okI (84 + k) = true := by decide +kernel
set_option maxRecDepth 100000 in
theorem k_okI_90 : ∀ k, k < 6 → pj_okI (90 + k) = true := by decide +kernel
set_option maxRecDepth 100000 in
theorem k_okI_96 : ∀ k, k < 4 → pj_okI (96 + k) = true := by decide +kernel
theorem k_okI : ∀ M, M < 100 → pj_okI M = true := by
  intro M h
  by_cases h0 : M < 6
  · have := k_okI_0 (M - 0) (by omega)
    rwa [show 0 + (M - 0) = M by omega] at this
  by_cases h6 : M < 12
  · have := k_okI_6 (M - 6) (by omega)
    rwa [show 6 + (M - 6) = M by omega] at this
  by_cases h12 : M < 18
  · have := k_okI_12 (M - 12) (by omega)
    rwa [show 12 + (M - 12) = M by omega] at this
  by_cases h18 : M < 24
  · have := k_okI_18 (M - 18) (by omega)
    rwa [show 18 + (M - 18) = M by omega] at this
  by_cases h24 : M < 30
  · have := k_okI_24 (M - 24) (by omega)
    rwa [show 24 + (M - 24) = M by omega] at this
  by_cases h30 : M < 36
  · have := k_okI_30 (M - 30) (by omega)
    rwa [show 30 + (M - 30) = M by omega] at this
  by_cases h36 : M < 42
  · have := k_okI_36 (M - 36) (by omega)
    rwa [show 36 + (M - 36) = M by omega] at this
  by_cases h42 : M < 48
  · have := k_okI_42 (M - 42) (by omega)
    rwa [show 42 + (M - 42) = M by omega] at this
  by_cases h48 : M < 54
  · have := k_okI_48 (M - 48) (by omega)
    rwa [show 48 + (M - 48) = M by omega] at this
  by_cases h54 : M < 60
  · have := k_okI_54 (M - 54) (by omega)
    rwa [show 54 + (M - 54) = M by omega] at this
  by_cases h60 : M < 66
  · have := k_okI_60 (M - 60) (by omega)
    rwa [show 60 + (M - 60) = M by omega] at this
  by_cases h66 : M < 72
  · have := k_okI_66 (M - 66) (by omega)
    rwa [show 66 + (M - 66) = M by omega] at this
  by_cases h72 : M < 78
  · have := k_okI_72 (M - 72) (by omega)
    rwa [show 72 + (M - 72) = M by omega] at this
  by_cases h78 : M < 84
  · have := k_okI_78 (M - 78) (by omega)
    rwa [show 78 + (M - 78) = M by omega] at this
  by_cases h84 : M < 90
  · have := k_okI_84 (M - 84) (by omega)
    rwa [show 84 + (M - 84) = M by omega] at this
  by_cases h90 : M < 96
  · have := k_okI_90 (M - 90) (by omega)
    rwa [show 90 + (M - 90) = M by omega] at this
  by_cases h96 : M < 100
  · have := k_okI_96 (M - 96) (by omega)
    rwa [show 96 + (M - 96) = M by omega] at this
  exact absurd h (by omega)
end
section
/-! THE PURE MACHINE: ints are mathematical Ints (their Int32 is what the JVM holds), references are places in a list of cells. -/
abbrev pj_V : Type := Int ⊕ Nat
abbrev pj_C : Type := (Nat × Nat × (Nat → Int)) ⊕ (Nat × List pj_V)
/-- a place below 1000: a cell; 1000: unknown; 1001: null; 1002: the script -/
abbrev pj_X : Type := Nat × (Nat → Int)
def pj_up (f : Nat → Int) (k : Nat) (z : Int) : Nat → Int := fun j => if j = k then z else f j
abbrev pj_rg (x : Int) : Prop := -2147483648 ≤ x ∧ x ≤ 2147483647
/-- a value that may be moved about -/
def pj_ok : pj_V → Bool
  | .inl _ => true
  | .inr r => Nat.ble r 999 || Nat.beq r 1002
def pj_wv (n : Nat) : pj_V → Bool
  | .inl _ => true
  | .inr r => Nat.ble (r + 1) n || Nat.ble 1000 r
def pj_wc (n : Nat) : pj_C → Bool
  | .inl _ => true
  | .inr o => o.2.all (pj_wv n)
def pj_wfa (ls st : List pj_V) (h : List pj_C) : Bool := Nat.ble h.length 900 && (ls.all (pj_wv h.length) && (st.all (pj_wv h.length) && h.all (pj_wc h.length)))
abbrev pj_R : Type := Prop × Nat × List pj_V × List pj_V × List pj_C
/-- a number from 2000 on: a long (its number less 2000) -/
def pj_n2 : pj_V → Bool
  | .inl _ => true
  | .inr r => Nat.ble r 1999
def pj_nl (ls : List pj_V) : Nat → Bool
  | 0 => true
  | k + 1 => match pj_at ls k with
    | some (.inr r) => Nat.ble r 1999
    | _ => true
/-- the words of a stack, no fewer -/
def pj_wd : List pj_V → Nat
  | [] => 0
  | .inl _ :: t => pj_wd t + 1
  | .inr _ :: t => pj_wd t + 2
def pj_ldi (nx : Nat) (ls st : List pj_V) (h : List pj_C) (k : Nat) : Option pj_R := match pj_at ls k with
  | some (.inl z) => some (True, nx, ls, .inl z :: st, h)
  | _ => none
def pj_lda (nx : Nat) (ls st : List pj_V) (h : List pj_C) (k : Nat) : Option pj_R := match pj_at ls k with
  | some (.inr r) => bif pj_ok (.inr r) then some (True, nx, ls, .inr r :: st, h) else none
  | _ => none
def pj_sti (nx : Nat) (ls st : List pj_V) (h : List pj_C) (k : Nat) : Option pj_R := match st with
  | .inl z :: t => bif Nat.blt k ls.length && pj_nl ls k then some (True, nx, ls.set k (.inl z), t, h) else none
  | _ => none
def pj_sta (nx : Nat) (ls st : List pj_V) (h : List pj_C) (k : Nat) : Option pj_R := match st with
  | .inr r :: t => bif (pj_ok (.inr r) && Nat.blt k ls.length) && pj_nl ls k then some (True, nx, ls.set k (.inr r), t, h) else none
  | _ => none
def pj_b2 (nx : Nat) (ls st : List pj_V) (h : List pj_C) (P : Int → Int → Prop) (f : Int → Int → Int) : Option pj_R := match st with
  | .inl y :: .inl x :: t => some (P x y, nx, ls, .inl (f x y) :: t, h)
  | _ => none
def pj_and (x y : Int) : Int := (Int32.ofInt x &&& Int32.ofInt y).toInt
def pj_or (x y : Int) : Int := (Int32.ofInt x ||| Int32.ofInt y).toInt
def pj_xor (x y : Int) : Int := (Int32.ofInt x ^^^ Int32.ofInt y).toInt
def pj_shl (x y : Int) : Int := (Int32.ofInt x <<< (Int32.ofInt y &&& 31)).toInt
abbrev pj_dv (x y : Int) : Prop := (-2147483648 ≤ x ∧ x ≤ 2147483647) ∧ (-2147483648 ≤ y ∧ y ≤ 2147483647) ∧ y ≠ 0
def pj_ldl (nx : Nat) (ls st : List pj_V) (h : List pj_C) (k : Nat) : Option pj_R := match pj_at ls k with
  | some (.inr c) => some (2000 ≤ c, nx, ls, .inr c :: st, h)
  | _ => none
def pj_stl (nx : Nat) (ls st : List pj_V) (h : List pj_C) (k : Nat) : Option pj_R := match st with
  | .inr c :: t => bif Nat.blt (k + 1) ls.length && pj_nl ls k then some (2000 ≤ c, nx, (ls.set k (.inr c)).set (k + 1) (.inr 1000), t, h) else none
  | _ => none
def pj_shr (x y : Int) : Int := (Int32.ofInt x >>> (Int32.ofInt y &&& 31)).toInt
/-- one instruction that neither branches, calls nor returns: what it asks, the next pc, locals, stack, cells -/
def pj_s1 (X : pj_X) (al : Bool) (i : Instr) (nx a b c : Nat) (ls st : List pj_V) (h : List pj_C) : Option pj_R :=
  match i with
  | .iload k => pj_ldi nx ls st h k
  | .iload_n k => pj_ldi nx ls st h k.val
  | .aload k => pj_lda nx ls st h k
  | .aload_n k => pj_lda nx ls st h k.val
  | .istore k => pj_sti nx ls st h k
  | .istore_n k => pj_sti nx ls st h k.val
  | .astore k => pj_sta nx ls st h k
  | .astore_n k => pj_sta nx ls st h k.val
  | .iconst z => some (True, nx, ls, .inl z :: st, h)
  | .bipush z => some (True, nx, ls, .inl z :: st, h)
  | .sipush z => some (True, nx, ls, .inl z :: st, h)
  | .iinc k z => match pj_at ls k with
    | some (.inl x) => bif pj_nl ls k then some (True, nx, ls.set k (.inl (x + z)), st, h) else none
    | _ => none
  | .iadd => match st with
    | .inl y :: .inl x :: t => some (True, nx, ls, .inl (x + y) :: t, h)
    | _ => none
  | .isub => match st with
    | .inl y :: .inl x :: t => some (True, nx, ls, .inl (x - y) :: t, h)
    | _ => none
  | .imul => match st with
    | .inl y :: .inl x :: t => some (True, nx, ls, .inl (x * y) :: t, h)
    | _ => none
  | .idiv => match st with
    | .inl y :: .inl x :: t => some ((-2147483648 ≤ x ∧ x ≤ 2147483647) ∧ (-2147483648 ≤ y ∧ y ≤ 2147483647) ∧ y ≠ 0, nx, ls, .inl (x.tdiv y) :: t, h)
    | _ => none
  | .irem => match st with
    | .inl y :: .inl x :: t => some ((-2147483648 ≤ x ∧ x ≤ 2147483647) ∧ (-2147483648 ≤ y ∧ y ≤ 2147483647) ∧ y ≠ 0, nx, ls, .inl (x.tmod y) :: t, h)
    | _ => none
  | .iand => match st with
    | .inl y :: .inl x :: t => some (True, nx, ls, .inl (pj_and x y) :: t, h)
    | _ => none
  | .ior => match st with
    | .inl y :: .inl x :: t => some (True, nx, ls, .inl (pj_or x y) :: t, h)
    | _ => none
  | .ixor => match st with
    | .inl y :: .inl x :: t => some (True, nx, ls, .inl (pj_xor x y) :: t, h)
    | _ => none
  | .ishl => match st with
    | .inl y :: .inl x :: t => some (True, nx, ls, .inl (pj_shl x y) :: t, h)
    | _ => none
  | .ineg => match st with
    | .inl x :: t => some (True, nx, ls, .inl (-x) :: t, h)
    | _ => none
  | .dup => match st with
    | v :: t => bif pj_n2 v then some (True, nx, ls, v :: v :: t, h) else none
    | _ => none
  | .dup2 => match st with
    | v :: w :: t => bif pj_n2 v && pj_n2 w then some (True, nx, ls, v :: w :: v :: w :: t, h) else none
    | _ => none
  | .pop => match st with
    | v :: t => bif pj_n2 v then some (True, nx, ls, t, h) else none
    | _ => none
  | .goto _ => some (True, a, ls, st, h)
  | .getfield _ => match st with
    | .inr r :: t => match pj_at h r with
      | some (.inr (ci, fs)) => match pj_at fs b with
        | some v => bif Nat.beq ci a && pj_ok v then some (True, nx, ls, v :: t, h) else none
        | _ => none
      | _ => none
    | _ => none
  | .putfield _ => match st with
    | .inl z :: .inr r :: t => match pj_at h r with
      | some (.inr (ci, fs)) => bif Nat.beq ci a && (Nat.beq c 0 && Nat.blt b fs.length) then some (True, nx, ls, t, h.set r (.inr (ci, fs.set b (.inl z)))) else none
      | _ => none
    | .inr v :: .inr r :: t => match pj_at h r with
      | some (.inr (ci, fs)) => bif Nat.beq ci a && (Nat.beq c 1 && (Nat.blt b fs.length && pj_ok (.inr v))) then some (True, nx, ls, t, h.set r (.inr (ci, fs.set b (.inr v)))) else none
      | _ => none
    | _ => none
  | .iaload => match st with
    | .inl j :: .inr r :: t => bif Nat.beq r 1002 then some ((0 ≤ j ∧ j < (X.1 : Int)) ∧ j < 2147483648, nx, ls, .inl (X.2 j.toNat) :: t, h) else match pj_at h r with
      | some (.inl (0, len, f)) => some ((0 ≤ j ∧ j < (len : Int)) ∧ j < 2147483648, nx, ls, .inl (f j.toNat) :: t, h)
      | _ => none
    | _ => none
  | .baload => match st with
    | .inl j :: .inr r :: t => match pj_at h r with
      | some (.inl (1, len, f)) => some ((0 ≤ j ∧ j < (len : Int)) ∧ j < 2147483648, nx, ls, .inl (f j.toNat) :: t, h)
      | _ => none
    | _ => none
  | .iastore => match st with
    | .inl z :: .inl j :: .inr r :: t => match pj_at h r with
      | some (.inl (0, len, f)) => some ((0 ≤ j ∧ j < (len : Int)) ∧ j < 2147483648, nx, ls, t, h.set r (.inl (0, len, pj_up f j.toNat z)))
      | _ => none
    | _ => none
  | .bastore => match st with
    | .inl z :: .inl j :: .inr r :: t => match pj_at h r with
      | some (.inl (1, len, f)) => some (((0 ≤ j ∧ j < (len : Int)) ∧ j < 2147483648) ∧ (z = 0 ∨ z = 1), nx, ls, t, h.set r (.inl (1, len, pj_up f j.toNat z)))
      | _ => none
    | _ => none
  | .arraylength => match st with
    | .inr r :: t => bif Nat.beq r 1002 then some (True, nx, ls, .inl (X.1 : Int) :: t, h) else match pj_at h r with
      | some (.inl (k, len, _)) => bif Nat.beq k 0 || Nat.beq k 1 then some (True, nx, ls, .inl (len : Int) :: t, h) else none
      | _ => none
    | _ => none
  | .new _ => bif al && pj_wfa ls st h then some (True, nx, ls, .inr h.length :: st, h ++ [.inr (a, k_df a)]) else none
  | .newarray _ => match st with
    | .inl z :: t => bif al && pj_wfa ls t h then some (0 ≤ z ∧ z ≤ 100000, nx, ls, .inr h.length :: t, h ++ [.inl (a, z.toNat, fun _ => 0)]) else none
    | _ => none
  | .invokespecial _ => match b with
    | 1 => match st with
      | .inr r :: t => bif pj_ok (.inr r) && Nat.ble (pj_wd t) 8 then some (True, nx, ls, t, h) else none
      | _ => none
    | _ => none
  | .invokestatic _ => match b with
    | 2 => match st with
      | .inl n :: .inl dp :: .inr r1 :: .inl sp :: .inr r0 :: t => match pj_at h r0, pj_at h r1 with
        | some (.inl (0, n0, f)), some (.inl (0, n1, g)) => bif Nat.ble (pj_wd t) 8 then some (((0 ≤ n ∧ n < 2147483648) ∧ (0 ≤ sp ∧ sp < 2147483648)) ∧ ((0 ≤ dp ∧ dp < 2147483648) ∧ (sp + n ≤ (n0 : Int) ∧ dp + n ≤ (n1 : Int))), nx, ls, t, h.set r1 (.inl (0, n1, va_cpy f g sp.toNat dp.toNat n.toNat))) else none
        | _, _ => none
      | _ => none
    | _ => none
  | .ishr => match st with
    | .inl y :: .inl x :: t => some (True, nx, ls, .inl (pj_shr x y) :: t, h)
    | _ => none
  | .ldc _ => some (True, nx, ls, .inl (a : Int) :: st, h)
  | .ldc2_w _ => bif al then some (True, nx, ls, .inr (2000 + a) :: st, h) else none
  | .lconst k => bif al then some (True, nx, ls, .inr (2000 + k.val) :: st, h) else none
  | .lload k => bif al then pj_ldl nx ls st h k else none
  | .lload_n k => bif al then pj_ldl nx ls st h k.val else none
  | .lstore k => bif al then pj_stl nx ls st h k else none
  | .lstore_n k => bif al then pj_stl nx ls st h k.val else none
  | .i2l => bif al then (match st with
    | .inl x :: t => some (0 ≤ x ∧ x ≤ 2147483647, nx, ls, .inr (2000 + x.toNat) :: t, h)
    | _ => none) else none
  | .lmul => bif al then (match st with
    | .inr y :: .inr x :: t => some (2000 ≤ x ∧ 2000 ≤ y, nx, ls, .inr (2000 + (x - 2000) * (y - 2000)) :: t, h)
    | _ => none) else none
  | .ladd => bif al then (match st with
    | .inr y :: .inr x :: t => some (2000 ≤ x ∧ 2000 ≤ y, nx, ls, .inr (2000 + ((x - 2000) + (y - 2000))) :: t, h)
    | _ => none) else none
  | .lcmp => bif al then (match st with
    | .inr y :: .inr x :: t => some (2000 ≤ x ∧ x = y, nx, ls, .inl 0 :: t, h)
    | _ => none) else none
  | _ => none
/-- a branch: what it asks, its condition, the two places, the stack -/
def pj_brO (i : Instr) (nx a : Nat) (st : List pj_V) : Option (Prop × Prop × Nat × Nat × List pj_V) :=
  match i with
  | .ifCond k _ => match st with
    | .inl x :: t => some ((-2147483648 ≤ x ∧ x ≤ 2147483647), (match k with | .eq => x = 0 | .ne => ¬ x = 0 | .lt => x < 0 | .ge => 0 ≤ x | .gt => 0 < x | .le => x ≤ 0), a, nx, t)
    | _ => none
  | .if_icmp k _ => match st with
    | .inl y :: .inl x :: t => some ((-2147483648 ≤ x ∧ x ≤ 2147483647) ∧ (-2147483648 ≤ y ∧ y ≤ 2147483647), (match k with | .eq => x = y | .ne => ¬ x = y | .lt => x < y | .ge => y ≤ x | .gt => y < x | .le => x ≤ y), a, nx, t)
    | _ => none
  | _ => none
def pj_br (i : Instr) (nx a : Nat) (st : List pj_V) : Option (Prop × Prop × Nat × Nat × List pj_V) :=
  match i with
  | .ifCond k _ => match k with
    | .eq => match st with
      | .inl x :: t => some ((-2147483648 ≤ x ∧ x ≤ 2147483647), x = 0, a, nx, t)
      | _ => none
    | .ne => match st with
      | .inl x :: t => some ((-2147483648 ≤ x ∧ x ≤ 2147483647), ¬ x = 0, a, nx, t)
      | _ => none
    | .lt => match st with
      | .inl x :: t => some ((-2147483648 ≤ x ∧ x ≤ 2147483647), x < 0, a, nx, t)
      | _ => none
    | .ge => match st with
      | .inl x :: t => some ((-2147483648 ≤ x ∧ x ≤ 2147483647), 0 ≤ x, a, nx, t)
      | _ => none
    | .gt => match st with
      | .inl x :: t => some ((-2147483648 ≤ x ∧ x ≤ 2147483647), 0 < x, a, nx, t)
      | _ => none
    | .le => match st with
      | .inl x :: t => some ((-2147483648 ≤ x ∧ x ≤ 2147483647), x ≤ 0, a, nx, t)
      | _ => none
  | .if_icmp k _ => match k with
    | .eq => match st with
      | .inl y :: .inl x :: t => some ((-2147483648 ≤ x ∧ x ≤ 2147483647) ∧ (-2147483648 ≤ y ∧ y ≤ 2147483647), x = y, a, nx, t)
      | _ => none
    | .ne => match st with
      | .inl y :: .inl x :: t => some ((-2147483648 ≤ x ∧ x ≤ 2147483647) ∧ (-2147483648 ≤ y ∧ y ≤ 2147483647), ¬ x = y, a, nx, t)
      | _ => none
    | .lt => match st with
      | .inl y :: .inl x :: t => some ((-2147483648 ≤ x ∧ x ≤ 2147483647) ∧ (-2147483648 ≤ y ∧ y ≤ 2147483647), x < y, a, nx, t)
      | _ => none
    | .ge => match st with
      | .inl y :: .inl x :: t => some ((-2147483648 ≤ x ∧ x ≤ 2147483647) ∧ (-2147483648 ≤ y ∧ y ≤ 2147483647), y ≤ x, a, nx, t)
      | _ => none
    | .gt => match st with
      | .inl y :: .inl x :: t => some ((-2147483648 ≤ x ∧ x ≤ 2147483647) ∧ (-2147483648 ≤ y ∧ y ≤ 2147483647), y < x, a, nx, t)
      | _ => none
    | .le => match st with
      | .inl y :: .inl x :: t => some ((-2147483648 ≤ x ∧ x ≤ 2147483647) ∧ (-2147483648 ≤ y ∧ y ≤ 2147483647), x ≤ y, a, nx, t)
      | _ => none
  | _ => none
theorem pj_br_eq (i : Instr) (nx a : Nat) (st : List pj_V) : pj_br i nx a st = pj_brO i nx a st := by
  cases i
  case ifCond k o => cases k <;> (match st with
    | [] => rfl
    | .inl x :: t => rfl
    | .inr r :: t => rfl)
  case if_icmp k o => cases k <;> (match st with
    | [] => rfl
    | .inl x :: [] => rfl
    | .inr r :: t => rfl
    | .inl y :: .inl x :: t => rfl
    | .inl y :: .inr r :: t => rfl)
  all_goals rfl
/-- a return: what it asks, the answer -/
def pj_rn (rt : Nat) (i : Instr) (st : List pj_V) : Option (Prop × Option pj_V) :=
  match i with
  | .return_ => match rt, st with
    | 0, [] => some ((0 : Int) ≤ 0, none)
    | _, _ => none
  | .ireturn => match rt, st with
    | 1, [.inl z] => some ((0 : Int) ≤ 0, some (.inl z))
    | 2, [.inl z] => some (z = 0 ∨ z = 1, some (.inl z))
    | _, _ => none
  | .areturn => match rt, st with
    | 3, [.inr r] => bif Nat.ble r 999 then some ((0 : Int) ≤ 0, some (.inr r)) else none
    | _, _ => none
  | .lreturn => match rt, st with
    | 4, [.inr c] => some (2000 ≤ c, some (.inr c))
    | _, _ => none
  | _ => none
/-- the receiver is of the class, or there is none -/
def pj_rc (kd ci : Nat) (as : List pj_V) (h : List pj_C) : Bool := match kd with
  | 0 => true
  | 1 => match as with
    | .inr r :: _ => match pj_at h r with
      | some (.inr (c, _)) => Nat.beq c ci
      | _ => false
    | _ => false
  | _ => match as with
    | .inr r :: _ => Nat.ble r 999
    | _ => false
def pj_rep : Nat → List pj_V
  | 0 => []
  | n + 1 => .inr 1000 :: pj_rep n
/-- a call: the callee, its locals, the stack below -/
def pj_cl (i : Instr) (a b : Nat) (st : List pj_V) (h : List pj_C) : Option (Nat × List pj_V × List pj_V) :=
  match b with
  | 0 => match i with
    | .invokestatic _ => bif Nat.beq (k_kd a) 0 && Nat.ble (pj_wd (st.drop (k_na a))) 8 && (Nat.ble (k_na a) st.length && (st.take (k_na a)).all pj_n2) then some (a, (st.take (k_na a)).reverse, st.drop (k_na a)) else none
    | .invokevirtual _ => bif Nat.beq (k_kd a) 1 && pj_rc 1 (k_ci a) (st.take (k_na a)).reverse h && Nat.ble (pj_wd (st.drop (k_na a))) 8 && (Nat.ble (k_na a) st.length && (st.take (k_na a)).all pj_n2) then some (a, (st.take (k_na a)).reverse, st.drop (k_na a)) else none
    | .invokespecial _ => bif Nat.beq (k_kd a) 2 && pj_rc 2 (k_ci a) (st.take (k_na a)).reverse h && Nat.ble (pj_wd (st.drop (k_na a))) 8 && (Nat.ble (k_na a) st.length && (st.take (k_na a)).all pj_n2) then some (a, (st.take (k_na a)).reverse, st.drop (k_na a)) else none
    | _ => none
  | _ => none
/-- a switch: what it asks, the number, the place behind it -/
def pj_sw (i : Instr) (st : List pj_V) : Option (Int × Int × Int × Array Int × Int × List pj_V) :=
  match i with
  | .tableswitch d lo hi offs => match st with
    | .inl x :: t => some (d, lo, hi, offs, x, t)
    | _ => none
  | _ => none
def pj_Rn (X : pj_X) (al : Bool) : Nat → Nat → Nat → List pj_V → List pj_V → List pj_C → Option pj_V → List pj_C → Prop
  | 0, _, _, _, _, _, _, _ => False
  | n + 1, M, pc, ls, st, h, r, hf =>
    match k_cd M pc with
    | none => False
    | some (i, nx, a, b, c, _, _) =>
      match pj_s1 X al i nx a b c ls st h with
      | some (P, pc', ls', st', h') => P ∧ pj_Rn X al n M pc' ls' st' h' r hf
      | none => match pj_br i nx a st with
        | some (P, k, pt, pf, t) => P ∧ (k → pj_Rn X al n M pt ls t h r hf) ∧ (¬ k → pj_Rn X al n M pf ls t h r hf)
        | none => match pj_rn (k_rt M) i st with
          | some (P, v) => P ∧ r = v ∧ hf = h
          | none => match pj_cl i a b st h with
            | some (M', as, t) => ∃ (rc : Option pj_V) (hc : List pj_C), pj_Rn X al n M' 0 (as ++ pj_rep (k_nL M' - as.length)) [] h rc hc ∧ (hc.length = h.length ∨ pj_wfa ls t h = true) ∧ pj_Rn X al n M nx ls (rc.toList ++ t) hc r hf
            | none => match pj_sw i st with
              | some (d, lo, hi, offs, x, t) => pj_rg x ∧ ∃ pt : Nat, (((¬ x < lo ∧ ¬ hi < x) ∧ ∃ o, offs[(x - lo).toNat]? = some o ∧ (pc : Int) + o = (pt : Int)) ∨ ((x < lo ∨ hi < x) ∧ (pc : Int) + d = (pt : Int))) ∧ pj_Rn X al n M pt ls t h r hf
              | none => False
end
section
/-! what the pure machine's values, cells and locals are on the JVM -/
def pj_cv (α : Nat → Nat) (b : Nat) : pj_V → Value
  | .inl z => .int (Int32.ofInt z)
  | .inr r => if r < 1000 then .ref (α r) else if r = 1002 then .ref b else if 2000 ≤ r then .long (Int64.ofInt ((r : Int) - 2000)) else .null
/-- it is told of the locals -/
def pj_tr : pj_V → Bool
  | .inl _ => true
  | .inr r => pj_ok (.inr r) || Nat.ble 2000 r
theorem pj_tr_ok {v : pj_V} (h : pj_ok v = true) : pj_tr v = true := by
  cases v with
  | inl z => rfl
  | inr r => simp only [pj_tr, h, Bool.true_or]
def pj_cc (dA : Nat → ClassId) (α : Nat → Nat) (b : Nat) : pj_C → va_E
  | .inl (k, len, f) => .inl (dA k, len, .inl (fun j => Int32.ofInt (f j)))
  | .inr (ci, fs) => .inr (ci, fs.map (pj_cv α b))
def pj_wl (dA : Nat → ClassId) (α : Nat → Nat) (b : Nat) : Nat → List pj_C → va_W
  | _, [] => []
  | k, c :: cs => (α k, pj_cc dA α b c) :: pj_wl dA α b (k + 1) cs
def pj_ll (α : Nat → Nat) (b : Nat) : Nat → List pj_V → List (Nat × Value)
  | _, [] => []
  | k, v :: vs => bif pj_tr v then (k, pj_cv α b v) :: pj_ll α b (k + 1) vs else pj_ll α b (k + 1) vs
def pj_sz : pj_C → Nat
  | .inl (_, len, _) => len
  | .inr (_, fs) => fs.length
def pj_tot : List pj_C → Nat
  | [] => 0
  | c :: cs => pj_sz c + pj_tot cs
theorem pj_at_lt {α : Type} : ∀ {h : List α} {r : Nat} {c : α}, pj_at h r = some c → r < h.length
  | _ :: _, 0, _, _ => Nat.zero_lt_succ _
  | _ :: cs, r + 1, c, e => Nat.succ_lt_succ (pj_at_lt (h := cs) e)
theorem pj_at_get {α : Type} : ∀ (h : List α) (r : Nat), pj_at h r = h[r]?
  | [], r => by simp [pj_at]
  | c :: cs, 0 => rfl
  | c :: cs, r + 1 => by rw [pj_at, List.getElem?_cons_succ, pj_at_get cs r]
section REP
variable {dA : Nat → ClassId} {α α' : Nat → Nat} {b : Nat}
theorem pj_wl_at : ∀ {h : List pj_C} {k r : Nat} {c : pj_C}, pj_at h r = some c → (pj_wl dA α b k h)[r]? = some (α (k + r), pj_cc dA α b c)
  | _ :: _, k, 0, _, e => by cases e; rfl
  | _ :: cs, k, r + 1, c, e => by
    show (pj_wl dA α b (k + 1) cs)[r]? = _
    rw [pj_wl_at (h := cs) (k := k + 1) e, show k + 1 + r = k + (r + 1) by omega]
theorem pj_wl_set : ∀ {h : List pj_C} {k r : Nat} (c : pj_C), r < h.length → pj_wl dA α b k (h.set r c) = (pj_wl dA α b k h).set r (α (k + r), pj_cc dA α b c)
  | _ :: _, k, 0, c, _ => rfl
  | d :: cs, k, r + 1, c, e => by
    show (α k, pj_cc dA α b d) :: pj_wl dA α b (k + 1) (cs.set r c) = (α k, pj_cc dA α b d) :: (pj_wl dA α b (k + 1) cs).set r _
    rw [pj_wl_set (h := cs) (k := k + 1) c (Nat.lt_of_succ_lt_succ e), show k + 1 + r = k + (r + 1) by omega]
theorem pj_wl_len : ∀ (h : List pj_C) (k : Nat), (pj_wl dA α b k h).length = h.length
  | [], _ => rfl
  | _ :: cs, k => by show (pj_wl dA α b (k + 1) cs).length + 1 = _; rw [pj_wl_len cs (k + 1)]; rfl
theorem pj_cv_agree {n : Nat} (ha : ∀ k, k < n → α' k = α k) : ∀ v : pj_V, pj_wv n v = true → pj_cv α' b v = pj_cv α b v
  | .inl z, _ => rfl
  | .inr r, h => by
    simp only [pj_cv]
    by_cases hr : r < 1000
    · rw [if_pos hr, if_pos hr, ha r]
      simp only [pj_wv, Bool.or_eq_true] at h
      rcases h with h | h
      · exact Nat.le_of_ble_eq_true h
      · have := Nat.le_of_ble_eq_true h
        omega
    · rw [if_neg hr, if_neg hr]
theorem pj_map_agree {n : Nat} (ha : ∀ k, k < n → α' k = α k) : ∀ l : List pj_V, l.all (pj_wv n) = true → l.map (pj_cv α' b) = l.map (pj_cv α b) := by
  intro l hl
  refine List.map_congr_left fun v hv => pj_cv_agree ha v (List.all_eq_true.mp hl v hv)
theorem pj_cc_agree {n : Nat} (ha : ∀ k, k < n → α' k = α k) : ∀ c : pj_C, pj_wc n c = true → pj_cc dA α' b c = pj_cc dA α b c
  | .inl _, _ => rfl
  | .inr (ci, fs), h => by
    simp only [pj_cc]
    rw [pj_map_agree ha fs h]
theorem pj_wl_agree {n : Nat} (ha : ∀ k, k < n → α' k = α k) : ∀ (h : List pj_C) (k : Nat), k + h.length ≤ n → h.all (pj_wc n) = true → pj_wl dA α' b k h = pj_wl dA α b k h
  | [], _, _, _ => rfl
  | c :: cs, k, hk, hw => by
    simp only [List.all_cons, Bool.and_eq_true] at hw
    simp only [List.length_cons] at hk
    show (α' k, _) :: _ = (α k, _) :: _
    rw [ha k (by omega), pj_cc_agree ha c hw.1, pj_wl_agree ha cs (k + 1) (by omega) hw.2]
theorem pj_wl_app : ∀ (h : List pj_C) (k : Nat) (c : pj_C), pj_wl dA α b k (h ++ [c]) = pj_wl dA α b k h ++ [(α (k + h.length), pj_cc dA α b c)]
  | [], _, _ => rfl
  | d :: cs, k, c => by
    show (α k, _) :: pj_wl dA α b (k + 1) (cs ++ [c]) = _ :: (pj_wl dA α b (k + 1) cs ++ _)
    rw [pj_wl_app cs (k + 1) c, show k + 1 + cs.length = k + (d :: cs).length by simp only [List.length_cons]; omega]
theorem pj_ll_mem : ∀ {ls : List pj_V} {k i : Nat} {v : pj_V}, pj_at ls i = some v → pj_tr v = true → (k + i, pj_cv α b v) ∈ pj_ll α b k ls
  | w :: ws, k, 0, v, e, ho => by
    cases e
    simp only [pj_ll, ho, cond_true]
    exact List.mem_cons_self
  | w :: ws, k, i + 1, v, e, ho => by
    have := pj_ll_mem (ls := ws) (k := k + 1) e ho
    rw [show k + 1 + i = k + (i + 1) by omega] at this
    simp only [pj_ll]
    cases pj_tr w
    · exact this
    · exact List.mem_cons_of_mem _ this
theorem pj_ll_inv : ∀ {ls : List pj_V} {k : Nat} {q : Nat × Value}, q ∈ pj_ll α b k ls → ∃ i v, q = (k + i, pj_cv α b v) ∧ pj_at ls i = some v ∧ pj_tr v = true
  | [], _, _, h => by cases h
  | w :: ws, k, q, h => by
    simp only [pj_ll] at h
    cases ho : pj_tr w with
    | false =>
      rw [ho] at h
      obtain ⟨i, v, e, h1, h2⟩ := pj_ll_inv (ls := ws) h
      exact ⟨i + 1, v, by rw [e, show k + 1 + i = k + (i + 1) by omega], h1, h2⟩
    | true =>
      rw [ho] at h
      rcases List.mem_cons.mp h with h | h
      · exact ⟨0, w, h, rfl, ho⟩
      · obtain ⟨i, v, e, h1, h2⟩ := pj_ll_inv (ls := ws) h
        exact ⟨i + 1, v, by rw [e, show k + 1 + i = k + (i + 1) by omega], h1, h2⟩
theorem pj_cv_cat {v : pj_V} (hv : pj_n2 v = true) : (pj_cv α b v).category = 1 := by
  cases v with
  | inl z => rfl
  | inr r =>
    have := Nat.le_of_ble_eq_true hv
    simp only [pj_cv]
    split
    · rfl
    · split
      · rfl
      · rw [if_neg (by omega)]
        rfl
theorem pj_cv_cat2 (v : pj_V) : (pj_cv α b v).category ≤ 2 := by
  cases v with
  | inl z => show 1 ≤ 2; omega
  | inr r =>
    simp only [pj_cv]
    split
    · show 1 ≤ 2; omega
    · split
      · show 1 ≤ 2; omega
      · split
        · show 2 ≤ 2; omega
        · show 1 ≤ 2; omega
theorem pj_cv_long {r : Nat} (h : 2000 ≤ r) : pj_cv α b (.inr r) = .long (Int64.ofInt ((r : Int) - 2000)) := by
  simp only [pj_cv]
  rw [if_neg (by omega), if_neg (by omega), if_pos h]
theorem pj_at_set_self {α : Type} : ∀ {ls : List α} {i : Nat} {v : α}, i < ls.length → pj_at (ls.set i v) i = some v
  | _ :: _, 0, _, _ => rfl
  | _ :: ws, i + 1, v, h => pj_at_set_self (ls := ws) (Nat.lt_of_succ_lt_succ h)
theorem pj_at_set_ne {α : Type} {ls : List α} {i j : Nat} {v : α} (h : j ≠ i) : pj_at (ls.set i v) j = pj_at ls j := by
  rw [pj_at_get, pj_at_get, List.getElem?_set_ne (Ne.symm h)]
/-- a store into the locals -/
theorem pj_ll_set {ls : List pj_V} {la' : Array Slot} {nL i : Nat} {v : pj_V} (hi : i < ls.length) (hnl : pj_nl ls i = true) (h : lv_has la' nL ((i, pj_cv α b v) :: (pj_ll α b 0 ls).filter (fun q => !(q.1 == i) && !(q.1 + 1 == i && q.2.category == 2)))) : lv_has la' nL (pj_ll α b 0 (ls.set i v)) := by
  refine ⟨h.1, h.2.1, fun q hq => h.2.2 q ?_⟩
  obtain ⟨j, w, e, h1, h2⟩ := pj_ll_inv hq
  rw [Nat.zero_add] at e
  subst e
  by_cases hj : j = i
  · subst hj
    rw [pj_at_set_self hi] at h1
    cases h1
    exact List.mem_cons_self
  · rw [pj_at_set_ne hj] at h1
    refine List.mem_cons_of_mem _ (List.mem_filter.mpr ⟨by simpa using pj_ll_mem (α := α) (b := b) (k := 0) h1 h2, ?_⟩)
    by_cases hj2 : j + 1 = i
    · subst hj2
      have : pj_n2 w = true := by
        simp only [pj_nl, h1] at hnl
        cases w with
        | inl z => rfl
        | inr r => exact hnl
      simp [pj_cv_cat this]
    · simp [hj, hj2]
/-- a store of a long -/
theorem pj_ll_set2 {ls : List pj_V} {la' : Array Slot} {nL i : Nat} {v : pj_V} (hi : i + 1 < ls.length) (hnl : pj_nl ls i = true) (h : lv_has la' nL ((i, pj_cv α b v) :: (pj_ll α b 0 ls).filter (fun q => !(q.1 == i) && (!(q.1 == i + 1) && !(q.1 + 1 == i && q.2.category == 2))))) : lv_has la' nL (pj_ll α b 0 ((ls.set i v).set (i + 1) (.inr 1000))) := by
  refine ⟨h.1, h.2.1, fun q hq => h.2.2 q ?_⟩
  obtain ⟨j, w, e, h1, h2⟩ := pj_ll_inv hq
  rw [Nat.zero_add] at e
  subst e
  by_cases hj1 : j = i + 1
  · subst hj1
    rw [pj_at_set_self (by rw [List.length_set]; exact hi)] at h1
    cases h1
    cases h2
  · rw [pj_at_set_ne hj1] at h1
    by_cases hj : j = i
    · subst hj
      rw [pj_at_set_self (by omega)] at h1
      cases h1
      exact List.mem_cons_self
    · rw [pj_at_set_ne hj] at h1
      refine List.mem_cons_of_mem _ (List.mem_filter.mpr ⟨by simpa using pj_ll_mem (α := α) (b := b) (k := 0) h1 h2, ?_⟩)
      by_cases hj2 : j + 1 = i
      · subst hj2
        have : pj_n2 w = true := by
          simp only [pj_nl, h1] at hnl
          cases w with
          | inl z => rfl
          | inr r => exact hnl
        simp [pj_cv_cat this] <;> omega
      · simp [hj, hj1, hj2]
theorem pj_ll_args : ∀ (as : List pj_V) (k m : Nat), as.all pj_n2 = true → ∀ q ∈ pj_ll α b k (as ++ pj_rep m), q ∈ lv_args k (as.map (pj_cv α b))
  | [], k, m, _, q, h => by
    exfalso
    have key : ∀ (m k : Nat), pj_ll α b k (pj_rep m) = [] := by
      intro m
      induction m with
      | zero => intro k; rfl
      | succ m ih => intro k; show (bif pj_tr (.inr 1000) then _ else pj_ll α b (k + 1) (pj_rep m)) = []; rw [ih]; rfl
    rw [List.nil_append, key] at h
    cases h
  | v :: vs, k, m, hn, q, h => by
    simp only [List.all_cons, Bool.and_eq_true] at hn
    have e : lv_args k ((v :: vs).map (pj_cv α b)) = (k, pj_cv α b v) :: lv_args (k + 1) (vs.map (pj_cv α b)) := by
      show (k, pj_cv α b v) :: lv_args (if (pj_cv α b v).category = 2 then k + 2 else k + 1) (vs.map (pj_cv α b)) = _
      rw [pj_cv_cat hn.1, if_neg (by decide)]
    rw [e]
    have h' : q ∈ (bif pj_tr v then (k, pj_cv α b v) :: pj_ll α b (k + 1) (vs ++ pj_rep m) else pj_ll α b (k + 1) (vs ++ pj_rep m)) := h
    cases ho : pj_tr v with
    | false =>
      rw [ho] at h'
      exact List.mem_cons_of_mem _ (pj_ll_args vs (k + 1) m hn.2 q h')
    | true =>
      rw [ho] at h'
      rcases List.mem_cons.mp h' with h | h
      · rw [h]; exact List.mem_cons_self
      · exact List.mem_cons_of_mem _ (pj_ll_args vs (k + 1) m hn.2 q h)
theorem pj_ll_agree {n : Nat} (ha : ∀ k, k < n → α' k = α k) : ∀ (l : List pj_V) (k : Nat), l.all (pj_wv n) = true → pj_ll α' b k l = pj_ll α b k l
  | [], _, _ => rfl
  | v :: vs, k, h => by
    simp only [List.all_cons, Bool.and_eq_true] at h
    simp only [pj_ll, pj_cv_agree ha v h.1, pj_ll_agree ha vs (k + 1) h.2]
theorem pj_rep_len : ∀ n, (pj_rep n).length = n
  | 0 => rfl
  | n + 1 => by show (pj_rep n).length + 1 = _; rw [pj_rep_len n]
theorem pj_cats : ∀ (l : List pj_V), ((l.map (pj_cv α b)).map fun v => v.category).sum ≤ pj_wd l
  | [] => Nat.le_refl _
  | .inl z :: vs => by
    have := pj_cats vs
    simp only [List.map_cons, List.sum_cons, pj_wd]
    have h1 : (pj_cv α b (.inl z)).category = 1 := rfl
    omega
  | .inr r :: vs => by
    have := pj_cats vs
    simp only [List.map_cons, List.sum_cons, pj_wd]
    have h1 := pj_cv_cat2 (α := α) (b := b) (.inr r)
    omega
theorem pj_cv_ref {r : Nat} (h : r < 1000) : pj_cv α b (.inr r) = .ref (α r) := by simp only [pj_cv, if_pos h]
theorem pj_cv_ok {r : Nat} (h : pj_ok (.inr r) = true) : ∃ a, pj_cv α b (.inr r) = .ref a := by
  simp only [pj_ok, Bool.or_eq_true] at h
  rcases h with h | h
  · exact ⟨α r, pj_cv_ref (by have := Nat.le_of_ble_eq_true h; omega)⟩
  · have := Nat.eq_of_beq_eq_true h
    subst this
    exact ⟨b, rfl⟩
end REP
theorem pj_tot_set : ∀ {h : List pj_C} {r : Nat} {c c' : pj_C}, pj_at h r = some c → pj_sz c' = pj_sz c → pj_tot (h.set r c') = pj_tot h
  | _ :: _, 0, _, _, e, hs => by cases e; simp only [List.set_cons_zero, pj_tot, hs]
  | d :: cs, r + 1, c, c', e, hs => by
    show pj_sz d + pj_tot (cs.set r c') = pj_sz d + pj_tot cs
    rw [pj_tot_set (h := cs) e hs]
theorem pj_tot_app : ∀ (h : List pj_C) (c : pj_C), pj_tot (h ++ [c]) = pj_tot h + pj_sz c
  | [], c => by show pj_sz c + 0 = 0 + pj_sz c; omega
  | d :: cs, c => by show pj_sz d + pj_tot (cs ++ [c]) = pj_sz d + pj_tot cs + pj_sz c; rw [pj_tot_app cs c]; omega
theorem pj_tw_mem : ∀ {ch i : Nat} {w : Cond}, pj_tw ch i = some w → w ∈ lw_tbl := by
  intro ch i w h
  have key : ∀ {l : List Cond}, pj_at l i = some w → w ∈ l := fun h => List.mem_of_getElem? ((pj_at_get _ _).symm.trans h)
  have sels : ∀ {l : List (MethodName × Nat)}, (∀ q ∈ l, q ∈ lw_privs) → w ∈ k2_sels l → w ∈ lw_tbl := fun hl h => by
    obtain ⟨q, h1, h2⟩ := List.mem_map.mp h
    exact List.mem_append_left _ (List.mem_map.mpr ⟨q, hl q h1, h2⟩)
  have tab : w ∈ tables_1 → w ∈ lw_tbl := fun h => List.mem_append_right _ h
  unfold pj_tw at h
  split at h
  · exact tab (List.mem_append_left _ (key h))
  · exact tab (List.mem_append_right _ (List.mem_append_left _ (key h)))
  · exact tab (List.mem_append_right _ (List.mem_append_right _ (key h)))
  · exact sels (fun q hq => hq) (key h)
  · cases h
/-- the words that may be carried into a callee -/
def pj_tb : List Cond := lw_tbl.filter goodWord
def pj_nb : List Cond := lw_tbl.filter pj_nest
theorem pj_is_tw {d : Nat} {w : Cond} (h : pj_is d w = true) : w ∈ lw_tbl := by
  unfold pj_is at h
  simp only [Bool.and_eq_true] at h
  exact pj_tw_mem (of_decide_eq_true h.2)
theorem pj_is_mem {d : Nat} {w : Cond} (hn : pj_nest w = false) (h : pj_is d w = true) : w ∈ pj_tb := by
  have h1 := pj_is_tw h
  unfold pj_is at h
  simp only [Bool.and_eq_true, Bool.or_eq_true, hn] at h
  exact List.mem_filter.mpr ⟨h1, by simpa using h.1⟩
theorem pj_is_nest {d : Nat} {w : Cond} (hn : pj_nest w = true) (h : pj_is d w = true) : w ∈ pj_nb := List.mem_filter.mpr ⟨pj_is_tw h, hn⟩
theorem pj_good : ∀ w ∈ pj_tb, goodWord w = true := fun w h => (List.mem_filter.mp h).2
theorem pj_nb_warm {s U : State} (hW : s.WarmedH U.vm) (h : ∀ w ∈ pj_nb, va_Nw w s) : ∀ w ∈ pj_nb, va_Nw w U := by
  intro w hw
  have h1 := h w hw
  have h2 := (List.mem_filter.mp hw).2
  cases w <;> first | exact h1.warmF hW | exact h1.warmM hW | cases h2
theorem pj_nb_tabs : ∀ w ∈ pj_nb, w.onTables = true := by
  intro w hw
  have h2 := (List.mem_filter.mp hw).2
  cases w <;> first | rfl | cases h2
theorem pj_fl_1 {own : String} {n : Nat} {C nm ds : String} {d : Nat} (h : pj_fl own n C nm ds d = 1) : Cond.fieldLink own n C nm ds ∈ lw_tbl := by
  unfold pj_fl at h
  split at h
  · rename_i o i r f g e
    have e1 := pj_tw_mem e
    by_cases hd : o = own ∧ i = n ∧ r = C ∧ f = nm ∧ g = ds
    · obtain ⟨rfl, rfl, rfl, rfl, rfl⟩ := hd
      exact e1
    · rw [decide_eq_false hd] at h
      cases h
  · rename_i o i r f g x e
    cases hx : decide (o = own ∧ i = n ∧ r = C ∧ f = nm ∧ g = ds) <;> rw [hx] at h <;> cases h
  · cases h
theorem pj_fl_2 {own : String} {n : Nat} {C nm ds : String} {d : Nat} (h : pj_fl own n C nm ds d = 2) : ∃ host, Cond.fieldLinkNest own n C nm ds host ∈ pj_nb := by
  unfold pj_fl at h
  split at h
  · rename_i o i r f g e
    cases hx : decide (o = own ∧ i = n ∧ r = C ∧ f = nm ∧ g = ds) <;> rw [hx] at h <;> cases h
  · rename_i o i r f g x e
    have e1 := pj_tw_mem e
    by_cases hd : o = own ∧ i = n ∧ r = C ∧ f = nm ∧ g = ds
    · obtain ⟨rfl, rfl, rfl, rfl, rfl⟩ := hd
      exact ⟨x, List.mem_filter.mpr ⟨e1, rfl⟩⟩
    · rw [decide_eq_false hd] at h
      cases h
  · cases h
theorem pj_tbl_good {w : Cond} (h : w ∈ lw_tbl) (hg : goodWord w = true) : w ∈ pj_tb := List.mem_filter.mpr ⟨h, hg⟩
/-- the classes' own words -/
theorem pj_cls : ∀ (ci : Nat) (q : vw_C), pj_at vwCl ci = some q → ∀ w ∈ u_ws q.1 q.2.1 q.2.2, w ∈ pj_tb := by
  have key : vwCl.all (fun q => (u_ws q.1 q.2.1 q.2.2).all (fun w => decide (w ∈ lw_tbl) && goodWord w)) = true := by decide +kernel
  intro ci q hq w hw
  have h1 := List.all_eq_true.mp key q (List.mem_of_getElem? ((pj_at_get _ _).symm.trans hq))
  have h2 := List.all_eq_true.mp h1 w hw
  simp only [Bool.and_eq_true, decide_eq_true_eq] at h2
  exact pj_tbl_good h2.1 h2.2
theorem pj_clty : ∀ (ci : Nat) (q : vw_C), pj_at vwCl ci = some q → ∀ k, k < q.2.2 → parseFieldDescriptor (q.2.1 k).2.2.1 = some (pj_ty0 q.2.1 k) := by
  have key : vwCl.all (fun q => (List.range q.2.2).all (fun k => (parseFieldDescriptor (q.2.1 k).2.2.1).isSome)) = true := by decide +kernel
  intro ci q hq k hk
  have h1 := List.all_eq_true.mp key q (List.mem_of_getElem? ((pj_at_get _ _).symm.trans hq))
  have h2 := List.all_eq_true.mp h1 k (List.mem_range.mpr hk)
  obtain ⟨ty, hty⟩ := Option.isSome_iff_exists.mp h2
  unfold pj_ty0
  rw [hty]
  rfl
theorem pj_clnm : ∀ (ci : Nat) (q : vw_C), pj_at vwCl ci = some q → ∀ a, a < q.2.2 → ∀ b, b < q.2.2 → a ≠ b → (q.2.1 a).2.1 ≠ (q.2.1 b).2.1 := by
  have key : vwCl.all (fun q => (List.range q.2.2).all (fun a => (List.range q.2.2).all (fun b => decide (a = b) || decide ((q.2.1 a).2.1 ≠ (q.2.1 b).2.1)))) = true := by decide +kernel
  intro ci q hq a ha b hb hab
  have h1 := List.all_eq_true.mp key q (List.mem_of_getElem? ((pj_at_get _ _).symm.trans hq))
  have h2 := List.all_eq_true.mp (List.all_eq_true.mp h1 a (List.mem_range.mpr ha)) b (List.mem_range.mpr hb)
  simp only [Bool.or_eq_true, decide_eq_true_eq] at h2
  rcases h2 with h | h
  · exact absurd h hab
  · exact h
def pj_dv0 : pj_V → Value
  | .inl _ => .int 0
  | .inr _ => .null
theorem pj_cldf : ∀ (ci : Nat) (q : vw_C) (α : Nat → Nat) (b : Nat), pj_at vwCl ci = some q → (k_df ci).length = q.2.2 ∧ ∀ j, j < q.2.2 → defaultValue (pj_ty0 q.2.1 j) = vp_V ((k_df ci).map (pj_cv α b)) j := by
  have key : ∀ ci, ci < 8 → (match pj_at vwCl ci with
    | some q => decide ((k_df ci).length = q.2.2) && ((k_df ci).all (fun v => decide (v = .inl 0 ∨ v = .inr 1001)) && (List.range q.2.2).all (fun j => decide (defaultValue (pj_ty0 q.2.1 j) = vp_V ((k_df ci).map pj_dv0) j)))
    | none => true) = true := by decide +kernel
  intro ci q α b hq
  have hlt : ci < 8 := pj_at_lt hq
  have h1 := key ci hlt
  rw [hq] at h1
  simp only [Bool.and_eq_true, decide_eq_true_eq] at h1
  obtain ⟨h1, h2, h3⟩ := h1
  refine ⟨h1, fun j hj => ?_⟩
  have h4 := List.all_eq_true.mp h3 j (List.mem_range.mpr hj)
  rw [of_decide_eq_true h4]
  congr 1
  refine List.map_congr_left fun v hv => ?_
  have := of_decide_eq_true (List.all_eq_true.mp h2 v hv)
  rcases this with rfl | rfl <;> rfl
end
section
/-! one instruction of the pure machine is one of the JVM's -/
def pj_Cx (p : Program) (R : Room) (s : State) (m : MethodId) (args : Array Value) (meth : Method) (c : Code) (D : va_G) (dA : Nat → ClassId) (A : Nat → Prop) (b : Nat) (X : pj_X) (M : Nat) : Prop :=
  p.tables.exec = Jvm.exec ∧ c.code = k_b M ∧ c.maxLocals = k_nL M ∧ s.vm.findClass (k_y M).cls = some m.cls ∧ (∀ w ∈ pj_tb, w.before args s = true) ∧ (∀ w ∈ pj_nb, va_Nw w s) ∧ va_K D vwCl [(dA 0, .int), (dA 1, .boolean)] s ∧ va_X b X.1 (fun j => Int32.ofInt (X.2 j)) s s.heap ∧ b < s.heap.size ∧ ¬ A b ∧ (∀ q, s.heap.size ≤ q → A q) ∧ meth.name = (k_y M).name ∧ k_fr M ≤ R.frames ∧ k_lo M ≤ R.locals
def pj_St (s : State) (D : va_G) (dA : Nat → ClassId) (A : Nat → Prop) (b M : Nat) (α : Nat → Nat) (la : Array Slot) (H : Heap) (locs : List Loc) (ls : List pj_V) (h : List pj_C) : Prop :=
  va_P D vwCl (pj_wl dA α b 0 h) H ∧ va_D A (pj_wl dA α b 0 h) ∧ va_S A s.heap H locs ∧ lv_has la (k_nL M) (pj_ll α b 0 ls) ∧ ls.length = k_nL M ∧ h.length ≤ 1000
def pj_K (p : Program) (l : Launch) (e : Env) (R : Room) (s : State) (m : MethodId) (args : Array Value) (below : List Frame) (meth : Method) (c : Code) (D : va_G) (dA : Nat → ClassId) (A : Nat → Prop) (b M cells slots : Nat) (Q : State → Prop) (α : Nat → Nat) (h : List pj_C) (pc' : Nat) (ls' st' : List pj_V) (h' : List pj_C) : Prop :=
  ∀ (α' : Nat → Nat) (la' : Array Slot) (H' : Heap) (locs' : List Loc), ((∀ k, k < h.length → α' k = α k) ∧ (h'.length = h.length → α' = α)) → pj_St s D dA A b M α' la' H' locs' ls' h' → W p l e R s m args below meth c H' locs' (cells + (h'.length - h.length)) (slots + (pj_tot h' - pj_tot h)) Q (F0 m pc' la' (st'.map (pj_cv α' b)))
def pj_nsw : Instr → Bool
  | .tableswitch _ _ _ _ => false
  | _ => true
theorem pj_okE_dec {M pc nx a b c d : Nat} {i : Instr} {hd : Bool} (h : pj_okE M pc (i, nx, a, b, c, d, hd) = true) (hs : pj_nsw i = true) : decode (k_b M) pc = .ok (i, pj_len i) ∧ nx = pc + pj_len i := by
  unfold pj_okE at h
  simp only [Bool.and_eq_true, decide_eq_true_eq] at h
  obtain ⟨⟨⟨h1, h2⟩, h3⟩, -⟩ := h
  have h3' : nx = pc + pj_len i := by
    split at h3
    · cases hs
    · exact Nat.eq_of_beq_eq_true h3
  refine ⟨?_, h3'⟩
  rw [h1, h3', Nat.add_sub_cancel_left]
theorem pj_i32 {x : Int} (h : pj_rg x) : (Int32.ofInt x).toInt = x := Int32.toInt_ofInt_of_le (by have := h.1; omega) (by have := h.2; omega)
theorem pj_lt32 {x y : Int} (hx : pj_rg x) (hy : pj_rg y) : Int32.ofInt x < Int32.ofInt y ↔ x < y := by rw [Int32.lt_iff_toInt_lt, pj_i32 hx, pj_i32 hy]
theorem pj_le32 {x y : Int} (hx : pj_rg x) (hy : pj_rg y) : Int32.ofInt x ≤ Int32.ofInt y ↔ x ≤ y := by rw [Int32.le_iff_toInt_le, pj_i32 hx, pj_i32 hy]
theorem pj_eq32 {x y : Int} (hx : pj_rg x) (hy : pj_rg y) : Int32.ofInt x = Int32.ofInt y ↔ x = y := by rw [← Int32.toInt_inj, pj_i32 hx, pj_i32 hy]
theorem pj_rg0 : pj_rg 0 := by unfold pj_rg; omega
theorem pj_z32 : Int32.ofInt 0 = 0 := rfl
theorem pj_cl32 {j : Int} (h0 : 0 ≤ j) (h1 : j < 2147483648) : (Int32.ofInt j).toNatClampNeg = j.toNat := Int32.toNatClampNeg_ofInt_of_le (by omega) (by omega)
theorem pj_in32 {j : Int} {n : Nat} (h0 : 0 ≤ j) (hn : j < (n : Int)) (h1 : j < 2147483648) : vp_in (Int32.ofInt j) n := by
  intro h
  rcases h with h | h
  · rw [← pj_z32, pj_lt32 (by unfold pj_rg; omega) pj_rg0] at h
    omega
  · rw [pj_cl32 h0 h1] at h
    omega
theorem pj_div32 {x y : Int} (h : pj_dv x y) : Int32.ofInt (x.tdiv y) = Int32.ofInt x / Int32.ofInt y :=
  Int32.ofInt_tdiv (by have := h.1.1; show (-2147483648 : Int) ≤ x; omega) (by have := h.1.2; show x ≤ (2147483647 : Int); omega) (by have := h.2.1.1; show (-2147483648 : Int) ≤ y; omega) (by have := h.2.1.2; show y ≤ (2147483647 : Int); omega)
theorem pj_rem32 {x y : Int} (h : pj_dv x y) : Int32.ofInt (x.tmod y) = Int32.ofInt x - Int32.ofInt x / Int32.ofInt y * Int32.ofInt y := by
  rw [← pj_div32 h, ← Int32.ofInt_mul, ← Int32.ofInt_sub, Int.tmod_def, Int.mul_comm]
theorem pj_ne32 {x y : Int} (h : pj_dv x y) : ¬ Int32.ofInt y = 0 := by
  rw [← pj_z32, pj_eq32 h.2.1 pj_rg0]
  exact h.2.2
theorem pj_upd32 (f : Nat → Int) (k : Nat) (z : Int) : (fun j => Int32.ofInt (pj_up f k z j)) = upd (fun j => Int32.ofInt (f j)) k (Int32.ofInt z) := by
  funext j
  simp only [pj_up, upd]
  split <;> rfl
section STEP
variable {p : Program} {l : Launch} {e : Env} {R : Room} {s : State} {m : MethodId} {args : Array Value} {below : List Frame} {meth : Method} {c : Code} {D : va_G} {dA : Nat → ClassId} {A : Nat → Prop} {b M cells slots : Nat} {Q : State → Prop} {X : pj_X}
variable {α : Nat → Nat} {la : Array Slot} {H : Heap} {locs : List Loc} {ls st : List pj_V} {h : List pj_C} {al hd : Bool} {pc nx a b1 c1 d pc' : Nat} {P : Prop} {ls' st' : List pj_V} {h' : List pj_C}
theorem pj_K.same (kk : pj_K p l e R s m args below meth c D dA A b M cells slots Q α h pc' ls' st' h) (S : pj_St s D dA A b M α la H locs ls' h) : W p l e R s m args below meth c H locs cells slots Q (F0 m pc' la (st'.map (pj_cv α b))) :=
  W.cs (by omega) (by omega) (kk α la H locs ⟨fun _ _ => rfl, fun _ => rfl⟩ S)
theorem pj_St.lcs (S : pj_St s D dA A b M α la H locs ls h) {la' : Array Slot} {ls' : List pj_V} (h1 : lv_has la' (k_nL M) (pj_ll α b 0 ls')) (h2 : ls'.length = k_nL M) : pj_St s D dA A b M α la' H locs ls' h := ⟨S.1, S.2.1, S.2.2.1, h1, h2, S.2.2.2.2.2⟩
theorem pj_St.get (S : pj_St s D dA A b M α la H locs ls h) {k : Nat} {v : pj_V} (h1 : pj_at ls k = some v) (h2 : pj_ok v = true) : la[k]? = some (.val (pj_cv α b v)) := by
  have := S.2.2.2.1.2.2 _ (pj_ll_mem (α := α) (b := b) (k := 0) h1 (pj_tr_ok h2))
  simpa using this
theorem sp_ldi {k : Nat} {i : Instr} (hi : i = .iload k ∨ ∃ q : Fin 4, i = .iload_n q ∧ q.val = k) (C : pj_Cx p R s m args meth c D dA A b X M) (S : pj_St s D dA A b M α la H locs ls h) (hok : pj_okE M pc (i, nx, a, b1, c1, d, hd) = true) (he : pj_ldi nx ls st h k = some (P, pc', ls', st', h')) (kk : pj_K p l e R s m args below meth c D dA A b M cells slots Q α h pc' ls' st' h') : W p l e R s m args below meth c H locs cells slots Q (F0 m pc la (st.map (pj_cv α b))) := by
  obtain ⟨hx, hb, -⟩ := C
  unfold pj_ldi at he
  split at he
  · rename_i z hz
    cases he
    have hl := S.get hz rfl
    rcases hi with rfl | ⟨q, rfl, rfl⟩
    · obtain ⟨hdg, rfl⟩ := pj_okE_dec hok rfl
      exact lv_iload hx hb hdg hl (kk.same S)
    · obtain ⟨hdg, rfl⟩ := pj_okE_dec hok rfl
      exact lv_iload_n hx hb hdg rfl hl (kk.same S)
  · cases he
theorem sp_lda {k : Nat} {i : Instr} (hi : i = .aload k ∨ ∃ q : Fin 4, i = .aload_n q ∧ q.val = k) (C : pj_Cx p R s m args meth c D dA A b X M) (S : pj_St s D dA A b M α la H locs ls h) (hok : pj_okE M pc (i, nx, a, b1, c1, d, hd) = true) (he : pj_lda nx ls st h k = some (P, pc', ls', st', h')) (kk : pj_K p l e R s m args below meth c D dA A b M cells slots Q α h pc' ls' st' h') : W p l e R s m args below meth c H locs cells slots Q (F0 m pc la (st.map (pj_cv α b))) := by
  obtain ⟨hx, hb, -⟩ := C
  unfold pj_lda at he
  split at he
  · rename_i r hz
    cases ho : pj_ok (.inr r) with
    | false => rw [ho] at he; cases he
    | true =>
      rw [ho] at he
      cases he
      have hl := S.get hz ho
      obtain ⟨x, hxr⟩ := pj_cv_ok (α := α) (b := b) ho
      rw [hxr] at hl
      have kk := kk.same S
      rw [List.map_cons, hxr] at kk
      rcases hi with rfl | ⟨q, rfl, rfl⟩
      · obtain ⟨hdg, rfl⟩ := pj_okE_dec hok rfl
        exact lv_aload hx hb hdg hl kk
      · obtain ⟨hdg, rfl⟩ := pj_okE_dec hok rfl
        exact lv_aload_n hx hb hdg rfl hl kk
  · cases he
theorem sp_sti {k : Nat} {i : Instr} (hi : i = .istore k ∨ ∃ q : Fin 4, i = .istore_n q ∧ q.val = k) (C : pj_Cx p R s m args meth c D dA A b X M) (S : pj_St s D dA A b M α la H locs ls h) (hok : pj_okE M pc (i, nx, a, b1, c1, d, hd) = true) (he : pj_sti nx ls st h k = some (P, pc', ls', st', h')) (kk : pj_K p l e R s m args below meth c D dA A b M cells slots Q α h pc' ls' st' h') : W p l e R s m args below meth c H locs cells slots Q (F0 m pc la (st.map (pj_cv α b))) := by
  obtain ⟨hx, hb, -⟩ := C
  unfold pj_sti at he
  split at he
  · rename_i z t
    cases ho : (Nat.blt k ls.length && pj_nl ls k) with
    | false => rw [ho] at he; cases he
    | true =>
      rw [ho] at he
      cases he
      rw [Bool.and_eq_true] at ho
      have hk : k < ls.length := Nat.le_of_ble_eq_true ho.1
      have hk2 : k < k_nL M := by rw [← S.2.2.2.2.1]; exact hk
      have go : ∀ ls9 : Array Slot, lv_has ls9 (k_nL M) ((k, Value.int (Int32.ofInt z)) :: (pj_ll α b 0 ls).filter (fun q => !(q.1 == k) && !(q.1 + 1 == k && q.2.category == 2))) → W p l e R s m args below meth c H locs cells slots Q (F0 m nx ls9 (st'.map (pj_cv α b))) := fun ls9 h9 =>
        kk.same (S.lcs (pj_ll_set hk ho.2 h9) (by rw [List.length_set]; exact S.2.2.2.2.1))
      rcases hi with rfl | ⟨q, rfl, rfl⟩
      · obtain ⟨hdg, rfl⟩ := pj_okE_dec hok rfl
        exact lv_istore hx hb hdg S.2.2.2.1 hk2 rfl go
      · obtain ⟨hdg, rfl⟩ := pj_okE_dec hok rfl
        exact lv_istore_n hx hb hdg rfl S.2.2.2.1 hk2 rfl go
  · cases he
theorem sp_sta {k : Nat} {i : Instr} (hi : i = .astore k ∨ ∃ q : Fin 4, i = .astore_n q ∧ q.val = k) (C : pj_Cx p R s m args meth c D dA A b X M) (S : pj_St s D dA A b M α la H locs ls h) (hok : pj_okE M pc (i, nx, a, b1, c1, d, hd) = true) (he : pj_sta nx ls st h k = some (P, pc', ls', st', h')) (kk : pj_K p l e R s m args below meth c D dA A b M cells slots Q α h pc' ls' st' h') : W p l e R s m args below meth c H locs cells slots Q (F0 m pc la (st.map (pj_cv α b))) := by
  obtain ⟨hx, hb, -⟩ := C
  unfold pj_sta at he
  split at he
  · rename_i r t
    cases ho : ((pj_ok (.inr r) && Nat.blt k ls.length) && pj_nl ls k) with
    | false => rw [ho] at he; cases he
    | true =>
      rw [ho] at he
      cases he
      rw [Bool.and_eq_true, Bool.and_eq_true] at ho
      have hk : k < ls.length := Nat.le_of_ble_eq_true ho.1.2
      have hk2 : k < k_nL M := by rw [← S.2.2.2.2.1]; exact hk
      obtain ⟨x, hxr⟩ := pj_cv_ok (α := α) (b := b) ho.1.1
      have go : ∀ ls9 : Array Slot, lv_has ls9 (k_nL M) ((k, Value.ref x) :: (pj_ll α b 0 ls).filter (fun q => !(q.1 == k) && !(q.1 + 1 == k && q.2.category == 2))) → W p l e R s m args below meth c H locs cells slots Q (F0 m nx ls9 (st'.map (pj_cv α b))) := fun ls9 h9 =>
        kk.same (S.lcs (pj_ll_set (v := .inr r) hk ho.2 (by rw [hxr]; exact h9)) (by rw [List.length_set]; exact S.2.2.2.2.1))
      rw [List.map_cons, hxr]
      rcases hi with rfl | ⟨q, rfl, rfl⟩
      · obtain ⟨hdg, rfl⟩ := pj_okE_dec hok rfl
        exact lv_astore hx hb hdg S.2.2.2.1 hk2 rfl go
      · obtain ⟨hdg, rfl⟩ := pj_okE_dec hok rfl
        exact lv_astore_n hx hb hdg rfl S.2.2.2.1 hk2 rfl go
  · cases he
theorem sp_cst {i : Instr} {z : Int} (hi : i = .iconst z ∨ i = .bipush z ∨ i = .sipush z) (C : pj_Cx p R s m args meth c D dA A b X M) (S : pj_St s D dA A b M α la H locs ls h) (hok : pj_okE M pc (i, nx, a, b1, c1, d, hd) = true) (kk : pj_K p l e R s m args below meth c D dA A b M cells slots Q α h nx ls (.inl z :: st) h) : W p l e R s m args below meth c H locs cells slots Q (F0 m pc la (st.map (pj_cv α b))) := by
  obtain ⟨hx, hb, -⟩ := C
  rcases hi with rfl | rfl | rfl
  · obtain ⟨hdg, rfl⟩ := pj_okE_dec hok rfl
    exact lv_iconst hx hb hdg rfl (kk.same S)
  · obtain ⟨hdg, rfl⟩ := pj_okE_dec hok rfl
    simp only [pj_okE, Bool.and_eq_true, decide_eq_true_eq] at hok
    exact lv_bipush hx hb hdg hok.2 (kk.same S)
  · obtain ⟨hdg, rfl⟩ := pj_okE_dec hok rfl
    simp only [pj_okE, Bool.and_eq_true, decide_eq_true_eq] at hok
    exact lv_sipush hx hb hdg hok.2 (kk.same S)
theorem sp_iinc {k : Nat} {z x : Int} (hx0 : pj_at ls k = some (.inl x)) (hnl : pj_nl ls k = true) (C : pj_Cx p R s m args meth c D dA A b X M) (S : pj_St s D dA A b M α la H locs ls h) (hok : pj_okE M pc (.iinc k z, nx, a, b1, c1, d, hd) = true) (kk : pj_K p l e R s m args below meth c D dA A b M cells slots Q α h nx (ls.set k (.inl (x + z))) st h) : W p l e R s m args below meth c H locs cells slots Q (F0 m pc la (st.map (pj_cv α b))) := by
  obtain ⟨hx, hb, -⟩ := C
  obtain ⟨hdg, rfl⟩ := pj_okE_dec hok rfl
  have hk := pj_at_lt hx0
  have hk2 : k < k_nL M := by rw [← S.2.2.2.2.1]; exact hk
  obtain ⟨j, hj⟩ := List.getElem?_of_mem (pj_ll_mem (α := α) (b := b) (k := 0) hx0 rfl)
  rw [Nat.zero_add] at hj
  exact lv_iinc (v := Int32.ofInt (x + z)) hx hb hdg S.2.2.2.1 hj (Int32.ofInt_add x z).symm hk2 rfl (fun ls9 h9 => kk.same (S.lcs (pj_ll_set (v := .inl (x + z)) hk hnl h9) (by rw [List.length_set]; exact S.2.2.2.2.1)))
theorem sp_goto {o : Int} (C : pj_Cx p R s m args meth c D dA A b X M) (S : pj_St s D dA A b M α la H locs ls h) (hok : pj_okE M pc (.goto o, nx, a, b1, c1, d, hd) = true) (kk : pj_K p l e R s m args below meth c D dA A b M cells slots Q α h a ls st h) : W p l e R s m args below meth c H locs cells slots Q (F0 m pc la (st.map (pj_cv α b))) := by
  obtain ⟨hx, hb, -⟩ := C
  obtain ⟨hdg, rfl⟩ := pj_okE_dec hok rfl
  simp only [pj_okE, Bool.and_eq_true, decide_eq_true_eq] at hok
  exact lv_goto hx hb hdg hok.2 (kk.same S)
/-- two ints off the stack, one on it -/
theorem sp_b2 {i : Instr} {z x y : Int} (C : pj_Cx p R s m args meth c D dA A b X M) (S : pj_St s D dA A b M α la H locs ls h) (hok : pj_okE M pc (i, nx, a, b1, c1, d, hd) = true) (hl : pj_len i = 1) (hs : pj_nsw i = true)
    (row : decode (k_b M) pc = .ok (i, 1) → W p l e R s m args below meth c H locs cells slots Q (F0 m (pc + 1) la (.int (Int32.ofInt z) :: st.map (pj_cv α b))) → W p l e R s m args below meth c H locs cells slots Q (F0 m pc la (.int (Int32.ofInt y) :: .int (Int32.ofInt x) :: st.map (pj_cv α b))))
    (kk : pj_K p l e R s m args below meth c D dA A b M cells slots Q α h nx ls (.inl z :: st) h) : W p l e R s m args below meth c H locs cells slots Q (F0 m pc la ((.inl y :: .inl x :: st : List pj_V).map (pj_cv α b))) := by
  obtain ⟨hdg, rfl⟩ := pj_okE_dec hok hs
  rw [hl] at hdg kk
  exact row hdg (kk.same S)
theorem pj_bt (x : Int32) : Int32.ofInt x.toInt = x := Int32.ofInt_toInt x
theorem sp_bin {i : Instr} {q : Int → Int → Prop} {f : Int → Int → Int} (C : pj_Cx p R s m args meth c D dA A b X M) (S : pj_St s D dA A b M α la H locs ls h) (hok : pj_okE M pc (i, nx, a, b1, c1, d, hd) = true)
    (hif : (i = .iadd ∧ q = (fun _ _ => True) ∧ f = (fun x y => x + y)) ∨ (i = .isub ∧ q = (fun _ _ => True) ∧ f = (fun x y => x - y)) ∨ (i = .imul ∧ q = (fun _ _ => True) ∧ f = (fun x y => x * y)) ∨ (i = .idiv ∧ q = pj_dv ∧ f = (fun x y => x.tdiv y)) ∨ (i = .irem ∧ q = pj_dv ∧ f = (fun x y => x.tmod y)) ∨ (i = .iand ∧ q = (fun _ _ => True) ∧ f = pj_and) ∨ (i = .ior ∧ q = (fun _ _ => True) ∧ f = pj_or) ∨ (i = .ixor ∧ q = (fun _ _ => True) ∧ f = pj_xor) ∨ (i = .ishl ∧ q = (fun _ _ => True) ∧ f = pj_shl) ∨ (i = .ishr ∧ q = (fun _ _ => True) ∧ f = pj_shr))
    (he : pj_b2 nx ls st h q f = some (P, pc', ls', st', h')) (hP : P) (kk : pj_K p l e R s m args below meth c D dA A b M cells slots Q α h pc' ls' st' h') : W p l e R s m args below meth c H locs cells slots Q (F0 m pc la (st.map (pj_cv α b))) := by
  have hx := C.1
  have hb := C.2.1
  unfold pj_b2 at he
  split at he
  · rename_i y x t
    cases he
    rcases hif with ⟨rfl, rfl, rfl⟩ | ⟨rfl, rfl, rfl⟩ | ⟨rfl, rfl, rfl⟩ | ⟨rfl, rfl, rfl⟩ | ⟨rfl, rfl, rfl⟩ | ⟨rfl, rfl, rfl⟩ | ⟨rfl, rfl, rfl⟩ | ⟨rfl, rfl, rfl⟩ | ⟨rfl, rfl, rfl⟩ | ⟨rfl, rfl, rfl⟩
    · exact sp_b2 C S hok rfl rfl (fun hdg k => lv_iadd hx hb hdg (by rw [← Int32.ofInt_add]; exact k)) kk
    · exact sp_b2 C S hok rfl rfl (fun hdg k => lv_isub hx hb hdg (by rw [← Int32.ofInt_sub]; exact k)) kk
    · exact sp_b2 C S hok rfl rfl (fun hdg k => lv_imul hx hb hdg (by rw [← Int32.ofInt_mul]; exact k)) kk
    · exact sp_b2 C S hok rfl rfl (fun hdg k => lv_idiv hx hb hdg (pj_ne32 hP) (by rw [← pj_div32 hP]; exact k)) kk
    · exact sp_b2 C S hok rfl rfl (fun hdg k => lv_irem hx hb hdg (pj_ne32 hP) (by rw [← pj_rem32 hP]; exact k)) kk
    · exact sp_b2 C S hok rfl rfl (fun hdg k => lv_iand hx hb hdg (by rw [pj_and, pj_bt] at k; exact k)) kk
    · exact sp_b2 C S hok rfl rfl (fun hdg k => lv_ior hx hb hdg (by rw [pj_or, pj_bt] at k; exact k)) kk
    · exact sp_b2 C S hok rfl rfl (fun hdg k => lv_ixor hx hb hdg (by rw [pj_xor, pj_bt] at k; exact k)) kk
    · exact sp_b2 C S hok rfl rfl (fun hdg k => lv_ishl hx hb hdg (by rw [pj_shl, pj_bt] at k; exact k)) kk
    · exact sp_b2 C S hok rfl rfl (fun hdg k => lv_ishr hx hb hdg (by rw [pj_shr, pj_bt] at k; exact k)) kk
  · cases he
theorem sp_ineg {x : Int} {t : List pj_V} (C : pj_Cx p R s m args meth c D dA A b X M) (S : pj_St s D dA A b M α la H locs ls h) (hok : pj_okE M pc (.ineg, nx, a, b1, c1, d, hd) = true) (kk : pj_K p l e R s m args below meth c D dA A b M cells slots Q α h nx ls (.inl (-x) :: t) h) : W p l e R s m args below meth c H locs cells slots Q (F0 m pc la ((.inl x :: t : List pj_V).map (pj_cv α b))) := by
  obtain ⟨hdg, rfl⟩ := pj_okE_dec hok rfl
  have k := kk.same S
  refine lv_ineg (x := Int32.ofInt x) C.1 C.2.1 hdg ?_
  rw [← Int32.ofInt_neg]
  exact k
theorem sp_dup {v : pj_V} {t : List pj_V} (hv : pj_n2 v = true) (C : pj_Cx p R s m args meth c D dA A b X M) (S : pj_St s D dA A b M α la H locs ls h) (hok : pj_okE M pc (.dup, nx, a, b1, c1, d, hd) = true) (kk : pj_K p l e R s m args below meth c D dA A b M cells slots Q α h nx ls (v :: v :: t) h) : W p l e R s m args below meth c H locs cells slots Q (F0 m pc la ((v :: t).map (pj_cv α b))) := by
  obtain ⟨hdg, rfl⟩ := pj_okE_dec hok rfl
  exact lv_dup C.1 C.2.1 hdg (pj_cv_cat hv) (kk.same S)
theorem sp_dup2 {v w : pj_V} {t : List pj_V} (hv : (pj_n2 v && pj_n2 w) = true) (C : pj_Cx p R s m args meth c D dA A b X M) (S : pj_St s D dA A b M α la H locs ls h) (hok : pj_okE M pc (.dup2, nx, a, b1, c1, d, hd) = true) (kk : pj_K p l e R s m args below meth c D dA A b M cells slots Q α h nx ls (v :: w :: v :: w :: t) h) : W p l e R s m args below meth c H locs cells slots Q (F0 m pc la ((v :: w :: t).map (pj_cv α b))) := by
  obtain ⟨hdg, rfl⟩ := pj_okE_dec hok rfl
  rw [Bool.and_eq_true] at hv
  exact lv_dup2_11 C.1 C.2.1 hdg (by first | exact pj_cv_cat hv.1 | exact pj_cv_cat hv.2) (by first | exact pj_cv_cat hv.2 | exact pj_cv_cat hv.1) (kk.same S)
theorem sp_pop {v : pj_V} {t : List pj_V} (hv : pj_n2 v = true) (C : pj_Cx p R s m args meth c D dA A b X M) (S : pj_St s D dA A b M α la H locs ls h) (hok : pj_okE M pc (.pop, nx, a, b1, c1, d, hd) = true) (kk : pj_K p l e R s m args below meth c D dA A b M cells slots Q α h nx ls t h) : W p l e R s m args below meth c H locs cells slots Q (F0 m pc la ((v :: t).map (pj_cv α b))) := by
  obtain ⟨hdg, rfl⟩ := pj_okE_dec hok rfl
  exact lv_pop C.1 C.2.1 hdg (pj_cv_cat hv) (kk.same S)
/-- the cell at a place -/
theorem pj_St.cell (S : pj_St s D dA A b M α la H locs ls h) {r : Nat} {q : pj_C} (hq : pj_at h r = some q) : (pj_wl dA α b 0 h)[r]? = some (α r, pj_cc dA α b q) ∧ pj_cv α b (.inr r) = .ref (α r) := by
  refine ⟨by simpa using pj_wl_at (dA := dA) (α := α) (b := b) (k := 0) hq, pj_cv_ref ?_⟩
  have := pj_at_lt hq
  have := S.2.2.2.2.2
  omega
theorem pj_okG_spec {n : Nat} {put : Bool} (hk : pj_okG M n a b1 c1 d put = true) : ∃ (C : String) (T : u_T) (N : Nat), pj_at vwCl a = some (C, T, N) ∧ b1 < N ∧ (T b1).1 = C ∧ (pj_fl (k_y M).cls n C (T b1).2.1 (T b1).2.2.1 d = 1 ∧ (put = true → (T b1).2.2.2 = false ∨ ((k_y M).name = "<init>" ∧ C = (k_y M).cls)) ∨ pj_fl (k_y M).cls n C (T b1).2.1 (T b1).2.2.1 d = 2 ∧ (put = true → (T b1).2.2.2 = false)) ∧ (put = true → (c1 = 0 ∧ pj_ty0 T b1 = .int) ∨ (c1 ≠ 0 ∧ ((∃ n, pj_ty0 T b1 = .object n) ∨ ∃ t, pj_ty0 T b1 = .array t))) := by
  unfold pj_okG at hk
  split at hk
  · rename_i C T N hq
    simp only [Bool.and_eq_true, decide_eq_true_eq] at hk
    obtain ⟨h1, ⟨h2, h3⟩, h4⟩ := hk
    refine ⟨C, T, N, hq, Nat.le_of_ble_eq_true h1, h2, ?_, ?_⟩
    · split at h3
      · rename_i e
        refine Or.inl ⟨e, fun hp => ?_⟩
        subst hp
        simp only [Bool.not_true, Bool.false_or, Bool.or_eq_true, decide_eq_true_eq, Bool.not_eq_true'] at h3
        exact h3
      · rename_i e
        refine Or.inr ⟨e, fun hp => ?_⟩
        subst hp
        simpa using h3
      · cases h3
    · intro hp
      subst hp
      simp only [Bool.not_true, Bool.false_or] at h4
      split at h4
      · refine Or.inl ⟨rfl, ?_⟩
        unfold pj_isInt at h4
        split at h4
        · assumption
        · cases h4
      · rename_i hc
        refine Or.inr ⟨hc, ?_⟩
        unfold pj_isRef at h4
        split at h4
        · exact Or.inl ⟨_, by assumption⟩
        · exact Or.inr ⟨_, by assumption⟩
        · cases h4
  · cases hk
theorem pj_cl_get {q : vw_C} (hq : pj_at vwCl a = some q) : vwCl[a]? = some q := (pj_at_get _ _).symm.trans hq
theorem pj_at_map {α' β : Type} (f : α' → β) (l : List α') (k : Nat) (v : α') (hk : pj_at l k = some v) : (l.map f)[k]? = some (f v) := by
  rw [List.getElem?_map, ← pj_at_get, hk]
  rfl
theorem sp_get {n r ci : Nat} {fs t : List pj_V} {v : pj_V} (hq : pj_at h r = some (.inr (ci, fs))) (hv : pj_at fs b1 = some v) (hc : (Nat.beq ci a && pj_ok v) = true) (C : pj_Cx p R s m args meth c D dA A b X M) (S : pj_St s D dA A b M α la H locs ls h) (hok : pj_okE M pc (.getfield n, nx, a, b1, c1, d, hd) = true) (kk : pj_K p l e R s m args below meth c D dA A b M cells slots Q α h nx ls (v :: t) h) : W p l e R s m args below meth c H locs cells slots Q (F0 m pc la ((.inr r :: t : List pj_V).map (pj_cv α b))) := by
  obtain ⟨hdg, rfl⟩ := pj_okE_dec hok rfl
  have hok2 : pj_okG M n a b1 c1 d false = true := by
    simp only [pj_okE, Bool.and_eq_true] at hok
    exact hok.2
  obtain ⟨cn, T, N, hcl, hb1, hT, hf, -⟩ := pj_okG_spec hok2
  rw [Bool.and_eq_true] at hc
  have hca := Nat.eq_of_beq_eq_true hc.1
  subst hca
  obtain ⟨hw, hr⟩ := S.cell hq
  obtain ⟨hx, hb, hml, hown, hts, hnw, hK, -⟩ := C
  rw [List.map_cons, hr]
  rcases hf with ⟨hf, -⟩ | ⟨hf, -⟩
  · refine va_get (T := T) (N := N) (C := cn) (ref := cn) hx hb hts (pj_cls ci _ hcl) hown hK S.1 r hw (pj_cl_get hcl) b1 hb1 (hts _ (pj_tbl_good (pj_fl_1 hf) rfl)) (fun x h9 => by rw [hT] at h9; exact h9) (pj_at_map _ _ _ _ hv) hdg (kk.same S)
  · obtain ⟨host, hm⟩ := pj_fl_2 hf
    refine va_getN (T := T) (N := N) (C := cn) (ref := cn) (host := host) hx hb hts (pj_cls ci _ hcl) hown hK S.1 r hw (pj_cl_get hcl) b1 hb1 (va_Nw.use rfl (hnw _ hm)) (fun x h9 => by rw [hT] at h9; exact h9) (pj_at_map _ _ _ _ hv) hdg (kk.same S)
/-! longs -/
theorem pj_dcl {x : Nat} (h : 2000 ≤ x) : ((2000 + (x - 2000) : Nat) : Int) - 2000 = (x : Int) - 2000 := by omega
theorem sp_ldc {n : Nat} (C : pj_Cx p R s m args meth c D dA A b X M) (S : pj_St s D dA A b M α la H locs ls h) (hok : pj_okE M pc (.ldc n, nx, a, b1, c1, d, hd) = true) (kk : pj_K p l e R s m args below meth c D dA A b M cells slots Q α h nx ls (.inl (a : Int) :: st) h) : W p l e R s m args below meth c H locs cells slots Q (F0 m pc la (st.map (pj_cv α b))) := by
  obtain ⟨hx, hb, hml, hown, hts, -⟩ := C
  obtain ⟨hdg, rfl⟩ := pj_okE_dec hok rfl
  simp only [pj_okE, Bool.and_eq_true] at hok
  exact lv_ldc hx hb hown (hts _ (pj_is_mem rfl hok.2)) hdg (kk.same S)
theorem sp_ldc2 {n : Nat} (C : pj_Cx p R s m args meth c D dA A b X M) (S : pj_St s D dA A b M α la H locs ls h) (hok : pj_okE M pc (.ldc2_w n, nx, a, b1, c1, d, hd) = true) (kk : pj_K p l e R s m args below meth c D dA A b M cells slots Q α h nx ls (.inr (2000 + a) :: st) h) : W p l e R s m args below meth c H locs cells slots Q (F0 m pc la (st.map (pj_cv α b))) := by
  obtain ⟨hx, hb, hml, hown, hts, -⟩ := C
  obtain ⟨hdg, rfl⟩ := pj_okE_dec hok rfl
  simp only [pj_okE, Bool.and_eq_true] at hok
  have k := kk.same S
  rw [List.map_cons, pj_cv_long (by omega), show ((2000 + a : Nat) : Int) - 2000 = (a : Int) by omega] at k
  exact lv_ldc2 hx hb hown (hts _ (pj_is_mem rfl hok.2)) hdg k
theorem sp_lconst {n : Fin 2} (C : pj_Cx p R s m args meth c D dA A b X M) (S : pj_St s D dA A b M α la H locs ls h) (hok : pj_okE M pc (.lconst n, nx, a, b1, c1, d, hd) = true) (kk : pj_K p l e R s m args below meth c D dA A b M cells slots Q α h nx ls (.inr (2000 + n.val) :: st) h) : W p l e R s m args below meth c H locs cells slots Q (F0 m pc la (st.map (pj_cv α b))) := by
  obtain ⟨hx, hb, -⟩ := C
  obtain ⟨hdg, rfl⟩ := pj_okE_dec hok rfl
  have k := kk.same S
  rw [List.map_cons, pj_cv_long (by omega), show ((2000 + n.val : Nat) : Int) - 2000 = ((n.val : Nat) : Int) by omega] at k
  exact lv_lconst hx hb hdg (by rw [← Int64.ofInt_eq_ofNat]) k
theorem sp_ldl {k : Nat} {i : Instr} (hi : i = .lload k ∨ ∃ q : Fin 4, i = .lload_n q ∧ q.val = k) (C : pj_Cx p R s m args meth c D dA A b X M) (S : pj_St s D dA A b M α la H locs ls h) (hok : pj_okE M pc (i, nx, a, b1, c1, d, hd) = true) (he : pj_ldl nx ls st h k = some (P, pc', ls', st', h')) (hP : P) (kk : pj_K p l e R s m args below meth c D dA A b M cells slots Q α h pc' ls' st' h') : W p l e R s m args below meth c H locs cells slots Q (F0 m pc la (st.map (pj_cv α b))) := by
  obtain ⟨hx, hb, -⟩ := C
  unfold pj_ldl at he
  split at he
  · rename_i r hz
    cases he
    have hr : 2000 ≤ r := hP
    have hl : la[k]? = some (.val (pj_cv α b (.inr r))) := by
      have := S.2.2.2.1.2.2 _ (pj_ll_mem (α := α) (b := b) (k := 0) hz (by simp only [pj_tr, Nat.ble_eq_true_of_le hr, Bool.or_true]))
      simpa using this
    have kk := kk.same S
    rw [pj_cv_long hr] at hl
    rw [List.map_cons, pj_cv_long hr] at kk
    rcases hi with rfl | ⟨q, rfl, rfl⟩
    · obtain ⟨hdg, rfl⟩ := pj_okE_dec hok rfl
      exact lv_lload hx hb hdg hl kk
    · obtain ⟨hdg, rfl⟩ := pj_okE_dec hok rfl
      exact lv_lload_n hx hb hdg rfl hl kk
  · cases he
theorem sp_stl {k : Nat} {i : Instr} (hi : i = .lstore k ∨ ∃ q : Fin 4, i = .lstore_n q ∧ q.val = k) (C : pj_Cx p R s m args meth c D dA A b X M) (S : pj_St s D dA A b M α la H locs ls h) (hok : pj_okE M pc (i, nx, a, b1, c1, d, hd) = true) (he : pj_stl nx ls st h k = some (P, pc', ls', st', h')) (hP : P) (kk : pj_K p l e R s m args below meth c D dA A b M cells slots Q α h pc' ls' st' h') : W p l e R s m args below meth c H locs cells slots Q (F0 m pc la (st.map (pj_cv α b))) := by
  obtain ⟨hx, hb, -⟩ := C
  unfold pj_stl at he
  split at he
  · rename_i r t
    cases ho : (Nat.blt (k + 1) ls.length && pj_nl ls k) with
    | false => rw [ho] at he; cases he
    | true =>
    rw [ho] at he
    rw [Bool.and_eq_true] at ho
    cases he
    have hr : 2000 ≤ r := hP
    have hk : k + 1 < ls.length := Nat.le_of_ble_eq_true ho.1
    have hk2 : k + 1 < k_nL M := by rw [← S.2.2.2.2.1]; exact hk
    have go : ∀ ls9 : Array Slot, lv_has ls9 (k_nL M) ((k, Value.long (Int64.ofInt ((r : Int) - 2000))) :: (pj_ll α b 0 ls).filter (fun q => !(q.1 == k) && (!(q.1 == k + 1) && !(q.1 + 1 == k && q.2.category == 2)))) → W p l e R s m args below meth c H locs cells slots Q (F0 m nx ls9 (st'.map (pj_cv α b))) := fun ls9 h9 =>
      kk.same (S.lcs (pj_ll_set2 (v := .inr r) hk ho.2 (by rw [pj_cv_long hr]; exact h9)) (by rw [List.length_set, List.length_set]; exact S.2.2.2.2.1))
    rw [List.map_cons, pj_cv_long hr]
    rcases hi with rfl | ⟨q, rfl, rfl⟩
    · obtain ⟨hdg, rfl⟩ := pj_okE_dec hok rfl
      exact lv_lstore hx hb hdg S.2.2.2.1 hk2 rfl go
    · obtain ⟨hdg, rfl⟩ := pj_okE_dec hok rfl
      exact lv_lstore_n hx hb hdg rfl S.2.2.2.1 hk2 rfl go
  · cases he
theorem sp_i2l {x : Int} {t : List pj_V} (hP : 0 ≤ x ∧ x ≤ 2147483647) (C : pj_Cx p R s m args meth c D dA A b X M) (S : pj_St s D dA A b M α la H locs ls h) (hok : pj_okE M pc (.i2l, nx, a, b1, c1, d, hd) = true) (kk : pj_K p l e R s m args below meth c D dA A b M cells slots Q α h nx ls (.inr (2000 + x.toNat) :: t) h) : W p l e R s m args below meth c H locs cells slots Q (F0 m pc la ((.inl x :: t : List pj_V).map (pj_cv α b))) := by
  obtain ⟨hdg, rfl⟩ := pj_okE_dec hok rfl
  have k := kk.same S
  rw [List.map_cons, pj_cv_long (by omega), show ((2000 + x.toNat : Nat) : Int) - 2000 = x by omega] at k
  refine lv_i2l (x := Int32.ofInt x) C.1 C.2.1 hdg ?_ k
  rw [← Int64.toInt_inj, Int32.toInt_toInt64, pj_i32 ⟨by omega, by omega⟩, Int64.toInt_ofInt_of_le (by omega) (by omega)]
theorem sp_lmul {x y : Nat} {t : List pj_V} (hP : 2000 ≤ x ∧ 2000 ≤ y) (C : pj_Cx p R s m args meth c D dA A b X M) (S : pj_St s D dA A b M α la H locs ls h) (hok : pj_okE M pc (.lmul, nx, a, b1, c1, d, hd) = true) (kk : pj_K p l e R s m args below meth c D dA A b M cells slots Q α h nx ls (.inr (2000 + (x - 2000) * (y - 2000)) :: t) h) : W p l e R s m args below meth c H locs cells slots Q (F0 m pc la ((.inr y :: .inr x :: t : List pj_V).map (pj_cv α b))) := by
  obtain ⟨hdg, rfl⟩ := pj_okE_dec hok rfl
  have k := kk.same S
  have e : ((2000 + (x - 2000) * (y - 2000) : Nat) : Int) - 2000 = ((x : Int) - 2000) * ((y : Int) - 2000) := by
    rw [Int.natCast_add, Int.natCast_mul, Int.natCast_sub hP.1, Int.natCast_sub hP.2]
    show (2000 : Int) + ((x : Int) - 2000) * ((y : Int) - 2000) - 2000 = _
    omega
  rw [List.map_cons, pj_cv_long (by omega), e] at k
  rw [List.map_cons, List.map_cons, pj_cv_long hP.1, pj_cv_long hP.2]
  refine lv_lmul C.1 C.2.1 hdg ?_
  rw [← Int64.ofInt_mul]
  exact k
theorem sp_ladd {x y : Nat} {t : List pj_V} (hP : 2000 ≤ x ∧ 2000 ≤ y) (C : pj_Cx p R s m args meth c D dA A b X M) (S : pj_St s D dA A b M α la H locs ls h) (hok : pj_okE M pc (.ladd, nx, a, b1, c1, d, hd) = true) (kk : pj_K p l e R s m args below meth c D dA A b M cells slots Q α h nx ls (.inr (2000 + ((x - 2000) + (y - 2000))) :: t) h) : W p l e R s m args below meth c H locs cells slots Q (F0 m pc la ((.inr y :: .inr x :: t : List pj_V).map (pj_cv α b))) := by
  obtain ⟨hdg, rfl⟩ := pj_okE_dec hok rfl
  have k := kk.same S
  have e : ((2000 + ((x - 2000) + (y - 2000)) : Nat) : Int) - 2000 = ((x : Int) - 2000) + ((y : Int) - 2000) := by omega
  rw [List.map_cons, pj_cv_long (by omega), e] at k
  rw [List.map_cons, List.map_cons, pj_cv_long hP.1, pj_cv_long hP.2]
  refine lv_ladd C.1 C.2.1 hdg ?_
  rw [← Int64.ofInt_add]
  exact k
theorem sp_lcmp {x y : Nat} {t : List pj_V} (hP : 2000 ≤ x ∧ x = y) (C : pj_Cx p R s m args meth c D dA A b X M) (S : pj_St s D dA A b M α la H locs ls h) (hok : pj_okE M pc (.lcmp, nx, a, b1, c1, d, hd) = true) (kk : pj_K p l e R s m args below meth c D dA A b M cells slots Q α h nx ls (.inl 0 :: t) h) : W p l e R s m args below meth c H locs cells slots Q (F0 m pc la ((.inr y :: .inr x :: t : List pj_V).map (pj_cv α b))) := by
  obtain ⟨hdg, rfl⟩ := pj_okE_dec hok rfl
  have k := kk.same S
  obtain ⟨h1, rfl⟩ := hP
  rw [List.map_cons, List.map_cons, pj_cv_long h1]
  refine W.lcmp C.1 C.2.1 hdg ?_
  have e1 : ∀ z : Int64, lg_cmp z z = 0 := fun z => by simp [lg_cmp]
  rw [e1]
  exact k
end STEP
end
section
/-! one instruction: stores into cells, arrays, what is new -/
section HEAP
variable {p : Program} {l : Launch} {e : Env} {R : Room} {s : State} {m : MethodId} {args : Array Value} {below : List Frame} {meth : Method} {c : Code} {D : va_G} {dA : Nat → ClassId} {A : Nat → Prop} {b M cells slots : Nat} {Q : State → Prop} {X : pj_X}
variable {α : Nat → Nat} {la : Array Slot} {H : Heap} {locs : List Loc} {ls st : List pj_V} {h : List pj_C} {al hd : Bool} {pc nx a b1 c1 d pc' : Nat} {P : Prop} {ls' st' : List pj_V} {h' : List pj_C}
/-- behind a store into a cell -/
theorem pj_K.set {r : Nat} {q q' : pj_C} {t : List pj_V} (hq : pj_at h r = some q) (hz : pj_sz q' = pj_sz q) (S : pj_St s D dA A b M α la H locs ls h) (kk : pj_K p l e R s m args below meth c D dA A b M cells slots Q α h pc' ls t (h.set r q')) :
    ∀ (H1 : Heap) (locs1 : List Loc), va_P D vwCl ((pj_wl dA α b 0 h).set r (α r, pj_cc dA α b q')) H1 → va_D A ((pj_wl dA α b 0 h).set r (α r, pj_cc dA α b q')) → va_S A s.heap H1 locs1 → W p l e R s m args below meth c H1 locs1 cells slots Q (F0 m pc' la (t.map (pj_cv α b))) := by
  intro H1 locs1 hP hD hS
  have e1 : pj_wl dA α b 0 (h.set r q') = (pj_wl dA α b 0 h).set r (α r, pj_cc dA α b q') := by
    rw [pj_wl_set q' (pj_at_lt hq), Nat.zero_add]
  rw [← e1] at hP hD
  refine W.cs ?_ ?_ (kk α la H1 locs1 ⟨fun _ _ => rfl, fun _ => rfl⟩ ⟨hP, hD, hS, S.2.2.2.1, S.2.2.2.2.1, by rw [List.length_set]; exact S.2.2.2.2.2⟩)
  · rw [List.length_set]; omega
  · rw [pj_tot_set hq hz]; omega
theorem pj_map_set (fs : List pj_V) (k : Nat) (v : pj_V) : (fs.set k v).map (pj_cv α b) = (fs.map (pj_cv α b)).set k (pj_cv α b v) := by
  rw [List.map_set]
theorem sp_put {n r ci : Nat} {fs t : List pj_V} {v : pj_V} (hv : (∃ z, v = .inl z ∧ c1 = 0) ∨ ∃ y, v = .inr y ∧ c1 = 1 ∧ pj_ok v = true) (hq : pj_at h r = some (.inr (ci, fs))) (hca : ci = a) (hlt : b1 < fs.length) (C : pj_Cx p R s m args meth c D dA A b X M) (S : pj_St s D dA A b M α la H locs ls h) (hok : pj_okE M pc (.putfield n, nx, a, b1, c1, d, hd) = true) (kk : pj_K p l e R s m args below meth c D dA A b M cells slots Q α h nx ls t (h.set r (.inr (ci, fs.set b1 v)))) : W p l e R s m args below meth c H locs cells slots Q (F0 m pc la ((v :: .inr r :: t : List pj_V).map (pj_cv α b))) := by
  obtain ⟨hdg, rfl⟩ := pj_okE_dec hok rfl
  have hok2 : pj_okG M n a b1 c1 d true = true := by
    simp only [pj_okE, Bool.and_eq_true] at hok
    exact hok.2
  obtain ⟨cn, T, N, hcl, hb1, hT, hf, hty⟩ := pj_okG_spec hok2
  subst hca
  obtain ⟨hw, hr⟩ := S.cell hq
  obtain ⟨hx, hb, hml, hown, hts, hnw, hK, hX, hbl, hbA, hA, hname, -⟩ := C
  have kset := kk.set hq (by simp only [pj_sz, List.length_set]) S
  simp only [pj_cc, pj_map_set] at kset
  rw [List.map_cons, List.map_cons, hr]
  have hd2 : parseFieldDescriptor (T b1).2.2.1 = some (pj_ty0 T b1) := pj_clty ci _ hcl b1 hb1
  have hnf : narrow (pj_ty0 T b1) (pj_cv α b v) = pj_cv α b v ∧ fits (pj_ty0 T b1) (pj_cv α b v) = true := by
    rcases hv with ⟨z, rfl, hc0⟩ | ⟨y, rfl, hc0, ho⟩
    · rcases hty rfl with ⟨-, e0⟩ | ⟨e0, -⟩
      · rw [e0]
        exact ⟨rfl, rfl⟩
      · exact absurd hc0 e0
    · obtain ⟨x, hxr⟩ := pj_cv_ok (α := α) (b := b) ho
      rw [hxr]
      rcases hty rfl with ⟨e0, -⟩ | ⟨-, e0⟩
      · omega
      · rcases e0 with ⟨q, e0⟩ | ⟨q, e0⟩ <;> rw [e0] <;> exact ⟨rfl, rfl⟩
  have hl : b1 < (fs.map (pj_cv α b)).length := by rw [List.length_map]; exact hlt
  have hsame : ∀ x, s.fieldFound? (T b1).1 (T b1).2.1 (T b1).2.2.1 = some x → s.fieldFound? cn (T b1).2.1 (T b1).2.2.1 = some x := fun x h9 => by rw [hT] at h9; exact h9
  rcases hf with ⟨hf, hfin⟩ | ⟨hf, hfin⟩
  · have hlink := hts _ (pj_tbl_good (pj_fl_1 hf) rfl)
    by_cases hF : (T b1).2.2.2 = false
    · exact va_put (T := T) (N := N) (C := cn) (ref := cn) hx hb hts (pj_cls ci _ hcl) (pj_ty0 T) (pj_clty ci _ hcl) (pj_clnm ci _ hcl) hown hK S.1 S.2.1 S.2.2.1 r hw (pj_cl_get hcl) b1 hb1 hlink hsame hF hd2 hnf.1 hnf.2 hl hdg kset
    · have hF2 : (T b1).2.2.2 = true := by cases hz : (T b1).2.2.2 <;> simp_all
      rcases hfin rfl with h9 | ⟨h9, h10⟩
      · exact absurd h9 hF
      · exact va_putF (T := T) (N := N) (C := cn) (ref := cn) hx hb hts (pj_cls ci _ hcl) (pj_ty0 T) (pj_clty ci _ hcl) (pj_clnm ci _ hcl) hown hK S.1 S.2.1 S.2.2.1 r hw (pj_cl_get hcl) b1 hb1 hlink hsame hF2 (hname.trans h9) (hT.trans h10) hd2 hnf.1 hnf.2 hl hdg kset
  · obtain ⟨host, hm⟩ := pj_fl_2 hf
    exact va_putN (T := T) (N := N) (C := cn) (ref := cn) (host := host) hx hb hts (pj_cls ci _ hcl) (pj_ty0 T) (pj_clty ci _ hcl) (pj_clnm ci _ hcl) hown hK S.1 S.2.1 S.2.2.1 r hw (pj_cl_get hcl) b1 hb1 (va_Nw.use rfl (hnw _ hm)) hsame (hfin rfl) hd2 hnf.1 hnf.2 hl hdg kset
theorem sp_iald {r len : Nat} {f : Nat → Int} {j : Int} {t : List pj_V} (hq : pj_at h r = some (.inl (0, len, f))) (hj : (0 ≤ j ∧ j < (len : Int)) ∧ j < 2147483648) (C : pj_Cx p R s m args meth c D dA A b X M) (S : pj_St s D dA A b M α la H locs ls h) (hok : pj_okE M pc (.iaload, nx, a, b1, c1, d, hd) = true) (kk : pj_K p l e R s m args below meth c D dA A b M cells slots Q α h nx ls (.inl (f j.toNat) :: t) h) : W p l e R s m args below meth c H locs cells slots Q (F0 m pc la ((.inl j :: .inr r :: t : List pj_V).map (pj_cv α b))) := by
  obtain ⟨hdg, rfl⟩ := pj_okE_dec hok rfl
  obtain ⟨hw, hr⟩ := S.cell hq
  obtain ⟨hx, hb, hml, hown, hts, hnw, hK, -⟩ := C
  rw [List.map_cons, List.map_cons, hr]
  refine va_iald hx hb hK S.1 r 0 hw rfl (pj_in32 hj.1.1 hj.1.2 hj.2) hdg ?_
  rw [pj_cl32 hj.1.1 hj.2]
  exact kk.same S
theorem sp_bald {r len : Nat} {f : Nat → Int} {j : Int} {t : List pj_V} (hq : pj_at h r = some (.inl (1, len, f))) (hj : (0 ≤ j ∧ j < (len : Int)) ∧ j < 2147483648) (C : pj_Cx p R s m args meth c D dA A b X M) (S : pj_St s D dA A b M α la H locs ls h) (hok : pj_okE M pc (.baload, nx, a, b1, c1, d, hd) = true) (kk : pj_K p l e R s m args below meth c D dA A b M cells slots Q α h nx ls (.inl (f j.toNat) :: t) h) : W p l e R s m args below meth c H locs cells slots Q (F0 m pc la ((.inl j :: .inr r :: t : List pj_V).map (pj_cv α b))) := by
  obtain ⟨hdg, rfl⟩ := pj_okE_dec hok rfl
  obtain ⟨hw, hr⟩ := S.cell hq
  obtain ⟨hx, hb, hml, hown, hts, hnw, hK, -⟩ := C
  rw [List.map_cons, List.map_cons, hr]
  refine va_zald hx hb hK S.1 r 1 hw rfl (pj_in32 hj.1.1 hj.1.2 hj.2) hdg ?_
  rw [pj_cl32 hj.1.1 hj.2]
  exact kk.same S
theorem sp_sld {j : Int} {t : List pj_V} (hj : (0 ≤ j ∧ j < (X.1 : Int)) ∧ j < 2147483648) (C : pj_Cx p R s m args meth c D dA A b X M) (S : pj_St s D dA A b M α la H locs ls h) (hok : pj_okE M pc (.iaload, nx, a, b1, c1, d, hd) = true) (kk : pj_K p l e R s m args below meth c D dA A b M cells slots Q α h nx ls (.inl (X.2 j.toNat) :: t) h) : W p l e R s m args below meth c H locs cells slots Q (F0 m pc la ((.inl j :: .inr 1002 :: t : List pj_V).map (pj_cv α b))) := by
  obtain ⟨hdg, rfl⟩ := pj_okE_dec hok rfl
  obtain ⟨hx, hb, hml, hown, hts, hnw, hK, hX, hbl, hbA, -⟩ := C
  refine va_sld hx hb hX hbl hbA S.2.2.1 (i := Int32.ofInt j) (pj_in32 hj.1.1 hj.1.2 hj.2) hdg ?_
  rw [pj_cl32 hj.1.1 hj.2]
  exact kk.same S
theorem sp_slen {t : List pj_V} (C : pj_Cx p R s m args meth c D dA A b X M) (S : pj_St s D dA A b M α la H locs ls h) (hok : pj_okE M pc (.arraylength, nx, a, b1, c1, d, hd) = true) (kk : pj_K p l e R s m args below meth c D dA A b M cells slots Q α h nx ls (.inl (X.1 : Int) :: t) h) : W p l e R s m args below meth c H locs cells slots Q (F0 m pc la ((.inr 1002 :: t : List pj_V).map (pj_cv α b))) := by
  obtain ⟨hdg, rfl⟩ := pj_okE_dec hok rfl
  obtain ⟨hx, hb, hml, hown, hts, hnw, hK, hX, hbl, hbA, -⟩ := C
  refine va_slen hx hb hX hbl hbA S.2.2.1 hdg ?_
  rw [← Int32.ofInt_eq_ofNat]
  exact kk.same S
theorem sp_alen {r k len : Nat} {f : Nat → Int} {t : List pj_V} (hk : k = 0 ∨ k = 1) (hq : pj_at h r = some (.inl (k, len, f))) (C : pj_Cx p R s m args meth c D dA A b X M) (S : pj_St s D dA A b M α la H locs ls h) (hok : pj_okE M pc (.arraylength, nx, a, b1, c1, d, hd) = true) (kk : pj_K p l e R s m args below meth c D dA A b M cells slots Q α h nx ls (.inl (len : Int) :: t) h) : W p l e R s m args below meth c H locs cells slots Q (F0 m pc la ((.inr r :: t : List pj_V).map (pj_cv α b))) := by
  obtain ⟨hdg, rfl⟩ := pj_okE_dec hok rfl
  obtain ⟨hw, hr⟩ := S.cell hq
  obtain ⟨hx, hb, hml, hown, hts, hnw, hK, -⟩ := C
  rw [List.map_cons, hr]
  have k1 := kk.same S
  rcases hk with rfl | rfl
  · exact va_alen hx hb hK S.1 r 0 hw rfl (Int32.ofInt_eq_ofNat (n := len)).symm hdg k1
  · exact va_alen hx hb hK S.1 r 1 hw rfl (Int32.ofInt_eq_ofNat (n := len)).symm hdg k1
theorem sp_iast {r len : Nat} {f : Nat → Int} {j z : Int} {t : List pj_V} (hq : pj_at h r = some (.inl (0, len, f))) (hj : (0 ≤ j ∧ j < (len : Int)) ∧ j < 2147483648) (C : pj_Cx p R s m args meth c D dA A b X M) (S : pj_St s D dA A b M α la H locs ls h) (hok : pj_okE M pc (.iastore, nx, a, b1, c1, d, hd) = true) (kk : pj_K p l e R s m args below meth c D dA A b M cells slots Q α h nx ls t (h.set r (.inl (0, len, pj_up f j.toNat z)))) : W p l e R s m args below meth c H locs cells slots Q (F0 m pc la ((.inl z :: .inl j :: .inr r :: t : List pj_V).map (pj_cv α b))) := by
  obtain ⟨hdg, rfl⟩ := pj_okE_dec hok rfl
  obtain ⟨hw, hr⟩ := S.cell hq
  obtain ⟨hx, hb, hml, hown, hts, hnw, hK, -⟩ := C
  rw [List.map_cons, List.map_cons, List.map_cons, hr]
  have kset := pj_K.set (q' := .inl (0, len, pj_up f j.toNat z)) hq rfl S kk
  simp only [pj_cc, pj_upd32] at kset
  refine va_iast (i := Int32.ofInt j) (x := Int32.ofInt z) hx hb hK S.1 S.2.1 S.2.2.1 r 0 hw rfl (pj_in32 hj.1.1 hj.1.2 hj.2) hdg ?_
  rw [pj_cl32 hj.1.1 hj.2]
  exact kset
theorem sp_bast {r len : Nat} {f : Nat → Int} {j z : Int} {t : List pj_V} (hq : pj_at h r = some (.inl (1, len, f))) (hj : ((0 ≤ j ∧ j < (len : Int)) ∧ j < 2147483648) ∧ (z = 0 ∨ z = 1)) (C : pj_Cx p R s m args meth c D dA A b X M) (S : pj_St s D dA A b M α la H locs ls h) (hok : pj_okE M pc (.bastore, nx, a, b1, c1, d, hd) = true) (kk : pj_K p l e R s m args below meth c D dA A b M cells slots Q α h nx ls t (h.set r (.inl (1, len, pj_up f j.toNat z)))) : W p l e R s m args below meth c H locs cells slots Q (F0 m pc la ((.inl z :: .inl j :: .inr r :: t : List pj_V).map (pj_cv α b))) := by
  obtain ⟨hdg, rfl⟩ := pj_okE_dec hok rfl
  obtain ⟨hw, hr⟩ := S.cell hq
  obtain ⟨hx, hb, hml, hown, hts, hnw, hK, -⟩ := C
  obtain ⟨hj, hz⟩ := hj
  rw [List.map_cons, List.map_cons, List.map_cons, hr]
  have kset := pj_K.set (q' := .inl (1, len, pj_up f j.toNat z)) hq rfl S kk
  simp only [pj_cc, pj_upd32] at kset
  have hn : vp_nar .boolean (Int32.ofInt z) = Int32.ofInt z := by
    rcases hz with rfl | rfl <;> rfl
  refine va_zast (i := Int32.ofInt j) (x := Int32.ofInt z) hx hb hK S.1 S.2.1 S.2.2.1 r 1 hw rfl (pj_in32 hj.1.1 hj.1.2 hj.2) hdg ?_
  rw [pj_cl32 hj.1.1 hj.2, hn]
  exact kset
theorem pj_wfa_spec {ls st : List pj_V} {h : List pj_C} (hw : pj_wfa ls st h = true) : h.length ≤ 900 ∧ ls.all (pj_wv h.length) = true ∧ st.all (pj_wv h.length) = true ∧ h.all (pj_wc h.length) = true := by
  unfold pj_wfa at hw
  simp only [Bool.and_eq_true] at hw
  exact ⟨Nat.le_of_ble_eq_true hw.1, hw.2.1, hw.2.2.1, hw.2.2.2⟩
/-- behind what is new -/
theorem pj_K.push {q0 : pj_C} {t : List pj_V} (hw : pj_wfa ls t h = true) (hwc : ∀ α' : Nat → Nat, (∀ k, k < h.length → α' k = α k) → pj_cc dA α' b q0 = pj_cc dA α b q0) (S : pj_St s D dA A b M α la H locs ls h) (kk : pj_K p l e R s m args below meth c D dA A b M cells slots Q α h pc' ls (.inr h.length :: t) (h ++ [q0])) :
    ∀ (q : Nat) (H1 : Heap), va_P D vwCl (pj_wl dA α b 0 h ++ [(q, pj_cc dA α b q0)]) H1 → va_D A (pj_wl dA α b 0 h ++ [(q, pj_cc dA α b q0)]) → va_S A s.heap H1 locs → W p l e R s m args below meth c H1 locs (cells + 1) (slots + pj_sz q0) Q (F0 m pc' la (.ref q :: t.map (pj_cv α b))) := by
  intro q H1 hP hD hS
  obtain ⟨h1, h2, h3, h4⟩ := pj_wfa_spec hw
  have ha : ∀ k, k < h.length → (fun k => if k = h.length then q else α k) k = α k := fun k hk => by
    show (if k = h.length then q else α k) = α k
    rw [if_neg (by omega)]
  have e1 : pj_wl dA (fun k => if k = h.length then q else α k) b 0 (h ++ [q0]) = pj_wl dA α b 0 h ++ [(q, pj_cc dA α b q0)] := by
    rw [pj_wl_app, pj_wl_agree ha h 0 (by omega) h4, hwc _ ha]
    simp
  have k1 := kk (fun k => if k = h.length then q else α k) la H1 locs ⟨ha, fun e9 => absurd e9 (by simp)⟩ ⟨by rw [e1]; exact hP, by rw [e1]; exact hD, hS, by rw [pj_ll_agree ha ls 0 h2]; exact S.2.2.2.1, S.2.2.2.2.1, by simp only [List.length_append, List.length_singleton]; omega⟩
  rw [List.map_cons, pj_map_agree ha t h3, pj_cv_ref (by omega), if_pos rfl] at k1
  refine W.cs ?_ ?_ k1
  · simp only [List.length_append, List.length_singleton]; omega
  · rw [pj_tot_app]; omega
theorem sp_new {n : Nat} (hw : pj_wfa ls st h = true) (C : pj_Cx p R s m args meth c D dA A b X M) (S : pj_St s D dA A b M α la H locs ls h) (hok : pj_okE M pc (.new n, nx, a, b1, c1, d, hd) = true) (hcl : cells + ((h ++ ([.inr (a, k_df a)] : List pj_C)).length - h.length) ≤ R.cells) (hsl : slots + (pj_tot (h ++ ([.inr (a, k_df a)] : List pj_C)) - pj_tot h) ≤ R.slots) (kk : pj_K p l e R s m args below meth c D dA A b M cells slots Q α h nx ls (.inr h.length :: st) (h ++ [.inr (a, k_df a)])) : W p l e R s m args below meth c H locs cells slots Q (F0 m pc la (st.map (pj_cv α b))) := by
  obtain ⟨hdg, rfl⟩ := pj_okE_dec hok rfl
  simp only [pj_okE, Bool.and_eq_true] at hok
  have hok2 := hok.2
  split at hok2
  · rename_i cn T N hcq
    simp only [Bool.and_eq_true] at hok2
    obtain ⟨hx, hb, hml, hown, hts, hnw, hK, hX, hbl, hbA, hA, -⟩ := C
    obtain ⟨hlen, hdf⟩ := pj_cldf a _ α b hcq
    have hz : pj_sz (.inr (a, k_df a)) = N := hlen
    rw [pj_tot_app, hz] at hsl
    simp only [List.length_append, List.length_singleton] at hcl
    have kp := kk.push hw (fun α' ha => by
      show (Sum.inr (a, (k_df a).map (pj_cv α' b)) : va_E) = .inr (a, (k_df a).map (pj_cv α b))
      have : ∀ v ∈ k_df a, v = .inl 0 ∨ v = .inr 1001 := by
        have key : ∀ ci, ci < 8 → (k_df ci).all (fun v => decide (v = .inl 0 ∨ v = .inr 1001)) = true := by decide +kernel
        intro v hv
        exact of_decide_eq_true (List.all_eq_true.mp (key a (pj_at_lt hcq)) v hv)
      exact congrArg (fun z => (Sum.inr (a, z) : va_E)) (List.map_congr_left (fun v hv => by rcases this v hv with rfl | rfl <;> rfl))) S
    rw [hz] at kp
    exact va_new (T := T) (N := N) (C := cn) hx hb hts (pj_cls a _ hcq) (pj_ty0 T) (pj_clty a _ hcq) hown (hts _ (pj_is_mem rfl hok2.1)) (hts _ (pj_is_mem rfl hok2.2.1)) (hts _ (pj_is_mem rfl hok2.2.2)) hK S.1 S.2.1 S.2.2.1 hA (pj_cl_get hcq) hdf (by omega) (by omega) hdg kp
  · cases hok2
theorem pj_K2 {k : Nat} {ty : FieldType} {cA : ClassId} (hK : va_K D vwCl [(dA 0, .int), (dA 1, .boolean)] s) (hty : (k = 0 ∧ ty = .int) ∨ (k = 1 ∧ ty = .boolean)) (h9 : va_K D vwCl ([(dA 0, .int), (dA 1, .boolean)] ++ [(cA, ty)]) s) : cA = dA k := by
  have h1 := (h9.2 2 (cA, ty) rfl).2
  rcases hty with ⟨rfl, rfl⟩ | ⟨rfl, rfl⟩
  · have h2 := (hK.2 0 (dA 0, .int) rfl).2
    exact Option.some.inj (h1.symm.trans h2)
  · have h2 := (hK.2 1 (dA 1, .boolean) rfl).2
    exact Option.some.inj (h1.symm.trans h2)
theorem sp_newa {ty : ArrayType} {z : Int} {t : List pj_V} (hw : pj_wfa ls t h = true) (hz : 0 ≤ z ∧ z ≤ 100000) (C : pj_Cx p R s m args meth c D dA A b X M) (S : pj_St s D dA A b M α la H locs ls h) (hok : pj_okE M pc (.newarray ty, nx, a, b1, c1, d, hd) = true) (hcl : cells + ((h ++ ([.inl (a, z.toNat, fun _ => 0)] : List pj_C)).length - h.length) ≤ R.cells) (hsl : slots + (pj_tot (h ++ ([.inl (a, z.toNat, fun _ => 0)] : List pj_C)) - pj_tot h) ≤ R.slots) (kk : pj_K p l e R s m args below meth c D dA A b M cells slots Q α h nx ls (.inr h.length :: t) (h ++ [.inl (a, z.toNat, fun _ => 0)])) : W p l e R s m args below meth c H locs cells slots Q (F0 m pc la ((.inl z :: t : List pj_V).map (pj_cv α b))) := by
  obtain ⟨hdg, rfl⟩ := pj_okE_dec hok rfl
  simp only [pj_okE, Bool.and_eq_true, Bool.or_eq_true, decide_eq_true_eq] at hok
  obtain ⟨hk1, hk2⟩ := hok.2
  obtain ⟨hx, hb, hml, hown, hts, hnw, hK, hX, hbl, hbA, hA, -⟩ := C
  rw [pj_tot_app] at hsl
  simp only [List.length_append, List.length_singleton, pj_sz] at hcl hsl
  have kp := kk.push hw (fun α' ha => rfl) S
  have hn : ¬ Int32.ofInt z < 0 := by
    rw [← pj_z32, pj_lt32 (by unfold pj_rg; omega) pj_rg0]
    omega
  have hN : (Int32.ofInt z).toNatClampNeg = z.toNat := pj_cl32 hz.1 (by omega)
  rcases hk2 with ⟨ha0, rfl⟩ | ⟨ha0, rfl⟩
  · have ha1 := Nat.eq_of_beq_eq_true ha0
    subst ha1
    refine va_newa (atype := .int) (ty := .int) (N' := z.toNat) (a0 := (z.toNat, .inl (fun _ => 0))) hx hb (hts _ (pj_is_mem rfl hk1)) rfl hK S.1 S.2.1 S.2.2.1 hA (fun cA => rfl) hn hN (by show z.toNat * 4 ≤ _; omega) (by omega) (by omega) hdg (fun q cA H1 h9 hP hD hS => ?_)
    have := pj_K2 hK (Or.inl ⟨rfl, rfl⟩) h9
    subst this
    exact kp q H1 hP hD hS
  · have ha1 := Nat.eq_of_beq_eq_true ha0
    subst ha1
    refine va_newa (atype := .boolean) (ty := .boolean) (N' := z.toNat) (a0 := (z.toNat, .inl (fun _ => 0))) hx hb (hts _ (pj_is_mem rfl hk1)) rfl hK S.1 S.2.1 S.2.2.1 hA (fun cA => rfl) hn hN (by show z.toNat * 1 ≤ _; omega) (by omega) (by omega) hdg (fun q cA H1 h9 hP hD hS => ?_)
    have := pj_K2 hK (Or.inr ⟨rfl, rfl⟩) h9
    subst this
    exact kp q H1 hP hD hS
theorem pj_obj : Cond.instanceMethod objectInit ∈ pj_tb ∧ Cond.code objectInit ⟨#[0xb1]⟩ 1 none ∈ pj_tb := by
  have key : (decide (Cond.instanceMethod objectInit ∈ lw_tbl) && goodWord (Cond.instanceMethod objectInit)) && (decide (Cond.code objectInit ⟨#[0xb1]⟩ 1 none ∈ lw_tbl) && goodWord (Cond.code objectInit ⟨#[0xb1]⟩ 1 none)) = true := by decide +kernel
  simp only [Bool.and_eq_true, decide_eq_true_eq] at key
  exact ⟨pj_tbl_good key.1.1 key.1.2, pj_tbl_good key.2.1 key.2.2⟩
theorem pj_cpw : Cond.native arraycopyName ∈ pj_tb ∧ Cond.static arraycopyName ∈ pj_tb ∧ Cond.initialized "java/lang/System" ∈ pj_tb := by
  have key : (decide (Cond.native arraycopyName ∈ lw_tbl) && goodWord (Cond.native arraycopyName)) && ((decide (Cond.static arraycopyName ∈ lw_tbl) && goodWord (Cond.static arraycopyName)) && (decide (Cond.initialized "java/lang/System" ∈ lw_tbl) && goodWord (Cond.initialized "java/lang/System"))) = true := by decide +kernel
  simp only [Bool.and_eq_true, decide_eq_true_eq] at key
  exact ⟨pj_tbl_good key.1.1 key.1.2, pj_tbl_good key.2.1.1 key.2.1.2, pj_tbl_good key.2.2.1 key.2.2.2⟩
theorem sp_obj {n r : Nat} {t : List pj_V} (hr : pj_ok (.inr r) = true) (ht : pj_wd t ≤ 8) (C : pj_Cx p R s m args meth c D dA A b X M) (S : pj_St s D dA A b M α la H locs ls h) (hok : pj_okE M pc (.invokespecial n, nx, a, 1, c1, d, hd) = true) (kk : pj_K p l e R s m args below meth c D dA A b M cells slots Q α h nx ls t h) : W p l e R s m args below meth c H locs cells slots Q (F0 m pc la ((.inr r :: t : List pj_V).map (pj_cv α b))) := by
  obtain ⟨hdg, rfl⟩ := pj_okE_dec hok rfl
  simp only [pj_okE, Bool.and_eq_true] at hok
  obtain ⟨h1, h2, h3⟩ := hok.2
  have h2 := Nat.le_of_ble_eq_true h2
  have h3 := Nat.le_of_ble_eq_true h3
  obtain ⟨hx, hb, hml, hown, hts, hnw, hK, hX, hbl, hbA, hA, hnm, hfr, hlo⟩ := C
  obtain ⟨x, hxr⟩ := pj_cv_ok (α := α) (b := b) hr
  rw [List.map_cons, hxr]
  refine W.objInit (g := F0 m pc la (.ref x :: t.map (pj_cv α b))) hx hb hown (hts _ (pj_is_mem rfl h1)) (hts _ pj_obj.1) (hts _ pj_obj.2) rfl (by rw [hml]; exact S.2.2.2.1.1) rfl hdg (Nat.le_trans h2 hfr) ?_ ?_
  · show 2 * 0 + _ + 12 ≤ _
    have := pj_cats (α := α) (b := b) t
    omega
  · exact kk.same S
theorem pj_cpy32 (f g : Nat → Int) (sp dp n : Nat) : (fun j => Int32.ofInt (va_cpy f g sp dp n j)) = va_cpy (fun j => Int32.ofInt (f j)) (fun j => Int32.ofInt (g j)) sp dp n := by
  funext j
  simp only [va_cpy]
  split <;> rfl
theorem sp_cpy {n r0 r1 n0 n1 : Nat} {f g : Nat → Int} {z dp sp : Int} {t : List pj_V} (hq0 : pj_at h r0 = some (.inl (0, n0, f))) (hq1 : pj_at h r1 = some (.inl (0, n1, g))) (ht : pj_wd t ≤ 8) (hj : ((0 ≤ z ∧ z < 2147483648) ∧ (0 ≤ sp ∧ sp < 2147483648)) ∧ ((0 ≤ dp ∧ dp < 2147483648) ∧ (sp + z ≤ (n0 : Int) ∧ dp + z ≤ (n1 : Int)))) (C : pj_Cx p R s m args meth c D dA A b X M) (S : pj_St s D dA A b M α la H locs ls h) (hok : pj_okE M pc (.invokestatic n, nx, a, 2, c1, d, hd) = true) (kk : pj_K p l e R s m args below meth c D dA A b M cells slots Q α h nx ls t (h.set r1 (.inl (0, n1, va_cpy f g sp.toNat dp.toNat z.toNat)))) : W p l e R s m args below meth c H locs cells slots Q (F0 m pc la ((.inl z :: .inl dp :: .inr r1 :: .inl sp :: .inr r0 :: t : List pj_V).map (pj_cv α b))) := by
  obtain ⟨hdg, rfl⟩ := pj_okE_dec hok rfl
  simp only [pj_okE, Bool.and_eq_true] at hok
  obtain ⟨h1, h2, h3⟩ := hok.2
  have h2 := Nat.le_of_ble_eq_true h2
  have h3 := Nat.le_of_ble_eq_true h3
  obtain ⟨hx, hb, hml, hown, hts, hnw, hK, hX, hbl, hbA, hA, hnm, hfr, hlo⟩ := C
  obtain ⟨hw0, hr0⟩ := S.cell hq0
  obtain ⟨hw1, hr1⟩ := S.cell hq1
  simp only [List.map_cons, hr0, hr1]
  have kset := pj_K.set (q' := .inl (0, n1, va_cpy f g sp.toNat dp.toNat z.toNat)) hq1 rfl S kk
  simp only [pj_cc, pj_cpy32] at kset
  have nneg : ∀ y : Int, 0 ≤ y → y < 2147483648 → ¬ Int32.ofInt y < 0 := fun y h5 h6 => by
    rw [← pj_z32, pj_lt32 (by unfold pj_rg; omega) pj_rg0]
    omega
  refine va_copyi (ty := .int) (sp := Int32.ofInt sp) (dp := Int32.ofInt dp) (n := Int32.ofInt z) hx hb (by rw [hml]; exact S.2.2.2.1.1.symm) hown (hts _ (pj_is_mem rfl h1)) (hts _ pj_cpw.1) (hts _ pj_cpw.2.1) (hts _ pj_cpw.2.2) hK S.1 S.2.1 S.2.2.1 r0 r1 0 0 hw0 hw1 rfl rfl rfl (nneg _ hj.1.2.1 hj.1.2.2) (nneg _ hj.2.1.1 hj.2.1.2) (nneg _ hj.1.1.1 hj.1.1.2) ?_ ?_ (fun i _ => rfl) (Nat.le_trans h2 hfr) ?_ hdg ?_
  · rw [pj_cl32 hj.1.2.1 hj.1.2.2, pj_cl32 hj.1.1.1 hj.1.1.2]; omega
  · rw [pj_cl32 hj.2.1.1 hj.2.1.2, pj_cl32 hj.1.1.1 hj.1.1.2]; omega
  · have := pj_cats (α := α) (b := b) t
    omega
  · rw [pj_cl32 hj.1.2.1 hj.1.2.2, pj_cl32 hj.2.1.1 hj.2.1.2, pj_cl32 hj.1.1.1 hj.1.1.2]
    exact kset
end HEAP
end
section
/-! a run of the pure machine is one of the JVM's -/
theorem pj_cond {β : Type} {x : Bool} {a : Option β} {y : β} (h : (bif x then a else none) = some y) : x = true ∧ a = some y := by
  cases x
  · cases h
  · exact ⟨rfl, h⟩
section BODY
variable {p : Program} {l : Launch} {e : Env} {R : Room} {s : State} {m : MethodId} {args : Array Value} {below : List Frame} {meth : Method} {c : Code} {D : va_G} {dA : Nat → ClassId} {A : Nat → Prop} {b M cells slots : Nat} {Q : State → Prop} {X : pj_X}
variable {α : Nat → Nat} {la : Array Slot} {H : Heap} {locs : List Loc} {ls st : List pj_V} {h : List pj_C} {al hd : Bool} {pc nx a b1 c1 d pc' : Nat} {P : Prop} {ls' st' : List pj_V} {h' : List pj_C} {i : Instr}
set_option maxHeartbeats 4000000 in
theorem pj_step (C : pj_Cx p R s m args meth c D dA A b X M) (S : pj_St s D dA A b M α la H locs ls h) (hok : pj_okE M pc (i, nx, a, b1, c1, d, hd) = true) (he : pj_s1 X al i nx a b1 c1 ls st h = some (P, pc', ls', st', h')) (hP : P) (hcl : cells + (h'.length - h.length) ≤ R.cells) (hsl : slots + (pj_tot h' - pj_tot h) ≤ R.slots) (kk : pj_K p l e R s m args below meth c D dA A b M cells slots Q α h pc' ls' st' h') : W p l e R s m args below meth c H locs cells slots Q (F0 m pc la (st.map (pj_cv α b))) := by
  unfold pj_s1 at he
  split at he
  · exact sp_ldi (Or.inl rfl) C S hok he kk
  · exact sp_ldi (Or.inr ⟨_, rfl, rfl⟩) C S hok he kk
  · exact sp_lda (Or.inl rfl) C S hok he kk
  · exact sp_lda (Or.inr ⟨_, rfl, rfl⟩) C S hok he kk
  · exact sp_sti (Or.inl rfl) C S hok he kk
  · exact sp_sti (Or.inr ⟨_, rfl, rfl⟩) C S hok he kk
  · exact sp_sta (Or.inl rfl) C S hok he kk
  · exact sp_sta (Or.inr ⟨_, rfl, rfl⟩) C S hok he kk
  · cases he; exact sp_cst (Or.inl rfl) C S hok kk
  · cases he; exact sp_cst (Or.inr (Or.inl rfl)) C S hok kk
  · cases he; exact sp_cst (Or.inr (Or.inr rfl)) C S hok kk
  · split at he
    · rename_i hx0
      obtain ⟨hc, he⟩ := pj_cond he
      cases he
      exact sp_iinc hx0 hc C S hok kk
    · cases he
  · exact sp_bin C S hok (Or.inl ⟨rfl, rfl, rfl⟩) he hP kk
  · exact sp_bin C S hok (Or.inr (Or.inl ⟨rfl, rfl, rfl⟩)) he hP kk
  · exact sp_bin C S hok (Or.inr (Or.inr (Or.inl ⟨rfl, rfl, rfl⟩))) he hP kk
  · exact sp_bin C S hok (Or.inr (Or.inr (Or.inr (Or.inl ⟨rfl, rfl, rfl⟩)))) he hP kk
  · exact sp_bin C S hok (Or.inr (Or.inr (Or.inr (Or.inr (Or.inl ⟨rfl, rfl, rfl⟩))))) he hP kk
  · exact sp_bin C S hok (Or.inr (Or.inr (Or.inr (Or.inr (Or.inr (Or.inl ⟨rfl, rfl, rfl⟩)))))) he hP kk
  · exact sp_bin C S hok (Or.inr (Or.inr (Or.inr (Or.inr (Or.inr (Or.inr (Or.inl ⟨rfl, rfl, rfl⟩))))))) he hP kk
  · exact sp_bin C S hok (Or.inr (Or.inr (Or.inr (Or.inr (Or.inr (Or.inr (Or.inr (Or.inl ⟨rfl, rfl, rfl⟩)))))))) he hP kk
  · exact sp_bin C S hok (Or.inr (Or.inr (Or.inr (Or.inr (Or.inr (Or.inr (Or.inr (Or.inr (Or.inl ⟨rfl, rfl, rfl⟩))))))))) he hP kk
  · split at he
    · cases he; exact sp_ineg C S hok kk
    · cases he
  · split at he
    · obtain ⟨hc, he⟩ := pj_cond he
      cases he; exact sp_dup hc C S hok kk
    · cases he
  · split at he
    · obtain ⟨hc, he⟩ := pj_cond he
      cases he; exact sp_dup2 hc C S hok kk
    · cases he
  · split at he
    · obtain ⟨hc, he⟩ := pj_cond he
      cases he; exact sp_pop hc C S hok kk
    · cases he
  · cases he; exact sp_goto C S hok kk
  · split at he
    · split at he
      · rename_i hq
        split at he
        · rename_i hv
          obtain ⟨hc, he⟩ := pj_cond he
          cases he
          exact sp_get hq hv hc C S hok kk
        · cases he
      · cases he
    · cases he
  · split at he
    · split at he
      · rename_i hq
        obtain ⟨hc, he⟩ := pj_cond he
        simp only [Bool.and_eq_true] at hc
        cases he
        exact sp_put (Or.inl ⟨_, rfl, Nat.eq_of_beq_eq_true hc.2.1⟩) hq (Nat.eq_of_beq_eq_true hc.1) (Nat.le_of_ble_eq_true hc.2.2) C S hok kk
      · cases he
    · split at he
      · rename_i hq
        obtain ⟨hc, he⟩ := pj_cond he
        simp only [Bool.and_eq_true] at hc
        cases he
        exact sp_put (Or.inr ⟨_, rfl, Nat.eq_of_beq_eq_true hc.2.1, hc.2.2.2⟩) hq (Nat.eq_of_beq_eq_true hc.1) (Nat.le_of_ble_eq_true hc.2.2.1) C S hok kk
      · cases he
    · cases he
  · split at he
    · rename_i j r t
      cases hr : Nat.beq r 1002 with
      | true =>
        rw [hr] at he
        have := Nat.eq_of_beq_eq_true hr
        subst this
        cases he
        exact sp_sld hP C S hok kk
      | false =>
        rw [hr] at he
        simp only [cond_false] at he
        split at he
        · rename_i hq
          cases he
          exact sp_iald hq hP C S hok kk
        · cases he
    · cases he
  · split at he
    · split at he
      · rename_i hq
        cases he
        exact sp_bald hq hP C S hok kk
      · cases he
    · cases he
  · split at he
    · split at he
      · rename_i hq
        cases he
        exact sp_iast hq hP C S hok kk
      · cases he
    · cases he
  · split at he
    · split at he
      · rename_i hq
        cases he
        exact sp_bast hq hP C S hok kk
      · cases he
    · cases he
  · split at he
    · rename_i r t
      cases hr : Nat.beq r 1002 with
      | true =>
        rw [hr] at he
        have := Nat.eq_of_beq_eq_true hr
        subst this
        cases he
        exact sp_slen C S hok kk
      | false =>
        rw [hr] at he
        simp only [cond_false] at he
        split at he
        · rename_i hq
          obtain ⟨hc, he⟩ := pj_cond he
          cases he
          simp only [Bool.or_eq_true] at hc
          exact sp_alen (hc.imp Nat.eq_of_beq_eq_true Nat.eq_of_beq_eq_true) hq C S hok kk
        · cases he
    · cases he
  · obtain ⟨hc, he⟩ := pj_cond he
    simp only [Bool.and_eq_true] at hc
    cases he
    exact sp_new hc.2 C S hok hcl hsl kk
  · split at he
    · obtain ⟨hc, he⟩ := pj_cond he
      simp only [Bool.and_eq_true] at hc
      cases he
      exact sp_newa hc.2 hP C S hok hcl hsl kk
    · cases he
  · split at he
    · split at he
      · obtain ⟨hc, he⟩ := pj_cond he
        simp only [Bool.and_eq_true] at hc
        cases he
        exact sp_obj hc.1 (Nat.le_of_ble_eq_true hc.2) C S hok kk
      · cases he
    · cases he
  · split at he
    · split at he
      · split at he
        · rename_i hq0 hq1
          obtain ⟨hc, he⟩ := pj_cond he
          cases he
          exact sp_cpy hq0 hq1 (Nat.le_of_ble_eq_true hc) hP C S hok kk
        · cases he
      · cases he
    · cases he
  · exact sp_bin C S hok (Or.inr (Or.inr (Or.inr (Or.inr (Or.inr (Or.inr (Or.inr (Or.inr (Or.inr ⟨rfl, rfl, rfl⟩))))))))) he hP kk
  · cases he; exact sp_ldc C S hok kk
  · obtain ⟨-, he⟩ := pj_cond he
    cases he; exact sp_ldc2 C S hok kk
  · obtain ⟨-, he⟩ := pj_cond he
    cases he; exact sp_lconst C S hok kk
  · exact sp_ldl (Or.inl rfl) C S hok (pj_cond he).2 hP kk
  · exact sp_ldl (Or.inr ⟨_, rfl, rfl⟩) C S hok (pj_cond he).2 hP kk
  · exact sp_stl (Or.inl rfl) C S hok (pj_cond he).2 hP kk
  · exact sp_stl (Or.inr ⟨_, rfl, rfl⟩) C S hok (pj_cond he).2 hP kk
  · obtain ⟨-, he⟩ := pj_cond he
    split at he
    · cases he; exact sp_i2l hP C S hok kk
    · cases he
  · obtain ⟨-, he⟩ := pj_cond he
    split at he
    · cases he; exact sp_lmul hP C S hok kk
    · cases he
  · obtain ⟨-, he⟩ := pj_cond he
    split at he
    · cases he; exact sp_ladd hP C S hok kk
    · cases he
  · obtain ⟨-, he⟩ := pj_cond he
    split at he
    · cases he; exact sp_lcmp hP C S hok kk
    · cases he
  · cases he
end BODY
end
section
/-! branches, calls, returns: a whole run -/
theorem pj_s1_mono {X : pj_X} {al : Bool} {i : Instr} {nx a b1 c1 pc' : Nat} {ls st ls' st' : List pj_V} {h h' : List pj_C} {P : Prop} (he : pj_s1 X al i nx a b1 c1 ls st h = some (P, pc', ls', st', h')) : (h.length ≤ h'.length ∧ pj_tot h ≤ pj_tot h') ∧ (h.length ≤ 1000 → h'.length ≤ 1000) := by
  have same : (h.length ≤ h.length ∧ pj_tot h ≤ pj_tot h) ∧ (h.length ≤ 1000 → h.length ≤ 1000) := ⟨⟨Nat.le_refl _, Nat.le_refl _⟩, id⟩
  have set : ∀ {r : Nat} {q q' : pj_C}, pj_at h r = some q → pj_sz q' = pj_sz q → (h.length ≤ (h.set r q').length ∧ pj_tot h ≤ pj_tot (h.set r q')) ∧ (h.length ≤ 1000 → (h.set r q').length ≤ 1000) := fun hq hz => by
    rw [pj_tot_set hq hz, List.length_set]
    exact same
  have push : ∀ {ls st : List pj_V} {q' : pj_C}, pj_wfa ls st h = true → (h.length ≤ (h ++ [q']).length ∧ pj_tot h ≤ pj_tot (h ++ [q'])) ∧ (h.length ≤ 1000 → (h ++ [q']).length ≤ 1000) := fun hw => by
    have := (pj_wfa_spec hw).1
    rw [pj_tot_app]
    simp only [List.length_append, List.length_singleton]
    exact ⟨⟨by omega, by omega⟩, fun _ => by omega⟩
  unfold pj_s1 at he
  split at he
  case h_1 | h_2 => unfold pj_ldi at he; split at he <;> cases he; exact same
  case h_3 | h_4 =>
    unfold pj_lda at he
    split at he
    · obtain ⟨_, he⟩ := pj_cond he; cases he; exact same
    · cases he
  case h_5 | h_6 =>
    unfold pj_sti at he
    split at he
    · obtain ⟨_, he⟩ := pj_cond he; cases he; exact same
    · cases he
  case h_7 | h_8 =>
    unfold pj_sta at he
    split at he
    · obtain ⟨_, he⟩ := pj_cond he; cases he; exact same
    · cases he
  case h_9 | h_10 | h_11 => cases he; exact same
  case h_12 =>
    split at he
    · obtain ⟨_, he⟩ := pj_cond he; cases he; exact same
    · cases he
  case h_13 | h_14 | h_15 | h_16 | h_17 | h_18 | h_19 | h_20 | h_21 => split at he <;> cases he; exact same
  case h_22 => split at he <;> cases he; exact same
  case h_23 | h_24 | h_25 =>
    split at he
    · obtain ⟨_, he⟩ := pj_cond he; cases he; exact same
    · cases he
  case h_26 => cases he; exact same
  case h_27 =>
    split at he
    · split at he
      · split at he
        · obtain ⟨_, he⟩ := pj_cond he; cases he; exact same
        · cases he
      · cases he
    · cases he
  case h_28 =>
    split at he
    · split at he
      · rename_i hq
        obtain ⟨_, he⟩ := pj_cond he
        cases he
        exact set hq (by simp only [pj_sz, List.length_set])
      · cases he
    · split at he
      · rename_i hq
        obtain ⟨_, he⟩ := pj_cond he
        cases he
        exact set hq (by simp only [pj_sz, List.length_set])
      · cases he
    · cases he
  case h_29 =>
    split at he
    · rename_i j r t
      cases hr : Nat.beq r 1002 with
      | true => rw [hr] at he; cases he; exact same
      | false =>
        rw [hr] at he
        simp only [cond_false] at he
        split at he <;> cases he
        exact same
    · cases he
  case h_30 =>
    split at he
    · split at he <;> cases he
      exact same
    · cases he
  case h_31 | h_32 =>
    split at he
    · split at he
      · rename_i hq
        cases he
        exact set hq rfl
      · cases he
    · cases he
  case h_33 =>
    split at he
    · rename_i r t
      cases hr : Nat.beq r 1002 with
      | true => rw [hr] at he; cases he; exact same
      | false =>
        rw [hr] at he
        simp only [cond_false] at he
        split at he
        · obtain ⟨_, he⟩ := pj_cond he; cases he; exact same
        · cases he
    · cases he
  case h_34 =>
    obtain ⟨hc, he⟩ := pj_cond he
    simp only [Bool.and_eq_true] at hc
    cases he
    exact push hc.2
  case h_35 =>
    split at he
    · obtain ⟨hc, he⟩ := pj_cond he
      simp only [Bool.and_eq_true] at hc
      cases he
      exact push hc.2
    · cases he
  case h_36 =>
    split at he
    · split at he
      · obtain ⟨_, he⟩ := pj_cond he; cases he; exact same
      · cases he
    · cases he
  case h_37 =>
    split at he
    · split at he
      · split at he
        · rename_i hq0 hq1
          obtain ⟨_, he⟩ := pj_cond he
          cases he
          exact set hq1 rfl
        · cases he
      · cases he
    · cases he
  case h_38 => split at he <;> cases he; exact same
  case h_39 => cases he; exact same
  case h_40 | h_41 => obtain ⟨_, he⟩ := pj_cond he; cases he; exact same
  case h_42 | h_43 => obtain ⟨_, he⟩ := pj_cond he; unfold pj_ldl at he; split at he <;> cases he; exact same
  case h_44 | h_45 =>
    obtain ⟨_, he⟩ := pj_cond he
    unfold pj_stl at he
    split at he
    · obtain ⟨_, he⟩ := pj_cond he; cases he; exact same
    · cases he
  case h_46 | h_47 | h_48 | h_49 =>
    obtain ⟨_, he⟩ := pj_cond he
    split at he <;> cases he
    exact same
  case h_50 => cases he
theorem pj_Rn_mono {X : pj_X} {al : Bool} : ∀ (n M pc : Nat) (ls st : List pj_V) (h : List pj_C) (r : Option pj_V) (hf : List pj_C), pj_Rn X al n M pc ls st h r hf → (h.length ≤ hf.length ∧ pj_tot h ≤ pj_tot hf) ∧ (h.length ≤ 1000 → hf.length ≤ 1000)
  | 0, _, _, _, _, _, _, _, hR => False.elim hR
  | n + 1, M, pc, ls, st, h, r, hf, hR => by
    unfold pj_Rn at hR
    split at hR
    · exact False.elim hR
    · split at hR
      · rename_i he
        have h1 := pj_s1_mono he
        have h2 := pj_Rn_mono n _ _ _ _ _ _ _ hR.2
        exact ⟨⟨Nat.le_trans h1.1.1 h2.1.1, Nat.le_trans h1.1.2 h2.1.2⟩, fun z => h2.2 (h1.2 z)⟩
      · split at hR
        · rename_i k pt pf t hk
          by_cases hc : k
          · exact pj_Rn_mono n _ _ _ _ _ _ _ (hR.2.1 hc)
          · exact pj_Rn_mono n _ _ _ _ _ _ _ (hR.2.2 hc)
        · split at hR
          · obtain ⟨-, -, rfl⟩ := hR
            exact ⟨⟨Nat.le_refl _, Nat.le_refl _⟩, id⟩
          · split at hR
            · obtain ⟨rc, hc, h1, -, h2⟩ := hR
              have h1 := pj_Rn_mono n _ _ _ _ _ _ _ h1
              have h2 := pj_Rn_mono n _ _ _ _ _ _ _ h2
              exact ⟨⟨Nat.le_trans h1.1.1 h2.1.1, Nat.le_trans h1.1.2 h2.1.2⟩, fun z => h2.2 (h1.2 z)⟩
            · split at hR
              · obtain ⟨-, pt, -, h1⟩ := hR
                exact pj_Rn_mono n _ _ _ _ _ _ _ h1
              · exact False.elim hR
section RUN
variable {p : Program} {l : Launch} {e : Env} {R : Room} {s : State} {m : MethodId} {args : Array Value} {below : List Frame} {meth : Method} {c : Code} {D : va_G} {dA : Nat → ClassId} {A : Nat → Prop} {b M cells slots : Nat} {Q : State → Prop} {X : pj_X}
variable {α : Nat → Nat} {la : Array Slot} {H : Heap} {locs : List Loc} {ls st : List pj_V} {h : List pj_C} {al hd : Bool} {pc nx a b1 c1 d pc' : Nat} {P : Prop} {ls' st' : List pj_V} {h' : List pj_C} {i : Instr}
set_option maxHeartbeats 4000000 in
theorem sp_br {k : Prop} {pt pf : Nat} {t : List pj_V} (C : pj_Cx p R s m args meth c D dA A b X M) (hok : pj_okE M pc (i, nx, a, b1, c1, d, hd) = true) (he : pj_br i nx a st = some (P, k, pt, pf, t)) (hP : P)
    (kt : k → W p l e R s m args below meth c H locs cells slots Q (F0 m pt la (t.map (pj_cv α b)))) (kf : ¬ k → W p l e R s m args below meth c H locs cells slots Q (F0 m pf la (t.map (pj_cv α b)))) : W p l e R s m args below meth c H locs cells slots Q (F0 m pc la (st.map (pj_cv α b))) := by
  obtain ⟨hx, hb, -⟩ := C
  rw [pj_br_eq] at he
  unfold pj_brO at he
  split at he
  · rename_i cc o
    obtain ⟨hdg, rfl⟩ := pj_okE_dec hok rfl
    simp only [pj_okE, Bool.and_eq_true, decide_eq_true_eq] at hok
    have ht := hok.2
    split at he
    · rename_i x t'
      cases he
      have e0 : Int32.ofInt x = 0 ↔ x = 0 := by rw [← pj_z32]; exact pj_eq32 hP pj_rg0
      have e1 : Int32.ofInt x < 0 ↔ x < 0 := by rw [← pj_z32]; exact pj_lt32 hP pj_rg0
      have e2 : 0 ≤ Int32.ofInt x ↔ 0 ≤ x := by rw [← pj_z32]; exact pj_le32 pj_rg0 hP
      have e3 : 0 < Int32.ofInt x ↔ 0 < x := by rw [← pj_z32]; exact pj_lt32 pj_rg0 hP
      have e4 : Int32.ofInt x ≤ 0 ↔ x ≤ 0 := by rw [← pj_z32]; exact pj_le32 hP pj_rg0
      cases cc
      · exact lv_if_eq hx hb hdg ht (fun z => kt (e0.mp z)) (fun z => kf (fun y => z (e0.mpr y)))
      · exact lv_if_ne hx hb hdg ht (fun z => kt (fun y => z (e0.mpr y))) (fun z => kf (fun y => y (e0.mp z)))
      · exact lv_if_lt hx hb hdg ht (fun z => kt (e1.mp z)) (fun z => kf (fun y => z (e1.mpr y)))
      · exact lv_if_ge hx hb hdg ht (fun z => kt (e2.mp z)) (fun z => kf (fun y => z (e2.mpr y)))
      · exact lv_if_gt hx hb hdg ht (fun z => kt (e3.mp z)) (fun z => kf (fun y => z (e3.mpr y)))
      · exact lv_if_le hx hb hdg ht (fun z => kt (e4.mp z)) (fun z => kf (fun y => z (e4.mpr y)))
    · cases he
  · rename_i cc o
    obtain ⟨hdg, rfl⟩ := pj_okE_dec hok rfl
    simp only [pj_okE, Bool.and_eq_true, decide_eq_true_eq] at hok
    have ht := hok.2
    split at he
    · rename_i y x t'
      cases he
      have e0 := pj_eq32 hP.1 hP.2
      have e1 := pj_lt32 hP.1 hP.2
      have e2 := pj_le32 hP.2 hP.1
      have e3 := pj_lt32 hP.2 hP.1
      have e4 := pj_le32 hP.1 hP.2
      cases cc
      · exact lv_icmp_eq hx hb hdg ht (fun z => kt (e0.mp z)) (fun z => kf (fun y => z (e0.mpr y)))
      · exact lv_icmp_ne hx hb hdg ht (fun z => kt (fun y => z (e0.mpr y))) (fun z => kf (fun y => y (e0.mp z)))
      · exact lv_icmp_lt hx hb hdg ht (fun z => kt (e1.mp z)) (fun z => kf (fun y => z (e1.mpr y)))
      · exact lv_icmp_ge hx hb hdg ht (fun z => kt (e2.mp z)) (fun z => kf (fun y => z (e2.mpr y)))
      · exact lv_icmp_gt hx hb hdg ht (fun z => kt (e3.mp z)) (fun z => kf (fun y => z (e3.mpr y)))
      · exact lv_icmp_le hx hb hdg ht (fun z => kt (e4.mp z)) (fun z => kf (fun y => z (e4.mpr y)))
    · cases he
  · cases he
theorem sp_sw {x dd lo hi : Int} {offs : Array Int} {pt : Nat} {t : List pj_V} (C : pj_Cx p R s m args meth c D dA A b X M) (hok : pj_okE M pc (i, nx, a, b1, c1, d, hd) = true) (he : pj_sw i st = some (dd, lo, hi, offs, x, t)) (hx0 : pj_rg x)
    (ht : ((¬ x < lo ∧ ¬ hi < x) ∧ ∃ o, offs[(x - lo).toNat]? = some o ∧ (pc : Int) + o = (pt : Int)) ∨ ((x < lo ∨ hi < x) ∧ (pc : Int) + dd = (pt : Int)))
    (kt : W p l e R s m args below meth c H locs cells slots Q (F0 m pt la (t.map (pj_cv α b)))) : W p l e R s m args below meth c H locs cells slots Q (F0 m pc la (st.map (pj_cv α b))) := by
  obtain ⟨hx, hb, -⟩ := C
  unfold pj_sw at he
  split at he
  · split at he
    · cases he
      have hdg : decode (k_b M) pc = .ok (.tableswitch dd lo hi offs, nx - pc) := by
        simp only [pj_okE, Bool.and_eq_true, decide_eq_true_eq] at hok
        exact hok.1.1.1
      have hi32 := pj_i32 hx0
      rcases ht with ⟨⟨h1, h2⟩, o, ho, hto⟩ | ⟨h1, hto⟩
      · exact lv_tableIn (x := Int32.ofInt x) hx hb hdg (by rw [hi32]; exact h1) (by rw [hi32]; exact h2) (by rw [hi32]; exact ho) hto kt
      · exact lv_tableOut (x := Int32.ofInt x) hx hb hdg (by rw [hi32]; exact h1) hto kt
    · cases he
  · cases he
end RUN
end
section
/-! a run of the pure machine gives the method's contract, and its walk on the JVM -/
def pj_tys (dA : Nat → ClassId) : List (ClassId × FieldType) := [(dA 0, .int), (dA 1, .boolean)]
def pj_wsM (a : Nat) : List Cond := .code (k_y a) (k_b a) (k_nL a) (k_ret a) :: pj_tb
def pj_rm (a mc ms : Nat) : Room := { frames := k_fr a, cells := mc, slots := ms, locals := k_lo a }
def pj_pre (D : va_G) (dA : Nat → ClassId) (b : Nat) (X : pj_X) (α : Nat → Nat) (h : List pj_C) (sz : Nat) (U : State) : Prop :=
  U.heap.size = sz ∧ va_P D vwCl (pj_wl dA α b 0 h) U.heap ∧ va_K D vwCl [(dA 0, .int), (dA 1, .boolean)] U ∧ va_D (fun _ => True) (pj_wl dA α b 0 h) ∧ va_X b X.1 (fun j => Int32.ofInt (X.2 j)) U U.heap ∧ b < sz ∧ (∀ (k : Nat) (q : Nat × va_E), (pj_wl dA α b 0 h)[k]? = some q → q.1 ≠ b) ∧ (∀ w ∈ pj_nb, va_Nw w U) ∧ h.length ≤ 1000
def pj_post (D : va_G) (dA : Nat → ClassId) (b : Nat) (α : Nat → Nat) (h hc : List pj_C) (A : Nat → Prop) (α' : Nat → Nat) (t : State) : Prop :=
  va_P D vwCl (pj_wl dA α' b 0 hc) t.heap ∧ va_D A (pj_wl dA α' b 0 hc) ∧ ((∀ k, k < h.length → α' k = α k) ∧ (hc.length = h.length → α' = α))
def pj_qc (D : va_G) (dA : Nat → ClassId) (b : Nat) (α : Nat → Nat) (h hc : List pj_C) (A : Nat → Prop) (r : Option pj_V) : Array Value → State → Outcome → State → Prop := match r with
  | none => va_Qv (S := Nat → Nat) (fun _ => True) (pj_post D dA b α h hc A) A
  | some (.inl z) => va_Qi (S := Nat → Nat) (fun r _ => r = Int32.ofInt z) (pj_post D dA b α h hc A) A
  | some (.inr k) => if k < 1000 then va_Qr (S := Nat → Nat) (fun _ => True) (fun α' a t => a = α' k ∧ pj_post D dA b α h hc A α' t) A else va_Ql (S := Nat → Nat) (fun r _ => r = Int64.ofInt ((k : Int) - 2000)) (pj_post D dA b α h hc A) A
theorem pj_gi (ws : List Cond) (hw : ∀ w ∈ ws, w ∈ pj_tb) : GoodIn pj_tb ws := fun w h => ⟨hw w h, good_of_word (pj_good w (hw w h))⟩
theorem pj_okI_spec {a : Nat} (h : pj_okI a = true) : plainFor (k_y a) = true ∧ Cond.code (k_y a) (k_b a) (k_nL a) (k_ret a) ∈ pj_tb ∧ Cond.initialized (k_y a).cls ∈ pj_tb ∧ ((k_y a).cls ≠ "java/lang/invoke/MethodHandle" ∧ (k_y a).cls ≠ "java/lang/invoke/VarHandle") ∧ (parseMethodDescriptor (k_y a).desc).map (fun d => d.parameters.length) = some (match k_kd a with | 0 => k_na a | _ => k_na a - 1) ∧ k_na a ≤ k_nL a ∧
    ((k_kd a = 0 ∧ Cond.static (k_y a) ∈ pj_tb) ∨ (k_kd a = 1 ∧ 0 < k_na a ∧ Cond.instanceMethod (k_y a) ∈ pj_tb ∧ Cond.selects (k_y a).cls (k_y a) (k_y a) ∈ pj_tb ∧ (pj_at vwCl (k_ci a)).map (fun q => q.1) = some (k_y a).cls) ∨ (k_kd a = 2 ∧ 0 < k_na a ∧ Cond.instanceMethod (k_y a) ∈ pj_tb ∧ (k_y a).name = "<init>" ∧ k_ret a = none)) ∧
    ((k_rt a = 0 ∧ k_ret a = none) ∨ (k_rt a = 1 ∧ k_ret a = some .int) ∨ (k_rt a = 2 ∧ k_ret a = some .boolean) ∨ (k_rt a = 3 ∧ ∃ n, k_ret a = some (.object n)) ∨ (k_rt a = 4 ∧ k_ret a = some .long)) := by
  unfold pj_okI at h
  simp only [Bool.and_eq_true, decide_eq_true_eq] at h
  obtain ⟨h1, h2, h3, h4, h5, h6, h7, h8⟩ := h
  refine ⟨h1, pj_is_mem rfl h2, pj_is_mem rfl h3, h4, h5, Nat.le_of_ble_eq_true h6, ?_, ?_⟩
  · split at h7
    · rename_i hk
      exact Or.inl ⟨hk, pj_is_mem rfl h7⟩
    · rename_i hk
      simp only [Bool.and_eq_true, decide_eq_true_eq] at h7
      exact Or.inr (Or.inl ⟨hk, Nat.le_of_ble_eq_true h7.1, pj_is_mem rfl h7.2.1, pj_is_mem rfl h7.2.2.1, h7.2.2.2⟩)
    · rename_i hk
      simp only [Bool.and_eq_true, decide_eq_true_eq] at h7
      exact Or.inr (Or.inr ⟨hk, Nat.le_of_ble_eq_true h7.1, pj_is_mem rfl h7.2.1, h7.2.2.1, h7.2.2.2⟩)
    · cases h7
  · split at h8
    · rename_i e1 e2; exact Or.inl ⟨e1, e2⟩
    · rename_i e1 e2; exact Or.inr (Or.inl ⟨e1, e2⟩)
    · rename_i e1 e2; exact Or.inr (Or.inr (Or.inl ⟨e1, e2⟩))
    · rename_i e1 e2; exact Or.inr (Or.inr (Or.inr (Or.inl ⟨e1, _, e2⟩)))
    · rename_i e1 e2; exact Or.inr (Or.inr (Or.inr (Or.inr ⟨e1, e2⟩)))
    · cases h8
def pj_BS (X : pj_X) (al : Bool) (n : Nat) : Prop :=
  ∀ (M pc : Nat) (ls st : List pj_V) (h : List pj_C) (r : Option pj_V) (hf : List pj_C), pj_Rn X al n M pc ls st h r hf → ∀ (p : Program) (l : Launch) (e : Env) (R : Room) (s : State) (m : MethodId) (args : Array Value) (below : List Frame) (meth : Method) (c : Code) (D : va_G) (dA : Nat → ClassId) (A : Nat → Prop) (b cells slots : Nat) (Q : State → Prop) (α : Nat → Nat) (la : Array Slot) (H : Heap) (locs : List Loc),
    pj_Cx p R s m args meth c D dA A b X M → pj_St s D dA A b M α la H locs ls h → cells + (hf.length - h.length) ≤ R.cells → slots + (pj_tot hf - pj_tot h) ≤ R.slots →
    (∀ (α' : Nat → Nat) (H' : Heap) (locs' : List Loc) (la' : Array Slot) (pc' : Nat) (i : Instr) (st' : List pj_V) (P : Prop), ((∀ k, k < h.length → α' k = α k) ∧ (hf.length = h.length → α' = α)) → decode (k_b M) pc' = .ok (i, 1) → pj_rn (k_rt M) i st' = some (P, r) → P → va_P D vwCl (pj_wl dA α' b 0 hf) H' → va_D A (pj_wl dA α' b 0 hf) → va_S A s.heap H' locs' → W p l e R s m args below meth c H' locs' (cells + (hf.length - h.length)) (slots + (pj_tot hf - pj_tot h)) Q (F0 m pc' la' (st'.map (pj_cv α' b)))) →
    W p l e R s m args below meth c H locs cells slots Q (F0 m pc la (st.map (pj_cv α b)))
theorem pj_sl (α : Nat → Nat) (b : Nat) : ∀ as : List pj_V, as.all pj_n2 = true → (lg_sl (as.map (pj_cv α b))).length = as.length
  | [], _ => rfl
  | v :: vs, hn => by
    simp only [List.all_cons, Bool.and_eq_true] at hn
    have := pj_sl α b vs hn.2
    simp only [lg_sl] at this ⊢
    rw [List.map_cons, List.flatMap_cons, List.length_append, this, pj_cv_cat hn.1, if_neg (by decide)]
    simp only [List.length_cons, List.length_nil]
    omega
set_option maxHeartbeats 1000000 in
theorem pj_met {X : pj_X} {al : Bool} {n a : Nat} (IH : pj_BS X al n) (hI : pj_okI a = true) {as : List pj_V} {h hc : List pj_C} {rc : Option pj_V} (hR : pj_Rn X al n a 0 (as ++ pj_rep (k_nL a - as.length)) [] h rc hc) (has : as.length = k_na a) (hn2 : as.all pj_n2 = true) (l : Launch) (D : va_G) (dA : Nat → ClassId) (b : Nat) (α : Nat → Nat) (sz : Nat) :
    Met l (k_y a) (pj_wsM a) (pj_rm a (hc.length - h.length) (pj_tot hc - pj_tot h)) (va_Pc (as.map (pj_cv α b)) (pj_pre D dA b X α h sz)) (pj_qc D dA b α h hc (va_A (pj_wl dA α b 0 h) sz) rc) (hc.length - h.length) (pj_tot hc - pj_tot h) (va_A (pj_wl dA α b 0 h) sz) := by
  obtain ⟨hpl, hcode, hini, hcls, hdesc, hnl, hkind, hret⟩ := pj_okI_spec hI
  refine va_MetF (cc := k_b a) (maxL := k_nL a) (ret := k_ret a) hpl rfl ?_
  intro p e s m args below meth c s₁ B hml hv
  obtain ⟨rfl, hsz, hP, hK, hD0, hX, hbl, hbne, hnw, hlen⟩ := hv
  have hts0 := atoms_spec (ws := pj_wsM a) B.pre
  have hts : ∀ w ∈ pj_tb, w.before (as.map (pj_cv α b)).toArray s = true := fun w hw => hts0 w (List.mem_cons_of_mem _ hw)
  have hown : s.vm.findClass (k_y a).cls = some m.cls := findClass_of_methodNamed B.named
  have hname : meth.name = (k_y a).name := (name_of_methodNamed B.named B.method).1
  have hlocks := B.notSynchronized
  have hx := B.exec
  have hb := B.bytes
  have hr := B.returns
  subst hsz
  have hD := hD0.self (sz := s.heap.size)
  have hbA : ¬ va_A (pj_wl dA α b 0 h) s.heap.size b := by
    intro h9
    rcases h9 with ⟨k, q, h9⟩ | h9
    · exact hbne k _ h9 rfl
    · omega
  have hl := lv_entry (as.map (pj_cv α b)) (n := k_nL a) (by rw [pj_sl _ _ _ hn2, has]; exact hnl)
  rw [lg_entry_eq]
  generalize (lg_sl (as.map (pj_cv α b)) ++ List.replicate (k_nL a - (lg_sl (as.map (pj_cv α b))).length) Slot.unset).toArray = la at hl ⊢
  have hl : lv_has la (k_nL a) (pj_ll α b 0 (as ++ pj_rep (k_nL a - as.length))) := ⟨hl.1, hl.2.1, fun q hq => hl.2.2 q (pj_ll_args as 0 _ hn2 q hq)⟩
  refine IH a 0 _ [] h rc hc hR p l e _ s m _ below meth c D dA (va_A (pj_wl dA α b 0 h) s.heap.size) b 0 0 _ α la s.heap [] ⟨hx, hb, hml, hown, hts, hnw, hK, hX, hbl, hbA, fun q h9 => Or.inr h9, hname, Nat.le_refl _, Nat.le_refl _⟩ ⟨hP, hD, va_S.rf, hl, by rw [List.length_append, pj_rep_len]; omega, hlen⟩ (by show 0 + _ ≤ hc.length - h.length; omega) (by show 0 + _ ≤ pj_tot hc - pj_tot h; omega) ?_
  intro α' H' locs' la' pc' i st' P hag hdg hrn hPP hP1 hD1 hS1
  refine W.cs (cells' := hc.length - h.length) (slots' := pj_tot hc - pj_tot h) (by omega) (by omega) ?_
  unfold pj_rn at hrn
  split at hrn
  · split at hrn
    · rename_i hrt
      cases hrn
      have hret : k_ret a = none := by rcases hret with ⟨_, z⟩ | ⟨z, _⟩ | ⟨z, _⟩ | ⟨z, _⟩ | ⟨z, _⟩ <;> first | exact z | omega
      exact W.vret hx hb (by rw [hr, hret]) (fun t ht hW => ⟨⟨α', rfl, trivial, by rw [ht]; exact hP1, hD1, hag⟩, hS1.F ht⟩) hS1.2.2 hdg
    · cases hrn
  · split at hrn
    · rename_i hrt
      cases hrn
      have hret : k_ret a = some .int := by rcases hret with ⟨z, _⟩ | ⟨_, z⟩ | ⟨z, _⟩ | ⟨z, _⟩ | ⟨z, _⟩ <;> first | exact z | omega
      exact W.iret hx hb (by rw [hr, hret]) (fun t ht hW => ⟨⟨_, α', rfl, rfl, by rw [ht]; exact hP1, hD1, hag⟩, hS1.F ht⟩) hS1.2.2 hdg
    · rename_i hrt
      cases hrn
      have hret : k_ret a = some .boolean := by rcases hret with ⟨z, _⟩ | ⟨z, _⟩ | ⟨_, z⟩ | ⟨z, _⟩ | ⟨z, _⟩ <;> first | exact z | omega
      exact W.zret (ty := .boolean) hx hb (by rw [hr, hret]) (by rcases hPP with rfl | rfl <;> rfl) (fun t ht hW => ⟨⟨_, α', rfl, rfl, by rw [ht]; exact hP1, hD1, hag⟩, hS1.F ht⟩) hS1.2.2 hdg
    · cases hrn
  · split at hrn
    · rename_i hrt
      obtain ⟨hc9, hrn⟩ := pj_cond hrn
      have hc9 := Nat.le_of_ble_eq_true hc9
      cases hrn
      obtain ⟨nm, hret⟩ : ∃ nm, k_ret a = some (.object nm) := by rcases hret with ⟨z, _⟩ | ⟨z, _⟩ | ⟨z, _⟩ | ⟨_, z⟩ | ⟨z, _⟩ <;> first | exact z | omega
      rw [List.map_cons, pj_cv_ref (by omega)]
      simp only [pj_qc]
      rw [if_pos (by omega)]
      exact W.aret (rt := .object nm) hx hb (by rw [hr, hret]) (Or.inl ⟨_, rfl⟩) (Or.inr ⟨_, rfl⟩) (fun t ht hW => ⟨⟨α', _, rfl, trivial, rfl, by rw [ht]; exact hP1, hD1, hag⟩, hS1.F ht⟩) hS1.2.2 hdg
    · cases hrn
  · split at hrn
    · rename_i hrt
      cases hrn
      have hPP : 2000 ≤ _ := hPP
      have hret : k_ret a = some .long := by rcases hret with ⟨z, _⟩ | ⟨z, _⟩ | ⟨z, _⟩ | ⟨z, _⟩ | ⟨_, z⟩ <;> first | exact z | omega
      rw [List.map_cons, pj_cv_long hPP]
      simp only [pj_qc]
      rw [if_neg (by omega)]
      exact W.lret hx hb (by rw [hr, hret]) (fun t ht hW => ⟨⟨_, α', rfl, rfl, by rw [ht]; exact hP1, hD1, hag⟩, hS1.F ht⟩) hS1.2.2 hdg
    · cases hrn
  · cases hrn
section CALL
variable {p : Program} {l : Launch} {e : Env} {R : Room} {s : State} {m : MethodId} {args : Array Value} {below : List Frame} {meth : Method} {c : Code} {D : va_G} {dA : Nat → ClassId} {A : Nat → Prop} {b M cells slots mc ms : Nat} {Q : State → Prop} {X : pj_X}
variable {α : Nat → Nat} {la : Array Slot} {H : Heap} {locs : List Loc} {ls st : List pj_V} {h : List pj_C} {al hd : Bool} {pc nx a b1 c1 d pc' : Nat} {P : Prop} {ls' st' : List pj_V} {h' hc : List pj_C} {i : Instr} {rc : Option pj_V}
theorem sp_ret {st0 rest : List Value} {aa : Array Value} (hA : ∀ q, s.heap.size ≤ q → A q) (hk : ∀ k, rc = some (.inr k) → k < 1000 ∨ 2000 ≤ k) (hr : va_Run p l e R s m args below meth c H locs cells slots mc ms (F0 m pc la st0) rest (pj_qc D dA b α h hc (va_A (pj_wl dA α b 0 h) H.size) rc aa) (va_A (pj_wl dA α b 0 h) H.size)) (hD : va_D A (pj_wl dA α b 0 h)) (hS : va_S A s.heap H locs)
    (kk : ∀ (α' : Nat → Nat) (H' : Heap) (locs' : List Loc), ((∀ k, k < h.length → α' k = α k) ∧ (hc.length = h.length → α' = α)) → va_P D vwCl (pj_wl dA α' b 0 hc) H' → va_D A (pj_wl dA α' b 0 hc) → va_S A s.heap H' locs' → W p l e R s m args below meth c H' locs' (cells + mc) (slots + ms) Q (F0 m (pc + 3) la (rc.toList.map (pj_cv α' b) ++ rest))) : W p l e R s m args below meth c H locs cells slots Q (F0 m pc la st0) := by
  have hsub : ∀ q, va_A (pj_wl dA α b 0 h) H.size q → A q := by
    intro q h9
    rcases h9 with ⟨k, q1, h9⟩ | h9
    · exact hD.2 k _ h9
    · exact hA q (Nat.le_trans hS.1 h9)
  cases rc with
  | none =>
    refine va_callv (a := aa) hr hS (fun q _ h9 => hsub q h9) hsub (fun u t H1 locs1 ht hvm hp hB hz1 hk1 hS1 => ?_)
    obtain ⟨hP1, hD1, hag⟩ := hB
    rw [ht] at hP1
    exact kk u H1 locs1 hag hP1 (hD1.weaken (fun _ _ _ h9 => hsub _ h9)) hS1
  | some v =>
    cases v with
    | inl z =>
      refine va_calli (a := aa) hr hS (fun q _ h9 => hsub q h9) hsub (fun r u t H1 locs1 ht hvm hp hB hz1 hk1 hS1 => ?_)
      obtain ⟨hP1, hD1, hag⟩ := hB
      rw [ht] at hP1
      subst hp
      exact kk u H1 locs1 hag hP1 (hD1.weaken (fun _ _ _ h9 => hsub _ h9)) hS1
    | inr k =>
      rcases hk k rfl with hk | hk
      case inr =>
        simp only [pj_qc] at hr
        rw [if_neg (by omega)] at hr
        refine va_calll (a := aa) hr hS (fun q _ h9 => hsub q h9) hsub (fun r u t H1 locs1 ht hvm hp hB hz1 hk1 hS1 => ?_)
        obtain ⟨hP1, hD1, hag⟩ := hB
        rw [ht] at hP1
        subst hp
        have k9 := kk u H1 locs1 hag hP1 (hD1.weaken (fun _ _ _ h9 => hsub _ h9)) hS1
        rw [show (some (Sum.inr k : pj_V)).toList = [Sum.inr k] from rfl, List.map_cons, pj_cv_long hk] at k9
        exact k9
      simp only [pj_qc] at hr
      rw [if_pos hk] at hr
      refine va_callr (a := aa) hr hS (fun q _ h9 => hsub q h9) hsub ?_
      intro u a9 t H1 locs1 ht hvm hp hB hz1 hk1 hS1
      obtain ⟨rfl, hP1, hD1, hag⟩ := hB
      rw [ht] at hP1
      have k9 := kk u H1 locs1 hag hP1 (hD1.weaken (fun _ _ _ h9 => hsub _ h9)) hS1
      rw [show (some (Sum.inr k : pj_V)).toList = [Sum.inr k] from rfl, List.map_cons, pj_cv_ref hk] at k9
      exact k9
theorem pj_blind (av : List Value) (sz : Nat) : FrameBlind (va_Pc av (pj_pre D dA b X α h sz)) := by
  intro a9 U g mk q
  obtain ⟨h1, h2, h3, h4, h5, h6, h7, h8, h9, h10⟩ := q
  exact ⟨h1, h2, h3, va_K.moved (u := U) (U := U.calling g mk a9) (Vm.Alike.refl U.vm) h4, h5, va_X.moved (u := U) (U := U.calling g mk a9) (Vm.Alike.refl U.vm) h6, h7, h8, fun w hw => va_Nw.same (u := U) (U := U.calling g mk a9) (pj_nb_tabs w hw) rfl (h9 w hw), h10⟩
theorem pj_pre_at {av : List Value} (C : pj_Cx p R s m args meth c D dA A b X M) (S : pj_St s D dA A b M α la H locs ls h) : ∀ U : State, U.heap = H → s.WarmedH U.vm → va_Pc av (pj_pre D dA b X α h H.size) av.toArray U := by
  intro U hU hW
  obtain ⟨hx, hb, hml, hown, hts, hnw, hK, hX, hbl, hbA, hA, hnm, hfr, hlo⟩ := C
  refine ⟨rfl, by rw [hU], by rw [hU]; exact S.1, va_K.moved hW.alike hK, S.2.1.weaken (fun _ _ _ _ => trivial), ?_, Nat.lt_of_lt_of_le hbl S.2.2.1.1, ?_, pj_nb_warm hW hnw, S.2.2.2.2.2⟩
  · rw [hU]
    exact va_X.moved hW.alike (va_X.kept hX (S.2.2.1.2.1 b hbl hbA))
  · intro k q hq h9
    exact hbA (h9 ▸ S.2.1.2 k q hq)
set_option maxHeartbeats 1000000 in
theorem sp_call {al' : Bool} {n : Nat} {as t : List pj_V} (IH : pj_BS X al' n) (hR : pj_Rn X al' n a 0 (as ++ pj_rep (k_nL a - as.length)) [] h rc hc) (he : pj_cl i a b1 st h = some (a, as, t)) (C : pj_Cx p R s m args meth c D dA A b X M) (S : pj_St s D dA A b M α la H locs ls h) (hok : pj_okE M pc (i, nx, a, b1, c1, d, hd) = true) (hrc : ∀ k, rc = some (.inr k) → k < 1000 ∨ 2000 ≤ k) (hcl : cells + (hc.length - h.length) ≤ R.cells) (hsl : slots + (pj_tot hc - pj_tot h) ≤ R.slots)
    (kk : ∀ (α' : Nat → Nat) (H' : Heap) (locs' : List Loc), ((∀ k, k < h.length → α' k = α k) ∧ (hc.length = h.length → α' = α)) → va_P D vwCl (pj_wl dA α' b 0 hc) H' → va_D A (pj_wl dA α' b 0 hc) → va_S A s.heap H' locs' → W p l e R s m args below meth c H' locs' (cells + (hc.length - h.length)) (slots + (pj_tot hc - pj_tot h)) Q (F0 m nx la (rc.toList.map (pj_cv α' b) ++ t.map (pj_cv α b)))) : W p l e R s m args below meth c H locs cells slots Q (F0 m pc la (st.map (pj_cv α b))) := by
  obtain ⟨hx, hb, hml, hown, hts, hnw, hK, hX, hbl, hbA, hA, hnm, hfr, hlo⟩ := id C
  have hD := S.2.1
  have hS := S.2.2.1
  have fin : ∀ {mc ms : Nat} {st0 rest : List Value} {aa : Array Value}, mc = hc.length - h.length → ms = pj_tot hc - pj_tot h → rest = t.map (pj_cv α b) → st0 = st.map (pj_cv α b) → nx = pc + 3 → va_Run p l e R s m args below meth c H locs cells slots mc ms (F0 m pc la st0) rest (pj_qc D dA b α h hc (va_A (pj_wl dA α b 0 h) H.size) rc aa) (va_A (pj_wl dA α b 0 h) H.size) → W p l e R s m args below meth c H locs cells slots Q (F0 m pc la (st.map (pj_cv α b))) := by
    intro mc ms st0 rest aa e1 e2 e3 e4 e5 hr
    subst e1 e2 e3 e4 e5
    exact sp_ret hA hrc hr hD hS kk
  have hCF : CallFix p m c (k_b M) (k_nL M) s args pj_tb (k_y M).cls := ⟨hx, hb, hml, hown, hts⟩
  have hsize : la.size = k_nL M := S.2.2.2.1.1
  have common : Nat.blt a 100 = true → as.length = k_na a → _ := fun h1 h2 => pj_okI_spec (k_okI a (Nat.le_of_ble_eq_true h1))
  have hcats : ∀ l9 : List pj_V, pj_wd l9 ≤ 8 → 2 * (F0 m pc la (st.map (pj_cv α b))).monitorRoom + ((l9.map (pj_cv α b)).map fun v => v.category).sum ≤ 8 := fun l9 h9 => lv_room (Nat.le_trans (pj_cats l9) h9)
  unfold pj_cl at he
  split at he
  · split at he
    · -- static
      rename_i n9
      obtain ⟨hdg, rfl⟩ := pj_okE_dec hok rfl
      simp only [pj_okE, Bool.and_eq_true] at hok
      obtain ⟨-, o1, o2, o3, o4, o5⟩ := hok
      obtain ⟨hc9, he⟩ := pj_cond he
      simp only [Bool.and_eq_true] at hc9
      simp only [Option.some.injEq, Prod.mk.injEq, true_and] at he
      obtain ⟨rfl, rfl⟩ := he
      have hle := Nat.le_of_ble_eq_true hc9.2.1
      have h8 := Nat.le_of_ble_eq_true hc9.1.2
      have hkd := Nat.eq_of_beq_eq_true hc9.1.1
      have hn2 : (st.take (k_na a)).reverse.all pj_n2 = true := by rw [List.all_reverse]; exact hc9.2.2
      have hasl : (st.take (k_na a)).reverse.length = k_na a := by rw [List.length_reverse, List.length_take]; omega
      have o4 := Nat.le_of_ble_eq_true o4
      have o5 := Nat.le_of_ble_eq_true o5
      have hI := k_okI a (Nat.le_of_ble_eq_true o1)
      obtain ⟨hpl, hcode, hini, hcls, hdesc, hnl, hkind, hret⟩ := pj_okI_spec hI
      have hst : Cond.static (k_y a) ∈ pj_tb := by rcases hkind with ⟨_, z⟩ | ⟨z, _⟩ | ⟨z, _⟩ <;> first | exact z | omega
      have hM := pj_met IH hI hR hasl hn2 l D dA b α H.size
      have hdesc : (parseMethodDescriptor (k_y a).desc).map (fun d => d.parameters.length) = some (k_na a) := by rw [hdesc, hkd]; rfl
      have hws : ∀ w ∈ pj_wsM a, w ∈ pj_tb := fun w hw => by rcases List.mem_cons.mp hw with rfl | hw <;> assumption
      have hstk : st.map (pj_cv α b) = ((st.take (k_na a)).reverse.map (pj_cv α b)).reverse ++ (st.drop (k_na a)).map (pj_cv α b) := by
        rw [← List.map_reverse, List.reverse_reverse, ← List.map_append, List.take_append_drop]
      have hroom : (pj_rm a (hc.length - h.length) (pj_tot hc - pj_tot h)).frames + 1 ≤ R.frames ∧ 8 + (k_nL a + 11) + (pj_rm a (hc.length - h.length) (pj_tot hc - pj_tot h)).locals ≤ R.locals := ⟨Nat.le_trans o4 hfr, Nat.le_trans o5 hlo⟩
      have hpre : PreS s H (va_Pc ((st.take (k_na a)).reverse.map (pj_cv α b)) (pj_pre D dA b X α h H.size)) ((st.take (k_na a)).reverse.map (pj_cv α b)) := ⟨pj_blind _ _, pj_pre_at C S⟩
      have hna : ((st.take (k_na a)).reverse.map (pj_cv α b)).length = k_na a := by rw [List.length_map, hasl]
      split at o3
      · have hlk := pj_is_mem rfl o3
        exact fin rfl rfl rfl rfl rfl (va_runS hCF hM (va_cwS (k_na a) hts (pj_gi _ (fun w hw => by
          simp only [va_wsS, List.mem_append, List.mem_cons, List.not_mem_nil, or_false] at hw
          rcases hw with (rfl | rfl | rfl) | hw
          · exact hlk
          · exact hst
          · exact hini
          · exact hws w hw)) rfl rfl rfl ⟨hcls.1, hcls.2, hdesc⟩ hroom) hpre rfl hna hsize hstk (hcats _ h8) hdg ⟨hcl, hsl⟩)
      · have hlk := pj_is_nest rfl o3
        exact fin rfl rfl rfl rfl rfl (va_runSN hCF hM ⟨va_cnB (k_na a) hts (pj_gi _ hws) rfl rfl rfl (hnw _ hlk) (hts _ hini) ⟨hcls.1, hcls.2, hdesc⟩ hroom, hts _ hst, trivial⟩ hpre rfl hna hsize hstk (hcats _ h8) hdg ⟨hcl, hsl⟩)
    · -- virtual
      rename_i n9
      obtain ⟨hdg, rfl⟩ := pj_okE_dec hok rfl
      simp only [pj_okE, Bool.and_eq_true] at hok
      obtain ⟨-, o1, o2, o3, o4, o5⟩ := hok
      obtain ⟨hc9, he⟩ := pj_cond he
      simp only [Bool.and_eq_true] at hc9
      simp only [Option.some.injEq, Prod.mk.injEq, true_and] at he
      obtain ⟨has0, rfl⟩ := he
      have hrcv := hc9.1.1.2
      have h8 := Nat.le_of_ble_eq_true hc9.1.2
      have hle := Nat.le_of_ble_eq_true hc9.2.1
      have hkd := Nat.eq_of_beq_eq_true hc9.1.1.1
      have hn2 : as.all pj_n2 = true := by rw [← has0, List.all_reverse]; exact hc9.2.2
      have o4 := Nat.le_of_ble_eq_true o4
      have o5 := Nat.le_of_ble_eq_true o5
      have hI := k_okI a (Nat.le_of_ble_eq_true o1)
      obtain ⟨hpl, hcode, hini, hcls, hdesc, hnl, hkind, hret⟩ := pj_okI_spec hI
      obtain ⟨hn0, hin, hsel, hcv⟩ : 0 < k_na a ∧ Cond.instanceMethod (k_y a) ∈ pj_tb ∧ Cond.selects (k_y a).cls (k_y a) (k_y a) ∈ pj_tb ∧ (pj_at vwCl (k_ci a)).map (fun q => q.1) = some (k_y a).cls := by rcases hkind with ⟨z, _⟩ | ⟨_, z⟩ | ⟨z, _⟩ <;> first | exact z | omega
      rw [has0] at hrcv
      have hasl : as.length = k_na a := by rw [← has0, List.length_reverse, List.length_take]; omega
      have hstk : st.map (pj_cv α b) = (as.map (pj_cv α b)).reverse ++ (st.drop (k_na a)).map (pj_cv α b) := by
        rw [← has0, ← List.map_reverse, List.reverse_reverse, ← List.map_append, List.take_append_drop]
      unfold pj_rc at hrcv
      simp only at hrcv
      split at hrcv
      · rename_i r as1
        split at hrcv
        · rename_i cix fs hq
          have hcix := Nat.eq_of_beq_eq_true hrcv
          subst hcix
          obtain ⟨hw0, hr0⟩ := S.cell hq
          have hM := pj_met IH hI hR hasl hn2 l D dA b α H.size
          have hdesc : (parseMethodDescriptor (k_y a).desc).map (fun d => d.parameters.length) = some (k_na a - 1) := by rw [hdesc, hkd]; rfl
          have hws : ∀ w ∈ pj_wsM a, w ∈ pj_tb := fun w hw => by rcases List.mem_cons.mp hw with rfl | hw <;> assumption
          have hroom : (pj_rm a (hc.length - h.length) (pj_tot hc - pj_tot h)).frames + 1 ≤ R.frames ∧ 8 + (k_nL a + 11) + (pj_rm a (hc.length - h.length) (pj_tot hc - pj_tot h)).locals ≤ R.locals := ⟨Nat.le_trans o4 hfr, Nat.le_trans o5 hlo⟩
          rw [List.map_cons, hr0] at hM hstk
          have hna : (as1.map (pj_cv α b)).length = k_na a - 1 := by rw [List.length_map]; simp only [List.length_cons] at hasl; omega
          have hstk2 : st.map (pj_cv α b) = (as1.map (pj_cv α b)).reverse ++ .ref (α r) :: (st.drop (k_na a)).map (pj_cv α b) := by
            rw [hstk, List.reverse_cons, List.append_assoc]; rfl
          obtain ⟨q9, hq9, hq9c⟩ : ∃ q9, pj_at vwCl (k_ci a) = some q9 ∧ q9.1 = (k_y a).cls := by
            cases hz : pj_at vwCl (k_ci a) with
            | none => rw [hz] at hcv; cases hcv
            | some q9 => rw [hz] at hcv; exact ⟨q9, rfl, Option.some.inj hcv⟩
          have hrecv := va_recv hK S.1 (pj_cl_get hq9) hw0
          rw [hq9c] at hrecv
          have hpre : PreV s H (k_y a).cls (α r) (va_Pc (.ref (α r) :: as1.map (pj_cv α b)) (pj_pre D dA b X α h H.size)) (as1.map (pj_cv α b)) := ⟨pj_blind _ _, hrecv, pj_pre_at C S⟩
          split at o3
          · have hlk := pj_is_mem rfl o3
            exact fin rfl rfl rfl rfl rfl (va_runV hCF hM (cwV (k_na a - 1) hts (pj_gi _ (fun w hw => by
              simp only [wsV, List.mem_append, List.mem_cons, List.not_mem_nil, or_false] at hw
              rcases hw with (rfl | rfl | rfl | rfl) | hw
              · exact hlk
              · exact hin
              · exact hsel
              · exact hini
              · exact hws w hw)) rfl rfl rfl ⟨rfl, hcls.1, hcls.2, hdesc⟩ hroom) hpre rfl hna hsize hstk2 (hcats _ h8) hdg ⟨hcl, hsl⟩)
          · have hlk := pj_is_nest rfl o3
            exact fin rfl rfl rfl rfl rfl (va_runVN hCF hM ⟨va_cnB (k_na a - 1) hts (pj_gi _ hws) rfl rfl rfl (hnw _ hlk) (hts _ hini) ⟨hcls.1, hcls.2, hdesc⟩ hroom, hts _ hin, hts _ hsel⟩ hpre rfl hna hsize hstk2 (hcats _ h8) hdg ⟨hcl, hsl⟩)
        · cases hrcv
      · cases hrcv
    · -- special
      rename_i n9
      obtain ⟨hdg, rfl⟩ := pj_okE_dec hok rfl
      simp only [pj_okE, Bool.and_eq_true] at hok
      obtain ⟨-, o1, o2, o3, o4, o5⟩ := hok
      obtain ⟨hc9, he⟩ := pj_cond he
      simp only [Bool.and_eq_true] at hc9
      simp only [Option.some.injEq, Prod.mk.injEq, true_and] at he
      obtain ⟨has0, rfl⟩ := he
      have hrcv := hc9.1.1.2
      have h8 := Nat.le_of_ble_eq_true hc9.1.2
      have hle := Nat.le_of_ble_eq_true hc9.2.1
      have hkd := Nat.eq_of_beq_eq_true hc9.1.1.1
      have hn2 : as.all pj_n2 = true := by rw [← has0, List.all_reverse]; exact hc9.2.2
      have o4 := Nat.le_of_ble_eq_true o4
      have o5 := Nat.le_of_ble_eq_true o5
      have hI := k_okI a (Nat.le_of_ble_eq_true o1)
      obtain ⟨hpl, hcode, hini, hcls, hdesc, hnl, hkind, hret⟩ := pj_okI_spec hI
      obtain ⟨hn0, hin, hnm9, hrn⟩ : 0 < k_na a ∧ Cond.instanceMethod (k_y a) ∈ pj_tb ∧ (k_y a).name = "<init>" ∧ k_ret a = none := by rcases hkind with ⟨z, _⟩ | ⟨z, _⟩ | ⟨_, z⟩ <;> first | exact z | omega
      rw [has0] at hrcv
      have hasl : as.length = k_na a := by rw [← has0, List.length_reverse, List.length_take]; omega
      have hstk : st.map (pj_cv α b) = (as.map (pj_cv α b)).reverse ++ (st.drop (k_na a)).map (pj_cv α b) := by
        rw [← has0, ← List.map_reverse, List.reverse_reverse, ← List.map_append, List.take_append_drop]
      unfold pj_rc at hrcv
      simp only at hrcv
      split at hrcv
      · rename_i r as1
        have hr0 : pj_cv α b (.inr r) = .ref (α r) := pj_cv_ref (by have := Nat.le_of_ble_eq_true hrcv; omega)
        have hM := pj_met IH hI hR hasl hn2 l D dA b α H.size
        have hdesc : (parseMethodDescriptor (k_y a).desc).map (fun d => d.parameters.length) = some (k_na a - 1) := by rw [hdesc, hkd]; rfl
        have hws : ∀ w ∈ pj_wsM a, w ∈ pj_tb := fun w hw => by rcases List.mem_cons.mp hw with rfl | hw <;> assumption
        have hroom : (pj_rm a (hc.length - h.length) (pj_tot hc - pj_tot h)).frames + 1 ≤ R.frames ∧ 8 + (k_nL a + 11) + (pj_rm a (hc.length - h.length) (pj_tot hc - pj_tot h)).locals ≤ R.locals := ⟨Nat.le_trans o4 hfr, Nat.le_trans o5 hlo⟩
        rw [List.map_cons, hr0] at hM hstk
        have hna : (as1.map (pj_cv α b)).length = k_na a - 1 := by rw [List.length_map]; simp only [List.length_cons] at hasl; omega
        have hstk2 : st.map (pj_cv α b) = (as1.map (pj_cv α b)).reverse ++ .ref (α r) :: (st.drop (k_na a)).map (pj_cv α b) := by
          rw [hstk, List.reverse_cons, List.append_assoc]; rfl
        have hpre : PreS s H (va_Pc (.ref (α r) :: as1.map (pj_cv α b)) (pj_pre D dA b X α h H.size)) (.ref (α r) :: as1.map (pj_cv α b)) := ⟨pj_blind _ _, pj_pre_at C S⟩
        have hwsn : pj_wsM a = .code (k_y a) (k_b a) (k_nL a) none :: pj_tb := by unfold pj_wsM; rw [hrn]
        split at o3
        · have hlk := pj_is_mem rfl o3
          exact fin rfl rfl rfl rfl rfl (va_runI hCF hM (cwI (k_na a - 1) hts (pj_gi _ hws) hwsn rfl rfl (hts _ hini) (hts _ hlk) (hts _ hin) hnm9 ⟨hcls.1, hcls.2, hdesc⟩ hroom) hpre rfl hna hsize hstk2 (hcats _ h8) hdg ⟨hcl, hsl⟩)
        · have hlk := pj_is_nest rfl o3
          exact fin rfl rfl rfl rfl rfl (va_runIN hCF hM ⟨va_cnB (k_na a - 1) hts (pj_gi _ hws) hwsn rfl rfl (hnw _ hlk) (hts _ hini) ⟨hcls.1, hcls.2, hdesc⟩ hroom, hnm9, hts _ hin⟩ hpre rfl hna hsize hstk2 (hcats _ h8) hdg ⟨hcl, hsl⟩)
      · cases hrcv
    · cases he
  · cases he
theorem pj_Rn_ref {X : pj_X} {al : Bool} : ∀ (n M pc : Nat) (ls st : List pj_V) (h : List pj_C) (r : Option pj_V) (hf : List pj_C), pj_Rn X al n M pc ls st h r hf → ∀ k, r = some (.inr k) → k < 1000 ∨ 2000 ≤ k
  | 0, _, _, _, _, _, _, _, hR => False.elim hR
  | n + 1, M, pc, ls, st, h, r, hf, hR => by
    unfold pj_Rn at hR
    split at hR
    · exact False.elim hR
    · split at hR
      · exact pj_Rn_ref n _ _ _ _ _ _ _ hR.2
      · split at hR
        · rename_i k pt pf t hk
          by_cases hc : k
          · exact pj_Rn_ref n _ _ _ _ _ _ _ (hR.2.1 hc)
          · exact pj_Rn_ref n _ _ _ _ _ _ _ (hR.2.2 hc)
        · split at hR
          · rename_i v hv
            obtain ⟨hP9, rfl, -⟩ := hR
            intro k hk
            subst hk
            unfold pj_rn at hv
            split at hv
            · split at hv <;> cases hv
            · split at hv <;> cases hv
            · split at hv
              · obtain ⟨h9, hv⟩ := pj_cond hv
                have := Nat.le_of_ble_eq_true h9
                cases hv
                omega
              · cases hv
            · split at hv
              · cases hv
                exact Or.inr hP9
              · cases hv
            · cases hv
          · split at hR
            · obtain ⟨rc, hc, h1, -, h2⟩ := hR
              exact pj_Rn_ref n _ _ _ _ _ _ _ h2
            · split at hR
              · obtain ⟨-, pt, -, h1⟩ := hR
                exact pj_Rn_ref n _ _ _ _ _ _ _ h1
              · exact False.elim hR
theorem pj_cl_a {a b1 M' : Nat} {as t : List pj_V} (he : pj_cl i a b1 st h = some (M', as, t)) : M' = a := by
  unfold pj_cl at he
  split at he
  · split at he
    · obtain ⟨_, he⟩ := pj_cond he; cases he; rfl
    · obtain ⟨_, he⟩ := pj_cond he; cases he; rfl
    · obtain ⟨_, he⟩ := pj_cond he; cases he; rfl
    · cases he
  · cases he
set_option maxHeartbeats 1000000 in
/-- THE RUN: what the pure machine does from here, the JVM does -/
theorem pj_body (X : pj_X) (al : Bool) : ∀ n, pj_BS X al n
  | 0 => fun _ _ _ _ _ _ _ hR => False.elim hR
  | n + 1 => by
    intro M pc ls st h r hf hR p l e R s m args below meth c D dA A b cells slots Q α la H locs C S hcl hsl fin
    have hmono := pj_Rn_mono _ _ _ _ _ _ _ _ hR
    unfold pj_Rn at hR
    split at hR
    · exact False.elim hR
    · rename_i i nx a b1 c1 d hd hcd
      have hok := k_okM M pc _ hcd
      split at hR
      · rename_i P pc' ls' st' h' he
        have m1 := pj_s1_mono he
        have m2 := pj_Rn_mono _ _ _ _ _ _ _ _ hR.2
        refine pj_step C S hok he hR.1 (by omega) (by omega) ?_
        intro α' la' H' locs' hag S'
        refine pj_body X al n M pc' ls' st' h' r hf hR.2 p l e R s m args below meth c D dA A b _ _ Q α' la' H' locs' C S' (by omega) (by omega) ?_
        intro α2 H2 locs2 la2 pc2 i2 st2 P2 hag2 hdg2 hrn2 hP2 hPP hD2 hS2
        refine W.cs (cells' := cells + (hf.length - h.length)) (slots' := slots + (pj_tot hf - pj_tot h)) (by omega) (by omega) (fin α2 H2 locs2 la2 pc2 i2 st2 P2 ⟨fun k hk => (hag2.1 k (by omega)).trans (hag.1 k hk), fun e9 => (hag2.2 (by omega)).trans (hag.2 (by omega))⟩ hdg2 hrn2 hP2 hPP hD2 hS2)
      · split at hR
        · rename_i P k pt pf t he
          refine sp_br C hok he hR.1 (fun hk => ?_) (fun hk => ?_)
          · exact pj_body X al n M pt ls t h r hf (hR.2.1 hk) p l e R s m args below meth c D dA A b _ _ Q α la H locs C S hcl hsl fin
          · exact pj_body X al n M pf ls t h r hf (hR.2.2 hk) p l e R s m args below meth c D dA A b _ _ Q α la H locs C S hcl hsl fin
        · split at hR
          · rename_i P v he
            obtain ⟨hP, rfl, rfl⟩ := hR
            have hdg : decode (k_b M) pc = .ok (i, 1) := by
              unfold pj_rn at he
              split at he
              · exact (pj_okE_dec hok rfl).1
              · exact (pj_okE_dec hok rfl).1
              · exact (pj_okE_dec hok rfl).1
              · exact (pj_okE_dec hok rfl).1
              · cases he
            refine W.cs (cells' := cells + (hf.length - hf.length)) (slots' := slots + (pj_tot hf - pj_tot hf)) (by omega) (by omega) (fin α H locs la pc i st P ⟨fun _ _ => rfl, fun _ => rfl⟩ hdg he hP S.1 S.2.1 S.2.2.1)
          · split at hR
            · rename_i M' as t he
              obtain ⟨rc, hc, h1, h2, h3⟩ := hR
              have hMa := pj_cl_a he
              subst hMa
              have m1 := pj_Rn_mono _ _ _ _ _ _ _ _ h1
              have m2 := pj_Rn_mono _ _ _ _ _ _ _ _ h3
              have hrc := pj_Rn_ref _ _ _ _ _ _ _ _ h1
              refine sp_call (pj_body X al n) h1 he C S hok hrc (by omega) (by omega) ?_
              intro α' H' locs' hag hP' hD' hS'
              have els : pj_ll α' b 0 ls = pj_ll α b 0 ls ∧ t.map (pj_cv α' b) = t.map (pj_cv α b) := by
                rcases h2 with h2 | h2
                · rw [hag.2 h2]; exact ⟨rfl, rfl⟩
                · obtain ⟨-, w1, w2, -⟩ := pj_wfa_spec h2
                  exact ⟨pj_ll_agree hag.1 ls 0 w1, pj_map_agree hag.1 t w2⟩
              rw [← els.2, ← List.map_append]
              refine pj_body X al n M nx ls (rc.toList ++ t) hc r hf h3 p l e R s m args below meth c D dA A b _ _ Q α' la H' locs' C ⟨hP', hD', hS', by rw [els.1]; exact S.2.2.2.1, S.2.2.2.2.1, m1.2 S.2.2.2.2.2⟩ (by omega) (by omega) ?_
              intro α2 H2 locs2 la2 pc2 i2 st2 P2 hag2 hdg2 hrn2 hP2 hPP hD2 hS2
              refine W.cs (cells' := cells + (hf.length - h.length)) (slots' := slots + (pj_tot hf - pj_tot h)) (by omega) (by omega) (fin α2 H2 locs2 la2 pc2 i2 st2 P2 ⟨fun k hk => (hag2.1 k (by omega)).trans (hag.1 k hk), fun e9 => (hag2.2 (by omega)).trans (hag.2 (by omega))⟩ hdg2 hrn2 hP2 hPP hD2 hS2)
            · split at hR
              · rename_i dd lo hi offs x t he
                obtain ⟨hx, pt, ht, h3⟩ := hR
                refine sp_sw C hok he hx ht ?_
                exact pj_body X al n M pt ls t h r hf h3 p l e R s m args below meth c D dA A b _ _ Q α la H locs C S hcl hsl fin
              · exact False.elim hR
end CALL
end
section
/-! the frame: a run over a few cells is a run over many, by places. The unknown value (.inr 1000) in an object stands for a field that isn't looked at. -/
def pj_rv (ρ : List Nat) : pj_V → pj_V
  | .inl z => .inl z
  | .inr k => match pj_at ρ k with
    | some j => .inr j
    | none => .inr k
def pj_mv (ρ : List Nat) : pj_V → pj_V → pj_V
  | .inl z, _ => .inl z
  | .inr k, o => bif Nat.beq k 1000 then o else pj_rv ρ (.inr k)
def pj_mf (ρ : List Nat) : List pj_V → List pj_V → List pj_V
  | n :: ns, o :: os => pj_mv ρ n o :: pj_mf ρ ns os
  | _, os => os
def pj_mc (ρ : List Nat) : pj_C → pj_C → pj_C
  | .inl x, _ => .inl x
  | .inr (_, fs), .inr (cj, gs) => .inr (cj, pj_mf ρ fs gs)
  | .inr _, .inl y => .inl y
def pj_gr (ρ0 : List Nat) : List Nat → List pj_C → List pj_C → List pj_C
  | r :: rs, c :: cs, h => match pj_at h r with
    | some o => pj_gr ρ0 rs cs (h.set r (pj_mc ρ0 c o))
    | none => pj_gr ρ0 rs cs h
  | _, _, h => h
/-- the shapes agree -/
def pj_sc : pj_C → pj_C → Bool
  | .inl _, .inl _ => true
  | .inr (ci, fs), .inr (cj, gs) => Nat.beq ci cj && Nat.beq fs.length gs.length
  | _, _ => false
def pj_sh : List Nat → List pj_C → List pj_C → Bool
  | r :: rs, c :: cs, h => (match pj_at h r with
    | some o => pj_sc c o
    | none => false) && (!(rs.contains r) && (Nat.ble r 999 && pj_sh rs cs h))
  | [], [], _ => true
  | _, _, _ => false
theorem pj_sh_len : ∀ {ρ : List Nat} {hl h : List pj_C}, pj_sh ρ hl h = true → ρ.length = hl.length
  | [], [], _, _ => rfl
  | r :: rs, c :: cs, h, hs => by
    simp only [pj_sh, Bool.and_eq_true] at hs
    simp only [List.length_cons, pj_sh_len (ρ := rs) hs.2.2.2]
  | [], _ :: _, _, hs => by cases hs
  | _ :: _, [], _, hs => by cases hs
theorem pj_gr_len (ρ0 : List Nat) : ∀ (rs : List Nat) (cs h : List pj_C), (pj_gr ρ0 rs cs h).length = h.length
  | [], _, _ => by unfold pj_gr; rfl
  | _ :: _, [], _ => by unfold pj_gr; rfl
  | r :: rs, c :: cs, h => by
    unfold pj_gr
    split
    · rw [pj_gr_len ρ0 rs cs, List.length_set]
    · exact pj_gr_len ρ0 rs cs h
theorem pj_gr_out (ρ0 : List Nat) : ∀ (rs : List Nat) (cs h : List pj_C) (k : Nat), k ∉ rs → pj_at (pj_gr ρ0 rs cs h) k = pj_at h k
  | [], _, _, _, _ => by unfold pj_gr; rfl
  | _ :: _, [], _, _, _ => by unfold pj_gr; rfl
  | r :: rs, c :: cs, h, k, hk => by
    have h1 : k ≠ r := fun e => hk (e ▸ List.mem_cons_self)
    have h2 : k ∉ rs := fun e => hk (List.mem_cons_of_mem _ e)
    unfold pj_gr
    split
    · rw [pj_gr_out ρ0 rs cs _ k h2, pj_at_set_ne h1]
    · exact pj_gr_out ρ0 rs cs h k h2
theorem pj_contains {r : Nat} {rs : List Nat} (h : (!(rs.contains r)) = true) : r ∉ rs := by
  intro hm
  rw [Bool.not_eq_true'] at h
  rw [List.contains_iff_mem.mpr hm] at h
  cases h
/-- the cell at a place -/
theorem pj_gr_in (ρ0 : List Nat) : ∀ (rs : List Nat) (cs h g : List pj_C), pj_sh rs cs g = true → (∀ k, k ∈ rs → pj_at h k = pj_at g k) → h.length = g.length → ∀ (i : Nat) (c : pj_C), pj_at cs i = some c → ∃ (j : Nat) (o : pj_C), pj_at rs i = some j ∧ pj_at g j = some o ∧ pj_sc c o = true ∧ j ≤ 999 ∧ pj_at (pj_gr ρ0 rs cs h) j = some (pj_mc ρ0 c o)
  | [], [], _, _, _, _, _, _, _, hc => by cases hc
  | [], _ :: _, _, _, hs, _, _, _, _, _ => by cases hs
  | _ :: _, [], _, _, hs, _, _, _, _, _ => by cases hs
  | r :: rs, c0 :: cs, h, g, hs, hg, hl, i, c, hc => by
    simp only [pj_sh, Bool.and_eq_true] at hs
    obtain ⟨h1, h2, h3, h4⟩ := hs
    have hr := pj_contains h2
    have hg0 := hg r List.mem_cons_self
    cases ho : pj_at g r with
    | none => rw [ho] at h1; cases h1
    | some o =>
      rw [ho] at h1 hg0
      have hstep : pj_gr ρ0 (r :: rs) (c0 :: cs) h = pj_gr ρ0 rs cs (h.set r (pj_mc ρ0 c0 o)) := by
        rw [pj_gr]
        rw [hg0]
      rw [hstep]
      cases i with
      | zero =>
        cases hc
        exact ⟨r, o, rfl, ho, h1, Nat.le_of_ble_eq_true h3, by rw [pj_gr_out ρ0 rs cs _ r hr, pj_at_set_self (pj_at_lt hg0)]⟩
      | succ i =>
        exact pj_gr_in ρ0 rs cs (h.set r (pj_mc ρ0 c0 o)) g h4 (fun k hk => by
          have hne : k ≠ r := fun e => hr (e ▸ hk)
          rw [pj_at_set_ne hne]
          exact hg k (List.mem_cons_of_mem _ hk)) (by rw [List.length_set]; exact hl) i c hc
theorem pj_gr_set (ρ0 : List Nat) : ∀ (rs : List Nat) (cs h g : List pj_C), pj_sh rs cs g = true → (∀ k, k ∈ rs → pj_at h k = pj_at g k) → ∀ (i j : Nat) (c c' o : pj_C), pj_at cs i = some c → pj_at rs i = some j → pj_at g j = some o → pj_gr ρ0 rs (cs.set i c') h = (pj_gr ρ0 rs cs h).set j (pj_mc ρ0 c' o)
  | [], _, _, _, _, _, _, _, _, _, _, _, hj, _ => by cases hj
  | _ :: _, [], _, _, hs, _, _, _, _, _, _, _, _, _ => by cases hs
  | r :: rs, c0 :: cs, h, g, hs, hg, i, j, c, c', o, hc, hj, ho => by
    simp only [pj_sh, Bool.and_eq_true] at hs
    obtain ⟨h1, h2, h3, h4⟩ := hs
    have hr := pj_contains h2
    have hg0 := hg r List.mem_cons_self
    cases ho0 : pj_at g r with
    | none => rw [ho0] at h1; cases h1
    | some o0 =>
      rw [ho0] at hg0
      have hstep : ∀ (d : pj_C) (ds : List pj_C), pj_gr ρ0 (r :: rs) (d :: ds) h = pj_gr ρ0 rs ds (h.set r (pj_mc ρ0 d o0)) := fun d ds => by
        rw [pj_gr]
        rw [hg0]
      cases i with
      | zero =>
        cases hj
        rw [ho0] at ho
        cases ho
        rw [List.set_cons_zero, hstep, hstep]
        have key : ∀ (rs : List Nat) (cs h : List pj_C) (x : pj_C), r ∉ rs → (pj_gr ρ0 rs cs h).set r x = pj_gr ρ0 rs cs (h.set r x) := by
          intro rs
          induction rs with
          | nil => intro cs h x _; unfold pj_gr; rfl
          | cons q qs ih =>
            intro cs h x hq
            cases cs with
            | nil => unfold pj_gr; rfl
            | cons d ds =>
              have e1 : q ≠ r := fun e => hq (e ▸ List.mem_cons_self)
              have e2 : r ∉ qs := fun e => hq (List.mem_cons_of_mem _ e)
              rw [pj_gr, pj_gr, pj_at_set_ne e1]
              split
              · rw [ih ds _ x e2, List.set_comm _ _ e1]
              · rw [ih ds _ x e2]
        rw [key rs cs _ _ hr, List.set_set]
      | succ i =>
        rw [List.set_cons_succ, hstep, hstep]
        exact pj_gr_set ρ0 rs cs (h.set r (pj_mc ρ0 c0 o0)) g h4 (fun k hk => by
          have hne : k ≠ r := fun e => hr (e ▸ hk)
          rw [pj_at_set_ne hne]
          exact hg k (List.mem_cons_of_mem _ hk)) i j c c' o hc hj ho
theorem pj_sh_set : ∀ (rs : List Nat) (cs g : List pj_C), pj_sh rs cs g = true → ∀ (i : Nat) (c c' : pj_C), pj_at cs i = some c → (∀ o, pj_sc c o = true → pj_sc c' o = true) → pj_sh rs (cs.set i c') g = true
  | [], [], _, _, _, _, _, hc, _ => by cases hc
  | [], _ :: _, _, hs, _, _, _, _, _ => by cases hs
  | _ :: _, [], _, hs, _, _, _, _, _ => by cases hs
  | r :: rs, c0 :: cs, g, hs, i, c, c', hc, hcc => by
    simp only [pj_sh, Bool.and_eq_true] at hs
    obtain ⟨h1, h2, h3, h4⟩ := hs
    cases i with
    | zero =>
      cases hc
      simp only [List.set_cons_zero, pj_sh, Bool.and_eq_true]
      refine ⟨?_, h2, h3, h4⟩
      split
      · rename_i o ho
        rw [ho] at h1
        exact hcc o h1
      · rename_i ho
        rw [ho] at h1
        cases h1
    | succ i =>
      simp only [List.set_cons_succ, pj_sh, Bool.and_eq_true]
      exact ⟨h1, h2, h3, pj_sh_set rs cs g h4 i c c' hc hcc⟩
theorem pj_mf_at (ρ : List Nat) : ∀ (fs gs : List pj_V) (b : Nat) (v : pj_V), fs.length = gs.length → pj_at fs b = some v → pj_ok v = true → pj_at (pj_mf ρ fs gs) b = some (pj_rv ρ v)
  | f :: fs, g :: gs, 0, v, _, hv, ho => by
    cases hv
    rw [pj_mf]
    show some (pj_mv ρ f g) = some (pj_rv ρ f)
    cases f with
    | inl z => rfl
    | inr k =>
      have hk : Nat.beq k 1000 = false := by
        simp only [pj_ok, Bool.or_eq_true] at ho
        rcases ho with ho | ho
        · have := Nat.le_of_ble_eq_true ho
          cases hz : Nat.beq k 1000 with
          | false => rfl
          | true => have := Nat.eq_of_beq_eq_true hz; omega
        · have := Nat.eq_of_beq_eq_true ho
          subst this
          rfl
      show some (bif Nat.beq k 1000 then g else pj_rv ρ (.inr k)) = _
      rw [hk]
      rfl
  | f :: fs, g :: gs, b + 1, v, hl, hv, ho => by
    rw [pj_mf]
    exact pj_mf_at ρ fs gs b v (by simpa using hl) hv ho
  | [], _, _, _, _, hv, _ => by cases hv
  | _ :: _, [], _, _, hl, _, _ => by cases hl
theorem pj_mf_len (ρ : List Nat) : ∀ (fs gs : List pj_V), fs.length = gs.length → (pj_mf ρ fs gs).length = gs.length
  | [], [], _ => rfl
  | f :: fs, g :: gs, hl => by
    rw [pj_mf, List.length_cons, List.length_cons, pj_mf_len ρ fs gs (by simpa using hl)]
  | [], _ :: _, hl => by cases hl
  | _ :: _, [], hl => by cases hl
theorem pj_mf_set (ρ : List Nat) : ∀ (fs gs : List pj_V) (b : Nat) (v : pj_V), fs.length = gs.length → b < fs.length → pj_ok v = true → pj_mf ρ (fs.set b v) gs = (pj_mf ρ fs gs).set b (pj_rv ρ v)
  | f :: fs, g :: gs, 0, v, _, _, ho => by
    have := pj_mf_at ρ [v] [g] 0 v rfl rfl ho
    rw [pj_mf] at this
    rw [List.set_cons_zero, pj_mf, pj_mf, List.set_cons_zero]
    have h2 : pj_mv ρ v g = pj_rv ρ v := Option.some.inj this
    rw [h2]
  | f :: fs, g :: gs, b + 1, v, hl, hb, ho => by
    rw [List.set_cons_succ, pj_mf, pj_mf, List.set_cons_succ, pj_mf_set ρ fs gs b v (by simpa using hl) (by simpa using hb) ho]
  | [], _, _, _, _, hb, _ => by cases hb
  | _ :: _, [], _, _, hl, _, _ => by cases hl
theorem pj_at_map2 (ρ : List Nat) : ∀ (l : List pj_V) (k : Nat), pj_at (l.map (pj_rv ρ)) k = (pj_at l k).map (pj_rv ρ)
  | [], _ => rfl
  | _ :: _, 0 => rfl
  | _ :: vs, k + 1 => pj_at_map2 ρ vs k
theorem pj_rv_ok {ρ : List Nat} (hρ : ∀ (i j : Nat), pj_at ρ i = some j → j ≤ 999) {v : pj_V} (h : pj_ok v = true) : pj_ok (pj_rv ρ v) = true := by
  cases v with
  | inl z => rfl
  | inr k =>
    simp only [pj_rv]
    split
    · rename_i j hj
      have := hρ k j hj
      simp only [pj_ok, Bool.or_eq_true]
      exact Or.inl (Nat.ble_eq_true_of_le this)
    · exact h
theorem pj_rv_u {ρ : List Nat} (hρ : ρ.length ≤ 1000) {k : Nat} (hk : 1000 ≤ k) : pj_rv ρ (.inr k) = .inr k := by
  simp only [pj_rv]
  split
  · rename_i j hj
    have := pj_at_lt hj
    omega
  · rfl
theorem pj_sh_bd : ∀ {rs : List Nat} {cs g : List pj_C}, pj_sh rs cs g = true → ∀ (i j : Nat), pj_at rs i = some j → j ≤ 999
  | [], _, _, _, _, _, hj => by cases hj
  | _ :: _, [], _, hs, _, _, _ => by cases hs
  | r :: rs, c0 :: cs, g, hs, i, j, hj => by
    simp only [pj_sh, Bool.and_eq_true] at hs
    cases i with
    | zero => cases hj; exact Nat.le_of_ble_eq_true hs.2.2.1
    | succ i => exact pj_sh_bd (rs := rs) hs.2.2.2 i j hj
end
section
/-! the frame, instruction by instruction, and over a whole run -/
section FR
variable {X : pj_X} {ρ : List Nat} {h0 : List pj_C}
/-- the cell of a place: an array is the same, an object's fields are those that are known -/
theorem pj_gr_cell {cs : List pj_C} (hs : pj_sh ρ cs h0 = true) {i : Nat} {c : pj_C} (hc : pj_at cs i = some c) : ∃ (j : Nat) (o : pj_C), pj_rv ρ (.inr i) = .inr j ∧ pj_at ρ i = some j ∧ pj_at h0 j = some o ∧ pj_sc c o = true ∧ j ≤ 999 ∧ pj_at (pj_gr ρ ρ cs h0) j = some (pj_mc ρ c o) := by
  obtain ⟨j, o, h1, h2, h3, h4, h5⟩ := pj_gr_in ρ ρ cs h0 h0 hs (fun _ _ => rfl) rfl i c hc
  exact ⟨j, o, by simp only [pj_rv, h1], h1, h2, h3, h4, h5⟩
theorem pj_gr_cell_set {cs : List pj_C} (hs : pj_sh ρ cs h0 = true) {i j : Nat} {c o : pj_C} (c' : pj_C) (hc : pj_at cs i = some c) (hj : pj_at ρ i = some j) (ho : pj_at h0 j = some o) : pj_gr ρ ρ (cs.set i c') h0 = (pj_gr ρ ρ cs h0).set j (pj_mc ρ c' o) := pj_gr_set ρ ρ cs h0 h0 hs (fun _ _ => rfl) i j c c' o hc hj ho
theorem pj_mc_inl (x : Nat × Nat × (Nat → Int)) (o : pj_C) : pj_mc ρ (.inl x) o = .inl x := by cases o <;> rfl
theorem pj_sc_inr {ci : Nat} {fs : List pj_V} {o : pj_C} (h : pj_sc (.inr (ci, fs)) o = true) : ∃ gs : List pj_V, o = .inr (ci, gs) ∧ fs.length = gs.length := by
  cases o with
  | inl y => cases h
  | inr y =>
    obtain ⟨cj, gs⟩ := y
    simp only [pj_sc, Bool.and_eq_true] at h
    have := Nat.eq_of_beq_eq_true h.1
    subst this
    exact ⟨gs, rfl, Nat.eq_of_beq_eq_true h.2⟩
theorem pj_sc_inl {x y : Nat × Nat × (Nat → Int)} (o : pj_C) (h : pj_sc (.inl x) o = true) : pj_sc (.inl y) o = true := by
  cases o <;> simp_all [pj_sc]
theorem pj_sc_inr2 {ci : Nat} {fs fs' : List pj_V} (hl : fs'.length = fs.length) (o : pj_C) (h : pj_sc (.inr (ci, fs)) o = true) : pj_sc (.inr (ci, fs')) o = true := by
  cases o with
  | inl y => cases h
  | inr y => simp only [pj_sc] at h ⊢; rw [hl]; exact h
theorem pj_rvl (z : Int) : pj_rv ρ (.inl z) = .inl z := rfl
theorem pj_rv_n2 (hb : ∀ (i j : Nat), pj_at ρ i = some j → j ≤ 999) {v : pj_V} (h : pj_n2 v = true) : pj_n2 (pj_rv ρ v) = true := by
  cases v with
  | inl z => rfl
  | inr r =>
    simp only [pj_rv]
    split
    · rename_i j hj
      have := hb r j hj
      exact Nat.ble_eq_true_of_le (by omega)
    · exact h
theorem pj_rv_nl (hb : ∀ (i j : Nat), pj_at ρ i = some j → j ≤ 999) {ls : List pj_V} : ∀ {k : Nat}, pj_nl ls k = true → pj_nl (ls.map (pj_rv ρ)) k = true
  | 0, _ => rfl
  | k + 1, h => by
    simp only [pj_nl, pj_at_map2] at h ⊢
    cases hz : pj_at ls k with
    | none => rfl
    | some v =>
      rw [hz] at h
      cases v with
      | inl z => rfl
      | inr r =>
        have h9 := pj_rv_n2 hb (v := .inr r) h
        cases hw : pj_rv ρ (.inr r) with
        | inl z => simp only [Option.map_some, hw]
        | inr r' => rw [hw] at h9; simp only [Option.map_some, hw]; exact h9
theorem pj_rv_wd : ∀ (l : List pj_V), pj_wd (l.map (pj_rv ρ)) = pj_wd l
  | [] => rfl
  | .inl z :: t => by simp only [List.map_cons, pj_rv, pj_wd, pj_rv_wd t]
  | .inr r :: t => by
    simp only [List.map_cons, pj_wd]
    cases hw : pj_rv ρ (.inr r) with
    | inl z => simp only [pj_rv] at hw; split at hw <;> cases hw
    | inr r' => simp only [pj_wd, pj_rv_wd t]
def pj_bd (ρ : List Nat) : Prop := ρ.length ≤ 1000 ∧ ∀ (i j : Nat), pj_at ρ i = some j → j ≤ 999
theorem pj_rv_ok2 (hb : pj_bd ρ) {r : Nat} (h : pj_ok (.inr r) = true) : ∃ r', pj_rv ρ (.inr r) = .inr r' ∧ pj_ok (.inr r') = true := by
  have h1 := pj_rv_ok hb.2 h
  cases hz : pj_rv ρ (.inr r) with
  | inl z => simp only [pj_rv] at hz; split at hz <;> cases hz
  | inr r' => rw [hz] at h1; exact ⟨r', rfl, h1⟩
theorem pj_rv_1002 (hb : pj_bd ρ) : pj_rv ρ (.inr 1002) = .inr 1002 := pj_rv_u hb.1 (by omega)
theorem pj_rv_ne1002 (hb : pj_bd ρ) {r : Nat} (hr : Nat.beq r 1002 = false) : ∃ r', pj_rv ρ (.inr r) = .inr r' ∧ Nat.beq r' 1002 = false := by
  simp only [pj_rv]
  split
  · rename_i j hj
    refine ⟨j, rfl, ?_⟩
    have := hb.2 r j hj
    cases hz : Nat.beq j 1002 with
    | false => rfl
    | true => have := Nat.eq_of_beq_eq_true hz; omega
  · exact ⟨r, rfl, hr⟩
theorem pj_f_ldi {nx k pc' : Nat} {ls st ls' st' : List pj_V} {h g h' : List pj_C} {P : Prop} (he : pj_ldi nx ls st h k = some (P, pc', ls', st', h')) : h' = h ∧ pj_ldi nx (ls.map (pj_rv ρ)) (st.map (pj_rv ρ)) g k = some (P, pc', ls'.map (pj_rv ρ), st'.map (pj_rv ρ), g) := by
  unfold pj_ldi at he ⊢
  split at he
  · rename_i z hz
    cases he
    rw [pj_at_map2, hz]
    exact ⟨rfl, rfl⟩
  · cases he
theorem pj_f_lda (hb : pj_bd ρ) {nx k pc' : Nat} {ls st ls' st' : List pj_V} {h g h' : List pj_C} {P : Prop} (he : pj_lda nx ls st h k = some (P, pc', ls', st', h')) : h' = h ∧ pj_lda nx (ls.map (pj_rv ρ)) (st.map (pj_rv ρ)) g k = some (P, pc', ls'.map (pj_rv ρ), st'.map (pj_rv ρ), g) := by
  unfold pj_lda at he ⊢
  split at he
  · rename_i r hz
    obtain ⟨ho, he⟩ := pj_cond he
    cases he
    obtain ⟨r', e1, e2⟩ := pj_rv_ok2 hb ho
    rw [pj_at_map2, hz]
    simp only [Option.map_some, List.map_cons, e1, e2, cond_true]
    exact ⟨trivial, trivial⟩
  · cases he
theorem pj_f_sti (hb : pj_bd ρ) {nx k pc' : Nat} {ls st ls' st' : List pj_V} {h g h' : List pj_C} {P : Prop} (he : pj_sti nx ls st h k = some (P, pc', ls', st', h')) : h' = h ∧ pj_sti nx (ls.map (pj_rv ρ)) (st.map (pj_rv ρ)) g k = some (P, pc', ls'.map (pj_rv ρ), st'.map (pj_rv ρ), g) := by
  unfold pj_sti at he ⊢
  split at he
  · obtain ⟨ho, he⟩ := pj_cond he
    rw [Bool.and_eq_true] at ho
    cases he
    refine ⟨rfl, ?_⟩
    simp only [List.map_cons, pj_rv, List.length_map, ho.1, pj_rv_nl hb.2 ho.2, Bool.and_self, cond_true, List.map_set]
  · cases he
theorem pj_f_sta (hb : pj_bd ρ) {nx k pc' : Nat} {ls st ls' st' : List pj_V} {h g h' : List pj_C} {P : Prop} (he : pj_sta nx ls st h k = some (P, pc', ls', st', h')) : h' = h ∧ pj_sta nx (ls.map (pj_rv ρ)) (st.map (pj_rv ρ)) g k = some (P, pc', ls'.map (pj_rv ρ), st'.map (pj_rv ρ), g) := by
  unfold pj_sta at he ⊢
  split at he
  · obtain ⟨ho, he⟩ := pj_cond he
    rw [Bool.and_eq_true, Bool.and_eq_true] at ho
    cases he
    obtain ⟨r', e1, e2⟩ := pj_rv_ok2 hb ho.1.1
    refine ⟨rfl, ?_⟩
    simp only [List.map_cons, e1, List.length_map, e2, ho.1.2, pj_rv_nl hb.2 ho.2, Bool.and_self, cond_true, List.map_set]
  · cases he
theorem pj_f_b2 {nx pc' : Nat} {ls st ls' st' : List pj_V} {h g h' : List pj_C} {P : Prop} {q : Int → Int → Prop} {f : Int → Int → Int} (he : pj_b2 nx ls st h q f = some (P, pc', ls', st', h')) : h' = h ∧ pj_b2 nx (ls.map (pj_rv ρ)) (st.map (pj_rv ρ)) g q f = some (P, pc', ls'.map (pj_rv ρ), st'.map (pj_rv ρ), g) := by
  unfold pj_b2 at he ⊢
  split at he
  · cases he
    exact ⟨rfl, rfl⟩
  · cases he
set_option maxHeartbeats 1000000 in
theorem pj_s1_frame (hb : pj_bd ρ) {i : Instr} {nx a b c pc' : Nat} {ls st ls' st' : List pj_V} {h h' : List pj_C} {P : Prop} (hs : pj_sh ρ h h0 = true) (he : pj_s1 X false i nx a b c ls st h = some (P, pc', ls', st', h')) :
    pj_sh ρ h' h0 = true ∧ pj_s1 X false i nx a b c (ls.map (pj_rv ρ)) (st.map (pj_rv ρ)) (pj_gr ρ ρ h h0) = some (P, pc', ls'.map (pj_rv ρ), st'.map (pj_rv ρ), pj_gr ρ ρ h' h0) := by
  have fin : ∀ {β : Option pj_R}, h' = h ∧ β = some (P, pc', ls'.map (pj_rv ρ), st'.map (pj_rv ρ), pj_gr ρ ρ h h0) → pj_sh ρ h' h0 = true ∧ β = some (P, pc', ls'.map (pj_rv ρ), st'.map (pj_rv ρ), pj_gr ρ ρ h' h0) := by
    rintro β ⟨rfl, h9⟩
    exact ⟨hs, h9⟩
  unfold pj_s1 at he
  split at he
  case h_1 => exact fin (pj_f_ldi he)
  case h_2 => exact fin (pj_f_ldi he)
  case h_3 => exact fin (pj_f_lda hb he)
  case h_4 => exact fin (pj_f_lda hb he)
  case h_5 => exact fin (pj_f_sti hb he)
  case h_6 => exact fin (pj_f_sti hb he)
  case h_7 => exact fin (pj_f_sta hb he)
  case h_8 => exact fin (pj_f_sta hb he)
  case h_9 => cases he; exact ⟨hs, rfl⟩
  case h_10 => cases he; exact ⟨hs, rfl⟩
  case h_11 => cases he; exact ⟨hs, rfl⟩
  case h_12 =>
    split at he
    · rename_i hx
      obtain ⟨hnl, he⟩ := pj_cond he
      cases he
      refine ⟨hs, ?_⟩
      simp only [pj_s1, pj_at_map2, hx, Option.map_some, pj_rvl, List.map_set, pj_rv_nl hb.2 hnl, cond_true]
    · cases he
  case h_13 => exact fin (pj_f_b2 he)
  case h_14 => exact fin (pj_f_b2 he)
  case h_15 => exact fin (pj_f_b2 he)
  case h_16 => exact fin (pj_f_b2 he)
  case h_17 => exact fin (pj_f_b2 he)
  case h_18 => exact fin (pj_f_b2 he)
  case h_19 => exact fin (pj_f_b2 he)
  case h_20 => exact fin (pj_f_b2 he)
  case h_21 => exact fin (pj_f_b2 he)
  case h_22 => split at he <;> cases he; exact ⟨hs, rfl⟩
  case h_23 =>
    split at he
    · obtain ⟨hc, he⟩ := pj_cond he
      cases he
      refine ⟨hs, ?_⟩
      simp only [pj_s1, List.map_cons, pj_rv_n2 hb.2 hc, cond_true]
    · cases he
  case h_24 =>
    split at he
    · obtain ⟨hc, he⟩ := pj_cond he
      rw [Bool.and_eq_true] at hc
      cases he
      refine ⟨hs, ?_⟩
      simp only [pj_s1, List.map_cons, pj_rv_n2 hb.2 hc.1, pj_rv_n2 hb.2 hc.2, Bool.and_self, cond_true]
    · cases he
  case h_25 =>
    split at he
    · obtain ⟨hc, he⟩ := pj_cond he
      cases he
      refine ⟨hs, ?_⟩
      simp only [pj_s1, List.map_cons, pj_rv_n2 hb.2 hc, cond_true]
    · cases he
  case h_26 => cases he; exact ⟨hs, rfl⟩
  case h_27 =>
    split at he
    · split at he
      · rename_i ci fs hq
        split at he
        · rename_i v hv
          obtain ⟨hc, he⟩ := pj_cond he
          rw [Bool.and_eq_true] at hc
          cases he
          obtain ⟨j, o, e1, e2, e3, e4, e5, e6⟩ := pj_gr_cell hs hq
          obtain ⟨gs, rfl, hl⟩ := pj_sc_inr e4
          refine ⟨hs, ?_⟩
          simp only [pj_s1, List.map_cons, pj_rvl, e1, e6, pj_mc, pj_mf_at ρ fs gs _ _ hl hv hc.2, hc.1, pj_rv_ok hb.2 hc.2, Bool.and_true, cond_true]
        · cases he
      · cases he
    · cases he
  case h_28 =>
    split at he
    · split at he
      · rename_i ci fs hq
        obtain ⟨hc, he⟩ := pj_cond he
        have hc0 := hc
        simp only [Bool.and_eq_true] at hc
        cases he
        obtain ⟨j, o, e1, e2, e3, e4, e5, e6⟩ := pj_gr_cell hs hq
        obtain ⟨gs, rfl, hl⟩ := pj_sc_inr e4
        refine ⟨pj_sh_set ρ h h0 hs _ _ _ hq (fun o => pj_sc_inr2 (by rw [List.length_set]) o), ?_⟩
        rw [pj_gr_cell_set hs _ hq e2 e3]
        simp only [pj_s1, List.map_cons, pj_rvl, e1, e6, pj_mc, pj_rvl, pj_mf_len ρ fs gs hl, ← hl, hc0, cond_true, pj_mf_set ρ fs gs _ (.inl _) hl (Nat.le_of_ble_eq_true hc.2.2) rfl]
      · cases he
    · split at he
      · rename_i ci fs hq
        obtain ⟨hc, he⟩ := pj_cond he
        simp only [Bool.and_eq_true] at hc
        cases he
        obtain ⟨j, o, e1, e2, e3, e4, e5, e6⟩ := pj_gr_cell hs hq
        obtain ⟨gs, rfl, hl⟩ := pj_sc_inr e4
        obtain ⟨v', f1, f2⟩ := pj_rv_ok2 hb hc.2.2.2
        refine ⟨pj_sh_set ρ h h0 hs _ _ _ hq (fun o => pj_sc_inr2 (by rw [List.length_set]) o), ?_⟩
        rw [pj_gr_cell_set hs _ hq e2 e3]
        simp only [pj_s1, List.map_cons, pj_rvl, e1, f1, e6, pj_mc, pj_mf_len ρ fs gs hl, ← hl, hc.1, hc.2.1, hc.2.2.1, f2, Bool.and_true, cond_true, pj_mf_set ρ fs gs _ (.inr _) hl (Nat.le_of_ble_eq_true hc.2.2.1) hc.2.2.2]
      · cases he
    · cases he
  case h_29 =>
    split at he
    · rename_i j r t
      cases hr : Nat.beq r 1002 with
      | true =>
        rw [hr] at he
        have := Nat.eq_of_beq_eq_true hr
        subst this
        cases he
        refine ⟨hs, ?_⟩
        simp only [pj_s1, List.map_cons, pj_rvl, pj_rv_1002 hb]
        try rfl
      | false =>
        rw [hr] at he
        simp only [cond_false] at he
        split at he
        · rename_i hq
          cases he
          obtain ⟨j', o, e1, e2, e3, e4, e5, e6⟩ := pj_gr_cell hs hq
          obtain ⟨r', f1, f2⟩ := pj_rv_ne1002 hb hr
          rw [e1] at f1
          cases f1
          refine ⟨hs, ?_⟩
          simp only [pj_s1, List.map_cons, pj_rvl, e1, f2, e6, pj_mc_inl, cond_false]
          try rfl
        · cases he
    · cases he
  case h_30 =>
    split at he
    · split at he
      · rename_i hq
        cases he
        obtain ⟨j', o, e1, e2, e3, e4, e5, e6⟩ := pj_gr_cell hs hq
        refine ⟨hs, ?_⟩
        simp only [pj_s1, List.map_cons, pj_rvl, e1, e6, pj_mc_inl]
        try rfl
      · cases he
    · cases he
  case h_31 =>
    split at he
    · split at he
      · rename_i hq
        cases he
        obtain ⟨j', o, e1, e2, e3, e4, e5, e6⟩ := pj_gr_cell hs hq
        refine ⟨pj_sh_set ρ h h0 hs _ _ _ hq (fun o => pj_sc_inl o), ?_⟩
        rw [pj_gr_cell_set hs _ hq e2 e3]
        simp only [pj_s1, List.map_cons, pj_rvl, e1, e6, pj_mc_inl]
        try rfl
      · cases he
    · cases he
  case h_32 =>
    split at he
    · split at he
      · rename_i hq
        cases he
        obtain ⟨j', o, e1, e2, e3, e4, e5, e6⟩ := pj_gr_cell hs hq
        refine ⟨pj_sh_set ρ h h0 hs _ _ _ hq (fun o => pj_sc_inl o), ?_⟩
        rw [pj_gr_cell_set hs _ hq e2 e3]
        simp only [pj_s1, List.map_cons, pj_rvl, e1, e6, pj_mc_inl]
        try rfl
      · cases he
    · cases he
  case h_33 =>
    split at he
    · rename_i r t
      cases hr : Nat.beq r 1002 with
      | true =>
        rw [hr] at he
        have := Nat.eq_of_beq_eq_true hr
        subst this
        cases he
        refine ⟨hs, ?_⟩
        simp only [pj_s1, List.map_cons, pj_rvl, pj_rv_1002 hb]
        try rfl
      | false =>
        rw [hr] at he
        simp only [cond_false] at he
        split at he
        · rename_i hq
          obtain ⟨hc, he⟩ := pj_cond he
          cases he
          obtain ⟨j', o, e1, e2, e3, e4, e5, e6⟩ := pj_gr_cell hs hq
          obtain ⟨r', f1, f2⟩ := pj_rv_ne1002 hb hr
          rw [e1] at f1
          cases f1
          refine ⟨hs, ?_⟩
          simp only [pj_s1, List.map_cons, pj_rvl, e1, f2, e6, pj_mc_inl, cond_false, hc, cond_true]
          try rfl
        · cases he
    · cases he
  case h_34 => cases he
  case h_35 => split at he <;> cases he
  case h_36 =>
    split at he
    · split at he
      · obtain ⟨hc, he⟩ := pj_cond he
        rw [Bool.and_eq_true] at hc
        cases he
        obtain ⟨r', f1, f2⟩ := pj_rv_ok2 hb hc.1
        refine ⟨hs, ?_⟩
        simp only [pj_s1, List.map_cons, pj_rvl, f1, f2, pj_rv_wd, hc.2, Bool.and_true, cond_true]
      · cases he
    · cases he
  case h_37 =>
    split at he
    · split at he
      · split at he
        · rename_i hq0 hq1
          obtain ⟨hc, he⟩ := pj_cond he
          cases he
          obtain ⟨j0, o0, e1, e2, e3, e4, e5, e6⟩ := pj_gr_cell hs hq0
          obtain ⟨j1, o1, d1, d2, d3, d4, d5, d6⟩ := pj_gr_cell hs hq1
          refine ⟨pj_sh_set ρ h h0 hs _ _ _ hq1 (fun o => pj_sc_inl o), ?_⟩
          rw [pj_gr_cell_set hs _ hq1 d2 d3]
          simp only [pj_s1, List.map_cons, pj_rvl, e1, d1, e6, d6, pj_mc_inl, pj_rv_wd, hc, cond_true]
          try rfl
        · cases he
      · cases he
    · cases he
  case h_38 => split at he <;> cases he; exact ⟨hs, rfl⟩
  case h_39 => cases he; exact ⟨hs, rfl⟩
  all_goals cases he
theorem pj_br_frame {i : Instr} {nx a pt pf : Nat} {st t : List pj_V} {P k : Prop} (he : pj_br i nx a st = some (P, k, pt, pf, t)) : pj_br i nx a (st.map (pj_rv ρ)) = some (P, k, pt, pf, t.map (pj_rv ρ)) := by
  rw [pj_br_eq] at he ⊢
  unfold pj_brO at he
  split at he
  · split at he
    · cases he; rfl
    · cases he
  · split at he
    · cases he; rfl
    · cases he
  · cases he
theorem pj_s1_none {h g : List pj_C} {i : Instr} {nx a b c : Nat} {ls st ls2 st2 : List pj_V} (hi : (match i with | .ifCond _ _ => true | .if_icmp _ _ => true | .ireturn => true | .areturn => true | .lreturn => true | .return_ => true | .tableswitch _ _ _ _ => true | .invokevirtual _ => true | _ => false) = true) : pj_s1 X false i nx a b c ls st h = none := by
  cases i <;> first | rfl | cases hi
end FR
end
section
/-! the frame over a whole run; more fuel; what may be said of a run: WP -/
section FR3
variable {X : pj_X} {ρ : List Nat} {h0 : List pj_C}
def pj_bk1 : Instr → Bool
  | .ifCond _ _ => true
  | .if_icmp _ _ => true
  | .ireturn => true
  | .areturn => true
  | .lreturn => true
  | .return_ => true
  | .tableswitch _ _ _ _ => true
  | .invokevirtual _ => true
  | _ => false
theorem pj_s1_none1 {al : Bool} {g : List pj_C} {i : Instr} {nx a b c : Nat} {ls2 st2 : List pj_V} (hi : pj_bk1 i = true) : pj_s1 X al i nx a b c ls2 st2 g = none := by
  cases i <;> first | rfl | cases hi
theorem pj_br_k {i : Instr} {nx a : Nat} {st : List pj_V} {q} (he : pj_br i nx a st = some q) : pj_bk1 i = true := by
  rw [pj_br_eq] at he
  unfold pj_brO at he
  split at he
  · rfl
  · rfl
  · cases he
theorem pj_rn_k {i : Instr} {rt : Nat} {st : List pj_V} {q} (he : pj_rn rt i st = some q) : pj_bk1 i = true ∧ ∀ nx a st2, pj_br i nx a st2 = none := by
  unfold pj_rn at he
  split at he
  · exact ⟨rfl, fun _ _ _ => rfl⟩
  · exact ⟨rfl, fun _ _ _ => rfl⟩
  · exact ⟨rfl, fun _ _ _ => rfl⟩
  · exact ⟨rfl, fun _ _ _ => rfl⟩
  · cases he
theorem pj_sw_k {i : Instr} {st : List pj_V} {q} (he : pj_sw i st = some q) : pj_bk1 i = true ∧ (∀ nx a st2, pj_br i nx a st2 = none) ∧ (∀ rt st2, pj_rn rt i st2 = none) ∧ (∀ a b st2 h2, pj_cl i a b st2 h2 = none) := by
  unfold pj_sw at he
  split at he
  · refine ⟨rfl, fun _ _ _ => rfl, fun _ _ => rfl, fun a b st2 h2 => ?_⟩
    unfold pj_cl
    split <;> rfl
  · cases he
theorem pj_cl_k {al : Bool} {i : Instr} {a b : Nat} {st : List pj_V} {h : List pj_C} {q} (he : pj_cl i a b st h = some q) : (∀ nx c ls2 st2 g, pj_s1 X al i nx a b c ls2 st2 g = none) ∧ (∀ nx st2, pj_br i nx a st2 = none) ∧ (∀ rt st2, pj_rn rt i st2 = none) := by
  unfold pj_cl at he
  split at he
  · split at he
    · exact ⟨fun _ _ _ _ _ => rfl, fun _ _ => rfl, fun _ _ => rfl⟩
    · exact ⟨fun _ _ _ _ _ => rfl, fun _ _ => rfl, fun _ _ => rfl⟩
    · exact ⟨fun _ _ _ _ _ => rfl, fun _ _ => rfl, fun _ _ => rfl⟩
    · cases he
  · cases he
theorem pj_rn_frame (hb : pj_bd ρ) {i : Instr} {rt : Nat} {st : List pj_V} {P : Prop} {v : Option pj_V} (he : pj_rn rt i st = some (P, v)) (hP : P) : pj_rn rt i (st.map (pj_rv ρ)) = some (P, v.map (pj_rv ρ)) := by
  unfold pj_rn at he
  split at he
  · split at he
    · cases he; rfl
    · cases he
  · split at he
    · cases he; rfl
    · cases he; rfl
    · cases he
  · split at he
    · rename_i r
      obtain ⟨hc, he⟩ := pj_cond he
      cases he
      obtain ⟨r', f1, f2⟩ : ∃ r', pj_rv ρ (.inr r) = .inr r' ∧ Nat.ble r' 999 = true := by
        simp only [pj_rv]
        split
        · rename_i j hj
          exact ⟨j, rfl, Nat.ble_eq_true_of_le (hb.2 r j hj)⟩
        · exact ⟨r, rfl, hc⟩
      simp only [List.map_cons, List.map_nil, f1, Option.map_some]
      show (bif Nat.ble r' 999 then _ else none) = _
      rw [f2]
      rfl
    · cases he
  · split at he
    · cases he
      have hP : 2000 ≤ _ := hP
      simp only [List.map_cons, List.map_nil, Option.map_some, pj_rv_u hb.1 (Nat.le_trans (by omega) hP)]
      rfl
    · cases he
  · cases he
theorem pj_rc_frame (hb : pj_bd ρ) {kd ci : Nat} {as : List pj_V} {h : List pj_C} (hs : pj_sh ρ h h0 = true) (he : pj_rc kd ci as h = true) : pj_rc kd ci (as.map (pj_rv ρ)) (pj_gr ρ ρ h h0) = true := by
  unfold pj_rc at he ⊢
  split at he
  · rfl
  · split at he
    · rename_i r t
      split at he
      · rename_i hq
        obtain ⟨j, o, e1, e2, e3, e4, e5, e6⟩ := pj_gr_cell hs hq
        obtain ⟨gs, rfl, hl⟩ := pj_sc_inr e4
        simp only [List.map_cons, e1, e6, pj_mc]
        exact he
      · cases he
    · cases he
  · split at he
    · rename_i r t
      simp only [List.map_cons, pj_rv]
      cases hj : pj_at ρ r with
      | none => exact he
      | some j => exact Nat.ble_eq_true_of_le (hb.2 r j hj)
    · cases he
theorem pj_all_n2 (hb : pj_bd ρ) {l : List pj_V} (h : l.all pj_n2 = true) : (l.map (pj_rv ρ)).all pj_n2 = true := by
  rw [List.all_map, List.all_eq_true]
  intro v hv
  exact pj_rv_n2 hb.2 (List.all_eq_true.mp h v hv)
theorem pj_cl_frame (hb : pj_bd ρ) {i : Instr} {a b M' : Nat} {st as t : List pj_V} {h : List pj_C} (hs : pj_sh ρ h h0 = true) (he : pj_cl i a b st h = some (M', as, t)) : pj_cl i a b (st.map (pj_rv ρ)) (pj_gr ρ ρ h h0) = some (M', as.map (pj_rv ρ), t.map (pj_rv ρ)) := by
  unfold pj_cl at he
  split at he
  · split at he
    · obtain ⟨hc, he⟩ := pj_cond he
      have hc2 := hc
      simp only [Bool.and_eq_true] at hc2
      cases he
      have h8 := pj_all_n2 hb hc2.2.2
      rw [hc2.2.2] at hc
      simp only [pj_cl, ← List.map_drop, ← List.map_take, ← List.map_reverse, List.length_map, pj_rv_wd, h8]
      rw [hc]
      rfl
    · obtain ⟨hc, he⟩ := pj_cond he
      have hc2 := hc
      simp only [Bool.and_eq_true] at hc2
      cases he
      have h9 := pj_rc_frame hb hs hc2.1.1.2
      have h8 := pj_all_n2 hb hc2.2.2
      rw [hc2.1.1.2, hc2.2.2] at hc
      simp only [pj_cl, ← List.map_drop, ← List.map_take, ← List.map_reverse, List.length_map, pj_rv_wd, h8, h9]
      rw [hc]
      rfl
    · obtain ⟨hc, he⟩ := pj_cond he
      have hc2 := hc
      simp only [Bool.and_eq_true] at hc2
      cases he
      have h9 := pj_rc_frame hb hs hc2.1.1.2
      have h8 := pj_all_n2 hb hc2.2.2
      rw [hc2.1.1.2, hc2.2.2] at hc
      simp only [pj_cl, ← List.map_drop, ← List.map_take, ← List.map_reverse, List.length_map, pj_rv_wd, h8, h9]
      rw [hc]
      rfl
    · cases he
  · cases he
theorem pj_rep_map (hb : pj_bd ρ) : ∀ n, (pj_rep n).map (pj_rv ρ) = pj_rep n
  | 0 => rfl
  | n + 1 => by
    show pj_rv ρ (.inr 1000) :: (pj_rep n).map (pj_rv ρ) = _
    rw [pj_rep_map hb n, pj_rv_u hb.1 (Nat.le_refl _)]
    rfl
theorem pj_sw_frame {i : Instr} {st t : List pj_V} {dd lo hi x : Int} {offs : Array Int} (he : pj_sw i st = some (dd, lo, hi, offs, x, t)) : pj_sw i (st.map (pj_rv ρ)) = some (dd, lo, hi, offs, x, t.map (pj_rv ρ)) := by
  unfold pj_sw at he
  split at he
  · split at he
    · cases he; rfl
    · cases he
  · cases he
theorem pj_frame (hb : pj_bd ρ) : ∀ (n M pc : Nat) (ls st : List pj_V) (h : List pj_C) (r : Option pj_V) (hf : List pj_C), pj_Rn X false n M pc ls st h r hf → pj_sh ρ h h0 = true → pj_sh ρ hf h0 = true ∧ pj_Rn X false n M pc (ls.map (pj_rv ρ)) (st.map (pj_rv ρ)) (pj_gr ρ ρ h h0) (r.map (pj_rv ρ)) (pj_gr ρ ρ hf h0)
  | 0, _, _, _, _, _, _, _, hR, _ => False.elim hR
  | n + 1, M, pc, ls, st, h, r, hf, hR, hs => by
    unfold pj_Rn at hR ⊢
    split at hR
    · exact False.elim hR
    · split at hR
      · rename_i he
        obtain ⟨g1, g2⟩ := pj_s1_frame hb hs he
        obtain ⟨f1, f2⟩ := pj_frame hb n _ _ _ _ _ _ _ hR.2 g1
        refine ⟨f1, ?_⟩
        simp only [g2]
        exact ⟨hR.1, f2⟩
      · split at hR
        · rename_i P k pt pf t he
          have e1 := pj_br_frame (ρ := ρ) he
          have e2 := pj_br_k he
          simp only [pj_s1_none1 e2, e1]
          by_cases hk : k
          · obtain ⟨f1, f2⟩ := pj_frame hb n _ _ _ _ _ _ _ (hR.2.1 hk) hs
            exact ⟨f1, hR.1, fun _ => f2, fun z => absurd hk z⟩
          · obtain ⟨f1, f2⟩ := pj_frame hb n _ _ _ _ _ _ _ (hR.2.2 hk) hs
            exact ⟨f1, hR.1, fun z => absurd z hk, fun _ => f2⟩
        · split at hR
          · rename_i P v he
            obtain ⟨hP, rfl, rfl⟩ := hR
            have e1 := pj_rn_frame hb he hP
            have e2 := pj_rn_k he
            simp only [pj_s1_none1 e2.1, e2.2, e1]
            exact ⟨hs, hP, trivial, trivial⟩
          · split at hR
            · rename_i M' as t he
              obtain ⟨rc, hc, h1, h2, h3⟩ := hR
              obtain ⟨e2, e3, e4⟩ := pj_cl_k (X := X) (al := false) he
              obtain ⟨f1, f2⟩ := pj_frame hb n _ _ _ _ _ _ _ h1 hs
              obtain ⟨f3, f4⟩ := pj_frame hb n _ _ _ _ _ _ _ h3 f1
              refine ⟨f3, ?_⟩
              simp only [e2, e3, e4, pj_cl_frame hb hs he]
              refine ⟨rc.map (pj_rv ρ), pj_gr ρ ρ hc h0, ?_, Or.inl (by rw [pj_gr_len, pj_gr_len]), ?_⟩
              · rw [List.map_append, pj_rep_map hb] at f2
                rw [List.length_map]
                exact f2
              · rw [List.map_append] at f4
                have e9 : rc.toList.map (pj_rv ρ) = (rc.map (pj_rv ρ)).toList := by cases rc <;> rfl
                rw [e9] at f4
                exact f4
            · split at hR
              · rename_i dd lo hi offs x t he
                obtain ⟨hx, pt, ht, h3⟩ := hR
                obtain ⟨e1, e2, e3, e4⟩ := pj_sw_k he
                obtain ⟨f1, f2⟩ := pj_frame hb n _ _ _ _ _ _ _ h3 hs
                have e5 := pj_sw_frame (ρ := ρ) he
                refine ⟨f1, ?_⟩
                simp only [pj_s1_none1 e1, e2, e3, e4, e5]
                exact ⟨hx, pt, ht, f2⟩
              · exact False.elim hR
theorem pj_Rn_succ {al : Bool} : ∀ (n M pc : Nat) (ls st : List pj_V) (h : List pj_C) (r : Option pj_V) (hf : List pj_C), pj_Rn X al n M pc ls st h r hf → pj_Rn X al (n + 1) M pc ls st h r hf
  | 0, _, _, _, _, _, _, _, hR => False.elim hR
  | n + 1, M, pc, ls, st, h, r, hf, hR => by
    unfold pj_Rn at hR ⊢
    split at hR
    · exact False.elim hR
    · split at hR
      · rename_i he
        exact ⟨hR.1, pj_Rn_succ n _ _ _ _ _ _ _ hR.2⟩
      · rename_i hn
        split at hR
        · rename_i he
          exact ⟨hR.1, fun z => pj_Rn_succ n _ _ _ _ _ _ _ (hR.2.1 z), fun z => pj_Rn_succ n _ _ _ _ _ _ _ (hR.2.2 z)⟩
        · rename_i hn2
          split at hR
          · rename_i he
            exact hR
          · rename_i hn3
            split at hR
            · rename_i he
              obtain ⟨rc, hc, h1, h2, h3⟩ := hR
              exact ⟨rc, hc, pj_Rn_succ n _ _ _ _ _ _ _ h1, h2, pj_Rn_succ n _ _ _ _ _ _ _ h3⟩
            · rename_i hn4
              split at hR
              · rename_i he
                obtain ⟨hx, pt, ht, h3⟩ := hR
                exact ⟨hx, pt, ht, pj_Rn_succ n _ _ _ _ _ _ _ h3⟩
              · exact False.elim hR
theorem pj_Rn_le {al : Bool} {n n' M pc : Nat} {ls st : List pj_V} {h : List pj_C} {r : Option pj_V} {hf : List pj_C} (hn : n ≤ n') (hR : pj_Rn X al n M pc ls st h r hf) : pj_Rn X al n' M pc ls st h r hf := by
  obtain ⟨k, rfl⟩ := Nat.le.dest hn
  induction k with
  | zero => exact hR
  | succ k ih => exact pj_Rn_succ _ _ _ _ _ _ _ _ (ih (Nat.le_add_right _ _))
theorem pj_s1_al {i : Instr} {nx a b c : Nat} {ls st : List pj_V} {h : List pj_C} {q : pj_R} (he : pj_s1 X false i nx a b c ls st h = some q) : pj_s1 X true i nx a b c ls st h = some q := by
  unfold pj_s1 at he ⊢
  split at he
  case h_34 => cases he
  case h_35 => split at he <;> cases he
  case h_40 | h_41 | h_42 | h_43 | h_44 | h_45 | h_46 | h_47 | h_48 | h_49 => cases he
  all_goals exact he
end FR3
/-- WHAT IS SAID OF A RUN without anything new: it comes to its end, and Q holds of the answer and the cells -/
def pj_WP (X : pj_X) (M pc : Nat) (ls st : List pj_V) (h : List pj_C) (Q : Option pj_V → List pj_C → Prop) : Prop := ∃ (n : Nat) (r : Option pj_V) (hf : List pj_C), pj_Rn X false n M pc ls st h r hf ∧ Q r hf
/-- instructions that ask something -/
def pj_cn : Instr → Bool
  | .lload _ | .lload_n _ | .lstore _ | .lstore_n _ | .i2l | .lmul | .ladd | .lcmp | .idiv | .irem | .iaload | .baload | .iastore | .bastore | .newarray _ | .invokestatic _ => true
  | _ => false
/-- straight on, to a branch, a call, a return or a loop's head -/
def pj_bk (X : pj_X) : Nat → Bool → Nat → Nat → List pj_V → List pj_V → List pj_C → Prop → Option (Prop × Nat × List pj_V × List pj_V × List pj_C)
  | 0, _, _, _, _, _, _, _ => none
  | n + 1, first, M, pc, ls, st, h, P => match k_cd M pc with
    | some (i, nx, a, b, c, _, hd) => bif hd && !first then some (P, pc, ls, st, h) else match pj_s1 X false i nx a b c ls st h with
      | some (P', pc', ls', st', h') => bif pj_cn i then pj_bk X n false M pc' ls' st' h' (P ∧ P') else pj_bk X n false M pc' ls' st' h' P
      | none => some (P, pc, ls, st, h)
    | none => none
theorem pj_cn_ok {X : pj_X} {al : Bool} {i : Instr} {nx a b c pc' : Nat} {ls st ls' st' : List pj_V} {h h' : List pj_C} {P : Prop} (he : pj_s1 X al i nx a b c ls st h = some (P, pc', ls', st', h')) (hc : pj_cn i = false) : P := by
  unfold pj_s1 at he
  split at he
  all_goals first
    | (cases hc; done)
    | (cases he; done)
    | (unfold pj_ldi at he; split at he <;> cases he; trivial)
    | (unfold pj_lda at he; split at he; (obtain ⟨_, he⟩ := pj_cond he; cases he; trivial); cases he)
    | (unfold pj_sti at he; split at he; (obtain ⟨_, he⟩ := pj_cond he; cases he; trivial); cases he)
    | (unfold pj_sta at he; split at he; (obtain ⟨_, he⟩ := pj_cond he; cases he; trivial); cases he)
    | (unfold pj_b2 at he; split at he <;> cases he; trivial)
    | (cases he; trivial)
    | (split at he <;> cases he; trivial)
    | (obtain ⟨_, he⟩ := pj_cond he; cases he; trivial)
    | (split at he; (obtain ⟨_, he⟩ := pj_cond he; cases he; trivial); cases he)
    | skip
  · split at he
    · split at he
      · split at he
        · obtain ⟨_, he⟩ := pj_cond he; cases he; trivial
        · cases he
      · cases he
    · cases he
  · split at he
    · split at he
      · obtain ⟨_, he⟩ := pj_cond he; cases he; trivial
      · cases he
    · split at he
      · obtain ⟨_, he⟩ := pj_cond he; cases he; trivial
      · cases he
    · cases he
  · split at he
    · rename_i r t
      cases hr : Nat.beq r 1002 with
      | true => rw [hr] at he; cases he; trivial
      | false =>
        rw [hr] at he
        simp only [cond_false] at he
        split at he
        · obtain ⟨_, he⟩ := pj_cond he; cases he; trivial
        · cases he
    · cases he
  · split at he
    · split at he
      · obtain ⟨_, he⟩ := pj_cond he; cases he; trivial
      · cases he
    · cases he
theorem pj_bk_sound {X : pj_X} {Q : Option pj_V → List pj_C → Prop} : ∀ (n : Nat) (first : Bool) (M pc : Nat) (ls st : List pj_V) (h : List pj_C) (P P' : Prop) (pc' : Nat) (ls' st' : List pj_V) (h' : List pj_C), pj_bk X n first M pc ls st h P = some (P', pc', ls', st', h') → P' → P ∧ (pj_WP X M pc' ls' st' h' Q → pj_WP X M pc ls st h Q)
  | 0, _, _, _, _, _, _, _, _, _, _, _, _, he, _ => by cases he
  | n + 1, first, M, pc, ls, st, h, P, P', pc', ls', st', h', he, hP' => by
    unfold pj_bk at he
    split at he
    · rename_i i nx a b c d hd hcd
      cases hz : (hd && !first) with
      | true =>
        rw [hz] at he
        cases he
        exact ⟨hP', id⟩
      | false =>
        rw [hz] at he
        simp only [cond_false] at he
        split at he
        · rename_i P1 pc1 ls1 st1 h1 hs1
          have step : P1 → pj_WP X M pc1 ls1 st1 h1 Q → pj_WP X M pc ls st h Q := by
            rintro hP1 ⟨k, r, hf, hR, hQ⟩
            refine ⟨k + 1, r, hf, ?_, hQ⟩
            unfold pj_Rn
            simp only [hcd, hs1]
            exact ⟨hP1, hR⟩
          cases hc : pj_cn i with
          | true =>
            rw [hc] at he
            obtain ⟨⟨h1, h2⟩, h3⟩ := pj_bk_sound n false M pc1 ls1 st1 h1 _ P' pc' ls' st' h' he hP'
            exact ⟨h1, fun w => step h2 (h3 w)⟩
          | false =>
            rw [hc] at he
            obtain ⟨h1, h3⟩ := pj_bk_sound n false M pc1 ls1 st1 h1 _ P' pc' ls' st' h' he hP'
            exact ⟨h1, fun w => step (pj_cn_ok hs1 hc) (h3 w)⟩
        · cases he
          exact ⟨hP', id⟩
    · cases he
def pj_F : Nat := 300
def pj_bb (X : pj_X) (M pc : Nat) (ls st : List pj_V) (h : List pj_C) : Option (Prop × Prop × Nat × Nat × List pj_V × List pj_V × List pj_C) := match pj_bk X 300 true M pc ls st h ((0 : Int) ≤ 0) with
  | some (P, pc', ls', st', h') => match k_cd M pc' with
    | some (i, nx, a, _, _, _, _) => match pj_br i nx a st' with
      | some (P2, k, pt, pf, t) => some (P ∧ P2, k, pt, pf, ls', t, h')
      | none => none
    | none => none
  | none => none
def pj_bn (X : pj_X) (M pc : Nat) (ls st : List pj_V) (h : List pj_C) : Option (Prop × Option pj_V × List pj_C) := match pj_bk X 300 true M pc ls st h ((0 : Int) ≤ 0) with
  | some (P, pc', _, st', h') => match k_cd M pc' with
    | some (i, _, _, _, _, _, _) => match pj_rn (k_rt M) i st' with
      | some (P2, v) => some (P ∧ P2, v, h')
      | none => none
    | none => none
  | none => none
def pj_bc (X : pj_X) (M pc : Nat) (ls st : List pj_V) (h : List pj_C) : Option (Prop × Nat × List pj_V × Nat × List pj_V × List pj_V × List pj_C) := match pj_bk X 300 true M pc ls st h ((0 : Int) ≤ 0) with
  | some (P, pc', ls', st', h') => match k_cd M pc' with
    | some (i, nx, a, b, _, _, _) => match pj_cl i a b st' h' with
      | some (M', as, t) => some (P, M', as, nx, ls', t, h')
      | none => none
    | none => none
  | none => none
section WPR
variable {X : pj_X} {M pc : Nat} {ls st : List pj_V} {h : List pj_C} {Q : Option pj_V → List pj_C → Prop}
/-- on to a loop's head -/
theorem wp_g {P : Prop} {pc' : Nat} {ls' st' : List pj_V} {h' : List pj_C} (e : pj_bk X 300 true M pc ls st h ((0 : Int) ≤ 0) = some (P, pc', ls', st', h')) (hP : P) (hn : pj_WP X M pc' ls' st' h' Q) : pj_WP X M pc ls st h Q := (pj_bk_sound _ _ _ _ _ _ _ _ _ _ _ _ _ e hP).2 hn
/-- on to a branch -/
theorem wp_b {P k : Prop} {pt pf : Nat} {ls' t : List pj_V} {h' : List pj_C} (e : pj_bb X M pc ls st h = some (P, k, pt, pf, ls', t, h')) (hP : P) (ht : k → pj_WP X M pt ls' t h' Q) (hf : ¬ k → pj_WP X M pf ls' t h' Q) : pj_WP X M pc ls st h Q := by
  unfold pj_bb at e
  split at e
  · rename_i P1 pc1 ls1 st1 h1 hb1
    split at e
    · rename_i i nx a b c d hd hcd
      split at e
      · rename_i P2 k2 pt2 pf2 t2 hbr
        cases e
        refine (pj_bk_sound _ _ _ _ _ _ _ _ _ _ _ _ _ hb1 hP.1).2 ?_
        have hn := pj_s1_none1 (X := X) (al := false) (g := h') (nx := nx) (a := a) (b := b) (c := c) (ls2 := ls') (st2 := st1) (pj_br_k hbr)
        by_cases hk : k
        · obtain ⟨n, r, hf2, hR, hQ⟩ := ht hk
          refine ⟨n + 1, r, hf2, ?_, hQ⟩
          unfold pj_Rn
          simp only [hcd, hn, hbr]
          exact ⟨hP.2, fun _ => hR, fun z => absurd hk z⟩
        · obtain ⟨n, r, hf2, hR, hQ⟩ := hf hk
          refine ⟨n + 1, r, hf2, ?_, hQ⟩
          unfold pj_Rn
          simp only [hcd, hn, hbr]
          exact ⟨hP.2, fun z => absurd z hk, fun _ => hR⟩
      · cases e
    · cases e
  · cases e
/-- on to a return -/
theorem wp_r {P : Prop} {r : Option pj_V} {h' : List pj_C} (e : pj_bn X M pc ls st h = some (P, r, h')) (hP : P) (hQ : Q r h') : pj_WP X M pc ls st h Q := by
  unfold pj_bn at e
  split at e
  · rename_i P1 pc1 ls1 st1 h1 hb1
    split at e
    · rename_i i nx a b c d hd hcd
      split at e
      · rename_i P2 v hrn
        cases e
        refine (pj_bk_sound _ _ _ _ _ _ _ _ _ _ _ _ _ hb1 hP.1).2 ⟨1, r, h', ?_, hQ⟩
        have hk := pj_rn_k hrn
        have hn := pj_s1_none1 (X := X) (al := false) (g := h') (nx := nx) (a := a) (b := b) (c := c) (ls2 := ls1) (st2 := st1) hk.1
        unfold pj_Rn
        simp only [hcd, hn, hk.2, hrn]
        exact ⟨hP.2, trivial, trivial⟩
      · cases e
    · cases e
  · cases e
/-- on to a call; the callee's contract speaks of its own cells, by places ρ -/
theorem wp_c {P : Prop} {M' nx : Nat} {as ls' t : List pj_V} {h' : List pj_C} (e : pj_bc X M pc ls st h = some (P, M', as, nx, ls', t, h')) (hP : P) (ρ : List Nat) {la : List pj_V} {hl : List pj_C}
    (hc : pj_WP X M' 0 (la ++ pj_rep (k_nL M' - la.length)) [] hl (fun r hl' => pj_WP X M nx ls' ((r.map (pj_rv ρ)).toList ++ t) (pj_gr ρ ρ hl' h') Q))
    (h1 : la.map (pj_rv ρ) = as) (h2 : pj_gr ρ ρ hl h' = h') (h3 : pj_sh ρ hl h' = true) (h4 : Nat.ble ρ.length 1000 = true) : pj_WP X M pc ls st h Q := by
  unfold pj_bc at e
  split at e
  · rename_i P1 pc1 ls1 st1 hh1 hb1
    split at e
    · rename_i i nx1 a b c d hd hcd
      split at e
      · rename_i M1 as1 t1 hcl
        cases e
        refine (pj_bk_sound _ _ _ _ _ _ _ _ _ _ _ _ _ hb1 hP).2 ?_
        obtain ⟨n, r, hf, hR, n2, r2, hf2, hR2, hQ⟩ := hc
        have hbd : pj_bd ρ := ⟨Nat.le_of_ble_eq_true h4, pj_sh_bd h3⟩
        obtain ⟨f1, f2⟩ := pj_frame hbd n _ _ _ _ _ _ _ hR h3
        obtain ⟨e2, e3, e4⟩ := pj_cl_k (X := X) (al := false) hcl
        refine ⟨max n n2 + 1, r2, hf2, ?_, hQ⟩
        unfold pj_Rn
        simp only [hcd, e2, e3, e4, hcl]
        refine ⟨r.map (pj_rv ρ), pj_gr ρ ρ hf h', ?_, Or.inl (by rw [pj_gr_len]), pj_Rn_le (Nat.le_max_right _ _) hR2⟩
        rw [List.map_append, pj_rep_map hbd, h1, h2] at f2
        rw [← h1, List.length_map, h1]
        exact pj_Rn_le (Nat.le_max_left _ _) f2
      · cases e
    · cases e
  · cases e
/-- a call from its start -/
abbrev pj_ci (X : pj_X) (M : Nat) (la : List pj_V) (h : List pj_C) (Q : Option pj_V → List pj_C → Prop) : Prop := pj_WP X M 0 (la ++ pj_rep (k_nL M - la.length)) [] h Q
/-- the cells, written out -/
theorem wp_h (h2 : List pj_C) (e : h = h2) (k : pj_WP X M pc ls st h2 Q) : pj_WP X M pc ls st h Q := e ▸ k
theorem wp_m {Q' : Option pj_V → List pj_C → Prop} (hw : pj_WP X M pc ls st h Q') (hq : ∀ r hf, Q' r hf → Q r hf) : pj_WP X M pc ls st h Q := by
  obtain ⟨n, r, hf, h1, h2⟩ := hw
  exact ⟨n, r, hf, h1, hq _ _ h2⟩
end WPR
end
section
/-! numbers: digits of a vector, the number of a row -/
abbrev nn_p (p : Int) : Prop := p = 2 ∨ p = 3 ∨ p = 5 ∨ p = 7
def nn_dg (p : Int) : Int → Nat → Int
  | v, 0 => v % p
  | v, k + 1 => nn_dg p (v / p) k
def nn_nm (p : Int) : Nat → (Nat → Int) → Int
  | 0, _ => 0
  | n + 1, f => f 0 + p * nn_nm p n (fun k => f (k + 1))
/-- a sum -/
def nn_sm : Nat → (Nat → Int) → Int
  | 0, _ => 0
  | n + 1, f => nn_sm n f + f n
theorem nn_dg_rg {p : Int} (hp : 0 < p) : ∀ (k : Nat) (v : Int), 0 ≤ nn_dg p v k ∧ nn_dg p v k < p
  | 0, v => ⟨Int.emod_nonneg v (by omega), Int.emod_lt_of_pos v hp⟩
  | k + 1, v => nn_dg_rg hp k (v / p)
theorem nn_dg_0 {p : Int} (hp : 0 < p) : ∀ k : Nat, nn_dg p 0 k = 0
  | 0 => by show (0 : Int) % p = 0; exact Int.zero_emod p
  | k + 1 => by show nn_dg p (0 / p) k = 0; rw [Int.zero_ediv]; exact nn_dg_0 hp k
theorem nn_nm_congr {p : Int} : ∀ (n : Nat) {f g : Nat → Int}, (∀ k, k < n → f k = g k) → nn_nm p n f = nn_nm p n g
  | 0, _, _, _ => rfl
  | n + 1, f, g, h => by
    show f 0 + p * _ = g 0 + p * _
    rw [h 0 (by omega), nn_nm_congr n (fun k hk => h (k + 1) (by omega))]
theorem nn_nm_rg {p : Int} (hp : 0 < p) : ∀ (n : Nat) {f : Nat → Int}, (∀ k, k < n → 0 ≤ f k ∧ f k < p) → 0 ≤ nn_nm p n f ∧ nn_nm p n f < p ^ n
  | 0, _, _ => ⟨Int.le_refl _, by show (0 : Int) < p ^ 0; rw [Int.pow_zero]; omega⟩
  | n + 1, f, h => by
    obtain ⟨h1, h2⟩ := nn_nm_rg hp n (f := fun k => f (k + 1)) (fun k hk => h (k + 1) (by omega))
    obtain ⟨h3, h4⟩ := h 0 (by omega)
    show 0 ≤ f 0 + p * _ ∧ f 0 + p * _ < _
    rw [Int.pow_succ']
    have h5 : 0 ≤ p * nn_nm p n (fun k => f (k + 1)) := Int.mul_nonneg (by omega) h1
    have h6 : p * (nn_nm p n (fun k => f (k + 1)) + 1) ≤ p * p ^ n := Int.mul_le_mul_of_nonneg_left (by omega) (by omega)
    rw [Int.mul_add] at h6
    omega
theorem nn_dg_nm {p : Int} (hp : 0 < p) : ∀ (n : Nat) {f : Nat → Int}, (∀ k, k < n → 0 ≤ f k ∧ f k < p) → ∀ k, k < n → nn_dg p (nn_nm p n f) k = f k
  | n + 1, f, h, 0, _ => by
    show (f 0 + p * _) % p = f 0
    rw [Int.add_mul_emod_self_left]
    exact Int.emod_eq_of_lt (h 0 (by omega)).1 (h 0 (by omega)).2
  | n + 1, f, h, k + 1, hk => by
    show nn_dg p ((f 0 + p * _) / p) k = f (k + 1)
    rw [Int.add_mul_ediv_left _ _ (by omega), Int.ediv_eq_zero_of_lt (h 0 (by omega)).1 (h 0 (by omega)).2, Int.zero_add]
    exact nn_dg_nm hp n (fun j hj => h (j + 1) (by omega)) k (by omega)
theorem nn_dg_nm0 {p : Int} (hp : 0 < p) : ∀ (n : Nat) {f : Nat → Int}, (∀ k, k < n → 0 ≤ f k ∧ f k < p) → ∀ k, n ≤ k → nn_dg p (nn_nm p n f) k = 0
  | 0, f, h, k, _ => nn_dg_0 hp k
  | n + 1, f, h, 0, hk => by omega
  | n + 1, f, h, k + 1, hk => by
    show nn_dg p ((f 0 + p * _) / p) k = 0
    rw [Int.add_mul_ediv_left _ _ (by omega), Int.ediv_eq_zero_of_lt (h 0 (by omega)).1 (h 0 (by omega)).2, Int.zero_add]
    exact nn_dg_nm0 hp n (fun j hj => h (j + 1) (by omega)) k (by omega)
theorem nn_nm_dg {p : Int} (hp : 0 < p) : ∀ (n : Nat) {v : Int}, 0 ≤ v → v < p ^ n → nn_nm p n (nn_dg p v) = v
  | 0, v, h1, h2 => by
    rw [Int.pow_zero] at h2
    show (0 : Int) = v
    omega
  | n + 1, v, h1, h2 => by
    show v % p + p * nn_nm p n (nn_dg p (v / p)) = v
    rw [Int.pow_succ] at h2
    rw [nn_nm_dg hp n (Int.ediv_nonneg h1 (by omega)) (Int.ediv_lt_of_lt_mul hp h2)]
    exact Int.emod_add_mul_ediv v p
theorem nn_nm_last {p : Int} : ∀ (n : Nat) (f : Nat → Int), nn_nm p (n + 1) f = nn_nm p n f + f n * p ^ n
  | 0, f => by
    show f 0 + p * 0 = 0 + f 0 * p ^ 0
    rw [Int.pow_zero, Int.mul_zero, Int.mul_one]
    omega
  | n + 1, f => by
    have h := nn_nm_last (p := p) n (fun k => f (k + 1))
    show f 0 + p * nn_nm p (n + 1) (fun k => f (k + 1)) = f 0 + p * nn_nm p n (fun k => f (k + 1)) + f (n + 1) * p ^ (n + 1)
    rw [h, Int.mul_add, Int.pow_succ, ← Int.add_assoc]
    congr 1
    rw [Int.mul_left_comm, Int.mul_comm p (p ^ n)]
theorem nn_nm_eq0 {p : Int} : ∀ (n : Nat) {f : Nat → Int}, (∀ k, k < n → f k = 0) → nn_nm p n f = 0
  | 0, _, _ => rfl
  | n + 1, f, h => by
    show f 0 + p * _ = 0
    rw [h 0 (by omega), nn_nm_eq0 n (fun k hk => h (k + 1) (by omega)), Int.mul_zero]
    rfl
theorem nn_nm_inj {p : Int} (hp : 0 < p) {n : Nat} {f g : Nat → Int} (hf : ∀ k, k < n → 0 ≤ f k ∧ f k < p) (hg : ∀ k, k < n → 0 ≤ g k ∧ g k < p) (h : nn_nm p n f = nn_nm p n g) : ∀ k, k < n → f k = g k := by
  intro k hk
  rw [← nn_dg_nm hp n hf k hk, h, nn_dg_nm hp n hg k hk]
theorem nn_dg_pow {p : Int} (hp : 0 < p) : ∀ (k : Nat) {v : Int}, nn_dg p v k = v / p ^ k % p
  | 0, v => by show v % p = v / p ^ 0 % p; rw [Int.pow_zero, Int.ediv_one]
  | k + 1, v => by
    show nn_dg p (v / p) k = _
    rw [nn_dg_pow hp k, Int.ediv_ediv_of_nonneg (Int.le_of_lt hp), Int.pow_succ']
theorem nn_pw1 {p : Int} (hp : 0 < p) (k : Nat) : 1 ≤ p ^ k := by
  have := Int.pow_pos (m := k) hp
  omega
theorem nn_pwle {p : Int} (hp : nn_p p) : ∀ k : Nat, k ≤ 5 → p ^ k ≤ 16807 := by
  have key : ∀ k, k < 6 → (2 : Int) ^ k ≤ 16807 ∧ (3 : Int) ^ k ≤ 16807 ∧ (5 : Int) ^ k ≤ 16807 ∧ (7 : Int) ^ k ≤ 16807 := by decide
  intro k hk
  obtain ⟨h1, h2, h3, h4⟩ := key k (by omega)
  rcases hp with rfl | rfl | rfl | rfl <;> assumption
theorem nn_p_pos {p : Int} (hp : nn_p p) : 0 < p ∧ 2 ≤ p ∧ p ≤ 7 := by rcases hp with rfl | rfl | rfl | rfl <;> omega
theorem nn_dg_lt {p : Int} (hp : 0 < p) {n : Nat} {v : Int} (h1 : 0 ≤ v) (h2 : v < p ^ n) {k : Nat} (hk : n ≤ k) : nn_dg p v k = 0 := by
  rw [← nn_nm_dg hp n h1 h2]
  exact nn_dg_nm0 hp n (fun j _ => nn_dg_rg hp j v) k hk
theorem nn_sm_congr : ∀ (n : Nat) {f g : Nat → Int}, (∀ k, k < n → f k = g k) → nn_sm n f = nn_sm n g
  | 0, _, _, _ => rfl
  | n + 1, f, g, h => by
    show nn_sm n f + f n = nn_sm n g + g n
    rw [nn_sm_congr n (fun k hk => h k (by omega)), h n (by omega)]
theorem nn_sm_add : ∀ (n : Nat) (f g : Nat → Int), nn_sm n (fun k => f k + g k) = nn_sm n f + nn_sm n g
  | 0, _, _ => rfl
  | n + 1, f, g => by
    show nn_sm n (fun k => f k + g k) + (f n + g n) = nn_sm n f + f n + (nn_sm n g + g n)
    rw [nn_sm_add n f g]
    omega
theorem nn_sm_mul (c : Int) : ∀ (n : Nat) (f : Nat → Int), nn_sm n (fun k => c * f k) = c * nn_sm n f
  | 0, _ => (Int.mul_zero c).symm
  | n + 1, f => by
    show nn_sm n (fun k => c * f k) + c * f n = c * (nn_sm n f + f n)
    rw [nn_sm_mul c n f, Int.mul_add]
theorem nn_sm_0 : ∀ (n : Nat) {f : Nat → Int}, (∀ k, k < n → f k = 0) → nn_sm n f = 0
  | 0, _, _ => rfl
  | n + 1, f, h => by
    show nn_sm n f + f n = 0
    rw [nn_sm_0 n (fun k hk => h k (by omega)), h n (by omega)]
    rfl
theorem nn_sm_one : ∀ (n : Nat) {f : Nat → Int} (i : Nat), i < n → (∀ k, k < n → k ≠ i → f k = 0) → nn_sm n f = f i
  | n + 1, f, i, hi, h => by
    show nn_sm n f + f n = f i
    by_cases hin : i = n
    · subst hin
      rw [nn_sm_0 i (fun k hk => h k (by omega) (by omega))]
      omega
    · rw [nn_sm_one n i (by omega) (fun k hk hne => h k (by omega) hne), h n (by omega) (by omega)]
      omega
theorem nn_sm_comm : ∀ (n m : Nat) (f : Nat → Nat → Int), nn_sm n (fun i => nn_sm m (fun j => f i j)) = nn_sm m (fun j => nn_sm n (fun i => f i j))
  | 0, m, f => (nn_sm_0 m (fun _ _ => rfl)).symm
  | n + 1, m, f => by
    show nn_sm n (fun i => nn_sm m (fun j => f i j)) + nn_sm m (fun j => f n j) = nn_sm m (fun j => nn_sm n (fun i => f i j) + f n j)
    rw [nn_sm_add, nn_sm_comm n m f]
/-- equal modulo p -/
def nn_eq (p x y : Int) : Prop := (x - y) % p = 0
theorem nn_eq_iff {p x y : Int} : nn_eq p x y ↔ x % p = y % p := Int.emod_eq_emod_iff_emod_sub_eq_zero.symm
theorem nn_eq_rfl (p x : Int) : nn_eq p x x := by unfold nn_eq; rw [Int.sub_self]; exact Int.zero_emod p
theorem nn_eq_symm {p x y : Int} (h : nn_eq p x y) : nn_eq p y x := nn_eq_iff.mpr (nn_eq_iff.mp h).symm
theorem nn_eq_trans {p x y z : Int} (h : nn_eq p x y) (h2 : nn_eq p y z) : nn_eq p x z := nn_eq_iff.mpr ((nn_eq_iff.mp h).trans (nn_eq_iff.mp h2))
theorem nn_eq_add {p x y z w : Int} (h : nn_eq p x y) (h2 : nn_eq p z w) : nn_eq p (x + z) (y + w) := by
  rw [nn_eq_iff] at *
  rw [Int.add_emod, h, h2, ← Int.add_emod]
theorem nn_eq_mul {p x y z w : Int} (h : nn_eq p x y) (h2 : nn_eq p z w) : nn_eq p (x * z) (y * w) := by
  rw [nn_eq_iff] at *
  rw [Int.mul_emod, h, h2, ← Int.mul_emod]
theorem nn_eq_sub {p x y z w : Int} (h : nn_eq p x y) (h2 : nn_eq p z w) : nn_eq p (x - z) (y - w) := by
  rw [nn_eq_iff] at *
  rw [Int.sub_emod, h, h2, ← Int.sub_emod]
theorem nn_eq_mod (p x : Int) : nn_eq p (x % p) x := nn_eq_iff.mpr (Int.emod_emod x p)
theorem nn_eq_sm {p : Int} : ∀ (n : Nat) {f g : Nat → Int}, (∀ k, k < n → nn_eq p (f k) (g k)) → nn_eq p (nn_sm n f) (nn_sm n g)
  | 0, _, _, _ => nn_eq_rfl p 0
  | n + 1, f, g, h => nn_eq_add (nn_eq_sm n (fun k hk => h k (by omega))) (h n (by omega))
theorem nn_eq_red {p x y : Int} (h : nn_eq p x y) (hx : 0 ≤ x ∧ x < p) (hy : 0 ≤ y ∧ y < p) : x = y := by
  rw [nn_eq_iff, Int.emod_eq_of_lt hx.1 hx.2, Int.emod_eq_of_lt hy.1 hy.2] at h
  exact h
end
section
/-! Table: its reads -/
abbrev pj_Q : Type := Option pj_V → List pj_C → Prop
abbrev v_u : pj_V := .inr 1000
abbrev c_T (p n b : pj_V) : pj_C := .inr (6, [p, n, b])
abbrev c_A (len : Nat) (f : Nat → Int) : pj_C := .inl (0, len, f)
section TABLE
variable {X : pj_X} {Q : pj_Q} {p n : Int}
theorem c_power_loop {i : Int} {E : Nat} (hE : E ≤ 5) (hi : i = E) (hQ : Q (some (.inl (p ^ E))) [c_T (.inl p) v_u v_u]) :
    ∀ (m k : Nat) (r z : Int), k + m = E → z = k → r = p ^ k → pj_WP X m_Table_power 4 [.inr 0, .inl i, .inl r, .inl z] [] [c_T (.inl p) v_u v_u] Q := by
  intro m
  induction m with
  | zero =>
    intro k r z hk hz hr
    refine wp_b rfl (by omega) (fun c => ?_) (fun c => absurd c (by omega))
    refine wp_r rfl (by omega) ?_
    rw [hr, show k = E by omega]
    exact hQ
  | succ m ih =>
    intro k r z hk hz hr
    refine wp_b rfl (by omega) (fun c => absurd c (by omega)) (fun c => ?_)
    refine wp_b rfl (by omega) (fun c => absurd c (by omega)) (fun c => ?_)
    refine wp_g rfl (by omega) ?_
    exact ih (k + 1) _ _ (by omega) (by omega) (by rw [hr, Int.pow_succ])
/-- power(i) = p^i -/
theorem c_power {i : Int} {E : Nat} (hE : E ≤ 5) (hi : i = E) (hQ : Q (some (.inl (p ^ E))) [c_T (.inl p) v_u v_u]) : pj_ci X m_Table_power [.inr 0, .inl i] [c_T (.inl p) v_u v_u] Q := by
  refine wp_g rfl (by omega) ?_
  exact c_power_loop hE hi hQ E 0 _ _ (by omega) (by omega) (by rw [Int.pow_zero])
/-- vectorCount() = p^n -/
theorem c_vectorCount {N : Nat} (hN : N ≤ 5) (hn : n = N) (hQ : Q (some (.inl (p ^ N))) [c_T (.inl p) (.inl n) v_u]) : pj_ci X m_Table_vectorCount [.inr 0] [c_T (.inl p) (.inl n) v_u] Q := by
  refine wp_c rfl (by omega) [0] (c_power hN hn ?_) rfl rfl rfl rfl
  exact wp_r rfl (by omega) hQ
/-- hasIndex(i) -/
theorem c_hasIndex {i : Int} (hi : pj_rg i) (hn : 0 ≤ n ∧ n ≤ 5) (h1 : 0 ≤ i → i < n → Q (some (.inl 1)) [c_T v_u (.inl n) v_u]) (h0 : (i < 0 ∨ n ≤ i) → Q (some (.inl 0)) [c_T v_u (.inl n) v_u]) : pj_ci X m_Table_hasIndex [.inr 0, .inl i] [c_T v_u (.inl n) v_u] Q := by
  obtain ⟨hi1, hi2⟩ := hi
  refine wp_b rfl (by omega) (fun c => ?_) (fun c => ?_)
  · exact wp_r rfl (by omega) (h0 (by omega))
  · refine wp_b rfl (by omega) (fun c2 => ?_) (fun c2 => ?_)
    · exact wp_r rfl (by omega) (h0 (by omega))
    · exact wp_r rfl (by omega) (h1 (by omega) (by omega))
/-- hasPair(i, j) -/
theorem c_hasPair {i j : Int} (hi : pj_rg i) (hj : pj_rg j) (hn : 0 ≤ n ∧ n ≤ 5) (h1 : (0 ≤ i ∧ i < n) → (0 ≤ j ∧ j < n) → i ≠ j → Q (some (.inl 1)) [c_T v_u (.inl n) v_u]) (h0 : ¬ ((0 ≤ i ∧ i < n) ∧ (0 ≤ j ∧ j < n) ∧ i ≠ j) → Q (some (.inl 0)) [c_T v_u (.inl n) v_u]) : pj_ci X m_Table_hasPair [.inr 0, .inl i, .inl j] [c_T v_u (.inl n) v_u] Q := by
  refine wp_c rfl (by omega) [0] (c_hasIndex hi hn (fun a1 a2 => ?_) (fun a => ?_)) rfl rfl rfl rfl
  · refine wp_b rfl (by omega) (fun c => absurd c (by omega)) (fun c => ?_)
    refine wp_c rfl (by omega) [0] (c_hasIndex hj hn (fun b1 b2 => ?_) (fun b => ?_)) rfl rfl rfl rfl
    · refine wp_b rfl (by omega) (fun c => absurd c (by omega)) (fun c => ?_)
      obtain ⟨hi1, hi2⟩ := hi
      obtain ⟨hj1, hj2⟩ := hj
      refine wp_b rfl (by omega) (fun c => ?_) (fun c => ?_)
      · exact wp_r rfl (by omega) (h0 (by omega))
      · exact wp_r rfl (by omega) (h1 ⟨a1, a2⟩ ⟨b1, b2⟩ c)
    · refine wp_b rfl (by omega) (fun c => ?_) (fun c => absurd rfl c)
      exact wp_r rfl (by omega) (h0 (by omega))
  · refine wp_b rfl (by omega) (fun c => ?_) (fun c => absurd rfl c)
    exact wp_r rfl (by omega) (h0 (by omega))
/-- hasVector(v) -/
theorem c_hasVector {v : Int} {N : Nat} (hp : nn_p p) (hv : pj_rg v) (hN : N ≤ 5) (hn : n = N) (h1 : 0 ≤ v → v < p ^ N → Q (some (.inl 1)) [c_T (.inl p) (.inl n) v_u]) (h0 : (v < 0 ∨ p ^ N ≤ v) → Q (some (.inl 0)) [c_T (.inl p) (.inl n) v_u]) : pj_ci X m_Table_hasVector [.inr 0, .inl v] [c_T (.inl p) (.inl n) v_u] Q := by
  obtain ⟨hi1, hi2⟩ := hv
  have hb := nn_pwle hp N hN
  have hb2 := nn_pw1 (nn_p_pos hp).1 N
  refine wp_b rfl (by omega) (fun c => ?_) (fun c => ?_)
  · exact wp_r rfl (by omega) (h0 (by omega))
  · refine wp_c rfl (by omega) [0] (c_vectorCount hN hn ?_) rfl rfl rfl rfl
    refine wp_b rfl (by omega) (fun c2 => ?_) (fun c2 => ?_)
    · exact wp_r rfl (by omega) (h0 (by omega))
    · exact wp_r rfl (by omega) (h1 (by omega) (by omega))
/-- hasFactor(c) -/
theorem c_hasFactor {i : Int} (hp : nn_p p) (hi : pj_rg i) (h1 : 1 ≤ i → i < p → Q (some (.inl 1)) [c_T (.inl p) v_u v_u]) (h0 : (i < 1 ∨ p ≤ i) → Q (some (.inl 0)) [c_T (.inl p) v_u v_u]) : pj_ci X m_Table_hasFactor [.inr 0, .inl i] [c_T (.inl p) v_u v_u] Q := by
  obtain ⟨hi1, hi2⟩ := hi
  obtain ⟨hp1, hp2, hp3⟩ := nn_p_pos hp
  refine wp_b rfl (by omega) (fun c => ?_) (fun c => ?_)
  · exact wp_r rfl (by omega) (h0 (by omega))
  · refine wp_b rfl (by omega) (fun c2 => ?_) (fun c2 => ?_)
    · exact wp_r rfl (by omega) (h0 (by omega))
    · exact wp_r rfl (by omega) (h1 (by omega) (by omega))
theorem nn_tmod {x p : Int} (hp : 0 < p) : (0 ≤ x.tmod p → x.tmod p = x % p) ∧ (¬ 0 ≤ x.tmod p → x.tmod p + p = x % p) := by
  have h1 := Int.tmod_eq_emod (a := x) (b := p)
  have h2 := Int.emod_nonneg x (show p ≠ 0 by omega)
  have h3 := Int.emod_lt_of_pos x hp
  have h4 : (p.natAbs : Int) = p := by omega
  constructor
  · intro h
    split at h1 <;> omega
  · intro h
    split at h1 <;> omega
/-- reduce(x) = x mod p -/
theorem c_reduce {x : Int} (hp : nn_p p) (hx : pj_rg x) (hQ : Q (some (.inl (x % p))) [c_T (.inl p) v_u v_u]) : pj_ci X m_Table_reduce [.inr 0, .inl x] [c_T (.inl p) v_u v_u] Q := by
  obtain ⟨hi1, hi2⟩ := hx
  obtain ⟨hp1, hp2, hp3⟩ := nn_p_pos hp
  have h3 := Int.emod_lt_of_pos x hp1
  have h4 := Int.emod_nonneg x (show p ≠ 0 by omega)
  obtain ⟨t1, t2⟩ := nn_tmod (x := x) hp1
  have hr : -2147483648 ≤ x.tmod p ∧ x.tmod p ≤ 2147483647 := by
    by_cases h : 0 ≤ x.tmod p
    · have := t1 h; omega
    · have := t2 h; omega
  refine wp_b rfl (by omega) (fun c => ?_) (fun c => absurd hp2 c)
  refine wp_b rfl (by omega) (fun c => ?_) (fun c => ?_)
  · refine wp_r rfl (by omega) ?_
    rw [t1 c]
    exact hQ
  · refine wp_r rfl (by omega) ?_
    rw [t2 c]
    exact hQ
/-- coordinate(v, i): a digit -/
theorem c_coord {v i : Int} {K : Nat} (hp : nn_p p) (hv : 0 ≤ v ∧ v ≤ 2147483647) (hK : K ≤ 5) (hi : i = K) (hQ : Q (some (.inl (nn_dg p v K))) [c_T (.inl p) v_u v_u]) : pj_ci X m_Table_coordinate [.inr 0, .inl v, .inl i] [c_T (.inl p) v_u v_u] Q := by
  obtain ⟨hp1, hp2, hp3⟩ := nn_p_pos hp
  have hb := nn_pwle hp K hK
  have hb2 := nn_pw1 hp1 K
  have hd : v / p ^ K ≤ v := Int.ediv_le_self _ hv.1
  have hd2 : 0 ≤ v / p ^ K := Int.ediv_nonneg hv.1 (by omega)
  have e1 : v.tdiv (p ^ K) = v / p ^ K := Int.tdiv_eq_ediv_of_nonneg hv.1
  have e2 : (v / p ^ K).tmod p = v / p ^ K % p := Int.tmod_eq_emod_of_nonneg hd2
  refine wp_c rfl (by omega) [0] (c_power hK hi ?_) rfl rfl rfl rfl
  refine wp_b rfl (by omega) (fun c => absurd c (by omega)) (fun c => ?_)
  refine wp_b rfl (by omega) (fun c => absurd c (by omega)) (fun c => ?_)
  refine wp_r rfl (by rw [e1]; omega) ?_
  rw [nn_dg_pow hp1] at hQ
  show Q (some (.inl ((v.tdiv (p ^ K)).tmod p))) _
  rw [e1, e2]
  exact hQ
/-- the number of the row that plus() makes -/
def nn_plus (p : Int) (N : Nat) (u v f : Int) : Int := nn_nm p N (fun k => (nn_dg p u k + f * nn_dg p v k) % p)
theorem nn_f7 {p f x : Int} (hp : nn_p p) (hf : 0 ≤ f ∧ f < p) (hx : 0 ≤ x ∧ x < p) : 0 ≤ f * x ∧ f * x ≤ 36 := by
  obtain ⟨hp1, hp2, hp3⟩ := nn_p_pos hp
  refine ⟨Int.mul_nonneg hf.1 hx.1, ?_⟩
  have h1 : f * x ≤ 6 * x := Int.mul_le_mul_of_nonneg_right (by omega) hx.1
  omega
theorem c_plus_loop {u v f : Int} {N : Nat} {g : Int} (hp : nn_p p) (hN : N ≤ 5) (hn : n = N) (hf : 0 ≤ f ∧ f < p) (hg : nn_eq p f g) (d1 d2 d3 : pj_V) (hQ : Q (some (.inl (nn_plus p N u v g))) [c_T (.inl p) (.inl n) v_u]) :
    ∀ (m k : Nat) (r w a b z : Int), k + m = N → z = k → w = p ^ k → r = nn_nm p k (fun k => (nn_dg p u k + g * nn_dg p v k) % p) → (0 ≤ a ∧ a ≤ 2147483647) → (0 ≤ b ∧ b ≤ 2147483647) → (∀ j, nn_dg p a j = nn_dg p u (k + j)) → (∀ j, nn_dg p b j = nn_dg p v (k + j)) →
      pj_WP X m_Table_plus 22 [.inr 0, d1, d2, d3, .inl f, .inl r, .inl w, .inl a, .inl b, .inl z] [] [c_T (.inl p) (.inl n) v_u] Q := by
  obtain ⟨hp1, hp2, hp3⟩ := nn_p_pos hp
  intro m
  induction m with
  | zero =>
    intro k r w a b z hk hz hw hr ha hb hda hdb
    refine wp_b rfl (by omega) (fun c => ?_) (fun c => absurd c (by omega))
    refine wp_r rfl (by omega) ?_
    rw [hr, show k = N by omega]
    exact hQ
  | succ m ih =>
    intro k r w a b z hk hz hw hr ha hb hda hdb
    refine wp_b rfl (by omega) (fun c => absurd c (by omega)) (fun c => ?_)
    refine wp_b rfl (by omega) (fun c => absurd c (by omega)) (fun c => ?_)
    have ea : a.tmod p = nn_dg p u k := by rw [Int.tmod_eq_emod_of_nonneg ha.1]; exact hda 0
    have eb : b.tmod p = nn_dg p v k := by rw [Int.tmod_eq_emod_of_nonneg hb.1]; exact hdb 0
    have ra := nn_dg_rg hp1 k u
    have rb := nn_dg_rg hp1 k v
    have rf := nn_f7 hp hf rb
    have ea2 : a.tdiv p = a / p := Int.tdiv_eq_ediv_of_nonneg ha.1
    have eb2 : b.tdiv p = b / p := Int.tdiv_eq_ediv_of_nonneg hb.1
    have ra2 : 0 ≤ a / p ∧ a / p ≤ a := ⟨Int.ediv_nonneg ha.1 (by omega), Int.ediv_le_self _ ha.1⟩
    have rb2 : 0 ≤ b / p ∧ b / p ≤ b := ⟨Int.ediv_nonneg hb.1 (by omega), Int.ediv_le_self _ hb.1⟩
    have es : (nn_dg p u k + f * nn_dg p v k).tmod p = (nn_dg p u k + g * nn_dg p v k) % p := by
      rw [Int.tmod_eq_emod_of_nonneg (by omega)]
      exact nn_eq_iff.mp (nn_eq_add (nn_eq_rfl p _) (nn_eq_mul hg (nn_eq_rfl p _)))
    refine wp_g rfl ?_ ?_
    · show ((((((0 : Int) ≤ 0 ∧ (-2147483648 ≤ a ∧ a ≤ 2147483647) ∧ (-2147483648 ≤ p ∧ p ≤ 2147483647) ∧ p ≠ 0) ∧ (-2147483648 ≤ b ∧ b ≤ 2147483647) ∧ (-2147483648 ≤ p ∧ p ≤ 2147483647) ∧ p ≠ 0) ∧ (-2147483648 ≤ a.tmod p + f * b.tmod p ∧ a.tmod p + f * b.tmod p ≤ 2147483647) ∧ (-2147483648 ≤ p ∧ p ≤ 2147483647) ∧ p ≠ 0) ∧ (-2147483648 ≤ a ∧ a ≤ 2147483647) ∧ (-2147483648 ≤ p ∧ p ≤ 2147483647) ∧ p ≠ 0) ∧ (-2147483648 ≤ b ∧ b ≤ 2147483647) ∧ (-2147483648 ≤ p ∧ p ≤ 2147483647) ∧ p ≠ 0)
      rw [ea, eb]
      omega
    · refine ih (k + 1) _ _ _ _ _ (by omega) (by omega) (by rw [hw, Int.pow_succ]) ?_ (by rw [ea2]; omega) (by rw [eb2]; omega) (fun j => ?_) (fun j => ?_)
      · show r + (a.tmod p + f * b.tmod p).tmod p * w = _
        rw [ea, eb, es, hr, hw, nn_nm_last]
      · rw [ea2, show k + 1 + j = k + (j + 1) by omega, ← hda (j + 1)]
        rfl
      · rw [eb2, show k + 1 + j = k + (j + 1) by omega, ← hdb (j + 1)]
        rfl
/-- plus(u, v, f) -/
theorem c_plus {u v f : Int} {N : Nat} (hp : nn_p p) (hN : N ≤ 5) (hn : n = N) (hu : 0 ≤ u ∧ u ≤ 2147483647) (hv : 0 ≤ v ∧ v ≤ 2147483647) (hf : pj_rg f) (hQ : Q (some (.inl (nn_plus p N u v f))) [c_T (.inl p) (.inl n) v_u]) : pj_ci X m_Table_plus [.inr 0, .inl u, .inl v, .inl f] [c_T (.inl p) (.inl n) v_u] Q := by
  obtain ⟨hp1, hp2, hp3⟩ := nn_p_pos hp
  refine wp_c rfl (by omega) [0] (c_reduce hp hf ?_) rfl rfl rfl rfl
  refine wp_g rfl (by omega) ?_
  exact c_plus_loop hp hN hn ⟨Int.emod_nonneg f (by omega), Int.emod_lt_of_pos f hp1⟩ (nn_eq_mod p f) _ _ _ hQ N 0 _ _ _ _ _ (by omega) (by omega) (by rw [Int.pow_zero]) rfl hu hv (fun j => by rw [Nat.zero_add]) (fun j => by rw [Nat.zero_add])
end TABLE
end
section
/-! arrays, entries of the table, its writes -/
section TABLE2
variable {X : pj_X} {Q : pj_Q}
/-- LieAlgebra.at(cells, index) -/
theorem c_at {len : Nat} {f : Nat → Int} {i : Int} {I : Nat} (hlen : len ≤ 100000) (hi : i = I) (hI : I < len) (hQ : Q (some (.inl (f I))) [c_A len f]) : pj_ci X m_Li_at [.inr 0, .inl i] [c_A len f] Q := by
  refine wp_b rfl (by omega) (fun c => absurd c (by omega)) (fun c => ?_)
  refine wp_b rfl (by omega) (fun c => absurd c (by omega)) (fun c => ?_)
  refine wp_r rfl (by omega) ?_
  rw [show i.toNat = I by omega]
  exact hQ
/-- LieAlgebra.put(cells, index, x) -/
theorem c_put {len : Nat} {f : Nat → Int} {i z : Int} {I : Nat} (hlen : len ≤ 100000) (hi : i = I) (hI : I < len) (hQ : Q none [c_A len (pj_up f I z)]) : pj_ci X m_Li_put [.inr 0, .inl i, .inl z] [c_A len f] Q := by
  refine wp_b rfl (by omega) (fun c => absurd c (by omega)) (fun c => ?_)
  refine wp_b rfl (by omega) (fun c => absurd c (by omega)) (fun c => ?_)
  refine wp_r rfl (by omega) ?_
  have e : i.toNat = I := by omega
  show Q none [c_A len (pj_up f i.toNat z)]
  rw [e]
  exact hQ
/-- entry(i, j) -/
theorem c_entry {br : Nat → Int} {i j : Int} {I J : Nat} (hi : i = I) (hj : j = J) (hI : I < 5) (hJ : J < 5) (hQ : Q (some (.inl (br (5 * I + J)))) [c_T v_u v_u (.inr 1), c_A 25 br]) : pj_ci X m_Table_entry [.inr 0, .inl i, .inl j] [c_T v_u v_u (.inr 1), c_A 25 br] Q := by
  refine wp_c rfl (by omega) [1] (c_at (I := 5 * I + J) (by omega) (by omega) (by omega) ?_) rfl rfl rfl rfl
  exact wp_r rfl (by omega) hQ
/-- setEntry(i, j, value): the entry and its negative -/
theorem c_setEntry {p n : Int} {N : Nat} {br : Nat → Int} {i j v : Int} {I J : Nat} (hp : nn_p p) (hN : N ≤ 5) (hn : n = N) (hi : i = I) (hj : j = J) (hI : I < 5) (hJ : J < 5) (hv : 0 ≤ v ∧ v ≤ 2147483647) (hQ : Q none [c_T (.inl p) (.inl n) (.inr 1), c_A 25 (pj_up (pj_up br (5 * I + J) v) (5 * J + I) (nn_plus p N 0 v (-1)))]) : pj_ci X m_Table_setEntry [.inr 0, .inl i, .inl j, .inl v] [c_T (.inl p) (.inl n) (.inr 1), c_A 25 br] Q := by
  refine wp_c rfl (by omega) [1] (c_put (I := 5 * I + J) (by omega) (by omega) (by omega) ?_) rfl rfl rfl rfl
  refine wp_c rfl (by omega) [0] (c_plus hp hN hn (by omega) hv (by unfold pj_rg; omega) ?_) rfl rfl rfl rfl
  refine wp_c rfl (by omega) [1] (c_put (I := 5 * J + I) (by omega) (by omega) (by omega) ?_) rfl rfl rfl rfl
  exact wp_r rfl (by omega) hQ
theorem c_fill_loop {len : Nat} {f : Nat → Int} {z : Int} (hlen : len ≤ 100000) (hQ : Q none [c_A len (fun k => if k < len then z else f k)]) :
    ∀ (m k : Nat) (g : Nat → Int) (x : Int), k + m = len → x = k → (∀ j, g j = if j < k then z else f j) → pj_WP X m_Arrays_fill 5 [.inr 0, .inl z, .inl x, .inl (len : Int)] [] [c_A len g] Q := by
  intro m
  induction m with
  | zero =>
    intro k g x hk hx hg
    refine wp_b rfl (by omega) (fun c => ?_) (fun c => absurd c (by omega))
    refine wp_r rfl (by omega) ?_
    have e : g = fun k => if k < len then z else f k := by
      funext j
      rw [hg j, show k = len by omega]
    rw [e]
    exact hQ
  | succ m ih =>
    intro k g x hk hx hg
    refine wp_b rfl (by omega) (fun c => absurd c (by omega)) (fun c => ?_)
    refine wp_g rfl (by omega) ?_
    refine ih (k + 1) _ _ (by omega) (by omega) (fun j => ?_)
    have e : x.toNat = k := by omega
    simp only [pj_up, e, hg j]
    by_cases h : j = k
    · rw [if_pos h, if_pos (by omega)]
    · rw [if_neg h]
      by_cases h2 : j < k
      · rw [if_pos h2, if_pos (by omega)]
      · rw [if_neg h2, if_neg (by omega)]
/-- Arrays.fill -/
theorem c_fill {len : Nat} {f : Nat → Int} {z : Int} (hlen : len ≤ 100000) (hQ : Q none [c_A len (fun k => if k < len then z else f k)]) : pj_ci X m_Arrays_fill [.inr 0, .inl z] [c_A len f] Q := by
  refine wp_g rfl (by omega) ?_
  exact c_fill_loop hlen hQ len 0 f _ (by omega) (by omega) (fun j => by rw [if_neg (by omega)])
/-- begin(p, n) -/
theorem c_Tbegin {p' n' : Int} {br : Nat → Int} (hQ : Q none [c_T (.inl p') (.inl n') (.inr 1), c_A 25 (fun k => if k < 25 then 0 else br k)]) : pj_ci X m_Table_begin [.inr 0, .inl p', .inl n'] [c_T v_u v_u (.inr 1), c_A 25 br] Q := by
  refine wp_c rfl (by omega) [1] (c_fill (by omega) ?_) rfl rfl rfl rfl
  exact wp_r rfl (by omega) hQ
/-- copyFrom(other) -/
theorem c_copyFrom {p' n' : Int} {br br' : Nat → Int} (hQ : Q none [c_T (.inl p') (.inl n') (.inr 1), c_A 25 (va_cpy br' br 0 0 25), c_T (.inl p') (.inl n') (.inr 3), c_A 25 br']) : pj_ci X m_Table_copyFrom [.inr 0, .inr 2] [c_T v_u v_u (.inr 1), c_A 25 br, c_T (.inl p') (.inl n') (.inr 3), c_A 25 br'] Q := by
  exact wp_r rfl (by omega) hQ
theorem nn_inv_ex {p : Int} (hp : nn_p p) : ∀ x : Int, 1 ≤ x → x < p → ∃ y : Int, 1 ≤ y ∧ y < p ∧ y * x % p = 1 := by
  intro x h1 h2
  rcases hp with rfl | rfl | rfl | rfl
  · rcases (show x = 1 by omega) with rfl
    exact ⟨1, by decide⟩
  · rcases (show x = 1 ∨ x = 2 by omega) with rfl | rfl
    · exact ⟨1, by decide⟩
    · exact ⟨2, by decide⟩
  · rcases (show x = 1 ∨ x = 2 ∨ x = 3 ∨ x = 4 by omega) with rfl | rfl | rfl | rfl
    · exact ⟨1, by decide⟩
    · exact ⟨3, by decide⟩
    · exact ⟨2, by decide⟩
    · exact ⟨4, by decide⟩
  · rcases (show x = 1 ∨ x = 2 ∨ x = 3 ∨ x = 4 ∨ x = 5 ∨ x = 6 by omega) with rfl | rfl | rfl | rfl | rfl | rfl
    · exact ⟨1, by decide⟩
    · exact ⟨4, by decide⟩
    · exact ⟨5, by decide⟩
    · exact ⟨2, by decide⟩
    · exact ⟨3, by decide⟩
    · exact ⟨6, by decide⟩
theorem c_inverse_loop {p x : Int} (hp : nn_p p) (hx : 1 ≤ x ∧ x < p) (hQ : ∀ y : Int, 1 ≤ y → y < p → y * x % p = 1 → Q (some (.inl y)) []) :
    ∀ (m : Nat) (k : Int), k + m = p → 1 ≤ k → (∀ j : Int, 1 ≤ j → j < k → j * x % p ≠ 1) → pj_WP X m_Li_inverse 2 [.inl x, .inl p, .inl k] [] [] Q := by
  obtain ⟨hp1, hp2, hp3⟩ := nn_p_pos hp
  intro m
  induction m with
  | zero =>
    intro k hk h1 hno
    obtain ⟨y, a, b, c⟩ := nn_inv_ex hp x hx.1 hx.2
    exact absurd c (hno y a (by omega))
  | succ m ih =>
    intro k hk h1 hno
    have hr := nn_f7 hp (f := k) (x := x) ⟨by omega, by omega⟩ ⟨by omega, by omega⟩
    have e1 : (k * x).tmod p = k * x % p := Int.tmod_eq_emod_of_nonneg hr.1
    have e2 := Int.emod_nonneg (k * x) (show p ≠ 0 by omega)
    have e3 := Int.emod_lt_of_pos (k * x) hp1
    refine wp_b rfl (by omega) (fun c => absurd c (by omega)) (fun c => ?_)
    refine wp_b rfl (by omega) (fun c => ?_) (fun c => ?_)
    · refine wp_g rfl (by omega) ?_
      refine ih (k + 1) (by omega) (by omega) (fun j h2 h3 => ?_)
      by_cases hj : j = k
      · subst hj
        rw [← e1]
        exact c
      · exact hno j h2 (by omega)
    · refine wp_r rfl (by omega) ?_
      exact hQ k h1 (by omega) (by rw [← e1]; exact Decidable.of_not_not c)
/-- LieAlgebra.inverse(x, p) -/
theorem c_inverse {p x : Int} (hp : nn_p p) (hx : 1 ≤ x ∧ x < p) (hQ : ∀ y : Int, 1 ≤ y → y < p → y * x % p = 1 → Q (some (.inl y)) []) : pj_ci X m_Li_inverse [.inl x, .inl p] [] Q := by
  have := (nn_p_pos hp).2.1
  refine wp_g rfl (by omega) ?_
  exact c_inverse_loop hp hx hQ (p - 1).toNat 1 (by omega) (by omega) (fun j h1 h2 => by omega)
end TABLE2
end
section
/-! the bracket -/
def tt_ok (p : Int) (N : Nat) (T : Nat → Nat → Nat → Int) : Prop := nn_p p ∧ 1 ≤ N ∧ N ≤ 5 ∧ (∀ i j k, 0 ≤ T i j k ∧ T i j k < p) ∧ (∀ i j k, (N ≤ i ∨ N ≤ j ∨ N ≤ k) → T i j k = 0) ∧ (∀ i j k, nn_eq p (T j i k) (-(T i j k))) ∧ (∀ i k, T i i k = 0)
def tt_br (p : Int) (N : Nat) (T : Nat → Nat → Nat → Int) (br : Nat → Int) : Prop := ∀ i j, i < 5 → j < 5 → br (5 * i + j) = nn_nm p N (T i j)
def tt_bk (p : Int) (N : Nat) (T : Nat → Nat → Nat → Int) (u v : Nat → Int) (k : Nat) : Int := nn_sm N (fun i => nn_sm N (fun j => u i * v j * T i j k)) % p
def tt_pr (T : Nat → Nat → Nat → Int) (u v : Nat → Int) (k i J : Nat) : Int := nn_sm J (fun j => if i < j then (u i * v j - v i * u j) * T i j k else 0)
theorem tt_pr_total {p : Int} {N : Nat} {T : Nat → Nat → Nat → Int} (ht : tt_ok p N T) (u v : Nat → Int) (k : Nat) : nn_sm N (fun i => tt_pr T u v k i N) % p = tt_bk p N T u v k := by
  obtain ⟨-, -, -, -, -, ha, hd⟩ := ht
  refine nn_eq_iff.mp (nn_eq_symm ?_)
  have e1 : nn_sm N (fun i => nn_sm N (fun j => u i * v j * T i j k)) = nn_sm N (fun i => nn_sm N (fun j => if i < j then u i * v j * T i j k else 0)) + nn_sm N (fun i => nn_sm N (fun j => if j < i then u i * v j * T i j k else 0)) := by
    rw [← nn_sm_add]
    refine nn_sm_congr N (fun i hi => ?_)
    rw [← nn_sm_add]
    refine nn_sm_congr N (fun j hj => ?_)
    by_cases h1 : i < j
    · rw [if_pos h1, if_neg (by omega)]; omega
    · by_cases h2 : j < i
      · rw [if_neg h1, if_pos h2]; omega
      · rw [if_neg h1, if_neg h2, show j = i by omega, hd i k, Int.mul_zero]
        rfl
  rw [e1, nn_sm_comm N N (fun i j => if j < i then u i * v j * T i j k else 0), ← nn_sm_add]
  refine nn_eq_sm N (fun i hi => ?_)
  rw [← nn_sm_add]
  refine nn_eq_sm N (fun j hj => ?_)
  by_cases h1 : i < j
  · simp only [if_pos h1]
    have e2 : (u i * v j - v i * u j) * T i j k = u i * v j * T i j k + u j * v i * -(T i j k) := by
      rw [Int.sub_mul, Int.mul_neg, Int.mul_comm (u j) (v i)]
      omega
    rw [e2]
    exact nn_eq_add (nn_eq_rfl p _) (nn_eq_mul (nn_eq_rfl p _) (ha i j k))
  · simp only [if_neg h1]
    exact nn_eq_rfl p _
section TABLE3
variable {X : pj_X} {Q : pj_Q} {p n : Int} {N : Nat} {T : Nat → Nat → Nat → Int} {br : Nat → Int}
abbrev w_T (p n : Int) (br : Nat → Int) : List pj_C := [c_T (.inl p) (.inl n) (.inr 1), c_A 25 br]
theorem tt_num {f : Nat → Int} (hp : nn_p p) (hN : N ≤ 5) : 0 ≤ nn_nm p N (fun k => f k % p) ∧ nn_nm p N (fun k => f k % p) ≤ 2147483647 := by
  have hp1 := (nn_p_pos hp).1
  have h := nn_nm_rg hp1 N (f := fun k => f k % p) (fun k _ => ⟨Int.emod_nonneg _ (by omega), Int.emod_lt_of_pos _ hp1⟩)
  have h2 := nn_pwle hp N hN
  omega
theorem tt_brn (ht : tt_ok p N T) (hb : tt_br p N T br) {i j : Nat} (hi : i < 5) (hj : j < 5) : (0 ≤ br (5 * i + j) ∧ br (5 * i + j) ≤ 2147483647) ∧ ∀ k, k < N → nn_dg p (br (5 * i + j)) k = T i j k := by
  obtain ⟨hp, h1, hN, hT, -⟩ := ht
  have hp1 := (nn_p_pos hp).1
  rw [hb i j hi hj]
  have h := nn_nm_rg hp1 N (f := T i j) (fun k _ => hT i j k)
  have h2 := nn_pwle hp N hN
  exact ⟨by omega, fun k hk => nn_dg_nm hp1 N (fun k _ => hT i j k) k hk⟩
set_option maxHeartbeats 1000000 in
theorem c_product_in (ht : tt_ok p N T) (hb : tt_br p N T br) (hn : n = N) {u v : Int} (hu : 0 ≤ u ∧ u ≤ 2147483647) (hv : 0 ≤ v ∧ v ≤ 2147483647) (S : Nat → Int) {I : Nat} {i : Int} (hI : I < N) (hi : i = I)
    (hQ : ∀ (j d : pj_V), pj_WP X m_Table_product 111 [.inr 0, .inl u, .inl v, .inl (nn_nm p N (fun k => (S k + tt_pr T (nn_dg p u) (nn_dg p v) k I N) % p)), .inl i, .inl (nn_dg p u I), .inl (nn_dg p v I), j, d] [] (w_T p n br) Q) :
    ∀ (m J : Nat) (r j : Int) (d : pj_V), J + m = N → j = J → r = nn_nm p N (fun k => (S k + tt_pr T (nn_dg p u) (nn_dg p v) k I J) % p) → I < J →
      pj_WP X m_Table_product 38 [.inr 0, .inl u, .inl v, .inl r, .inl i, .inl (nn_dg p u I), .inl (nn_dg p v I), .inl j, d] [] (w_T p n br) Q := by
  obtain ⟨hp, h1N, hN, hT, -⟩ := id ht
  obtain ⟨hp1, hp2, hp3⟩ := nn_p_pos hp
  intro m
  induction m with
  | zero =>
    intro J r j d hJ hj hr hIJ
    refine wp_b rfl (by omega) (fun c => ?_) (fun c => absurd c (by omega))
    rw [hr, show J = N by omega]
    exact hQ _ _
  | succ m ih =>
    intro J r j d hJ hj hr hIJ
    have ru := nn_dg_rg hp1 I u
    have rv := nn_dg_rg hp1 I v
    have ru2 := nn_dg_rg hp1 J u
    have rv2 := nn_dg_rg hp1 J v
    have q1 := nn_f7 hp ru rv2
    have q2 := nn_f7 hp rv ru2
    have hrr := tt_num (f := fun k => S k + tt_pr T (nn_dg p u) (nn_dg p v) k I J) hp hN
    rw [← hr] at hrr
    obtain ⟨hbr, hbd⟩ := tt_brn ht hb (i := I) (j := J) (by omega) (by omega)
    have step : ∀ k, tt_pr T (nn_dg p u) (nn_dg p v) k I (J + 1) = tt_pr T (nn_dg p u) (nn_dg p v) k I J + (nn_dg p u I * nn_dg p v J - nn_dg p v I * nn_dg p u J) * T I J k := fun k => by
      show tt_pr T (nn_dg p u) (nn_dg p v) k I J + (if I < J then _ else 0) = _
      rw [if_pos hIJ]
    refine wp_b rfl (by omega) (fun c => absurd c (by omega)) (fun c => ?_)
    have main : pj_WP X m_Table_product 57 [.inr 0, .inl u, .inl v, .inl r, .inl i, .inl (nn_dg p u I), .inl (nn_dg p v I), .inl j, d] [] (w_T p n br) Q := by
      refine wp_c rfl (by omega) [0] (c_coord (K := J) hp hv (by omega) hj ?_) rfl rfl rfl rfl
      refine wp_c rfl (by omega) [0] (c_coord (K := J) hp hu (by omega) hj ?_) rfl rfl rfl rfl
      refine wp_c rfl (by omega) [0] (c_reduce hp (by unfold pj_rg; omega) ?_) rfl rfl rfl rfl
      have f1 := Int.emod_nonneg (nn_dg p u I * nn_dg p v J - nn_dg p v I * nn_dg p u J) (show p ≠ 0 by omega)
      have f2 := Int.emod_lt_of_pos (nn_dg p u I * nn_dg p v J - nn_dg p v I * nn_dg p u J) hp1
      refine wp_b rfl (by omega) (fun c2 => ?_) (fun c2 => ?_)
      · refine wp_g rfl (by omega) ?_
        refine ih (J + 1) _ _ _ (by omega) (by omega) ?_ (by omega)
        rw [hr]
        refine nn_nm_congr N (fun k hk => ?_)
        rw [step k, ← Int.add_assoc]
        refine nn_eq_iff.mp ?_
        have z : nn_eq p ((nn_dg p u I * nn_dg p v J - nn_dg p v I * nn_dg p u J) * T I J k) (0 * T I J k) := nn_eq_mul (nn_eq_iff.mpr (by rw [c2, Int.zero_emod])) (nn_eq_rfl p _)
        rw [Int.zero_mul] at z
        have := nn_eq_add (nn_eq_rfl p (S k + tt_pr T (nn_dg p u) (nn_dg p v) k I J)) (nn_eq_symm z)
        rw [Int.add_zero] at this
        exact this
      · refine wp_c rfl (by omega) [0, 1] (c_entry (I := I) (J := J) hi hj (by omega) (by omega) ?_) rfl rfl rfl rfl
        refine wp_c rfl (by omega) [0] (c_plus (N := N) hp hN hn hrr hbr (by unfold pj_rg; omega) ?_) rfl rfl rfl rfl
        refine wp_g rfl (by omega) ?_
        refine ih (J + 1) _ _ _ (by omega) (by omega) ?_ (by omega)
        refine nn_nm_congr N (fun k hk => ?_)
        have hrg : ∀ k, k < N → 0 ≤ (S k + tt_pr T (nn_dg p u) (nn_dg p v) k I J) % p ∧ (S k + tt_pr T (nn_dg p u) (nn_dg p v) k I J) % p < p := fun k _ => ⟨Int.emod_nonneg _ (by omega), Int.emod_lt_of_pos _ hp1⟩
        rw [hbd k hk, hr, nn_dg_nm hp1 N hrg k hk, step k, ← Int.add_assoc]
        exact nn_eq_iff.mp (nn_eq_add (nn_eq_mod p _) (nn_eq_mul (nn_eq_mod p _) (nn_eq_rfl p _)))
    refine wp_b rfl (by omega) (fun c1 => main) (fun c1 => ?_)
    refine wp_b rfl (by omega) (fun c2 => ?_) (fun c2 => main)
    have eu : nn_dg p u I = 0 := Decidable.of_not_not c1
    have hfin : nn_nm p N (fun k => (S k + tt_pr T (nn_dg p u) (nn_dg p v) k I N) % p) = r := by
      rw [hr]
      refine nn_nm_congr N (fun k hk => ?_)
      have z : ∀ J, tt_pr T (nn_dg p u) (nn_dg p v) k I J = 0 := fun J => by
        refine nn_sm_0 J (fun j _ => ?_)
        split
        · rw [eu, c2, Int.zero_mul, Int.zero_mul, Int.sub_zero, Int.zero_mul]
        · rfl
      rw [z N, z J]
    rw [← hfin]
    exact hQ _ _
set_option maxHeartbeats 1000000 in
theorem c_product_out (ht : tt_ok p N T) (hb : tt_br p N T br) (hn : n = N) {u v : Int} (hu : 0 ≤ u ∧ u ≤ 2147483647) (hv : 0 ≤ v ∧ v ≤ 2147483647) (hQ : Q (some (.inl (nn_nm p N (tt_bk p N T (nn_dg p u) (nn_dg p v))))) (w_T p n br)) :
    ∀ (m I : Nat) (r i : Int) (d1 d2 d3 d4 : pj_V), I + m = N → i = I → r = nn_nm p N (fun k => nn_sm I (fun i => tt_pr T (nn_dg p u) (nn_dg p v) k i N) % p) →
      pj_WP X m_Table_product 5 [.inr 0, .inl u, .inl v, .inl r, .inl i, d1, d2, d3, d4] [] (w_T p n br) Q := by
  obtain ⟨hp, h1N, hN, hT, -⟩ := id ht
  intro m
  induction m with
  | zero =>
    intro I r i d1 d2 d3 d4 hI hi hr
    refine wp_b rfl (by omega) (fun c => ?_) (fun c => absurd c (by omega))
    refine wp_r rfl (by omega) ?_
    rw [hr, show I = N by omega, nn_nm_congr N (fun k _ => tt_pr_total ht (nn_dg p u) (nn_dg p v) k)]
    exact hQ
  | succ m ih =>
    intro I r i d1 d2 d3 d4 hI hi hr
    refine wp_b rfl (by omega) (fun c => absurd c (by omega)) (fun c => ?_)
    refine wp_c rfl (by omega) [0] (c_coord (K := I) hp hu (by omega) hi ?_) rfl rfl rfl rfl
    refine wp_c rfl (by omega) [0] (c_coord (K := I) hp hv (by omega) hi ?_) rfl rfl rfl rfl
    refine wp_g rfl (by omega) ?_
    refine c_product_in ht hb hn hu hv (fun k => nn_sm I (fun i => tt_pr T (nn_dg p u) (nn_dg p v) k i N)) (by omega) hi (fun j d => ?_) (N - (I + 1)) (I + 1) _ _ _ (by omega) (by omega) ?_ (by omega)
    · refine wp_g rfl (by omega) ?_
      exact ih (I + 1) _ _ _ _ _ _ (by omega) (by omega) rfl
    · rw [hr]
      refine nn_nm_congr N (fun k _ => ?_)
      have z : tt_pr T (nn_dg p u) (nn_dg p v) k I (I + 1) = 0 := nn_sm_0 _ (fun j hj => by rw [if_neg (by omega)])
      rw [z, Int.add_zero]
/-- product(u, v): the bracket -/
theorem c_product (ht : tt_ok p N T) (hb : tt_br p N T br) (hn : n = N) {u v : Int} (hu : 0 ≤ u ∧ u ≤ 2147483647) (hv : 0 ≤ v ∧ v ≤ 2147483647) (hQ : Q (some (.inl (nn_nm p N (tt_bk p N T (nn_dg p u) (nn_dg p v))))) (w_T p n br)) : pj_ci X m_Table_product [.inr 0, .inl u, .inl v] (w_T p n br) Q := by
  refine wp_g rfl (by omega) ?_
  exact c_product_out ht hb hn hu hv hQ N 0 _ _ _ _ _ _ (by omega) (by omega) (nn_nm_eq0 N (fun k _ => Int.zero_emod p)).symm
end TABLE3
end
section
/-! linear algebra modulo p: subspaces as predicates, canonical matrices (row r: the basis vector with lead r, or 0) -/
abbrev ln_V : Type := Nat → Int
abbrev ln_P : Type := ln_V → Prop
def ln_eq (p : Int) (w : Nat) (x y : ln_V) : Prop := ∀ c, c < w → nn_eq p (x c) (y c)
def ln_sub (p : Int) (w : Nat) (W : ln_P) : Prop := W (fun _ => 0) ∧ (∀ x y, W x → W y → W (fun c => x c + y c)) ∧ (∀ a x, W x → W (fun c => a * x c)) ∧ ∀ x y, ln_eq p w x y → W x → W y
/-- the span -/
def ln_sp (p : Int) (w : Nat) (S : ln_P) : ln_P := fun x => ∀ W, ln_sub p w W → (∀ y, S y → W y) → W x
def ln_R (p : Int) (w : Nat) (R : Nat → ln_V) : Prop := ∀ r, r < w → (∀ c, c < w → 0 ≤ R r c ∧ R r c < p) ∧ ((∀ c, c < w → R r c = 0) ∨ (R r r = 1 ∧ (∀ c, c < r → R r c = 0) ∧ ∀ q, q < w → q ≠ r → R q r = 0))
/-- the span of a canonical matrix -/
def ln_in (p : Int) (w : Nat) (R : Nat → ln_V) : ln_P := fun x => ln_eq p w x (fun c => nn_sm w (fun r => x r * R r c))
def ln_ct (R : Nat → ln_V) : Nat → Nat
  | 0 => 0
  | w + 1 => ln_ct R w + (if R w w = 0 then 0 else 1)
/-- W holds every row -/
def ln_g (w : Nat) (R : Nat → ln_V) (W : ln_P) : Prop := ∀ r, r < w → W (R r)
section LIN
variable {p : Int} {w : Nat}
theorem ln_eq_rfl (x : ln_V) : ln_eq p w x x := fun _ _ => nn_eq_rfl p _
theorem ln_eq_symm {x y : ln_V} (h : ln_eq p w x y) : ln_eq p w y x := fun c hc => nn_eq_symm (h c hc)
theorem ln_eq_trans {x y z : ln_V} (h : ln_eq p w x y) (h2 : ln_eq p w y z) : ln_eq p w x z := fun c hc => nn_eq_trans (h c hc) (h2 c hc)
theorem ln_sub_sm {W : ln_P} (hW : ln_sub p w W) {R : Nat → ln_V} (a : Nat → Int) : ∀ n, (∀ r, r < n → W (R r)) → W (fun c => nn_sm n (fun r => a r * R r c))
  | 0, _ => hW.1
  | n + 1, h => hW.2.1 _ _ (ln_sub_sm hW a n (fun r hr => h r (by omega))) (hW.2.2.1 (a n) _ (h n (by omega)))
theorem ln_sub_sub {W : ln_P} (hW : ln_sub p w W) {x y : ln_V} (hx : W x) (hy : W y) (a : Int) : W (fun c => x c - a * y c) := by
  refine hW.2.2.2 _ _ (fun c _ => ?_) (hW.2.1 _ _ hx (hW.2.2.1 (-a) _ hy))
  show nn_eq p (x c + -a * y c) (x c - a * y c)
  rw [Int.neg_mul]
  exact nn_eq_rfl p _
theorem ln_sub_neg {W : ln_P} (hW : ln_sub p w W) {x : ln_V} (hx : W x) : W (fun c => -(x c)) := by
  refine hW.2.2.2 _ _ (fun c _ => ?_) (hW.2.2.1 (-1) _ hx)
  show nn_eq p (-1 * x c) (-(x c))
  rw [Int.neg_mul, Int.one_mul]
  exact nn_eq_rfl p _
theorem ln_sp_sub (S : ln_P) : ln_sub p w (ln_sp p w S) :=
  ⟨fun W hW _ => hW.1, fun x y hx hy W hW h => hW.2.1 _ _ (hx W hW h) (hy W hW h), fun a x hx W hW h => hW.2.2.1 a _ (hx W hW h), fun x y e hx W hW h => hW.2.2.2 _ _ e (hx W hW h)⟩
theorem ln_sp_mem {S : ln_P} {x : ln_V} (h : S x) : ln_sp p w S x := fun W _ hS => hS x h
theorem ln_in_sub (R : Nat → ln_V) : ln_sub p w (ln_in p w R) := by
  refine ⟨fun c _ => ?_, fun x y hx hy c hc => ?_, fun a x hx c hc => ?_, fun x y e hx c hc => ?_⟩
  · show nn_eq p 0 (nn_sm w (fun r => 0 * R r c))
    rw [nn_sm_0 w (fun r _ => Int.zero_mul _)]
    exact nn_eq_rfl p 0
  · show nn_eq p (x c + y c) (nn_sm w (fun r => (x r + y r) * R r c))
    have e : nn_sm w (fun r => (x r + y r) * R r c) = nn_sm w (fun r => x r * R r c) + nn_sm w (fun r => y r * R r c) := by
      rw [← nn_sm_add]
      exact nn_sm_congr w (fun r _ => Int.add_mul _ _ _)
    rw [e]
    exact nn_eq_add (hx c hc) (hy c hc)
  · show nn_eq p (a * x c) (nn_sm w (fun r => a * x r * R r c))
    have e : nn_sm w (fun r => a * x r * R r c) = a * nn_sm w (fun r => x r * R r c) := by
      rw [← nn_sm_mul]
      exact nn_sm_congr w (fun r _ => Int.mul_assoc _ _ _)
    rw [e]
    exact nn_eq_mul (nn_eq_rfl p a) (hx c hc)
  · refine nn_eq_trans (nn_eq_symm (e c hc)) (nn_eq_trans (hx c hc) ?_)
    exact nn_eq_sm w (fun r hr => nn_eq_mul (e r hr) (nn_eq_rfl p _))
theorem ln_R_col {R : Nat → ln_V} (hR : ln_R p w R) {r q : Nat} (hr : r < w) (hq : q < w) (hl : R r r ≠ 0) (hne : q ≠ r) : R q r = 0 := by
  rcases (hR r hr).2 with h | h
  · exact absurd (h r hr) hl
  · exact h.2.2 q hq hne
theorem ln_R_one {R : Nat → ln_V} (hR : ln_R p w R) {r : Nat} (hr : r < w) (hl : R r r ≠ 0) : R r r = 1 := by
  rcases (hR r hr).2 with h | h
  · exact absurd (h r hr) hl
  · exact h.1
theorem ln_R_zero {R : Nat → ln_V} (hR : ln_R p w R) {r c : Nat} (hr : r < w) (hc : c < w) (hl : R r r = 0) : R r c = 0 := by
  rcases (hR r hr).2 with h | h
  · exact h c hc
  · rw [hl] at h
    exact absurd h.1 (by omega)
theorem ln_R_low {R : Nat → ln_V} (hR : ln_R p w R) {r c : Nat} (hr : r < w) (hc : c < r) : R r c = 0 := by
  rcases (hR r hr).2 with h | h
  · exact h c (by omega)
  · exact h.2.1 c hc
/-- a sum of multiples of the rows at a lead -/
theorem ln_sm_lead {R : Nat → ln_V} (hR : ln_R p w R) (x : Nat → Int) {c : Nat} (hc : c < w) (hl : R c c ≠ 0) : nn_sm w (fun r => x r * R r c) = x c := by
  rw [nn_sm_one w c hc (fun r hr hne => by rw [ln_R_col hR hc hr hl hne, Int.mul_zero]), ln_R_one hR hc hl, Int.mul_one]
theorem ln_in_row {R : Nat → ln_V} (hR : ln_R p w R) {r : Nat} (hr : r < w) : ln_in p w R (R r) := by
  intro c hc
  show nn_eq p (R r c) (nn_sm w (fun q => R r q * R q c))
  rw [nn_sm_one w r hr (fun q hq hne => ?_)]
  · by_cases hl : R r r = 0
    · rw [ln_R_zero hR hr hc hl, Int.mul_zero]
      exact nn_eq_rfl p 0
    · rw [ln_R_one hR hr hl, Int.one_mul]
      exact nn_eq_rfl p _
  · by_cases hl : R q q = 0
    · rw [ln_R_zero hR hq hc hl, Int.mul_zero]
    · rw [ln_R_col hR hq hr hl (Ne.symm hne), Int.zero_mul]
theorem ln_in_W {R : Nat → ln_V} {W : ln_P} (hW : ln_sub p w W) (hg : ln_g w R W) {x : ln_V} (hx : ln_in p w R x) : W x :=
  hW.2.2.2 _ _ (ln_eq_symm hx) (ln_sub_sm hW x w hg)
theorem ln_in_iff {R : Nat → ln_V} (hR : ln_R p w R) {x : ln_V} : ln_in p w R x ↔ ∀ W, ln_sub p w W → ln_g w R W → W x :=
  ⟨fun h W hW hg => ln_in_W hW hg h, fun h => h _ (ln_in_sub R) (fun _ hr => ln_in_row hR hr)⟩
theorem ln_lead_of {R R' : Nat → ln_V} (hR : ln_R p w R) (hR' : ln_R p w R') (hp : 1 < p) (h : ∀ x, ln_in p w R x → ln_in p w R' x) {r : Nat} (hr : r < w) (hl : R r r ≠ 0) : R' r r ≠ 0 := by
  have h1 := h _ (ln_in_row hR hr) r hr
  have h2 : nn_sm w (fun q => R r q * R' q r) = R r r * R' r r := nn_sm_one w r hr (fun q hq hne => by
    by_cases hlt : q < r
    · rw [ln_R_low hR hr hlt, Int.zero_mul]
    · rw [ln_R_low hR' hq (by omega), Int.mul_zero])
  have h1 : nn_eq p (R r r) (nn_sm w (fun q => R r q * R' q r)) := h1
  rw [h2, ln_R_one hR hr hl, Int.one_mul] at h1
  intro h0
  rw [h0, nn_eq_iff, Int.zero_emod, Int.emod_eq_of_lt (by omega) hp] at h1
  omega
/-- U in V, the same leads: the same matrix -/
theorem ln_same {R R' : Nat → ln_V} (hR : ln_R p w R) (hR' : ln_R p w R') (h : ∀ x, ln_in p w R x → ln_in p w R' x) (hl : ∀ r, r < w → (R r r = 0 ↔ R' r r = 0)) : ∀ r c, r < w → c < w → R r c = R' r c := by
  intro r c hr hc
  by_cases h0 : R r r = 0
  · rw [ln_R_zero hR hr hc h0, ln_R_zero hR' hr hc ((hl r hr).mp h0)]
  · have h1 := h _ (ln_in_row hR hr) c hc
    have h1 : nn_eq p (R r c) (nn_sm w (fun q => R r q * R' q c)) := h1
    rw [nn_sm_one w r hr (fun q hq hne => ?_), ln_R_one hR hr h0, Int.one_mul] at h1
    · exact nn_eq_red h1 ((hR r hr).1 c hc) ((hR' r hr).1 c hc)
    · by_cases hq0 : R' q q = 0
      · rw [ln_R_zero hR' hq hc hq0, Int.mul_zero]
      · rw [ln_R_col hR hq hr (fun z => hq0 ((hl q hq).mp z)) (Ne.symm hne), Int.zero_mul]
/-- THE CANONICAL MATRIX IS ONE -/
theorem ln_uniq {R R' : Nat → ln_V} (hR : ln_R p w R) (hR' : ln_R p w R') (hp : 1 < p) (h : ∀ x, ln_in p w R x ↔ ln_in p w R' x) : ∀ r c, r < w → c < w → R r c = R' r c :=
  ln_same hR hR' (fun x => (h x).mp) (fun r hr => ⟨fun z => Decidable.byContradiction fun z2 => ln_lead_of hR' hR hp (fun x => (h x).mpr) hr z2 z, fun z => Decidable.byContradiction fun z2 => ln_lead_of hR hR' hp (fun x => (h x).mp) hr z2 z⟩)
theorem ln_ct_congr {R R' : Nat → ln_V} : ∀ n, (∀ r, r < n → (R r r = 0 ↔ R' r r = 0)) → ln_ct R n = ln_ct R' n
  | 0, _ => rfl
  | n + 1, h => by
    show ln_ct R n + _ = ln_ct R' n + _
    rw [ln_ct_congr n (fun r hr => h r (by omega))]
    by_cases h0 : R n n = 0
    · rw [if_pos h0, if_pos ((h n (by omega)).mp h0)]
    · rw [if_neg h0, if_neg (fun z => h0 ((h n (by omega)).mpr z))]
theorem ln_ct_le {R R' : Nat → ln_V} : ∀ n, (∀ r, r < n → R r r ≠ 0 → R' r r ≠ 0) → ln_ct R n ≤ ln_ct R' n ∧ (ln_ct R n = ln_ct R' n → ∀ r, r < n → R' r r ≠ 0 → R r r ≠ 0)
  | 0, _ => ⟨Nat.le_refl _, fun _ r hr => absurd hr (by omega)⟩
  | n + 1, h => by
    obtain ⟨h1, h2⟩ := ln_ct_le n (fun r hr => h r (by omega))
    show ln_ct R n + _ ≤ ln_ct R' n + _ ∧ (ln_ct R n + _ = ln_ct R' n + _ → _)
    by_cases h0 : R n n = 0
    · rw [if_pos h0]
      by_cases h0' : R' n n = 0
      · rw [if_pos h0']
        refine ⟨h1, fun e r hr hz => ?_⟩
        by_cases hrn : r = n
        · subst hrn; exact absurd h0' hz
        · exact h2 e r (by omega) hz
      · rw [if_neg h0']
        exact ⟨by omega, fun e => by omega⟩
    · rw [if_neg h0, if_neg (h n (by omega) h0)]
      refine ⟨by omega, fun e r hr hz => ?_⟩
      by_cases hrn : r = n
      · subst hrn; exact h0
      · exact h2 (by omega) r (by omega) hz
theorem ln_ct_w (R : Nat → ln_V) : ∀ n, ln_ct R n ≤ n
  | 0 => Nat.le_refl _
  | n + 1 => by
    have := ln_ct_w R n
    show ln_ct R n + _ ≤ n + 1
    split <;> omega
theorem ln_ct_0 {R : Nat → ln_V} : ∀ n, (∀ r, r < n → R r r = 0) → ln_ct R n = 0
  | 0, _ => rfl
  | n + 1, h => by
    show ln_ct R n + _ = 0
    rw [ln_ct_0 n (fun r hr => h r (by omega)), if_pos (h n (by omega))]
theorem ln_ct_eq0 {R : Nat → ln_V} : ∀ n, ln_ct R n = 0 → ∀ r, r < n → R r r = 0
  | 0, _, r, hr => absurd hr (by omega)
  | n + 1, h, r, hr => by
    have h : ln_ct R n + (if R n n = 0 then 0 else 1) = 0 := h
    by_cases hrn : r = n
    · subst hrn
      by_cases h0 : R r r = 0
      · exact h0
      · rw [if_neg h0] at h; omega
    · exact ln_ct_eq0 n (by omega) r (by omega)
/-- U in V: the dimensions; equal ones mean equality -/
theorem ln_dim {R R' : Nat → ln_V} (hR : ln_R p w R) (hR' : ln_R p w R') (hp : 1 < p) (h : ∀ x, ln_in p w R x → ln_in p w R' x) : ln_ct R w ≤ ln_ct R' w ∧ (ln_ct R w = ln_ct R' w → ∀ r c, r < w → c < w → R r c = R' r c) := by
  obtain ⟨h1, h2⟩ := ln_ct_le w (fun r hr hl => ln_lead_of hR hR' hp h hr hl)
  refine ⟨h1, fun e => ln_same hR hR' h (fun r hr => ⟨fun z => ?_, fun z => ?_⟩)⟩
  · exact Decidable.byContradiction fun z2 => h2 e r hr z2 z
  · exact Decidable.byContradiction fun z2 => ln_lead_of hR hR' hp h hr z2 z
theorem ln_in_congr {R R' : Nat → ln_V} (h : ∀ r c, r < w → c < w → R r c = R' r c) {x : ln_V} : ln_in p w R x ↔ ln_in p w R' x := by
  have key : ∀ {R R' : Nat → ln_V}, (∀ r c, r < w → c < w → R r c = R' r c) → ln_in p w R x → ln_in p w R' x := fun h hx c hc => by
    have := hx c hc
    refine nn_eq_trans this ?_
    exact nn_eq_sm w (fun r hr => by rw [h r c hr hc]; exact nn_eq_rfl p _)
  exact ⟨key h, key (fun r c hr hc => (h r c hr hc).symm)⟩
end LIN
end
section
/-! a vector comes to a subspace -/
section INS
variable {p : Int} {w : Nat}
/-- what is left of v over the rows -/
theorem ln_red_lead {R : Nat → ln_V} (hR : ln_R p w R) {v v1 : ln_V} (h1 : ln_eq p w v1 (fun c => v c - nn_sm w (fun r => v r * R r c))) {c : Nat} (hc : c < w) (hl : R c c ≠ 0) : nn_eq p (v1 c) 0 := by
  have h2 := h1 c hc
  have h2 : nn_eq p (v1 c) (v c - nn_sm w (fun r => v r * R r c)) := h2
  rw [ln_sm_lead hR v hc hl, Int.sub_self] at h2
  exact h2
theorem ln_red_in {R : Nat → ln_V} {v v1 : ln_V} (h1 : ln_eq p w v1 (fun c => v c - nn_sm w (fun r => v r * R r c))) : ln_in p w R v ↔ ∀ c, c < w → nn_eq p (v1 c) 0 := by
  constructor
  · intro h c hc
    refine nn_eq_trans (h1 c hc) ?_
    have h3 := nn_eq_sub (h c hc) (nn_eq_rfl p (nn_sm w (fun r => v r * R r c)))
    have h3 : nn_eq p (v c - nn_sm w (fun r => v r * R r c)) (nn_sm w (fun r => v r * R r c) - nn_sm w (fun r => v r * R r c)) := h3
    rw [Int.sub_self] at h3
    exact h3
  · intro h c hc
    have h2 := nn_eq_trans (nn_eq_symm (h1 c hc)) (h c hc)
    have h3 := nn_eq_add h2 (nn_eq_rfl p (nn_sm w (fun r => v r * R r c)))
    have h3 : nn_eq p (v c - nn_sm w (fun r => v r * R r c) + nn_sm w (fun r => v r * R r c)) (0 + nn_sm w (fun r => v r * R r c)) := h3
    rw [Int.sub_add_cancel, Int.zero_add] at h3
    exact h3
theorem ln_red_W {R : Nat → ln_V} {W : ln_P} (hW : ln_sub p w W) (hg : ln_g w R W) {v v1 : ln_V} (h1 : ln_eq p w v1 (fun c => v c - nn_sm w (fun r => v r * R r c))) : W v ↔ W v1 := by
  have hs := ln_sub_sm hW v w hg
  constructor
  · intro h
    refine hW.2.2.2 _ _ (ln_eq_symm (fun c hc => nn_eq_trans (h1 c hc) ?_)) (ln_sub_sub hW h hs 1)
    show nn_eq p (v c - nn_sm w (fun r => v r * R r c)) (v c - 1 * nn_sm w (fun r => v r * R r c))
    rw [Int.one_mul]
    exact nn_eq_rfl p _
  · intro h
    refine hW.2.2.2 _ _ (fun c hc => ?_) (hW.2.1 _ _ h hs)
    have h3 := nn_eq_add (h1 c hc) (nn_eq_rfl p (nn_sm w (fun r => v r * R r c)))
    have h3 : nn_eq p (v1 c + nn_sm w (fun r => v r * R r c)) (v c - nn_sm w (fun r => v r * R r c) + nn_sm w (fun r => v r * R r c)) := h3
    rw [Int.sub_add_cancel] at h3
    exact h3
theorem ln_scale_W {W : ln_P} (hW : ln_sub p w W) {v1 v2 : ln_V} {a b : Int} (hab : a * b % p = 1 % p) (h2 : ln_eq p w v2 (fun c => a * v1 c)) : W v1 ↔ W v2 := by
  constructor
  · intro h
    exact hW.2.2.2 _ _ (ln_eq_symm h2) (hW.2.2.1 a _ h)
  · intro h
    refine hW.2.2.2 _ _ (fun c hc => ?_) (hW.2.2.1 b _ h)
    have h3 := nn_eq_mul (nn_eq_rfl p b) (h2 c hc)
    refine nn_eq_trans h3 ?_
    have h4 : b * (a * v1 c) = a * b * v1 c := by rw [← Int.mul_assoc, Int.mul_comm b a]
    show nn_eq p (b * (a * v1 c)) (v1 c)
    rw [h4]
    have h5 := nn_eq_mul (nn_eq_iff.mpr hab) (nn_eq_rfl p (v1 c))
    rw [Int.one_mul] at h5
    exact h5
/-- the new matrix -/
theorem ln_ins {R R' : Nat → ln_V} (hR : ln_R p w R) (hp : 1 < p) {v2 : ln_V} {l : Nat} (hl : l < w) (hrg : ∀ c, c < w → 0 ≤ v2 c ∧ v2 c < p) (h1 : v2 l = 1) (h0 : ∀ c, c < l → v2 c = 0) (hz : ∀ r, r < w → R r r ≠ 0 → v2 r = 0)
    (hl' : ∀ c, c < w → R' l c = v2 c) (hr' : ∀ r c, r < w → r ≠ l → c < w → (0 ≤ R' r c ∧ R' r c < p) ∧ nn_eq p (R' r c) (R r c - R r l * v2 c)) :
    ln_R p w R' ∧ (∀ W, ln_sub p w W → (ln_g w R' W ↔ ln_g w R W ∧ W v2)) ∧ (∀ r, r < w → (R' r r = 0 ↔ (R r r = 0 ∧ r ≠ l))) := by
  have hll : R l l = 0 := Decidable.byContradiction fun z => by have := hz l hl z; omega
  have same : ∀ r c, r < w → r ≠ l → c < w → v2 c = 0 → R' r c = R r c := fun r c hr hne hc hv => by
    obtain ⟨a1, a2⟩ := hr' r c hr hne hc
    rw [hv, Int.mul_zero, Int.sub_zero] at a2
    exact nn_eq_red a2 a1 ((hR r hr).1 c hc)
  have diag : ∀ r, r < w → r ≠ l → (R' r r = R r r) := fun r hr hne => by
    by_cases h9 : R r r = 0
    · obtain ⟨a1, a2⟩ := hr' r r hr hne hr
      rw [ln_R_zero hR hr hl h9, Int.zero_mul, Int.sub_zero] at a2
      exact nn_eq_red a2 a1 ((hR r hr).1 r hr)
    · exact same r r hr hne hr (hz r hr h9)
  refine ⟨fun r hr => ⟨fun c hc => ?_, ?_⟩, fun W hW => ⟨fun hg => ?_, fun hg r hr => ?_⟩, fun r hr => ?_⟩
  · by_cases hne : r = l
    · subst hne; rw [hl' c hc]; exact hrg c hc
    · exact (hr' r c hr hne hc).1
  · by_cases hne : r = l
    · subst hne
      refine Or.inr ⟨by rw [hl' r hr]; exact h1, fun c hc => by rw [hl' c (by omega)]; exact h0 c hc, fun q hq hqr => ?_⟩
      obtain ⟨a1, a2⟩ := hr' q r hq hqr hr
      rw [h1, Int.mul_one, Int.sub_self] at a2
      exact nn_eq_red a2 a1 ⟨by omega, by omega⟩
    · by_cases h9 : R r r = 0
      · refine Or.inl (fun c hc => ?_)
        obtain ⟨a1, a2⟩ := hr' r c hr hne hc
        rw [ln_R_zero hR hr hl h9, Int.zero_mul, Int.sub_zero, ln_R_zero hR hr hc h9] at a2
        exact nn_eq_red a2 a1 ⟨by omega, by omega⟩
      · refine Or.inr ⟨by rw [diag r hr hne]; exact ln_R_one hR hr h9, fun c hc => ?_, fun q hq hqr => ?_⟩
        · obtain ⟨a1, a2⟩ := hr' r c hr hne (by omega)
          rw [ln_R_low hR hr hc] at a2
          by_cases hcl : c < l
          · rw [h0 c hcl, Int.mul_zero] at a2
            exact nn_eq_red a2 a1 ⟨by omega, by omega⟩
          · by_cases hlr : l < r
            · rw [ln_R_low hR hr hlr, Int.zero_mul] at a2
              exact nn_eq_red a2 a1 ⟨by omega, by omega⟩
            · omega
        · by_cases hql : q = l
          · subst hql
            rw [hl' r hr]
            exact hz r hr h9
          · rw [same q r hq hql hr (hz r hr h9)]
            exact ln_R_col hR hr hq h9 hqr
  · have hv2 : W v2 := hW.2.2.2 _ _ (fun c hc => by rw [hl' c hc]; exact nn_eq_rfl p _) (hg l hl)
    refine ⟨fun r hr => ?_, hv2⟩
    by_cases hne : r = l
    · subst hne
      exact hW.2.2.2 _ _ (fun c hc => by rw [ln_R_zero hR hr hc hll]; exact nn_eq_rfl p _) hW.1
    · refine hW.2.2.2 _ _ (fun c hc => ?_) (hW.2.1 _ _ (hg r hr) (hW.2.2.1 (R r l) _ hv2))
      have a2 := (hr' r c hr hne hc).2
      have a3 := nn_eq_add a2 (nn_eq_rfl p (R r l * v2 c))
      rw [Int.sub_add_cancel] at a3
      exact a3
  · obtain ⟨hg, hv2⟩ := hg
    by_cases hne : r = l
    · subst hne
      exact hW.2.2.2 _ _ (fun c hc => by rw [hl' c hc]; exact nn_eq_rfl p _) hv2
    · exact hW.2.2.2 _ _ (fun c hc => nn_eq_symm (hr' r c hr hne hc).2) (ln_sub_sub hW (hg r hr) hv2 (R r l))
  · by_cases hne : r = l
    · subst hne
      rw [hl' r hr, h1]
      exact ⟨fun z => by omega, fun z => absurd rfl z.2⟩
    · rw [diag r hr hne]
      exact ⟨fun z => ⟨z, hne⟩, fun z => z.1⟩
theorem ln_ct_ins {R R' : Nat → ln_V} {l : Nat} : ∀ n, l < n → R l l = 0 → (∀ r, r < n → (R' r r = 0 ↔ (R r r = 0 ∧ r ≠ l))) → ln_ct R' n = ln_ct R n + 1
  | n + 1, hl, h0, h => by
    show ln_ct R' n + _ = ln_ct R n + _ + 1
    by_cases hln : l = n
    · subst hln
      have e : ln_ct R' l = ln_ct R l := ln_ct_congr l (fun r hr => ⟨fun z => ((h r (by omega)).mp z).1, fun z => (h r (by omega)).mpr ⟨z, by omega⟩⟩)
      rw [e, if_pos h0, if_neg (fun z => ((h l (by omega)).mp z).2 rfl)]
    · have e := ln_ct_ins n (by omega) h0 (fun r hr => h r (by omega))
      rw [e]
      have e2 : (R' n n = 0) = (R n n = 0) := propext ⟨fun z => ((h n (by omega)).mp z).1, fun z => (h n (by omega)).mpr ⟨z, fun y => hln y.symm⟩⟩
      by_cases h9 : R n n = 0
      · rw [if_pos h9, if_pos (e2 ▸ h9)]
      · rw [if_neg h9, if_neg (fun z => h9 (e2 ▸ z))]
/-- R' is R with v: what a caller needs -/
def ln_join (p : Int) (w : Nat) (R : Nat → ln_V) (v : ln_V) (R' : Nat → ln_V) (b : Bool) : Prop :=
  ln_R p w R' ∧ (∀ W, ln_sub p w W → (ln_g w R' W ↔ ln_g w R W ∧ W v)) ∧ ln_ct R' w = ln_ct R w + (if b then 1 else 0) ∧ (b = true ↔ ¬ ln_in p w R v) ∧ (b = false → ∀ r c, r < w → c < w → R' r c = R r c)
theorem ln_g_mono {R : Nat → ln_V} {W W' : ln_P} (h : ∀ x, W x → W' x) (hg : ln_g w R W) : ln_g w R W' := fun r hr => h _ (hg r hr)
theorem ln_join_in {R R' : Nat → ln_V} {v : ln_V} {b : Bool} (h : ln_join p w R v R' b) : ln_in p w R' v ∧ ∀ x, ln_in p w R x → ln_in p w R' x := by
  obtain ⟨h1, h2, -⟩ := h
  have hg : ln_g w R' (ln_in p w R') := fun r hr => ln_in_row h1 hr
  have h3 := (h2 _ (ln_in_sub R')).mp hg
  exact ⟨h3.2, fun x hx => ln_in_W (ln_in_sub R') h3.1 hx⟩
theorem ln_join_same {R R' : Nat → ln_V} {v : ln_V} (hR : ln_R p w R) (hv : ln_in p w R v) (hs : ∀ r c, r < w → c < w → R' r c = R r c) : ln_join p w R v R' false := by
  refine ⟨fun r hr => ⟨fun c hc => by rw [hs r c hr hc]; exact (hR r hr).1 c hc, ?_⟩, fun W hW => ⟨fun hg => ?_, fun hg r hr => ?_⟩, ?_, ⟨fun z => (by cases z), fun z => absurd hv z⟩, fun _ => hs⟩
  · rcases (hR r hr).2 with h | h
    · exact Or.inl fun c hc => by rw [hs r c hr hc]; exact h c hc
    · exact Or.inr ⟨by rw [hs r r hr hr]; exact h.1, fun c hc => by rw [hs r c hr (by omega)]; exact h.2.1 c hc, fun q hq hne => by rw [hs q r hq hr]; exact h.2.2 q hq hne⟩
  · have hg2 : ln_g w R W := fun r hr => hW.2.2.2 _ _ (fun c hc => by rw [hs r c hr hc]; exact nn_eq_rfl p _) (hg r hr)
    exact ⟨hg2, ln_in_W hW hg2 hv⟩
  · exact hW.2.2.2 _ _ (fun c hc => by rw [hs r c hr hc]; exact nn_eq_rfl p _) (hg.1 r hr)
  · rw [ln_ct_congr w (fun r hr => by rw [hs r r hr hr])]
    rfl
end INS
end
section
/-! Subspace: cells, rows -/
section SUBS
variable {X : pj_X} {Q : pj_Q}
abbrev c_S (C b p w sz : pj_V) : pj_C := .inr (5, [C, b, p, w, sz])
theorem sb_ix {C r c : Nat} (hr : r ≤ C) (hc : c < C) : r * C + c < (C + 1) * C := by
  have h1 : r * C ≤ C * C := Nat.mul_le_mul_right C hr
  rw [Nat.add_mul]
  omega
theorem sb_ne {C r c r' c' : Nat} (hc : c < C) (hc' : c' < C) (h : r * C + c = r' * C + c') : r = r' ∧ c = c' := by
  have h1 : (r * C + c) / C = r := by rw [Nat.add_comm, Nat.add_mul_div_right _ _ (by omega), Nat.div_eq_of_lt hc, Nat.zero_add]
  have h2 : (r' * C + c') / C = r' := by rw [Nat.add_comm, Nat.add_mul_div_right _ _ (by omega), Nat.div_eq_of_lt hc', Nat.zero_add]
  have h3 : r = r' := by rw [← h1, h, h2]
  subst h3
  exact ⟨rfl, by omega⟩
theorem sb_sq {C : Nat} (hC : C ≤ 25) : (C + 1) * C ≤ 650 := by
  have : (C + 1) * C ≤ 26 * 25 := Nat.mul_le_mul (by omega) hC
  omega
theorem sb_rc {C r : Nat} (hC : C ≤ 25) (hr : r ≤ C) : r * C ≤ 625 := by
  have : r * C ≤ 25 * 25 := Nat.mul_le_mul (by omega) hC
  omega
theorem c_cell {C : Nat} {f : Nat → Int} {r c : Int} {r0 c0 : Nat} (hC : C ≤ 25) (hr : r = r0) (hc : c = c0) (hr0 : r0 ≤ C) (hc0 : c0 < C) (hQ : Q (some (.inl (f (r0 * C + c0)))) [c_S (.inl (C : Int)) (.inr 1) v_u v_u v_u, c_A ((C + 1) * C) f]) : pj_ci X m_Subspace_cell [.inr 0, .inl r, .inl c] [c_S (.inl (C : Int)) (.inr 1) v_u v_u v_u, c_A ((C + 1) * C) f] Q := by
  have h1 := sb_ix hr0 hc0
  have h2 := sb_sq hC
  have h3 : r * (C : Int) + c = ((r0 * C + c0 : Nat) : Int) := by rw [hr, hc]; simp
  refine wp_b rfl (by omega) (fun k => absurd k (by omega)) (fun k => ?_)
  refine wp_b rfl (by omega) (fun k => absurd k (by omega)) (fun k => ?_)
  refine wp_r rfl (by omega) ?_
  rw [h3, Int.toNat_natCast]
  exact hQ
theorem c_hasLead {C : Nat} {f : Nat → Int} {c : Int} {c0 : Nat} (hC : C ≤ 25) (hc : c = c0) (hc0 : c0 < C) (hf : pj_rg (f (c0 * C + c0))) (h1 : f (c0 * C + c0) ≠ 0 → Q (some (.inl 1)) [c_S (.inl (C : Int)) (.inr 1) v_u v_u v_u, c_A ((C + 1) * C) f]) (h0 : f (c0 * C + c0) = 0 → Q (some (.inl 0)) [c_S (.inl (C : Int)) (.inr 1) v_u v_u v_u, c_A ((C + 1) * C) f]) : pj_ci X m_Subspace_hasLead [.inr 0, .inl c] [c_S (.inl (C : Int)) (.inr 1) v_u v_u v_u, c_A ((C + 1) * C) f] Q := by
  have e1 := sb_ix (r := c0) (c := c0) (C := C) (by omega) hc0
  have e2 := sb_sq hC
  have e3 : c * (C : Int) + c = ((c0 * C + c0 : Nat) : Int) := by rw [hc]; simp
  have e4 : f (Int.toNat (c * (C : Int) + c)) = f (c0 * C + c0) := by rw [e3, Int.toNat_natCast]
  refine wp_b rfl (by omega) (fun k => absurd k (by omega)) (fun k => ?_)
  refine wp_b rfl (by omega) (fun k => absurd k (by omega)) (fun k => ?_)
  refine wp_b rfl (by rw [e4]; omega) (fun k => ?_) (fun k => ?_)
  · exact wp_r rfl (by omega) (h0 (by rw [← e4]; exact k))
  · exact wp_r rfl (by omega) (h1 (by rw [← e4]; exact k))
theorem sb_xor {x y : Int} (hx : pj_rg x) (hy : pj_rg y) (hy0 : 0 ≤ y) : pj_xor x y < 0 ↔ x < 0 := by
  have h1 : pj_xor x y = (Int32.ofInt x ^^^ Int32.ofInt y).toBitVec.toInt := rfl
  have key : ∀ b : BitVec 32, b.toInt < 0 ↔ b.msb = true := fun b => by
    rw [BitVec.msb_eq_toInt]
    simp
  have h2 : (Int32.ofInt y).toBitVec.msb = false := by
    cases hz : (Int32.ofInt y).toBitVec.msb with
    | false => rfl
    | true =>
      have := (key _).mpr hz
      have h5 : (Int32.ofInt y).toBitVec.toInt = y := pj_i32 hy
      omega
  rw [h1, key, Int32.toBitVec_xor, BitVec.msb_xor, h2, Bool.xor_false, ← key]
  have h5 : (Int32.ofInt x).toBitVec.toInt = x := pj_i32 hx
  rw [h5]
/-- Math.floorMod -/
theorem c_floorMod {x y : Int} (hx : pj_rg x) (hy : 0 < y ∧ y ≤ 1000000) (hQ : Q (some (.inl (x % y))) []) : pj_ci X m_Math_floorMod [.inl x, .inl y] [] Q := by
  obtain ⟨hx1, hx2⟩ := hx
  have h3 := Int.emod_lt_of_pos x hy.1
  have h4 := Int.emod_nonneg x (show y ≠ 0 by omega)
  obtain ⟨t1, t2⟩ := nn_tmod (x := x) hy.1
  have hr : -2147483648 ≤ x.tmod y ∧ x.tmod y ≤ 2147483647 := by
    by_cases h : 0 ≤ x.tmod y
    · have := t1 h; omega
    · have := t2 h; omega
  have hxo := sb_xor (x := x) (y := y) ⟨hx1, hx2⟩ ⟨by omega, by omega⟩ (by omega)
  have hxr : -2147483648 ≤ pj_xor x y ∧ pj_xor x y ≤ 2147483647 := by
    have a := Int32.le_toInt (Int32.ofInt x ^^^ Int32.ofInt y)
    have b := Int32.toInt_lt (Int32.ofInt x ^^^ Int32.ofInt y)
    show -2147483648 ≤ (Int32.ofInt x ^^^ Int32.ofInt y).toInt ∧ (Int32.ofInt x ^^^ Int32.ofInt y).toInt ≤ 2147483647
    omega
  refine wp_b rfl (by omega) (fun k => ?_) (fun k => ?_)
  · refine wp_r rfl (by omega) ?_
    have hx0 : 0 ≤ x := by
      rcases Int.lt_or_le x 0 with z | z
      · have := hxo.mpr z; omega
      · exact z
    rw [Int.tmod_eq_emod_of_nonneg hx0]
    exact hQ
  · refine wp_b rfl (by omega) (fun k2 => ?_) (fun k2 => ?_)
    · refine wp_r rfl (by omega) ?_
      rw [t1 (by omega)]
      exact hQ
    · have hx0 : x < 0 := hxo.mp (by omega)
      have hneg : ¬ 0 ≤ x.tmod y := by
        intro z
        have h6 : x.tmod y ≤ 0 := by
          have := Int.tmod_nonneg (a := -x) y (by omega)
          rw [Int.neg_tmod] at this
          omega
        omega
      refine wp_r rfl (by omega) ?_
      rw [t2 hneg]
      exact hQ
theorem c_addIncoming {C : Nat} {f : Nat → Int} {p w c x : Int} {c0 W : Nat} (hC : C ≤ 25) (hp : nn_p p) (hw : w = W) (hW : W ≤ C) (hc : c = c0) (hc0 : c0 < W) (hf : 0 ≤ f (C * C + c0) ∧ f (C * C + c0) < p) (hx : -1000000 ≤ x ∧ x ≤ 1000000)
    (hQ : Q none [c_S (.inl (C : Int)) (.inr 1) (.inl p) (.inl w) v_u, c_A ((C + 1) * C) (pj_up f (C * C + c0) ((f (C * C + c0) + x) % p))]) : pj_ci X m_Subspace_addIncoming [.inr 0, .inl c, .inl x] [c_S (.inl (C : Int)) (.inr 1) (.inl p) (.inl w) v_u, c_A ((C + 1) * C) f] Q := by
  obtain ⟨hp1, hp2, hp3⟩ := nn_p_pos hp
  have h1 := sb_ix (Nat.le_refl C) (show c0 < C by omega)
  have h2 := sb_sq hC
  have h3 : (C : Int) * (C : Int) + c = ((C * C + c0 : Nat) : Int) := by rw [hc]; simp
  refine wp_b rfl (by omega) (fun k => absurd k (by omega)) (fun k => ?_)
  refine wp_b rfl (by omega) (fun k => absurd k (by omega)) (fun k => ?_)
  refine wp_b rfl (by omega) (fun k => absurd k (by omega)) (fun k => ?_)
  refine wp_b rfl (by omega) (fun k => absurd k (by omega)) (fun k => ?_)
  have e : ((C : Int) * (C : Int) + c).toNat = C * C + c0 := by rw [h3, Int.toNat_natCast]
  refine wp_c rfl (by omega) [] (c_floorMod (by unfold pj_rg; rw [e]; omega) (by omega) ?_) rfl rfl rfl rfl
  refine wp_r rfl (by omega) ?_
  show Q none [c_S (.inl (C : Int)) (.inr 1) (.inl p) (.inl w) v_u, c_A ((C + 1) * C) (pj_up f ((C : Int) * (C : Int) + c).toNat ((f ((C : Int) * (C : Int) + c).toNat + x) % p))]
  rw [e]
  exact hQ
end SUBS
end
section
/-! Subspace: addRow, takeIncoming -/
section SUBS2
variable {X : pj_X} {Q : pj_Q}
abbrev w_S (C : Nat) (p w : Int) (sz : pj_V) (f : Nat → Int) : List pj_C := [c_S (.inl (C : Int)) (.inr 1) (.inl p) (.inl w) sz, c_A ((C + 1) * C) f]
/-- what addRow does to the cells -/
def sb_row (p : Int) (C W to from_ : Nat) (fac : Int) (f f' : Nat → Int) : Prop := ∀ r c, r ≤ C → c < C → f' (r * C + c) = if r = to ∧ c < W then (f (to * C + c) + fac * f (from_ * C + c)) % p else f (r * C + c)
theorem c_addRow_loop {C W t s : Nat} {p w fac : Int} {f : Nat → Int} (hC : C ≤ 25) (hp : nn_p p) (hw : w = W) (hW : W ≤ C) (ht : t ≤ C) (hs : s ≤ C) (hfac : 0 ≤ fac ∧ fac < p) (hft : ∀ c, c < W → 0 ≤ f (t * C + c) ∧ f (t * C + c) < p) (hfs : ∀ c, c < W → 0 ≤ f (s * C + c) ∧ f (s * C + c) < p) (d1 d2 d3 : pj_V) (hQ : ∀ f', sb_row p C W t s fac f f' → Q none (w_S C p w v_u f')) :
    ∀ (m k : Nat) (g : Nat → Int) (z tt ss : Int), k + m = W → z = k → tt = ((t * C : Nat) : Int) → ss = ((s * C : Nat) : Int) → sb_row p C k t s fac f g → pj_WP X m_Subspace_addRow 66 [.inr 0, d1, d2, d3, .inl fac, .inl tt, .inl ss, .inl z] [] (w_S C p w v_u g) Q := by
  obtain ⟨hp1, hp2, hp3⟩ := nn_p_pos hp
  intro m
  induction m with
  | zero =>
    intro k g z tt ss hk hz htt hss hg
    refine wp_b rfl (by omega) (fun c => ?_) (fun c => absurd c (by omega))
    refine wp_r rfl (by omega) ?_
    rw [show k = W by omega] at hg
    exact hQ g hg
  | succ m ih =>
    intro k g z tt ss hk hz htt hss hg
    have i1 := sb_ix ht (show k < C by omega)
    have i2 := sb_ix hs (show k < C by omega)
    have i3 := sb_sq hC
    have e1 : (tt + z).toNat = t * C + k := by rw [htt, hz]; omega
    have e2 : (ss + z).toNat = s * C + k := by rw [hss, hz]; omega
    have g1 : g (t * C + k) = f (t * C + k) := by rw [hg t k ht (by omega), if_neg (by omega)]
    have g2 : g (s * C + k) = f (s * C + k) := by rw [hg s k hs (by omega), if_neg (by omega)]
    have r1 := hft k (by omega)
    have r2 := nn_f7 hp hfac (hfs k (by omega))
    refine wp_b rfl (by omega) (fun c => absurd c (by omega)) (fun c => ?_)
    refine wp_g rfl ?_ ?_
    · rw [e1, e2, g1, g2]
      omega
    · refine ih (k + 1) _ _ _ _ (by omega) (by omega) htt hss ?_
      intro r c hr hc
      show pj_up g (tt + z).toNat ((g (tt + z).toNat + fac * g (ss + z).toNat).tmod p) (r * C + c) = _
      rw [e1, e2, g1, g2, Int.tmod_eq_emod_of_nonneg (by omega)]
      unfold pj_up
      by_cases h : r * C + c = t * C + k
      · obtain ⟨ha, hb⟩ := sb_ne hc (show k < C by omega) h
        subst ha hb
        rw [if_pos rfl, if_pos ⟨rfl, by omega⟩]
      · rw [if_neg h, hg r c hr hc]
        by_cases h2 : r = t ∧ c < k
        · rw [if_pos h2, if_pos ⟨h2.1, by omega⟩]
        · rw [if_neg h2, if_neg]
          rintro ⟨ha, hb⟩
          subst ha
          exact h2 ⟨rfl, by
            have : c ≠ k := fun e => h (by rw [e])
            omega⟩
/-- addRow(to, from, factor) -/
theorem c_addRow {C W t s : Nat} {p w fac : Int} {f : Nat → Int} {ti si : Int} (hC : C ≤ 25) (hp : nn_p p) (hw : w = W) (hW : W ≤ C) (hti : ti = t) (hsi : si = s) (ht : t ≤ C) (hs : s ≤ C) (hfac : 0 ≤ fac ∧ fac ≤ 1000) (hft : ∀ c, c < W → 0 ≤ f (t * C + c) ∧ f (t * C + c) < p) (hfs : ∀ c, c < W → 0 ≤ f (s * C + c) ∧ f (s * C + c) < p) (hQ : ∀ f', sb_row p C W t s (fac % p) f f' → Q none (w_S C p w v_u f')) : pj_ci X m_Subspace_addRow [.inr 0, .inl ti, .inl si, .inl fac] (w_S C p w v_u f) Q := by
  obtain ⟨hp1, hp2, hp3⟩ := nn_p_pos hp
  have e1 : fac.tmod p = fac % p := Int.tmod_eq_emod_of_nonneg hfac.1
  have e2 := Int.emod_nonneg fac (show p ≠ 0 by omega)
  have e3 := Int.emod_lt_of_pos fac hp1
  refine wp_b rfl (by omega) (fun k => absurd k (by omega)) (fun k => ?_)
  refine wp_b rfl (by omega) (fun k => absurd k (by omega)) (fun k => ?_)
  refine wp_b rfl (by omega) (fun k => absurd k (by omega)) (fun k => ?_)
  refine wp_b rfl (by omega) (fun k => absurd k (by omega)) (fun k => ?_)
  refine wp_b rfl (by omega) (fun k => ?_) (fun k => absurd k (by omega))
  refine wp_b rfl (by omega) (fun k => ?_) (fun k => ?_)
  · refine wp_g rfl (by omega) ?_
    rw [e1]
    exact c_addRow_loop hC hp hw hW ht hs ⟨e2, e3⟩ hft hfs _ _ _ hQ W 0 f _ _ _ (by omega) (by omega) (by rw [hti]; simp) (by rw [hsi]; simp) (fun r c hr hc => by rw [if_neg (by omega)])
  · refine wp_r rfl (by omega) ?_
    refine hQ f (fun r c hr hc => ?_)
    have h0 : fac % p = 0 := by rw [← e1]; exact Decidable.of_not_not k
    rw [h0, Int.zero_mul, Int.add_zero]
    by_cases h : r = t ∧ c < W
    · rw [if_pos h, h.1, Int.emod_eq_of_lt (hft c h.2).1 (hft c h.2).2]
    · rw [if_neg h]
/-- the matrix of the cells; the row that comes in -/
abbrev sb_R (C : Nat) (f : Nat → Int) : Nat → ln_V := fun r c => f (r * C + c)
abbrev sb_v (C : Nat) (f : Nat → Int) : ln_V := fun c => f (C * C + c)
set_option maxHeartbeats 1000000 in
theorem c_take1 {C W : Nat} {p w : Int} {f : Nat → Int} {sz : Int} (hC : C ≤ 25) (hp : nn_p p) (hw : w = W) (hW : W ≤ C) (hR : ln_R p W (sb_R C f)) (hv : ∀ c, c < W → 0 ≤ sb_v C f c ∧ sb_v C f c < p) (d2 : pj_V)
    (hQ : ∀ (f' : Nat → Int) (d : pj_V), (∀ r c, r < W → c < C → f' (r * C + c) = f (r * C + c)) → (∀ c, c < W → 0 ≤ sb_v C f' c ∧ sb_v C f' c < p) → ln_eq p W (sb_v C f') (fun c => sb_v C f c - nn_sm W (fun r => sb_v C f r * sb_R C f r c)) → pj_WP X m_Subspace_takeIncoming 46 [.inr 0, .inl (C : Int), d, d2] [] (w_S C p w (.inl sz) f') Q) :
    ∀ (m k : Nat) (g : Nat → Int) (z : Int), k + m = W → z = k → (∀ r c, r < W → c < C → g (r * C + c) = f (r * C + c)) → (∀ c, c < W → 0 ≤ sb_v C g c ∧ sb_v C g c < p) → ln_eq p W (sb_v C g) (fun c => sb_v C f c - nn_sm k (fun r => sb_v C f r * sb_R C f r c)) → pj_WP X m_Subspace_takeIncoming 7 [.inr 0, .inl (C : Int), .inl z, d2] [] (w_S C p w (.inl sz) g) Q := by
  obtain ⟨hp1, hp2, hp3⟩ := nn_p_pos hp
  intro m
  induction m with
  | zero =>
    intro k g z hk hz hg hgv hge
    refine wp_b rfl (by omega) (fun c => ?_) (fun c => absurd c (by omega))
    rw [show k = W by omega] at hge
    exact hQ g _ hg hgv hge
  | succ m ih =>
    intro k g z hk hz hg hgv hge
    have hkW : k < W := by omega
    have hrgk : pj_rg (g (k * C + k)) := by
      rw [hg k k hkW (by omega)]
      have := (hR k hkW).1 k hkW
      have this : 0 ≤ f (k * C + k) ∧ f (k * C + k) < p := this
      unfold pj_rg; omega
    refine wp_b rfl (by omega) (fun c => absurd c (by omega)) (fun c => ?_)
    refine wp_c rfl (by omega) [0, 1] (c_hasLead hC hz (by omega) hrgk (fun hl => ?_) (fun hl => ?_)) rfl rfl rfl rfl
    · refine wp_b rfl (by omega) (fun c => absurd c (by omega)) (fun c => ?_)
      refine wp_c rfl (by omega) [0, 1] (c_cell (r0 := C) hC rfl hz (Nat.le_refl C) (by omega) ?_) rfl rfl rfl rfl
      have hvk := hgv k hkW
      have hvk : 0 ≤ g (C * C + k) ∧ g (C * C + k) < p := hvk
      have hlf : sb_R C f k k ≠ 0 := by
        show f (k * C + k) ≠ 0
        rw [← hg k k hkW (by omega)]
        exact hl
      refine wp_c rfl (by omega) [0, 1] (c_addRow (t := C) (s := k) hC hp hw hW rfl hz (Nat.le_refl C) (by omega) (by omega) hgv (fun c hc => by
        rw [hg k c hkW (by omega)]
        exact (hR k hkW).1 c hc) (fun f' hrow => ?_)) rfl rfl rfl rfl
      refine wp_g rfl (by omega) ?_
      have hne : ∀ r, r < W → r ≠ C := fun r hr => by omega
      have hin : ∀ c, c < W → sb_v C f' c = (g (C * C + c) + (p - g (C * C + k)) % p * g (k * C + c)) % p := fun c hc => by
        show f' (C * C + c) = _
        rw [hrow C c (Nat.le_refl C) (by omega), if_pos ⟨rfl, hc⟩]
      refine ih (k + 1) f' _ (by omega) (by omega) (fun r c hr hc => ?_) (fun c hc => ?_) (fun c hc => ?_)
      · rw [hrow r c (by omega) hc, if_neg (fun h => hne r hr h.1)]
        exact hg r c hr hc
      · rw [hin c hc]
        exact ⟨Int.emod_nonneg _ (by omega), Int.emod_lt_of_pos _ hp1⟩
      · rw [hin c hc]
        refine nn_eq_trans (nn_eq_mod p _) ?_
        show nn_eq p _ (sb_v C f c - (nn_sm k (fun r => sb_v C f r * sb_R C f r c) + sb_v C f k * sb_R C f k c))
        have e1 : nn_eq p (g (C * C + k)) (sb_v C f k) := by
          have h9 := hge k hkW
          have h9 : nn_eq p (sb_v C g k) (sb_v C f k - nn_sm k (fun r => sb_v C f r * sb_R C f r k)) := h9
          rw [nn_sm_0 k (fun r hr => by rw [ln_R_col hR hkW (show r < W by omega) hlf (by omega), Int.mul_zero]), Int.sub_zero] at h9
          exact h9
        have e2 : nn_eq p ((p - g (C * C + k)) % p) (-(sb_v C f k)) := by
          refine nn_eq_trans (nn_eq_mod p _) ?_
          have h9 := nn_eq_sub (nn_eq_iff.mpr (show p % p = 0 % p by rw [Int.emod_self, Int.zero_emod])) e1
          rw [Int.zero_sub] at h9
          exact h9
        have e3 := nn_eq_add (hge c hc) (nn_eq_mul e2 (nn_eq_rfl p (sb_R C f k c)))
        have e4 : g (k * C + c) = sb_R C f k c := hg k c hkW (by omega)
        rw [e4]
        refine nn_eq_trans e3 ?_
        show nn_eq p (sb_v C f c - nn_sm k (fun r => sb_v C f r * sb_R C f r c) + -(sb_v C f k) * sb_R C f k c) _
        rw [Int.neg_mul, show sb_v C f c - nn_sm k (fun r => sb_v C f r * sb_R C f r c) + -(sb_v C f k * sb_R C f k c) = sb_v C f c - (nn_sm k (fun r => sb_v C f r * sb_R C f r c) + sb_v C f k * sb_R C f k c) by omega]
        exact nn_eq_rfl p _
    · refine wp_b rfl (by omega) (fun c => ?_) (fun c => absurd rfl c)
      refine wp_g rfl (by omega) ?_
      refine ih (k + 1) g _ (by omega) (by omega) hg hgv (fun c hc => ?_)
      have h0 : sb_R C f k c = 0 := ln_R_zero hR hkW hc (by
        show f (k * C + k) = 0
        rw [← hg k k hkW (by omega)]
        exact hl)
      have h9 := hge c hc
      show nn_eq p (sb_v C g c) (sb_v C f c - (nn_sm k (fun r => sb_v C f r * sb_R C f r c) + sb_v C f k * sb_R C f k c))
      rw [h0, Int.mul_zero, Int.add_zero]
      exact h9
end SUBS2
end
section
/-! Subspace: takeIncoming, join -/
section SUBS3
variable {X : pj_X} {Q : pj_Q}
/-- the first place that isn't 0 -/
theorem c_take2 {C W : Nat} {p w : Int} {f : Nat → Int} {sz : Int} (hC : C ≤ 25) (hw : w = W) (hW : W ≤ C) (hv : ∀ c, c < W → pj_rg (f (C * C + c))) (d2 : pj_V)
    (hQ0 : (∀ c, c < W → f (C * C + c) = 0) → ∀ z : Int, z = W → pj_WP X m_Subspace_takeIncoming 71 [.inr 0, .inl (C : Int), .inl z, d2] [] (w_S C p w (.inl sz) f) Q)
    (hQ1 : ∀ (l : Nat) (z : Int), z = l → l < W → (∀ c, c < l → f (C * C + c) = 0) → f (C * C + l) ≠ 0 → pj_WP X m_Subspace_takeIncoming 71 [.inr 0, .inl (C : Int), .inl z, d2] [] (w_S C p w (.inl sz) f) Q) :
    ∀ (m k : Nat) (z : Int), k + m = W → z = k → (∀ c, c < k → f (C * C + c) = 0) → pj_WP X m_Subspace_takeIncoming 48 [.inr 0, .inl (C : Int), .inl z, d2] [] (w_S C p w (.inl sz) f) Q := by
  intro m
  induction m with
  | zero =>
    intro k z hk hz h0
    refine wp_b rfl (by omega) (fun c => ?_) (fun c => absurd c (by omega))
    rw [show k = W by omega] at h0
    exact hQ0 h0 z (by omega)
  | succ m ih =>
    intro k z hk hz h0
    have hrg := hv k (by omega)
    obtain ⟨r1, r2⟩ := hrg
    refine wp_b rfl (by omega) (fun c => absurd c (by omega)) (fun c => ?_)
    refine wp_c rfl (by omega) [0, 1] (c_cell (r0 := C) hC rfl hz (Nat.le_refl C) (by omega) ?_) rfl rfl rfl rfl
    refine wp_b rfl (by omega) (fun c => ?_) (fun c => ?_)
    · exact hQ1 k z hz (by omega) h0 c
    · refine wp_g rfl (by omega) ?_
      refine ih (k + 1) _ (by omega) (by omega) (fun c2 hc2 => ?_)
      by_cases h : c2 = k
      · subst h; exact Decidable.of_not_not c
      · exact h0 c2 (by omega)
/-- the rows ahead of the new one lose its lead -/
theorem c_take3 {C W l : Nat} {p w li : Int} {f : Nat → Int} {sz : Int} (hC : C ≤ 25) (hp : nn_p p) (hw : w = W) (hW : W ≤ C) (hl : l < W) (hli : li = l) (hrg : ∀ r c, r < W → c < W → 0 ≤ f (r * C + c) ∧ f (r * C + c) < p) (hv : ∀ c, c < W → 0 ≤ f (C * C + c) ∧ f (C * C + c) < p)
    (hQ : ∀ (g : Nat → Int) (d : pj_V), (∀ r c, r < W → c < W → g (r * C + c) = if r < l then (f (r * C + c) + (p - f (r * C + l)) % p * f (C * C + c)) % p else f (r * C + c)) → (∀ c, c < C → g (C * C + c) = f (C * C + c)) → pj_WP X m_Subspace_takeIncoming 132 [.inr 0, .inl (C : Int), .inl li, d] [] (w_S C p w (.inl sz) g) Q) :
    ∀ (m k : Nat) (g : Nat → Int) (z : Int), k + m = l → z = k → (∀ r c, r < W → c < W → g (r * C + c) = if r < k then (f (r * C + c) + (p - f (r * C + l)) % p * f (C * C + c)) % p else f (r * C + c)) → (∀ c, c < C → g (C * C + c) = f (C * C + c)) → pj_WP X m_Subspace_takeIncoming 104 [.inr 0, .inl (C : Int), .inl li, .inl z] [] (w_S C p w (.inl sz) g) Q := by
  obtain ⟨hp1, hp2, hp3⟩ := nn_p_pos hp
  intro m
  induction m with
  | zero =>
    intro k g z hk hz hg hgv
    refine wp_b rfl (by omega) (fun c => ?_) (fun c => absurd c (by omega))
    rw [show k = l by omega] at hg
    exact hQ g _ hg hgv
  | succ m ih =>
    intro k g z hk hz hg hgv
    have hgk : ∀ c, c < W → g (k * C + c) = f (k * C + c) := fun c hc => by rw [hg k c (by omega) hc, if_neg (by omega)]
    have r1 := hrg k l (by omega) hl
    refine wp_b rfl (by omega) (fun c => absurd c (by omega)) (fun c => ?_)
    refine wp_c rfl (by omega) [0, 1] (c_cell (r0 := k) (c0 := l) hC hz hli (by omega) (by omega) ?_) rfl rfl rfl rfl
    rw [hgk l hl]
    refine wp_c rfl (by omega) [0, 1] (c_addRow (t := k) (s := C) hC hp hw hW hz rfl (by omega) (Nat.le_refl C) (by omega) (fun c hc => by
      rw [hgk c hc]
      exact hrg k c (by omega) hc) (fun c hc => by
      rw [hgv c (by omega)]
      exact hv c hc) (fun f' hrow => ?_)) rfl rfl rfl rfl
    refine wp_g rfl (by omega) ?_
    refine ih (k + 1) f' _ (by omega) (by omega) (fun r c hr hc => ?_) (fun c hc => ?_)
    · rw [hrow r c (by omega) (by omega)]
      by_cases h : r = k
      · subst h
        rw [if_pos ⟨rfl, hc⟩, if_pos (by omega), hgk c hc, hgv c (by omega)]
      · rw [if_neg (fun z => h z.1), hg r c hr hc]
        by_cases h2 : r < k
        · rw [if_pos h2, if_pos (by omega)]
        · rw [if_neg h2, if_neg (by omega)]
    · rw [hrow C c (Nat.le_refl C) hc, if_neg (fun z => by omega)]
      exact hgv c hc
set_option maxHeartbeats 1000000 in
/-- takeIncoming(): the incoming vector comes to the subspace -/
theorem c_take {C W : Nat} {p w sz : Int} {f : Nat → Int} (hC : C ≤ 25) (hp : nn_p p) (hw : w = W) (hW : W ≤ C) (hR : ln_R p W (sb_R C f)) (hv : ∀ c, c < W → 0 ≤ sb_v C f c ∧ sb_v C f c < p)
    (hQ : ∀ (f' : Nat → Int) (b : Bool), ln_join p W (sb_R C f) (sb_v C f) (sb_R C f') b → (∀ c, c < W → f' (C * C + c) = 0) → Q (some (.inl (if b then 1 else 0))) (w_S C p w (.inl (sz + if b then 1 else 0)) f')) : pj_ci X m_Subspace_takeIncoming [.inr 0] (w_S C p w (.inl sz) f) Q := by
  obtain ⟨hp1, hp2, hp3⟩ := nn_p_pos hp
  refine wp_g rfl (by omega) ?_
  refine c_take1 hC hp hw hW hR hv _ (fun f1 d hf1 hv1 he1 => ?_) W 0 f _ (by omega) (by omega) (fun _ _ _ _ => rfl) hv (fun c hc => by
    show nn_eq p _ (sb_v C f c - nn_sm 0 _)
    rw [show nn_sm 0 (fun r => sb_v C f r * sb_R C f r c) = 0 from rfl, Int.sub_zero]
    exact nn_eq_rfl p _)
  have hR1 : ln_R p W (sb_R C f1) := by
    intro r hr
    refine ⟨fun c hc => by show 0 ≤ f1 (r * C + c) ∧ f1 (r * C + c) < p; rw [hf1 r c hr (by omega)]; exact (hR r hr).1 c hc, ?_⟩
    rcases (hR r hr).2 with h | h
    · exact Or.inl fun c hc => by show f1 (r * C + c) = 0; rw [hf1 r c hr (by omega)]; exact h c hc
    · refine Or.inr ⟨by show f1 (r * C + r) = 1; rw [hf1 r r hr (by omega)]; exact h.1, fun c hc => by show f1 (r * C + c) = 0; rw [hf1 r c hr (by omega)]; exact h.2.1 c hc, fun q hq hne => by show f1 (q * C + r) = 0; rw [hf1 q r hq (by omega)]; exact h.2.2 q hq hne⟩
  have hRR : ∀ r c, r < W → c < W → sb_R C f1 r c = sb_R C f r c := fun r c hr hc => hf1 r c hr (by omega)
  have hin := ln_red_in (R := sb_R C f) (v := sb_v C f) he1
  refine wp_g rfl (by omega) ?_
  refine c_take2 hC hw hW (fun c hc => by have := hv1 c hc; have this : 0 ≤ f1 (C * C + c) ∧ f1 (C * C + c) < p := this; unfold pj_rg; omega) _ (fun h0 z hz => ?_) (fun l z hz hl h0 hne => ?_) W 0 _ (by omega) (by omega) (fun c hc => absurd hc (by omega))
  · refine wp_b rfl (by omega) (fun c => absurd c (by omega)) (fun c => ?_)
    refine wp_r rfl (by omega) ?_
    have := hQ f1 false (ln_join_same hR (hin.mpr (fun c hc => by
      show nn_eq p (f1 (C * C + c)) 0
      rw [h0 c hc]
      exact nn_eq_rfl p 0)) hRR) h0
    simpa using this
  · have hvl := hv1 l hl
    have hvl : 0 ≤ f1 (C * C + l) ∧ f1 (C * C + l) < p := hvl
    refine wp_b rfl (by omega) (fun c => ?_) (fun c => absurd c (by omega))
    refine wp_c rfl (by omega) [0, 1] (c_cell (r0 := C) (c0 := l) hC rfl hz (Nat.le_refl C) (by omega) ?_) rfl rfl rfl rfl
    refine wp_c rfl (by omega) [] (c_inverse hp ⟨by omega, hvl.2⟩ (fun y hy1 hy2 hy3 => ?_)) rfl rfl rfl rfl
    refine wp_c rfl (by omega) [0, 1] (c_addRow (t := C) (s := C) hC hp hw hW rfl rfl (Nat.le_refl C) (Nat.le_refl C) (by omega) hv1 hv1 (fun f2 hrow2 => ?_)) rfl rfl rfl rfl
    have hf2 : ∀ r c, r < W → c < W → f2 (r * C + c) = f1 (r * C + c) := fun r c hr hc => by rw [hrow2 r c (by omega) (by omega), if_neg (fun z => by omega)]
    have hv2 : ∀ c, c < W → f2 (C * C + c) = (f1 (C * C + c) + (y - 1) % p * f1 (C * C + c)) % p := fun c hc => by rw [hrow2 C c (Nat.le_refl C) (by omega), if_pos ⟨rfl, hc⟩]
    have hv2g : ∀ c, c < W → 0 ≤ f2 (C * C + c) ∧ f2 (C * C + c) < p := fun c hc => by
      rw [hv2 c hc]
      exact ⟨Int.emod_nonneg _ (by omega), Int.emod_lt_of_pos _ hp1⟩
    have hsc : ln_eq p W (fun c => f2 (C * C + c)) (fun c => y * f1 (C * C + c)) := fun c hc => by
      show nn_eq p (f2 (C * C + c)) (y * f1 (C * C + c))
      rw [hv2 c hc]
      refine nn_eq_trans (nn_eq_mod p _) ?_
      have h9 := nn_eq_add (nn_eq_rfl p (f1 (C * C + c))) (nn_eq_mul (nn_eq_mod p (y - 1)) (nn_eq_rfl p (f1 (C * C + c))))
      rw [Int.sub_mul, Int.one_mul, show f1 (C * C + c) + (y * f1 (C * C + c) - f1 (C * C + c)) = y * f1 (C * C + c) by omega] at h9
      exact h9
    have hrg2 : ∀ r c, r < W → c < W → 0 ≤ f2 (r * C + c) ∧ f2 (r * C + c) < p := fun r c hr hc => by
      rw [hf2 r c hr hc]
      exact (hR1 r hr).1 c hc
    refine wp_g rfl (by omega) ?_
    refine c_take3 hC hp hw hW hl hz hrg2 hv2g (fun g d hg hgv => ?_) l 0 f2 _ (by omega) (by omega) (fun r c hr hc => by rw [if_neg (by omega)]) (fun _ _ => rfl)
    have hgrow : ∀ r c, r < W → c < W → 0 ≤ g (r * C + c) ∧ g (r * C + c) < p := fun r c hr hc => by
      rw [hg r c hr hc]
      split
      · exact ⟨Int.emod_nonneg _ (by omega), Int.emod_lt_of_pos _ hp1⟩
      · exact hrg2 r c hr hc
    have hgv2 : ∀ c, c < W → 0 ≤ g (C * C + c) ∧ g (C * C + c) < p := fun c hc => by rw [hgv c (by omega)]; exact hv2g c hc
    refine wp_c rfl (by omega) [0, 1] (c_addRow (t := l) (s := C) hC hp hw hW hz rfl (by omega) (Nat.le_refl C) (by omega) (fun c hc => hgrow l c hl hc) hgv2 (fun f4 hrow4 => ?_)) rfl rfl rfl rfl
    have hf4v : ∀ c, c < W → f4 (C * C + c) = g (C * C + c) := fun c hc => by rw [hrow4 C c (Nat.le_refl C) (by omega), if_neg (fun z => by omega)]
    have hf4v2 : ∀ c, c < W → 0 ≤ f4 (C * C + c) ∧ f4 (C * C + c) < p := fun c hc => by rw [hf4v c hc]; exact hgv2 c hc
    refine wp_c rfl (by omega) [0, 1] (c_addRow (t := C) (s := C) hC hp hw hW rfl rfl (Nat.le_refl C) (Nat.le_refl C) (by omega) hf4v2 hf4v2 (fun f5 hrow5 => ?_)) rfl rfl rfl rfl
    refine wp_r rfl (by omega) ?_
    have hR' : ∀ r c, r < W → c < W → f5 (r * C + c) = f4 (r * C + c) := fun r c hr hc => by rw [hrow5 r c (by omega) (by omega), if_neg (fun z => by omega)]
    have hlr : sb_R C f l l = 0 := Decidable.byContradiction fun z9 => by
      have h9 := ln_red_lead hR (v := sb_v C f) he1 hl z9
      have h9 : nn_eq p (f1 (C * C + l)) 0 := h9
      exact hne (nn_eq_red h9 hvl ⟨by omega, by omega⟩)
    have hone : f2 (C * C + l) = 1 := by
      have h9 := hsc l hl
      refine nn_eq_red (nn_eq_trans h9 (nn_eq_iff.mpr ?_)) (hv2g l hl) ⟨by omega, by omega⟩
      show (y * f1 (C * C + l)) % p = 1 % p
      rw [hy3, Int.emod_eq_of_lt (by omega) (by omega)]
    have hzero : ∀ c, c < W → nn_eq p (f1 (C * C + c)) 0 → f2 (C * C + c) = 0 := fun c hc h9 => by
      refine nn_eq_red (nn_eq_trans (hsc c hc) ?_) (hv2g c hc) ⟨by omega, by omega⟩
      have h8 := nn_eq_mul (nn_eq_rfl p y) h9
      rw [Int.mul_zero] at h8
      exact h8
    have hl4 : ∀ c, c < W → f5 (l * C + c) = f2 (C * C + c) := fun c hc => by
      rw [hR' l c hl hc, hrow4 l c (by omega) (by omega), if_pos ⟨rfl, hc⟩, hg l c hl hc, if_neg (by omega), hgv c (by omega), hf2 l c hl hc]
      have e0 : f1 (l * C + c) = 0 := by
        rw [hf1 l c hl (by omega)]
        exact ln_R_zero hR hl hc hlr
      have h8 := hv2g c hc
      rw [e0, Int.zero_add, Int.emod_eq_of_lt (a := 1) (by omega) (by omega), Int.one_mul, Int.emod_eq_of_lt h8.1 h8.2]
    have hrr : ∀ r c, r < W → r ≠ l → c < W → (0 ≤ f5 (r * C + c) ∧ f5 (r * C + c) < p) ∧ nn_eq p (f5 (r * C + c)) (f (r * C + c) - f (r * C + l) * f2 (C * C + c)) := fun r c hr hne2 hc => by
      have e5 : f5 (r * C + c) = g (r * C + c) := by rw [hR' r c hr hc, hrow4 r c (by omega) (by omega), if_neg (fun z => hne2 z.1)]
      rw [e5]
      refine ⟨hgrow r c hr hc, ?_⟩
      rw [hg r c hr hc]
      have e6 : f2 (r * C + c) = f (r * C + c) := (hf2 r c hr hc).trans (hf1 r c hr (by omega))
      have e7 : f2 (r * C + l) = f (r * C + l) := (hf2 r l hr hl).trans (hf1 r l hr (by omega))
      by_cases hrl : r < l
      · rw [if_pos hrl, e6, e7]
        refine nn_eq_trans (nn_eq_mod p _) ?_
        have e8 : nn_eq p ((p - f (r * C + l)) % p) (-(f (r * C + l))) := by
          refine nn_eq_trans (nn_eq_mod p _) ?_
          have h9 := nn_eq_sub (nn_eq_iff.mpr (show p % p = 0 % p by rw [Int.emod_self, Int.zero_emod])) (nn_eq_rfl p (f (r * C + l)))
          rw [Int.zero_sub] at h9
          exact h9
        have h9 := nn_eq_add (nn_eq_rfl p (f (r * C + c))) (nn_eq_mul e8 (nn_eq_rfl p (f2 (C * C + c))))
        rw [Int.neg_mul, ← Int.sub_eq_add_neg] at h9
        exact h9
      · rw [if_neg hrl, e6]
        have e9 : f (r * C + l) = 0 := ln_R_low hR hr (show l < r by omega)
        rw [e9, Int.zero_mul, Int.sub_zero]
        exact nn_eq_rfl p _
    have hins := ln_ins (p := p) (w := W) (R := sb_R C f) (R' := sb_R C f5) hR (by omega) (v2 := fun c => f2 (C * C + c)) hl hv2g hone (fun c hc => hzero c (by omega) (by rw [h0 c hc]; exact nn_eq_rfl p 0)) (fun r hr hlead => hzero r hr (ln_red_lead hR (v := sb_v C f) he1 hr hlead)) hl4 hrr
    have hjoin : ln_join p W (sb_R C f) (sb_v C f) (sb_R C f5) true := by
      refine ⟨hins.1, fun W9 hW9 => ?_, ?_, ⟨fun _ h9 => ?_, fun _ => rfl⟩, fun h9 => by cases h9⟩
      · rw [hins.2.1 W9 hW9]
        have hs1 : W9 (sb_v C f1) ↔ W9 (fun c => f2 (C * C + c)) := ln_scale_W hW9 (a := y) (b := f1 (C * C + l)) (by rw [hy3, Int.emod_eq_of_lt (by omega) (by omega)]) hsc
        constructor
        · rintro ⟨a1, a2⟩
          exact ⟨a1, (ln_red_W hW9 a1 he1).mpr (hs1.mpr a2)⟩
        · rintro ⟨a1, a2⟩
          exact ⟨a1, hs1.mp ((ln_red_W hW9 a1 he1).mp a2)⟩
      · exact ln_ct_ins W hl hlr hins.2.2
      · have h8 := hin.mp h9 l hl
        have h8 : nn_eq p (f1 (C * C + l)) 0 := h8
        exact hne (nn_eq_red h8 hvl ⟨by omega, by omega⟩)
    have hfin0 := hQ f5 true hjoin (fun c hc => by
      rw [hrow5 C c (Nat.le_refl C) (by omega), if_pos ⟨rfl, hc⟩]
      have h8 := hf4v2 c hc
      have h9 := nn_eq_add (nn_eq_rfl p (f4 (C * C + c))) (nn_eq_mul (nn_eq_mod p (p - 1)) (nn_eq_rfl p (f4 (C * C + c))))
      rw [nn_eq_iff.mp h9, Int.sub_mul, Int.one_mul, show f4 (C * C + c) + (p * f4 (C * C + c) - f4 (C * C + c)) = p * f4 (C * C + c) by omega, Int.mul_emod_right])
    have hfin : Q (some (.inl 1)) (w_S C p w (.inl (sz + 1)) f5) := by simpa using hfin0
    exact hfin
end SUBS3
end
section
/-! Subspace: begin, join, vector -/
section SUBS4
variable {X : pj_X} {Q : pj_Q}
theorem c_min {x y : Int} (hx : pj_rg x) (hy : pj_rg y) (hQ : Q (some (.inl (min x y))) []) : pj_ci X m_Math_min [.inl x, .inl y] [] Q := by
  obtain ⟨a, b⟩ := hx
  obtain ⟨c, d⟩ := hy
  refine wp_b rfl (by omega) (fun k => ?_) (fun k => ?_)
  · refine wp_r rfl (by omega) ?_
    rw [show min x y = y by omega] at hQ
    exact hQ
  · refine wp_r rfl (by omega) ?_
    rw [show min x y = x by omega] at hQ
    exact hQ
theorem c_max {x y : Int} (hx : pj_rg x) (hy : pj_rg y) (hQ : Q (some (.inl (max x y))) []) : pj_ci X m_Math_max [.inl x, .inl y] [] Q := by
  obtain ⟨a, b⟩ := hx
  obtain ⟨c, d⟩ := hy
  refine wp_b rfl (by omega) (fun k => ?_) (fun k => ?_)
  · refine wp_r rfl (by omega) ?_
    rw [show max x y = y by omega] at hQ
    exact hQ
  · refine wp_r rfl (by omega) ?_
    rw [show max x y = x by omega] at hQ
    exact hQ
/-- begin(p, w): the subspace 0 -/
theorem c_Sbegin {C W : Nat} {p w : Int} {f : Nat → Int} (hC : C ≤ 25) (hw : w = W) (hW : W ≤ C) (hQ : Q none (w_S C p w (.inl 0) (fun k => if k < (C + 1) * C then 0 else f k))) : pj_ci X m_Subspace_begin [.inr 0, .inl p, .inl w] [c_S (.inl (C : Int)) (.inr 1) v_u v_u v_u, c_A ((C + 1) * C) f] Q := by
  have h2 := sb_sq hC
  refine wp_c rfl (by omega) [] (c_min (by unfold pj_rg; omega) (by unfold pj_rg; omega) ?_) rfl rfl rfl rfl
  rw [show min w (C : Int) = w by omega]
  refine wp_c rfl (by omega) [] (c_max (by unfold pj_rg; omega) (by unfold pj_rg; omega) ?_) rfl rfl rfl rfl
  rw [show max 0 w = w by omega]
  refine wp_c rfl (by omega) [1] (c_fill (by omega) ?_) rfl rfl rfl rfl
  exact wp_r rfl (by omega) hQ
/-- a subspace as it stands between two calls -/
def sb_ok (C W : Nat) (p : Int) (f : Nat → Int) (sz : Int) : Prop := ln_R p W (sb_R C f) ∧ (∀ c, c < W → f (C * C + c) = 0) ∧ sz = ln_ct (sb_R C f) W
theorem sb_zero {C W : Nat} {p : Int} {f : Nat → Int} (hp : 0 < p) (hW : W ≤ C) : sb_ok C W p (fun k => if k < (C + 1) * C then 0 else f k) 0 ∧ ∀ r c, r < W → c < W → sb_R C (fun k => if k < (C + 1) * C then 0 else f k) r c = 0 := by
  have h0 : ∀ r c, r ≤ C → c < C → (if r * C + c < (C + 1) * C then 0 else f (r * C + c)) = 0 := fun r c hr hc => if_pos (sb_ix hr hc)
  refine ⟨⟨fun r hr => ⟨fun c hc => ?_, Or.inl fun c hc => h0 r c (by omega) (by omega)⟩, fun c hc => h0 C c (Nat.le_refl C) (by omega), ?_⟩, fun r c hr hc => h0 r c (by omega) (by omega)⟩
  · show 0 ≤ (if r * C + c < (C + 1) * C then 0 else f (r * C + c)) ∧ (if r * C + c < (C + 1) * C then 0 else f (r * C + c)) < p
    rw [h0 r c (by omega) (by omega)]
    omega
  · rw [ln_ct_0 W (fun r hr => h0 r r (by omega) (by omega))]
    rfl
theorem c_join_loop {W : Nat} {p w v : Int} {f : Nat → Int} {sz : Int} (hp : nn_p p) (hw : w = W) (hW : W ≤ 5) (hv : 0 ≤ v ∧ v ≤ 2147483647) (hok : sb_ok 5 W p f sz)
    (hQ : ∀ (f' : Nat → Int) (b : Bool), ln_join p W (sb_R 5 f) (nn_dg p v) (sb_R 5 f') b → sb_ok 5 W p f' (sz + if b then 1 else 0) → Q (some (.inl (if b then 1 else 0))) [c_S (.inl 5) (.inr 1) (.inl p) (.inl w) (.inl (sz + if b then 1 else 0)), c_A 30 f', c_T (.inl p) v_u v_u]) :
    ∀ (m k : Nat) (g : Nat → Int) (z : Int), k + m = W → z = k → (∀ r c, r < W → c < W → g (r * 5 + c) = f (r * 5 + c)) → (∀ c, c < W → g (5 * 5 + c) = if c < k then nn_dg p v c else 0) → pj_WP X m_Subspace_join 2 [.inr 0, .inr 2, .inl v, .inl z] [] [c_S (.inl 5) (.inr 1) (.inl p) (.inl w) (.inl sz), c_A 30 g, c_T (.inl p) v_u v_u] Q := by
  obtain ⟨hp1, hp2, hp3⟩ := nn_p_pos hp
  intro m
  induction m with
  | zero =>
    intro k g z hk hz hg hgv
    refine wp_b rfl (by omega) (fun c => ?_) (fun c => absurd c (by omega))
    have hRg : ln_R p W (sb_R 5 g) := by
      intro r hr
      refine ⟨fun c hc => by show 0 ≤ g (r * 5 + c) ∧ g (r * 5 + c) < p; rw [hg r c hr hc]; exact (hok.1 r hr).1 c hc, ?_⟩
      rcases (hok.1 r hr).2 with h | h
      · exact Or.inl fun c hc => by show g (r * 5 + c) = 0; rw [hg r c hr hc]; exact h c hc
      · exact Or.inr ⟨by show g (r * 5 + r) = 1; rw [hg r r hr hr]; exact h.1, fun c hc => by show g (r * 5 + c) = 0; rw [hg r c hr (by omega)]; exact h.2.1 c hc, fun q hq hne => by show g (q * 5 + r) = 0; rw [hg q r hq hr]; exact h.2.2 q hq hne⟩
    have hvv : ∀ c, c < W → sb_v 5 g c = nn_dg p v c := fun c hc => by
      show g (5 * 5 + c) = _
      rw [hgv c hc, if_pos (by omega)]
    refine wp_c rfl (by omega) [0, 1] (c_take (C := 5) (W := W) (by omega) hp hw hW hRg (fun c hc => by rw [hvv c hc]; exact nn_dg_rg hp1 c v) (fun f' b hj h0 => ?_)) rfl rfl rfl rfl
    refine wp_r rfl (by cases b <;> simp) ?_
    have hj2 : ln_join p W (sb_R 5 f) (nn_dg p v) (sb_R 5 f') b := by
      obtain ⟨j1, j2, j3, j4, j5⟩ := hj
      have hsame : ∀ r c, r < W → c < W → sb_R 5 g r c = sb_R 5 f r c := fun r c hr hc => hg r c hr hc
      refine ⟨j1, fun W9 hW9 => ?_, ?_, ?_, fun hb r c hr hc => (j5 hb r c hr hc).trans (hsame r c hr hc)⟩
      · rw [j2 W9 hW9]
        have e1 : ln_g W (sb_R 5 g) W9 ↔ ln_g W (sb_R 5 f) W9 := ⟨fun h r hr => hW9.2.2.2 _ _ (fun c hc => by rw [hsame r c hr hc]; exact nn_eq_rfl p _) (h r hr), fun h r hr => hW9.2.2.2 _ _ (fun c hc => by rw [hsame r c hr hc]; exact nn_eq_rfl p _) (h r hr)⟩
        have e2 : W9 (sb_v 5 g) ↔ W9 (nn_dg p v) := ⟨fun h => hW9.2.2.2 _ _ (fun c hc => by rw [hvv c hc]; exact nn_eq_rfl p _) h, fun h => hW9.2.2.2 _ _ (fun c hc => by rw [hvv c hc]; exact nn_eq_rfl p _) h⟩
        rw [e1, e2]
      · rw [j3, ln_ct_congr W (fun r hr => by rw [hsame r r hr hr])]
      · rw [j4]
        have e3 : ln_in p W (sb_R 5 g) (sb_v 5 g) ↔ ln_in p W (sb_R 5 f) (nn_dg p v) := by
          rw [ln_in_congr hsame]
          exact ⟨fun h => (ln_in_sub _).2.2.2 _ _ (fun c hc => by rw [hvv c hc]; exact nn_eq_rfl p _) h, fun h => (ln_in_sub _).2.2.2 _ _ (fun c hc => by rw [hvv c hc]; exact nn_eq_rfl p _) h⟩
        rw [e3]
    refine hQ f' b hj2 ⟨hj2.1, h0, ?_⟩
    rw [hok.2.2, hj2.2.2.1]
    cases b <;> simp
  | succ m ih =>
    intro k g z hk hz hg hgv
    refine wp_b rfl (by omega) (fun c => absurd c (by omega)) (fun c => ?_)
    have hd := nn_dg_rg hp1 k v
    refine wp_c rfl (by omega) [2] (c_coord (K := k) hp hv (by omega) hz ?_) rfl rfl rfl rfl
    have e0 : g (5 * 5 + k) = 0 := by rw [hgv k (by omega), if_neg (by omega)]
    refine wp_c rfl (by omega) [0, 1] (c_addIncoming (C := 5) (W := W) (c0 := k) (by omega) hp hw hW hz (by omega) (by rw [e0]; omega) (by omega) ?_) rfl rfl rfl rfl
    refine wp_g rfl (by omega) ?_
    refine ih (k + 1) _ _ (by omega) (by omega) (fun r c hr hc => ?_) (fun c hc => ?_)
    · show pj_up g (5 * 5 + k) _ (r * 5 + c) = _
      unfold pj_up
      rw [if_neg (by omega)]
      exact hg r c hr hc
    · show pj_up g (5 * 5 + k) ((g (5 * 5 + k) + nn_dg p v k) % p) (5 * 5 + c) = _
      unfold pj_up
      by_cases h : c = k
      · subst h
        rw [if_pos rfl, if_pos (by omega), e0, Int.zero_add, Int.emod_eq_of_lt hd.1 hd.2]
      · rw [if_neg (by omega), hgv c hc]
        by_cases h2 : c < k
        · rw [if_pos h2, if_pos (by omega)]
        · rw [if_neg h2, if_neg (by omega)]
/-- join(table, v) -/
theorem c_join {W : Nat} {p w v : Int} {f : Nat → Int} {sz : Int} (hp : nn_p p) (hw : w = W) (hW : W ≤ 5) (hv : 0 ≤ v ∧ v ≤ 2147483647) (hok : sb_ok 5 W p f sz)
    (hQ : ∀ (f' : Nat → Int) (b : Bool), ln_join p W (sb_R 5 f) (nn_dg p v) (sb_R 5 f') b → sb_ok 5 W p f' (sz + if b then 1 else 0) → Q (some (.inl (if b then 1 else 0))) [c_S (.inl 5) (.inr 1) (.inl p) (.inl w) (.inl (sz + if b then 1 else 0)), c_A 30 f', c_T (.inl p) v_u v_u]) : pj_ci X m_Subspace_join [.inr 0, .inr 2, .inl v] [c_S (.inl 5) (.inr 1) (.inl p) (.inl w) (.inl sz), c_A 30 f, c_T (.inl p) v_u v_u] Q := by
  refine wp_g rfl (by omega) ?_
  exact c_join_loop hp hw hW hv hok hQ W 0 f _ (by omega) (by omega) (fun _ _ _ _ => rfl) (fun c hc => by rw [hok.2.1 c hc, if_neg (by omega)])
theorem c_row_loop {W r0 : Nat} {p w r : Int} {f : Nat → Int} (hp : nn_p p) (hw : w = W) (hW : W ≤ 5) (hr : r = r0) (hr0 : r0 < W) (hf : ∀ c, c < W → 0 ≤ f (r0 * 5 + c) ∧ f (r0 * 5 + c) < p)
    (hQ : Q (some (.inl (nn_nm p W (sb_R 5 f r0)))) [c_S (.inl 5) (.inr 1) (.inl p) (.inl w) v_u, c_A 30 f]) :
    ∀ (m k : Nat) (v u z : Int), k + m = W → z = k → v = nn_nm p k (sb_R 5 f r0) → u = p ^ k → pj_WP X m_Subspace_rowAsVector 7 [.inr 0, .inl r, .inl v, .inl u, .inl z] [] [c_S (.inl 5) (.inr 1) (.inl p) (.inl w) v_u, c_A 30 f] Q := by
  intro m
  induction m with
  | zero =>
    intro k v u z hk hz hv hu
    refine wp_b rfl (by omega) (fun c => ?_) (fun c => absurd c (by omega))
    refine wp_r rfl (by omega) ?_
    rw [hv, show k = W by omega]
    exact hQ
  | succ m ih =>
    intro k v u z hk hz hv hu
    refine wp_b rfl (by omega) (fun c => absurd c (by omega)) (fun c => ?_)
    refine wp_c rfl (by omega) [0, 1] (c_cell (C := 5) (r0 := r0) (c0 := k) (by omega) hr hz (by omega) (by omega) ?_) rfl rfl rfl rfl
    refine wp_g rfl (by omega) ?_
    exact ih (k + 1) _ _ _ (by omega) (by omega) (by rw [hv, hu, nn_nm_last]) (by rw [hu, Int.pow_succ])
/-- rowAsVector(row) -/
theorem c_row {W r0 : Nat} {p w r : Int} {f : Nat → Int} (hp : nn_p p) (hw : w = W) (hW : W ≤ 5) (hr : r = r0) (hr0 : r0 < W) (hf : ∀ c, c < W → 0 ≤ f (r0 * 5 + c) ∧ f (r0 * 5 + c) < p)
    (hQ : Q (some (.inl (nn_nm p W (sb_R 5 f r0)))) [c_S (.inl 5) (.inr 1) (.inl p) (.inl w) v_u, c_A 30 f]) : pj_ci X m_Subspace_rowAsVector [.inr 0, .inl r] [c_S (.inl 5) (.inr 1) (.inl p) (.inl w) v_u, c_A 30 f] Q := by
  refine wp_g rfl (by omega) ?_
  exact c_row_loop hp hw hW hr hr0 hf hQ W 0 _ _ _ (by omega) (by omega) rfl (by rw [Int.pow_zero])
theorem c_vector_loop {W : Nat} {p w i : Int} {I : Nat} {f : Nat → Int} (hp : nn_p p) (hw : w = W) (hW : W ≤ 5) (hi : i = I) (hI : I ≤ 2147483647) (hR : ln_R p W (sb_R 5 f))
    (hQ1 : ∀ r, r < W → sb_R 5 f r r ≠ 0 → ln_ct (sb_R 5 f) r = I → Q (some (.inl (nn_nm p W (sb_R 5 f r)))) [c_S (.inl 5) (.inr 1) (.inl p) (.inl w) v_u, c_A 30 f])
    (hQ0 : ln_ct (sb_R 5 f) W ≤ I → Q (some (.inl (-9))) [c_S (.inl 5) (.inr 1) (.inl p) (.inl w) v_u, c_A 30 f]) :
    ∀ (m k : Nat) (b z : Int), k + m = W → z = k → b = ln_ct (sb_R 5 f) k → ln_ct (sb_R 5 f) k ≤ I → pj_WP X m_Subspace_vector 4 [.inr 0, .inl i, .inl b, .inl z] [] [c_S (.inl 5) (.inr 1) (.inl p) (.inl w) v_u, c_A 30 f] Q := by
  obtain ⟨hp1, hp2, hp3⟩ := nn_p_pos hp
  intro m
  induction m with
  | zero =>
    intro k b z hk hz hb hle
    refine wp_b rfl (by omega) (fun c => ?_) (fun c => absurd c (by omega))
    refine wp_r rfl (by omega) (hQ0 (by rw [show k = W by omega] at hle; exact hle))
  | succ m ih =>
    intro k b z hk hz hb hle
    have hkW : k < W := by omega
    have hct := ln_ct_w (sb_R 5 f) k
    have hrg := (hR k hkW).1 k hkW
    have hrg : 0 ≤ f (k * 5 + k) ∧ f (k * 5 + k) < p := hrg
    refine wp_b rfl (by omega) (fun c => absurd c (by omega)) (fun c => ?_)
    refine wp_c rfl (by omega) [0, 1] (c_hasLead (C := 5) (c0 := k) (by omega) hz (by omega) (by unfold pj_rg; omega) (fun hl => ?_) (fun hl => ?_)) rfl rfl rfl rfl
    · refine wp_b rfl (by omega) (fun c => absurd c (by omega)) (fun c => ?_)
      refine wp_b rfl (by omega) (fun c2 => ?_) (fun c2 => ?_)
      · refine wp_g rfl (by omega) ?_
        have e : ln_ct (sb_R 5 f) (k + 1) = ln_ct (sb_R 5 f) k + 1 := by
          show ln_ct (sb_R 5 f) k + (if f (k * 5 + k) = 0 then 0 else 1) = _
          rw [if_neg hl]
        exact ih (k + 1) _ _ (by omega) (by omega) (by rw [e, hb]; omega) (by rw [e]; omega)
      · refine wp_c rfl (by omega) [0, 1] (c_row (W := W) (r0 := k) hp hw hW hz hkW (fun c hc => (hR k hkW).1 c hc) ?_) rfl rfl rfl rfl
        exact wp_r rfl (by omega) (hQ1 k hkW hl (by have := Decidable.of_not_not c2; omega))
    · refine wp_b rfl (by omega) (fun c => ?_) (fun c => absurd rfl c)
      refine wp_g rfl (by omega) ?_
      have e : ln_ct (sb_R 5 f) (k + 1) = ln_ct (sb_R 5 f) k := by
        show ln_ct (sb_R 5 f) k + (if f (k * 5 + k) = 0 then 0 else 1) = _
        rw [if_pos hl]
        rfl
      exact ih (k + 1) _ _ (by omega) (by omega) (by rw [e, hb]) (by rw [e]; exact hle)
/-- vector(index) -/
theorem c_vector {W : Nat} {p w i : Int} {I : Nat} {f : Nat → Int} (hp : nn_p p) (hw : w = W) (hW : W ≤ 5) (hi : i = I) (hI : I ≤ 2147483647) (hR : ln_R p W (sb_R 5 f))
    (hQ1 : ∀ r, r < W → sb_R 5 f r r ≠ 0 → ln_ct (sb_R 5 f) r = I → Q (some (.inl (nn_nm p W (sb_R 5 f r)))) [c_S (.inl 5) (.inr 1) (.inl p) (.inl w) v_u, c_A 30 f])
    (hQ0 : ln_ct (sb_R 5 f) W ≤ I → Q (some (.inl (-9))) [c_S (.inl 5) (.inr 1) (.inl p) (.inl w) v_u, c_A 30 f]) : pj_ci X m_Subspace_vector [.inr 0, .inl i] [c_S (.inl 5) (.inr 1) (.inl p) (.inl w) v_u, c_A 30 f] Q := by
  refine wp_g rfl (by omega) ?_
  exact c_vector_loop hp hw hW hi hI hR hQ1 hQ0 W 0 _ _ (by omega) (by omega) rfl (Nat.zero_le _)
end SUBS4
end
section
/-! the bracket is bilinear; the leads by number -/
section BIL
variable {p : Int} {N : Nat} {T : Nat → Nat → Nat → Int}
theorem tt_bk_congr {u u' v v' : ln_V} (hu : ln_eq p N u u') (hv : ln_eq p N v v') (k : Nat) : nn_eq p (tt_bk p N T u v k) (tt_bk p N T u' v' k) := by
  refine nn_eq_trans (nn_eq_mod p _) (nn_eq_trans ?_ (nn_eq_symm (nn_eq_mod p _)))
  exact nn_eq_sm N (fun i hi => nn_eq_sm N (fun j hj => nn_eq_mul (nn_eq_mul (hu i hi) (hv j hj)) (nn_eq_rfl p _)))
theorem tt_bk_eq {u v : ln_V} (k : Nat) : nn_eq p (tt_bk p N T u v k) (nn_sm N (fun i => nn_sm N (fun j => u i * v j * T i j k))) := nn_eq_mod p _
theorem tt_bk_add_r (u v v' : ln_V) (k : Nat) : nn_eq p (tt_bk p N T u (fun c => v c + v' c) k) (tt_bk p N T u v k + tt_bk p N T u v' k) := by
  refine nn_eq_trans (tt_bk_eq k) (nn_eq_trans ?_ (nn_eq_symm (nn_eq_add (tt_bk_eq k) (tt_bk_eq k))))
  rw [← nn_sm_add]
  refine nn_eq_sm N (fun i _ => ?_)
  rw [← nn_sm_add]
  refine nn_eq_sm N (fun j _ => ?_)
  rw [Int.mul_add, Int.add_mul]
  exact nn_eq_rfl p _
theorem tt_bk_add_l (u u' v : ln_V) (k : Nat) : nn_eq p (tt_bk p N T (fun c => u c + u' c) v k) (tt_bk p N T u v k + tt_bk p N T u' v k) := by
  refine nn_eq_trans (tt_bk_eq k) (nn_eq_trans ?_ (nn_eq_symm (nn_eq_add (tt_bk_eq k) (tt_bk_eq k))))
  rw [← nn_sm_add]
  refine nn_eq_sm N (fun i _ => ?_)
  rw [← nn_sm_add]
  refine nn_eq_sm N (fun j _ => ?_)
  rw [Int.add_mul, Int.add_mul]
  exact nn_eq_rfl p _
theorem tt_bk_mul_r (a : Int) (u v : ln_V) (k : Nat) : nn_eq p (tt_bk p N T u (fun c => a * v c) k) (a * tt_bk p N T u v k) := by
  refine nn_eq_trans (tt_bk_eq k) (nn_eq_trans ?_ (nn_eq_symm (nn_eq_mul (nn_eq_rfl p a) (tt_bk_eq k))))
  rw [← nn_sm_mul]
  refine nn_eq_sm N (fun i _ => ?_)
  rw [← nn_sm_mul]
  refine nn_eq_sm N (fun j _ => ?_)
  rw [Int.mul_left_comm (u i) a (v j), Int.mul_assoc a]
  exact nn_eq_rfl p _
theorem tt_bk_mul_l (a : Int) (u v : ln_V) (k : Nat) : nn_eq p (tt_bk p N T (fun c => a * u c) v k) (a * tt_bk p N T u v k) := by
  refine nn_eq_trans (tt_bk_eq k) (nn_eq_trans ?_ (nn_eq_symm (nn_eq_mul (nn_eq_rfl p a) (tt_bk_eq k))))
  rw [← nn_sm_mul]
  refine nn_eq_sm N (fun i _ => ?_)
  rw [← nn_sm_mul]
  refine nn_eq_sm N (fun j _ => ?_)
  rw [Int.mul_assoc a, Int.mul_assoc a]
  exact nn_eq_rfl p _
theorem tt_bk_0r (u : ln_V) (k : Nat) : tt_bk p N T u (fun _ => 0) k = 0 := by
  unfold tt_bk
  rw [nn_sm_0 N (fun i _ => nn_sm_0 N (fun j _ => by rw [Int.mul_zero, Int.zero_mul])), Int.zero_emod]
theorem tt_bk_0l (v : ln_V) (k : Nat) : tt_bk p N T (fun _ => 0) v k = 0 := by
  unfold tt_bk
  rw [nn_sm_0 N (fun i _ => nn_sm_0 N (fun j _ => by rw [Int.zero_mul, Int.zero_mul])), Int.zero_emod]
theorem tt_sub_r {W : ln_P} (hW : ln_sub p N W) (u : ln_V) : ln_sub p N (fun v => W (tt_bk p N T u v)) := by
  refine ⟨hW.2.2.2 _ _ (fun c _ => by rw [tt_bk_0r]; exact nn_eq_rfl p 0) hW.1, fun x y hx hy => ?_, fun a x hx => ?_, fun x y e hx => ?_⟩
  · exact hW.2.2.2 _ _ (fun c _ => nn_eq_symm (tt_bk_add_r u x y c)) (hW.2.1 _ _ hx hy)
  · exact hW.2.2.2 _ _ (fun c _ => nn_eq_symm (tt_bk_mul_r a u x c)) (hW.2.2.1 a _ hx)
  · exact hW.2.2.2 _ _ (fun c _ => tt_bk_congr (ln_eq_rfl u) e c) hx
theorem tt_sub_l {W : ln_P} (hW : ln_sub p N W) (v : ln_V) : ln_sub p N (fun u => W (tt_bk p N T u v)) := by
  refine ⟨hW.2.2.2 _ _ (fun c _ => by rw [tt_bk_0l]; exact nn_eq_rfl p 0) hW.1, fun x y hx hy => ?_, fun a x hx => ?_, fun x y e hx => ?_⟩
  · exact hW.2.2.2 _ _ (fun c _ => nn_eq_symm (tt_bk_add_l x y v c)) (hW.2.1 _ _ hx hy)
  · exact hW.2.2.2 _ _ (fun c _ => nn_eq_symm (tt_bk_mul_l a x v c)) (hW.2.2.1 a _ hx)
  · exact hW.2.2.2 _ _ (fun c _ => tt_bk_congr e (ln_eq_rfl v) c) hx
/-- from the leads' rows to all of both -/
theorem tt_bil {W : ln_P} (hW : ln_sub p N W) {L R : Nat → ln_V} (hL : ln_R p N L) (hR : ln_R p N R) (h : ∀ r q, r < N → q < N → L r r ≠ 0 → R q q ≠ 0 → W (tt_bk p N T (L r) (R q))) {u v : ln_V} (hu : ln_in p N L u) (hv : ln_in p N R v) : W (tt_bk p N T u v) := by
  have zr : ∀ {R : Nat → ln_V}, ln_R p N R → ∀ q, q < N → R q q = 0 → ln_eq p N (fun _ => 0) (R q) := fun hR q hq h0 c hc => by
    rw [ln_R_zero hR hq hc h0]
    exact nn_eq_rfl p 0
  have h1 : ∀ r, r < N → W (tt_bk p N T (L r) v) := fun r hr => by
    by_cases h0 : L r r = 0
    · exact (tt_sub_l hW v).2.2.2 _ _ (zr hL r hr h0) (tt_sub_l hW v).1
    · refine ln_in_W (tt_sub_r hW (L r)) (fun q hq => ?_) hv
      by_cases h2 : R q q = 0
      · exact (tt_sub_r hW (L r)).2.2.2 _ _ (zr hR q hq h2) (tt_sub_r hW (L r)).1
      · exact h r q hr hq h0 h2
  exact ln_in_W (tt_sub_l hW v) h1 hu
theorem tt_bk_rg (hp : 0 < p) (u v : ln_V) (k : Nat) : 0 ≤ tt_bk p N T u v k ∧ tt_bk p N T u v k < p := ⟨Int.emod_nonneg _ (by omega), Int.emod_lt_of_pos _ hp⟩
theorem ln_ct_mono {R : Nat → ln_V} : ∀ (m r : Nat), ln_ct R r ≤ ln_ct R (r + m)
  | 0, _ => Nat.le_refl _
  | m + 1, r => by
    have := ln_ct_mono (R := R) m r
    show _ ≤ ln_ct R (r + m) + _
    omega
theorem ln_ct_lt {R : Nat → ln_V} {r q : Nat} (h : r < q) (hl : R r r ≠ 0) : ln_ct R r < ln_ct R q := by
  obtain ⟨m, rfl⟩ := Nat.exists_eq_add_of_lt h
  have := ln_ct_mono (R := R) m (r + 1)
  have e : ln_ct R (r + 1) = ln_ct R r + 1 := by
    show ln_ct R r + _ = _
    rw [if_neg hl]
  rw [show r + m + 1 = r + 1 + m by omega]
  omega
theorem ln_ct_inj {R : Nat → ln_V} {r q : Nat} (hr : R r r ≠ 0) (hq : R q q ≠ 0) (h : ln_ct R r = ln_ct R q) : r = q := by
  rcases Nat.lt_trichotomy r q with z | z | z
  · have := ln_ct_lt z hr; omega
  · exact z
  · have := ln_ct_lt z hq; omega
end BIL
end
section
/-! Spaces.addProducts: the sum apart (A1: two factors; A2: one), the sum the right factor (B1), the sum both (B2). Written by wip/tools/addp.py. -/
section ADDP
variable {X : pj_X} {Q : pj_Q} {p n : Int} {N : Nat} {T : Nat → Nat → Nat → Int} {br : Nat → Int}
theorem nn_nm_row {C W r : Nat} {f : Nat → Int} (hp : nn_p p) (hR : ln_R p W (sb_R C f)) (hr : r < W) (hW : W ≤ 5) : (0 ≤ nn_nm p W (sb_R C f r) ∧ nn_nm p W (sb_R C f r) ≤ 2147483647) ∧ ∀ c, c < W → nn_dg p (nn_nm p W (sb_R C f r)) c = sb_R C f r c := by
  have hp1 := (nn_p_pos hp).1
  have h := nn_nm_rg hp1 W (f := sb_R C f r) (fun c hc => (hR r hr).1 c hc)
  have h2 := nn_pwle hp W hW
  exact ⟨by omega, fun c hc => nn_dg_nm hp1 W (fun c hc => (hR r hr).1 c hc) c hc⟩
theorem tt_bk_num (hp : nn_p p) (hN : N ≤ 5) (u v : ln_V) : (0 ≤ nn_nm p N (tt_bk p N T u v) ∧ nn_nm p N (tt_bk p N T u v) ≤ 2147483647) ∧ ∀ c, c < N → nn_dg p (nn_nm p N (tt_bk p N T u v)) c = tt_bk p N T u v c := by
  have hp1 := (nn_p_pos hp).1
  have h := nn_nm_rg hp1 N (f := tt_bk p N T u v) (fun c _ => tt_bk_rg hp1 u v c)
  have h2 := nn_pwle hp N hN
  exact ⟨by omega, fun c hc => nn_dg_nm hp1 N (fun c _ => tt_bk_rg hp1 u v c) c hc⟩
/-- the products so far: of the leads numbered below a, and of that numbered a with those below b -/
def ap_pd (p : Int) (N : Nat) (T : Nat → Nat → Nat → Int) (L R : Nat → ln_V) (a b : Nat) (W : ln_P) : Prop := ∀ r q, r < N → q < N → L r r ≠ 0 → R q q ≠ 0 → (ln_ct L r < a ∨ (ln_ct L r = a ∧ ln_ct R q < b)) → W (tt_bk p N T (L r) (R q))
theorem ap_pd_next {L R : Nat → ln_V} {a b : Nat} {W : ln_P} {r0 q0 : Nat} (hr : L r0 r0 ≠ 0) (hq : R q0 q0 ≠ 0) (hr1 : r0 < N) (hq1 : q0 < N) (ha : ln_ct L r0 = a) (hb : ln_ct R q0 = b) : ap_pd p N T L R a (b + 1) W ↔ ap_pd p N T L R a b W ∧ W (tt_bk p N T (L r0) (R q0)) := by
  constructor
  · intro h
    exact ⟨fun r q h1 h2 h3 h4 h5 => h r q h1 h2 h3 h4 (by omega), h r0 q0 hr1 hq1 hr hq (by omega)⟩
  · rintro ⟨h, h0⟩ r q h1 h2 h3 h4 h5
    by_cases h6 : ln_ct L r = a ∧ ln_ct R q = b
    · have e1 := ln_ct_inj h3 hr (h6.1.trans ha.symm)
      have e2 := ln_ct_inj h4 hq (h6.2.trans hb.symm)
      rw [e1, e2]
      exact h0
    · exact h r q h1 h2 h3 h4 (by omega)
theorem ap_pd_row {L R : Nat → ln_V} {a : Nat} {W : ln_P} : ap_pd p N T L R a (ln_ct R N) W ↔ ap_pd p N T L R (a + 1) 0 W := by
  constructor
  · intro h r q h1 h2 h3 h4 h5
    have := ln_ct_lt (R := R) h2 h4
    exact h r q h1 h2 h3 h4 (by omega)
  · intro h r q h1 h2 h3 h4 h5
    exact h r q h1 h2 h3 h4 (by omega)
theorem ap_pd_all {L R : Nat → ln_V} {W : ln_P} : ap_pd p N T L R (ln_ct L N) 0 W ↔ ∀ r q, r < N → q < N → L r r ≠ 0 → R q q ≠ 0 → W (tt_bk p N T (L r) (R q)) := by
  constructor
  · intro h r q h1 h2 h3 h4
    exact h r q h1 h2 h3 h4 (Or.inl (ln_ct_lt (R := L) h1 h3))
  · intro h r q h1 h2 h3 h4 _
    exact h r q h1 h2 h3 h4
theorem ap_pd_none {L R : Nat → ln_V} {W : ln_P} : ap_pd p N T L R 0 0 W := fun r q h1 h2 h3 h4 h5 => by omega
set_option maxHeartbeats 1000000 in
theorem ap_A1_in (ht : tt_ok p N T) (hb : tt_br p N T br) (hn : n = N) {fL fR fS : Nat → Int} {zL zR zS : Int} (hL : sb_ok 5 N p fL zL) (hR : sb_ok 5 N p fR zR) (hS : sb_ok 5 N p fS zS) {a : Nat} {ai : Int} (ha : ai = a) (haL : a < ln_ct (sb_R 5 fL) N)
    (hQ : ∀ (f' : Nat → Int) (z' g : Int) (d1 d2 : pj_V), sb_ok 5 N p f' z' → (∀ W, ln_sub p N W → (ln_g N (sb_R 5 f') W ↔ ln_g N (sb_R 5 fS) W ∧ ap_pd p N T (sb_R 5 fL) (sb_R 5 fR) a (ln_ct (sb_R 5 fR) N) W)) → (g = 0 ∨ g = 1) → pj_WP X m_Spaces_addProducts 87 [.inr 0, .inr 3, .inr 5, .inr 7, .inl g, .inl zL, .inl zR, .inl ai, d1, d2] [] [.inr (4, [.inr 1, v_u, v_u, v_u]), c_T (.inl p) (.inl n) (.inr 2), c_A 25 br, c_S (.inl 5) (.inr 4) (.inl p) (.inl n) (.inl zL), c_A 30 fL, c_S (.inl 5) (.inr 6) (.inl p) (.inl n) (.inl zR), c_A 30 fR, c_S (.inl 5) (.inr 8) (.inl p) (.inl n) (.inl z'), c_A 30 f'] Q) :
    ∀ (m b : Nat) (f' : Nat → Int) (z' g bi : Int) (d : pj_V), b + m = ln_ct (sb_R 5 fR) N → bi = b → sb_ok 5 N p f' z' → (∀ W, ln_sub p N W → (ln_g N (sb_R 5 f') W ↔ ln_g N (sb_R 5 fS) W ∧ ap_pd p N T (sb_R 5 fL) (sb_R 5 fR) a b W)) → (g = 0 ∨ g = 1) → pj_WP X m_Spaces_addProducts 28 [.inr 0, .inr 3, .inr 5, .inr 7, .inl g, .inl zL, .inl zR, .inl ai, .inl bi, d] [] [.inr (4, [.inr 1, v_u, v_u, v_u]), c_T (.inl p) (.inl n) (.inr 2), c_A 25 br, c_S (.inl 5) (.inr 4) (.inl p) (.inl n) (.inl zL), c_A 30 fL, c_S (.inl 5) (.inr 6) (.inl p) (.inl n) (.inl zR), c_A 30 fR, c_S (.inl 5) (.inr 8) (.inl p) (.inl n) (.inl z'), c_A 30 f'] Q := by
  obtain ⟨hp, h1N, hN, hT, -⟩ := id ht
  obtain ⟨hp1, hp2, hp3⟩ := nn_p_pos hp
  have hcL := ln_ct_w (sb_R 5 fL) N
  have hcR := ln_ct_w (sb_R 5 fR) N
  have ezL := hL.2.2
  have ezR := hR.2.2
  intro m
  induction m with
  | zero =>
    intro b f' z' g bi d hk hbi hok hinv hg
    refine wp_b rfl (by omega) (fun c => ?_) (fun c => absurd c (by omega))
    rw [show b = ln_ct (sb_R 5 fR) N by omega] at hinv
    exact hQ f' z' g _ _ hok hinv hg
  | succ m ih =>
    intro b f' z' g bi d hk hbi hok hinv hg
    refine wp_b rfl (by omega) (fun c => absurd c (by omega)) (fun c => ?_)
    refine wp_c rfl (by omega) [3, 4] (c_vector (W := N) (I := a) hp hn hN ha (by omega) hL.1 (fun r hr hrl hrc => ?_) (fun h9 => absurd h9 (by omega))) rfl rfl rfl rfl
    refine wp_c rfl (by omega) [5, 6] (c_vector (W := N) (I := b) hp hn hN hbi (by omega) hR.1 (fun q hq hql hqc => ?_) (fun h9 => absurd h9 (by omega))) rfl rfl rfl rfl
    obtain ⟨n1, n2⟩ := nn_nm_row hp hL.1 hr hN
    obtain ⟨n3, n4⟩ := nn_nm_row hp hR.1 hq hN
    refine wp_h [.inr (4, [.inr 1, v_u, v_u, v_u]), c_T (.inl p) (.inl n) (.inr 2), c_A 25 br, c_S (.inl 5) (.inr 4) (.inl p) (.inl n) (.inl zL), c_A 30 fL, c_S (.inl 5) (.inr 6) (.inl p) (.inl n) (.inl zR), c_A 30 fR, c_S (.inl 5) (.inr 8) (.inl p) (.inl n) (.inl z'), c_A 30 f'] rfl ?_
    refine wp_c rfl (by omega) [1, 2] (c_product ht hb hn n1 n3 ?_) rfl rfl rfl rfl
    refine wp_h [.inr (4, [.inr 1, v_u, v_u, v_u]), c_T (.inl p) (.inl n) (.inr 2), c_A 25 br, c_S (.inl 5) (.inr 4) (.inl p) (.inl n) (.inl zL), c_A 30 fL, c_S (.inl 5) (.inr 6) (.inl p) (.inl n) (.inl zR), c_A 30 fR, c_S (.inl 5) (.inr 8) (.inl p) (.inl n) (.inl z'), c_A 30 f'] rfl ?_
    obtain ⟨n5, n6⟩ := tt_bk_num (T := T) hp hN (nn_dg p (nn_nm p N (sb_R 5 fL r))) (nn_dg p (nn_nm p N (sb_R 5 fR q)))
    refine wp_c rfl (by omega) [7, 8, 1] (c_join (W := N) hp hn hN n5 hok (fun f2 b2 hj hok2 => ?_)) rfl rfl rfl rfl
    have hinv2 : (∀ W, ln_sub p N W → (ln_g N (sb_R 5 f2) W ↔ ln_g N (sb_R 5 fS) W ∧ ap_pd p N T (sb_R 5 fL) (sb_R 5 fR) a (b + 1) W)) := by
      intro W hW
      rw [hj.2.1 W hW, hinv W hW, ap_pd_next hrl hql hr hq hrc hqc, and_assoc]
      have e : W (nn_dg p (nn_nm p N (tt_bk p N T (nn_dg p (nn_nm p N (sb_R 5 fL r))) (nn_dg p (nn_nm p N (sb_R 5 fR q)))))) ↔ W (tt_bk p N T (sb_R 5 fL r) (sb_R 5 fR q)) := by
        have e1 : ln_eq p N (nn_dg p (nn_nm p N (tt_bk p N T (nn_dg p (nn_nm p N (sb_R 5 fL r))) (nn_dg p (nn_nm p N (sb_R 5 fR q)))))) (tt_bk p N T (sb_R 5 fL r) (sb_R 5 fR q)) := fun c hc => by
          rw [n6 c hc]
          exact tt_bk_congr (fun i hi => by rw [n2 i hi]; exact nn_eq_rfl p _) (fun i hi => by rw [n4 i hi]; exact nn_eq_rfl p _) c
        exact ⟨fun h => hW.2.2.2 _ _ e1 h, fun h => hW.2.2.2 _ _ (ln_eq_symm e1) h⟩
      rw [e]
    cases b2 with
    | true =>
      refine wp_b rfl (by simp) (fun c => ?_) (fun c => absurd (show ¬ (1 : Int) = 0 by omega) c)
      refine wp_g rfl (by omega) ?_
      exact ih (b + 1) f2 _ _ _ _ (by omega) (by omega) hok2 hinv2 (Or.inr rfl)
    | false =>
      refine wp_b rfl (by simp) (fun c => absurd rfl c) (fun c => ?_)
      refine wp_b rfl (by omega) (fun c2 => ?_) (fun c2 => ?_)
      · refine wp_g rfl (by omega) ?_
        exact ih (b + 1) f2 _ _ _ _ (by omega) (by omega) hok2 hinv2 (Or.inl rfl)
      · refine wp_g rfl (by omega) ?_
        exact ih (b + 1) f2 _ _ _ _ (by omega) (by omega) hok2 hinv2 (Or.inr rfl)
set_option maxHeartbeats 1000000 in
theorem ap_A1_out (ht : tt_ok p N T) (hb : tt_br p N T br) (hn : n = N) {fL fR fS : Nat → Int} {zL zR zS : Int} (hL : sb_ok 5 N p fL zL) (hR : sb_ok 5 N p fR zR) (hS : sb_ok 5 N p fS zS) (hQ : ∀ (f' : Nat → Int) (z' g : Int), sb_ok 5 N p f' z' → (∀ W, ln_sub p N W → (ln_g N (sb_R 5 f') W ↔ ln_g N (sb_R 5 fS) W ∧ ∀ r q, r < N → q < N → sb_R 5 fL r r ≠ 0 → sb_R 5 fR q q ≠ 0 → W (tt_bk p N T (sb_R 5 fL r) (sb_R 5 fR q)))) → (g = 0 ∨ g = 1) → Q (some (.inl g)) [.inr (4, [.inr 1, v_u, v_u, v_u]), c_T (.inl p) (.inl n) (.inr 2), c_A 25 br, c_S (.inl 5) (.inr 4) (.inl p) (.inl n) (.inl zL), c_A 30 fL, c_S (.inl 5) (.inr 6) (.inl p) (.inl n) (.inl zR), c_A 30 fR, c_S (.inl 5) (.inr 8) (.inl p) (.inl n) (.inl z'), c_A 30 f']) :
    ∀ (m a : Nat) (f' : Nat → Int) (z' g ai : Int) (d1 d2 : pj_V), a + m = ln_ct (sb_R 5 fL) N → ai = a → sb_ok 5 N p f' z' → (∀ W, ln_sub p N W → (ln_g N (sb_R 5 f') W ↔ ln_g N (sb_R 5 fS) W ∧ ap_pd p N T (sb_R 5 fL) (sb_R 5 fR) a 0 W)) → (g = 0 ∨ g = 1) → pj_WP X m_Spaces_addProducts 18 [.inr 0, .inr 3, .inr 5, .inr 7, .inl g, .inl zL, .inl zR, .inl ai, d1, d2] [] [.inr (4, [.inr 1, v_u, v_u, v_u]), c_T (.inl p) (.inl n) (.inr 2), c_A 25 br, c_S (.inl 5) (.inr 4) (.inl p) (.inl n) (.inl zL), c_A 30 fL, c_S (.inl 5) (.inr 6) (.inl p) (.inl n) (.inl zR), c_A 30 fR, c_S (.inl 5) (.inr 8) (.inl p) (.inl n) (.inl z'), c_A 30 f'] Q := by
  obtain ⟨hp, h1N, hN, hT, -⟩ := id ht
  have hcL := ln_ct_w (sb_R 5 fL) N
  have hcR := ln_ct_w (sb_R 5 fR) N
  have ezL := hL.2.2
  have ezR := hR.2.2
  intro m
  induction m with
  | zero =>
    intro a f' z' g ai d1 d2 hk hai hok hinv hg
    refine wp_b rfl (by omega) (fun c => ?_) (fun c => absurd c (by omega))
    refine wp_r rfl (by omega) ?_
    rw [show a = ln_ct (sb_R 5 fL) N by omega] at hinv
    exact hQ f' z' g hok (fun W hW => by rw [hinv W hW, ap_pd_all]) hg
  | succ m ih =>
    intro a f' z' g ai d1 d2 hk hai hok hinv hg
    refine wp_b rfl (by omega) (fun c => absurd c (by omega)) (fun c => ?_)
    refine wp_g rfl (by omega) ?_
    refine ap_A1_in ht hb hn hL hR hS hai (by omega) (fun f2 z2 g2 e1 e2 hok2 hinv2 hg2 => ?_) (ln_ct (sb_R 5 fR) N) 0 f' z' g _ _ (by omega) (by omega) hok hinv hg
    refine wp_g rfl (by omega) ?_
    exact ih (a + 1) f2 z2 g2 _ _ _ (by omega) (by omega) hok2 (fun W hW => by rw [hinv2 W hW, ap_pd_row]) hg2
theorem c_addProducts_A1 (ht : tt_ok p N T) (hb : tt_br p N T br) (hn : n = N) {fL fR fS : Nat → Int} {zL zR zS : Int} (hL : sb_ok 5 N p fL zL) (hR : sb_ok 5 N p fR zR) (hS : sb_ok 5 N p fS zS) (hQ : ∀ (f' : Nat → Int) (z' g : Int), sb_ok 5 N p f' z' → (∀ W, ln_sub p N W → (ln_g N (sb_R 5 f') W ↔ ln_g N (sb_R 5 fS) W ∧ ∀ r q, r < N → q < N → sb_R 5 fL r r ≠ 0 → sb_R 5 fR q q ≠ 0 → W (tt_bk p N T (sb_R 5 fL r) (sb_R 5 fR q)))) → (g = 0 ∨ g = 1) → Q (some (.inl g)) [.inr (4, [.inr 1, v_u, v_u, v_u]), c_T (.inl p) (.inl n) (.inr 2), c_A 25 br, c_S (.inl 5) (.inr 4) (.inl p) (.inl n) (.inl zL), c_A 30 fL, c_S (.inl 5) (.inr 6) (.inl p) (.inl n) (.inl zR), c_A 30 fR, c_S (.inl 5) (.inr 8) (.inl p) (.inl n) (.inl z'), c_A 30 f']) : pj_ci X m_Spaces_addProducts [.inr 0, .inr 3, .inr 5, .inr 7] [.inr (4, [.inr 1, v_u, v_u, v_u]), c_T (.inl p) (.inl n) (.inr 2), c_A 25 br, c_S (.inl 5) (.inr 4) (.inl p) (.inl n) (.inl zL), c_A 30 fL, c_S (.inl 5) (.inr 6) (.inl p) (.inl n) (.inl zR), c_A 30 fR, c_S (.inl 5) (.inr 8) (.inl p) (.inl n) (.inl zS), c_A 30 fS] Q := by
  refine wp_g rfl (by omega) ?_
  exact ap_A1_out ht hb hn hL hR hS hQ (ln_ct (sb_R 5 fL) N) 0 fS zS _ _ _ _ (by omega) (by omega) hS (fun W hW => ⟨fun h => ⟨h, ap_pd_none⟩, fun h => h.1⟩) (Or.inl rfl)
set_option maxHeartbeats 1000000 in
theorem ap_A2_in (ht : tt_ok p N T) (hb : tt_br p N T br) (hn : n = N) {fR fS : Nat → Int} {zR zS : Int} (hR : sb_ok 5 N p fR zR) (hS : sb_ok 5 N p fS zS) {a : Nat} {ai : Int} (ha : ai = a) (haL : a < ln_ct (sb_R 5 fR) N)
    (hQ : ∀ (f' : Nat → Int) (z' g : Int) (d1 d2 : pj_V), sb_ok 5 N p f' z' → (∀ W, ln_sub p N W → (ln_g N (sb_R 5 f') W ↔ ln_g N (sb_R 5 fS) W ∧ ap_pd p N T (sb_R 5 fR) (sb_R 5 fR) a (ln_ct (sb_R 5 fR) N) W)) → (g = 0 ∨ g = 1) → pj_WP X m_Spaces_addProducts 87 [.inr 0, .inr 3, .inr 3, .inr 5, .inl g, .inl zR, .inl zR, .inl ai, d1, d2] [] [.inr (4, [.inr 1, v_u, v_u, v_u]), c_T (.inl p) (.inl n) (.inr 2), c_A 25 br, c_S (.inl 5) (.inr 4) (.inl p) (.inl n) (.inl zR), c_A 30 fR, c_S (.inl 5) (.inr 6) (.inl p) (.inl n) (.inl z'), c_A 30 f'] Q) :
    ∀ (m b : Nat) (f' : Nat → Int) (z' g bi : Int) (d : pj_V), b + m = ln_ct (sb_R 5 fR) N → bi = b → sb_ok 5 N p f' z' → (∀ W, ln_sub p N W → (ln_g N (sb_R 5 f') W ↔ ln_g N (sb_R 5 fS) W ∧ ap_pd p N T (sb_R 5 fR) (sb_R 5 fR) a b W)) → (g = 0 ∨ g = 1) → pj_WP X m_Spaces_addProducts 28 [.inr 0, .inr 3, .inr 3, .inr 5, .inl g, .inl zR, .inl zR, .inl ai, .inl bi, d] [] [.inr (4, [.inr 1, v_u, v_u, v_u]), c_T (.inl p) (.inl n) (.inr 2), c_A 25 br, c_S (.inl 5) (.inr 4) (.inl p) (.inl n) (.inl zR), c_A 30 fR, c_S (.inl 5) (.inr 6) (.inl p) (.inl n) (.inl z'), c_A 30 f'] Q := by
  obtain ⟨hp, h1N, hN, hT, -⟩ := id ht
  obtain ⟨hp1, hp2, hp3⟩ := nn_p_pos hp
  have hcL := ln_ct_w (sb_R 5 fR) N
  have hcR := ln_ct_w (sb_R 5 fR) N
  have ezL := hR.2.2
  have ezR := hR.2.2
  intro m
  induction m with
  | zero =>
    intro b f' z' g bi d hk hbi hok hinv hg
    refine wp_b rfl (by omega) (fun c => ?_) (fun c => absurd c (by omega))
    rw [show b = ln_ct (sb_R 5 fR) N by omega] at hinv
    exact hQ f' z' g _ _ hok hinv hg
  | succ m ih =>
    intro b f' z' g bi d hk hbi hok hinv hg
    refine wp_b rfl (by omega) (fun c => absurd c (by omega)) (fun c => ?_)
    refine wp_c rfl (by omega) [3, 4] (c_vector (W := N) (I := a) hp hn hN ha (by omega) hR.1 (fun r hr hrl hrc => ?_) (fun h9 => absurd h9 (by omega))) rfl rfl rfl rfl
    refine wp_c rfl (by omega) [3, 4] (c_vector (W := N) (I := b) hp hn hN hbi (by omega) hR.1 (fun q hq hql hqc => ?_) (fun h9 => absurd h9 (by omega))) rfl rfl rfl rfl
    obtain ⟨n1, n2⟩ := nn_nm_row hp hR.1 hr hN
    obtain ⟨n3, n4⟩ := nn_nm_row hp hR.1 hq hN
    refine wp_h [.inr (4, [.inr 1, v_u, v_u, v_u]), c_T (.inl p) (.inl n) (.inr 2), c_A 25 br, c_S (.inl 5) (.inr 4) (.inl p) (.inl n) (.inl zR), c_A 30 fR, c_S (.inl 5) (.inr 6) (.inl p) (.inl n) (.inl z'), c_A 30 f'] rfl ?_
    refine wp_c rfl (by omega) [1, 2] (c_product ht hb hn n1 n3 ?_) rfl rfl rfl rfl
    refine wp_h [.inr (4, [.inr 1, v_u, v_u, v_u]), c_T (.inl p) (.inl n) (.inr 2), c_A 25 br, c_S (.inl 5) (.inr 4) (.inl p) (.inl n) (.inl zR), c_A 30 fR, c_S (.inl 5) (.inr 6) (.inl p) (.inl n) (.inl z'), c_A 30 f'] rfl ?_
    obtain ⟨n5, n6⟩ := tt_bk_num (T := T) hp hN (nn_dg p (nn_nm p N (sb_R 5 fR r))) (nn_dg p (nn_nm p N (sb_R 5 fR q)))
    refine wp_c rfl (by omega) [5, 6, 1] (c_join (W := N) hp hn hN n5 hok (fun f2 b2 hj hok2 => ?_)) rfl rfl rfl rfl
    have hinv2 : (∀ W, ln_sub p N W → (ln_g N (sb_R 5 f2) W ↔ ln_g N (sb_R 5 fS) W ∧ ap_pd p N T (sb_R 5 fR) (sb_R 5 fR) a (b + 1) W)) := by
      intro W hW
      rw [hj.2.1 W hW, hinv W hW, ap_pd_next hrl hql hr hq hrc hqc, and_assoc]
      have e : W (nn_dg p (nn_nm p N (tt_bk p N T (nn_dg p (nn_nm p N (sb_R 5 fR r))) (nn_dg p (nn_nm p N (sb_R 5 fR q)))))) ↔ W (tt_bk p N T (sb_R 5 fR r) (sb_R 5 fR q)) := by
        have e1 : ln_eq p N (nn_dg p (nn_nm p N (tt_bk p N T (nn_dg p (nn_nm p N (sb_R 5 fR r))) (nn_dg p (nn_nm p N (sb_R 5 fR q)))))) (tt_bk p N T (sb_R 5 fR r) (sb_R 5 fR q)) := fun c hc => by
          rw [n6 c hc]
          exact tt_bk_congr (fun i hi => by rw [n2 i hi]; exact nn_eq_rfl p _) (fun i hi => by rw [n4 i hi]; exact nn_eq_rfl p _) c
        exact ⟨fun h => hW.2.2.2 _ _ e1 h, fun h => hW.2.2.2 _ _ (ln_eq_symm e1) h⟩
      rw [e]
    cases b2 with
    | true =>
      refine wp_b rfl (by simp) (fun c => ?_) (fun c => absurd (show ¬ (1 : Int) = 0 by omega) c)
      refine wp_g rfl (by omega) ?_
      exact ih (b + 1) f2 _ _ _ _ (by omega) (by omega) hok2 hinv2 (Or.inr rfl)
    | false =>
      refine wp_b rfl (by simp) (fun c => absurd rfl c) (fun c => ?_)
      refine wp_b rfl (by omega) (fun c2 => ?_) (fun c2 => ?_)
      · refine wp_g rfl (by omega) ?_
        exact ih (b + 1) f2 _ _ _ _ (by omega) (by omega) hok2 hinv2 (Or.inl rfl)
      · refine wp_g rfl (by omega) ?_
        exact ih (b + 1) f2 _ _ _ _ (by omega) (by omega) hok2 hinv2 (Or.inr rfl)
set_option maxHeartbeats 1000000 in
theorem ap_A2_out (ht : tt_ok p N T) (hb : tt_br p N T br) (hn : n = N) {fR fS : Nat → Int} {zR zS : Int} (hR : sb_ok 5 N p fR zR) (hS : sb_ok 5 N p fS zS) (hQ : ∀ (f' : Nat → Int) (z' g : Int), sb_ok 5 N p f' z' → (∀ W, ln_sub p N W → (ln_g N (sb_R 5 f') W ↔ ln_g N (sb_R 5 fS) W ∧ ∀ r q, r < N → q < N → sb_R 5 fR r r ≠ 0 → sb_R 5 fR q q ≠ 0 → W (tt_bk p N T (sb_R 5 fR r) (sb_R 5 fR q)))) → (g = 0 ∨ g = 1) → Q (some (.inl g)) [.inr (4, [.inr 1, v_u, v_u, v_u]), c_T (.inl p) (.inl n) (.inr 2), c_A 25 br, c_S (.inl 5) (.inr 4) (.inl p) (.inl n) (.inl zR), c_A 30 fR, c_S (.inl 5) (.inr 6) (.inl p) (.inl n) (.inl z'), c_A 30 f']) :
    ∀ (m a : Nat) (f' : Nat → Int) (z' g ai : Int) (d1 d2 : pj_V), a + m = ln_ct (sb_R 5 fR) N → ai = a → sb_ok 5 N p f' z' → (∀ W, ln_sub p N W → (ln_g N (sb_R 5 f') W ↔ ln_g N (sb_R 5 fS) W ∧ ap_pd p N T (sb_R 5 fR) (sb_R 5 fR) a 0 W)) → (g = 0 ∨ g = 1) → pj_WP X m_Spaces_addProducts 18 [.inr 0, .inr 3, .inr 3, .inr 5, .inl g, .inl zR, .inl zR, .inl ai, d1, d2] [] [.inr (4, [.inr 1, v_u, v_u, v_u]), c_T (.inl p) (.inl n) (.inr 2), c_A 25 br, c_S (.inl 5) (.inr 4) (.inl p) (.inl n) (.inl zR), c_A 30 fR, c_S (.inl 5) (.inr 6) (.inl p) (.inl n) (.inl z'), c_A 30 f'] Q := by
  obtain ⟨hp, h1N, hN, hT, -⟩ := id ht
  have hcL := ln_ct_w (sb_R 5 fR) N
  have hcR := ln_ct_w (sb_R 5 fR) N
  have ezL := hR.2.2
  have ezR := hR.2.2
  intro m
  induction m with
  | zero =>
    intro a f' z' g ai d1 d2 hk hai hok hinv hg
    refine wp_b rfl (by omega) (fun c => ?_) (fun c => absurd c (by omega))
    refine wp_r rfl (by omega) ?_
    rw [show a = ln_ct (sb_R 5 fR) N by omega] at hinv
    exact hQ f' z' g hok (fun W hW => by rw [hinv W hW, ap_pd_all]) hg
  | succ m ih =>
    intro a f' z' g ai d1 d2 hk hai hok hinv hg
    refine wp_b rfl (by omega) (fun c => absurd c (by omega)) (fun c => ?_)
    refine wp_g rfl (by omega) ?_
    refine ap_A2_in ht hb hn hR hS hai (by omega) (fun f2 z2 g2 e1 e2 hok2 hinv2 hg2 => ?_) (ln_ct (sb_R 5 fR) N) 0 f' z' g _ _ (by omega) (by omega) hok hinv hg
    refine wp_g rfl (by omega) ?_
    exact ih (a + 1) f2 z2 g2 _ _ _ (by omega) (by omega) hok2 (fun W hW => by rw [hinv2 W hW, ap_pd_row]) hg2
theorem c_addProducts_A2 (ht : tt_ok p N T) (hb : tt_br p N T br) (hn : n = N) {fR fS : Nat → Int} {zR zS : Int} (hR : sb_ok 5 N p fR zR) (hS : sb_ok 5 N p fS zS) (hQ : ∀ (f' : Nat → Int) (z' g : Int), sb_ok 5 N p f' z' → (∀ W, ln_sub p N W → (ln_g N (sb_R 5 f') W ↔ ln_g N (sb_R 5 fS) W ∧ ∀ r q, r < N → q < N → sb_R 5 fR r r ≠ 0 → sb_R 5 fR q q ≠ 0 → W (tt_bk p N T (sb_R 5 fR r) (sb_R 5 fR q)))) → (g = 0 ∨ g = 1) → Q (some (.inl g)) [.inr (4, [.inr 1, v_u, v_u, v_u]), c_T (.inl p) (.inl n) (.inr 2), c_A 25 br, c_S (.inl 5) (.inr 4) (.inl p) (.inl n) (.inl zR), c_A 30 fR, c_S (.inl 5) (.inr 6) (.inl p) (.inl n) (.inl z'), c_A 30 f']) : pj_ci X m_Spaces_addProducts [.inr 0, .inr 3, .inr 3, .inr 5] [.inr (4, [.inr 1, v_u, v_u, v_u]), c_T (.inl p) (.inl n) (.inr 2), c_A 25 br, c_S (.inl 5) (.inr 4) (.inl p) (.inl n) (.inl zR), c_A 30 fR, c_S (.inl 5) (.inr 6) (.inl p) (.inl n) (.inl zS), c_A 30 fS] Q := by
  refine wp_g rfl (by omega) ?_
  exact ap_A2_out ht hb hn hR hS hQ (ln_ct (sb_R 5 fR) N) 0 fS zS _ _ _ _ (by omega) (by omega) hS (fun W hW => ⟨fun h => ⟨h, ap_pd_none⟩, fun h => h.1⟩) (Or.inl rfl)
set_option maxHeartbeats 1000000 in
theorem ap_B1_in (ht : tt_ok p N T) (hb : tt_br p N T br) (hn : n = N) {fL fS : Nat → Int} {zL zS : Int} (hL : sb_ok 5 N p fL zL) (hS : sb_ok 5 N p fS zS) {a : Nat} {ai : Int} (ha : ai = a) (haL : a < ln_ct (sb_R 5 fL) N)
    (hQ : ∀ (f' : Nat → Int) (z' g : Int) (d1 d2 : pj_V), sb_ok 5 N p f' z' → ((∀ x, ln_in p N (sb_R 5 fS) x → ln_in p N (sb_R 5 f') x) ∧ (∀ K, ln_sub p N K → ln_g N (sb_R 5 fS) K → (∀ u v, ln_in p N (sb_R 5 fL) u → K v → K (tt_bk p N T u v)) → ln_g N (sb_R 5 f') K) ∧ ((g = 0 ∧ (∀ r c, r < N → c < N → sb_R 5 f' r c = sb_R 5 fS r c) ∧ ap_pd p N T (sb_R 5 fL) (sb_R 5 fS) a (ln_ct (sb_R 5 fS) N) (ln_in p N (sb_R 5 fS))) ∨ (g = 1 ∧ ln_ct (sb_R 5 fS) N < ln_ct (sb_R 5 f') N))) → pj_WP X m_Spaces_addProducts 87 [.inr 0, .inr 3, .inr 5, .inr 5, .inl g, .inl zL, .inl zS, .inl ai, d1, d2] [] [.inr (4, [.inr 1, v_u, v_u, v_u]), c_T (.inl p) (.inl n) (.inr 2), c_A 25 br, c_S (.inl 5) (.inr 4) (.inl p) (.inl n) (.inl zL), c_A 30 fL, c_S (.inl 5) (.inr 6) (.inl p) (.inl n) (.inl z'), c_A 30 f'] Q) :
    ∀ (m b : Nat) (f' : Nat → Int) (z' g bi : Int) (d : pj_V), b + m = ln_ct (sb_R 5 fS) N → bi = b → sb_ok 5 N p f' z' → ((∀ x, ln_in p N (sb_R 5 fS) x → ln_in p N (sb_R 5 f') x) ∧ (∀ K, ln_sub p N K → ln_g N (sb_R 5 fS) K → (∀ u v, ln_in p N (sb_R 5 fL) u → K v → K (tt_bk p N T u v)) → ln_g N (sb_R 5 f') K) ∧ ((g = 0 ∧ (∀ r c, r < N → c < N → sb_R 5 f' r c = sb_R 5 fS r c) ∧ ap_pd p N T (sb_R 5 fL) (sb_R 5 fS) a b (ln_in p N (sb_R 5 fS))) ∨ (g = 1 ∧ ln_ct (sb_R 5 fS) N < ln_ct (sb_R 5 f') N))) → pj_WP X m_Spaces_addProducts 28 [.inr 0, .inr 3, .inr 5, .inr 5, .inl g, .inl zL, .inl zS, .inl ai, .inl bi, d] [] [.inr (4, [.inr 1, v_u, v_u, v_u]), c_T (.inl p) (.inl n) (.inr 2), c_A 25 br, c_S (.inl 5) (.inr 4) (.inl p) (.inl n) (.inl zL), c_A 30 fL, c_S (.inl 5) (.inr 6) (.inl p) (.inl n) (.inl z'), c_A 30 f'] Q := by
  obtain ⟨hp, h1N, hN, hT, -⟩ := id ht
  obtain ⟨hp1, hp2, hp3⟩ := nn_p_pos hp
  have hcL := ln_ct_w (sb_R 5 fL) N
  have hcR := ln_ct_w (sb_R 5 fS) N
  have ezL := hL.2.2
  have ezR := hS.2.2
  intro m
  induction m with
  | zero =>
    intro b f' z' g bi d hk hbi hok hinv
    refine wp_b rfl (by omega) (fun c => ?_) (fun c => absurd c (by omega))
    rw [show b = ln_ct (sb_R 5 fS) N by omega] at hinv
    exact hQ f' z' g _ _ hok hinv
  | succ m ih =>
    intro b f' z' g bi d hk hbi hok hinv
    have hle := (ln_dim hS.1 hok.1 (by omega) hinv.1).1
    refine wp_b rfl (by omega) (fun c => absurd c (by omega)) (fun c => ?_)
    refine wp_c rfl (by omega) [3, 4] (c_vector (W := N) (I := a) hp hn hN ha (by omega) hL.1 (fun r hr hrl hrc => ?_) (fun h9 => absurd h9 (by omega))) rfl rfl rfl rfl
    refine wp_c rfl (by omega) [5, 6] (c_vector (W := N) (I := b) hp hn hN hbi (by omega) hok.1 (fun q hq hql hqc => ?_) (fun h9 => absurd h9 (by omega))) rfl rfl rfl rfl
    obtain ⟨n1, n2⟩ := nn_nm_row hp hL.1 hr hN
    obtain ⟨n3, n4⟩ := nn_nm_row hp hok.1 hq hN
    refine wp_h [.inr (4, [.inr 1, v_u, v_u, v_u]), c_T (.inl p) (.inl n) (.inr 2), c_A 25 br, c_S (.inl 5) (.inr 4) (.inl p) (.inl n) (.inl zL), c_A 30 fL, c_S (.inl 5) (.inr 6) (.inl p) (.inl n) (.inl z'), c_A 30 f'] rfl ?_
    refine wp_c rfl (by omega) [1, 2] (c_product ht hb hn n1 n3 ?_) rfl rfl rfl rfl
    refine wp_h [.inr (4, [.inr 1, v_u, v_u, v_u]), c_T (.inl p) (.inl n) (.inr 2), c_A 25 br, c_S (.inl 5) (.inr 4) (.inl p) (.inl n) (.inl zL), c_A 30 fL, c_S (.inl 5) (.inr 6) (.inl p) (.inl n) (.inl z'), c_A 30 f'] rfl ?_
    obtain ⟨n5, n6⟩ := tt_bk_num (T := T) hp hN (nn_dg p (nn_nm p N (sb_R 5 fL r))) (nn_dg p (nn_nm p N (sb_R 5 f' q)))
    refine wp_c rfl (by omega) [5, 6, 1] (c_join (W := N) hp hn hN n5 hok (fun f2 b2 hj hok2 => ?_)) rfl rfl rfl rfl
    have e1 : ln_eq p N (nn_dg p (nn_nm p N (tt_bk p N T (nn_dg p (nn_nm p N (sb_R 5 fL r))) (nn_dg p (nn_nm p N (sb_R 5 f' q)))))) (tt_bk p N T (sb_R 5 fL r) (sb_R 5 f' q)) := fun c hc => by
      rw [n6 c hc]
      exact tt_bk_congr (fun i hi => by rw [n2 i hi]; exact nn_eq_rfl p _) (fun i hi => by rw [n4 i hi]; exact nn_eq_rfl p _) c
    have hin1 := fun x hx => (ln_join_in hj).2 x (hinv.1 x hx)
    have hin2 : ∀ K, ln_sub p N K → ln_g N (sb_R 5 fS) K → (∀ u v, ln_in p N (sb_R 5 fL) u → K v → K (tt_bk p N T u v)) → ln_g N (sb_R 5 f2) K := fun K hK hg hcl => by
      have hK2 := hinv.2.1 K hK hg hcl
      exact (hj.2.1 K hK).mpr ⟨hK2, hK.2.2.2 _ _ (ln_eq_symm e1) (hcl _ _ (ln_in_row hL.1 hr) (hK2 q hq))⟩
    cases b2 with
    | true =>
      have hct : ln_ct (sb_R 5 fS) N < ln_ct (sb_R 5 f2) N := by
        have := hj.2.2.1
        simp only [if_true] at this
        omega
      refine wp_b rfl (by simp) (fun c => ?_) (fun c => absurd (show ¬ (1 : Int) = 0 by omega) c)
      refine wp_g rfl (by omega) ?_
      exact ih (b + 1) f2 _ _ _ _ (by omega) (by omega) hok2 ⟨hin1, hin2, Or.inr ⟨rfl, hct⟩⟩
    | false =>
      have hsame := hj.2.2.2.2 rfl
      have hct2 : ln_ct (sb_R 5 f2) N = ln_ct (sb_R 5 f') N := ln_ct_congr N (fun r hr => by rw [hsame r r hr hr])
      refine wp_b rfl (by simp) (fun c => absurd rfl c) (fun c => ?_)
      rcases hinv.2.2 with ⟨hg0, hs0, hpd⟩ | ⟨hg1, hct⟩
      · subst hg0
        refine wp_b rfl (by omega) (fun c2 => ?_) (fun c2 => absurd rfl c2)
        refine wp_g rfl (by omega) ?_
        refine ih (b + 1) f2 _ _ _ _ (by omega) (by omega) hok2 ⟨hin1, hin2, Or.inl ⟨rfl, fun r c hr hc => (hsame r c hr hc).trans (hs0 r c hr hc), ?_⟩⟩
        have hmem : ln_in p N (sb_R 5 f') (nn_dg p (nn_nm p N (tt_bk p N T (nn_dg p (nn_nm p N (sb_R 5 fL r))) (nn_dg p (nn_nm p N (sb_R 5 f' q)))))) := Classical.byContradiction fun z => by
          have := hj.2.2.2.1.mpr z
          cases this
        have ctS : ∀ k, k < N → ln_ct (sb_R 5 f') k = ln_ct (sb_R 5 fS) k := fun k hk => ln_ct_congr k (fun r hr => by rw [hs0 r r (by omega) (by omega)])
        refine (ap_pd_next (r0 := r) (q0 := q) hrl (by rw [← hs0 q q hq hq]; exact hql) hr hq hrc (by rw [← ctS q hq]; exact hqc)).mpr ⟨hpd, ?_⟩
        have h3 := (ln_in_congr hs0).mp hmem
        refine (ln_in_sub _).2.2.2 _ _ (ln_eq_trans e1 (fun c hc => tt_bk_congr (ln_eq_rfl _) (fun i hi => by rw [hs0 q i hq hi]; exact nn_eq_rfl p _) c)) h3
      · subst hg1
        refine wp_b rfl (by omega) (fun c2 => absurd c2 (show ¬ (1 : Int) = 0 by omega)) (fun c2 => ?_)
        refine wp_g rfl (by omega) ?_
        exact ih (b + 1) f2 _ _ _ _ (by omega) (by omega) hok2 ⟨hin1, hin2, Or.inr ⟨rfl, by omega⟩⟩
set_option maxHeartbeats 1000000 in
theorem ap_B1_out (ht : tt_ok p N T) (hb : tt_br p N T br) (hn : n = N) {fL fS : Nat → Int} {zL zS : Int} (hL : sb_ok 5 N p fL zL) (hS : sb_ok 5 N p fS zS) (hQ : ∀ (f' : Nat → Int) (z' g : Int), sb_ok 5 N p f' z' → (∀ x, ln_in p N (sb_R 5 fS) x → ln_in p N (sb_R 5 f') x) → (∀ K, ln_sub p N K → ln_g N (sb_R 5 fS) K → (∀ u v, ln_in p N (sb_R 5 fL) u → K v → K (tt_bk p N T u v)) → ln_g N (sb_R 5 f') K) → ((g = 0 ∧ (∀ r c, r < N → c < N → sb_R 5 f' r c = sb_R 5 fS r c) ∧ ∀ u v, ln_in p N (sb_R 5 fL) u → ln_in p N (sb_R 5 fS) v → ln_in p N (sb_R 5 fS) (tt_bk p N T u v)) ∨ (g = 1 ∧ ln_ct (sb_R 5 fS) N < ln_ct (sb_R 5 f') N)) → Q (some (.inl g)) [.inr (4, [.inr 1, v_u, v_u, v_u]), c_T (.inl p) (.inl n) (.inr 2), c_A 25 br, c_S (.inl 5) (.inr 4) (.inl p) (.inl n) (.inl zL), c_A 30 fL, c_S (.inl 5) (.inr 6) (.inl p) (.inl n) (.inl z'), c_A 30 f']) :
    ∀ (m a : Nat) (f' : Nat → Int) (z' g ai : Int) (d1 d2 : pj_V), a + m = ln_ct (sb_R 5 fL) N → ai = a → sb_ok 5 N p f' z' → ((∀ x, ln_in p N (sb_R 5 fS) x → ln_in p N (sb_R 5 f') x) ∧ (∀ K, ln_sub p N K → ln_g N (sb_R 5 fS) K → (∀ u v, ln_in p N (sb_R 5 fL) u → K v → K (tt_bk p N T u v)) → ln_g N (sb_R 5 f') K) ∧ ((g = 0 ∧ (∀ r c, r < N → c < N → sb_R 5 f' r c = sb_R 5 fS r c) ∧ ap_pd p N T (sb_R 5 fL) (sb_R 5 fS) a 0 (ln_in p N (sb_R 5 fS))) ∨ (g = 1 ∧ ln_ct (sb_R 5 fS) N < ln_ct (sb_R 5 f') N))) → pj_WP X m_Spaces_addProducts 18 [.inr 0, .inr 3, .inr 5, .inr 5, .inl g, .inl zL, .inl zS, .inl ai, d1, d2] [] [.inr (4, [.inr 1, v_u, v_u, v_u]), c_T (.inl p) (.inl n) (.inr 2), c_A 25 br, c_S (.inl 5) (.inr 4) (.inl p) (.inl n) (.inl zL), c_A 30 fL, c_S (.inl 5) (.inr 6) (.inl p) (.inl n) (.inl z'), c_A 30 f'] Q := by
  obtain ⟨hp, h1N, hN, hT, -⟩ := id ht
  have hcL := ln_ct_w (sb_R 5 fL) N
  have hcR := ln_ct_w (sb_R 5 fS) N
  have ezL := hL.2.2
  have ezR := hS.2.2
  intro m
  induction m with
  | zero =>
    intro a f' z' g ai d1 d2 hk hai hok hinv
    have hg : g = 0 ∨ g = 1 := hinv.2.2.imp (fun h => h.1) (fun h => h.1)
    refine wp_b rfl (by omega) (fun c => ?_) (fun c => absurd c (by omega))
    refine wp_r rfl (by omega) ?_
    rw [show a = ln_ct (sb_R 5 fL) N by omega] at hinv
    exact hQ f' z' g hok hinv.1 hinv.2.1 (hinv.2.2.imp (fun h => ⟨h.1, h.2.1, fun u v hu hv => tt_bil (ln_in_sub _) hL.1 hS.1 (ap_pd_all.mp h.2.2) hu hv⟩) id)
  | succ m ih =>
    intro a f' z' g ai d1 d2 hk hai hok hinv
    refine wp_b rfl (by omega) (fun c => absurd c (by omega)) (fun c => ?_)
    refine wp_g rfl (by omega) ?_
    refine ap_B1_in ht hb hn hL hS hai (by omega) (fun f2 z2 g2 e1 e2 hok2 hinv2 => ?_) (ln_ct (sb_R 5 fS) N) 0 f' z' g _ _ (by omega) (by omega) hok hinv
    refine wp_g rfl (by omega) ?_
    exact ih (a + 1) f2 z2 g2 _ _ _ (by omega) (by omega) hok2 ⟨hinv2.1, hinv2.2.1, hinv2.2.2.imp (fun h => ⟨h.1, h.2.1, ap_pd_row.mp h.2.2⟩) id⟩
theorem c_addProducts_B1 (ht : tt_ok p N T) (hb : tt_br p N T br) (hn : n = N) {fL fS : Nat → Int} {zL zS : Int} (hL : sb_ok 5 N p fL zL) (hS : sb_ok 5 N p fS zS) (hQ : ∀ (f' : Nat → Int) (z' g : Int), sb_ok 5 N p f' z' → (∀ x, ln_in p N (sb_R 5 fS) x → ln_in p N (sb_R 5 f') x) → (∀ K, ln_sub p N K → ln_g N (sb_R 5 fS) K → (∀ u v, ln_in p N (sb_R 5 fL) u → K v → K (tt_bk p N T u v)) → ln_g N (sb_R 5 f') K) → ((g = 0 ∧ (∀ r c, r < N → c < N → sb_R 5 f' r c = sb_R 5 fS r c) ∧ ∀ u v, ln_in p N (sb_R 5 fL) u → ln_in p N (sb_R 5 fS) v → ln_in p N (sb_R 5 fS) (tt_bk p N T u v)) ∨ (g = 1 ∧ ln_ct (sb_R 5 fS) N < ln_ct (sb_R 5 f') N)) → Q (some (.inl g)) [.inr (4, [.inr 1, v_u, v_u, v_u]), c_T (.inl p) (.inl n) (.inr 2), c_A 25 br, c_S (.inl 5) (.inr 4) (.inl p) (.inl n) (.inl zL), c_A 30 fL, c_S (.inl 5) (.inr 6) (.inl p) (.inl n) (.inl z'), c_A 30 f']) : pj_ci X m_Spaces_addProducts [.inr 0, .inr 3, .inr 5, .inr 5] [.inr (4, [.inr 1, v_u, v_u, v_u]), c_T (.inl p) (.inl n) (.inr 2), c_A 25 br, c_S (.inl 5) (.inr 4) (.inl p) (.inl n) (.inl zL), c_A 30 fL, c_S (.inl 5) (.inr 6) (.inl p) (.inl n) (.inl zS), c_A 30 fS] Q := by
  refine wp_g rfl (by omega) ?_
  exact ap_B1_out ht hb hn hL hS hQ (ln_ct (sb_R 5 fL) N) 0 fS zS _ _ _ _ (by omega) (by omega) hS ⟨fun x hx => hx, fun K hK hg _ => hg, Or.inl ⟨rfl, fun _ _ _ _ => rfl, ap_pd_none⟩⟩
set_option maxHeartbeats 1000000 in
theorem ap_B2_in (ht : tt_ok p N T) (hb : tt_br p N T br) (hn : n = N) {fS : Nat → Int} {zS : Int} (hS : sb_ok 5 N p fS zS) {a : Nat} {ai : Int} (ha : ai = a) (haL : a < ln_ct (sb_R 5 fS) N)
    (hQ : ∀ (f' : Nat → Int) (z' g : Int) (d1 d2 : pj_V), sb_ok 5 N p f' z' → ((∀ x, ln_in p N (sb_R 5 fS) x → ln_in p N (sb_R 5 f') x) ∧ (∀ K, ln_sub p N K → ln_g N (sb_R 5 fS) K → (∀ u v, K u → K v → K (tt_bk p N T u v)) → ln_g N (sb_R 5 f') K) ∧ ((g = 0 ∧ (∀ r c, r < N → c < N → sb_R 5 f' r c = sb_R 5 fS r c) ∧ ap_pd p N T (sb_R 5 fS) (sb_R 5 fS) a (ln_ct (sb_R 5 fS) N) (ln_in p N (sb_R 5 fS))) ∨ (g = 1 ∧ ln_ct (sb_R 5 fS) N < ln_ct (sb_R 5 f') N))) → pj_WP X m_Spaces_addProducts 87 [.inr 0, .inr 3, .inr 3, .inr 3, .inl g, .inl zS, .inl zS, .inl ai, d1, d2] [] [.inr (4, [.inr 1, v_u, v_u, v_u]), c_T (.inl p) (.inl n) (.inr 2), c_A 25 br, c_S (.inl 5) (.inr 4) (.inl p) (.inl n) (.inl z'), c_A 30 f'] Q) :
    ∀ (m b : Nat) (f' : Nat → Int) (z' g bi : Int) (d : pj_V), b + m = ln_ct (sb_R 5 fS) N → bi = b → sb_ok 5 N p f' z' → ((∀ x, ln_in p N (sb_R 5 fS) x → ln_in p N (sb_R 5 f') x) ∧ (∀ K, ln_sub p N K → ln_g N (sb_R 5 fS) K → (∀ u v, K u → K v → K (tt_bk p N T u v)) → ln_g N (sb_R 5 f') K) ∧ ((g = 0 ∧ (∀ r c, r < N → c < N → sb_R 5 f' r c = sb_R 5 fS r c) ∧ ap_pd p N T (sb_R 5 fS) (sb_R 5 fS) a b (ln_in p N (sb_R 5 fS))) ∨ (g = 1 ∧ ln_ct (sb_R 5 fS) N < ln_ct (sb_R 5 f') N))) → pj_WP X m_Spaces_addProducts 28 [.inr 0, .inr 3, .inr 3, .inr 3, .inl g, .inl zS, .inl zS, .inl ai, .inl bi, d] [] [.inr (4, [.inr 1, v_u, v_u, v_u]), c_T (.inl p) (.inl n) (.inr 2), c_A 25 br, c_S (.inl 5) (.inr 4) (.inl p) (.inl n) (.inl z'), c_A 30 f'] Q := by
  obtain ⟨hp, h1N, hN, hT, -⟩ := id ht
  obtain ⟨hp1, hp2, hp3⟩ := nn_p_pos hp
  have hcL := ln_ct_w (sb_R 5 fS) N
  have hcR := ln_ct_w (sb_R 5 fS) N
  have ezL := hS.2.2
  have ezR := hS.2.2
  intro m
  induction m with
  | zero =>
    intro b f' z' g bi d hk hbi hok hinv
    refine wp_b rfl (by omega) (fun c => ?_) (fun c => absurd c (by omega))
    rw [show b = ln_ct (sb_R 5 fS) N by omega] at hinv
    exact hQ f' z' g _ _ hok hinv
  | succ m ih =>
    intro b f' z' g bi d hk hbi hok hinv
    have hle := (ln_dim hS.1 hok.1 (by omega) hinv.1).1
    refine wp_b rfl (by omega) (fun c => absurd c (by omega)) (fun c => ?_)
    refine wp_c rfl (by omega) [3, 4] (c_vector (W := N) (I := a) hp hn hN ha (by omega) hok.1 (fun r hr hrl hrc => ?_) (fun h9 => absurd h9 (by omega))) rfl rfl rfl rfl
    refine wp_c rfl (by omega) [3, 4] (c_vector (W := N) (I := b) hp hn hN hbi (by omega) hok.1 (fun q hq hql hqc => ?_) (fun h9 => absurd h9 (by omega))) rfl rfl rfl rfl
    obtain ⟨n1, n2⟩ := nn_nm_row hp hok.1 hr hN
    obtain ⟨n3, n4⟩ := nn_nm_row hp hok.1 hq hN
    refine wp_h [.inr (4, [.inr 1, v_u, v_u, v_u]), c_T (.inl p) (.inl n) (.inr 2), c_A 25 br, c_S (.inl 5) (.inr 4) (.inl p) (.inl n) (.inl z'), c_A 30 f'] rfl ?_
    refine wp_c rfl (by omega) [1, 2] (c_product ht hb hn n1 n3 ?_) rfl rfl rfl rfl
    refine wp_h [.inr (4, [.inr 1, v_u, v_u, v_u]), c_T (.inl p) (.inl n) (.inr 2), c_A 25 br, c_S (.inl 5) (.inr 4) (.inl p) (.inl n) (.inl z'), c_A 30 f'] rfl ?_
    obtain ⟨n5, n6⟩ := tt_bk_num (T := T) hp hN (nn_dg p (nn_nm p N (sb_R 5 f' r))) (nn_dg p (nn_nm p N (sb_R 5 f' q)))
    refine wp_c rfl (by omega) [3, 4, 1] (c_join (W := N) hp hn hN n5 hok (fun f2 b2 hj hok2 => ?_)) rfl rfl rfl rfl
    have e1 : ln_eq p N (nn_dg p (nn_nm p N (tt_bk p N T (nn_dg p (nn_nm p N (sb_R 5 f' r))) (nn_dg p (nn_nm p N (sb_R 5 f' q)))))) (tt_bk p N T (sb_R 5 f' r) (sb_R 5 f' q)) := fun c hc => by
      rw [n6 c hc]
      exact tt_bk_congr (fun i hi => by rw [n2 i hi]; exact nn_eq_rfl p _) (fun i hi => by rw [n4 i hi]; exact nn_eq_rfl p _) c
    have hin1 := fun x hx => (ln_join_in hj).2 x (hinv.1 x hx)
    have hin2 : ∀ K, ln_sub p N K → ln_g N (sb_R 5 fS) K → (∀ u v, K u → K v → K (tt_bk p N T u v)) → ln_g N (sb_R 5 f2) K := fun K hK hg hcl => by
      have hK2 := hinv.2.1 K hK hg hcl
      exact (hj.2.1 K hK).mpr ⟨hK2, hK.2.2.2 _ _ (ln_eq_symm e1) (hcl _ _ ((hK2 r hr)) (hK2 q hq))⟩
    cases b2 with
    | true =>
      have hct : ln_ct (sb_R 5 fS) N < ln_ct (sb_R 5 f2) N := by
        have := hj.2.2.1
        simp only [if_true] at this
        omega
      refine wp_b rfl (by simp) (fun c => ?_) (fun c => absurd (show ¬ (1 : Int) = 0 by omega) c)
      refine wp_g rfl (by omega) ?_
      exact ih (b + 1) f2 _ _ _ _ (by omega) (by omega) hok2 ⟨hin1, hin2, Or.inr ⟨rfl, hct⟩⟩
    | false =>
      have hsame := hj.2.2.2.2 rfl
      have hct2 : ln_ct (sb_R 5 f2) N = ln_ct (sb_R 5 f') N := ln_ct_congr N (fun r hr => by rw [hsame r r hr hr])
      refine wp_b rfl (by simp) (fun c => absurd rfl c) (fun c => ?_)
      rcases hinv.2.2 with ⟨hg0, hs0, hpd⟩ | ⟨hg1, hct⟩
      · subst hg0
        refine wp_b rfl (by omega) (fun c2 => ?_) (fun c2 => absurd rfl c2)
        refine wp_g rfl (by omega) ?_
        refine ih (b + 1) f2 _ _ _ _ (by omega) (by omega) hok2 ⟨hin1, hin2, Or.inl ⟨rfl, fun r c hr hc => (hsame r c hr hc).trans (hs0 r c hr hc), ?_⟩⟩
        have hmem : ln_in p N (sb_R 5 f') (nn_dg p (nn_nm p N (tt_bk p N T (nn_dg p (nn_nm p N (sb_R 5 f' r))) (nn_dg p (nn_nm p N (sb_R 5 f' q)))))) := Classical.byContradiction fun z => by
          have := hj.2.2.2.1.mpr z
          cases this
        have ctS : ∀ k, k < N → ln_ct (sb_R 5 f') k = ln_ct (sb_R 5 fS) k := fun k hk => ln_ct_congr k (fun r hr => by rw [hs0 r r (by omega) (by omega)])
        refine (ap_pd_next (r0 := r) (q0 := q) (by rw [← hs0 r r hr hr]; exact hrl) (by rw [← hs0 q q hq hq]; exact hql) hr hq (by rw [← ctS r hr]; exact hrc) (by rw [← ctS q hq]; exact hqc)).mpr ⟨hpd, ?_⟩
        have h3 := (ln_in_congr hs0).mp hmem
        refine (ln_in_sub _).2.2.2 _ _ (ln_eq_trans e1 (fun c hc => tt_bk_congr (fun i hi => by rw [hs0 r i hr hi]; exact nn_eq_rfl p _) (fun i hi => by rw [hs0 q i hq hi]; exact nn_eq_rfl p _) c)) h3
      · subst hg1
        refine wp_b rfl (by omega) (fun c2 => absurd c2 (show ¬ (1 : Int) = 0 by omega)) (fun c2 => ?_)
        refine wp_g rfl (by omega) ?_
        exact ih (b + 1) f2 _ _ _ _ (by omega) (by omega) hok2 ⟨hin1, hin2, Or.inr ⟨rfl, by omega⟩⟩
set_option maxHeartbeats 1000000 in
theorem ap_B2_out (ht : tt_ok p N T) (hb : tt_br p N T br) (hn : n = N) {fS : Nat → Int} {zS : Int} (hS : sb_ok 5 N p fS zS) (hQ : ∀ (f' : Nat → Int) (z' g : Int), sb_ok 5 N p f' z' → (∀ x, ln_in p N (sb_R 5 fS) x → ln_in p N (sb_R 5 f') x) → (∀ K, ln_sub p N K → ln_g N (sb_R 5 fS) K → (∀ u v, K u → K v → K (tt_bk p N T u v)) → ln_g N (sb_R 5 f') K) → ((g = 0 ∧ (∀ r c, r < N → c < N → sb_R 5 f' r c = sb_R 5 fS r c) ∧ ∀ u v, ln_in p N (sb_R 5 fS) u → ln_in p N (sb_R 5 fS) v → ln_in p N (sb_R 5 fS) (tt_bk p N T u v)) ∨ (g = 1 ∧ ln_ct (sb_R 5 fS) N < ln_ct (sb_R 5 f') N)) → Q (some (.inl g)) [.inr (4, [.inr 1, v_u, v_u, v_u]), c_T (.inl p) (.inl n) (.inr 2), c_A 25 br, c_S (.inl 5) (.inr 4) (.inl p) (.inl n) (.inl z'), c_A 30 f']) :
    ∀ (m a : Nat) (f' : Nat → Int) (z' g ai : Int) (d1 d2 : pj_V), a + m = ln_ct (sb_R 5 fS) N → ai = a → sb_ok 5 N p f' z' → ((∀ x, ln_in p N (sb_R 5 fS) x → ln_in p N (sb_R 5 f') x) ∧ (∀ K, ln_sub p N K → ln_g N (sb_R 5 fS) K → (∀ u v, K u → K v → K (tt_bk p N T u v)) → ln_g N (sb_R 5 f') K) ∧ ((g = 0 ∧ (∀ r c, r < N → c < N → sb_R 5 f' r c = sb_R 5 fS r c) ∧ ap_pd p N T (sb_R 5 fS) (sb_R 5 fS) a 0 (ln_in p N (sb_R 5 fS))) ∨ (g = 1 ∧ ln_ct (sb_R 5 fS) N < ln_ct (sb_R 5 f') N))) → pj_WP X m_Spaces_addProducts 18 [.inr 0, .inr 3, .inr 3, .inr 3, .inl g, .inl zS, .inl zS, .inl ai, d1, d2] [] [.inr (4, [.inr 1, v_u, v_u, v_u]), c_T (.inl p) (.inl n) (.inr 2), c_A 25 br, c_S (.inl 5) (.inr 4) (.inl p) (.inl n) (.inl z'), c_A 30 f'] Q := by
  obtain ⟨hp, h1N, hN, hT, -⟩ := id ht
  have hcL := ln_ct_w (sb_R 5 fS) N
  have hcR := ln_ct_w (sb_R 5 fS) N
  have ezL := hS.2.2
  have ezR := hS.2.2
  intro m
  induction m with
  | zero =>
    intro a f' z' g ai d1 d2 hk hai hok hinv
    have hg : g = 0 ∨ g = 1 := hinv.2.2.imp (fun h => h.1) (fun h => h.1)
    refine wp_b rfl (by omega) (fun c => ?_) (fun c => absurd c (by omega))
    refine wp_r rfl (by omega) ?_
    rw [show a = ln_ct (sb_R 5 fS) N by omega] at hinv
    exact hQ f' z' g hok hinv.1 hinv.2.1 (hinv.2.2.imp (fun h => ⟨h.1, h.2.1, fun u v hu hv => tt_bil (ln_in_sub _) hS.1 hS.1 (ap_pd_all.mp h.2.2) hu hv⟩) id)
  | succ m ih =>
    intro a f' z' g ai d1 d2 hk hai hok hinv
    refine wp_b rfl (by omega) (fun c => absurd c (by omega)) (fun c => ?_)
    refine wp_g rfl (by omega) ?_
    refine ap_B2_in ht hb hn hS hai (by omega) (fun f2 z2 g2 e1 e2 hok2 hinv2 => ?_) (ln_ct (sb_R 5 fS) N) 0 f' z' g _ _ (by omega) (by omega) hok hinv
    refine wp_g rfl (by omega) ?_
    exact ih (a + 1) f2 z2 g2 _ _ _ (by omega) (by omega) hok2 ⟨hinv2.1, hinv2.2.1, hinv2.2.2.imp (fun h => ⟨h.1, h.2.1, ap_pd_row.mp h.2.2⟩) id⟩
theorem c_addProducts_B2 (ht : tt_ok p N T) (hb : tt_br p N T br) (hn : n = N) {fS : Nat → Int} {zS : Int} (hS : sb_ok 5 N p fS zS) (hQ : ∀ (f' : Nat → Int) (z' g : Int), sb_ok 5 N p f' z' → (∀ x, ln_in p N (sb_R 5 fS) x → ln_in p N (sb_R 5 f') x) → (∀ K, ln_sub p N K → ln_g N (sb_R 5 fS) K → (∀ u v, K u → K v → K (tt_bk p N T u v)) → ln_g N (sb_R 5 f') K) → ((g = 0 ∧ (∀ r c, r < N → c < N → sb_R 5 f' r c = sb_R 5 fS r c) ∧ ∀ u v, ln_in p N (sb_R 5 fS) u → ln_in p N (sb_R 5 fS) v → ln_in p N (sb_R 5 fS) (tt_bk p N T u v)) ∨ (g = 1 ∧ ln_ct (sb_R 5 fS) N < ln_ct (sb_R 5 f') N)) → Q (some (.inl g)) [.inr (4, [.inr 1, v_u, v_u, v_u]), c_T (.inl p) (.inl n) (.inr 2), c_A 25 br, c_S (.inl 5) (.inr 4) (.inl p) (.inl n) (.inl z'), c_A 30 f']) : pj_ci X m_Spaces_addProducts [.inr 0, .inr 3, .inr 3, .inr 3] [.inr (4, [.inr 1, v_u, v_u, v_u]), c_T (.inl p) (.inl n) (.inr 2), c_A 25 br, c_S (.inl 5) (.inr 4) (.inl p) (.inl n) (.inl zS), c_A 30 fS] Q := by
  refine wp_g rfl (by omega) ?_
  exact ap_B2_out ht hb hn hS hQ (ln_ct (sb_R 5 fS) N) 0 fS zS _ _ _ _ (by omega) (by omega) hS ⟨fun x hx => hx, fun K hK hg _ => hg, Or.inl ⟨rfl, fun _ _ _ _ => rfl, ap_pd_none⟩⟩
end ADDP
end
section
/-! Spaces: fill, close, ideal, subalgebra, bracketsWith -/
section SPC
variable {X : pj_X} {Q : pj_Q} {p n : Int} {N : Nat} {T : Nat → Nat → Nat → Int} {br : Nat → Int}
def ln_e (i : Nat) : ln_V := fun k => if k = i then 1 else 0
theorem nn_dg_pw (hp : nn_p p) : ∀ (i k : Nat), nn_dg p (p ^ i) k = ln_e i k
  | 0, 0 => by
    show p ^ 0 % p = 1
    have := (nn_p_pos hp).2.1
    rw [Int.pow_zero, Int.emod_eq_of_lt (by omega) (by omega)]
  | 0, k + 1 => by
    show nn_dg p (p ^ 0 / p) k = ln_e 0 (k + 1)
    have := (nn_p_pos hp).2.1
    rw [Int.pow_zero, Int.ediv_eq_zero_of_lt (by omega) (by omega), nn_dg_0 (by omega)]
    rfl
  | i + 1, 0 => by
    show p ^ (i + 1) % p = 0
    rw [Int.pow_succ, Int.mul_emod_left]
  | i + 1, k + 1 => by
    show nn_dg p (p ^ (i + 1) / p) k = ln_e (i + 1) (k + 1)
    have := (nn_p_pos hp).2.1
    rw [Int.pow_succ, Int.mul_ediv_cancel _ (by omega), nn_dg_pw hp i k]
    unfold ln_e
    by_cases h : k = i
    · rw [if_pos h, if_pos (by omega)]
    · rw [if_neg h, if_neg (by omega)]
/-- every vector out of the unit vectors -/
theorem ln_e_all {W : ln_P} (hW : ln_sub p N W) (h : ∀ i, i < N → W (ln_e i)) (x : ln_V) : W x := by
  refine hW.2.2.2 _ _ (fun c hc => ?_) (ln_sub_sm hW x N h)
  show nn_eq p (nn_sm N (fun r => x r * ln_e r c)) (x c)
  rw [nn_sm_one N c hc (fun r hr hne => by
    unfold ln_e
    rw [if_neg (fun z => hne z.symm), Int.mul_zero])]
  unfold ln_e
  rw [if_pos rfl, Int.mul_one]
  exact nn_eq_rfl p _
theorem ln_full_ct {R : Nat → ln_V} (hp : 1 < p) (h : ∀ x, ln_in p N R x) : (∀ r, r < N → R r r ≠ 0) ∧ ln_ct R N = N := by
  have key : ∀ r, r < N → R r r ≠ 0 := fun r hr h0 => by
    have h1 := h (ln_e r) r hr
    have h1 : nn_eq p (ln_e r r) (nn_sm N (fun q => ln_e r q * R q r)) := h1
    rw [nn_sm_one N r hr (fun q hq hne => by unfold ln_e; rw [if_neg hne, Int.zero_mul]), h0, Int.mul_zero] at h1
    unfold ln_e at h1
    rw [if_pos rfl, nn_eq_iff, Int.zero_emod, Int.emod_eq_of_lt (by omega) hp] at h1
    omega
  have ct : ∀ n, (∀ r, r < n → R r r ≠ 0) → ln_ct R n = n := by
    intro n
    induction n with
    | zero => intro _; rfl
    | succ n ih =>
      intro hk
      show ln_ct R n + _ = n + 1
      rw [ih (fun r hr => hk r (by omega)), if_neg (hk n (by omega))]
  exact ⟨key, ct N key⟩
abbrev c_Sp (t a b c : pj_V) : pj_C := .inr (4, [t, a, b, c])
theorem c_fill_in (hp : nn_p p) (hN : N ≤ 5) (hn : n = N) (hQ : ∀ f', sb_ok 5 N p f' n → (∀ x, ln_in p N (sb_R 5 f') x) → Q none [c_Sp (.inr 1) v_u v_u v_u, c_T (.inl p) (.inl n) v_u, c_S (.inl 5) (.inr 3) (.inl p) (.inl n) (.inl n), c_A 30 f']) :
    ∀ (m k : Nat) (g : Nat → Int) (z sz : Int), k + m = N → z = k → sb_ok 5 N p g sz → (∀ j, j < k → ln_in p N (sb_R 5 g) (ln_e j)) → pj_WP X m_Spaces_fill 20 [.inr 0, .inr 2, .inl z] [] [c_Sp (.inr 1) v_u v_u v_u, c_T (.inl p) (.inl n) v_u, c_S (.inl 5) (.inr 3) (.inl p) (.inl n) (.inl sz), c_A 30 g] Q := by
  obtain ⟨hp1, hp2, hp3⟩ := nn_p_pos hp
  intro m
  induction m with
  | zero =>
    intro k g z sz hk hz hok hin
    refine wp_b rfl (by omega) (fun c => ?_) (fun c => absurd c (by omega))
    refine wp_r rfl (by omega) ?_
    have hall : ∀ x, ln_in p N (sb_R 5 g) x := ln_e_all (ln_in_sub _) (fun i hi => hin i (by omega))
    have hs : sz = n := by rw [hok.2.2, (ln_full_ct (by omega) hall).2, hn]
    subst hs
    exact hQ g hok hall
  | succ m ih =>
    intro k g z sz hk hz hok hin
    have h1 := nn_pwle hp k (by omega)
    have h2 := nn_pw1 hp1 k
    refine wp_b rfl (by omega) (fun c => absurd c (by omega)) (fun c => ?_)
    refine wp_c rfl (by omega) [1] (c_power (E := k) (by omega) hz ?_) rfl rfl rfl rfl
    refine wp_c rfl (by omega) [2, 3, 1] (c_join (W := N) hp hn hN (by omega) hok (fun f2 b hj hok2 => ?_)) rfl rfl rfl rfl
    refine wp_g rfl (by omega) ?_
    refine ih (k + 1) f2 _ _ (by omega) (by omega) hok2 (fun j hj2 => ?_)
    by_cases h : j = k
    · subst h
      exact (ln_in_sub _).2.2.2 _ _ (fun c hc => by rw [nn_dg_pw hp]; exact nn_eq_rfl p _) (ln_join_in hj).1
    · exact (ln_join_in hj).2 _ (hin j (by omega))
/-- fill(space): the whole space -/
theorem c_Sfill {f : Nat → Int} (hp : nn_p p) (hN : N ≤ 5) (hn : n = N) (hQ : ∀ f', sb_ok 5 N p f' n → (∀ x, ln_in p N (sb_R 5 f') x) → Q none [c_Sp (.inr 1) v_u v_u v_u, c_T (.inl p) (.inl n) v_u, c_S (.inl 5) (.inr 3) (.inl p) (.inl n) (.inl n), c_A 30 f']) : pj_ci X m_Spaces_fill [.inr 0, .inr 2] [c_Sp (.inr 1) v_u v_u v_u, c_T (.inl p) (.inl n) v_u, c_S (.inl 5) (.inr 3) v_u v_u v_u, c_A 30 f] Q := by
  have hp1 := (nn_p_pos hp).1
  refine wp_c rfl (by omega) [2, 3] (c_Sbegin (C := 5) (W := N) (by omega) hn hN ?_) rfl rfl rfl rfl
  refine wp_g rfl (by omega) ?_
  exact c_fill_in hp hN hn hQ N 0 _ _ _ (by omega) (by omega) (sb_zero (C := 5) hp1 hN).1 (fun j hj => by omega)
/-- close(left, space): the left one apart -/
theorem c_close1_loop (ht : tt_ok p N T) (hb : tt_br p N T br) (hn : n = N) {fL fS : Nat → Int} {zL zS : Int} (hL : sb_ok 5 N p fL zL) (hS : sb_ok 5 N p fS zS)
    (hQ : ∀ (f' : Nat → Int) (z' : Int), sb_ok 5 N p f' z' → (∀ x, ln_in p N (sb_R 5 fS) x → ln_in p N (sb_R 5 f') x) → (∀ K, ln_sub p N K → ln_g N (sb_R 5 fS) K → (∀ u v, ln_in p N (sb_R 5 fL) u → K v → K (tt_bk p N T u v)) → ln_g N (sb_R 5 f') K) → (∀ u v, ln_in p N (sb_R 5 fL) u → ln_in p N (sb_R 5 f') v → ln_in p N (sb_R 5 f') (tt_bk p N T u v)) → Q none [c_Sp (.inr 1) v_u v_u v_u, c_T (.inl p) (.inl n) (.inr 2), c_A 25 br, c_S (.inl 5) (.inr 4) (.inl p) (.inl n) (.inl zL), c_A 30 fL, c_S (.inl 5) (.inr 6) (.inl p) (.inl n) (.inl z'), c_A 30 f']) :
    ∀ (m k : Nat) (g : Nat → Int) (sz gr z : Int), k + m = N + 2 → z = k → sb_ok 5 N p g sz → (∀ x, ln_in p N (sb_R 5 fS) x → ln_in p N (sb_R 5 g) x) → (∀ K, ln_sub p N K → ln_g N (sb_R 5 fS) K → (∀ u v, ln_in p N (sb_R 5 fL) u → K v → K (tt_bk p N T u v)) → ln_g N (sb_R 5 g) K) → ((gr = 1 ∧ k ≤ ln_ct (sb_R 5 g) N) ∨ (gr = 0 ∧ ∀ u v, ln_in p N (sb_R 5 fL) u → ln_in p N (sb_R 5 g) v → ln_in p N (sb_R 5 g) (tt_bk p N T u v))) → pj_WP X m_Spaces_close 5 [.inr 0, .inr 3, .inr 5, .inl gr, .inl z] [] [c_Sp (.inr 1) v_u v_u v_u, c_T (.inl p) (.inl n) (.inr 2), c_A 25 br, c_S (.inl 5) (.inr 4) (.inl p) (.inl n) (.inl zL), c_A 30 fL, c_S (.inl 5) (.inr 6) (.inl p) (.inl n) (.inl sz), c_A 30 g] Q := by
  obtain ⟨hp, h1N, hN, hT, -⟩ := id ht
  intro m
  induction m with
  | zero =>
    intro k g sz gr z hk hz hok h1 h2 h3
    have hw := ln_ct_w (sb_R 5 g) N
    rcases h3 with h3 | h3
    · omega
    · refine wp_b rfl (by omega) (fun c => ?_) (fun c => absurd c (by omega))
      exact wp_r rfl (by omega) (hQ g sz hok h1 h2 h3.2)
  | succ m ih =>
    intro k g sz gr z hk hz hok h1 h2 h3
    have hw := ln_ct_w (sb_R 5 g) N
    rcases h3 with ⟨e3, h3⟩ | ⟨e3, h3⟩
    · subst e3
      refine wp_b rfl (by omega) (fun c => absurd c (by omega)) (fun c => ?_)
      refine wp_b rfl (by omega) (fun c => absurd c (show ¬ (1 : Int) = 0 by omega)) (fun c => ?_)
      refine wp_c rfl (by omega) [0, 1, 2, 3, 4, 5, 6] (c_addProducts_B1 ht hb hn hL hok (fun f2 z2 g2 hok2 a1 a2 a3 => ?_)) rfl rfl rfl rfl
      refine wp_g rfl (by omega) ?_
      refine ih (k + 1) f2 z2 g2 _ (by omega) (by omega) hok2 (fun x hx => a1 x (h1 x hx)) (fun K hK hg hc => a2 K hK (h2 K hK hg hc) hc) ?_
      rcases a3 with ⟨e4, hs, hcl⟩ | ⟨e4, hct⟩
      · refine Or.inr ⟨e4, fun u v hu hv => ?_⟩
        exact (ln_in_congr hs).mpr (hcl u v hu ((ln_in_congr hs).mp hv))
      · exact Or.inl ⟨e4, by omega⟩
    · subst e3
      refine wp_b rfl (by omega) (fun c => ?_) (fun c => ?_)
      · exact wp_r rfl (by omega) (hQ g sz hok h1 h2 h3)
      · refine wp_b rfl (by omega) (fun c => ?_) (fun c => absurd rfl c)
        exact wp_r rfl (by omega) (hQ g sz hok h1 h2 h3)
theorem c_close1 (ht : tt_ok p N T) (hb : tt_br p N T br) (hn : n = N) {fL fS : Nat → Int} {zL zS : Int} (hL : sb_ok 5 N p fL zL) (hS : sb_ok 5 N p fS zS)
    (hQ : ∀ (f' : Nat → Int) (z' : Int), sb_ok 5 N p f' z' → (∀ x, ln_in p N (sb_R 5 fS) x → ln_in p N (sb_R 5 f') x) → (∀ K, ln_sub p N K → ln_g N (sb_R 5 fS) K → (∀ u v, ln_in p N (sb_R 5 fL) u → K v → K (tt_bk p N T u v)) → ln_g N (sb_R 5 f') K) → (∀ u v, ln_in p N (sb_R 5 fL) u → ln_in p N (sb_R 5 f') v → ln_in p N (sb_R 5 f') (tt_bk p N T u v)) → Q none [c_Sp (.inr 1) v_u v_u v_u, c_T (.inl p) (.inl n) (.inr 2), c_A 25 br, c_S (.inl 5) (.inr 4) (.inl p) (.inl n) (.inl zL), c_A 30 fL, c_S (.inl 5) (.inr 6) (.inl p) (.inl n) (.inl z'), c_A 30 f']) :
    pj_ci X m_Spaces_close [.inr 0, .inr 3, .inr 5] [c_Sp (.inr 1) v_u v_u v_u, c_T (.inl p) (.inl n) (.inr 2), c_A 25 br, c_S (.inl 5) (.inr 4) (.inl p) (.inl n) (.inl zL), c_A 30 fL, c_S (.inl 5) (.inr 6) (.inl p) (.inl n) (.inl zS), c_A 30 fS] Q := by
  refine wp_g rfl (by omega) ?_
  exact c_close1_loop ht hb hn hL hS hQ (N + 2) 0 fS zS _ _ (by omega) (by omega) hS (fun x hx => hx) (fun K _ hg _ => hg) (Or.inl ⟨rfl, Nat.zero_le _⟩)
theorem c_close2_loop (ht : tt_ok p N T) (hb : tt_br p N T br) (hn : n = N) {fS : Nat → Int} {zS : Int} (hS : sb_ok 5 N p fS zS)
    (hQ : ∀ (f' : Nat → Int) (z' : Int), sb_ok 5 N p f' z' → (∀ x, ln_in p N (sb_R 5 fS) x → ln_in p N (sb_R 5 f') x) → (∀ K, ln_sub p N K → ln_g N (sb_R 5 fS) K → (∀ u v, K u → K v → K (tt_bk p N T u v)) → ln_g N (sb_R 5 f') K) → (∀ u v, ln_in p N (sb_R 5 f') u → ln_in p N (sb_R 5 f') v → ln_in p N (sb_R 5 f') (tt_bk p N T u v)) → Q none [c_Sp (.inr 1) v_u v_u v_u, c_T (.inl p) (.inl n) (.inr 2), c_A 25 br, c_S (.inl 5) (.inr 4) (.inl p) (.inl n) (.inl z'), c_A 30 f']) :
    ∀ (m k : Nat) (g : Nat → Int) (sz gr z : Int), k + m = N + 2 → z = k → sb_ok 5 N p g sz → (∀ x, ln_in p N (sb_R 5 fS) x → ln_in p N (sb_R 5 g) x) → (∀ K, ln_sub p N K → ln_g N (sb_R 5 fS) K → (∀ u v, K u → K v → K (tt_bk p N T u v)) → ln_g N (sb_R 5 g) K) → ((gr = 1 ∧ k ≤ ln_ct (sb_R 5 g) N) ∨ (gr = 0 ∧ ∀ u v, ln_in p N (sb_R 5 g) u → ln_in p N (sb_R 5 g) v → ln_in p N (sb_R 5 g) (tt_bk p N T u v))) → pj_WP X m_Spaces_close 5 [.inr 0, .inr 3, .inr 3, .inl gr, .inl z] [] [c_Sp (.inr 1) v_u v_u v_u, c_T (.inl p) (.inl n) (.inr 2), c_A 25 br, c_S (.inl 5) (.inr 4) (.inl p) (.inl n) (.inl sz), c_A 30 g] Q := by
  obtain ⟨hp, h1N, hN, hT, -⟩ := id ht
  intro m
  induction m with
  | zero =>
    intro k g sz gr z hk hz hok h1 h2 h3
    have hw := ln_ct_w (sb_R 5 g) N
    rcases h3 with h3 | h3
    · omega
    · refine wp_b rfl (by omega) (fun c => ?_) (fun c => absurd c (by omega))
      exact wp_r rfl (by omega) (hQ g sz hok h1 h2 h3.2)
  | succ m ih =>
    intro k g sz gr z hk hz hok h1 h2 h3
    have hw := ln_ct_w (sb_R 5 g) N
    rcases h3 with ⟨e3, h3⟩ | ⟨e3, h3⟩
    · subst e3
      refine wp_b rfl (by omega) (fun c => absurd c (by omega)) (fun c => ?_)
      refine wp_b rfl (by omega) (fun c => absurd c (show ¬ (1 : Int) = 0 by omega)) (fun c => ?_)
      refine wp_c rfl (by omega) [0, 1, 2, 3, 4] (c_addProducts_B2 ht hb hn hok (fun f2 z2 g2 hok2 a1 a2 a3 => ?_)) rfl rfl rfl rfl
      refine wp_g rfl (by omega) ?_
      refine ih (k + 1) f2 z2 g2 _ (by omega) (by omega) hok2 (fun x hx => a1 x (h1 x hx)) (fun K hK hg hc => a2 K hK (h2 K hK hg hc) hc) ?_
      rcases a3 with ⟨e4, hs, hcl⟩ | ⟨e4, hct⟩
      · refine Or.inr ⟨e4, fun u v hu hv => ?_⟩
        exact (ln_in_congr hs).mpr (hcl u v ((ln_in_congr hs).mp hu) ((ln_in_congr hs).mp hv))
      · exact Or.inl ⟨e4, by omega⟩
    · subst e3
      refine wp_b rfl (by omega) (fun c => ?_) (fun c => ?_)
      · exact wp_r rfl (by omega) (hQ g sz hok h1 h2 h3)
      · refine wp_b rfl (by omega) (fun c => ?_) (fun c => absurd rfl c)
        exact wp_r rfl (by omega) (hQ g sz hok h1 h2 h3)
theorem c_close2 (ht : tt_ok p N T) (hb : tt_br p N T br) (hn : n = N) {fS : Nat → Int} {zS : Int} (hS : sb_ok 5 N p fS zS)
    (hQ : ∀ (f' : Nat → Int) (z' : Int), sb_ok 5 N p f' z' → (∀ x, ln_in p N (sb_R 5 fS) x → ln_in p N (sb_R 5 f') x) → (∀ K, ln_sub p N K → ln_g N (sb_R 5 fS) K → (∀ u v, K u → K v → K (tt_bk p N T u v)) → ln_g N (sb_R 5 f') K) → (∀ u v, ln_in p N (sb_R 5 f') u → ln_in p N (sb_R 5 f') v → ln_in p N (sb_R 5 f') (tt_bk p N T u v)) → Q none [c_Sp (.inr 1) v_u v_u v_u, c_T (.inl p) (.inl n) (.inr 2), c_A 25 br, c_S (.inl 5) (.inr 4) (.inl p) (.inl n) (.inl z'), c_A 30 f']) :
    pj_ci X m_Spaces_close [.inr 0, .inr 3, .inr 3] [c_Sp (.inr 1) v_u v_u v_u, c_T (.inl p) (.inl n) (.inr 2), c_A 25 br, c_S (.inl 5) (.inr 4) (.inl p) (.inl n) (.inl zS), c_A 30 fS] Q := by
  refine wp_g rfl (by omega) ?_
  exact c_close2_loop ht hb hn hS hQ (N + 2) 0 fS zS _ _ (by omega) (by omega) hS (fun x hx => hx) (fun K _ hg _ => hg) (Or.inl ⟨rfl, Nat.zero_le _⟩)
end SPC
end
section
/-! Spaces: ideal, subalgebra, bracketsWith, the series -/
def ds_ideal (p : Int) (N : Nat) (T : Nat → Nat → Nat → Int) (v : ln_V) : ln_P := fun x => ∀ K, ln_sub p N K → K v → (∀ u w, K w → K (tt_bk p N T u w)) → K x
def ds_salg (p : Int) (N : Nat) (T : Nat → Nat → Nat → Int) (u v : ln_V) : ln_P := fun x => ∀ K, ln_sub p N K → K u → K v → (∀ a b, K a → K b → K (tt_bk p N T a b)) → K x
def ds_br (p : Int) (N : Nat) (T : Nat → Nat → Nat → Int) (v : ln_V) : ln_P := fun x => ∀ K, ln_sub p N K → (∀ u, K (tt_bk p N T u v)) → K x
/-- a level of a series: byWhole the lower central one, else the derived one -/
def ds_D (p : Int) (N : Nat) (T : Nat → Nat → Nat → Int) (byWhole : Bool) : Nat → ln_P
  | 0 => fun _ => True
  | k + 1 => fun x => ∀ K, ln_sub p N K → (∀ u v, (byWhole = true ∨ ds_D p N T byWhole k u) → ds_D p N T byWhole k v → K (tt_bk p N T u v)) → K x
/-- R is the canonical matrix of the subspace U -/
def ds_is (p : Int) (N : Nat) (R : Nat → ln_V) (U : ln_P) : Prop := ln_R p N R ∧ ∀ x, ln_in p N R x ↔ U x
theorem ds_uniq {p : Int} {N : Nat} {R R' : Nat → ln_V} {U : ln_P} (hp : nn_p p) (h : ds_is p N R U) (h' : ds_is p N R' U) : ∀ r c, r < N → c < N → R r c = R' r c :=
  ln_uniq h.1 h'.1 (by have := (nn_p_pos hp).2.1; omega) (fun x => (h.2 x).trans (h'.2 x).symm)
section SPC2
variable {X : pj_X} {Q : pj_Q} {p n : Int} {N : Nat} {T : Nat → Nat → Nat → Int} {br : Nat → Int}
theorem ln_sp1 {v : ln_V} {R : Nat → ln_V} {R0 : Nat → ln_V} {b : Bool} (h0 : ∀ r c, r < N → c < N → R0 r c = 0) (hj : ln_join p N R0 v R b) : ∀ K, ln_sub p N K → (ln_g N R K ↔ K v) := by
  intro K hK
  rw [hj.2.1 K hK]
  exact ⟨fun h => h.2, fun h => ⟨fun r hr => hK.2.2.2 _ _ (fun c hc => by rw [h0 r c hr hc]; exact nn_eq_rfl p 0) hK.1, h⟩⟩
abbrev w_I (p n : Int) (br : Nat → Int) (sW : pj_C) (fW : Nat → Int) (sF : pj_C) (fF : Nat → Int) : List pj_C := [c_Sp (.inr 1) (.inr 3) (.inr 5) v_u, c_T (.inl p) (.inl n) (.inr 2), c_A 25 br, sW, c_A 30 fW, sF, c_A 30 fF]
abbrev w_G (p n : Int) (br : Nat → Int) (sF : pj_C) (fF : Nat → Int) : List pj_C := [c_Sp (.inr 1) v_u (.inr 3) v_u, c_T (.inl p) (.inl n) (.inr 2), c_A 25 br, sF, c_A 30 fF]
/-- ideal(v) -/
theorem c_ideal (ht : tt_ok p N T) (hb : tt_br p N T br) (hn : n = N) {v : Int} (hv : 0 ≤ v ∧ v ≤ 2147483647) {fW fF : Nat → Int}
    (hQ : ∀ (fW' f' : Nat → Int) (z' : Int), sb_ok 5 N p f' z' → ds_is p N (sb_R 5 f') (ds_ideal p N T (nn_dg p v)) → Q (some (.inr 5)) [c_Sp (.inr 1) (.inr 3) (.inr 5) v_u, c_T (.inl p) (.inl n) (.inr 2), c_A 25 br, c_S (.inl 5) (.inr 4) (.inl p) (.inl n) (.inl n), c_A 30 fW', c_S (.inl 5) (.inr 6) (.inl p) (.inl n) (.inl z'), c_A 30 f']) :
    pj_ci X m_Spaces_ideal [.inr 0, .inl v] [c_Sp (.inr 1) (.inr 3) (.inr 5) v_u, c_T (.inl p) (.inl n) (.inr 2), c_A 25 br, c_S (.inl 5) (.inr 4) v_u v_u v_u, c_A 30 fW, c_S (.inl 5) (.inr 6) v_u v_u v_u, c_A 30 fF] Q := by
  obtain ⟨hp, h1N, hN, hT, -⟩ := id ht
  have hp1 := (nn_p_pos hp).1
  refine wp_c rfl (by omega) [0, 1, 3, 4] (c_Sfill hp hN hn (fun fW1 hokW hall => ?_)) rfl rfl rfl rfl
  refine wp_h (w_I p n br (c_S (.inl 5) (.inr 4) (.inl p) (.inl n) (.inl n)) fW1 (c_S (.inl 5) (.inr 6) v_u v_u v_u) fF) rfl ?_
  refine wp_c rfl (by omega) [5, 6] (c_Sbegin (C := 5) (W := N) (by omega) hn hN ?_) rfl rfl rfl rfl
  refine wp_h (w_I p n br (c_S (.inl 5) (.inr 4) (.inl p) (.inl n) (.inl n)) fW1 (c_S (.inl 5) (.inr 6) (.inl p) (.inl n) (.inl 0)) (fun k => if k < (5 + 1) * 5 then 0 else fF k)) rfl ?_
  obtain ⟨hz1, hz2⟩ := sb_zero (C := 5) (W := N) (f := fF) hp1 hN
  refine wp_c rfl (by omega) [5, 6, 1] (c_join (W := N) hp hn hN hv hz1 (fun f2 b hj hok2 => ?_)) rfl rfl rfl rfl
  refine wp_h (w_I p n br (c_S (.inl 5) (.inr 4) (.inl p) (.inl n) (.inl n)) fW1 (c_S (.inl 5) (.inr 6) (.inl p) (.inl n) (.inl (0 + if b = true then 1 else 0))) f2) rfl ?_
  have hs := ln_sp1 hz2 hj
  refine wp_c rfl (by omega) [0, 1, 2, 3, 4, 5, 6] (c_close1 ht hb hn hokW hok2 (fun f3 z3 hok3 a1 a2 a3 => ?_)) rfl rfl rfl rfl
  refine wp_r rfl (by omega) (hQ fW1 f3 z3 hok3 ⟨hok3.1, fun x => ⟨fun hx K hK h1 h2 => ?_, fun hx => ?_⟩⟩)
  · exact ln_in_W hK (a2 K hK ((hs K hK).mpr h1) (fun u w _ hw => h2 u w hw)) hx
  · exact hx _ (ln_in_sub _) (a1 _ (ln_join_in hj).1) (fun u w hw => a3 u w (hall u) hw)
/-- subalgebra(u, v) -/
theorem c_subalg (ht : tt_ok p N T) (hb : tt_br p N T br) (hn : n = N) {u v : Int} (hu : 0 ≤ u ∧ u ≤ 2147483647) (hv : 0 ≤ v ∧ v ≤ 2147483647) {fF : Nat → Int}
    (hQ : ∀ (f' : Nat → Int) (z' : Int), sb_ok 5 N p f' z' → ds_is p N (sb_R 5 f') (ds_salg p N T (nn_dg p u) (nn_dg p v)) → Q (some (.inr 3)) [c_Sp (.inr 1) v_u (.inr 3) v_u, c_T (.inl p) (.inl n) (.inr 2), c_A 25 br, c_S (.inl 5) (.inr 4) (.inl p) (.inl n) (.inl z'), c_A 30 f']) :
    pj_ci X m_Spaces_subalgebra [.inr 0, .inl u, .inl v] [c_Sp (.inr 1) v_u (.inr 3) v_u, c_T (.inl p) (.inl n) (.inr 2), c_A 25 br, c_S (.inl 5) (.inr 4) v_u v_u v_u, c_A 30 fF] Q := by
  obtain ⟨hp, h1N, hN, hT, -⟩ := id ht
  have hp1 := (nn_p_pos hp).1
  refine wp_c rfl (by omega) [3, 4] (c_Sbegin (C := 5) (W := N) (by omega) hn hN ?_) rfl rfl rfl rfl
  refine wp_h (w_G p n br (c_S (.inl 5) (.inr 4) (.inl p) (.inl n) (.inl 0)) (fun k => if k < (5 + 1) * 5 then 0 else fF k)) rfl ?_
  obtain ⟨hz1, hz2⟩ := sb_zero (C := 5) (W := N) (f := fF) hp1 hN
  refine wp_c rfl (by omega) [3, 4, 1] (c_join (W := N) hp hn hN hu hz1 (fun f2 b hj hok2 => ?_)) rfl rfl rfl rfl
  refine wp_h (w_G p n br (c_S (.inl 5) (.inr 4) (.inl p) (.inl n) (.inl (0 + if b = true then 1 else 0))) f2) rfl ?_
  refine wp_c rfl (by omega) [3, 4, 1] (c_join (W := N) hp hn hN hv hok2 (fun f3 b3 hj3 hok3 => ?_)) rfl rfl rfl rfl
  refine wp_h (w_G p n br (c_S (.inl 5) (.inr 4) (.inl p) (.inl n) (.inl (0 + (if b = true then 1 else 0) + if b3 = true then 1 else 0))) f3) rfl ?_
  have hs := ln_sp1 hz2 hj
  refine wp_c rfl (by omega) [0, 1, 2, 3, 4] (c_close2 ht hb hn hok3 (fun f4 z4 hok4 a1 a2 a3 => ?_)) rfl rfl rfl rfl
  refine wp_r rfl (by omega) (hQ f4 z4 hok4 ⟨hok4.1, fun x => ⟨fun hx K hK h1 h2 h3 => ?_, fun hx => ?_⟩⟩)
  · exact ln_in_W hK (a2 K hK ((hj3.2.1 K hK).mpr ⟨(hs K hK).mpr h1, h2⟩) h3) hx
  · exact hx _ (ln_in_sub _) (a1 _ ((ln_join_in hj3).2 _ (ln_join_in hj).1)) (a1 _ (ln_join_in hj3).1) a3
theorem c_brWith_loop (ht : tt_ok p N T) (hb : tt_br p N T br) (hn : n = N) {v : Int} (hv : 0 ≤ v ∧ v ≤ 2147483647)
    (hQ : ∀ (f' : Nat → Int) (z' : Int), sb_ok 5 N p f' z' → ds_is p N (sb_R 5 f') (ds_br p N T (nn_dg p v)) → Q (some (.inr 3)) [c_Sp (.inr 1) v_u (.inr 3) v_u, c_T (.inl p) (.inl n) (.inr 2), c_A 25 br, c_S (.inl 5) (.inr 4) (.inl p) (.inl n) (.inl z'), c_A 30 f']) :
    ∀ (m k : Nat) (g : Nat → Int) (sz z : Int), k + m = N → z = k → sb_ok 5 N p g sz → (∀ K, ln_sub p N K → (ln_g N (sb_R 5 g) K ↔ ∀ i, i < k → K (tt_bk p N T (ln_e i) (nn_dg p v)))) → pj_WP X m_Spaces_bracketsWith 23 [.inr 0, .inl v, .inl z] [] [c_Sp (.inr 1) v_u (.inr 3) v_u, c_T (.inl p) (.inl n) (.inr 2), c_A 25 br, c_S (.inl 5) (.inr 4) (.inl p) (.inl n) (.inl sz), c_A 30 g] Q := by
  obtain ⟨hp, h1N, hN, hT, -⟩ := id ht
  obtain ⟨hp1, hp2, hp3⟩ := nn_p_pos hp
  intro m
  induction m with
  | zero =>
    intro k g sz z hk hz hok hinv
    refine wp_b rfl (by omega) (fun c => ?_) (fun c => absurd c (by omega))
    refine wp_r rfl (by omega) (hQ g sz hok ⟨hok.1, fun x => ⟨fun hx K hK h1 => ?_, fun hx => ?_⟩⟩)
    · exact ln_in_W hK ((hinv K hK).mpr (fun i _ => h1 (ln_e i))) hx
    · refine hx _ (ln_in_sub _) (fun u => ?_)
      have h2 := (hinv _ (ln_in_sub (sb_R 5 g))).mp (fun r hr => ln_in_row hok.1 hr)
      exact ln_e_all (N := N) (tt_sub_l (ln_in_sub (sb_R 5 g)) (nn_dg p v)) (fun i hi => h2 i (by omega)) u
  | succ m ih =>
    intro k g sz z hk hz hok hinv
    have h1 := nn_pwle hp k (by omega)
    have h2 := nn_pw1 hp1 k
    refine wp_b rfl (by omega) (fun c => absurd c (by omega)) (fun c => ?_)
    refine wp_c rfl (by omega) [1] (c_power (E := k) (by omega) hz ?_) rfl rfl rfl rfl
    refine wp_c rfl (by omega) [1, 2] (c_product ht hb hn (by omega) hv ?_) rfl rfl rfl rfl
    obtain ⟨n5, n6⟩ := tt_bk_num (T := T) hp hN (nn_dg p (p ^ k)) (nn_dg p v)
    refine wp_c rfl (by omega) [3, 4, 1] (c_join (W := N) hp hn hN n5 hok (fun f2 b hj hok2 => ?_)) rfl rfl rfl rfl
    refine wp_g rfl (by omega) ?_
    refine ih (k + 1) f2 _ _ (by omega) (by omega) hok2 (fun K hK => ?_)
    rw [hj.2.1 K hK, hinv K hK]
    have e1 : ln_eq p N (nn_dg p (nn_nm p N (tt_bk p N T (nn_dg p (p ^ k)) (nn_dg p v)))) (tt_bk p N T (ln_e k) (nn_dg p v)) := fun c hc => by
      rw [n6 c hc]
      exact tt_bk_congr (fun i hi => by rw [nn_dg_pw hp]; exact nn_eq_rfl p _) (ln_eq_rfl _) c
    have e : K (nn_dg p (nn_nm p N (tt_bk p N T (nn_dg p (p ^ k)) (nn_dg p v)))) ↔ K (tt_bk p N T (ln_e k) (nn_dg p v)) := ⟨fun h => hK.2.2.2 _ _ e1 h, fun h => hK.2.2.2 _ _ (ln_eq_symm e1) h⟩
    rw [e]
    constructor
    · rintro ⟨a1, a2⟩ i hi
      by_cases h : i = k
      · subst h; exact a2
      · exact a1 i (by omega)
    · intro h
      exact ⟨fun i hi => h i (by omega), h k (by omega)⟩
/-- bracketsWith(v) -/
theorem c_brWith (ht : tt_ok p N T) (hb : tt_br p N T br) (hn : n = N) {v : Int} (hv : 0 ≤ v ∧ v ≤ 2147483647) {fF : Nat → Int}
    (hQ : ∀ (f' : Nat → Int) (z' : Int), sb_ok 5 N p f' z' → ds_is p N (sb_R 5 f') (ds_br p N T (nn_dg p v)) → Q (some (.inr 3)) [c_Sp (.inr 1) v_u (.inr 3) v_u, c_T (.inl p) (.inl n) (.inr 2), c_A 25 br, c_S (.inl 5) (.inr 4) (.inl p) (.inl n) (.inl z'), c_A 30 f']) :
    pj_ci X m_Spaces_bracketsWith [.inr 0, .inl v] [c_Sp (.inr 1) v_u (.inr 3) v_u, c_T (.inl p) (.inl n) (.inr 2), c_A 25 br, c_S (.inl 5) (.inr 4) v_u v_u v_u, c_A 30 fF] Q := by
  obtain ⟨hp, h1N, hN, hT, -⟩ := id ht
  have hp1 := (nn_p_pos hp).1
  refine wp_c rfl (by omega) [3, 4] (c_Sbegin (C := 5) (W := N) (by omega) hn hN ?_) rfl rfl rfl rfl
  obtain ⟨hz1, hz2⟩ := sb_zero (C := 5) (W := N) (f := fF) hp1 hN
  refine wp_g rfl (by omega) ?_
  exact c_brWith_loop ht hb hn hv hQ N 0 _ _ _ (by omega) (by omega) hz1 (fun K hK => ⟨fun _ i hi => absurd hi (by omega), fun _ r hr => hK.2.2.2 _ _ (fun c hc => by rw [hz2 r c hr hc]; exact nn_eq_rfl p 0) hK.1⟩)
/-! the series -/
theorem ds_D_sub (w : Bool) : ∀ k, ln_sub p N (ds_D p N T w k)
  | 0 => ⟨trivial, fun _ _ _ _ => trivial, fun _ _ _ => trivial, fun _ _ _ _ => trivial⟩
  | k + 1 => ⟨fun K hK _ => hK.1, fun x y hx hy K hK h => hK.2.1 _ _ (hx K hK h) (hy K hK h), fun a x hx K hK h => hK.2.2.1 a _ (hx K hK h), fun x y e hx K hK h => hK.2.2.2 _ _ e (hx K hK h)⟩
theorem ds_D_desc (w : Bool) : ∀ k x, ds_D p N T w (k + 1) x → ds_D p N T w k x
  | 0, _, _ => trivial
  | k + 1, x, h => h _ (ds_D_sub w (k + 1)) (fun u v hu hv K hK h2 => h2 u v (hu.imp id (ds_D_desc w k u)) (ds_D_desc w k v hv))
theorem ds_D_stop (w : Bool) {k : Nat} (h : ∀ x, ds_D p N T w k x → ds_D p N T w (k + 1) x) : ∀ (m : Nat) (x : ln_V), ds_D p N T w (k + m) x ↔ ds_D p N T w k x
  | 0, _ => Iff.rfl
  | m + 1, x => by
    constructor
    · intro hx
      exact (ds_D_stop w h m x).mp (ds_D_desc w (k + m) x hx)
    · intro hx K hK h2
      refine h x hx K hK (fun u v hu hv => h2 u v (hu.imp id (ds_D_stop w h m u).mpr) ((ds_D_stop w h m v).mpr hv))
end SPC2
end
section
/-! Spaces.descend. Written by wip/tools/desc.py. -/
section DESC
variable {X : pj_X} {Q : pj_Q} {p n : Int} {N : Nat} {T : Nat → Nat → Nat → Int} {br : Nat → Int}
theorem ds_step {R R' L : Nat → ln_V} {w : Bool} {k : Nat} (hR : ds_is p N R (ds_D p N T w k)) (hR' : ln_R p N R') (hL : ln_R p N L) (hLw : ∀ x, ln_in p N L x ↔ (w = true ∨ ds_D p N T w k x)) (h : ∀ W, ln_sub p N W → (ln_g N R' W ↔ ∀ r q, r < N → q < N → L r r ≠ 0 → R q q ≠ 0 → W (tt_bk p N T (L r) (R q)))) : ds_is p N R' (ds_D p N T w (k + 1)) := by
  refine ⟨hR', fun x => ?_⟩
  rw [ln_in_iff hR']
  constructor
  · intro hx K hK h2
    refine hx K hK ((h K hK).mpr (fun r q hr hq _ _ => ?_))
    exact h2 _ _ ((hLw _).mp (ln_in_row hL hr)) ((hR.2 _).mp (ln_in_row hR.1 hq))
  · intro hx W hW hg
    refine hx W hW (fun u v hu hv => ?_)
    exact tt_bil hW hL hR.1 ((h W hW).mp hg) ((hLw u).mpr hu) ((hR.2 v).mpr hv)
theorem ds_falls {R R' : Nat → ln_V} {w : Bool} {k : Nat} (hp : nn_p p) (hR : ds_is p N R (ds_D p N T w k)) (hR' : ds_is p N R' (ds_D p N T w (k + 1))) : ln_ct R' N ≤ ln_ct R N ∧ (¬ ln_ct R' N < ln_ct R N → ∀ m x, ds_D p N T w (k + 1 + m) x ↔ ds_D p N T w (k + 1) x) := by
  have hp2 := (nn_p_pos hp).2.1
  obtain ⟨h1, h2⟩ := ln_dim hR'.1 hR.1 (by omega) (fun x hx => (hR.2 x).mpr (ds_D_desc w k x ((hR'.2 x).mp hx)))
  refine ⟨h1, fun h3 => ?_⟩
  have h4 := h2 (by omega)
  have h5 : ∀ x, ds_D p N T w k x → ds_D p N T w (k + 1) x := fun x hx => (hR'.2 x).mp ((ln_in_congr h4).mpr ((hR.2 x).mpr hx))
  intro m x
  have e1 := ds_D_stop w h5 (1 + m) x
  have e2 := ds_D_stop w h5 1 x
  rw [show k + (1 + m) = k + 1 + m by omega] at e1
  exact e1.trans e2.symm
abbrev w_D (p n : Int) (br fW : Nat → Int) (a : pj_C) (f1 : Nat → Int) (b : pj_C) (f2 : Nat → Int) : List pj_C := [c_Sp (.inr 1) (.inr 3) (.inr 5) (.inr 7), c_T (.inl p) (.inl n) (.inr 2), c_A 25 br, c_S (.inl 5) (.inr 4) (.inl p) (.inl n) (.inl n), c_A 30 fW, a, c_A 30 f1, b, c_A 30 f2]
set_option maxHeartbeats 2000000 in
theorem c_desc_loop (ht : tt_ok p N T) (hb : tt_br p N T br) (hn : n = N) {w : Bool} {lv : Int} {Lv : Nat} (hlv : lv = Lv) (hLv : Lv ≤ 9) {fW : Nat → Int} (hW : sb_ok 5 N p fW n) (hall : ∀ x, ln_in p N (sb_R 5 fW) x)
    (hQ5 : ∀ (f1 f2 : Nat → Int) (z1 : Int) (s1 s2 s3 : Int), sb_ok 5 N p f1 z1 → ds_is p N (sb_R 5 f1) (ds_D p N T w Lv) → Q (some (.inr 5)) [c_Sp (.inr 1) (.inr 3) (.inr 5) (.inr 7), c_T (.inl p) (.inl n) (.inr 2), c_A 25 br, c_S (.inl 5) (.inr 4) (.inl p) (.inl n) (.inl n), c_A 30 fW, c_S (.inl 5) (.inr 6) (.inl p) (.inl n) (.inl z1), c_A 30 f1, c_S (.inl 5) (.inr 8) (.inl s1) (.inl s2) (.inl s3), c_A 30 f2])
    (hQ7 : ∀ (f1 f2 : Nat → Int) (z2 : Int) (s1 s2 s3 : Int), sb_ok 5 N p f2 z2 → ds_is p N (sb_R 5 f2) (ds_D p N T w Lv) → Q (some (.inr 7)) [c_Sp (.inr 1) (.inr 3) (.inr 5) (.inr 7), c_T (.inl p) (.inl n) (.inr 2), c_A 25 br, c_S (.inl 5) (.inr 4) (.inl p) (.inl n) (.inl n), c_A 30 fW, c_S (.inl 5) (.inr 6) (.inl s1) (.inl s2) (.inl s3), c_A 30 f1, c_S (.inl 5) (.inr 8) (.inl p) (.inl n) (.inl z2), c_A 30 f2]) :
    ∀ m : Nat, (∀ (f1 f2 : Nat → Int) (z1 fl z : Int) (s1 s2 s3 : Int) (sp : pj_V) (k : Nat), k + m = Lv → z = k → sb_ok 5 N p f1 z1 → ds_is p N (sb_R 5 f1) (ds_D p N T w k) → ((fl = 1) ∨ (fl = 0 ∧ ∀ j x, ds_D p N T w (k + j) x ↔ ds_D p N T w k x)) → pj_WP X m_Spaces_descend 33 [.inr 0, .inl lv, .inl (if w then 1 else 0), .inr 5, .inr 7, .inl fl, .inl z, sp] [] [c_Sp (.inr 1) (.inr 3) (.inr 5) (.inr 7), c_T (.inl p) (.inl n) (.inr 2), c_A 25 br, c_S (.inl 5) (.inr 4) (.inl p) (.inl n) (.inl n), c_A 30 fW, c_S (.inl 5) (.inr 6) (.inl p) (.inl n) (.inl z1), c_A 30 f1, c_S (.inl 5) (.inr 8) (.inl s1) (.inl s2) (.inl s3), c_A 30 f2] Q) ∧ (∀ (f1 f2 : Nat → Int) (z2 fl z : Int) (s1 s2 s3 : Int) (sp : pj_V) (k : Nat), k + m = Lv → z = k → sb_ok 5 N p f2 z2 → ds_is p N (sb_R 5 f2) (ds_D p N T w k) → ((fl = 1) ∨ (fl = 0 ∧ ∀ j x, ds_D p N T w (k + j) x ↔ ds_D p N T w k x)) → pj_WP X m_Spaces_descend 33 [.inr 0, .inl lv, .inl (if w then 1 else 0), .inr 7, .inr 5, .inl fl, .inl z, sp] [] [c_Sp (.inr 1) (.inr 3) (.inr 5) (.inr 7), c_T (.inl p) (.inl n) (.inr 2), c_A 25 br, c_S (.inl 5) (.inr 4) (.inl p) (.inl n) (.inl n), c_A 30 fW, c_S (.inl 5) (.inr 6) (.inl s1) (.inl s2) (.inl s3), c_A 30 f1, c_S (.inl 5) (.inr 8) (.inl p) (.inl n) (.inl z2), c_A 30 f2] Q) := by
  obtain ⟨hp, h1N, hN, hT, -⟩ := id ht
  obtain ⟨hp1, hp2, hp3⟩ := nn_p_pos hp
  intro m
  induction m with
  | zero =>
    refine ⟨?_, ?_⟩
    · intro f1 f2 z1 fl z s1 s2 s3 sp k hk hz hok his hfl
      refine wp_b rfl (by omega) (fun c => ?_) (fun c => absurd c (by omega))
      refine wp_r rfl (by omega) (hQ5 _ _ _ _ _ _ hok (by rw [show k = Lv by omega] at his; exact his))
    · intro f1 f2 z2 fl z s1 s2 s3 sp k hk hz hok his hfl
      refine wp_b rfl (by omega) (fun c => ?_) (fun c => absurd c (by omega))
      refine wp_r rfl (by omega) (hQ7 _ _ _ _ _ _ hok (by rw [show k = Lv by omega] at his; exact his))
  | succ m ih =>
    refine ⟨?_, ?_⟩
    · intro f1 f2 z1 fl z s1 s2 s3 sp k hk hz hok his hfl
      have hct := ln_ct_w (sb_R 5 f1) N
      have hsz := hok.2.2
      rcases hfl with hfl | ⟨hfl, hst⟩
      · subst hfl
        refine wp_b rfl (by omega) (fun c => absurd c (by omega)) (fun c => ?_)
        refine wp_b rfl (by omega) (fun c => absurd c (show ¬ (1 : Int) = 0 by omega)) (fun c => ?_)
        refine wp_c rfl (by omega) [7, 8] (c_Sbegin (C := 5) (W := N) (by omega) hn hN ?_) rfl rfl rfl rfl
        obtain ⟨hz1, hz2⟩ := sb_zero (C := 5) (W := N) (f := f2) hp1 hN
        refine wp_h [c_Sp (.inr 1) (.inr 3) (.inr 5) (.inr 7), c_T (.inl p) (.inl n) (.inr 2), c_A 25 br, c_S (.inl 5) (.inr 4) (.inl p) (.inl n) (.inl n), c_A 30 fW, c_S (.inl 5) (.inr 6) (.inl p) (.inl n) (.inl z1), c_A 30 f1, c_S (.inl 5) (.inr 8) (.inl p) (.inl n) (.inl 0), c_A 30 (fun k => if k < (5 + 1) * 5 then 0 else f2 k)] rfl ?_
        have hg0 : ∀ W, ln_sub p N W → ln_g N (sb_R 5 (fun k => if k < (5 + 1) * 5 then 0 else f2 k)) W := fun W hW r hr => hW.2.2.2 _ _ (fun c hc => by rw [hz2 r c hr hc]; exact nn_eq_rfl p 0) hW.1
        have fin : ∀ (f9 : Nat → Int) (z9 g9 : Int), sb_ok 5 N p f9 z9 → ds_is p N (sb_R 5 f9) (ds_D p N T w (k + 1)) → pj_WP X m_Spaces_descend 82 [.inr 0, .inl lv, .inl (if w then 1 else 0), .inr 5, .inr 7, .inl 1, .inl z, sp] [.inl g9] [c_Sp (.inr 1) (.inr 3) (.inr 5) (.inr 7), c_T (.inl p) (.inl n) (.inr 2), c_A 25 br, c_S (.inl 5) (.inr 4) (.inl p) (.inl n) (.inl n), c_A 30 fW, c_S (.inl 5) (.inr 6) (.inl p) (.inl n) (.inl z1), c_A 30 f1, c_S (.inl 5) (.inr 8) (.inl p) (.inl n) (.inl z9), c_A 30 f9] Q := by
          intro f9 z9 g9 hok9 his9
          have hct9 := ln_ct_w (sb_R 5 f9) N
          have hsz9 := hok9.2.2
          obtain ⟨q1, q2⟩ := ds_falls hp his his9
          refine wp_b rfl (by omega) (fun c => ?_) (fun c => ?_)
          · refine wp_g rfl (by omega) ?_
            refine wp_h [c_Sp (.inr 1) (.inr 3) (.inr 5) (.inr 7), c_T (.inl p) (.inl n) (.inr 2), c_A 25 br, c_S (.inl 5) (.inr 4) (.inl p) (.inl n) (.inl n), c_A 30 fW, c_S (.inl 5) (.inr 6) (.inl p) (.inl n) (.inl z1), c_A 30 f1, c_S (.inl 5) (.inr 8) (.inl p) (.inl n) (.inl z9), c_A 30 f9] rfl ?_
            exact (ih).2 _ _ _ _ _ _ _ _ _ (k + 1) (by omega) (by omega) hok9 his9 (Or.inr ⟨rfl, q2 (by omega)⟩)
          · refine wp_g rfl (by omega) ?_
            refine wp_h [c_Sp (.inr 1) (.inr 3) (.inr 5) (.inr 7), c_T (.inl p) (.inl n) (.inr 2), c_A 25 br, c_S (.inl 5) (.inr 4) (.inl p) (.inl n) (.inl n), c_A 30 fW, c_S (.inl 5) (.inr 6) (.inl p) (.inl n) (.inl z1), c_A 30 f1, c_S (.inl 5) (.inr 8) (.inl p) (.inl n) (.inl z9), c_A 30 f9] rfl ?_
            exact (ih).2 _ _ _ _ _ _ _ _ _ (k + 1) (by omega) (by omega) hok9 his9 (Or.inl rfl)
        cases w with
        | true =>
          refine wp_b rfl (by simp) (fun c => absurd c (show ¬ (1 : Int) = 0 by omega)) (fun c => ?_)
          refine wp_c rfl (by omega) [0, 1, 2, 3, 4, 5, 6, 7, 8] (c_addProducts_A1 ht hb hn hW hok hz1 (fun f9 z9 g9 hok9 hinv hg9 => ?_)) rfl rfl rfl rfl
          refine wp_h [c_Sp (.inr 1) (.inr 3) (.inr 5) (.inr 7), c_T (.inl p) (.inl n) (.inr 2), c_A 25 br, c_S (.inl 5) (.inr 4) (.inl p) (.inl n) (.inl n), c_A 30 fW, c_S (.inl 5) (.inr 6) (.inl p) (.inl n) (.inl z1), c_A 30 f1, c_S (.inl 5) (.inr 8) (.inl p) (.inl n) (.inl z9), c_A 30 f9] rfl ?_
          exact fin f9 z9 g9 hok9 (ds_step his hok9.1 hW.1 (fun x => ⟨fun _ => Or.inl rfl, fun _ => hall x⟩) (fun W hW9 => by rw [hinv W hW9]; exact ⟨fun h => h.2, fun h => ⟨hg0 W hW9, h⟩⟩))
        | false =>
          refine wp_b rfl (by simp) (fun c => ?_) (fun c => absurd rfl c)
          refine wp_c rfl (by omega) [0, 1, 2, 5, 6, 7, 8] (c_addProducts_A2 ht hb hn hok hz1 (fun f9 z9 g9 hok9 hinv hg9 => ?_)) rfl rfl rfl rfl
          refine wp_h [c_Sp (.inr 1) (.inr 3) (.inr 5) (.inr 7), c_T (.inl p) (.inl n) (.inr 2), c_A 25 br, c_S (.inl 5) (.inr 4) (.inl p) (.inl n) (.inl n), c_A 30 fW, c_S (.inl 5) (.inr 6) (.inl p) (.inl n) (.inl z1), c_A 30 f1, c_S (.inl 5) (.inr 8) (.inl p) (.inl n) (.inl z9), c_A 30 f9] rfl ?_
          exact fin f9 z9 g9 hok9 (ds_step his hok9.1 hok.1 (fun x => (his.2 x).trans ⟨fun h => Or.inr h, fun h => h.elim (fun z => by cases z) id⟩) (fun W hW9 => by rw [hinv W hW9]; exact ⟨fun h => h.2, fun h => ⟨hg0 W hW9, h⟩⟩))
      · subst hfl
        refine wp_b rfl (by omega) (fun c => absurd c (by omega)) (fun c => ?_)
        refine wp_b rfl (by omega) (fun c => ?_) (fun c => absurd rfl c)
        refine wp_r rfl (by omega) (hQ5 _ _ _ _ _ _ hok ⟨his.1, fun x => ?_⟩)
        rw [his.2 x, ← hst (m + 1) x, show k + (m + 1) = Lv by omega]
    · intro f1 f2 z2 fl z s1 s2 s3 sp k hk hz hok his hfl
      have hct := ln_ct_w (sb_R 5 f2) N
      have hsz := hok.2.2
      rcases hfl with hfl | ⟨hfl, hst⟩
      · subst hfl
        refine wp_b rfl (by omega) (fun c => absurd c (by omega)) (fun c => ?_)
        refine wp_b rfl (by omega) (fun c => absurd c (show ¬ (1 : Int) = 0 by omega)) (fun c => ?_)
        refine wp_c rfl (by omega) [5, 6] (c_Sbegin (C := 5) (W := N) (by omega) hn hN ?_) rfl rfl rfl rfl
        obtain ⟨hz1, hz2⟩ := sb_zero (C := 5) (W := N) (f := f1) hp1 hN
        refine wp_h [c_Sp (.inr 1) (.inr 3) (.inr 5) (.inr 7), c_T (.inl p) (.inl n) (.inr 2), c_A 25 br, c_S (.inl 5) (.inr 4) (.inl p) (.inl n) (.inl n), c_A 30 fW, c_S (.inl 5) (.inr 6) (.inl p) (.inl n) (.inl 0), c_A 30 (fun k => if k < (5 + 1) * 5 then 0 else f1 k), c_S (.inl 5) (.inr 8) (.inl p) (.inl n) (.inl z2), c_A 30 f2] rfl ?_
        have hg0 : ∀ W, ln_sub p N W → ln_g N (sb_R 5 (fun k => if k < (5 + 1) * 5 then 0 else f1 k)) W := fun W hW r hr => hW.2.2.2 _ _ (fun c hc => by rw [hz2 r c hr hc]; exact nn_eq_rfl p 0) hW.1
        have fin : ∀ (f9 : Nat → Int) (z9 g9 : Int), sb_ok 5 N p f9 z9 → ds_is p N (sb_R 5 f9) (ds_D p N T w (k + 1)) → pj_WP X m_Spaces_descend 82 [.inr 0, .inl lv, .inl (if w then 1 else 0), .inr 7, .inr 5, .inl 1, .inl z, sp] [.inl g9] [c_Sp (.inr 1) (.inr 3) (.inr 5) (.inr 7), c_T (.inl p) (.inl n) (.inr 2), c_A 25 br, c_S (.inl 5) (.inr 4) (.inl p) (.inl n) (.inl n), c_A 30 fW, c_S (.inl 5) (.inr 6) (.inl p) (.inl n) (.inl z9), c_A 30 f9, c_S (.inl 5) (.inr 8) (.inl p) (.inl n) (.inl z2), c_A 30 f2] Q := by
          intro f9 z9 g9 hok9 his9
          have hct9 := ln_ct_w (sb_R 5 f9) N
          have hsz9 := hok9.2.2
          obtain ⟨q1, q2⟩ := ds_falls hp his his9
          refine wp_b rfl (by omega) (fun c => ?_) (fun c => ?_)
          · refine wp_g rfl (by omega) ?_
            refine wp_h [c_Sp (.inr 1) (.inr 3) (.inr 5) (.inr 7), c_T (.inl p) (.inl n) (.inr 2), c_A 25 br, c_S (.inl 5) (.inr 4) (.inl p) (.inl n) (.inl n), c_A 30 fW, c_S (.inl 5) (.inr 6) (.inl p) (.inl n) (.inl z9), c_A 30 f9, c_S (.inl 5) (.inr 8) (.inl p) (.inl n) (.inl z2), c_A 30 f2] rfl ?_
            exact (ih).1 _ _ _ _ _ _ _ _ _ (k + 1) (by omega) (by omega) hok9 his9 (Or.inr ⟨rfl, q2 (by omega)⟩)
          · refine wp_g rfl (by omega) ?_
            refine wp_h [c_Sp (.inr 1) (.inr 3) (.inr 5) (.inr 7), c_T (.inl p) (.inl n) (.inr 2), c_A 25 br, c_S (.inl 5) (.inr 4) (.inl p) (.inl n) (.inl n), c_A 30 fW, c_S (.inl 5) (.inr 6) (.inl p) (.inl n) (.inl z9), c_A 30 f9, c_S (.inl 5) (.inr 8) (.inl p) (.inl n) (.inl z2), c_A 30 f2] rfl ?_
            exact (ih).1 _ _ _ _ _ _ _ _ _ (k + 1) (by omega) (by omega) hok9 his9 (Or.inl rfl)
        cases w with
        | true =>
          refine wp_b rfl (by simp) (fun c => absurd c (show ¬ (1 : Int) = 0 by omega)) (fun c => ?_)
          refine wp_c rfl (by omega) [0, 1, 2, 3, 4, 7, 8, 5, 6] (c_addProducts_A1 ht hb hn hW hok hz1 (fun f9 z9 g9 hok9 hinv hg9 => ?_)) rfl rfl rfl rfl
          refine wp_h [c_Sp (.inr 1) (.inr 3) (.inr 5) (.inr 7), c_T (.inl p) (.inl n) (.inr 2), c_A 25 br, c_S (.inl 5) (.inr 4) (.inl p) (.inl n) (.inl n), c_A 30 fW, c_S (.inl 5) (.inr 6) (.inl p) (.inl n) (.inl z9), c_A 30 f9, c_S (.inl 5) (.inr 8) (.inl p) (.inl n) (.inl z2), c_A 30 f2] rfl ?_
          exact fin f9 z9 g9 hok9 (ds_step his hok9.1 hW.1 (fun x => ⟨fun _ => Or.inl rfl, fun _ => hall x⟩) (fun W hW9 => by rw [hinv W hW9]; exact ⟨fun h => h.2, fun h => ⟨hg0 W hW9, h⟩⟩))
        | false =>
          refine wp_b rfl (by simp) (fun c => ?_) (fun c => absurd rfl c)
          refine wp_c rfl (by omega) [0, 1, 2, 7, 8, 5, 6] (c_addProducts_A2 ht hb hn hok hz1 (fun f9 z9 g9 hok9 hinv hg9 => ?_)) rfl rfl rfl rfl
          refine wp_h [c_Sp (.inr 1) (.inr 3) (.inr 5) (.inr 7), c_T (.inl p) (.inl n) (.inr 2), c_A 25 br, c_S (.inl 5) (.inr 4) (.inl p) (.inl n) (.inl n), c_A 30 fW, c_S (.inl 5) (.inr 6) (.inl p) (.inl n) (.inl z9), c_A 30 f9, c_S (.inl 5) (.inr 8) (.inl p) (.inl n) (.inl z2), c_A 30 f2] rfl ?_
          exact fin f9 z9 g9 hok9 (ds_step his hok9.1 hok.1 (fun x => (his.2 x).trans ⟨fun h => Or.inr h, fun h => h.elim (fun z => by cases z) id⟩) (fun W hW9 => by rw [hinv W hW9]; exact ⟨fun h => h.2, fun h => ⟨hg0 W hW9, h⟩⟩))
      · subst hfl
        refine wp_b rfl (by omega) (fun c => absurd c (by omega)) (fun c => ?_)
        refine wp_b rfl (by omega) (fun c => ?_) (fun c => absurd rfl c)
        refine wp_r rfl (by omega) (hQ7 _ _ _ _ _ _ hok ⟨his.1, fun x => ?_⟩)
        rw [his.2 x, ← hst (m + 1) x, show k + (m + 1) = Lv by omega]

set_option maxHeartbeats 1000000 in
/-- descend(level, byWhole) -/
theorem c_descend (ht : tt_ok p N T) (hb : tt_br p N T br) (hn : n = N) {w : Bool} {lv : Int} {Lv : Nat} (hlv : lv = Lv) (hLv : Lv ≤ 9) {fW f1 f2 : Nat → Int} {a1 a2 a3 : Int}
    (hQ5 : ∀ (fW f1 f2 : Nat → Int) (z1 : Int) (s1 s2 s3 : Int), sb_ok 5 N p f1 z1 → ds_is p N (sb_R 5 f1) (ds_D p N T w Lv) → Q (some (.inr 5)) [c_Sp (.inr 1) (.inr 3) (.inr 5) (.inr 7), c_T (.inl p) (.inl n) (.inr 2), c_A 25 br, c_S (.inl 5) (.inr 4) (.inl p) (.inl n) (.inl n), c_A 30 fW, c_S (.inl 5) (.inr 6) (.inl p) (.inl n) (.inl z1), c_A 30 f1, c_S (.inl 5) (.inr 8) (.inl s1) (.inl s2) (.inl s3), c_A 30 f2])
    (hQ7 : ∀ (fW f1 f2 : Nat → Int) (z2 : Int) (s1 s2 s3 : Int), sb_ok 5 N p f2 z2 → ds_is p N (sb_R 5 f2) (ds_D p N T w Lv) → Q (some (.inr 7)) [c_Sp (.inr 1) (.inr 3) (.inr 5) (.inr 7), c_T (.inl p) (.inl n) (.inr 2), c_A 25 br, c_S (.inl 5) (.inr 4) (.inl p) (.inl n) (.inl n), c_A 30 fW, c_S (.inl 5) (.inr 6) (.inl s1) (.inl s2) (.inl s3), c_A 30 f1, c_S (.inl 5) (.inr 8) (.inl p) (.inl n) (.inl z2), c_A 30 f2]) :
    pj_ci X m_Spaces_descend [.inr 0, .inl lv, .inl (if w then 1 else 0)] [c_Sp (.inr 1) (.inr 3) (.inr 5) (.inr 7), c_T (.inl p) (.inl n) (.inr 2), c_A 25 br, c_S (.inl 5) (.inr 4) v_u v_u v_u, c_A 30 fW, c_S (.inl 5) (.inr 6) v_u v_u v_u, c_A 30 f1, c_S (.inl 5) (.inr 8) (.inl a1) (.inl a2) (.inl a3), c_A 30 f2] Q := by
  obtain ⟨hp, h1N, hN, hT, -⟩ := id ht
  refine wp_c rfl (by omega) [0, 1, 3, 4] (c_Sfill hp hN hn (fun fW1 hokW hall => ?_)) rfl rfl rfl rfl
  refine wp_h (w_D p n br fW1 (c_S (.inl 5) (.inr 6) v_u v_u v_u) f1 (c_S (.inl 5) (.inr 8) (.inl a1) (.inl a2) (.inl a3)) f2) rfl ?_
  refine wp_c rfl (by omega) [0, 1, 5, 6] (c_Sfill hp hN hn (fun f11 hok1 hall1 => ?_)) rfl rfl rfl rfl
  refine wp_h (w_D p n br fW1 (c_S (.inl 5) (.inr 6) (.inl p) (.inl n) (.inl n)) f11 (c_S (.inl 5) (.inr 8) (.inl a1) (.inl a2) (.inl a3)) f2) rfl ?_
  refine wp_g rfl (by omega) ?_
  exact (c_desc_loop ht hb hn hlv hLv hokW hall (hQ5 fW1) (hQ7 fW1) Lv).1 f11 f2 n _ _ _ _ _ _ 0 (by omega) (by omega) hok1 ⟨hok1.1, fun x => ⟨fun _ => trivial, fun _ => hall1 x⟩⟩ (Or.inl rfl)
/-- derived(level) -/
theorem c_derived (ht : tt_ok p N T) (hb : tt_br p N T br) (hn : n = N) {lv : Int} {Lv : Nat} (hlv : lv = Lv) (hLv : Lv ≤ 9) {fW f1 f2 : Nat → Int} {a1 a2 a3 : Int}
    (hQ5 : ∀ (fW f1 f2 : Nat → Int) (z1 : Int) (s1 s2 s3 : Int), sb_ok 5 N p f1 z1 → ds_is p N (sb_R 5 f1) (ds_D p N T false Lv) → Q (some (.inr 5)) [c_Sp (.inr 1) (.inr 3) (.inr 5) (.inr 7), c_T (.inl p) (.inl n) (.inr 2), c_A 25 br, c_S (.inl 5) (.inr 4) (.inl p) (.inl n) (.inl n), c_A 30 fW, c_S (.inl 5) (.inr 6) (.inl p) (.inl n) (.inl z1), c_A 30 f1, c_S (.inl 5) (.inr 8) (.inl s1) (.inl s2) (.inl s3), c_A 30 f2])
    (hQ7 : ∀ (fW f1 f2 : Nat → Int) (z2 : Int) (s1 s2 s3 : Int), sb_ok 5 N p f2 z2 → ds_is p N (sb_R 5 f2) (ds_D p N T false Lv) → Q (some (.inr 7)) [c_Sp (.inr 1) (.inr 3) (.inr 5) (.inr 7), c_T (.inl p) (.inl n) (.inr 2), c_A 25 br, c_S (.inl 5) (.inr 4) (.inl p) (.inl n) (.inl n), c_A 30 fW, c_S (.inl 5) (.inr 6) (.inl s1) (.inl s2) (.inl s3), c_A 30 f1, c_S (.inl 5) (.inr 8) (.inl p) (.inl n) (.inl z2), c_A 30 f2]) :
    pj_ci X m_Spaces_derived [.inr 0, .inl lv] [c_Sp (.inr 1) (.inr 3) (.inr 5) (.inr 7), c_T (.inl p) (.inl n) (.inr 2), c_A 25 br, c_S (.inl 5) (.inr 4) v_u v_u v_u, c_A 30 fW, c_S (.inl 5) (.inr 6) v_u v_u v_u, c_A 30 f1, c_S (.inl 5) (.inr 8) (.inl a1) (.inl a2) (.inl a3), c_A 30 f2] Q := by
  refine wp_c rfl (by omega) [0, 1, 2, 3, 4, 5, 6, 7, 8] (c_descend (w := false) ht hb hn hlv hLv (fun fW' f1' f2' z1 s1 s2 s3 h1 h2 => ?_) (fun fW' f1' f2' z2 s1 s2 s3 h1 h2 => ?_)) rfl rfl rfl rfl
  · exact wp_r rfl (by omega) (hQ5 fW' f1' f2' z1 s1 s2 s3 h1 h2)
  · exact wp_r rfl (by omega) (hQ7 fW' f1' f2' z2 s1 s2 s3 h1 h2)
/-- lowerCentral(level) -/
theorem c_lower (ht : tt_ok p N T) (hb : tt_br p N T br) (hn : n = N) {lv : Int} {Lv : Nat} (hlv : lv = Lv) (hLv : Lv ≤ 9) {fW f1 f2 : Nat → Int} {a1 a2 a3 : Int}
    (hQ5 : ∀ (fW f1 f2 : Nat → Int) (z1 : Int) (s1 s2 s3 : Int), sb_ok 5 N p f1 z1 → ds_is p N (sb_R 5 f1) (ds_D p N T true Lv) → Q (some (.inr 5)) [c_Sp (.inr 1) (.inr 3) (.inr 5) (.inr 7), c_T (.inl p) (.inl n) (.inr 2), c_A 25 br, c_S (.inl 5) (.inr 4) (.inl p) (.inl n) (.inl n), c_A 30 fW, c_S (.inl 5) (.inr 6) (.inl p) (.inl n) (.inl z1), c_A 30 f1, c_S (.inl 5) (.inr 8) (.inl s1) (.inl s2) (.inl s3), c_A 30 f2])
    (hQ7 : ∀ (fW f1 f2 : Nat → Int) (z2 : Int) (s1 s2 s3 : Int), sb_ok 5 N p f2 z2 → ds_is p N (sb_R 5 f2) (ds_D p N T true Lv) → Q (some (.inr 7)) [c_Sp (.inr 1) (.inr 3) (.inr 5) (.inr 7), c_T (.inl p) (.inl n) (.inr 2), c_A 25 br, c_S (.inl 5) (.inr 4) (.inl p) (.inl n) (.inl n), c_A 30 fW, c_S (.inl 5) (.inr 6) (.inl s1) (.inl s2) (.inl s3), c_A 30 f1, c_S (.inl 5) (.inr 8) (.inl p) (.inl n) (.inl z2), c_A 30 f2]) :
    pj_ci X m_Spaces_lowerCentral [.inr 0, .inl lv] [c_Sp (.inr 1) (.inr 3) (.inr 5) (.inr 7), c_T (.inl p) (.inl n) (.inr 2), c_A 25 br, c_S (.inl 5) (.inr 4) v_u v_u v_u, c_A 30 fW, c_S (.inl 5) (.inr 6) v_u v_u v_u, c_A 30 f1, c_S (.inl 5) (.inr 8) (.inl a1) (.inl a2) (.inl a3), c_A 30 f2] Q := by
  refine wp_c rfl (by omega) [0, 1, 2, 3, 4, 5, 6, 7, 8] (c_descend (w := true) ht hb hn hlv hLv (fun fW' f1' f2' z1 s1 s2 s3 h1 h2 => ?_) (fun fW' f1' f2' z2 s1 s2 s3 h1 h2 => ?_)) rfl rfl rfl rfl
  · exact wp_r rfl (by omega) (hQ5 fW' f1' f2' z1 s1 s2 s3 h1 h2)
  · exact wp_r rfl (by omega) (hQ7 fW' f1' f2' z2 s1 s2 s3 h1 h2)
end DESC
end
section
/-! Subspace.solveInto, Spaces.center -/
def ln_vf (R : Nat → ln_V) (f : Nat) : ln_V := fun c => if c = f then 1 else -(R c f)
def ln_ker (p : Int) (N : Nat) (R : Nat → ln_V) : ln_P := fun x => ∀ r, r < N → nn_eq p (nn_sm N (fun c => R r c * x c)) 0
section CEN
variable {X : pj_X} {Q : pj_Q} {p n : Int} {N : Nat} {T : Nat → Nat → Nat → Int} {br : Nat → Int}
/-- the x whose product with y is 0 -/
theorem ln_dot_sub (y : ln_V) : ln_sub p N (fun x => nn_eq p (nn_sm N (fun c => y c * x c)) 0) := by
  refine ⟨?_, fun x z hx hz => ?_, fun a x hx => ?_, fun x z e hx => ?_⟩
  · show nn_eq p (nn_sm N (fun c => y c * 0)) 0
    rw [nn_sm_0 N (fun c _ => Int.mul_zero _)]
    exact nn_eq_rfl p 0
  · have e : nn_sm N (fun c => y c * (x c + z c)) = nn_sm N (fun c => y c * x c) + nn_sm N (fun c => y c * z c) := by
      rw [← nn_sm_add]
      exact nn_sm_congr N (fun c _ => Int.mul_add _ _ _)
    show nn_eq p (nn_sm N (fun c => y c * (x c + z c))) 0
    rw [e]
    exact nn_eq_add hx hz
  · have e : nn_sm N (fun c => y c * (a * x c)) = a * nn_sm N (fun c => y c * x c) := by
      rw [← nn_sm_mul]
      exact nn_sm_congr N (fun c _ => Int.mul_left_comm _ _ _)
    show nn_eq p (nn_sm N (fun c => y c * (a * x c))) 0
    rw [e]
    have := nn_eq_mul (nn_eq_rfl p a) hx
    rw [Int.mul_zero] at this
    exact this
  · exact nn_eq_trans (nn_eq_sm N (fun c hc => nn_eq_mul (nn_eq_rfl p _) (nn_eq_symm (e c hc)))) hx
theorem ln_ker_sub (R : Nat → ln_V) : ln_sub p N (ln_ker p N R) :=
  ⟨fun r _ => (ln_dot_sub (R r)).1, fun x y hx hy r hr => (ln_dot_sub (R r)).2.1 _ _ (hx r hr) (hy r hr), fun a x hx r hr => (ln_dot_sub (R r)).2.2.1 a _ (hx r hr), fun x y e hx r hr => (ln_dot_sub (R r)).2.2.2 _ _ e (hx r hr)⟩
theorem ln_vf_ker {R : Nat → ln_V} (hR : ln_R p N R) {f : Nat} (hf : f < N) (h0 : R f f = 0) : ln_ker p N R (ln_vf R f) := by
  intro r hr
  by_cases hl : R r r = 0
  · rw [nn_sm_0 N (fun c hc => by rw [ln_R_zero hR hr hc hl, Int.zero_mul])]
    exact nn_eq_rfl p 0
  · have hrf : r ≠ f := fun e => hl (e ▸ h0)
    have e : nn_sm N (fun c => R r c * ln_vf R f c) = nn_sm N (fun c => if c = f then R r f else 0) + nn_sm N (fun c => if c = r then -(R r f) else 0) := by
      rw [← nn_sm_add]
      refine nn_sm_congr N (fun c hc => ?_)
      unfold ln_vf
      by_cases h1 : c = f
      · subst h1
        rw [if_pos rfl, if_pos rfl, if_neg (fun z => hrf z.symm), Int.mul_one]
        omega
      · rw [if_neg h1, if_neg h1]
        by_cases h2 : c = r
        · subst h2
          rw [if_pos rfl, ln_R_one hR hr hl]
          omega
        · rw [if_neg h2]
          by_cases h3 : R c c = 0
          · rw [ln_R_zero hR hc hf h3, Int.neg_zero, Int.mul_zero]
            rfl
          · rw [ln_R_col hR hc hr h3 (fun z => h2 z.symm), Int.zero_mul]
            rfl
    rw [e, nn_sm_one N f hf (fun c _ hne => if_neg hne), nn_sm_one N r hr (fun c _ hne => if_neg hne), if_pos rfl, if_pos rfl]
    have : R r f + -(R r f) = 0 := by omega
    rw [this]
    exact nn_eq_rfl p 0
theorem ln_ker_is {R R' : Nat → ln_V} (hR : ln_R p N R) (hR' : ln_R p N R') (h : ∀ K, ln_sub p N K → (ln_g N R' K ↔ ∀ f, f < N → R f f = 0 → K (ln_vf R f))) : ds_is p N R' (ln_ker p N R) := by
  refine ⟨hR', fun x => ⟨fun hx => ?_, fun hx => ?_⟩⟩
  · exact ln_in_W (ln_ker_sub R) ((h _ (ln_ker_sub R)).mpr (fun f hf h0 => ln_vf_ker hR hf h0)) hx
  · rw [ln_in_iff hR']
    intro K hK hg
    have hv := (h K hK).mp hg
    have h1 := ln_sub_sm hK (R := fun f => if R f f = 0 then ln_vf R f else fun _ => 0) x N (fun f hf => by
      by_cases h0 : R f f = 0
      · show K (if R f f = 0 then ln_vf R f else fun _ => 0)
        rw [if_pos h0]
        exact hv f hf h0
      · show K (if R f f = 0 then ln_vf R f else fun _ => 0)
        rw [if_neg h0]
        exact hK.1)
    refine hK.2.2.2 _ _ (fun c hc => ?_) h1
    show nn_eq p (nn_sm N (fun r => x r * (if R r r = 0 then ln_vf R r else fun _ => 0) c)) (x c)
    by_cases hl : R c c = 0
    · rw [nn_sm_one N c hc (fun r hr hne => ?_), if_pos hl]
      · unfold ln_vf
        rw [if_pos rfl, Int.mul_one]
        exact nn_eq_rfl p _
      · by_cases h2 : R r r = 0
        · rw [if_pos h2]
          unfold ln_vf
          rw [if_neg (fun z => hne z.symm), ln_R_zero hR hc hr hl, Int.neg_zero, Int.mul_zero]
        · rw [if_neg h2, Int.mul_zero]
    · have e1 : nn_sm N (fun r => x r * (if R r r = 0 then ln_vf R r else fun _ => 0) c) + nn_sm N (fun r => R c r * x r) = nn_sm N (fun r => if r = c then x c else 0) := by
        rw [← nn_sm_add]
        refine nn_sm_congr N (fun r hr => ?_)
        by_cases h1 : r = c
        · subst h1
          rw [if_neg hl, if_pos rfl, ln_R_one hR hc hl, Int.mul_zero, Int.one_mul, Int.zero_add]
        · rw [if_neg h1]
          by_cases h2 : R r r = 0
          · rw [if_pos h2]
            unfold ln_vf
            rw [if_neg (fun z => h1 z.symm), Int.mul_neg, Int.mul_comm]
            omega
          · rw [if_neg h2, Int.mul_zero, ln_R_col hR hr hc h2 (fun z => h1 z.symm), Int.zero_mul]
            rfl
      have e2 := hx c hc
      have e3 := nn_eq_sub (nn_eq_rfl p (nn_sm N (fun r => x r * (if R r r = 0 then ln_vf R r else fun _ => 0) c) + nn_sm N (fun r => R c r * x r))) e2
      rw [Int.add_sub_cancel, Int.sub_zero, e1, nn_sm_one N c hc (fun r _ hne => if_neg hne), if_pos rfl] at e3
      exact e3
abbrev w_V (p n z1 z2 : Int) (f1 f2 : Nat → Int) : List pj_C := [c_S (.inl 5) (.inr 1) (.inl p) (.inl n) (.inl z1), c_A 30 f1, c_S (.inl 5) (.inr 3) (.inl p) (.inl n) (.inl z2), c_A 30 f2]
theorem c_solve_in (hp : nn_p p) (hN : N ≤ 5) (hn : n = N) {f1 g0 : Nat → Int} {z1 z2 : Int} (hR : ln_R p N (sb_R 5 f1)) (h0 : ∀ c, c < N → g0 (5 * 5 + c) = 0) {fr : Int} {F : Nat} (hF : fr = F) (hFN : F < N)
    (hQ : ∀ (g : Nat → Int) (d : pj_V), (∀ r c, r < N → c < N → g (r * 5 + c) = g0 (r * 5 + c)) → (∀ c, c < N → g (5 * 5 + c) = ln_vf (sb_R 5 f1) F c % p) → pj_WP X m_Subspace_solveInto 67 [.inr 0, .inr 2, .inl fr, d] [] (w_V p n z1 z2 f1 g) Q) :
    ∀ (m k : Nat) (g : Nat → Int) (z : Int), k + m = N → z = k → (∀ r c, r < N → c < N → g (r * 5 + c) = g0 (r * 5 + c)) → (∀ c, c < N → g (5 * 5 + c) = if c < k then ln_vf (sb_R 5 f1) F c % p else 0) → pj_WP X m_Subspace_solveInto 32 [.inr 0, .inr 2, .inl fr, .inl z] [] (w_V p n z1 z2 f1 g) Q := by
  obtain ⟨hp1, hp2, hp3⟩ := nn_p_pos hp
  intro m
  induction m with
  | zero =>
    intro k g z hk hz hg hgv
    refine wp_b rfl (by omega) (fun c => ?_) (fun c => absurd c (by omega))
    exact hQ g _ hg (fun c hc => by rw [hgv c hc, if_pos (by omega)])
  | succ m ih =>
    intro k g z hk hz hg hgv
    have e0 : g (5 * 5 + k) = 0 := by rw [hgv k (by omega), if_neg (by omega)]
    have next : ∀ x : Int, x % p = ln_vf (sb_R 5 f1) F k % p → pj_WP X m_Subspace_solveInto 61 [.inr 0, .inr 2, .inl fr, .inl z] [] (w_V p n z1 z2 f1 (pj_up g (5 * 5 + k) ((g (5 * 5 + k) + x) % p))) Q := by
      intro x hx
      refine wp_g rfl (by omega) ?_
      refine ih (k + 1) _ _ (by omega) (by omega) (fun r c hr hc => ?_) (fun c hc => ?_)
      · unfold pj_up
        rw [if_neg (by omega)]
        exact hg r c hr hc
      · unfold pj_up
        by_cases h : c = k
        · subst h
          rw [if_pos rfl, if_pos (by omega), e0, Int.zero_add, hx]
        · rw [if_neg (by omega), hgv c hc]
          by_cases h2 : c < k
          · rw [if_pos h2, if_pos (by omega)]
          · rw [if_neg h2, if_neg (by omega)]
    refine wp_b rfl (by omega) (fun c => absurd c (by omega)) (fun c => ?_)
    refine wp_b rfl (by omega) (fun c => ?_) (fun c => ?_)
    · have hrg := (hR k (by omega)).1 F hFN
      have hrg : 0 ≤ f1 (k * 5 + F) ∧ f1 (k * 5 + F) < p := hrg
      refine wp_c rfl (by omega) [0, 1] (c_cell (C := 5) (r0 := k) (c0 := F) (by omega) hz hF (by omega) (by omega) ?_) rfl rfl rfl rfl
      refine wp_c rfl (by omega) [2, 3] (c_addIncoming (C := 5) (W := N) (c0 := k) (by omega) hp hn hN hz (by omega) (by rw [e0]; omega) (by omega) ?_) rfl rfl rfl rfl
      refine wp_h (w_V p n z1 z2 f1 (pj_up g (5 * 5 + k) ((g (5 * 5 + k) + -(f1 (k * 5 + F))) % p))) rfl ?_
      refine next _ ?_
      unfold ln_vf
      rw [if_neg (by omega)]
    · refine wp_c rfl (by omega) [2, 3] (c_addIncoming (C := 5) (W := N) (c0 := k) (by omega) hp hn hN hz (by omega) (by rw [e0]; omega) (by omega) ?_) rfl rfl rfl rfl
      refine wp_h (w_V p n z1 z2 f1 (pj_up g (5 * 5 + k) ((g (5 * 5 + k) + 1) % p))) rfl ?_
      refine next _ ?_
      unfold ln_vf
      rw [if_pos (by omega)]
theorem ln_R_same {R R' : Nat → ln_V} (hR : ln_R p N R) (hs : ∀ r c, r < N → c < N → R' r c = R r c) : ln_R p N R' := by
  intro r hr
  refine ⟨fun c hc => by rw [hs r c hr hc]; exact (hR r hr).1 c hc, ?_⟩
  rcases (hR r hr).2 with h | h
  · exact Or.inl fun c hc => by rw [hs r c hr hc]; exact h c hc
  · exact Or.inr ⟨by rw [hs r r hr hr]; exact h.1, fun c hc => by rw [hs r c hr (by omega)]; exact h.2.1 c hc, fun q hq hne => by rw [hs q r hq hr]; exact h.2.2 q hq hne⟩
theorem ln_g_same {R R' : Nat → ln_V} {K : ln_P} (hK : ln_sub p N K) (hs : ∀ r c, r < N → c < N → R' r c = R r c) : ln_g N R' K ↔ ln_g N R K :=
  ⟨fun h r hr => hK.2.2.2 _ _ (fun c hc => by rw [hs r c hr hc]; exact nn_eq_rfl p _) (h r hr), fun h r hr => hK.2.2.2 _ _ (fun c hc => by rw [hs r c hr hc]; exact nn_eq_rfl p _) (h r hr)⟩
theorem c_solve_out (hp : nn_p p) (hN : N ≤ 5) (hn : n = N) {f1 : Nat → Int} {z1 : Int} (hR : ln_R p N (sb_R 5 f1))
    (hQ : ∀ (g : Nat → Int) (z2 : Int), sb_ok 5 N p g z2 → ds_is p N (sb_R 5 g) (ln_ker p N (sb_R 5 f1)) → Q none (w_V p n z1 z2 f1 g)) :
    ∀ (m k : Nat) (g : Nat → Int) (z2 z : Int) (d : pj_V), k + m = N → z = k → sb_ok 5 N p g z2 → (∀ K, ln_sub p N K → (ln_g N (sb_R 5 g) K ↔ ∀ f, f < k → sb_R 5 f1 f f = 0 → K (ln_vf (sb_R 5 f1) f))) → pj_WP X m_Subspace_solveInto 14 [.inr 0, .inr 2, .inl z, d] [] (w_V p n z1 z2 f1 g) Q := by
  obtain ⟨hp1, hp2, hp3⟩ := nn_p_pos hp
  intro m
  induction m with
  | zero =>
    intro k g z2 z d hk hz hok hinv
    refine wp_b rfl (by omega) (fun c => ?_) (fun c => absurd c (by omega))
    refine wp_r rfl (by omega) (hQ g z2 hok (ln_ker_is hR hok.1 (fun K hK => ?_)))
    rw [hinv K hK, show k = N by omega]
  | succ m ih =>
    intro k g z2 z d hk hz hok hinv
    have hrg := (hR k (by omega)).1 k (by omega)
    have hrg : 0 ≤ f1 (k * 5 + k) ∧ f1 (k * 5 + k) < p := hrg
    refine wp_b rfl (by omega) (fun c => absurd c (by omega)) (fun c => ?_)
    refine wp_c rfl (by omega) [0, 1] (c_hasLead (C := 5) (c0 := k) (by omega) hz (by omega) (by unfold pj_rg; omega) (fun hl => ?_) (fun hl => ?_)) rfl rfl rfl rfl
    · refine wp_b rfl (by omega) (fun c => ?_) (fun c => absurd (show ¬ (1 : Int) = 0 by omega) c)
      refine wp_g rfl (by omega) ?_
      refine ih (k + 1) g z2 _ _ (by omega) (by omega) hok (fun K hK => ?_)
      rw [hinv K hK]
      exact ⟨fun h f hf h0 => h f (by
        have : f ≠ k := fun e => hl (e ▸ h0)
        omega) h0, fun h f hf h0 => h f (by omega) h0⟩
    · refine wp_b rfl (by omega) (fun c => absurd rfl c) (fun c => ?_)
      refine wp_g rfl (by omega) ?_
      refine wp_h (w_V p n z1 z2 f1 g) rfl ?_
      refine c_solve_in hp hN hn hR hok.2.1 hz (by omega) (fun g1 d1 hg1 hv1 => ?_) N 0 g _ (by omega) (by omega) (fun _ _ _ _ => rfl) (fun c hc => by rw [hok.2.1 c hc, if_neg (by omega)])
      refine wp_c rfl (by omega) [2, 3] (c_take (C := 5) (W := N) (by omega) hp hn hN (ln_R_same hok.1 hg1) (fun c hc => by
        show 0 ≤ g1 (5 * 5 + c) ∧ g1 (5 * 5 + c) < p
        rw [hv1 c hc]
        exact ⟨Int.emod_nonneg _ (by omega), Int.emod_lt_of_pos _ hp1⟩) (fun g2 b hj hz0 => ?_)) rfl rfl rfl rfl
      refine wp_g rfl (by omega) ?_
      refine wp_h (w_V p n z1 (z2 + if b then 1 else 0) f1 g2) rfl ?_
      refine ih (k + 1) g2 _ _ _ (by omega) (by omega) ⟨hj.1, hz0, ?_⟩ (fun K hK => ?_)
      · have e9 : ln_ct (sb_R 5 g1) N = ln_ct (sb_R 5 g) N := ln_ct_congr N (fun r hr => by
          show g1 (r * 5 + r) = 0 ↔ g (r * 5 + r) = 0
          rw [hg1 r r hr hr])
        rw [hj.2.2.1, e9, hok.2.2]
        cases b <;> simp
      · rw [hj.2.1 K hK, ln_g_same hK hg1, hinv K hK]
        have e1 : ln_eq p N (sb_v 5 g1) (ln_vf (sb_R 5 f1) k) := fun c hc => by
          show nn_eq p (g1 (5 * 5 + c)) _
          rw [hv1 c hc]
          exact nn_eq_mod p _
        constructor
        · rintro ⟨a1, a2⟩ f hf h0
          by_cases h : f = k
          · subst h; exact hK.2.2.2 _ _ e1 a2
          · exact a1 f (by omega) h0
        · intro h
          exact ⟨fun f hf h0 => h f (by omega) h0, hK.2.2.2 _ _ (ln_eq_symm e1) (h k (by omega) hl)⟩
/-- solveInto(solutions) -/
theorem c_solve (hp : nn_p p) (hN : N ≤ 5) (hn : n = N) {f1 f2 : Nat → Int} {z1 : Int} (hR : ln_R p N (sb_R 5 f1))
    (hQ : ∀ (g : Nat → Int) (z2 : Int), sb_ok 5 N p g z2 → ds_is p N (sb_R 5 g) (ln_ker p N (sb_R 5 f1)) → Q none (w_V p n z1 z2 f1 g)) : pj_ci X m_Subspace_solveInto [.inr 0, .inr 2] [c_S (.inl 5) (.inr 1) (.inl p) (.inl n) (.inl z1), c_A 30 f1, c_S (.inl 5) (.inr 3) v_u v_u v_u, c_A 30 f2] Q := by
  have hp1 := (nn_p_pos hp).1
  refine wp_c rfl (by omega) [2, 3] (c_Sbegin (C := 5) (W := N) (by omega) hn hN ?_) rfl rfl rfl rfl
  obtain ⟨hz1, hz2⟩ := sb_zero (C := 5) (W := N) (f := f2) hp1 hN
  refine wp_g rfl (by omega) ?_
  refine wp_h (w_V p n z1 0 f1 (fun k => if k < (5 + 1) * 5 then 0 else f2 k)) rfl ?_
  exact c_solve_out hp hN hn hR hQ N 0 _ _ _ _ (by omega) (by omega) hz1 (fun K hK => ⟨fun _ f hf => absurd hf (by omega), fun _ r hr => hK.2.2.2 _ _ (fun c hc => by rw [hz2 r c hr hc]; exact nn_eq_rfl p 0) hK.1⟩)
/-! the center -/
def ds_cen (p : Int) (N : Nat) (T : Nat → Nat → Nat → Int) : ln_P := fun x => ∀ j k, j < N → k < N → nn_eq p (nn_sm N (fun i => T i j k * x i)) 0
/-- the kernel sees the span alone -/
theorem ln_ker_span {R : Nat → ln_V} (hR : ln_R p N R) {S : Nat → Nat → ln_V} (h : ∀ K, ln_sub p N K → (ln_g N R K ↔ ∀ j k, j < N → k < N → K (S j k))) (x : ln_V) : ln_ker p N R x ↔ ∀ j k, j < N → k < N → nn_eq p (nn_sm N (fun i => S j k i * x i)) 0 := by
  have hK : ln_sub p N (fun y => nn_eq p (nn_sm N (fun c => y c * x c)) 0) := by
    have h1 := ln_dot_sub (p := p) (N := N) x
    have e : (fun y : ln_V => nn_eq p (nn_sm N (fun c => y c * x c)) 0) = (fun y : ln_V => nn_eq p (nn_sm N (fun c => x c * y c)) 0) := by
      funext y
      rw [nn_sm_congr N (fun c _ => Int.mul_comm (y c) (x c))]
    rw [e]
    exact h1
  exact h _ hK
abbrev w_C (p n z1 z2 : Int) (br f1 f2 : Nat → Int) : List pj_C := [c_Sp (.inr 1) v_u (.inr 3) (.inr 5), c_T (.inl p) (.inl n) (.inr 2), c_A 25 br, c_S (.inl 5) (.inr 4) (.inl p) (.inl n) (.inl z1), c_A 30 f1, c_S (.inl 5) (.inr 6) v_u v_u v_u, c_A 30 f2]
theorem c_cen_in (ht : tt_ok p N T) (hb : tt_br p N T br) (hn : n = N) {z1 z2 : Int} {g0 f2 : Nat → Int} (h0 : ∀ c, c < N → g0 (5 * 5 + c) = 0) {j k : Int} {J K : Nat} (hj : j = J) (hk : k = K) (hJ : J < N) (hK : K < N)
    (hQ : ∀ (g : Nat → Int) (d : pj_V), (∀ r c, r < N → c < N → g (r * 5 + c) = g0 (r * 5 + c)) → (∀ c, c < N → g (5 * 5 + c) = T c J K) → pj_WP X m_Spaces_center 91 [.inr 0, .inl j, .inl k, d] [] (w_C p n z1 z2 br g f2) Q) :
    ∀ (m i : Nat) (g : Nat → Int) (z : Int), i + m = N → z = i → (∀ r c, r < N → c < N → g (r * 5 + c) = g0 (r * 5 + c)) → (∀ c, c < N → g (5 * 5 + c) = if c < i then T c J K else 0) → pj_WP X m_Spaces_center 49 [.inr 0, .inl j, .inl k, .inl z] [] (w_C p n z1 z2 br g f2) Q := by
  obtain ⟨hp, h1N, hN, hT, -⟩ := id ht
  obtain ⟨hp1, hp2, hp3⟩ := nn_p_pos hp
  intro m
  induction m with
  | zero =>
    intro i g z hi hz hg hgv
    refine wp_b rfl (by omega) (fun c => ?_) (fun c => absurd c (by omega))
    exact hQ g _ hg (fun c hc => by rw [hgv c hc, if_pos (by omega)])
  | succ m ih =>
    intro i g z hi hz hg hgv
    have e0 : g (5 * 5 + i) = 0 := by rw [hgv i (by omega), if_neg (by omega)]
    obtain ⟨hbr, hbd⟩ := tt_brn ht hb (i := i) (j := J) (by omega) (by omega)
    have ht9 := hT i J K
    refine wp_b rfl (by omega) (fun c => absurd c (by omega)) (fun c => ?_)
    refine wp_c rfl (by omega) [1, 2] (c_entry (I := i) (J := J) hz hj (by omega) (by omega) ?_) rfl rfl rfl rfl
    refine wp_c rfl (by omega) [1] (c_coord (K := K) hp hbr (by omega) hk ?_) rfl rfl rfl rfl
    rw [hbd K hK]
    refine wp_h (w_C p n z1 z2 br g f2) rfl ?_
    refine wp_c rfl (by omega) [3, 4] (c_addIncoming (C := 5) (W := N) (c0 := i) (by omega) hp hn hN hz (by omega) (by rw [e0]; omega) (by omega) ?_) rfl rfl rfl rfl
    refine wp_g rfl (by omega) ?_
    refine wp_h (w_C p n z1 z2 br (pj_up g (5 * 5 + i) ((g (5 * 5 + i) + T i J K) % p)) f2) rfl ?_
    refine ih (i + 1) _ _ (by omega) (by omega) (fun r c hr hc => ?_) (fun c hc => ?_)
    · unfold pj_up
      rw [if_neg (by omega)]
      exact hg r c hr hc
    · unfold pj_up
      by_cases h : c = i
      · subst h
        rw [if_pos rfl, if_pos (by omega), e0, Int.zero_add, Int.emod_eq_of_lt ht9.1 ht9.2]
      · rw [if_neg (by omega), hgv c hc]
        by_cases h2 : c < i
        · rw [if_pos h2, if_pos (by omega)]
        · rw [if_neg h2, if_neg (by omega)]
theorem c_cen_mid (ht : tt_ok p N T) (hb : tt_br p N T br) (hn : n = N) {z2 : Int} {f2 : Nat → Int} {j : Int} {J : Nat} (hj : j = J) (hJ : J < N)
    (hQ : ∀ (g : Nat → Int) (z1 : Int) (d1 d2 : pj_V), sb_ok 5 N p g z1 → (∀ K, ln_sub p N K → (ln_g N (sb_R 5 g) K ↔ ∀ j k, k < N → j < J + 1 → K (fun i => T i j k))) → pj_WP X m_Spaces_center 105 [.inr 0, .inl j, d1, d2] [] (w_C p n z1 z2 br g f2) Q) :
    ∀ (m k : Nat) (g : Nat → Int) (z1 z : Int) (d : pj_V), k + m = N → z = k → sb_ok 5 N p g z1 → (∀ K, ln_sub p N K → (ln_g N (sb_R 5 g) K ↔ ∀ j q, q < N → (j < J ∨ (j = J ∧ q < k)) → K (fun i => T i j q))) → pj_WP X m_Spaces_center 36 [.inr 0, .inl j, .inl z, d] [] (w_C p n z1 z2 br g f2) Q := by
  obtain ⟨hp, h1N, hN, hT, -⟩ := id ht
  obtain ⟨hp1, hp2, hp3⟩ := nn_p_pos hp
  intro m
  induction m with
  | zero =>
    intro k g z1 z d hk hz hok hinv
    refine wp_b rfl (by omega) (fun c => ?_) (fun c => absurd c (by omega))
    refine hQ g z1 _ _ hok (fun K hK => ?_)
    rw [hinv K hK]
    exact ⟨fun h j q hq hj2 => h j q hq (by omega), fun h j q hq hj2 => h j q hq (by omega)⟩
  | succ m ih =>
    intro k g z1 z d hk hz hok hinv
    refine wp_b rfl (by omega) (fun c => absurd c (by omega)) (fun c => ?_)
    refine wp_g rfl (by omega) ?_
    refine c_cen_in ht hb hn hok.2.1 hj hz hJ (by omega) (fun g1 d1 hg1 hv1 => ?_) N 0 g _ (by omega) (by omega) (fun _ _ _ _ => rfl) (fun c hc => by rw [hok.2.1 c hc, if_neg (by omega)])
    refine wp_c rfl (by omega) [3, 4] (c_take (C := 5) (W := N) (by omega) hp hn hN (ln_R_same hok.1 hg1) (fun c hc => by
      show 0 ≤ g1 (5 * 5 + c) ∧ g1 (5 * 5 + c) < p
      rw [hv1 c hc]
      exact hT c J k) (fun g2 b hj2 hz0 => ?_)) rfl rfl rfl rfl
    refine wp_g rfl (by omega) ?_
    refine wp_h (w_C p n (z1 + if b then 1 else 0) z2 br g2 f2) rfl ?_
    refine ih (k + 1) g2 _ _ _ (by omega) (by omega) ⟨hj2.1, hz0, ?_⟩ (fun K hK => ?_)
    · have e9 : ln_ct (sb_R 5 g1) N = ln_ct (sb_R 5 g) N := ln_ct_congr N (fun r hr => by
        show g1 (r * 5 + r) = 0 ↔ g (r * 5 + r) = 0
        rw [hg1 r r hr hr])
      rw [hj2.2.2.1, e9, hok.2.2]
      cases b <;> simp
    · rw [hj2.2.1 K hK, ln_g_same hK hg1, hinv K hK]
      have e1 : ln_eq p N (sb_v 5 g1) (fun i => T i J k) := fun c hc => by
        show nn_eq p (g1 (5 * 5 + c)) _
        rw [hv1 c hc]
        exact nn_eq_rfl p _
      constructor
      · rintro ⟨a1, a2⟩ j9 q hq h
        by_cases h2 : j9 = J ∧ q = k
        · obtain ⟨rfl, rfl⟩ := h2
          exact hK.2.2.2 _ _ e1 a2
        · exact a1 j9 q hq (by omega)
      · intro h
        exact ⟨fun j9 q hq h2 => h j9 q hq (by omega), hK.2.2.2 _ _ (ln_eq_symm e1) (h J k (by omega) (by omega))⟩
theorem c_cen_out (ht : tt_ok p N T) (hb : tt_br p N T br) (hn : n = N) {z2 : Int} {f2 : Nat → Int}
    (hQ : ∀ (g f2 : Nat → Int) (z1 z2 : Int), sb_ok 5 N p f2 z2 → ds_is p N (sb_R 5 f2) (ds_cen p N T) → Q (some (.inr 5)) [c_Sp (.inr 1) v_u (.inr 3) (.inr 5), c_T (.inl p) (.inl n) (.inr 2), c_A 25 br, c_S (.inl 5) (.inr 4) (.inl p) (.inl n) (.inl z1), c_A 30 g, c_S (.inl 5) (.inr 6) (.inl p) (.inl n) (.inl z2), c_A 30 f2]) :
    ∀ (m j : Nat) (g : Nat → Int) (z1 z : Int) (d1 d2 : pj_V), j + m = N → z = j → sb_ok 5 N p g z1 → (∀ K, ln_sub p N K → (ln_g N (sb_R 5 g) K ↔ ∀ q k, k < N → q < j → K (fun i => T i q k))) → pj_WP X m_Spaces_center 23 [.inr 0, .inl z, d1, d2] [] (w_C p n z1 z2 br g f2) Q := by
  obtain ⟨hp, h1N, hN, hT, -⟩ := id ht
  intro m
  induction m with
  | zero =>
    intro j g z1 z d1 d2 hj hz hok hinv
    refine wp_b rfl (by omega) (fun c => ?_) (fun c => absurd c (by omega))
    refine wp_c rfl (by omega) [3, 4, 5, 6] (c_solve hp hN hn hok.1 (fun g2 z2' hok2 his => ?_)) rfl rfl rfl rfl
    refine wp_r rfl (by omega) (hQ g g2 z1 z2' hok2 ⟨hok2.1, fun x => ?_⟩)
    rw [his.2 x]
    refine ln_ker_span hok.1 (S := fun j k i => T i j k) (fun K hK => ?_) x
    rw [hinv K hK]
    exact ⟨fun h q k hq hk => h q k hk (by omega), fun h q k hk hq => h q k (by omega) hk⟩
  | succ m ih =>
    intro j g z1 z d1 d2 hj hz hok hinv
    refine wp_b rfl (by omega) (fun c => absurd c (by omega)) (fun c => ?_)
    refine wp_g rfl (by omega) ?_
    refine c_cen_mid ht hb hn (z2 := z2) hz (by omega) (fun g1 z9 e1 e2 hok1 hinv1 => ?_) N 0 g z1 _ _ (by omega) (by omega) hok (fun K hK => ?_)
    · refine wp_g rfl (by omega) ?_
      exact ih (j + 1) g1 z9 _ _ _ (by omega) (by omega) hok1 (fun K hK => by rw [hinv1 K hK])
    · rw [hinv K hK]
      exact ⟨fun h q k hk hq => h q k hk (by omega), fun h q k hk hq => h q k hk (by omega)⟩
/-- center() -/
theorem c_center (ht : tt_ok p N T) (hb : tt_br p N T br) (hn : n = N) {f1 f2 : Nat → Int}
    (hQ : ∀ (g f2 : Nat → Int) (z1 z2 : Int), sb_ok 5 N p f2 z2 → ds_is p N (sb_R 5 f2) (ds_cen p N T) → Q (some (.inr 5)) [c_Sp (.inr 1) v_u (.inr 3) (.inr 5), c_T (.inl p) (.inl n) (.inr 2), c_A 25 br, c_S (.inl 5) (.inr 4) (.inl p) (.inl n) (.inl z1), c_A 30 g, c_S (.inl 5) (.inr 6) (.inl p) (.inl n) (.inl z2), c_A 30 f2]) :
    pj_ci X m_Spaces_center [.inr 0] [c_Sp (.inr 1) v_u (.inr 3) (.inr 5), c_T (.inl p) (.inl n) (.inr 2), c_A 25 br, c_S (.inl 5) (.inr 4) v_u v_u v_u, c_A 30 f1, c_S (.inl 5) (.inr 6) v_u v_u v_u, c_A 30 f2] Q := by
  obtain ⟨hp, h1N, hN, hT, -⟩ := id ht
  have hp1 := (nn_p_pos hp).1
  refine wp_c rfl (by omega) [3, 4] (c_Sbegin (C := 5) (W := N) (by omega) hn hN ?_) rfl rfl rfl rfl
  obtain ⟨hz1, hz2⟩ := sb_zero (C := 5) (W := N) (f := f1) hp1 hN
  refine wp_g rfl (by omega) ?_
  refine wp_h (w_C p n 0 0 br (fun k => if k < (5 + 1) * 5 then 0 else f1 k) f2) rfl ?_
  exact c_cen_out ht hb hn (z2 := 0) hQ N 0 _ _ _ _ _ (by omega) (by omega) hz1 (fun K hK => ⟨fun _ q k _ hq => absurd hq (by omega), fun _ r hr => hK.2.2.2 _ _ (fun c hc => by rw [hz2 r c hr hc]; exact nn_eq_rfl p 0) hK.1⟩)
end CEN
end
section
/-! Table.jacobiValue, pairsWithBracket; Shelf -/
section SHELF
variable {X : pj_X} {Q : pj_Q} {p n : Int} {N : Nat} {T : Nat → Nat → Nat → Int} {br : Nat → Int}
/-- one of the three summands: [e_i, [e_j, e_k]] -/
def jc_t (p : Int) (N : Nat) (T : Nat → Nat → Nat → Int) (i j k : Nat) : ln_V := tt_bk p N T (ln_e i) (T j k)
/-- the Jacobi sum of three basis vectors -/
def jc_s (p : Int) (N : Nat) (T : Nat → Nat → Nat → Int) (i j k : Nat) (c : Nat) : Int := (jc_t p N T i j k c + jc_t p N T j k i c + jc_t p N T k i j c) % p
theorem jc_num (ht : tt_ok p N T) (hb : tt_br p N T br) {I J K : Nat} (hJ : J < 5) (hK : K < 5) : nn_nm p N (tt_bk p N T (nn_dg p (p ^ I)) (nn_dg p (br (5 * J + K)))) = nn_nm p N (jc_t p N T I J K) := by
  obtain ⟨hp, h1N, hN, hT, -⟩ := id ht
  have hp1 := (nn_p_pos hp).1
  refine nn_nm_congr N (fun c _ => ?_)
  refine nn_eq_red (tt_bk_congr (fun i _ => ?_) (fun k hk => ?_) c) (tt_bk_rg hp1 _ _ _) (tt_bk_rg hp1 _ _ _)
  · rw [nn_dg_pw hp]; exact nn_eq_rfl p _
  · rw [(tt_brn ht hb hJ hK).2 k hk]; exact nn_eq_rfl p _
theorem jc_rg (hp : nn_p p) (hN : N ≤ 5) {f : Nat → Int} (hf : ∀ c, c < N → 0 ≤ f c ∧ f c < p) : 0 ≤ nn_nm p N f ∧ nn_nm p N f ≤ 2147483647 := by
  have h := nn_nm_rg (nn_p_pos hp).1 N hf
  have h2 := nn_pwle hp N hN
  omega
theorem jc_plus (hp : nn_p p) {f g : Nat → Int} (hf : ∀ c, c < N → 0 ≤ f c ∧ f c < p) (hg : ∀ c, c < N → 0 ≤ g c ∧ g c < p) : nn_plus p N (nn_nm p N f) (nn_nm p N g) 1 = nn_nm p N (fun c => (f c + g c) % p) := by
  refine nn_nm_congr N (fun c hc => ?_)
  rw [nn_dg_nm (nn_p_pos hp).1 N hf c hc, nn_dg_nm (nn_p_pos hp).1 N hg c hc, Int.one_mul]
/-- jacobiValue(i, j, k) -/
theorem c_jacobi (ht : tt_ok p N T) (hb : tt_br p N T br) (hn : n = N) {i j k : Int} {I J K : Nat} (hi : i = I) (hj : j = J) (hk : k = K) (hI : I < N) (hJ : J < N) (hK : K < N) (hQ : Q (some (.inl (nn_nm p N (jc_s p N T I J K)))) (w_T p n br)) : pj_ci X m_Table_jacobiValue [.inr 0, .inl i, .inl j, .inl k] (w_T p n br) Q := by
  obtain ⟨hp, h1N, hN, hT, -⟩ := id ht
  have hp1 := (nn_p_pos hp).1
  have pw : ∀ A : Nat, A < N → 0 ≤ p ^ A ∧ p ^ A ≤ 2147483647 := fun A hA => by
    have := nn_pw1 hp1 A
    have := nn_pwle hp A (by omega)
    omega
  have en : ∀ A B : Nat, A < N → B < N → 0 ≤ br (5 * A + B) ∧ br (5 * A + B) ≤ 2147483647 := fun A B hA hB => (tt_brn ht hb (by omega) (by omega)).1
  have jr : ∀ A B C c : Nat, 0 ≤ jc_t p N T A B C c ∧ jc_t p N T A B C c < p := fun A B C c => tt_bk_rg hp1 _ _ _
  have r2 : ∀ c, c < N → 0 ≤ (jc_t p N T I J K c + jc_t p N T J K I c) % p ∧ (jc_t p N T I J K c + jc_t p N T J K I c) % p < p := fun c _ => ⟨Int.emod_nonneg _ (by omega), Int.emod_lt_of_pos _ hp1⟩
  refine wp_c rfl (by omega) [0] (c_power (E := I) (by omega) hi ?_) rfl rfl rfl rfl
  refine wp_c rfl (by omega) [0, 1] (c_entry (I := J) (J := K) hj hk (by omega) (by omega) ?_) rfl rfl rfl rfl
  refine wp_c rfl (by omega) [0, 1] (c_product ht hb hn (pw I hI) (en J K hJ hK) ?_) rfl rfl rfl rfl
  rw [jc_num ht hb (by omega) (by omega)]
  refine wp_h (w_T p n br) rfl ?_
  refine wp_c rfl (by omega) [0] (c_power (E := J) (by omega) hj ?_) rfl rfl rfl rfl
  refine wp_c rfl (by omega) [0, 1] (c_entry (I := K) (J := I) hk hi (by omega) (by omega) ?_) rfl rfl rfl rfl
  refine wp_c rfl (by omega) [0, 1] (c_product ht hb hn (pw J hJ) (en K I hK hI) ?_) rfl rfl rfl rfl
  rw [jc_num ht hb (by omega) (by omega)]
  refine wp_h (w_T p n br) rfl ?_
  refine wp_c rfl (by omega) [0] (c_plus hp hN hn (jc_rg hp hN (fun c _ => jr I J K c)) (jc_rg hp hN (fun c _ => jr J K I c)) (by unfold pj_rg; omega) ?_) rfl rfl rfl rfl
  rw [jc_plus hp (fun c _ => jr I J K c) (fun c _ => jr J K I c)]
  refine wp_h (w_T p n br) rfl ?_
  refine wp_c rfl (by omega) [0] (c_power (E := K) (by omega) hk ?_) rfl rfl rfl rfl
  refine wp_c rfl (by omega) [0, 1] (c_entry (I := I) (J := J) hi hj (by omega) (by omega) ?_) rfl rfl rfl rfl
  refine wp_c rfl (by omega) [0, 1] (c_product ht hb hn (pw K hK) (en I J hI hJ) ?_) rfl rfl rfl rfl
  rw [jc_num ht hb (by omega) (by omega)]
  refine wp_h (w_T p n br) rfl ?_
  refine wp_c rfl (by omega) [0] (c_plus hp hN hn (jc_rg hp hN r2) (jc_rg hp hN (fun c _ => jr K I J c)) (by unfold pj_rg; omega) ?_) rfl rfl rfl rfl
  rw [jc_plus hp r2 (fun c _ => jr K I J c)]
  refine wp_h (w_T p n br) rfl ?_
  refine wp_r rfl (by omega) ?_
  rw [show nn_nm p N (fun c => ((jc_t p N T I J K c + jc_t p N T J K I c) % p + jc_t p N T K I J c) % p) = nn_nm p N (jc_s p N T I J K) from nn_nm_congr N (fun c _ => Int.emod_add_emod _ _ _)]
  exact hQ
def jc_c (br : Nat → Int) (i J : Nat) : Int := nn_sm J (fun j => if br (5 * i + j) = 0 then 0 else 1)
def jc_cc (br : Nat → Int) (N I : Nat) : Int := nn_sm I (fun i => jc_c br i N)
theorem jc_c_rg (br : Nat → Int) (i : Nat) : ∀ J : Nat, 0 ≤ jc_c br i J ∧ jc_c br i J ≤ J
  | 0 => ⟨Int.le_refl 0, Int.le_refl 0⟩
  | J + 1 => by
    have h := jc_c_rg br i J
    have e : jc_c br i (J + 1) = jc_c br i J + (if br (5 * i + J) = 0 then 0 else 1) := rfl
    rw [e]
    split <;> omega
theorem jc_cc_rg (br : Nat → Int) {N : Nat} (hN : N ≤ 5) : ∀ I : Nat, 0 ≤ jc_cc br N I ∧ jc_cc br N I ≤ 5 * I
  | 0 => ⟨Int.le_refl 0, Int.le_refl 0⟩
  | I + 1 => by
    have h := jc_cc_rg br hN I
    have h2 := jc_c_rg br I N
    have e : jc_cc br N (I + 1) = jc_cc br N I + jc_c br I N := rfl
    rw [e]
    omega
theorem c_pairs_in (hb : ∀ k, k < 25 → -2147483648 ≤ br k ∧ br k ≤ 2147483647) (hN : N ≤ 5) (hn : n = N) {I : Nat} {i : Int} (hI : I < N) (hi : i = I)
    (hQ : ∀ d : pj_V, pj_WP X m_Table_pairsWithBracket 40 [.inr 0, .inl (jc_cc br N I + jc_c br I N), .inl i, d] [] [c_T v_u (.inl n) (.inr 1), c_A 25 br] Q) :
    ∀ (m J : Nat) (r j : Int), J + m = N → j = J → r = jc_cc br N I + jc_c br I J → pj_WP X m_Table_pairsWithBracket 14 [.inr 0, .inl r, .inl i, .inl j] [] [c_T v_u (.inl n) (.inr 1), c_A 25 br] Q := by
  intro m
  have b1 := jc_cc_rg br hN I
  induction m with
  | zero =>
    intro J r j hJ hj hr
    refine wp_b rfl (by omega) (fun c => ?_) (fun c => absurd c (by omega))
    rw [hr, show J = N by omega]
    exact hQ _
  | succ m ih =>
    intro J r j hJ hj hr
    have b2 := jc_c_rg br I J
    have e : jc_c br I (J + 1) = jc_c br I J + (if br (5 * I + J) = 0 then 0 else 1) := rfl
    refine wp_b rfl (by omega) (fun c => absurd c (by omega)) (fun c => ?_)
    refine wp_c rfl (by omega) [0, 1] (c_entry (I := I) (J := J) hi hj (by omega) (by omega) ?_) rfl rfl rfl rfl
    have hb2 := hb (5 * I + J) (by omega)
    refine wp_b rfl (by omega) (fun c2 => ?_) (fun c2 => ?_)
    · refine wp_g rfl (by omega) ?_
      refine ih (J + 1) _ _ (by omega) (by omega) ?_
      rw [e, if_pos c2]
      omega
    · refine wp_g rfl (by omega) ?_
      refine ih (J + 1) _ _ (by omega) (by omega) ?_
      rw [e, if_neg c2]
      omega
theorem c_pairs_out (hb : ∀ k, k < 25 → -2147483648 ≤ br k ∧ br k ≤ 2147483647) (hN : N ≤ 5) (hn : n = N) (hQ : Q (some (.inl (jc_cc br N N))) [c_T v_u (.inl n) (.inr 1), c_A 25 br]) :
    ∀ (m I : Nat) (r i : Int) (d : pj_V), I + m = N → i = I → r = jc_cc br N I → pj_WP X m_Table_pairsWithBracket 4 [.inr 0, .inl r, .inl i, d] [] [c_T v_u (.inl n) (.inr 1), c_A 25 br] Q := by
  intro m
  induction m with
  | zero =>
    intro I r i d hI hi hr
    refine wp_b rfl (by omega) (fun c => ?_) (fun c => absurd c (by omega))
    refine wp_r rfl (by omega) ?_
    rw [hr, show I = N by omega]
    exact hQ
  | succ m ih =>
    intro I r i d hI hi hr
    refine wp_b rfl (by omega) (fun c => absurd c (by omega)) (fun c => ?_)
    refine wp_g rfl (by omega) ?_
    refine c_pairs_in hb hN hn (I := I) (by omega) hi (fun d => ?_) N 0 _ _ (by omega) (by omega) ?_
    · refine wp_g rfl (by omega) ?_
      exact ih (I + 1) _ _ _ (by omega) (by omega) rfl
    · rw [hr]
      exact (Int.add_zero _).symm
/-- pairsWithBracket() -/
theorem c_pairs (hb : ∀ k, k < 25 → -2147483648 ≤ br k ∧ br k ≤ 2147483647) (hN : N ≤ 5) (hn : n = N) (hQ : Q (some (.inl (jc_cc br N N))) [c_T v_u (.inl n) (.inr 1), c_A 25 br]) : pj_ci X m_Table_pairsWithBracket [.inr 0] [c_T v_u (.inl n) (.inr 1), c_A 25 br] Q := by
  refine wp_g rfl (by omega) ?_
  exact c_pairs_out hb hN hn hQ N 0 _ _ _ (by omega) (by omega) rfl
/-! Shelf -/
abbrev c_Sh (p c : pj_V) : pj_C := .inr (3, [p, c])
/-- isEmpty(place) -/
theorem c_isEmpty {P K : Nat} {f : Nat → Int} {k : Int} (hP : P ≤ 6) (hk : k = K) (hK : K < P) (hf : -2147483648 ≤ f (27 * K) ∧ f (27 * K) ≤ 2147483647) (h1 : f (27 * K) = 0 → Q (some (.inl 1)) [c_Sh v_u (.inr 1), c_A (P * 27) f]) (h0 : f (27 * K) ≠ 0 → Q (some (.inl 0)) [c_Sh v_u (.inr 1), c_A (P * 27) f]) : pj_ci X m_Shelf_isEmpty [.inr 0, .inl k] [c_Sh v_u (.inr 1), c_A (P * 27) f] Q := by
  refine wp_c rfl (by omega) [1] (c_at (I := 27 * K) (by omega) (by omega) (by omega) ?_) rfl rfl rfl rfl
  refine wp_b rfl (by omega) (fun c => ?_) (fun c => ?_)
  · exact wp_r rfl (by omega) (h0 c)
  · exact wp_r rfl (by omega) (h1 (Decidable.of_not_not c))
/-- the cells of a shelf after keep -/
def sh_k (f : Nat → Int) (K : Nat) (p n : Int) (br : Nat → Int) : Nat → Int := va_cpy br (pj_up (pj_up f (27 * K) p) (27 * K + 1) n) 0 (27 * K + 2) 25
/-- keep(place, table) -/
theorem c_keep {P K : Nat} {f : Nat → Int} {k : Int} (hP : P ≤ 6) (hk : k = K) (hK : K < P) (hQ : Q none [c_Sh (.inl (P : Int)) (.inr 1), c_A (P * 27) (sh_k f K p n br), c_T (.inl p) (.inl n) (.inr 3), c_A 25 br]) : pj_ci X m_Shelf_keep [.inr 0, .inl k, .inr 2] [c_Sh (.inl (P : Int)) (.inr 1), c_A (P * 27) f, c_T (.inl p) (.inl n) (.inr 3), c_A 25 br] Q := by
  refine wp_b rfl (by omega) (fun c => absurd c (by omega)) (fun c => ?_)
  refine wp_b rfl (by omega) (fun c => ?_) (fun c => absurd c (by omega))
  refine wp_r rfl (by omega) ?_
  have e1 : (k * 27).toNat = 27 * K := by omega
  have e2 : (k * 27 + 1).toNat = 27 * K + 1 := by omega
  have e3 : (k * 27 + 2).toNat = 27 * K + 2 := by omega
  show Q none [c_Sh (.inl (P : Int)) (.inr 1), c_A (P * 27) (va_cpy br (pj_up (pj_up f (k * 27).toNat p) (k * 27 + 1).toNat n) 0 (k * 27 + 2).toNat 25), c_T (.inl p) (.inl n) (.inr 3), c_A 25 br]
  rw [e1, e2, e3]
  exact hQ
/-- fetch(place, table) -/
theorem c_fetch {P K : Nat} {f : Nat → Int} {k : Int} (hP : P ≤ 6) (hk : k = K) (hK : K < P) (hQ : Q none [c_Sh (.inl (P : Int)) (.inr 1), c_A (P * 27) f, c_T (.inl (f (27 * K))) (.inl (f (27 * K + 1))) (.inr 3), c_A 25 (va_cpy f br (27 * K + 2) 0 25)]) : pj_ci X m_Shelf_fetch [.inr 0, .inl k, .inr 2] [c_Sh (.inl (P : Int)) (.inr 1), c_A (P * 27) f, c_T v_u v_u (.inr 3), c_A 25 br] Q := by
  refine wp_b rfl (by omega) (fun c => absurd c (by omega)) (fun c => ?_)
  refine wp_b rfl (by omega) (fun c => ?_) (fun c => absurd c (by omega))
  refine wp_r rfl (by omega) ?_
  have e1 : (k * 27).toNat = 27 * K := by omega
  have e2 : (k * 27 + 1).toNat = 27 * K + 1 := by omega
  have e3 : (k * 27 + 2).toNat = 27 * K + 2 := by omega
  show Q none [c_Sh (.inl (P : Int)) (.inr 1), c_A (P * 27) f, c_T (.inl (f (k * 27).toNat)) (.inl (f (k * 27 + 1).toNat)) (.inr 3), c_A 25 (va_cpy f br (k * 27 + 2).toNat 0 25)]
  rw [e1, e2, e3]
  exact hQ
/-- dropFirst() -/
theorem c_dropFirst {f : Nat → Int} (hQ : Q none [c_Sh v_u (.inr 1), c_A 162 (va_cpy f f 27 0 135)]) : pj_ci X m_Shelf_dropFirst [.inr 0] [c_Sh v_u (.inr 1), c_A 162 f] Q := by
  exact wp_r rfl (by omega) hQ
end SHELF
end
section
/-! Change: begin, rewrite, apply -/
section CHANGE
variable {X : pj_X} {Q : pj_Q} {p n : Int} {N : Nat} {T : Nat → Nat → Nat → Int} {br : Nat → Int}
abbrev c_Ch (t d a b : pj_V) : pj_C := .inr (0, [t, d, a, b])
/-- row by matrix -/
def ch_v (p : Int) (N : Nat) (x : Nat → Int) (G : Nat → ln_V) (c : Nat) : Int := nn_sm N (fun k => x k * G k c) % p
/-- the brackets in the new basis: F the new basis in the old one, G the old one in the new one -/
def ch_T (p : Int) (N : Nat) (T : Nat → Nat → Nat → Int) (F G : Nat → ln_V) (i j c : Nat) : Int := if i < N ∧ j < N ∧ c < N then ch_v p N (tt_bk p N T (F i) (F j)) G c else 0
theorem tt_bk_anti (ht : tt_ok p N T) (u v : ln_V) (k : Nat) : nn_eq p (tt_bk p N T v u k) (-(tt_bk p N T u v k)) := by
  rw [← tt_pr_total ht v u k, ← tt_pr_total ht u v k]
  have e : nn_sm N (fun i => tt_pr T v u k i N) = -nn_sm N (fun i => tt_pr T u v k i N) := by
    have h1 : nn_sm N (fun i => tt_pr T v u k i N) = nn_sm N (fun i => (-1) * tt_pr T u v k i N) := nn_sm_congr N (fun i _ => by
      show nn_sm N _ = (-1) * nn_sm N _
      rw [← nn_sm_mul]
      refine nn_sm_congr N (fun j _ => ?_)
      by_cases h : i < j
      · simp only [if_pos h]
        rw [show v i * u j - u i * v j = -(u i * v j - v i * u j) by omega, Int.neg_mul, Int.neg_mul, Int.one_mul]
      · simp only [if_neg h]
        rfl)
    rw [h1, nn_sm_mul, Int.neg_mul, Int.one_mul]
  rw [e]
  refine nn_eq_trans (nn_eq_mod p _) ?_
  have h := nn_eq_mul (nn_eq_rfl p (-1)) (nn_eq_symm (nn_eq_mod p (nn_sm N (fun i => tt_pr T u v k i N))))
  rw [Int.neg_mul, Int.neg_mul, Int.one_mul, Int.one_mul] at h
  exact h
theorem tt_bk_self (ht : tt_ok p N T) (u : ln_V) (k : Nat) : tt_bk p N T u u k = 0 := by
  have e : nn_sm N (fun i => tt_pr T u u k i N) = 0 := nn_sm_0 N (fun i _ => nn_sm_0 N (fun j _ => by
    split
    · rw [Int.sub_self, Int.zero_mul]
    · rfl))
  rw [← tt_pr_total ht u u k, e, Int.zero_emod]
theorem ch_ok (ht : tt_ok p N T) (F G : Nat → ln_V) : tt_ok p N (ch_T p N T F G) := by
  obtain ⟨hp, h1N, hN, hT, -⟩ := id ht
  have hp1 := (nn_p_pos hp).1
  refine ⟨hp, h1N, hN, fun i j k => ?_, fun i j k h => ?_, fun i j k => ?_, fun i k => ?_⟩
  · unfold ch_T
    split
    · exact ⟨Int.emod_nonneg _ (by omega), Int.emod_lt_of_pos _ hp1⟩
    · exact ⟨Int.le_refl 0, hp1⟩
  · unfold ch_T
    rw [if_neg (by omega)]
  · unfold ch_T
    by_cases h : i < N ∧ j < N ∧ k < N
    · rw [if_pos h, if_pos (by omega)]
      refine nn_eq_trans (nn_eq_mod p _) ?_
      have e2 : nn_eq p (nn_sm N (fun q => tt_bk p N T (F j) (F i) q * G q k)) (nn_sm N (fun q => (-1) * (tt_bk p N T (F i) (F j) q * G q k))) := nn_eq_sm N (fun q _ => by
        have := nn_eq_mul (tt_bk_anti ht (F i) (F j) q) (nn_eq_rfl p (G q k))
        rw [Int.neg_mul] at this
        rw [Int.neg_mul, Int.one_mul]
        exact this)
      rw [nn_sm_mul] at e2
      refine nn_eq_trans e2 ?_
      have h := nn_eq_mul (nn_eq_rfl p (-1)) (nn_eq_symm (nn_eq_mod p (nn_sm N (fun q => tt_bk p N T (F i) (F j) q * G q k))))
      rw [show ∀ z : Int, (-1) * z = -z from fun z => by omega, show ∀ z : Int, (-1) * z = -z from fun z => by omega] at h
      rw [show ∀ z : Int, (-1) * z = -z from fun z => by omega]
      exact h
    · rw [if_neg h, if_neg (by omega)]
      exact nn_eq_rfl p _
  · unfold ch_T
    split
    · refine (show _ = (0 : Int) % p from ?_).trans (Int.zero_emod p)
      refine congrArg (· % p) (nn_sm_0 N (fun q _ => ?_))
      rw [tt_bk_self ht, Int.zero_mul]
    · rfl
theorem c_rewrite_loop (hp : nn_p p) (hN : N ≤ 5) (hn : n = N) {g : Nat → Int} {v : Int} (hv : 0 ≤ v ∧ v ≤ 2147483647) (hg : ∀ k, k < N → 0 ≤ g k ∧ g k ≤ 2147483647)
    (hQ : Q (some (.inl (nn_nm p N (ch_v p N (nn_dg p v) (fun k => nn_dg p (g k)))))) [c_Ch (.inr 1) v_u v_u (.inr 2), c_T (.inl p) (.inl n) v_u, c_A 5 g]) :
    ∀ (m K : Nat) (r k : Int), K + m = N → k = K → r = nn_nm p N (ch_v p K (nn_dg p v) (fun k => nn_dg p (g k))) →
      pj_WP X m_Change_rewrite 4 [.inr 0, .inl v, .inl r, .inl k] [] [c_Ch (.inr 1) v_u v_u (.inr 2), c_T (.inl p) (.inl n) v_u, c_A 5 g] Q := by
  have hp1 := (nn_p_pos hp).1
  intro m
  induction m with
  | zero =>
    intro K r k hK hk hr
    refine wp_b rfl (by omega) (fun c => ?_) (fun c => absurd c (by omega))
    refine wp_r rfl (by omega) ?_
    rw [hr, show K = N by omega]
    exact hQ
  | succ m ih =>
    intro K r k hK hk hr
    have hrr : 0 ≤ r ∧ r ≤ 2147483647 := by rw [hr]; exact tt_num hp hN
    have rk := nn_dg_rg hp1 K v
    refine wp_b rfl (by omega) (fun c => absurd c (by omega)) (fun c => ?_)
    refine wp_c rfl (by omega) [2] (c_at (I := K) (by omega) hk (by omega) ?_) rfl rfl rfl rfl
    refine wp_c rfl (by omega) [1] (c_coord (K := K) hp hv (by omega) hk ?_) rfl rfl rfl rfl
    refine wp_h [c_Ch (.inr 1) v_u v_u (.inr 2), c_T (.inl p) (.inl n) v_u, c_A 5 g] rfl ?_
    refine wp_c rfl (by omega) [1] (c_plus hp hN hn hrr (hg K (by omega)) (by unfold pj_rg; have := (nn_p_pos hp).2.2; omega) ?_) rfl rfl rfl rfl
    refine wp_g rfl (by omega) ?_
    refine ih (K + 1) _ _ (by omega) (by omega) ?_
    refine nn_nm_congr N (fun c hc => ?_)
    have hvr : ∀ c, c < N → 0 ≤ ch_v p K (nn_dg p v) (fun k => nn_dg p (g k)) c ∧ ch_v p K (nn_dg p v) (fun k => nn_dg p (g k)) c < p := fun c _ => ⟨Int.emod_nonneg _ (by omega), Int.emod_lt_of_pos _ hp1⟩
    rw [hr, nn_dg_nm hp1 N hvr c hc]
    exact Int.emod_add_emod _ _ _
/-- rewrite(v) -/
theorem c_rewrite (hp : nn_p p) (hN : N ≤ 5) (hn : n = N) {g : Nat → Int} {v : Int} (hv : 0 ≤ v ∧ v ≤ 2147483647) (hg : ∀ k, k < N → 0 ≤ g k ∧ g k ≤ 2147483647)
    (hQ : Q (some (.inl (nn_nm p N (ch_v p N (nn_dg p v) (fun k => nn_dg p (g k)))))) [c_Ch (.inr 1) v_u v_u (.inr 2), c_T (.inl p) (.inl n) v_u, c_A 5 g]) :
    pj_ci X m_Change_rewrite [.inr 0, .inl v] [c_Ch (.inr 1) v_u v_u (.inr 2), c_T (.inl p) (.inl n) v_u, c_A 5 g] Q := by
  refine wp_g rfl (by omega) ?_
  exact c_rewrite_loop hp hN hn hv hg hQ N 0 _ _ (by omega) (by omega) (nn_nm_eq0 N (fun c _ => Int.zero_emod p)).symm
theorem c_Cbegin_loop (hp : nn_p p) (hN : N ≤ 5) (hn : n = N) {f g : Nat → Int}
    (hQ : Q none [c_Ch (.inr 1) v_u (.inr 2) (.inr 3), c_T (.inl p) (.inl n) v_u, c_A 5 (fun k => if k < N then p ^ k else f k), c_A 5 (fun k => if k < N then p ^ k else g k)]) :
    ∀ (m K : Nat) (f' g' : Nat → Int) (k : Int), K + m = N → k = K → (∀ j, f' j = if j < K then p ^ j else f j) → (∀ j, g' j = if j < K then p ^ j else g j) →
      pj_WP X m_Change_begin 2 [.inr 0, .inl k] [] [c_Ch (.inr 1) v_u (.inr 2) (.inr 3), c_T (.inl p) (.inl n) v_u, c_A 5 f', c_A 5 g'] Q := by
  intro m
  induction m with
  | zero =>
    intro K f' g' k hK hk hf hg
    refine wp_b rfl (by omega) (fun c => ?_) (fun c => absurd c (by omega))
    refine wp_r rfl (by omega) ?_
    rw [show f' = fun k => if k < N then p ^ k else f k from funext fun j => by rw [hf j, show K = N by omega], show g' = fun k => if k < N then p ^ k else g k from funext fun j => by rw [hg j, show K = N by omega]]
    exact hQ
  | succ m ih =>
    intro K f' g' k hK hk hf hg
    refine wp_b rfl (by omega) (fun c => absurd c (by omega)) (fun c => ?_)
    refine wp_c rfl (by omega) [1] (c_power (E := K) (by omega) hk ?_) rfl rfl rfl rfl
    refine wp_c rfl (by omega) [2] (c_put (I := K) (by omega) hk (by omega) ?_) rfl rfl rfl rfl
    refine wp_h [c_Ch (.inr 1) v_u (.inr 2) (.inr 3), c_T (.inl p) (.inl n) v_u, c_A 5 (pj_up f' K (p ^ K)), c_A 5 g'] rfl ?_
    refine wp_c rfl (by omega) [1] (c_power (E := K) (by omega) hk ?_) rfl rfl rfl rfl
    refine wp_c rfl (by omega) [3] (c_put (I := K) (by omega) hk (by omega) ?_) rfl rfl rfl rfl
    refine wp_h [c_Ch (.inr 1) v_u (.inr 2) (.inr 3), c_T (.inl p) (.inl n) v_u, c_A 5 (pj_up f' K (p ^ K)), c_A 5 (pj_up g' K (p ^ K))] rfl ?_
    refine wp_g rfl (by omega) ?_
    refine ih (K + 1) _ _ _ (by omega) (by omega) (fun j => ?_) (fun j => ?_)
    · simp only [pj_up, hf j]
      by_cases h : j = K
      · rw [if_pos h, if_pos (by omega), h]
      · rw [if_neg h]
        by_cases h2 : j < K
        · rw [if_pos h2, if_pos (by omega)]
        · rw [if_neg h2, if_neg (by omega)]
    · simp only [pj_up, hg j]
      by_cases h : j = K
      · rw [if_pos h, if_pos (by omega), h]
      · rw [if_neg h]
        by_cases h2 : j < K
        · rw [if_pos h2, if_pos (by omega)]
        · rw [if_neg h2, if_neg (by omega)]
/-- begin() -/
theorem c_Cbegin (hp : nn_p p) (hN : N ≤ 5) (hn : n = N) {f g : Nat → Int}
    (hQ : Q none [c_Ch (.inr 1) v_u (.inr 2) (.inr 3), c_T (.inl p) (.inl n) v_u, c_A 5 (fun k => if k < N then p ^ k else f k), c_A 5 (fun k => if k < N then p ^ k else g k)]) :
    pj_ci X m_Change_begin [.inr 0] [c_Ch (.inr 1) v_u (.inr 2) (.inr 3), c_T (.inl p) (.inl n) v_u, c_A 5 f, c_A 5 g] Q := by
  refine wp_g rfl (by omega) ?_
  exact c_Cbegin_loop hp hN hn hQ N 0 _ _ _ (by omega) (by omega) (fun j => by rw [if_neg (by omega)]) (fun j => by rw [if_neg (by omega)])
/-- the world of apply -/
abbrev w_Ch (p n : Int) (br : Nat → Int) (d1 d2 : pj_V) (dr f g : Nat → Int) : List pj_C := [c_Ch (.inr 1) (.inr 3) (.inr 5) (.inr 6), c_T (.inl p) (.inl n) (.inr 2), c_A 25 br, c_T d1 d2 (.inr 4), c_A 25 dr, c_A 5 f, c_A 5 g]
/-- the pairs that are done -/
abbrev ch_d (N I J a b : Nat) : Prop := a < b ∧ b < N ∧ (a < I ∨ (a = I ∧ b < J))
def ch_in (p : Int) (N : Nat) (T' : Nat → Nat → Nat → Int) (I J : Nat) (dr : Nat → Int) : Prop := ∀ a b, a < 5 → b < 5 → dr (5 * a + b) = if ch_d N I J a b ∨ ch_d N I J b a then nn_nm p N (T' a b) else 0
theorem ch_in_step {T' : Nat → Nat → Nat → Int} (ht : tt_ok p N T') {I J : Nat} {dr : Nat → Int} (hIJ : I < J) (hJ : J < N) (h : ch_in p N T' I J dr) :
    ch_in p N T' I (J + 1) (pj_up (pj_up dr (5 * I + J) (nn_nm p N (T' I J))) (5 * J + I) (nn_plus p N 0 (nn_nm p N (T' I J)) (-1))) := by
  obtain ⟨hp, h1N, hN, hT, h0, ha, -⟩ := id ht
  have hp1 := (nn_p_pos hp).1
  intro a b ha5 hb5
  simp only [pj_up]
  by_cases h1 : 5 * a + b = 5 * J + I
  · have ea : a = J := by omega
    have eb : b = I := by omega
    subst ea eb
    rw [if_pos h1, if_pos (Or.inr ⟨hIJ, hJ, Or.inr ⟨rfl, by omega⟩⟩)]
    refine nn_nm_congr N (fun c hc => ?_)
    rw [nn_dg_0 hp1, nn_dg_nm hp1 N (fun c _ => hT _ _ c) c hc, Int.zero_add, Int.neg_mul, Int.one_mul]
    exact nn_eq_red (nn_eq_trans (nn_eq_mod p _) (nn_eq_symm (ha b a c))) ⟨Int.emod_nonneg _ (by omega), Int.emod_lt_of_pos _ hp1⟩ (hT _ _ c)
  · rw [if_neg h1]
    by_cases h2 : 5 * a + b = 5 * I + J
    · have ea : a = I := by omega
      have eb : b = J := by omega
      subst ea eb
      rw [if_pos h2, if_pos (Or.inl ⟨hIJ, hJ, Or.inr ⟨rfl, by omega⟩⟩)]
    · rw [if_neg h2, h a b ha5 hb5]
      have e : (ch_d N I J a b ∨ ch_d N I J b a) ↔ (ch_d N I (J + 1) a b ∨ ch_d N I (J + 1) b a) := by
        unfold ch_d
        omega
      by_cases hc : ch_d N I J a b ∨ ch_d N I J b a
      · rw [if_pos hc, if_pos (e.mp hc)]
      · rw [if_neg hc, if_neg (fun x => hc (e.mpr x))]
theorem ch_in_row {T' : Nat → Nat → Nat → Int} {I : Nat} {dr : Nat → Int} (h : ch_in p N T' I N dr) : ch_in p N T' (I + 1) (I + 2) dr := by
  intro a b ha5 hb5
  rw [h a b ha5 hb5]
  have e : (ch_d N I N a b ∨ ch_d N I N b a) ↔ (ch_d N (I + 1) (I + 2) a b ∨ ch_d N (I + 1) (I + 2) b a) := by
    unfold ch_d
    omega
  by_cases hc : ch_d N I N a b ∨ ch_d N I N b a
  · rw [if_pos hc, if_pos (e.mp hc)]
  · rw [if_neg hc, if_neg (fun x => hc (e.mpr x))]
theorem ch_in_end {T' : Nat → Nat → Nat → Int} (ht : tt_ok p N T') {J : Nat} {dr : Nat → Int} (h : ch_in p N T' N J dr) : tt_br p N T' dr := by
  obtain ⟨hp, h1N, hN, hT, h0, ha, hd⟩ := id ht
  intro a b ha5 hb5
  rw [h a b ha5 hb5]
  by_cases hc : ch_d N N J a b ∨ ch_d N N J b a
  · rw [if_pos hc]
  · rw [if_neg hc]
    refine (nn_nm_eq0 N (fun c hcn => ?_)).symm
    by_cases hab : a = b
    · rw [hab]
      exact hd b c
    · refine h0 a b c ?_
      unfold ch_d at hc
      omega
set_option maxHeartbeats 1000000 in
theorem c_apply_in (ht : tt_ok p N T) (hb : tt_br p N T br) (hn : n = N) {f g : Nat → Int} (hf : ∀ k, k < N → 0 ≤ f k ∧ f k ≤ 2147483647) (hg : ∀ k, k < N → 0 ≤ g k ∧ g k ≤ 2147483647) {I : Nat} {i : Int} (hI : I < N) (hi : i = I)
    (hQ : ∀ (dr : Nat → Int) (j d : pj_V), ch_in p N (ch_T p N T (fun k => nn_dg p (f k)) (fun k => nn_dg p (g k))) I N dr → pj_WP X m_Change_apply 93 [.inr 0, .inl i, j, d] [] (w_Ch p n br (.inl p) (.inl n) dr f g) Q) :
    ∀ (m J : Nat) (j : Int) (d : pj_V) (dr : Nat → Int), J + m = N → j = J → I < J → ch_in p N (ch_T p N T (fun k => nn_dg p (f k)) (fun k => nn_dg p (g k))) I J dr →
      pj_WP X m_Change_apply 38 [.inr 0, .inl i, .inl j, d] [] (w_Ch p n br (.inl p) (.inl n) dr f g) Q := by
  obtain ⟨hp, h1N, hN, hT, -⟩ := id ht
  have hp1 := (nn_p_pos hp).1
  intro m
  induction m with
  | zero =>
    intro J j d dr hJ hj hIJ hin
    refine wp_b rfl (by omega) (fun c => ?_) (fun c => absurd c (by omega))
    rw [show J = N by omega] at hin
    exact hQ _ _ _ hin
  | succ m ih =>
    intro J j d dr hJ hj hIJ hin
    have hV : 0 ≤ nn_nm p N (tt_bk p N T (nn_dg p (f I)) (nn_dg p (f J))) ∧ nn_nm p N (tt_bk p N T (nn_dg p (f I)) (nn_dg p (f J))) ≤ 2147483647 := jc_rg hp hN (fun c _ => tt_bk_rg hp1 _ _ _)
    have eR : nn_nm p N (ch_v p N (nn_dg p (nn_nm p N (tt_bk p N T (nn_dg p (f I)) (nn_dg p (f J))))) (fun k => nn_dg p (g k))) = nn_nm p N (ch_T p N T (fun k => nn_dg p (f k)) (fun k => nn_dg p (g k)) I J) := by
      refine nn_nm_congr N (fun c hc => ?_)
      unfold ch_T
      rw [if_pos ⟨hI, by omega, hc⟩]
      refine congrArg (· % p) (nn_sm_congr N (fun k hk => ?_))
      rw [nn_dg_nm hp1 N (fun c _ => tt_bk_rg hp1 _ _ _) k hk]
    have hR : 0 ≤ nn_nm p N (ch_T p N T (fun k => nn_dg p (f k)) (fun k => nn_dg p (g k)) I J) ∧ nn_nm p N (ch_T p N T (fun k => nn_dg p (f k)) (fun k => nn_dg p (g k)) I J) ≤ 2147483647 := jc_rg hp hN (fun c _ => (ch_ok ht _ _).2.2.2.1 _ _ c)
    refine wp_b rfl (by omega) (fun c => absurd c (by omega)) (fun c => ?_)
    refine wp_c rfl (by omega) [5] (c_at (I := I) (by omega) hi (by omega) ?_) rfl rfl rfl rfl
    refine wp_c rfl (by omega) [5] (c_at (I := J) (by omega) hj (by omega) ?_) rfl rfl rfl rfl
    refine wp_h (w_Ch p n br (.inl p) (.inl n) dr f g) rfl ?_
    refine wp_c rfl (by omega) [1, 2] (c_product ht hb hn (hf I hI) (hf J (by omega)) ?_) rfl rfl rfl rfl
    refine wp_h (w_Ch p n br (.inl p) (.inl n) dr f g) rfl ?_
    refine wp_c rfl (by omega) [0, 1, 6] (c_rewrite hp hN hn hV hg ?_) rfl rfl rfl rfl
    rw [eR]
    refine wp_h (w_Ch p n br (.inl p) (.inl n) dr f g) rfl ?_
    refine wp_c rfl (by omega) [3, 4] (c_setEntry (I := I) (J := J) hp hN hn hi hj (by omega) (by omega) hR ?_) rfl rfl rfl rfl
    refine wp_g rfl (by omega) ?_
    exact ih (J + 1) _ _ _ (by omega) (by omega) (by omega) (ch_in_step (ch_ok ht _ _) hIJ (by omega) hin)
set_option maxHeartbeats 1000000 in
theorem c_apply_out (ht : tt_ok p N T) (hb : tt_br p N T br) (hn : n = N) {f g : Nat → Int} (hf : ∀ k, k < N → 0 ≤ f k ∧ f k ≤ 2147483647) (hg : ∀ k, k < N → 0 ≤ g k ∧ g k ≤ 2147483647)
    (hQ : ∀ br' dr', tt_br p N (ch_T p N T (fun k => nn_dg p (f k)) (fun k => nn_dg p (g k))) br' → Q none (w_Ch p n br' (.inl p) (.inl n) dr' f g)) :
    ∀ (m I : Nat) (i : Int) (d1 d2 : pj_V) (dr : Nat → Int), I + m = N → i = I → ch_in p N (ch_T p N T (fun k => nn_dg p (f k)) (fun k => nn_dg p (g k))) I (I + 1) dr →
      pj_WP X m_Change_apply 23 [.inr 0, .inl i, d1, d2] [] (w_Ch p n br (.inl p) (.inl n) dr f g) Q := by
  obtain ⟨hp, h1N, hN, hT, -⟩ := id ht
  intro m
  induction m with
  | zero =>
    intro I i d1 d2 dr hI hi hin
    refine wp_b rfl (by omega) (fun c => ?_) (fun c => absurd c (by omega))
    refine wp_c rfl (by omega) [1, 2, 3, 4] (c_copyFrom ?_) rfl rfl rfl rfl
    refine wp_r rfl (by omega) ?_
    rw [show I = N by omega] at hin
    refine hQ _ _ (fun a b ha hb5 => ?_)
    rw [← ch_in_end (ch_ok ht _ _) hin a b ha hb5]
    unfold va_cpy
    rw [if_pos (by omega)]
    exact congrArg dr (by omega)
  | succ m ih =>
    intro I i d1 d2 dr hI hi hin
    refine wp_b rfl (by omega) (fun c => absurd c (by omega)) (fun c => ?_)
    refine wp_g rfl (by omega) ?_
    refine c_apply_in ht hb hn hf hg (by omega) hi (fun dr' j d h' => ?_) (N - (I + 1)) (I + 1) _ _ _ (by omega) (by omega) (by omega) hin
    refine wp_g rfl (by omega) ?_
    exact ih (I + 1) _ _ _ _ (by omega) (by omega) (ch_in_row h')
/-- apply() -/
theorem c_apply (ht : tt_ok p N T) (hb : tt_br p N T br) (hn : n = N) {f g dr : Nat → Int} (hf : ∀ k, k < N → 0 ≤ f k ∧ f k ≤ 2147483647) (hg : ∀ k, k < N → 0 ≤ g k ∧ g k ≤ 2147483647)
    (hQ : ∀ br' dr', tt_br p N (ch_T p N T (fun k => nn_dg p (f k)) (fun k => nn_dg p (g k))) br' → Q none (w_Ch p n br' (.inl p) (.inl n) dr' f g)) :
    pj_ci X m_Change_apply [.inr 0] (w_Ch p n br v_u v_u dr f g) Q := by
  refine wp_c rfl (by omega) [3, 4] (c_Tbegin (p' := p) (n' := n) ?_) rfl rfl rfl rfl
  refine wp_g rfl (by omega) ?_
  refine c_apply_out ht hb hn hf hg hQ N 0 _ _ _ _ (by omega) (by omega) (fun a b ha hb5 => ?_)
  rw [if_pos (by omega), if_neg]
  unfold ch_d
  omega
end CHANGE
end
section
/-! Change: add, scale, exchange -/
section CHANGE2
variable {X : pj_X} {Q : pj_Q} {p n : Int} {N : Nat} {T : Nat → Nat → Nat → Int} {br : Nat → Int}
theorem ch_T_congr {F F' G G' : Nat → ln_V} (hF : ∀ k, k < N → ln_eq p N (F k) (F' k)) (hG : ∀ k, k < N → ln_eq p N (G k) (G' k)) : ch_T p N T F G = ch_T p N T F' G' := by
  funext i j c
  unfold ch_T
  by_cases h : i < N ∧ j < N ∧ c < N
  · rw [if_pos h, if_pos h]
    refine nn_eq_iff.mp (nn_eq_sm N (fun k hk => ?_))
    exact nn_eq_mul (tt_bk_congr (hF i h.1) (hF j h.2.1) k) (hG k hk c h.2.2)
  · rw [if_neg h, if_neg h]
/-- the basis with one vector put anew -/
def ch_u (I : Nat) (x : ln_V) (k : Nat) : ln_V := if k = I then x else ln_e k
/-- the basis with two vectors exchanged -/
def ch_x (I J k : Nat) : ln_V := if k = J then ln_e I else if k = I then ln_e J else ln_e k
theorem ch_plus (hp : nn_p p) (I J : Nat) (a : Int) : ln_eq p N (nn_dg p (nn_plus p N (p ^ I) (p ^ J) a)) (fun c => ln_e I c + a * ln_e J c) := by
  have hp1 := (nn_p_pos hp).1
  intro c hc
  have h : nn_dg p (nn_plus p N (p ^ I) (p ^ J) a) c = (nn_dg p (p ^ I) c + a * nn_dg p (p ^ J) c) % p := nn_dg_nm hp1 N (f := fun k => (nn_dg p (p ^ I) k + a * nn_dg p (p ^ J) k) % p) (fun k _ => ⟨Int.emod_nonneg _ (by omega), Int.emod_lt_of_pos _ hp1⟩) c hc
  rw [h, nn_dg_pw hp, nn_dg_pw hp]
  exact nn_eq_mod p _
theorem ch_f1 (hp : nn_p p) {f : Nat → Int} {a : Int} {I : Nat} {x : ln_V} (ha : ln_eq p N (nn_dg p a) x) : ∀ k, k < N → ln_eq p N (nn_dg p (pj_up (fun k => if k < N then p ^ k else f k) I a k)) (ch_u I x k) := by
  intro k hk
  unfold pj_up ch_u
  by_cases h : k = I
  · rw [if_pos h, if_pos h]
    exact ha
  · rw [if_neg h, if_neg h]
    simp only [if_pos hk]
    intro c _
    rw [nn_dg_pw hp]
    exact nn_eq_rfl p _
theorem ch_fr (hp : nn_p p) (hN : N ≤ 5) {f : Nat → Int} {a : Int} {I : Nat} (ha : 0 ≤ a ∧ a ≤ 2147483647) : ∀ k, k < N → 0 ≤ pj_up (fun k => if k < N then p ^ k else f k) I a k ∧ pj_up (fun k => if k < N then p ^ k else f k) I a k ≤ 2147483647 := by
  intro k hk
  unfold pj_up
  by_cases h : k = I
  · rw [if_pos h]
    exact ha
  · rw [if_neg h]
    simp only [if_pos hk]
    have := nn_pw1 (nn_p_pos hp).1 k
    have := nn_pwle hp k (by omega)
    omega
set_option maxHeartbeats 1000000 in
/-- add(i, j, c) -/
theorem c_Cadd (ht : tt_ok p N T) (hb : tt_br p N T br) (hn : n = N) {f g dr : Nat → Int} {i j a : Int} {I J : Nat} (hi : i = I) (hj : j = J) (hI : I < N) (hJ : J < N) (ha : 1 ≤ a ∧ a < p)
    (hQ : ∀ br' dr' f' g', tt_br p N (ch_T p N T (ch_u I (fun c => ln_e I c + a * ln_e J c)) (ch_u I (fun c => ln_e I c + (-a) * ln_e J c))) br' → Q none (w_Ch p n br' (.inl p) (.inl n) dr' f' g')) :
    pj_ci X m_Change_add [.inr 0, .inl i, .inl j, .inl a] (w_Ch p n br v_u v_u dr f g) Q := by
  obtain ⟨hp, h1N, hN, hT, -⟩ := id ht
  obtain ⟨hp1, hp2, hp3⟩ := nn_p_pos hp
  have pw : ∀ A : Nat, A < N → 0 ≤ p ^ A ∧ p ^ A ≤ 2147483647 := fun A hA => by
    have := nn_pw1 hp1 A
    have := nn_pwle hp A (by omega)
    omega
  have rp : ∀ b : Int, 0 ≤ nn_plus p N (p ^ I) (p ^ J) b ∧ nn_plus p N (p ^ I) (p ^ J) b ≤ 2147483647 := fun b => tt_num hp hN
  refine wp_c rfl (by omega) [0, 1, 5, 6] (c_Cbegin hp hN hn ?_) rfl rfl rfl rfl
  refine wp_h (w_Ch p n br v_u v_u dr (fun k => if k < N then p ^ k else f k) (fun k => if k < N then p ^ k else g k)) rfl ?_
  refine wp_c rfl (by omega) [1] (c_power (E := I) (by omega) hi ?_) rfl rfl rfl rfl
  refine wp_c rfl (by omega) [1] (c_power (E := J) (by omega) hj ?_) rfl rfl rfl rfl
  refine wp_h (w_Ch p n br v_u v_u dr (fun k => if k < N then p ^ k else f k) (fun k => if k < N then p ^ k else g k)) rfl ?_
  refine wp_c rfl (by omega) [1] (c_plus hp hN hn (pw I hI) (pw J hJ) (by unfold pj_rg; omega) ?_) rfl rfl rfl rfl
  refine wp_c rfl (by omega) [5] (c_put (I := I) (by omega) hi (by omega) ?_) rfl rfl rfl rfl
  refine wp_h (w_Ch p n br v_u v_u dr (pj_up (fun k => if k < N then p ^ k else f k) I (nn_plus p N (p ^ I) (p ^ J) a)) (fun k => if k < N then p ^ k else g k)) rfl ?_
  refine wp_c rfl (by omega) [1] (c_power (E := I) (by omega) hi ?_) rfl rfl rfl rfl
  refine wp_c rfl (by omega) [1] (c_power (E := J) (by omega) hj ?_) rfl rfl rfl rfl
  refine wp_h (w_Ch p n br v_u v_u dr (pj_up (fun k => if k < N then p ^ k else f k) I (nn_plus p N (p ^ I) (p ^ J) a)) (fun k => if k < N then p ^ k else g k)) rfl ?_
  refine wp_c rfl (by omega) [1] (c_plus hp hN hn (pw I hI) (pw J hJ) (by unfold pj_rg; omega) ?_) rfl rfl rfl rfl
  refine wp_c rfl (by omega) [6] (c_put (I := I) (by omega) hi (by omega) ?_) rfl rfl rfl rfl
  refine wp_h (w_Ch p n br v_u v_u dr (pj_up (fun k => if k < N then p ^ k else f k) I (nn_plus p N (p ^ I) (p ^ J) a)) (pj_up (fun k => if k < N then p ^ k else g k) I (nn_plus p N (p ^ I) (p ^ J) (-a)))) rfl ?_
  refine wp_c rfl (by omega) [0, 1, 2, 3, 4, 5, 6] (c_apply ht hb hn (ch_fr hp hN (rp a)) (ch_fr hp hN (rp (-a))) (fun br' dr' hb' => ?_)) rfl rfl rfl rfl
  refine wp_r rfl (by omega) ?_
  rw [ch_T_congr (ch_f1 hp (ch_plus hp I J a)) (ch_f1 hp (ch_plus hp I J (-a)))] at hb'
  exact hQ _ _ _ _ hb'
theorem nn_dg_cpw (hp : nn_p p) {a : Int} (ha : 0 ≤ a ∧ a < p) : ∀ (i k : Nat), nn_dg p (a * p ^ i) k = a * ln_e i k
  | 0, 0 => by
    show a * p ^ 0 % p = a * 1
    rw [Int.pow_zero, Int.mul_one, Int.emod_eq_of_lt ha.1 ha.2]
  | 0, k + 1 => by
    show nn_dg p (a * p ^ 0 / p) k = a * 0
    rw [Int.pow_zero, Int.mul_one, Int.ediv_eq_zero_of_lt ha.1 ha.2, nn_dg_0 (nn_p_pos hp).1, Int.mul_zero]
  | i + 1, 0 => by
    show a * p ^ (i + 1) % p = a * 0
    rw [Int.pow_succ, ← Int.mul_assoc, Int.mul_emod_left, Int.mul_zero]
  | i + 1, k + 1 => by
    show nn_dg p (a * p ^ (i + 1) / p) k = a * ln_e (i + 1) (k + 1)
    have := (nn_p_pos hp).2.1
    rw [Int.pow_succ, ← Int.mul_assoc, Int.mul_ediv_cancel _ (by omega), nn_dg_cpw hp ha i k]
    unfold ln_e
    by_cases h : k = i
    · rw [if_pos h, if_pos (by omega)]
    · rw [if_neg h, if_neg (by omega)]
theorem ch_cpw (hp : nn_p p) (hN : N ≤ 5) {I : Nat} (hI : I < N) {a : Int} (ha : 1 ≤ a ∧ a < p) : 0 ≤ a * p ^ I ∧ a * p ^ I ≤ 2147483647 := by
  have h1 := nn_pw1 (nn_p_pos hp).1 I
  have h2 := nn_pwle hp I (by omega)
  have h3 := (nn_p_pos hp).2.2
  have h4 : 0 ≤ a * p ^ I := Int.mul_nonneg (by omega) (by omega)
  have h5 : a * p ^ I ≤ 7 * 16807 := Int.mul_le_mul (by omega) h2 (by omega) (by omega)
  omega
set_option maxHeartbeats 1000000 in
/-- scale(i, c) -/
theorem c_Cscale (ht : tt_ok p N T) (hb : tt_br p N T br) (hn : n = N) {f g dr : Nat → Int} {i a : Int} {I : Nat} (hi : i = I) (hI : I < N) (ha : 1 ≤ a ∧ a < p)
    (hQ : ∀ br' dr' f' g' y, 1 ≤ y → y < p → y * a % p = 1 → tt_br p N (ch_T p N T (ch_u I (fun c => a * ln_e I c)) (ch_u I (fun c => y * ln_e I c))) br' → Q none (w_Ch p n br' (.inl p) (.inl n) dr' f' g')) :
    pj_ci X m_Change_scale [.inr 0, .inl i, .inl a] (w_Ch p n br v_u v_u dr f g) Q := by
  obtain ⟨hp, h1N, hN, hT, -⟩ := id ht
  obtain ⟨hp1, hp2, hp3⟩ := nn_p_pos hp
  have hr := ch_cpw hp hN hI ha
  refine wp_c rfl (by omega) [0, 1, 5, 6] (c_Cbegin hp hN hn ?_) rfl rfl rfl rfl
  refine wp_h (w_Ch p n br v_u v_u dr (fun k => if k < N then p ^ k else f k) (fun k => if k < N then p ^ k else g k)) rfl ?_
  refine wp_c rfl (by omega) [1] (c_power (E := I) (by omega) hi ?_) rfl rfl rfl rfl
  refine wp_c rfl (by omega) [5] (c_put (I := I) (by omega) hi (by omega) ?_) rfl rfl rfl rfl
  refine wp_h (w_Ch p n br v_u v_u dr (pj_up (fun k => if k < N then p ^ k else f k) I (a * p ^ I)) (fun k => if k < N then p ^ k else g k)) rfl ?_
  refine wp_c rfl (by omega) [] (c_inverse hp ha (fun y y1 y2 y3 => ?_)) rfl rfl rfl rfl
  have hr2 := ch_cpw hp hN hI (a := y) ⟨y1, y2⟩
  refine wp_h (w_Ch p n br v_u v_u dr (pj_up (fun k => if k < N then p ^ k else f k) I (a * p ^ I)) (fun k => if k < N then p ^ k else g k)) rfl ?_
  refine wp_c rfl (by omega) [1] (c_power (E := I) (by omega) hi ?_) rfl rfl rfl rfl
  refine wp_c rfl (by omega) [6] (c_put (I := I) (by omega) hi (by omega) ?_) rfl rfl rfl rfl
  refine wp_h (w_Ch p n br v_u v_u dr (pj_up (fun k => if k < N then p ^ k else f k) I (a * p ^ I)) (pj_up (fun k => if k < N then p ^ k else g k) I (y * p ^ I))) rfl ?_
  refine wp_c rfl (by omega) [0, 1, 2, 3, 4, 5, 6] (c_apply ht hb hn (ch_fr hp hN hr) (ch_fr hp hN hr2) (fun br' dr' hb' => ?_)) rfl rfl rfl rfl
  refine wp_r rfl (by omega) ?_
  have q1 : ∀ z : Int, 1 ≤ z ∧ z < p → ln_eq p N (nn_dg p (z * p ^ I)) (fun c => z * ln_e I c) := fun z hz c _ => by
    rw [nn_dg_cpw hp ⟨by omega, hz.2⟩]
    exact nn_eq_rfl p _
  rw [ch_T_congr (ch_f1 hp (q1 a ha)) (ch_f1 hp (q1 y ⟨y1, y2⟩))] at hb'
  exact hQ _ _ _ _ y y1 y2 y3 hb'
theorem ch_f2 (hp : nn_p p) {f : Nat → Int} {I J : Nat} : ∀ k, k < N → ln_eq p N (nn_dg p (pj_up (pj_up (fun k => if k < N then p ^ k else f k) I (p ^ J)) J (p ^ I) k)) (ch_x I J k) := by
  intro k hk c _
  unfold pj_up ch_x
  by_cases h : k = J
  · rw [if_pos h, if_pos h, nn_dg_pw hp]
    exact nn_eq_rfl p _
  · rw [if_neg h, if_neg h]
    by_cases h2 : k = I
    · simp only [if_pos h2]
      rw [nn_dg_pw hp]
      exact nn_eq_rfl p _
    · simp only [if_neg h2, if_pos hk]
      rw [nn_dg_pw hp]
      exact nn_eq_rfl p _
theorem ch_fr2 (hp : nn_p p) (hN : N ≤ 5) {f : Nat → Int} {I J : Nat} (hI : I < N) (hJ : J < N) : ∀ k, k < N → 0 ≤ pj_up (pj_up (fun k => if k < N then p ^ k else f k) I (p ^ J)) J (p ^ I) k ∧ pj_up (pj_up (fun k => if k < N then p ^ k else f k) I (p ^ J)) J (p ^ I) k ≤ 2147483647 := by
  intro k hk
  have pw : ∀ A : Nat, A < N → 0 ≤ p ^ A ∧ p ^ A ≤ 2147483647 := fun A hA => by
    have := nn_pw1 (nn_p_pos hp).1 A
    have := nn_pwle hp A (by omega)
    omega
  unfold pj_up
  by_cases h : k = J
  · simp only [if_pos h]
    exact pw I hI
  · simp only [if_neg h]
    by_cases h2 : k = I
    · simp only [if_pos h2]
      exact pw J hJ
    · simp only [if_neg h2, if_pos hk]
      exact pw k hk
set_option maxHeartbeats 1000000 in
/-- exchange(i, j) -/
theorem c_Cexchange (ht : tt_ok p N T) (hb : tt_br p N T br) (hn : n = N) {f g dr : Nat → Int} {i j : Int} {I J : Nat} (hi : i = I) (hj : j = J) (hI : I < N) (hJ : J < N)
    (hQ : ∀ br' dr' f' g', tt_br p N (ch_T p N T (ch_x I J) (ch_x I J)) br' → Q none (w_Ch p n br' (.inl p) (.inl n) dr' f' g')) :
    pj_ci X m_Change_exchange [.inr 0, .inl i, .inl j] (w_Ch p n br v_u v_u dr f g) Q := by
  obtain ⟨hp, h1N, hN, hT, -⟩ := id ht
  refine wp_c rfl (by omega) [0, 1, 5, 6] (c_Cbegin hp hN hn ?_) rfl rfl rfl rfl
  refine wp_h (w_Ch p n br v_u v_u dr (fun k => if k < N then p ^ k else f k) (fun k => if k < N then p ^ k else g k)) rfl ?_
  refine wp_c rfl (by omega) [1] (c_power (E := J) (by omega) hj ?_) rfl rfl rfl rfl
  refine wp_c rfl (by omega) [5] (c_put (I := I) (by omega) hi (by omega) ?_) rfl rfl rfl rfl
  refine wp_h (w_Ch p n br v_u v_u dr (pj_up (fun k => if k < N then p ^ k else f k) I (p ^ J)) (fun k => if k < N then p ^ k else g k)) rfl ?_
  refine wp_c rfl (by omega) [1] (c_power (E := I) (by omega) hi ?_) rfl rfl rfl rfl
  refine wp_c rfl (by omega) [5] (c_put (I := J) (by omega) hj (by omega) ?_) rfl rfl rfl rfl
  refine wp_h (w_Ch p n br v_u v_u dr (pj_up (pj_up (fun k => if k < N then p ^ k else f k) I (p ^ J)) J (p ^ I)) (fun k => if k < N then p ^ k else g k)) rfl ?_
  refine wp_c rfl (by omega) [1] (c_power (E := J) (by omega) hj ?_) rfl rfl rfl rfl
  refine wp_c rfl (by omega) [6] (c_put (I := I) (by omega) hi (by omega) ?_) rfl rfl rfl rfl
  refine wp_h (w_Ch p n br v_u v_u dr (pj_up (pj_up (fun k => if k < N then p ^ k else f k) I (p ^ J)) J (p ^ I)) (pj_up (fun k => if k < N then p ^ k else g k) I (p ^ J))) rfl ?_
  refine wp_c rfl (by omega) [1] (c_power (E := I) (by omega) hi ?_) rfl rfl rfl rfl
  refine wp_c rfl (by omega) [6] (c_put (I := J) (by omega) hj (by omega) ?_) rfl rfl rfl rfl
  refine wp_h (w_Ch p n br v_u v_u dr (pj_up (pj_up (fun k => if k < N then p ^ k else f k) I (p ^ J)) J (p ^ I)) (pj_up (pj_up (fun k => if k < N then p ^ k else g k) I (p ^ J)) J (p ^ I))) rfl ?_
  refine wp_c rfl (by omega) [0, 1, 2, 3, 4, 5, 6] (c_apply ht hb hn (ch_fr2 hp hN hI hJ) (ch_fr2 hp hN hI hJ) (fun br' dr' hb' => ?_)) rfl rfl rfl rfl
  refine wp_r rfl (by omega) ?_
  rw [ch_T_congr (ch_f2 hp) (ch_f2 hp)] at hb'
  exact hQ _ _ _ _ hb'
end CHANGE2
end
section
/-! Maps: trace, nilpotency -/
section MAPS
variable {X : pj_X} {Q : pj_Q} {p n : Int} {N : Nat} {T : Nat → Nat → Nat → Int} {br : Nat → Int}
abbrev c_Mp (t a b : pj_V) : pj_C := .inr (1, [t, a, b])
abbrev w_M (p n : Int) (br : Nat → Int) : List pj_C := [c_Mp (.inr 1) v_u v_u, c_T (.inl p) (.inl n) (.inr 2), c_A 25 br]
/-- a diagonal entry of the product of two adjoint matrices -/
def tr_t (p : Int) (N : Nat) (T : Nat → Nat → Nat → Int) (U V : ln_V) (j : Nat) : Int := tt_bk p N T U (tt_bk p N T V (ln_e j)) j
def tr_v (p : Int) (N : Nat) (T : Nat → Nat → Nat → Int) (U V : ln_V) : Int := nn_sm N (tr_t p N T U V) % p
theorem tt_bk_red (hp : 0 < p) {u u' v v' : ln_V} (hu : ln_eq p N u u') (hv : ln_eq p N v v') (k : Nat) : tt_bk p N T u v k = tt_bk p N T u' v' k := nn_eq_red (tt_bk_congr hu hv k) (tt_bk_rg hp _ _ _) (tt_bk_rg hp _ _ _)
theorem ln_eq_nm (hp : 0 < p) {f : Nat → Int} (hf : ∀ c, c < N → 0 ≤ f c ∧ f c < p) : ln_eq p N (nn_dg p (nn_nm p N f)) f := fun c hc => by
  rw [nn_dg_nm hp N hf c hc]
  exact nn_eq_rfl p _
theorem ln_eq_pw (hp : nn_p p) (j : Nat) : ln_eq p N (nn_dg p (p ^ j)) (ln_e j) := fun c _ => by
  rw [nn_dg_pw hp]
  exact nn_eq_rfl p _
theorem tr_rg (hp : 0 < p) (hp7 : p ≤ 7) (U V : ln_V) : ∀ J : Nat, 0 ≤ nn_sm J (tr_t p N T U V) ∧ nn_sm J (tr_t p N T U V) ≤ 7 * J
  | 0 => ⟨Int.le_refl 0, Int.le_refl 0⟩
  | J + 1 => by
    have h := tr_rg hp hp7 U V J
    have h2 := tt_bk_rg (N := N) (T := T) hp U (tt_bk p N T V (ln_e J)) J
    show 0 ≤ nn_sm J (tr_t p N T U V) + tt_bk p N T U (tt_bk p N T V (ln_e J)) J ∧ nn_sm J (tr_t p N T U V) + tt_bk p N T U (tt_bk p N T V (ln_e J)) J ≤ _
    omega
theorem c_trace_loop (ht : tt_ok p N T) (hb : tt_br p N T br) (hn : n = N) {u v : Int} (hu : 0 ≤ u ∧ u ≤ 2147483647) (hv : 0 ≤ v ∧ v ≤ 2147483647) (hQ : Q (some (.inl (tr_v p N T (nn_dg p u) (nn_dg p v)))) (w_M p n br)) :
    ∀ (m J : Nat) (s j : Int) (d : pj_V), J + m = N → j = J → s = nn_sm J (tr_t p N T (nn_dg p u) (nn_dg p v)) → pj_WP X m_Maps_trace 5 [.inr 0, .inl u, .inl v, .inl s, .inl j, d] [] (w_M p n br) Q := by
  obtain ⟨hp, h1N, hN, hT, -⟩ := id ht
  obtain ⟨hp1, hp2, hp3⟩ := nn_p_pos hp
  intro m
  induction m with
  | zero =>
    intro J s j d hJ hj hs
    have hr := tr_rg (N := N) (T := T) hp1 hp3 (nn_dg p u) (nn_dg p v) J
    rw [← hs] at hr
    refine wp_b rfl (by omega) (fun c => ?_) (fun c => absurd c (by omega))
    refine wp_c rfl (by omega) [1] (c_reduce hp (by unfold pj_rg; omega) ?_) rfl rfl rfl rfl
    refine wp_r rfl (by omega) ?_
    rw [hs, show J = N by omega]
    exact hQ
  | succ m ih =>
    intro J s j d hJ hj hs
    have hr := tr_rg (N := N) (T := T) hp1 hp3 (nn_dg p u) (nn_dg p v) J
    rw [← hs] at hr
    have pw : 0 ≤ p ^ J ∧ p ^ J ≤ 2147483647 := by
      have := nn_pw1 hp1 J
      have := nn_pwle hp J (by omega)
      omega
    have rb : ∀ U V : ln_V, 0 ≤ nn_nm p N (tt_bk p N T U V) ∧ nn_nm p N (tt_bk p N T U V) ≤ 2147483647 := fun U V => jc_rg hp hN (fun c _ => tt_bk_rg hp1 _ _ _)
    refine wp_b rfl (by omega) (fun c => absurd c (by omega)) (fun c => ?_)
    refine wp_c rfl (by omega) [1] (c_power (E := J) (by omega) hj ?_) rfl rfl rfl rfl
    refine wp_c rfl (by omega) [1, 2] (c_product ht hb hn hv pw ?_) rfl rfl rfl rfl
    refine wp_h (w_M p n br) rfl ?_
    refine wp_c rfl (by omega) [1, 2] (c_product ht hb hn hu (rb _ _) ?_) rfl rfl rfl rfl
    refine wp_c rfl (by omega) [1] (c_coord (K := J) hp (rb _ _) (by omega) hj ?_) rfl rfl rfl rfl
    have e : nn_dg p (nn_nm p N (tt_bk p N T (nn_dg p u) (nn_dg p (nn_nm p N (tt_bk p N T (nn_dg p v) (nn_dg p (p ^ J))))))) J = tr_t p N T (nn_dg p u) (nn_dg p v) J := by
      rw [nn_dg_nm hp1 N (fun c _ => tt_bk_rg hp1 _ _ _) J (by omega)]
      refine tt_bk_red hp1 (fun c _ => nn_eq_rfl p _) (fun c hc => ?_) J
      rw [nn_dg_nm hp1 N (fun c _ => tt_bk_rg hp1 _ _ _) c hc]
      exact tt_bk_congr (fun c _ => nn_eq_rfl p _) (ln_eq_pw hp J) c
    have hr2 := tr_rg (N := N) (T := T) hp1 hp3 (nn_dg p u) (nn_dg p v) (J + 1)
    have es : nn_sm (J + 1) (tr_t p N T (nn_dg p u) (nn_dg p v)) = s + tr_t p N T (nn_dg p u) (nn_dg p v) J := by
      rw [hs]
      rfl
    rw [es] at hr2
    rw [e]
    refine wp_h (w_M p n br) rfl ?_
    refine wp_g rfl (by omega) ?_
    exact ih (J + 1) _ _ _ (by omega) (by omega) es.symm
/-- trace(u, v) -/
theorem c_trace (ht : tt_ok p N T) (hb : tt_br p N T br) (hn : n = N) {u v : Int} (hu : 0 ≤ u ∧ u ≤ 2147483647) (hv : 0 ≤ v ∧ v ≤ 2147483647) (hQ : Q (some (.inl (tr_v p N T (nn_dg p u) (nn_dg p v)))) (w_M p n br)) :
    pj_ci X m_Maps_trace [.inr 0, .inl u, .inl v] (w_M p n br) Q := by
  refine wp_g rfl (by omega) ?_
  exact c_trace_loop ht hb hn hu hv hQ N 0 _ _ _ (by omega) (by omega) rfl
end MAPS
end
section
/-! Maps.radicalSize -/
section RAD
variable {X : pj_X} {Q : pj_Q} {p n : Int} {N : Nat} {T : Nat → Nat → Nat → Int} {br : Nat → Int}
/-- a row of the Killing form -/
def kl_r (p : Int) (N : Nat) (T : Nat → Nat → Nat → Int) (i j : Nat) : Int := tr_v p N T (ln_e i) (ln_e j)
abbrev w_K (p n : Int) (br : Nat → Int) (s1 s2 s3 : pj_V) (f : Nat → Int) : List pj_C := [c_Mp (.inr 1) (.inr 3) v_u, c_T (.inl p) (.inl n) (.inr 2), c_A 25 br, c_S (.inl 5) (.inr 4) s1 s2 s3, c_A 30 f]
theorem kl_rg (hp : 0 < p) (i j : Nat) : 0 ≤ kl_r p N T i j ∧ kl_r p N T i j < p := ⟨Int.emod_nonneg _ (by omega), Int.emod_lt_of_pos _ hp⟩
def kl_in (p : Int) (N : Nat) (T : Nat → Nat → Nat → Int) (I J : Nat) (f0 f : Nat → Int) : Prop := (∀ r c, r < 5 → c < 5 → f (r * 5 + c) = f0 (r * 5 + c)) ∧ ∀ c, c < N → f (5 * 5 + c) = if c < J then kl_r p N T I c else 0
theorem c_rad_in (ht : tt_ok p N T) (hb : tt_br p N T br) (hn : n = N) {sz : Int} {f0 : Nat → Int} {I : Nat} {i : Int} (hI : I < N) (hi : i = I)
    (hQ : ∀ (f : Nat → Int) (j : pj_V), kl_in p N T I N f0 f → pj_WP X m_Maps_radicalSize 81 [.inr 0, .inl i, j] [] (w_K p n br (.inl p) (.inl n) (.inl sz) f) Q) :
    ∀ (m J : Nat) (j : Int) (f : Nat → Int), J + m = N → j = J → kl_in p N T I J f0 f → pj_WP X m_Maps_radicalSize 36 [.inr 0, .inl i, .inl j] [] (w_K p n br (.inl p) (.inl n) (.inl sz) f) Q := by
  obtain ⟨hp, h1N, hN, hT, -⟩ := id ht
  obtain ⟨hp1, hp2, hp3⟩ := nn_p_pos hp
  have pw : ∀ A : Nat, A < N → 0 ≤ p ^ A ∧ p ^ A ≤ 2147483647 := fun A hA => by
    have := nn_pw1 hp1 A
    have := nn_pwle hp A (by omega)
    omega
  intro m
  induction m with
  | zero =>
    intro J j f hJ hj hin
    refine wp_b rfl (by omega) (fun c => ?_) (fun c => absurd c (by omega))
    rw [show J = N by omega] at hin
    exact hQ _ _ hin
  | succ m ih =>
    intro J j f hJ hj hin
    have hk := kl_rg (N := N) (T := T) hp1 I J
    have h0 : f (5 * 5 + J) = 0 := by rw [hin.2 J (by omega), if_neg (by omega)]
    have e : ∀ A : Nat, nn_dg p (p ^ A) = ln_e A := fun A => funext fun k => nn_dg_pw hp A k
    refine wp_b rfl (by omega) (fun c => absurd c (by omega)) (fun c => ?_)
    refine wp_c rfl (by omega) [1] (c_power (E := I) (by omega) hi ?_) rfl rfl rfl rfl
    refine wp_c rfl (by omega) [1] (c_power (E := J) (by omega) hj ?_) rfl rfl rfl rfl
    refine wp_h (w_K p n br (.inl p) (.inl n) (.inl sz) f) rfl ?_
    refine wp_c rfl (by omega) [0, 1, 2] (c_trace ht hb hn (pw I hI) (pw J (by omega)) ?_) rfl rfl rfl rfl
    rw [e I, e J]
    refine wp_h (w_K p n br (.inl p) (.inl n) (.inl sz) f) rfl ?_
    refine wp_c rfl (by omega) [3, 4] (c_addIncoming (C := 5) (c0 := J) (W := N) (by omega) hp hn hN hj (by omega) (by rw [h0]; omega) (show -1000000 ≤ kl_r p N T I J ∧ kl_r p N T I J ≤ 1000000 by omega) ?_) rfl rfl rfl rfl
    refine wp_g rfl (by omega) ?_
    refine ih (J + 1) _ _ (by omega) (by omega) ⟨fun r c hr hc => ?_, fun c hc => ?_⟩
    · show pj_up f (5 * 5 + J) _ (r * 5 + c) = _
      rw [← hin.1 r c hr hc]
      exact if_neg (by omega)
    · show (if 5 * 5 + c = 5 * 5 + J then (f (5 * 5 + J) + kl_r p N T I J) % p else f (5 * 5 + c)) = _
      by_cases h : c = J
      · subst h
        rw [if_pos rfl, if_pos (by omega), h0, Int.zero_add, Int.emod_eq_of_lt hk.1 hk.2]
      · rw [if_neg (by omega), hin.2 c hc]
        by_cases h2 : c < J
        · rw [if_pos h2, if_pos (by omega)]
        · rw [if_neg h2, if_neg (by omega)]
theorem ln_ct_same {R R' : Nat → ln_V} : ∀ r : Nat, (∀ q, q < r → R' q q = R q q) → ln_ct R' r = ln_ct R r
  | 0, _ => rfl
  | r + 1, h => by
    show ln_ct R' r + _ = ln_ct R r + _
    rw [ln_ct_same r (fun q hq => h q (by omega)), h r (by omega)]
theorem c_rad_out (ht : tt_ok p N T) (hb : tt_br p N T br) (hn : n = N)
    (hQ : ∀ (f : Nat → Int) (sz : Int), sb_ok 5 N p f sz → (∀ K, ln_sub p N K → (ln_g N (sb_R 5 f) K ↔ ∀ i, i < N → K (kl_r p N T i))) → Q (some (.inl (n - sz))) (w_K p n br (.inl p) (.inl n) (.inl sz) f)) :
    ∀ (m I : Nat) (i : Int) (d : pj_V) (f : Nat → Int) (sz : Int), I + m = N → i = I → sb_ok 5 N p f sz → (∀ K, ln_sub p N K → (ln_g N (sb_R 5 f) K ↔ ∀ i, i < I → K (kl_r p N T i))) →
      pj_WP X m_Maps_radicalSize 23 [.inr 0, .inl i, d] [] (w_K p n br (.inl p) (.inl n) (.inl sz) f) Q := by
  obtain ⟨hp, h1N, hN, hT, -⟩ := id ht
  obtain ⟨hp1, hp2, hp3⟩ := nn_p_pos hp
  intro m
  induction m with
  | zero =>
    intro I i d f sz hI hi hok hg
    have hsz : 0 ≤ sz ∧ sz ≤ 5 := by
      have := hok.2.2
      have h2 := ln_ct_w (sb_R 5 f) N
      omega
    refine wp_b rfl (by omega) (fun c => ?_) (fun c => absurd c (by omega))
    refine wp_r rfl (by omega) ?_
    rw [show I = N by omega] at hg
    exact hQ f sz hok hg
  | succ m ih =>
    intro I i d f sz hI hi hok hg
    refine wp_b rfl (by omega) (fun c => absurd c (by omega)) (fun c => ?_)
    refine wp_g rfl (by omega) ?_
    refine c_rad_in ht hb hn (f0 := f) (by omega) hi (fun f1 j hin => ?_) N 0 _ _ (by omega) (by omega) ⟨fun _ _ _ _ => rfl, fun c hc => by rw [if_neg (by omega)]; exact hok.2.1 c hc⟩
    have hs : ∀ r c, r < N → c < N → sb_R 5 f1 r c = sb_R 5 f r c := fun r c hr hc => hin.1 r c (by omega) (by omega)
    have hvv : ∀ c, c < N → sb_v 5 f1 c = kl_r p N T I c := fun c hc => by
      show f1 (5 * 5 + c) = _
      rw [hin.2 c hc, if_pos hc]
    refine wp_c rfl (by omega) [3, 4] (c_take (C := 5) (W := N) (by omega) hp hn hN (ln_R_same hok.1 hs) (fun c hc => by rw [hvv c hc]; exact kl_rg hp1 I c) (fun f2 b hj hz => ?_)) rfl rfl rfl rfl
    refine wp_g rfl (by omega) ?_
    refine ih (I + 1) _ _ _ _ (by omega) (by omega) ⟨hj.1, hz, ?_⟩ (fun K hK => ?_)
    · rw [hj.2.2.1, hok.2.2, ln_ct_same N (fun q hq => hs q q hq hq)]
      cases b <;> simp
    · rw [hj.2.1 K hK, ln_g_same hK hs, hg K hK]
      constructor
      · intro h q hq
        by_cases h2 : q = I
        · rw [h2]
          exact hK.2.2.2 _ _ (fun c hc => by rw [hvv c hc]; exact nn_eq_rfl p _) h.2
        · exact h.1 q (by omega)
      · exact fun h => ⟨fun q hq => h q (by omega), hK.2.2.2 _ _ (fun c hc => by rw [hvv c hc]; exact nn_eq_rfl p _) (h I (by omega))⟩
/-- radicalSize() -/
theorem c_radical (ht : tt_ok p N T) (hb : tt_br p N T br) (hn : n = N) {f0 : Nat → Int}
    (hQ : ∀ (f : Nat → Int) (sz : Int), sb_ok 5 N p f sz → (∀ K, ln_sub p N K → (ln_g N (sb_R 5 f) K ↔ ∀ i, i < N → K (kl_r p N T i))) → Q (some (.inl (n - sz))) (w_K p n br (.inl p) (.inl n) (.inl sz) f)) :
    pj_ci X m_Maps_radicalSize [.inr 0] (w_K p n br v_u v_u v_u f0) Q := by
  obtain ⟨hp, h1N, hN, hT, -⟩ := id ht
  obtain ⟨hz1, hz2⟩ := sb_zero (C := 5) (W := N) (f := f0) (nn_p_pos hp).1 hN
  refine wp_c rfl (by omega) [3, 4] (c_Sbegin (C := 5) (W := N) (by omega) hn hN ?_) rfl rfl rfl rfl
  refine wp_g rfl (by omega) ?_
  refine c_rad_out ht hb hn hQ N 0 _ _ _ _ (by omega) (by omega) hz1 (fun K hK => ⟨fun _ i hi => absurd hi (by omega), fun _ r hr => hK.2.2.2 _ _ (fun c hc => by rw [hz2 r c hr hc]; exact nn_eq_rfl p 0) hK.1⟩)
end RAD
end
section
/-! Maps.derivationCount -/
section DER
variable {X : pj_X} {Q : pj_Q} {p n : Int} {N : Nat} {T : Nat → Nat → Nat → Int} {br : Nat → Int}
theorem dv_ix {R A N : Nat} (hR : R < N) (hA : A < N) : R * N + A < N * N := by
  have h1 : (R + 1) * N ≤ N * N := Nat.mul_le_mul_right N (by omega)
  rw [Nat.add_mul] at h1
  omega
theorem dv_25 {N : Nat} (hN : N ≤ 5) : N * N ≤ 25 := Nat.mul_le_mul hN hN
/-- unknown(row, column) -/
theorem c_unknown {r a : Int} {R A : Nat} (hN : N ≤ 5) (hn : n = N) (hr : r = R) (ha : a = A) (hR : R < N) (hA : A < N) (hQ : Q (some (.inl ((R * N + A : Nat) : Int))) [c_Mp (.inr 1) v_u v_u, c_T v_u (.inl n) v_u]) :
    pj_ci X m_Maps_unknown [.inr 0, .inl r, .inl a] [c_Mp (.inr 1) v_u v_u, c_T v_u (.inl n) v_u] Q := by
  have h1 := dv_ix hR hA
  have h2 := dv_25 hN
  have e : r * n = ((R * N : Nat) : Int) := by rw [hr, hn]; simp
  refine wp_r rfl (by omega) ?_
  rw [show ((R * N + A : Nat) : Int) = r * n + a by omega] at hQ
  exact hQ
/-- the equation of a coordinate of D([e_i, e_j]), its first A columns -/
def dv_p (N : Nat) (T : Nat → Nat → Nat → Int) (i j r A c : Nat) : Int := nn_sm A (fun a => ((if c = r * N + a then T i j a else 0) + (if c = a * N + i then -(T a j r) else 0)) + (if c = a * N + j then -(T i a r) else 0))
def dv_e (p : Int) (N : Nat) (T : Nat → Nat → Nat → Int) (i j r c : Nat) : Int := dv_p N T i j r N c % p
abbrev w_Dv (p n : Int) (br : Nat → Int) (s1 s2 s3 : pj_V) (f : Nat → Int) : List pj_C := [c_Mp (.inr 1) v_u (.inr 3), c_T (.inl p) (.inl n) (.inr 2), c_A 25 br, c_S (.inl 25) (.inr 4) s1 s2 s3, c_A 650 f]
def dv_in (p : Int) (N : Nat) (g : Nat → Int) (f0 f : Nat → Int) : Prop := (∀ r c, r < 25 → c < 25 → f (r * 25 + c) = f0 (r * 25 + c)) ∧ ∀ c, c < N * N → f (25 * 25 + c) = g c % p
theorem dv_in_up (hN : N ≤ 5) {g f0 f : Nat → Int} {c0 : Nat} {x : Int} (h : dv_in p N g f0 f) (hc : c0 < N * N) : dv_in p N (fun c => g c + if c = c0 then x else 0) f0 (pj_up f (25 * 25 + c0) ((f (25 * 25 + c0) + x) % p)) := by
  have h2 := dv_25 hN
  refine ⟨fun r c hr hc2 => ?_, fun c hc2 => ?_⟩
  · rw [← h.1 r c hr hc2]
    exact if_neg (by omega)
  · show (if 25 * 25 + c = 25 * 25 + c0 then (f (25 * 25 + c0) + x) % p else f (25 * 25 + c)) = (g c + if c = c0 then x else 0) % p
    by_cases e : c = c0
    · subst e
      rw [if_pos rfl, if_pos rfl, h.2 c hc2, Int.emod_add_emod]
    · rw [if_neg (by omega), if_neg e, h.2 c hc2, Int.add_zero]
set_option maxHeartbeats 1000000 in
theorem c_rule_loop (ht : tt_ok p N T) (hb : tt_br p N T br) (hn : n = N) {sz : Int} {f0 : Nat → Int} {I J R : Nat} {i j r : Int} (hI : I < N) (hJ : J < N) (hR : R < N) (hi : i = I) (hj : j = J) (hr : r = R)
    (hQ : ∀ (f : Nat → Int) (a : pj_V), dv_in p N (dv_p N T I J R N) f0 f → pj_WP X m_Maps_addDerivationRule 119 [.inr 0, .inl i, .inl j, .inl r, a] [] (w_Dv p n br (.inl p) (.inl ((N * N : Nat) : Int)) (.inl sz) f) Q) :
    ∀ (m A : Nat) (a : Int) (f : Nat → Int), A + m = N → a = A → dv_in p N (dv_p N T I J R A) f0 f → pj_WP X m_Maps_addDerivationRule 3 [.inr 0, .inl i, .inl j, .inl r, .inl a] [] (w_Dv p n br (.inl p) (.inl ((N * N : Nat) : Int)) (.inl sz) f) Q := by
  obtain ⟨hp, h1N, hN, hT, -⟩ := id ht
  obtain ⟨hp1, hp2, hp3⟩ := nn_p_pos hp
  have h25 := dv_25 hN
  intro m
  induction m with
  | zero =>
    intro A a f hA ha hin
    refine wp_b rfl (by omega) (fun c => ?_) (fun c => absurd c (by omega))
    rw [show A = N by omega] at hin
    exact hQ _ _ hin
  | succ m ih =>
    intro A a f hA ha hin
    have rg : ∀ (g f : Nat → Int) (c : Nat), dv_in p N g f0 f → c < N * N → 0 ≤ f (25 * 25 + c) ∧ f (25 * 25 + c) < p := fun g f c h hc => by
      rw [h.2 c hc]
      exact ⟨Int.emod_nonneg _ (by omega), Int.emod_lt_of_pos _ hp1⟩
    have x1 := dv_ix hR (show A < N by omega)
    have x2 := dv_ix (show A < N by omega) hI
    have x3 := dv_ix (show A < N by omega) hJ
    have t1 := hT I J A
    have t2 := hT A J R
    have t3 := hT I A R
    have b1 := tt_brn ht hb (i := I) (j := J) (by omega) (by omega)
    have b2 := tt_brn ht hb (i := A) (j := J) (by omega) (by omega)
    have b3 := tt_brn ht hb (i := I) (j := A) (by omega) (by omega)
    refine wp_b rfl (by omega) (fun c => absurd c (by omega)) (fun c => ?_)
    refine wp_c rfl (by omega) [0, 1] (c_unknown (R := R) (A := A) hN hn hr ha hR (by omega) ?_) rfl rfl rfl rfl
    refine wp_c rfl (by omega) [1, 2] (c_entry (I := I) (J := J) hi hj (by omega) (by omega) ?_) rfl rfl rfl rfl
    refine wp_h (w_Dv p n br (.inl p) (.inl ((N * N : Nat) : Int)) (.inl sz) f) rfl ?_
    refine wp_c rfl (by omega) [1] (c_coord (K := A) hp b1.1 (by omega) ha ?_) rfl rfl rfl rfl
    rw [b1.2 A (by omega)]
    refine wp_c rfl (by omega) [3, 4] (c_addIncoming (C := 25) (W := N * N) (c0 := R * N + A) (by omega) hp rfl h25 rfl x1 (rg _ _ _ hin x1) (by omega) ?_) rfl rfl rfl rfl
    have hin1 := dv_in_up hN (x := T I J A) hin x1
    revert hin1
    generalize pj_up f (25 * 25 + (R * N + A)) ((f (25 * 25 + (R * N + A)) + T I J A) % p) = f1
    intro hin1
    refine wp_h (w_Dv p n br (.inl p) (.inl ((N * N : Nat) : Int)) (.inl sz) f1) rfl ?_
    refine wp_c rfl (by omega) [0, 1] (c_unknown (R := A) (A := I) hN hn ha hi (by omega) hI ?_) rfl rfl rfl rfl
    refine wp_c rfl (by omega) [1, 2] (c_entry (I := A) (J := J) ha hj (by omega) (by omega) ?_) rfl rfl rfl rfl
    refine wp_h (w_Dv p n br (.inl p) (.inl ((N * N : Nat) : Int)) (.inl sz) f1) rfl ?_
    refine wp_c rfl (by omega) [1] (c_coord (K := R) hp b2.1 (by omega) hr ?_) rfl rfl rfl rfl
    rw [b2.2 R hR]
    refine wp_c rfl (by omega) [3, 4] (c_addIncoming (C := 25) (W := N * N) (c0 := A * N + I) (x := -(T A J R)) (by omega) hp rfl h25 rfl x2 (rg _ _ _ hin1 x2) (by omega) ?_) rfl rfl rfl rfl
    have hin2 := dv_in_up hN (x := -(T A J R)) hin1 x2
    revert hin2
    generalize pj_up f1 (25 * 25 + (A * N + I)) ((f1 (25 * 25 + (A * N + I)) + -(T A J R)) % p) = f2
    intro hin2
    refine wp_h (w_Dv p n br (.inl p) (.inl ((N * N : Nat) : Int)) (.inl sz) f2) rfl ?_
    refine wp_c rfl (by omega) [0, 1] (c_unknown (R := A) (A := J) hN hn ha hj (by omega) hJ ?_) rfl rfl rfl rfl
    refine wp_c rfl (by omega) [1, 2] (c_entry (I := I) (J := A) hi ha (by omega) (by omega) ?_) rfl rfl rfl rfl
    refine wp_h (w_Dv p n br (.inl p) (.inl ((N * N : Nat) : Int)) (.inl sz) f2) rfl ?_
    refine wp_c rfl (by omega) [1] (c_coord (K := R) hp b3.1 (by omega) hr ?_) rfl rfl rfl rfl
    rw [b3.2 R hR]
    refine wp_c rfl (by omega) [3, 4] (c_addIncoming (C := 25) (W := N * N) (c0 := A * N + J) (x := -(T I A R)) (by omega) hp rfl h25 rfl x3 (rg _ _ _ hin2 x3) (by omega) ?_) rfl rfl rfl rfl
    have hin3 := dv_in_up hN (x := -(T I A R)) hin2 x3
    revert hin3
    generalize pj_up f2 (25 * 25 + (A * N + J)) ((f2 (25 * 25 + (A * N + J)) + -(T I A R)) % p) = f3
    intro hin3
    refine wp_h (w_Dv p n br (.inl p) (.inl ((N * N : Nat) : Int)) (.inl sz) f3) rfl ?_
    refine wp_g rfl (by omega) ?_
    refine ih (A + 1) _ _ (by omega) (by omega) ⟨hin3.1, fun c hc => ?_⟩
    rw [hin3.2 c hc]
    refine congrArg (· % p) ?_
    exact (show ∀ a b c d : Int, a + b + c + d = a + (b + c + d) from fun a b c d => by omega) _ _ _ _
/-- addDerivationRule(i, j, row) -/
theorem c_rule (ht : tt_ok p N T) (hb : tt_br p N T br) (hn : n = N) {sz : Int} {f0 : Nat → Int} {I J R : Nat} {i j r : Int} (hI : I < N) (hJ : J < N) (hR : R < N) (hi : i = I) (hj : j = J) (hr : r = R) (hok : sb_ok 25 (N * N) p f0 sz)
    (hQ : ∀ (f : Nat → Int) (sz' : Int), sb_ok 25 (N * N) p f sz' → (∀ K, ln_sub p (N * N) K → (ln_g (N * N) (sb_R 25 f) K ↔ ln_g (N * N) (sb_R 25 f0) K ∧ K (dv_e p N T I J R))) → Q none (w_Dv p n br (.inl p) (.inl ((N * N : Nat) : Int)) (.inl sz') f)) :
    pj_ci X m_Maps_addDerivationRule [.inr 0, .inl i, .inl j, .inl r] (w_Dv p n br (.inl p) (.inl ((N * N : Nat) : Int)) (.inl sz) f0) Q := by
  obtain ⟨hp, h1N, hN, hT, -⟩ := id ht
  obtain ⟨hp1, hp2, hp3⟩ := nn_p_pos hp
  have h25 := dv_25 hN
  refine wp_g rfl (by omega) ?_
  refine c_rule_loop ht hb hn hI hJ hR hi hj hr (f0 := f0) (fun f1 a hin => ?_) N 0 _ _ (by omega) (by omega) ⟨fun _ _ _ _ => rfl, fun c hc => by rw [hok.2.1 c hc]; exact (Int.zero_emod p).symm⟩
  have hs : ∀ r c, r < N * N → c < N * N → sb_R 25 f1 r c = sb_R 25 f0 r c := fun r c hr hc => hin.1 r c (by omega) (by omega)
  have hvv : ∀ c, c < N * N → sb_v 25 f1 c = dv_e p N T I J R c := fun c hc => hin.2 c hc
  have hsz : 0 ≤ sz ∧ sz ≤ 25 := by
    have := hok.2.2
    have h2 := ln_ct_w (sb_R 25 f0) (N * N)
    omega
  refine wp_c rfl (by omega) [3, 4] (c_take (C := 25) (W := N * N) (by omega) hp rfl h25 (ln_R_same hok.1 hs) (fun c hc => by rw [hvv c hc]; exact ⟨Int.emod_nonneg _ (by omega), Int.emod_lt_of_pos _ hp1⟩) (fun f2 b hj2 hz => ?_)) rfl rfl rfl rfl
  refine wp_r rfl (by omega) ?_
  refine hQ f2 _ ⟨hj2.1, hz, ?_⟩ (fun K hK => ?_)
  · rw [hj2.2.2.1, hok.2.2, ln_ct_same (N * N) (fun q hq => hs q q hq hq)]
    cases b <;> simp
  · rw [hj2.2.1 K hK, ln_g_same hK hs]
    exact ⟨fun h => ⟨h.1, hK.2.2.2 _ _ (fun c hc => by rw [hvv c hc]; exact nn_eq_rfl p _) h.2⟩, fun h => ⟨h.1, hK.2.2.2 _ _ (fun c hc => by rw [hvv c hc]; exact nn_eq_rfl p _) h.2⟩⟩
end DER
end
section
/-! Maps.derivationCount, its loops -/
section DER2
variable {X : pj_X} {Q : pj_Q} {p n : Int} {N : Nat} {T : Nat → Nat → Nat → Int} {br : Nat → Int}
/-- K holds the equations that are done -/
def dv_g (p : Int) (N : Nat) (T : Nat → Nat → Nat → Int) (I J R : Nat) (K : ln_P) : Prop := ∀ i j r, i < j → j < N → r < N → (i < I ∨ (i = I ∧ (j < J ∨ (j = J ∧ r < R)))) → K (dv_e p N T i j r)
def dv_ok (p : Int) (N : Nat) (T : Nat → Nat → Nat → Int) (I J R : Nat) (f : Nat → Int) (sz : Int) : Prop := sb_ok 25 (N * N) p f sz ∧ ∀ K, ln_sub p (N * N) K → (ln_g (N * N) (sb_R 25 f) K ↔ dv_g p N T I J R K)
theorem dv_ok_eq {I J R I' J' R' : Nat} {f : Nat → Int} {sz : Int} (h : dv_ok p N T I J R f sz) (e : ∀ i j r, i < j → j < N → r < N → ((i < I ∨ (i = I ∧ (j < J ∨ (j = J ∧ r < R)))) ↔ (i < I' ∨ (i = I' ∧ (j < J' ∨ (j = J' ∧ r < R')))))) : dv_ok p N T I' J' R' f sz :=
  ⟨h.1, fun K hK => (h.2 K hK).trans ⟨fun g i j r h1 h2 h3 h4 => g i j r h1 h2 h3 ((e i j r h1 h2 h3).mpr h4), fun g i j r h1 h2 h3 h4 => g i j r h1 h2 h3 ((e i j r h1 h2 h3).mp h4)⟩⟩
theorem c_der_in (ht : tt_ok p N T) (hb : tt_br p N T br) (hn : n = N) {I J : Nat} {i j : Int} (hIJ : I < J) (hJ : J < N) (hi : i = I) (hj : j = J)
    (hQ : ∀ (f : Nat → Int) (sz : Int) (r : pj_V), dv_ok p N T I J N f sz → pj_WP X m_Maps_derivationCount 83 [.inr 0, .inl i, .inl j, r] [] (w_Dv p n br (.inl p) (.inl ((N * N : Nat) : Int)) (.inl sz) f) Q) :
    ∀ (m R : Nat) (r : Int) (f : Nat → Int) (sz : Int), R + m = N → r = R → dv_ok p N T I J R f sz → pj_WP X m_Maps_derivationCount 59 [.inr 0, .inl i, .inl j, .inl r] [] (w_Dv p n br (.inl p) (.inl ((N * N : Nat) : Int)) (.inl sz) f) Q := by
  obtain ⟨hp, h1N, hN, hT, -⟩ := id ht
  intro m
  induction m with
  | zero =>
    intro R r f sz hR hr hok
    refine wp_b rfl (by omega) (fun c => ?_) (fun c => absurd c (by omega))
    rw [show R = N by omega] at hok
    exact hQ _ _ _ hok
  | succ m ih =>
    intro R r f sz hR hr hok
    refine wp_b rfl (by omega) (fun c => absurd c (by omega)) (fun c => ?_)
    refine wp_c rfl (by omega) [0, 1, 2, 3, 4] (c_rule ht hb hn (I := I) (J := J) (R := R) (by omega) hJ (by omega) hi hj hr hok.1 (fun f' sz' hok' hg => ?_)) rfl rfl rfl rfl
    refine wp_g rfl (by omega) ?_
    refine ih (R + 1) _ _ _ (by omega) (by omega) ⟨hok', fun K hK => ?_⟩
    rw [hg K hK, hok.2 K hK]
    constructor
    · intro ⟨g1, g2⟩ i j r h1 h2 h3 h4
      by_cases h : i = I ∧ j = J ∧ r = R
      · obtain ⟨rfl, rfl, rfl⟩ := h
        exact g2
      · exact g1 i j r h1 h2 h3 (by omega)
    · exact fun g => ⟨fun i j r h1 h2 h3 h4 => g i j r h1 h2 h3 (by omega), g I J R hIJ hJ (by omega) (by omega)⟩
theorem c_der_mid (ht : tt_ok p N T) (hb : tt_br p N T br) (hn : n = N) {I : Nat} {i : Int} (hI : I < N) (hi : i = I)
    (hQ : ∀ (f : Nat → Int) (sz : Int) (j r : pj_V), dv_ok p N T I N 0 f sz → pj_WP X m_Maps_derivationCount 89 [.inr 0, .inl i, j, r] [] (w_Dv p n br (.inl p) (.inl ((N * N : Nat) : Int)) (.inl sz) f) Q) :
    ∀ (m J : Nat) (j : Int) (d : pj_V) (f : Nat → Int) (sz : Int), J + m = N → j = J → I < J → dv_ok p N T I J 0 f sz → pj_WP X m_Maps_derivationCount 46 [.inr 0, .inl i, .inl j, d] [] (w_Dv p n br (.inl p) (.inl ((N * N : Nat) : Int)) (.inl sz) f) Q := by
  obtain ⟨hp, h1N, hN, hT, -⟩ := id ht
  intro m
  induction m with
  | zero =>
    intro J j d f sz hJ hj hIJ hok
    refine wp_b rfl (by omega) (fun c => ?_) (fun c => absurd c (by omega))
    rw [show J = N by omega] at hok
    exact hQ _ _ _ _ hok
  | succ m ih =>
    intro J j d f sz hJ hj hIJ hok
    refine wp_b rfl (by omega) (fun c => absurd c (by omega)) (fun c => ?_)
    refine wp_g rfl (by omega) ?_
    refine c_der_in ht hb hn hIJ (by omega) hi hj (fun f' sz' r hok' => ?_) N 0 _ _ _ (by omega) (by omega) hok
    refine wp_g rfl (by omega) ?_
    exact ih (J + 1) _ _ _ _ (by omega) (by omega) (by omega) (dv_ok_eq hok' (fun a b c _ _ _ => by omega))
theorem c_der_out (ht : tt_ok p N T) (hb : tt_br p N T br) (hn : n = N)
    (hQ : ∀ (f : Nat → Int) (sz : Int), dv_ok p N T N 0 0 f sz → Q (some (.inl (n * n - sz))) (w_Dv p n br (.inl p) (.inl ((N * N : Nat) : Int)) (.inl sz) f)) :
    ∀ (m I : Nat) (i : Int) (d1 d2 : pj_V) (f : Nat → Int) (sz : Int), I + m = N → i = I → dv_ok p N T I (I + 1) 0 f sz → pj_WP X m_Maps_derivationCount 31 [.inr 0, .inl i, d1, d2] [] (w_Dv p n br (.inl p) (.inl ((N * N : Nat) : Int)) (.inl sz) f) Q := by
  obtain ⟨hp, h1N, hN, hT, -⟩ := id ht
  have h25 := dv_25 hN
  have e : n * n = ((N * N : Nat) : Int) := by rw [hn]; simp
  intro m
  induction m with
  | zero =>
    intro I i d1 d2 f sz hI hi hok
    have hsz : 0 ≤ sz ∧ sz ≤ 25 := by
      have := hok.1.2.2
      have h2 := ln_ct_w (sb_R 25 f) (N * N)
      omega
    refine wp_b rfl (by omega) (fun c => ?_) (fun c => absurd c (by omega))
    refine wp_r rfl (by omega) ?_
    exact hQ f sz (dv_ok_eq hok (fun a b c _ _ _ => by omega))
  | succ m ih =>
    intro I i d1 d2 f sz hI hi hok
    refine wp_b rfl (by omega) (fun c => absurd c (by omega)) (fun c => ?_)
    refine wp_g rfl (by omega) ?_
    refine c_der_mid ht hb hn (by omega) hi (fun f' sz' j r hok' => ?_) (N - (I + 1)) (I + 1) _ _ _ _ (by omega) (by omega) (by omega) hok
    refine wp_g rfl (by omega) ?_
    exact ih (I + 1) _ _ _ _ _ (by omega) (by omega) (dv_ok_eq hok' (fun a b c _ _ _ => by omega))
/-- derivationCount() -/
theorem c_derivation (ht : tt_ok p N T) (hb : tt_br p N T br) (hn : n = N) {f0 : Nat → Int}
    (hQ : ∀ (f : Nat → Int) (sz : Int), dv_ok p N T N 0 0 f sz → Q (some (.inl (n * n - sz))) (w_Dv p n br (.inl p) (.inl ((N * N : Nat) : Int)) (.inl sz) f)) :
    pj_ci X m_Maps_derivationCount [.inr 0] (w_Dv p n br v_u v_u v_u f0) Q := by
  obtain ⟨hp, h1N, hN, hT, -⟩ := id ht
  have h25 := dv_25 hN
  have e : n * n = ((N * N : Nat) : Int) := by rw [hn]; simp
  obtain ⟨hz1, hz2⟩ := sb_zero (C := 25) (W := N * N) (f := f0) (nn_p_pos hp).1 h25
  refine wp_c rfl (by omega) [3, 4] (c_Sbegin (C := 25) (W := N * N) (w := n * n) (by omega) e h25 ?_) rfl rfl rfl rfl
  refine wp_h (w_Dv p n br (.inl p) (.inl (n * n)) (.inl 0) (fun k => if k < (25 + 1) * 25 then 0 else f0 k)) rfl ?_
  rw [e]
  refine wp_g rfl (by omega) ?_
  refine c_der_out ht hb hn hQ N 0 _ _ _ _ _ (by omega) (by omega) ⟨hz1, fun K hK => ⟨fun _ i j r h1 h2 h3 h4 => absurd h4 (by omega), fun _ r hr => hK.2.2.2 _ _ (fun c hc => by rw [hz2 r c hr hc]; exact nn_eq_rfl p 0) hK.1⟩⟩
end DER2
end
section
/-! LieAlgebra: remember, jacobiFailure -/
section LIE
variable {X : pj_X} {Q : pj_Q} {p n : Int} {N : Nat} {T : Nat → Nat → Nat → Int} {br : Nat → Int}
abbrev c_Li (t s m c x h o : pj_V) (k : pj_V) : pj_C := .inr (7, [t, s, m, c, x, h, o, k])
abbrev w_H (p n : Int) (br : Nat → Int) (k : Int) (f : Nat → Int) : List pj_C := [c_Li (.inr 1) v_u v_u v_u v_u (.inr 3) v_u (.inl k), c_T (.inl p) (.inl n) (.inr 2), c_A 25 br, c_Sh (.inl 6) (.inr 4), c_A 162 f]
/-- remember() -/
theorem c_remember {k : Int} {K : Nat} {f : Nat → Int} (hk : k = K) (hK : K ≤ 6)
    (h5 : K < 6 → Q none (w_H p n br (k + 1) (sh_k f K p n br)))
    (h6 : K = 6 → Q none (w_H p n br (k - 1 + 1) (sh_k (va_cpy f f 27 0 135) 5 p n br))) :
    pj_ci X m_Li_remember [.inr 0] (w_H p n br k f) Q := by
  refine wp_b rfl (by omega) (fun c => ?_) (fun c => ?_)
  · refine wp_c rfl (by omega) [3, 4, 1, 2] (c_keep (P := 6) (K := K) (by omega) hk (by omega) ?_) rfl rfl rfl rfl
    refine wp_r rfl (by omega) ?_
    exact h5 (by omega)
  · refine wp_c rfl (by omega) [3, 4] (c_dropFirst ?_) rfl rfl rfl rfl
    refine wp_h (w_H p n br k (va_cpy f f 27 0 135)) rfl ?_
    refine wp_c rfl (by omega) [3, 4, 1, 2] (c_keep (P := 6) (K := 5) (by omega) (show k - 1 = ((5 : Nat) : Int) by omega) (by omega) ?_) rfl rfl rfl rfl
    refine wp_r rfl (by omega) ?_
    exact h6 (by omega)
abbrev w_J (p n : Int) (br : Nat → Int) : List pj_C := [c_Li (.inr 1) v_u v_u v_u v_u v_u v_u v_u, c_T (.inl p) (.inl n) (.inr 2), c_A 25 br]
/-- the triples that are done have the Jacobi sum 0 -/
def jf_d (p : Int) (N : Nat) (T : Nat → Nat → Nat → Int) (I J K : Nat) : Prop := ∀ i j k, i < j → j < k → k < N → (i < I ∨ (i = I ∧ (j < J ∨ (j = J ∧ k < K)))) → nn_nm p N (jc_s p N T i j k) = 0
theorem jf_eq {I J K I' J' K' : Nat} (h : jf_d p N T I J K) (e : ∀ i j k, i < j → j < k → k < N → (i < I' ∨ (i = I' ∧ (j < J' ∨ (j = J' ∧ k < K')))) → (i < I ∨ (i = I ∧ (j < J ∨ (j = J ∧ k < K))))) : jf_d p N T I' J' K' :=
  fun i j k h1 h2 h3 h4 => h i j k h1 h2 h3 (e i j k h1 h2 h3 h4)
theorem jc_s_rg (hp : nn_p p) (hN : N ≤ 5) (i j k : Nat) : 0 ≤ nn_nm p N (jc_s p N T i j k) ∧ nn_nm p N (jc_s p N T i j k) ≤ 2147483647 := tt_num hp hN
theorem c_jf_in (ht : tt_ok p N T) (hb : tt_br p N T br) (hn : n = N) {I J : Nat} {i j : Int} (hIJ : I < J) (hJ : J < N) (hi : i = I) (hj : j = J)
    (h1 : ∀ K : Nat, J < K → K < N → nn_nm p N (jc_s p N T I J K) ≠ 0 → jf_d p N T I J K → Q (some (.inl (100 * i + 10 * j + K))) (w_J p n br))
    (h0 : ∀ k : pj_V, jf_d p N T I J N → pj_WP X m_Li_jacobiFailure 74 [.inr 0, .inl i, .inl j, k] [] (w_J p n br) Q) :
    ∀ (m K : Nat) (k : Int), K + m = N → k = K → J < K → jf_d p N T I J K → pj_WP X m_Li_jacobiFailure 32 [.inr 0, .inl i, .inl j, .inl k] [] (w_J p n br) Q := by
  obtain ⟨hp, h1N, hN, hT, -⟩ := id ht
  intro m
  induction m with
  | zero =>
    intro K k hK hk hJK hd
    refine wp_b rfl (by omega) (fun c => ?_) (fun c => absurd c (by omega))
    rw [show K = N by omega] at hd
    exact h0 _ hd
  | succ m ih =>
    intro K k hK hk hJK hd
    have hr := jc_s_rg (N := N) (T := T) hp hN I J K
    refine wp_b rfl (by omega) (fun c => absurd c (by omega)) (fun c => ?_)
    refine wp_c rfl (by omega) [1, 2] (c_jacobi ht hb hn (I := I) (J := J) (K := K) hi hj hk (by omega) hJ (by omega) ?_) rfl rfl rfl rfl
    refine wp_b rfl (by omega) (fun c2 => ?_) (fun c2 => ?_)
    · refine wp_g rfl (by omega) ?_
      refine ih (K + 1) _ (by omega) (by omega) (by omega) (fun a b d g1 g2 g3 g4 => ?_)
      by_cases h : a = I ∧ b = J ∧ d = K
      · obtain ⟨rfl, rfl, rfl⟩ := h
        exact c2
      · exact hd a b d g1 g2 g3 (by omega)
    · refine wp_r rfl (by omega) ?_
      rw [hk]
      exact h1 K hJK (by omega) c2 hd
theorem c_jf_mid (ht : tt_ok p N T) (hb : tt_br p N T br) (hn : n = N) {I : Nat} {i : Int} (hI : I < N) (hi : i = I)
    (h1 : ∀ J K : Nat, I < J → J < K → K < N → nn_nm p N (jc_s p N T I J K) ≠ 0 → jf_d p N T I J K → Q (some (.inl (100 * i + 10 * J + K))) (w_J p n br))
    (h0 : ∀ j k : pj_V, jf_d p N T I N 0 → pj_WP X m_Li_jacobiFailure 80 [.inr 0, .inl i, j, k] [] (w_J p n br) Q) :
    ∀ (m J : Nat) (j : Int) (d : pj_V), J + m = N → j = J → I < J → jf_d p N T I J 0 → pj_WP X m_Li_jacobiFailure 17 [.inr 0, .inl i, .inl j, d] [] (w_J p n br) Q := by
  obtain ⟨hp, h1N, hN, hT, -⟩ := id ht
  intro m
  induction m with
  | zero =>
    intro J j d hJ hj hIJ hd
    refine wp_b rfl (by omega) (fun c => ?_) (fun c => absurd c (by omega))
    rw [show J = N by omega] at hd
    exact h0 _ _ hd
  | succ m ih =>
    intro J j d hJ hj hIJ hd
    refine wp_b rfl (by omega) (fun c => absurd c (by omega)) (fun c => ?_)
    refine wp_g rfl (by omega) ?_
    refine c_jf_in ht hb hn hIJ (by omega) hi hj (fun K g1 g2 g3 g4 => ?_) (fun k hd' => ?_) (N - (J + 1)) (J + 1) _ (by omega) (by omega) (by omega) (jf_eq hd (fun a b c _ _ _ h => by omega))
    · rw [hj]
      exact h1 J K hIJ g1 g2 g3 g4
    · refine wp_g rfl (by omega) ?_
      exact ih (J + 1) _ _ (by omega) (by omega) (by omega) (jf_eq hd' (fun a b c _ _ _ h => by omega))
theorem c_jf_out (ht : tt_ok p N T) (hb : tt_br p N T br) (hn : n = N)
    (h1 : ∀ I J K : Nat, I < J → J < K → K < N → nn_nm p N (jc_s p N T I J K) ≠ 0 → jf_d p N T I J K → Q (some (.inl (100 * I + 10 * J + K))) (w_J p n br))
    (h0 : jf_d p N T N 0 0 → Q (some (.inl (-9))) (w_J p n br)) :
    ∀ (m I : Nat) (i : Int) (d1 d2 : pj_V), I + m = N → i = I → jf_d p N T I 0 0 → pj_WP X m_Li_jacobiFailure 2 [.inr 0, .inl i, d1, d2] [] (w_J p n br) Q := by
  obtain ⟨hp, h1N, hN, hT, -⟩ := id ht
  intro m
  induction m with
  | zero =>
    intro I i d1 d2 hI hi hd
    refine wp_b rfl (by omega) (fun c => ?_) (fun c => absurd c (by omega))
    refine wp_r rfl (by omega) ?_
    rw [show I = N by omega] at hd
    exact h0 hd
  | succ m ih =>
    intro I i d1 d2 hI hi hd
    refine wp_b rfl (by omega) (fun c => absurd c (by omega)) (fun c => ?_)
    refine wp_g rfl (by omega) ?_
    refine c_jf_mid ht hb hn (by omega) hi (fun J K g1 g2 g3 g4 g5 => ?_) (fun j k hd' => ?_) (N - (I + 1)) (I + 1) _ _ (by omega) (by omega) (by omega) (jf_eq hd (fun a b c _ _ _ h => by omega))
    · rw [hi]
      exact h1 I J K g1 g2 g3 g4 g5
    · refine wp_g rfl (by omega) ?_
      exact ih (I + 1) _ _ _ (by omega) (by omega) (jf_eq hd' (fun a b c _ _ _ h => by omega))
/-- jacobiFailure() -/
theorem c_jacobiFailure (ht : tt_ok p N T) (hb : tt_br p N T br) (hn : n = N)
    (h1 : ∀ I J K : Nat, I < J → J < K → K < N → nn_nm p N (jc_s p N T I J K) ≠ 0 → jf_d p N T I J K → Q (some (.inl (100 * I + 10 * J + K))) (w_J p n br))
    (h0 : jf_d p N T N 0 0 → Q (some (.inl (-9))) (w_J p n br)) :
    pj_ci X m_Li_jacobiFailure [.inr 0] (w_J p n br) Q := by
  refine wp_g rfl (by omega) ?_
  exact c_jf_out ht hb hn h1 h0 N 0 _ _ _ (by omega) (by omega) (fun i j k _ _ _ h => absurd h (by omega))
end LIE
end
section
/-! LieAlgebra: prime, dimension, bracket -/
section LIE2
variable {X : pj_X} {Q : pj_Q} {p n : Int} {N : Nat} {T : Nat → Nat → Nat → Int} {br : Nat → Int}
theorem c_prime (hQ : Q (some (.inl p)) (w_J p n br)) : pj_ci X m_Li_prime [.inr 0] (w_J p n br) Q := wp_r rfl (by omega) hQ
theorem c_dimension (hQ : Q (some (.inl n)) (w_J p n br)) : pj_ci X m_Li_dimension [.inr 0] (w_J p n br) Q := wp_r rfl (by omega) hQ
/-- bracket(u, v) -/
theorem c_bracket (ht : tt_ok p N T) (hb : tt_br p N T br) (hn : n = N) {u v : Int} (hu : pj_rg u) (hv : pj_rg v)
    (h1 : 0 ≤ u → u < p ^ N → 0 ≤ v → v < p ^ N → Q (some (.inl (nn_nm p N (tt_bk p N T (nn_dg p u) (nn_dg p v))))) (w_J p n br))
    (h0 : ¬ (0 ≤ u ∧ u < p ^ N ∧ 0 ≤ v ∧ v < p ^ N) → Q (some (.inl (-1))) (w_J p n br)) : pj_ci X m_Li_bracket [.inr 0, .inl u, .inl v] (w_J p n br) Q := by
  obtain ⟨hp, h1N, hN, hT, -⟩ := id ht
  have hpw := nn_pwle hp N hN
  refine wp_c rfl (by omega) [1] (c_hasVector hp hu hN hn (fun a b => ?_) (fun a => ?_)) rfl rfl rfl rfl
  · refine wp_b rfl (by omega) (fun c => absurd c (by omega)) (fun c => ?_)
    refine wp_c rfl (by omega) [1] (c_hasVector hp hv hN hn (fun a2 b2 => ?_) (fun a2 => ?_)) rfl rfl rfl rfl
    · refine wp_b rfl (by omega) (fun c => ?_) (fun c => absurd c (by omega))
      refine wp_c rfl (by omega) [1, 2] (c_product ht hb hn ⟨a, by omega⟩ ⟨a2, by omega⟩ ?_) rfl rfl rfl rfl
      exact wp_r rfl (by omega) (h1 a b a2 b2)
    · refine wp_b rfl (by omega) (fun c => absurd c (by omega)) (fun c => ?_)
      exact wp_r rfl (by omega) (h0 (by omega))
  · refine wp_b rfl (by omega) (fun c => ?_) (fun c => absurd c (by omega))
    exact wp_r rfl (by omega) (h0 (by omega))
end LIE2
end
section
/-! what the answers are: out of the parts of the reference, the mathematics alone -/
section ABS
variable {X : pj_X} {Q : pj_Q} {p n : Int} {w N : Nat} {T : Nat → Nat → Nat → Int} {s br : Nat → Int}
theorem ln_push {R R' : Nat → ln_V} (hR : ln_R p w R) (hp : nn_p p) {v v1 v2 : ln_V} {K : Nat} {y : Int} (h1 : ln_eq p w v1 (fun c => v c - nn_sm w (fun r => v r * R r c))) (hv1 : ∀ c, c < w → 0 ≤ v1 c ∧ v1 c < p) (hK : K < w) (h0 : ∀ c, c < K → v1 c = 0) (hne : v1 K ≠ 0) (hy : y * v1 K % p = 1) (hv2 : ∀ c, c < w → v2 c = (v1 c * y) % p)
    (hl' : ∀ c, c < w → R' K c = v2 c) (hr' : ∀ r c, r < w → r ≠ K → c < w → R' r c = (R r c - R r K * v2 c) % p) :
    ln_join p w R v R' true ∧ R K K = 0 ∧ v2 K = 1 ∧ (∀ c, c < K → v2 c = 0) ∧ (∀ r, r < w → R r r ≠ 0 → v2 r = 0) ∧ (∀ c, c < w → 0 ≤ v2 c ∧ v2 c < p) ∧ (∀ r, r < w → (R' r r = 0 ↔ (R r r = 0 ∧ r ≠ K))) := by
  obtain ⟨hp1, hp2, hp3⟩ := nn_p_pos hp
  have hin := ln_red_in (R := R) (v := v) h1
  have hlr : R K K = 0 := Decidable.byContradiction fun z9 => hne (nn_eq_red (ln_red_lead hR h1 hK z9) (hv1 K hK) ⟨by omega, by omega⟩)
  have hv2g : ∀ c, c < w → 0 ≤ v2 c ∧ v2 c < p := fun c hc => by
    rw [hv2 c hc]
    exact ⟨Int.emod_nonneg _ (by omega), Int.emod_lt_of_pos _ hp1⟩
  have hsc : ln_eq p w v2 (fun c => y * v1 c) := fun c hc => by
    rw [hv2 c hc, Int.mul_comm]
    exact nn_eq_mod p _
  have hone : v2 K = 1 := by rw [hv2 K hK, Int.mul_comm]; exact hy
  have hzero : ∀ c, c < w → nn_eq p (v1 c) 0 → v2 c = 0 := fun c hc h9 => by
    have e := nn_eq_red h9 (hv1 c hc) ⟨by omega, by omega⟩
    rw [hv2 c hc, e, Int.zero_mul, Int.zero_emod]
  have hz0 : ∀ c, c < K → v2 c = 0 := fun c hc => hzero c (by omega) (by rw [h0 c hc]; exact nn_eq_rfl p 0)
  have hzl : ∀ r, r < w → R r r ≠ 0 → v2 r = 0 := fun r hr hl => hzero r hr (ln_red_lead hR h1 hr hl)
  have hins := ln_ins (p := p) (w := w) (R := R) (R' := R') hR (by omega) (v2 := v2) hK hv2g hone hz0 hzl hl' (fun r c hr hne2 hc => by
    rw [hr' r c hr hne2 hc]
    exact ⟨⟨Int.emod_nonneg _ (by omega), Int.emod_lt_of_pos _ hp1⟩, nn_eq_mod p _⟩)
  refine ⟨⟨hins.1, fun W9 hW9 => ?_, ?_, ⟨fun _ h9 => ?_, fun _ => rfl⟩, fun h9 => by cases h9⟩, hlr, hone, hz0, hzl, hv2g, hins.2.2⟩
  · rw [hins.2.1 W9 hW9]
    have hs1 : W9 v1 ↔ W9 v2 := ln_scale_W hW9 (a := y) (b := v1 K) (by rw [hy, Int.emod_eq_of_lt (by omega) (by omega)]) hsc
    constructor
    · rintro ⟨a1, a2⟩
      exact ⟨a1, (ln_red_W hW9 a1 h1).mpr (hs1.mpr a2)⟩
    · rintro ⟨a1, a2⟩
      exact ⟨a1, hs1.mp ((ln_red_W hW9 a1 h1).mp a2)⟩
  · exact ln_ct_ins w hK hlr hins.2.2
  · exact hne (nn_eq_red (hin.mp h9 K hK) (hv1 K hK) ⟨by omega, by omega⟩)
/-- the first place that isn't 0 -/
theorem ln_first {v : ln_V} : ∀ n : Nat, (∀ c, c < n → v c = 0) ∨ ∃ K, K < n ∧ (∀ c, c < K → v c = 0) ∧ v K ≠ 0
  | 0 => Or.inl fun c hc => absurd hc (by omega)
  | n + 1 => by
    rcases ln_first (v := v) n with h | ⟨K, h1, h2, h3⟩
    · by_cases h0 : v n = 0
      · exact Or.inl fun c hc => by
          by_cases e : c = n
          · rw [e]; exact h0
          · exact h c (by omega)
      · exact Or.inr ⟨n, by omega, h, h0⟩
    · exact Or.inr ⟨K, by omega, h2, h3⟩
/-- a join there always is -/
theorem ln_join_ex {R : Nat → ln_V} (hR : ln_R p w R) (hp : nn_p p) (v : ln_V) : ∃ R' b, ln_join p w R v R' b := by
  obtain ⟨hp1, hp2, hp3⟩ := nn_p_pos hp
  have h1 : ln_eq p w (fun c => (v c - nn_sm w (fun r => v r * R r c)) % p) (fun c => v c - nn_sm w (fun r => v r * R r c)) := fun c _ => nn_eq_mod p _
  have hv1 : ∀ c, c < w → 0 ≤ (v c - nn_sm w (fun r => v r * R r c)) % p ∧ (v c - nn_sm w (fun r => v r * R r c)) % p < p := fun c _ => ⟨Int.emod_nonneg _ (by omega), Int.emod_lt_of_pos _ hp1⟩
  rcases ln_first (v := fun c => (v c - nn_sm w (fun r => v r * R r c)) % p) w with h | ⟨K, hK, h0, hne⟩
  · exact ⟨R, false, ln_join_same hR ((ln_red_in h1).mpr (fun c hc => by rw [h c hc]; exact nn_eq_rfl p 0)) (fun _ _ _ _ => rfl)⟩
  · have hvK := hv1 K hK
    have hne' : (v K - nn_sm w (fun r => v r * R r K)) % p ≠ 0 := hne
    obtain ⟨y, -, -, hy⟩ := nn_inv_ex hp _ (show 1 ≤ (v K - nn_sm w (fun r => v r * R r K)) % p by omega) hvK.2
    exact ⟨fun r c => if r = K then ((v c - nn_sm w (fun r => v r * R r c)) % p * y) % p else (R r c - R r K * (((v c - nn_sm w (fun r => v r * R r c)) % p * y) % p)) % p, true, (ln_push hR hp (v2 := fun c => ((v c - nn_sm w (fun r => v r * R r c)) % p * y) % p) h1 hv1 hK h0 hne hy (fun c _ => rfl) (fun c _ => by rw [if_pos rfl]) (fun r c _ hne2 _ => by rw [if_neg hne2])).1⟩
theorem ln_ct_ex {R : Nat → ln_V} : ∀ (n j : Nat), j < ln_ct R n → ∃ r, r < n ∧ R r r ≠ 0 ∧ ln_ct R r = j
  | 0, j, h => absurd h (by show ¬ j < 0; omega)
  | n + 1, j, h => by
    have h : j < ln_ct R n + (if R n n = 0 then 0 else 1) := h
    by_cases hj : j < ln_ct R n
    · obtain ⟨r, h1, h2, h3⟩ := ln_ct_ex n j hj
      exact ⟨r, by omega, h2, h3⟩
    · by_cases h0 : R n n = 0
      · rw [if_pos h0] at h; omega
      · rw [if_neg h0] at h
        exact ⟨n, by omega, h0, by omega⟩
theorem ln_ct_mono2 {R : Nat → ln_V} {r q : Nat} (h : r ≤ q) : ln_ct R r ≤ ln_ct R q := by
  have := ln_ct_mono (R := R) (q - r) r
  rw [show r + (q - r) = q by omega] at this
  exact this
theorem ln_ct_e : ∀ n : Nat, ln_ct ln_e n = n
  | 0 => rfl
  | n + 1 => by
    show ln_ct ln_e n + (if ln_e n n = 0 then 0 else 1) = n + 1
    rw [ln_ct_e n, if_neg (by unfold ln_e; rw [if_pos rfl]; omega)]
theorem ln_R_e (hp : nn_p p) : ln_R p N ln_e := by
  have hp2 := (nn_p_pos hp).2.1
  refine fun r hr => ⟨fun c _ => ?_, Or.inr ⟨if_pos rfl, fun c hc => if_neg (by omega), fun q _ hq => if_neg (by omega)⟩⟩
  unfold ln_e
  split <;> omega
theorem ln_in_e (x : ln_V) : ln_in p N ln_e x := by
  intro c hc
  show nn_eq p (x c) (nn_sm N (fun r => x r * ln_e r c))
  rw [nn_sm_one N c hc (fun r _ hne => by rw [show ln_e r c = 0 from if_neg (by omega), Int.mul_zero]), show ln_e c c = 1 from if_pos rfl, Int.mul_one]
  exact nn_eq_rfl p _
/-- vectorOf(index): what it answers -/
def vo_is (p : Int) (N : Nat) (R : Nat → ln_V) (I : Nat) (z : Int) : Prop := (ln_ct R N ≤ I ∧ z = -9) ∨ ∃ r, r < N ∧ R r r ≠ 0 ∧ ln_ct R r = I ∧ z = nn_nm p N (R r)
theorem vo_one {R R' : Nat → ln_V} {U : ln_P} {I : Nat} {z z' : Int} (hp : nn_p p) (hR : ds_is p N R U) (hR' : ds_is p N R' U) (h : vo_is p N R I z) (h' : vo_is p N R' I z') : z = z' := by
  have e := ds_uniq hp hR hR'
  have ec : ∀ r, r ≤ N → ln_ct R r = ln_ct R' r := fun r hr => ln_ct_congr r (fun q hq => by rw [e q q (by omega) (by omega)])
  rcases h with ⟨h1, h2⟩ | ⟨r, h1, h2, h3, h4⟩
  · rcases h' with ⟨k1, k2⟩ | ⟨q, k1, k2, k3, k4⟩
    · rw [h2, k2]
    · have := ln_ct_lt (R := R') k1 k2
      have := ec N (Nat.le_refl N)
      omega
  · rcases h' with ⟨k1, k2⟩ | ⟨q, k1, k2, k3, k4⟩
    · have := ln_ct_lt (R := R) h1 h2
      have := ec N (Nat.le_refl N)
      omega
    · have hl : R q q ≠ 0 := by rw [e q q k1 k1]; exact k2
      have hc : ln_ct R q = ln_ct R r := by rw [ec q (by omega), k3, h3]
      have := ln_ct_inj hl h2 hc
      subst this
      rw [h4, k4]
      exact nn_nm_congr N (fun c hc => e q c k1 hc)
theorem ct_one {R R' : Nat → ln_V} {U : ln_P} (hp : nn_p p) (hR : ds_is p N R U) (hR' : ds_is p N R' U) : ln_ct R N = ln_ct R' N := by
  have e := ds_uniq hp hR hR'
  exact ln_ct_congr N (fun q hq => by rw [e q q hq hq])
/-- subalgebraDimension(u, v): what it answers -/
def an_sd (p : Int) (N : Nat) (T : Nat → Nat → Nat → Int) (u v z : Int) : Prop := (¬ (0 ≤ u ∧ u < p ^ N ∧ 0 ≤ v ∧ v < p ^ N) ∧ z = -1) ∨ ((0 ≤ u ∧ u < p ^ N ∧ 0 ≤ v ∧ v < p ^ N) ∧ ∃ R, ds_is p N R (ds_salg p N T (nn_dg p u) (nn_dg p v)) ∧ z = (ln_ct R N : Int))
def an_id (p : Int) (N : Nat) (T : Nat → Nat → Nat → Int) (v z : Int) : Prop := (¬ (0 ≤ v ∧ v < p ^ N) ∧ z = -1) ∨ ((0 ≤ v ∧ v < p ^ N) ∧ ∃ R, ds_is p N R (ds_ideal p N T (nn_dg p v)) ∧ z = (ln_ct R N : Int))
/-- a dimension of a level -/
def an_dd (p : Int) (N : Nat) (T : Nat → Nat → Nat → Int) (b : Bool) (l z : Int) : Prop := (¬ (0 ≤ l ∧ l ≤ 9) ∧ z = -1) ∨ ((0 ≤ l ∧ l ≤ 9) ∧ ∃ R, ds_is p N R (ds_D p N T b l.toNat) ∧ z = (ln_ct R N : Int))
def an_dv (p : Int) (N : Nat) (T : Nat → Nat → Nat → Int) (l i z : Int) : Prop := (¬ (0 ≤ l ∧ l ≤ 9 ∧ 0 ≤ i) ∧ z = -1) ∨ ((0 ≤ l ∧ l ≤ 9 ∧ 0 ≤ i) ∧ ∃ R, ds_is p N R (ds_D p N T false l.toNat) ∧ vo_is p N R i.toNat z)
def an_ki (p : Int) (N : Nat) (T : Nat → Nat → Nat → Int) (z : Int) : Prop := (∃ R, ds_is p N R (ds_D p N T true 9) ∧ ln_ct R N = 0 ∧ z = 2) ∨ (∃ R R2, ds_is p N R (ds_D p N T true 9) ∧ ln_ct R N ≠ 0 ∧ ds_is p N R2 (ds_D p N T false 9) ∧ z = if ln_ct R2 N = 0 then 1 else 0)
/-- the span of those S q that are taken -/
theorem ln_span_ex (hp : nn_p p) (S : Nat → ln_V) (R : Nat → ln_V) : ∀ n : Nat, ∃ C, ln_R p N C ∧ (∀ W, ln_sub p N W → (ln_g N C W ↔ ∀ q, q < n → R q q ≠ 0 → W (S q))) ∧ ln_ct C N ≤ ln_ct R n
  | 0 => ⟨fun _ _ => 0, fun r _ => ⟨fun c _ => ⟨Int.le_refl 0, (nn_p_pos hp).1⟩, Or.inl fun _ _ => rfl⟩, fun W hW => ⟨fun _ q hq => absurd hq (by omega), fun _ r _ => hW.1⟩, by rw [ln_ct_0 N (fun _ _ => rfl)]; exact Nat.zero_le _⟩
  | n + 1 => by
    obtain ⟨C, c1, c2, c3⟩ := ln_span_ex hp S R n
    by_cases h : R n n = 0
    · refine ⟨C, c1, fun W hW => ?_, ?_⟩
      · rw [c2 W hW]
        constructor
        · intro a q hq hl
          by_cases e : q = n
          · subst e; exact absurd h hl
          · exact a q (by omega) hl
        · intro a q hq hl
          exact a q (by omega) hl
      · show _ ≤ ln_ct R n + (if R n n = 0 then 0 else 1)
        rw [if_pos h]
        omega
    · obtain ⟨C2, b, hj⟩ := ln_join_ex c1 hp (S n)
      refine ⟨C2, hj.1, fun W hW => ?_, ?_⟩
      · rw [hj.2.1 W hW, c2 W hW]
        constructor
        · rintro ⟨a1, a2⟩ q hq hl
          by_cases e : q = n
          · subst e; exact a2
          · exact a1 q (by omega) hl
        · intro a
          exact ⟨fun q hq hl => a q (by omega) hl, a n (by omega) h⟩
      · rw [hj.2.2.1]
        show _ ≤ ln_ct R n + (if R n n = 0 then 0 else 1)
        rw [if_neg h]
        split <;> omega
theorem ln_span_all (hp : nn_p p) (S : Nat → ln_V) (n : Nat) : ∃ C, ln_R p N C ∧ ∀ W, ln_sub p N W → (ln_g N C W ↔ ∀ q, q < n → W (S q)) := by
  obtain ⟨C, c1, c2, -⟩ := ln_span_ex hp S ln_e n
  refine ⟨C, c1, fun W hW => ?_⟩
  rw [c2 W hW]
  exact ⟨fun a q hq => a q hq (by show (if q = q then (1 : Int) else 0) ≠ 0; rw [if_pos rfl]; omega), fun a q hq _ => a q hq⟩
def an_cd (p : Int) (N : Nat) (T : Nat → Nat → Nat → Int) (z : Int) : Prop := ∃ R, ds_is p N R (ds_cen p N T) ∧ z = (ln_ct R N : Int)
def an_cz (p : Int) (N : Nat) (T : Nat → Nat → Nat → Int) (v z : Int) : Prop := (¬ (0 ≤ v ∧ v < p ^ N) ∧ z = -1) ∨ ((0 ≤ v ∧ v < p ^ N) ∧ ∃ R, ds_is p N R (ds_br p N T (nn_dg p v)) ∧ z = (N : Int) - (ln_ct R N : Int))
def an_kl (p : Int) (N : Nat) (T : Nat → Nat → Nat → Int) (u v z : Int) : Prop := (¬ (0 ≤ u ∧ u < p ^ N ∧ 0 ≤ v ∧ v < p ^ N) ∧ z = -1) ∨ ((0 ≤ u ∧ u < p ^ N ∧ 0 ≤ v ∧ v < p ^ N) ∧ z = tr_v p N T (nn_dg p u) (nn_dg p v))
def an_kr (p : Int) (N : Nat) (T : Nat → Nat → Nat → Int) (z : Int) : Prop := ∃ R, ln_R p N R ∧ (∀ K, ln_sub p N K → (ln_g N R K ↔ ∀ i, i < N → K (kl_r p N T i))) ∧ z = (N : Int) - (ln_ct R N : Int)
def an_de (p : Int) (N : Nat) (T : Nat → Nat → Nat → Int) (z : Int) : Prop := ∃ R, ln_R p (N * N) R ∧ (∀ K, ln_sub p (N * N) K → (ln_g (N * N) R K ↔ ∀ i j r, i < j → j < N → r < N → K (dv_e p N T i j r))) ∧ z = ((N * N : Nat) : Int) - (ln_ct R (N * N) : Int)
/-- the table with a pair set -/
def tt_set (p : Int) (T : Nat → Nat → Nat → Int) (I J : Nat) (x : Nat → Int) (i j k : Nat) : Int := if i = I ∧ j = J then x k else if i = J ∧ j = I then (-(x k)) % p else T i j k
/-- what setBracket makes of the table -/
def sb_T (p : Int) (N : Nat) (T : Nat → Nat → Nat → Int) (I J : Nat) (v : Int) : Nat → Nat → Nat → Int := tt_set p T I J (fun k => if k < N then nn_dg p v k else 0)
def an_br (p : Int) (N : Nat) (T : Nat → Nat → Nat → Int) (u v z : Int) : Prop := (¬ (0 ≤ u ∧ u < p ^ N ∧ 0 ≤ v ∧ v < p ^ N) ∧ z = -1) ∨ ((0 ≤ u ∧ u < p ^ N ∧ 0 ≤ v ∧ v < p ^ N) ∧ z = nn_nm p N (tt_bk p N T (nn_dg p u) (nn_dg p v)))
def an_jf (p : Int) (N : Nat) (T : Nat → Nat → Nat → Int) (z : Int) : Prop := (∃ I J K : Nat, I < J ∧ J < K ∧ K < N ∧ nn_nm p N (jc_s p N T I J K) ≠ 0 ∧ jf_d p N T I J K ∧ z = 100 * I + 10 * J + K) ∨ (jf_d p N T N 0 0 ∧ z = -9)
theorem sb_T_ok (ht : tt_ok p N T) {I J : Nat} {v : Int} (hI : I < N) (hJ : J < N) (hne : I ≠ J) : tt_ok p N (sb_T p N T I J v) := by
  obtain ⟨hp, h1N, hN, hT, hz, ha, hd⟩ := id ht
  have hp1 := (nn_p_pos hp).1
  have hs : ∀ i j k, sb_T p N T I J v i j k = if i = I ∧ j = J then (if k < N then nn_dg p v k else 0) else if i = J ∧ j = I then (-(if k < N then nn_dg p v k else 0)) % p else T i j k := fun _ _ _ => rfl
  have hx : ∀ k, 0 ≤ (if k < N then nn_dg p v k else 0) ∧ (if k < N then nn_dg p v k else 0) < p := fun k => by
    split
    · exact nn_dg_rg hp1 k v
    · exact ⟨Int.le_refl 0, hp1⟩
  refine ⟨hp, h1N, hN, fun i j k => ?_, fun i j k h => ?_, fun i j k => ?_, fun i k => ?_⟩
  · rw [hs]
    split
    · exact hx k
    · split
      · exact ⟨Int.emod_nonneg _ (by omega), Int.emod_lt_of_pos _ hp1⟩
      · exact hT i j k
  · rw [hs]
    by_cases e1 : i = I ∧ j = J
    · rw [if_pos e1, if_neg (by omega)]
    · rw [if_neg e1]
      by_cases e2 : i = J ∧ j = I
      · rw [if_pos e2, if_neg (by omega), Int.neg_zero, Int.zero_emod]
      · rw [if_neg e2]
        exact hz i j k h
  · rw [hs, hs]
    by_cases e1 : i = I ∧ j = J
    · rw [if_pos e1, if_neg (show ¬ (j = I ∧ i = J) by omega), if_pos (show j = J ∧ i = I by omega)]
      exact nn_eq_mod p _
    · by_cases e2 : i = J ∧ j = I
      · rw [if_neg e1, if_pos e2, if_pos (show j = I ∧ i = J by omega)]
        have h9 := nn_eq_sub (nn_eq_rfl p 0) (nn_eq_mod p (-(if k < N then nn_dg p v k else 0)))
        rw [Int.zero_sub, Int.zero_sub, Int.neg_neg] at h9
        exact nn_eq_symm h9
      · rw [if_neg e1, if_neg e2, if_neg (show ¬ (j = I ∧ i = J) by omega), if_neg (show ¬ (j = J ∧ i = I) by omega)]
        exact ha i j k
  · rw [hs, if_neg (by omega), if_neg (by omega)]
    exact hd i k
end ABS
end
section
/-! dimensions: linear maps, images, kernels -/
/-- a linear map from w coordinates to v -/
def zl_lin (p : Int) (w v : Nat) (φ : ln_V → ln_V) : Prop := (∀ x y, ln_eq p v (φ (fun c => x c + y c)) (fun c => φ x c + φ y c)) ∧ (∀ a x, ln_eq p v (φ (fun c => a * x c)) (fun c => a * φ x c)) ∧ ∀ x y, ln_eq p w x y → ln_eq p v (φ x) (φ y)
/-- the dimension of a subspace -/
def zq_dim (p : Int) (w : Nat) (U : ln_P) (d : Nat) : Prop := ∃ R, ds_is p w R U ∧ ln_ct R w = d
section ZDM
variable {p : Int} {w v : Nat} {φ ψ : ln_V → ln_V} {U V K I : ln_P} {d e k i : Nat}
theorem zl_0 (h : zl_lin p w v φ) : ln_eq p v (φ (fun _ => 0)) (fun _ => 0) := by
  intro c hc
  have h1 : nn_eq p (φ (fun _ => 0) c) (0 * φ (fun _ => 0) c) := h.2.1 0 (fun _ => 0) c hc
  rw [Int.zero_mul] at h1
  exact h1
theorem zl_pre (h : zl_lin p w v φ) {W : ln_P} (hW : ln_sub p v W) : ln_sub p w (fun x => W (φ x)) :=
  ⟨hW.2.2.2 _ _ (ln_eq_symm (zl_0 h)) hW.1, fun x y hx hy => hW.2.2.2 _ _ (ln_eq_symm (h.1 x y)) (hW.2.1 _ _ hx hy), fun a x hx => hW.2.2.2 _ _ (ln_eq_symm (h.2.1 a x)) (hW.2.2.1 a _ hx), fun x y e hx => hW.2.2.2 _ _ (h.2.2 x y e) hx⟩
theorem zl_sm (h : zl_lin p w v φ) (R : Nat → ln_V) (a : Nat → Int) : ∀ n, ln_eq p v (φ (fun c => nn_sm n (fun r => a r * R r c))) (fun c => nn_sm n (fun r => a r * φ (R r) c))
  | 0 => zl_0 h
  | n + 1 => fun c hc => nn_eq_trans (h.1 (fun c => nn_sm n (fun r => a r * R r c)) (fun c => a n * R n c) c hc) (nn_eq_add (zl_sm h R a n c hc) (h.2.1 (a n) (R n) c hc))
theorem zq_one (hp : nn_p p) (h : zq_dim p w U d) (h' : zq_dim p w U e) : d = e := by
  obtain ⟨R, r, rfl⟩ := h
  obtain ⟨R', r', rfl⟩ := h'
  exact ct_one hp r r'
theorem zq_le (hp : nn_p p) (h : zq_dim p w U d) (h' : zq_dim p w V e) (hs : ∀ x, U x → V x) : d ≤ e := by
  have hp2 := (nn_p_pos hp).2.1
  obtain ⟨R, r, rfl⟩ := h
  obtain ⟨R', r', rfl⟩ := h'
  exact (ln_dim r.1 r'.1 (by omega) (fun x hx => (r'.2 x).mpr (hs x ((r.2 x).mp hx)))).1
theorem zq_iff (h : ∀ x, U x ↔ V x) (hd : zq_dim p w U d) : zq_dim p w V d := by
  obtain ⟨R, r, e⟩ := hd
  exact ⟨R, ⟨r.1, fun x => (r.2 x).trans (h x)⟩, e⟩
theorem zq_w (h : zq_dim p w U d) : d ≤ w := by
  obtain ⟨R, r, rfl⟩ := h
  exact ln_ct_w R w
theorem zq_sub (h : zq_dim p w U d) : ln_sub p w U := by
  obtain ⟨R, r, -⟩ := h
  have hs := ln_in_sub (p := p) (w := w) R
  exact ⟨(r.2 _).mp hs.1, fun x y hx hy => (r.2 _).mp (hs.2.1 x y ((r.2 x).mpr hx) ((r.2 y).mpr hy)), fun a x hx => (r.2 _).mp (hs.2.2.1 a x ((r.2 x).mpr hx)), fun x y e hx => (r.2 _).mp (hs.2.2.2 x y e ((r.2 x).mpr hx))⟩
theorem zq_all (hp : nn_p p) : zq_dim p w (fun _ => True) w := ⟨ln_e, ⟨ln_R_e hp, fun x => ⟨fun _ => trivial, fun _ => ln_in_e x⟩⟩, ln_ct_e w⟩
theorem zq_ex (hp : nn_p p) (hU : ln_sub p w U) : ∃ d, zq_dim p w U d := by
  have key : ∀ (m : Nat) (R : Nat → ln_V), ln_R p w R → ln_g w R U → ln_ct R w + m = w → ∃ d, zq_dim p w U d := by
    intro m
    induction m with
    | zero =>
      intro R hR hg hm
      by_cases h : ∀ x, U x → ln_in p w R x
      · exact ⟨_, R, ⟨hR, fun x => ⟨fun hx => ln_in_W hU hg hx, h x⟩⟩, rfl⟩
      · exfalso
        refine h (fun x hx => Classical.byContradiction fun hn => ?_)
        obtain ⟨R', b, hj⟩ := ln_join_ex hR hp x
        have hb := hj.2.2.2.1.mpr hn
        have h3 := hj.2.2.1
        rw [hb, if_pos rfl] at h3
        have := ln_ct_w R' w
        omega
    | succ m ih =>
      intro R hR hg hm
      by_cases h : ∀ x, U x → ln_in p w R x
      · exact ⟨_, R, ⟨hR, fun x => ⟨fun hx => ln_in_W hU hg hx, h x⟩⟩, rfl⟩
      · have hex : ∃ x, U x ∧ ¬ ln_in p w R x := Classical.byContradiction fun hn => h (fun x hx => Classical.byContradiction fun hx2 => hn ⟨x, hx, hx2⟩)
        obtain ⟨x, hx, hn⟩ := hex
        obtain ⟨R', b, hj⟩ := ln_join_ex hR hp x
        have hb := hj.2.2.2.1.mpr hn
        have h3 := hj.2.2.1
        rw [hb, if_pos rfl] at h3
        exact ih R' hj.1 ((hj.2.1 U hU).mpr ⟨hg, hx⟩) (by omega)
  have hz : ∀ r c : Nat, (fun _ _ => 0 : Nat → ln_V) r c = 0 := fun _ _ => rfl
  refine key w (fun _ _ => 0) (fun r _ => ⟨fun c _ => ⟨Int.le_refl 0, (nn_p_pos hp).1⟩, Or.inl fun _ _ => rfl⟩) (fun r _ => hU.1) ?_
  rw [ln_ct_0 w (fun r _ => rfl)]
  omega
theorem zq_im (hp : nn_p p) (hφ : zl_lin p w v φ) (hU : zq_dim p w U d) (hV : zq_dim p v V e) (hs : ∀ y, V y → ∃ x, U x ∧ ln_eq p v y (φ x)) : e ≤ d := by
  have hp2 := (nn_p_pos hp).2.1
  obtain ⟨R, ⟨r1, r2⟩, rfl⟩ := hU
  obtain ⟨R', ⟨q1, q2⟩, rfl⟩ := hV
  obtain ⟨C, c1, c2, c3⟩ := ln_span_ex (N := v) hp (fun q => φ (R q)) R w
  have hC : ∀ q, q < w → R q q ≠ 0 → ln_in p v C (φ (R q)) := (c2 _ (ln_in_sub C)).mp (fun r hr => ln_in_row c1 hr)
  have P := zl_pre hφ (ln_in_sub (p := p) (w := v) C)
  refine Nat.le_trans (ln_dim q1 c1 (by omega) (fun y hy => ?_)).1 c3
  obtain ⟨x, hx, e⟩ := hs y ((q2 y).mp hy)
  refine (ln_in_sub C).2.2.2 _ _ (ln_eq_symm e) ?_
  refine ln_in_W P (fun r hr => ?_) ((r2 x).mpr hx)
  by_cases h0 : R r r = 0
  · exact P.2.2.2 _ _ (fun c hc => by rw [ln_R_zero r1 hr hc h0]; exact nn_eq_rfl p 0) P.1
  · exact hC r hr h0
theorem zq_iso (hp : nn_p p) (hφ : zl_lin p w v φ) (hψ : zl_lin p v w ψ) (h3 : ∀ y, ln_eq p v (φ (ψ y)) y) (h4 : ∀ x, ln_eq p w (ψ (φ x)) x) (h1 : ∀ x, U x → V (φ x)) (h2 : ∀ y, V y → U (ψ y)) (hU : zq_dim p w U d) (hV : zq_dim p v V e) : d = e :=
  Nat.le_antisymm (zq_im hp hψ hV hU (fun x hx => ⟨φ x, h1 x hx, ln_eq_symm (h4 x)⟩)) (zq_im hp hφ hU hV (fun y hy => ⟨ψ y, h2 y hy, ln_eq_symm (h3 y)⟩))
theorem zq_pos (h : zq_dim p w U d) {u : ln_V} (hu : U u) (hne : ¬ ∀ c, c < w → nn_eq p (u c) 0) : 1 ≤ d := by
  obtain ⟨R, ⟨r1, r2⟩, rfl⟩ := h
  refine Nat.one_le_iff_ne_zero.mpr (fun h0 => hne (fun c hc => ?_))
  have hin : nn_eq p (u c) (nn_sm w (fun r => u r * R r c)) := (r2 u).mpr hu c hc
  have hz := ln_ct_eq0 w h0
  rw [nn_sm_0 w (fun r hr => by rw [ln_R_zero r1 hr hc (hz r hr), Int.mul_zero])] at hin
  exact hin
theorem zq_zero (hp : nn_p p) (h : zq_dim p w U d) (h0 : ∀ x, U x → ∀ c, c < w → nn_eq p (x c) 0) : d = 0 := by
  obtain ⟨R, ⟨r1, r2⟩, rfl⟩ := h
  refine ln_ct_0 w (fun r hr => ?_)
  exact nn_eq_red (h0 _ ((r2 _).mp (ln_in_row r1 hr)) r hr) ((r1 r hr).1 r hr) ⟨Int.le_refl 0, (nn_p_pos hp).1⟩
def zc_n (R : Nat → ln_V) : Nat → ln_V := fun q c => if c = q then (if R q q = 0 then 1 else 0) else 0
theorem zc_ct (R : Nat → ln_V) : ∀ n, ln_ct (zc_n R) n + ln_ct R n = n
  | 0 => rfl
  | n + 1 => by
    have h9 := zc_ct R n
    have e : zc_n R n n = if R n n = 0 then 1 else 0 := if_pos rfl
    show ln_ct (zc_n R) n + (if zc_n R n n = 0 then 0 else 1) + (ln_ct R n + (if R n n = 0 then 0 else 1)) = n + 1
    by_cases h : R n n = 0
    · rw [if_pos h] at e
      rw [e, if_neg (by omega), if_pos h]
      omega
    · rw [if_neg h] at e
      rw [e, if_pos rfl, if_neg h]
      omega
theorem zq_rn1 (hp : nn_p p) (hφ : zl_lin p w v φ) (hK : zq_dim p w K k) (hKz : ∀ x, K x → ∀ c, c < v → nn_eq p (φ x c) 0) (hI : zq_dim p v I i) (hIs : ∀ y, I y → ∀ W, ln_sub p v W → (∀ x, W (φ x)) → W y) : k + i ≤ w := by
  have hp2 := (nn_p_pos hp).2.1
  obtain ⟨R, ⟨r1, r2⟩, rfl⟩ := hK
  obtain ⟨R', ⟨q1, q2⟩, rfl⟩ := hI
  obtain ⟨C, c1, c2, c3⟩ := ln_span_ex (N := v) hp (fun q => φ (ln_e q)) (zc_n R) w
  have hct := zc_ct R w
  have hC : ∀ q, q < w → zc_n R q q ≠ 0 → ln_in p v C (φ (ln_e q)) := (c2 _ (ln_in_sub C)).mp (fun r hr => ln_in_row c1 hr)
  have P := zl_pre hφ (ln_in_sub (p := p) (w := v) C)
  have hmem : ∀ x, ln_in p v C (φ x) := by
    intro x
    have h1 : ln_in p v C (φ (fun c => nn_sm w (fun r => x r * R r c))) := ln_sub_sm P x w (fun r hr => (ln_in_sub C).2.2.2 _ _ (fun c hc => nn_eq_symm (hKz _ ((r2 _).mp (ln_in_row r1 hr)) c hc)) (ln_in_sub C).1)
    have h2 : ln_in p v C (φ (fun c => nn_sm w (fun q => (x q - nn_sm w (fun r => x r * R r q)) * (if R q q = 0 then ln_e q else fun _ => 0 : ln_V) c))) := ln_sub_sm P (R := fun q => if R q q = 0 then ln_e q else fun _ => 0) (fun q => x q - nn_sm w (fun r => x r * R r q)) w (fun q hq => by
      show ln_in p v C (φ (if R q q = 0 then ln_e q else fun _ => 0))
      by_cases h0 : R q q = 0
      · rw [if_pos h0]
        refine hC q hq ?_
        show (if q = q then (if R q q = 0 then (1 : Int) else 0) else 0) ≠ 0
        rw [if_pos rfl, if_pos h0]
        omega
      · rw [if_neg h0]
        exact P.1)
    refine P.2.2.2 _ _ (fun c hc => ?_) (P.2.1 _ _ h1 h2)
    show nn_eq p (nn_sm w (fun r => x r * R r c) + nn_sm w (fun q => (x q - nn_sm w (fun r => x r * R r q)) * (if R q q = 0 then ln_e q else fun _ => 0 : ln_V) c)) (x c)
    have e9 := nn_sm_one w (f := fun q => (x q - nn_sm w (fun r => x r * R r q)) * (if R q q = 0 then ln_e q else fun _ => 0 : ln_V) c) c hc (fun q hq hne => by
      show (x q - nn_sm w (fun r => x r * R r q)) * (if R q q = 0 then ln_e q else fun _ => 0 : ln_V) c = 0
      by_cases h0 : R q q = 0
      · rw [if_pos h0, show ln_e q c = 0 from if_neg (Ne.symm hne), Int.mul_zero]
      · rw [if_neg h0, Int.mul_zero])
    rw [e9]
    show nn_eq p (nn_sm w (fun r => x r * R r c) + (x c - nn_sm w (fun r => x r * R r c)) * (if R c c = 0 then ln_e c else fun _ => 0 : ln_V) c) (x c)
    by_cases h0 : R c c = 0
    · rw [if_pos h0, show ln_e c c = 1 from if_pos rfl, Int.mul_one, show ∀ a b : Int, a + (b - a) = b from fun a b => by omega]
      exact nn_eq_rfl p _
    · rw [if_neg h0, ln_sm_lead r1 x hc h0, Int.mul_zero, Int.add_zero]
      exact nn_eq_rfl p _
  have hle := (ln_dim q1 c1 (by omega) (fun y hy => hIs y ((q2 y).mp hy) _ (ln_in_sub C) hmem)).1
  omega
def zc_2 (w : Nat) (R R' : Nat → ln_V) : Nat → ln_V := fun q c => if c = q then (if q < w then R q q else R' (q - w) (q - w)) else 0
theorem zc_2ct (R R' : Nat → ln_V) : ∀ m, ln_ct (zc_2 w R R') (w + m) = ln_ct R w + ln_ct R' m
  | 0 => by
    show ln_ct (zc_2 w R R') w = ln_ct R w + 0
    rw [Nat.add_zero]
    refine ln_ct_congr w (fun r hr => ?_)
    have e : zc_2 w R R' r r = R r r := by
      show (if r = r then (if r < w then R r r else R' (r - w) (r - w)) else 0) = _
      rw [if_pos rfl, if_pos hr]
    rw [e]
  | m + 1 => by
    have h9 := zc_2ct R R' m
    have e : zc_2 w R R' (w + m) (w + m) = R' m m := by
      show (if w + m = w + m then (if w + m < w then R (w + m) (w + m) else R' (w + m - w) (w + m - w)) else 0) = _
      rw [if_pos rfl, if_neg (by omega), Nat.add_sub_cancel_left]
    show ln_ct (zc_2 w R R') (w + m) + (if zc_2 w R R' (w + m) (w + m) = 0 then 0 else 1) = ln_ct R w + (ln_ct R' m + (if R' m m = 0 then 0 else 1))
    rw [e, h9]
    omega
theorem zq_rn2 (hp : nn_p p) (hφ : zl_lin p w v φ) (hK : zq_dim p w K k) (hKz : ∀ x, (∀ c, c < v → nn_eq p (φ x c) 0) → K x) (hI : zq_dim p v I i) (hIs : ∀ x, I (φ x)) (hIp : ∀ y, I y → ∃ x, ln_eq p v y (φ x)) : w ≤ k + i := by
  have hp2 := (nn_p_pos hp).2.1
  obtain ⟨R, ⟨r1, r2⟩, rfl⟩ := hK
  obtain ⟨R', ⟨q1, q2⟩, rfl⟩ := hI
  have hu : ∃ u : Nat → ln_V, ∀ r, r < v → ln_eq p v (R' r) (φ (u r)) := by
    have h : ∀ r : Nat, ∃ x : ln_V, r < v → ln_eq p v (R' r) (φ x) := fun r => by
      by_cases hr : r < v
      · obtain ⟨x, hx⟩ := hIp _ ((q2 _).mp (ln_in_row q1 hr))
        exact ⟨x, fun _ => hx⟩
      · exact ⟨fun _ => 0, fun z => absurd z hr⟩
    exact ⟨fun r => Classical.choose (h r), fun r => Classical.choose_spec (h r)⟩
  obtain ⟨u, hu⟩ := hu
  obtain ⟨C, c1, c2, c3⟩ := ln_span_ex (N := w) hp (fun q => if q < w then R q else u (q - w)) (zc_2 w R R') (w + v)
  rw [zc_2ct] at c3
  have hC : ∀ q, q < w + v → zc_2 w R R' q q ≠ 0 → ln_in p w C (if q < w then R q else u (q - w)) := (c2 _ (ln_in_sub C)).mp (fun r hr => ln_in_row c1 hr)
  have hC1 : ∀ q, q < w → ln_in p w C (R q) := fun q hq => by
    by_cases h0 : R q q = 0
    · exact (ln_in_sub C).2.2.2 _ _ (fun c hc => by rw [ln_R_zero r1 hq hc h0]; exact nn_eq_rfl p 0) (ln_in_sub C).1
    · have h9 := hC q (by omega) (by
        show (if q = q then (if q < w then R q q else R' (q - w) (q - w)) else 0) ≠ 0
        rw [if_pos rfl, if_pos hq]
        exact h0)
      rw [if_pos hq] at h9
      exact h9
  have hC2 : ∀ r, r < v → R' r r ≠ 0 → ln_in p w C (u r) := fun r hr h0 => by
    have h9 := hC (w + r) (by omega) (by
      show (if w + r = w + r then (if w + r < w then R (w + r) (w + r) else R' (w + r - w) (w + r - w)) else 0) ≠ 0
      rw [if_pos rfl, if_neg (by omega), Nat.add_sub_cancel_left]
      exact h0)
    rw [if_neg (by omega), Nat.add_sub_cancel_left] at h9
    exact h9
  have hall : ∀ x, ln_in p w C x := by
    intro x
    have hs : ln_in p w C (fun c => nn_sm v (fun r => (if R' r r = 0 then 0 else φ x r) * u r c)) := by
      have h9 := ln_sub_sm (ln_in_sub (p := p) (w := w) C) (R := fun r => if R' r r = 0 then fun _ => 0 else u r) (fun r => if R' r r = 0 then 0 else φ x r) v (fun r hr => by
        show ln_in p w C (if R' r r = 0 then fun _ => 0 else u r)
        by_cases h0 : R' r r = 0
        · rw [if_pos h0]
          exact (ln_in_sub C).1
        · rw [if_neg h0]
          exact hC2 r hr h0)
      refine (ln_in_sub C).2.2.2 _ _ (fun c hc => ?_) h9
      refine nn_eq_sm v (fun r hr => ?_)
      by_cases h0 : R' r r = 0
      · rw [if_pos h0, if_pos h0, Int.zero_mul, Int.zero_mul]
        exact nn_eq_rfl p 0
      · rw [if_neg h0, if_neg h0]
        exact nn_eq_rfl p _
    have hy : ln_in p w C (fun c => x c + (-1) * nn_sm v (fun r => (if R' r r = 0 then 0 else φ x r) * u r c)) := by
      refine ln_in_W (ln_in_sub C) hC1 ((r2 _).mpr (hKz _ (fun c hc => ?_)))
      have e1 := hφ.1 x (fun c => (-1) * nn_sm v (fun r => (if R' r r = 0 then 0 else φ x r) * u r c)) c hc
      have e2 := hφ.2.1 (-1) (fun c => nn_sm v (fun r => (if R' r r = 0 then 0 else φ x r) * u r c)) c hc
      have e3 := zl_sm hφ u (fun r => if R' r r = 0 then 0 else φ x r) v c hc
      have e4 : nn_eq p (nn_sm v (fun r => (if R' r r = 0 then 0 else φ x r) * φ (u r) c)) (nn_sm v (fun r => φ x r * R' r c)) := nn_eq_sm v (fun r hr => by
        by_cases h0 : R' r r = 0
        · rw [if_pos h0, ln_R_zero q1 hr hc h0, Int.zero_mul, Int.mul_zero]
          exact nn_eq_rfl p 0
        · rw [if_neg h0]
          exact nn_eq_mul (nn_eq_rfl p _) (nn_eq_symm (hu r hr c hc)))
      have e5 : nn_eq p (φ x c) (nn_sm v (fun r => φ x r * R' r c)) := (q2 _).mpr (hIs x) c hc
      have e6 : nn_eq p (φ (fun c => nn_sm v (fun r => (if R' r r = 0 then 0 else φ x r) * u r c)) c) (φ x c) := nn_eq_trans e3 (nn_eq_trans e4 (nn_eq_symm e5))
      have e7 := nn_eq_trans e1 (nn_eq_add (nn_eq_rfl p (φ x c)) (nn_eq_trans e2 (nn_eq_mul (nn_eq_rfl p (-1)) e6)))
      rw [show φ x c + -1 * φ x c = 0 by omega] at e7
      exact e7
    refine (ln_in_sub C).2.2.2 _ _ (fun c hc => ?_) ((ln_in_sub C).2.1 _ _ hy hs)
    show nn_eq p (x c + (-1) * nn_sm v (fun r => (if R' r r = 0 then 0 else φ x r) * u r c) + nn_sm v (fun r => (if R' r r = 0 then 0 else φ x r) * u r c)) (x c)
    rw [show ∀ a b : Int, a + (-1) * b + b = a from fun a b => by omega]
    exact nn_eq_rfl p _
  have hfull := (ln_full_ct (by omega) hall).2
  omega
/-- the kernel of a canonical matrix -/
theorem zq_ker (hp : nn_p p) {R : Nat → ln_V} (hR : ln_R p w R) (hK : zq_dim p w (ln_ker p w R) k) : k + ln_ct R w = w := by
  obtain ⟨hp1, hp2, hp3⟩ := nn_p_pos hp
  have hφ : zl_lin p w w (fun x r => nn_sm w (fun c => R r c * x c)) := by
    refine ⟨fun x y r hr => ?_, fun a x r hr => ?_, fun x y h r hr => ?_⟩
    · show nn_eq p (nn_sm w (fun c => R r c * (x c + y c))) (nn_sm w (fun c => R r c * x c) + nn_sm w (fun c => R r c * y c))
      rw [← nn_sm_add]
      refine nn_eq_sm w (fun c _ => ?_)
      rw [Int.mul_add]
      exact nn_eq_rfl p _
    · show nn_eq p (nn_sm w (fun c => R r c * (a * x c))) (a * nn_sm w (fun c => R r c * x c))
      rw [← nn_sm_mul]
      refine nn_eq_sm w (fun c _ => ?_)
      rw [Int.mul_left_comm]
      exact nn_eq_rfl p _
    · exact nn_eq_sm w (fun c hc => nn_eq_mul (nn_eq_rfl p _) (h c hc))
  have hd : ds_is p w (fun r c => if c = r then (if R r r = 0 then 0 else 1) else 0) (fun y => ∀ r, r < w → R r r = 0 → nn_eq p (y r) 0) := by
    refine ⟨fun r hr => ⟨fun c hc => ?_, ?_⟩, fun x => ?_⟩
    · show 0 ≤ (if c = r then (if R r r = 0 then (0 : Int) else 1) else 0) ∧ (if c = r then (if R r r = 0 then (0 : Int) else 1) else 0) < p
      split
      · split <;> omega
      · omega
    · by_cases h0 : R r r = 0
      · refine Or.inl fun c hc => ?_
        show (if c = r then (if R r r = 0 then (0 : Int) else 1) else 0) = 0
        rw [if_pos h0]
        split <;> rfl
      · refine Or.inr ⟨?_, fun c hc => ?_, fun q hq hne => ?_⟩
        · show (if r = r then (if R r r = 0 then (0 : Int) else 1) else 0) = 1
          rw [if_pos rfl, if_neg h0]
        · show (if c = r then (if R r r = 0 then (0 : Int) else 1) else 0) = 0
          rw [if_neg (by omega)]
        · show (if r = q then (if R q q = 0 then (0 : Int) else 1) else 0) = 0
          rw [if_neg (Ne.symm hne)]
    · have e : ∀ c, c < w → nn_sm w (fun r => x r * (if c = r then (if R r r = 0 then (0 : Int) else 1) else 0)) = x c * (if R c c = 0 then 0 else 1) := fun c hc => by
        rw [nn_sm_one w c hc (fun r _ hne => by rw [if_neg (Ne.symm hne), Int.mul_zero]), if_pos rfl]
      constructor
      · intro h r hr h0
        have h9 : nn_eq p (x r) (nn_sm w (fun q => x q * (if r = q then (if R q q = 0 then (0 : Int) else 1) else 0))) := h r hr
        rw [e r hr, if_pos h0, Int.mul_zero] at h9
        exact h9
      · intro h c hc
        show nn_eq p (x c) (nn_sm w (fun q => x q * (if c = q then (if R q q = 0 then (0 : Int) else 1) else 0)))
        rw [e c hc]
        by_cases h0 : R c c = 0
        · rw [if_pos h0, Int.mul_zero]
          exact h c hc h0
        · rw [if_neg h0, Int.mul_one]
          exact nn_eq_rfl p _
  have hct : ln_ct (fun r c => if c = r then (if R r r = 0 then (0 : Int) else 1) else 0) w = ln_ct R w := ln_ct_congr w (fun r hr => by
    show (if r = r then (if R r r = 0 then (0 : Int) else 1) else 0) = 0 ↔ _
    rw [if_pos rfl]
    by_cases h0 : R r r = 0
    · rw [if_pos h0]
      exact ⟨fun _ => h0, fun _ => rfl⟩
    · rw [if_neg h0]
      exact ⟨fun z => absurd z (by omega), fun z => absurd z h0⟩)
  have hp' : ∀ y : ln_V, (∀ r, r < w → R r r = 0 → nn_eq p (y r) 0) → ∃ x : ln_V, ln_eq p w y (fun r => nn_sm w (fun c => R r c * x c)) := by
    intro y hy
    refine ⟨fun c => if R c c = 0 then 0 else y c, fun r hr => ?_⟩
    show nn_eq p (y r) (nn_sm w (fun c => R r c * (if R c c = 0 then 0 else y c)))
    by_cases h0 : R r r = 0
    · rw [nn_sm_0 w (fun c hc => by rw [ln_R_zero hR hr hc h0, Int.zero_mul])]
      exact hy r hr h0
    · rw [nn_sm_one w r hr (fun c hc hne => by
        by_cases h1 : R c c = 0
        · rw [if_pos h1, Int.mul_zero]
        · rw [ln_R_col hR hc hr h1 (Ne.symm hne), Int.zero_mul]), if_neg h0, ln_R_one hR hr h0, Int.one_mul]
      exact nn_eq_rfl p _
  have a1 := zq_rn1 hp hφ hK (fun x hx c hc => hx c hc) ⟨_, hd, hct⟩ (fun y hy W hW h => by
    obtain ⟨x, hx⟩ := hp' y hy
    exact hW.2.2.2 _ _ (ln_eq_symm hx) (h x))
  have a2 := zq_rn2 hp hφ hK (fun x hx c hc => hx c hc) ⟨_, hd, hct⟩ (fun x r hr h0 => by
    show nn_eq p (nn_sm w (fun c => R r c * x c)) 0
    rw [nn_sm_0 w (fun c hc => by rw [ln_R_zero hR hr hc h0, Int.zero_mul])]
    exact nn_eq_rfl p 0) hp'
  omega
end ZDM
end
section
/-! linear maps: of brackets, put together; traces -/
section ZLM
variable {p : Int} {w v N : Nat} {T T' : Nat → Nat → Nat → Int} {φ ψ χ : ln_V → ln_V}
theorem zl_bkr (u : ln_V) : zl_lin p N N (fun x => tt_bk p N T u x) :=
  ⟨fun x y c _ => tt_bk_add_r u x y c, fun a x c _ => tt_bk_mul_r a u x c, fun x y h c _ => tt_bk_congr (ln_eq_rfl u) h c⟩
theorem zl_bkl (u : ln_V) : zl_lin p N N (fun x => tt_bk p N T x u) :=
  ⟨fun x y c _ => tt_bk_add_l x y u c, fun a x c _ => tt_bk_mul_l a x u c, fun x y h c _ => tt_bk_congr h (ln_eq_rfl u) c⟩
theorem zl_comp {m : Nat} (h1 : zl_lin p w m φ) (h2 : zl_lin p m v ψ) : zl_lin p w v (fun x => ψ (φ x)) :=
  ⟨fun x y => ln_eq_trans (h2.2.2 _ _ (h1.1 x y)) (h2.1 (φ x) (φ y)), fun a x => ln_eq_trans (h2.2.2 _ _ (h1.2.1 a x)) (h2.2.1 a (φ x)), fun x y h => h2.2.2 _ _ (h1.2.2 x y h)⟩
theorem zl_add (h1 : zl_lin p w v φ) (h2 : zl_lin p w v ψ) : zl_lin p w v (fun x c => φ x c + ψ x c) := by
  refine ⟨fun x y c hc => ?_, fun a x c hc => ?_, fun x y h c hc => nn_eq_add (h1.2.2 x y h c hc) (h2.2.2 x y h c hc)⟩
  · have h9 := nn_eq_add (h1.1 x y c hc) (h2.1 x y c hc)
    show nn_eq p _ (φ x c + ψ x c + (φ y c + ψ y c))
    rw [show φ x c + ψ x c + (φ y c + ψ y c) = φ x c + φ y c + (ψ x c + ψ y c) by omega]
    exact h9
  · have h9 := nn_eq_add (h1.2.1 a x c hc) (h2.2.1 a x c hc)
    show nn_eq p _ (a * (φ x c + ψ x c))
    rw [Int.mul_add]
    exact h9
theorem zl_neg (h1 : zl_lin p w v φ) : zl_lin p w v (fun x c => -(φ x c)) := by
  refine ⟨fun x y c hc => ?_, fun a x c hc => ?_, fun x y h c hc => ?_⟩
  · have h9 := nn_eq_sub (nn_eq_rfl p 0) (h1.1 x y c hc)
    show nn_eq p (-(φ (fun c => x c + y c) c)) (-(φ x c) + -(φ y c))
    rw [show -(φ (fun c => x c + y c) c) = 0 - φ (fun c => x c + y c) c by omega, show -(φ x c) + -(φ y c) = 0 - (φ x c + φ y c) by omega]
    exact h9
  · have h9 := nn_eq_sub (nn_eq_rfl p 0) (h1.2.1 a x c hc)
    show nn_eq p (-(φ (fun c => a * x c) c)) (a * -(φ x c))
    rw [Int.mul_neg, show -(φ (fun c => a * x c) c) = 0 - φ (fun c => a * x c) c by omega, show -(a * φ x c) = 0 - a * φ x c by omega]
    exact h9
  · have h9 := nn_eq_sub (nn_eq_rfl p 0) (h1.2.2 x y h c hc)
    show nn_eq p (-(φ x c)) (-(φ y c))
    rw [show -(φ x c) = 0 - φ x c by omega, show -(φ y c) = 0 - φ y c by omega]
    exact h9
/-- what is 0 -/
theorem zl_zsub : ln_sub p w (fun x => ∀ c, c < w → nn_eq p (x c) 0) := by
  refine ⟨fun c _ => nn_eq_rfl p 0, fun x y hx hy c hc => ?_, fun a x hx c hc => ?_, fun x y h hx c hc => nn_eq_trans (nn_eq_symm (h c hc)) (hx c hc)⟩
  · have h9 := nn_eq_add (hx c hc) (hy c hc)
    exact h9
  · have h9 := nn_eq_mul (nn_eq_rfl p a) (hx c hc)
    rw [Int.mul_zero] at h9
    exact h9
theorem zl_z (h : zl_lin p w v φ) {x : ln_V} (hx : ∀ c, c < w → nn_eq p (x c) 0) : ∀ c, c < v → nn_eq p (φ x c) 0 := fun c hc => nn_eq_trans (h.2.2 x (fun _ => 0) (fun q hq => hx q hq) c hc) (zl_0 h c hc)
/-- zero at the basis, zero -/
theorem zl_all (h : zl_lin p N v φ) (hz : ∀ i, i < N → ∀ c, c < v → nn_eq p (φ (ln_e i) c) 0) (x : ln_V) : ∀ c, c < v → nn_eq p (φ x c) 0 := ln_e_all (N := N) (W := fun x => ∀ c, c < v → nn_eq p (φ x c) 0) (zl_pre h zl_zsub) hz x
theorem zl_ex (x : ln_V) : ln_eq p N x (fun c => nn_sm N (fun r => x r * ln_e r c)) := ln_in_e x
/-- a linear map by its columns -/
theorem zl_mat (h : zl_lin p N v φ) (x : ln_V) : ln_eq p v (φ x) (fun c => nn_sm N (fun r => x r * φ (ln_e r) c)) := ln_eq_trans (h.2.2 _ _ (zl_ex x)) (zl_sm h ln_e x N)
/-- the trace -/
def zt_r (N : Nat) (φ : ln_V → ln_V) : Int := nn_sm N (fun j => φ (ln_e j) j)
theorem zt_comm (h1 : zl_lin p N N φ) (h2 : zl_lin p N N ψ) : nn_eq p (zt_r N (fun x => φ (ψ x))) (zt_r N (fun x => ψ (φ x))) := by
  have e1 : nn_eq p (zt_r N (fun x => φ (ψ x))) (nn_sm N (fun j => nn_sm N (fun r => ψ (ln_e j) r * φ (ln_e r) j))) := nn_eq_sm N (fun j hj => zl_mat h1 (ψ (ln_e j)) j hj)
  have e2 : nn_eq p (zt_r N (fun x => ψ (φ x))) (nn_sm N (fun j => nn_sm N (fun r => φ (ln_e j) r * ψ (ln_e r) j))) := nn_eq_sm N (fun j hj => zl_mat h2 (φ (ln_e j)) j hj)
  refine nn_eq_trans e1 (nn_eq_trans ?_ (nn_eq_symm e2))
  rw [nn_sm_comm]
  exact nn_eq_sm N (fun r _ => nn_eq_sm N (fun j _ => by rw [Int.mul_comm]; exact nn_eq_rfl p _))
theorem zt_congr (h : ∀ x, ln_eq p N (φ x) (ψ x)) : nn_eq p (zt_r N φ) (zt_r N ψ) := nn_eq_sm N (fun j hj => h (ln_e j) j hj)
theorem zt_add : zt_r N (fun x c => φ x c + ψ x c) = zt_r N φ + zt_r N ψ := nn_sm_add N _ _
theorem zt_sub (h : ∀ x, ln_eq p N (χ x) (fun c => φ x c - ψ x c)) : nn_eq p (zt_r N χ) (zt_r N φ - zt_r N ψ) := by
  refine nn_eq_trans (zt_congr h) ?_
  have e : zt_r N (fun x c => φ x c - ψ x c) = zt_r N φ - zt_r N ψ := by
    have e2 : nn_sm N (fun j => φ (ln_e j) j) = nn_sm N (fun j => (φ (ln_e j) j - ψ (ln_e j) j) + ψ (ln_e j) j) := nn_sm_congr N (fun j _ => by omega)
    have e3 := nn_sm_add N (fun j => φ (ln_e j) j - ψ (ln_e j) j) (fun j => ψ (ln_e j) j)
    show nn_sm N (fun j => φ (ln_e j) j - ψ (ln_e j) j) = nn_sm N (fun j => φ (ln_e j) j) - nn_sm N (fun j => ψ (ln_e j) j)
    rw [e2, e3]
    omega
  rw [e]
  exact nn_eq_rfl p _
/-- the Killing form -/
theorem zk_tr (u v : ln_V) : nn_eq p (tr_v p N T u v) (zt_r N (fun x => tt_bk p N T u (tt_bk p N T v x))) := nn_eq_mod p _
theorem zk_sym (hp : 0 < p) (u v : ln_V) : tr_v p N T u v = tr_v p N T v u := by
  have h9 := nn_eq_trans (zk_tr (p := p) (N := N) (T := T) u v) (nn_eq_trans (zt_comm (zl_bkr u) (zl_bkr v)) (nn_eq_symm (zk_tr v u)))
  exact nn_eq_red h9 ⟨Int.emod_nonneg _ (by omega), Int.emod_lt_of_pos _ hp⟩ ⟨Int.emod_nonneg _ (by omega), Int.emod_lt_of_pos _ hp⟩
theorem zk_add (u u' v : ln_V) : nn_eq p (tr_v p N T (fun c => u c + u' c) v) (tr_v p N T u v + tr_v p N T u' v) := by
  refine nn_eq_trans (zk_tr _ _) (nn_eq_trans ?_ (nn_eq_symm (nn_eq_add (zk_tr u v) (zk_tr u' v))))
  rw [← zt_add]
  exact zt_congr (fun x c _ => tt_bk_add_l u u' (tt_bk p N T v x) c)
theorem zk_mul (a : Int) (u v : ln_V) : nn_eq p (tr_v p N T (fun c => a * u c) v) (a * tr_v p N T u v) := by
  refine nn_eq_trans (zk_tr _ _) (nn_eq_trans ?_ (nn_eq_symm (nn_eq_mul (nn_eq_rfl p a) (zk_tr u v))))
  have e : a * zt_r N (fun x => tt_bk p N T u (tt_bk p N T v x)) = zt_r N (fun x c => a * tt_bk p N T u (tt_bk p N T v x) c) := (nn_sm_mul a N _).symm
  rw [e]
  exact zt_congr (fun x c _ => tt_bk_mul_l a u (tt_bk p N T v x) c)
theorem zk_congr {u u' v v' : ln_V} (hu : ln_eq p N u u') (hv : ln_eq p N v v') : nn_eq p (tr_v p N T u v) (tr_v p N T u' v') := by
  refine nn_eq_trans (zk_tr _ _) (nn_eq_trans (zt_congr (fun x => ?_)) (nn_eq_symm (zk_tr u' v')))
  exact fun c _ => tt_bk_congr hu (fun q _ => tt_bk_congr hv (ln_eq_rfl x) q) c
theorem zk_lin (y : ln_V) : zl_lin p N 1 (fun x _ => tr_v p N T y x) ∧ zl_lin p N 1 (fun x _ => tr_v p N T x y) := by
  have h2 : zl_lin p N 1 (fun x _ => tr_v p N T x y) := ⟨fun a b c _ => zk_add a b y, fun a x c _ => zk_mul a x y, fun a b h c _ => zk_congr h (ln_eq_rfl y)⟩
  have sy : ∀ a b : ln_V, nn_eq p (tr_v p N T a b) (tr_v p N T b a) := fun a b => nn_eq_trans (zk_tr a b) (nn_eq_trans (zt_comm (zl_bkr a) (zl_bkr b)) (nn_eq_symm (zk_tr b a)))
  refine ⟨⟨fun a b c hc => ?_, fun a x c hc => ?_, fun a b h c hc => zk_congr (ln_eq_rfl y) h⟩, h2⟩
  · exact nn_eq_trans (sy _ _) (nn_eq_trans (h2.1 a b c hc) (nn_eq_add (sy a y) (sy b y)))
  · exact nn_eq_trans (sy _ _) (nn_eq_trans (h2.2.1 a x c hc) (nn_eq_mul (nn_eq_rfl p a) (sy x y)))
/-! the Jacobi identity -/
def zj_J (p : Int) (N : Nat) (T : Nat → Nat → Nat → Int) (u v w : ln_V) (c : Nat) : Int := tt_bk p N T u (tt_bk p N T v w) c + tt_bk p N T v (tt_bk p N T w u) c + tt_bk p N T w (tt_bk p N T u v) c
def zj_all (p : Int) (N : Nat) (T : Nat → Nat → Nat → Int) : Prop := ∀ u v w c, c < N → nn_eq p (zj_J p N T u v w c) 0
theorem zj_cyc (u v w : ln_V) (c : Nat) : zj_J p N T u v w c = zj_J p N T v w u c := by
  unfold zj_J
  omega
theorem zj_lin (u v : ln_V) : zl_lin p N N (fun w => zj_J p N T u v w) := zl_add (zl_add (zl_comp (zl_bkr v) (zl_bkr u)) (zl_comp (zl_bkl u) (zl_bkr v))) (zl_bkl (tt_bk p N T u v))
theorem zj_swp (ht : tt_ok p N T) (u v w : ln_V) (c : Nat) : nn_eq p (zj_J p N T v u w c) (-(zj_J p N T u v w c)) := by
  have a : ∀ a b d : ln_V, nn_eq p (tt_bk p N T a (tt_bk p N T b d) c) (-(tt_bk p N T a (tt_bk p N T d b) c)) := fun a b d => by
    have h1 : ln_eq p N (tt_bk p N T b d) (fun q => (-1) * tt_bk p N T d b q) := fun q _ => by
      show nn_eq p _ ((-1) * tt_bk p N T d b q)
      rw [show (-1) * tt_bk p N T d b q = -(tt_bk p N T d b q) by omega]
      exact tt_bk_anti ht d b q
    have h2 := nn_eq_trans (tt_bk_congr (T := T) (ln_eq_rfl a) h1 c) (tt_bk_mul_r (-1) a (tt_bk p N T d b) c)
    rw [show (-1) * tt_bk p N T a (tt_bk p N T d b) c = -(tt_bk p N T a (tt_bk p N T d b) c) by omega] at h2
    exact h2
  have h := nn_eq_add (nn_eq_add (a v u w) (a u w v)) (a w v u)
  unfold zj_J
  rw [show -(tt_bk p N T u (tt_bk p N T v w) c + tt_bk p N T v (tt_bk p N T w u) c + tt_bk p N T w (tt_bk p N T u v) c) = -(tt_bk p N T v (tt_bk p N T w u) c) + -(tt_bk p N T u (tt_bk p N T v w) c) + -(tt_bk p N T w (tt_bk p N T u v) c) by omega]
  exact h
theorem zj_two (ht : tt_ok p N T) (u w : ln_V) (c : Nat) : nn_eq p (zj_J p N T u u w c) 0 := by
  have h1 : ln_eq p N (tt_bk p N T u w) (fun q => (-1) * tt_bk p N T w u q) := fun q _ => by
    show nn_eq p _ ((-1) * tt_bk p N T w u q)
    rw [show (-1) * tt_bk p N T w u q = -(tt_bk p N T w u q) by omega]
    exact tt_bk_anti ht w u q
  have h2 := nn_eq_trans (tt_bk_congr (T := T) (ln_eq_rfl u) h1 c) (tt_bk_mul_r (-1) u (tt_bk p N T w u) c)
  have e : tt_bk p N T u u = fun _ => 0 := funext fun q => tt_bk_self ht u q
  have h3 := nn_eq_add h2 (nn_eq_rfl p (tt_bk p N T u (tt_bk p N T w u) c))
  unfold zj_J
  rw [e, tt_bk_0r, Int.add_zero]
  rw [show (-1) * tt_bk p N T u (tt_bk p N T w u) c + tt_bk p N T u (tt_bk p N T w u) c = 0 by omega] at h3
  exact h3
theorem zj_T (ht : tt_ok p N T) {j k : Nat} (hj : j < N) (hk : k < N) : ln_eq p N (T j k) (tt_bk p N T (ln_e j) (ln_e k)) := fun c _ => by
  refine nn_eq_symm (nn_eq_trans (tt_bk_eq c) ?_)
  rw [nn_sm_one N j hj (fun i _ hne => nn_sm_0 N (fun q _ => by rw [show ln_e j i = 0 from if_neg hne, Int.zero_mul, Int.zero_mul])), nn_sm_one N k hk (fun q _ hne => by rw [show ln_e k q = 0 from if_neg hne, Int.mul_zero, Int.zero_mul]), show ln_e j j = 1 from if_pos rfl, show ln_e k k = 1 from if_pos rfl, Int.one_mul, Int.one_mul]
  exact nn_eq_rfl p _
theorem zj_s (ht : tt_ok p N T) {i j k : Nat} (hi : i < N) (hj : j < N) (hk : k < N) (c : Nat) : nn_eq p (jc_s p N T i j k c) (zj_J p N T (ln_e i) (ln_e j) (ln_e k) c) := by
  refine nn_eq_trans (nn_eq_mod p _) (nn_eq_add (nn_eq_add ?_ ?_) ?_)
  · exact tt_bk_congr (ln_eq_rfl _) (zj_T ht hj hk) c
  · exact tt_bk_congr (ln_eq_rfl _) (zj_T ht hk hi) c
  · exact tt_bk_congr (ln_eq_rfl _) (zj_T ht hi hj) c
theorem zj_jf (ht : tt_ok p N T) : jf_d p N T N 0 0 ↔ zj_all p N T := by
  obtain ⟨hp, h1N, hN, hT, -⟩ := id ht
  have hp1 := (nn_p_pos hp).1
  have rg : ∀ i j k c : Nat, 0 ≤ jc_s p N T i j k c ∧ jc_s p N T i j k c < p := fun i j k c => ⟨Int.emod_nonneg _ (by omega), Int.emod_lt_of_pos _ hp1⟩
  constructor
  · intro h
    have base : ∀ i j k, i < j → j < k → k < N → ∀ c, c < N → nn_eq p (zj_J p N T (ln_e i) (ln_e j) (ln_e k) c) 0 := fun i j k h1 h2 h3 c hc => by
      have h9 := h i j k h1 h2 h3 (Or.inl (by omega))
      have h8 := nn_nm_inj hp1 (n := N) (f := jc_s p N T i j k) (g := fun _ => 0) (fun c _ => rg i j k c) (fun c _ => ⟨Int.le_refl 0, hp1⟩) (by rw [h9, nn_nm_eq0 N (fun _ _ => rfl)]) c hc
      have h7 := zj_s ht (show i < N by omega) (show j < N by omega) h3 c
      rw [h8] at h7
      exact nn_eq_symm h7
    have cyc : ∀ u v w : ln_V, (∀ c, c < N → nn_eq p (zj_J p N T u v w c) 0) → ∀ c, c < N → nn_eq p (zj_J p N T v w u c) 0 := fun u v w h c hc => by
      rw [← zj_cyc]
      exact h c hc
    have swp : ∀ u v w : ln_V, (∀ c, c < N → nn_eq p (zj_J p N T u v w c) 0) → ∀ c, c < N → nn_eq p (zj_J p N T v u w c) 0 := fun u v w h c hc => by
      have h9 := nn_eq_sub (nn_eq_rfl p 0) (h c hc)
      rw [show (0 : Int) - zj_J p N T u v w c = -(zj_J p N T u v w c) by omega] at h9
      exact nn_eq_trans (zj_swp ht u v w c) h9
    have all : ∀ i j k, i < N → j < N → k < N → ∀ c, c < N → nn_eq p (zj_J p N T (ln_e i) (ln_e j) (ln_e k) c) 0 := by
      intro i j k hi hj hk
      by_cases e1 : i = j
      · subst e1; exact fun c _ => zj_two ht _ _ c
      by_cases e2 : j = k
      · subst e2; exact cyc _ _ _ (cyc _ _ _ (fun c _ => zj_two ht _ _ c))
      by_cases e3 : i = k
      · subst e3; exact cyc _ _ _ (fun c _ => zj_two ht _ _ c)
      by_cases l1 : i < j
      · by_cases l2 : j < k
        · exact base i j k l1 l2 hk
        · by_cases l3 : i < k
          · exact cyc _ _ _ (cyc _ _ _ (swp _ _ _ (cyc _ _ _ (base i k j l3 (by omega) hj))))
          · exact cyc _ _ _ (base k i j (by omega) l1 hj)
      · by_cases l2 : i < k
        · exact swp _ _ _ (base j i k (by omega) l2 hk)
        · by_cases l3 : j < k
          · exact cyc _ _ _ (cyc _ _ _ (base j k i l3 (by omega) hi))
          · exact cyc _ _ _ (cyc _ _ _ (swp _ _ _ (base k j i (by omega) (by omega) hi)))
    have a1 : ∀ i j, i < N → j < N → ∀ w c, c < N → nn_eq p (zj_J p N T (ln_e i) (ln_e j) w c) 0 := fun i j hi hj w => zl_all (zj_lin (ln_e i) (ln_e j)) (fun k hk => all i j k hi hj hk) w
    have a2 : ∀ i, i < N → ∀ w v c, c < N → nn_eq p (zj_J p N T w (ln_e i) v c) 0 := fun i hi w v => zl_all (zj_lin w (ln_e i)) (fun k hk => cyc _ _ _ (cyc _ _ _ (a1 i k hi hk w))) v
    intro u v w
    exact zl_all (zj_lin u v) (fun k hk => cyc _ _ _ (cyc _ _ _ (a2 k hk v u))) w
  · intro h i j k h1 h2 h3 _
    refine nn_nm_eq0 N (fun c hc => ?_)
    exact nn_eq_red (nn_eq_trans (zj_s ht (by omega) (by omega) h3 c) (h _ _ _ c hc)) (rg i j k c) ⟨Int.le_refl 0, hp1⟩
theorem zl_sub (h : zl_lin p w v φ) (x y : ln_V) : ln_eq p v (φ (fun c => x c - y c)) (fun c => φ x c - φ y c) := by
  intro c hc
  have e : (fun c => x c - y c) = fun c => x c + (-1) * y c := funext fun c => by omega
  rw [e]
  have h1 := nn_eq_trans (h.1 x (fun c => (-1) * y c) c hc) (nn_eq_add (nn_eq_rfl p (φ x c)) (h.2.1 (-1) y c hc))
  show nn_eq p _ (φ x c - φ y c)
  rw [show φ x c - φ y c = φ x c + (-1) * φ y c by omega]
  exact h1
theorem zj_ad (ht : tt_ok p N T) (hJ : zj_all p N T) (a b x : ln_V) : ln_eq p N (tt_bk p N T (tt_bk p N T a b) x) (fun c => tt_bk p N T a (tt_bk p N T b x) c - tt_bk p N T b (tt_bk p N T a x) c) := by
  intro c hc
  have h1 : nn_eq p (tt_bk p N T a (tt_bk p N T b x) c + tt_bk p N T b (tt_bk p N T x a) c + tt_bk p N T x (tt_bk p N T a b) c) 0 := hJ a b x c hc
  have h2 := tt_bk_anti ht (tt_bk p N T a b) x c
  have h3 : ln_eq p N (tt_bk p N T x a) (fun q => (-1) * tt_bk p N T a x q) := fun q _ => by
    show nn_eq p _ ((-1) * tt_bk p N T a x q)
    rw [show (-1) * tt_bk p N T a x q = -(tt_bk p N T a x q) by omega]
    exact tt_bk_anti ht a x q
  have h4 := nn_eq_trans (tt_bk_congr (T := T) (ln_eq_rfl b) h3 c) (tt_bk_mul_r (-1) b (tt_bk p N T a x) c)
  have h5 := nn_eq_trans (nn_eq_symm (nn_eq_add (nn_eq_add (nn_eq_rfl p (tt_bk p N T a (tt_bk p N T b x) c)) h4) h2)) h1
  refine nn_eq_symm ?_
  show nn_eq p (tt_bk p N T a (tt_bk p N T b x) c - tt_bk p N T b (tt_bk p N T a x) c) (tt_bk p N T (tt_bk p N T a b) x c)
  unfold nn_eq at h5 ⊢
  rw [show tt_bk p N T a (tt_bk p N T b x) c + (-1) * tt_bk p N T b (tt_bk p N T a x) c + -(tt_bk p N T (tt_bk p N T a b) x c) - 0 = tt_bk p N T a (tt_bk p N T b x) c - tt_bk p N T b (tt_bk p N T a x) c - tt_bk p N T (tt_bk p N T a b) x c by omega] at h5
  exact h5
/-- with the Jacobi identity the Killing form may be moved -/
theorem zk_inv (hp : 0 < p) (ht : tt_ok p N T) (hJ : zj_all p N T) (u v w : ln_V) : tr_v p N T (tt_bk p N T u v) w = tr_v p N T u (tt_bk p N T v w) := by
  have h1 := zt_sub (p := p) (N := N) (χ := fun x => tt_bk p N T (tt_bk p N T u v) (tt_bk p N T w x)) (φ := fun x => tt_bk p N T u (tt_bk p N T v (tt_bk p N T w x))) (ψ := fun x => tt_bk p N T v (tt_bk p N T u (tt_bk p N T w x))) (fun x => zj_ad ht hJ u v (tt_bk p N T w x))
  have h2 := zt_sub (p := p) (N := N) (χ := fun x => tt_bk p N T u (tt_bk p N T (tt_bk p N T v w) x)) (φ := fun x => tt_bk p N T u (tt_bk p N T v (tt_bk p N T w x))) (ψ := fun x => tt_bk p N T u (tt_bk p N T w (tt_bk p N T v x))) (fun x => ln_eq_trans ((zl_bkr u).2.2 _ _ (zj_ad ht hJ v w x)) (zl_sub (zl_bkr u) _ _))
  have h3 := zt_comm (φ := fun x => tt_bk p N T v x) (ψ := fun x => tt_bk p N T u (tt_bk p N T w x)) (zl_bkr (p := p) v) (zl_comp (zl_bkr w) (zl_bkr u))
  have h4 := nn_eq_trans (zk_tr (p := p) (N := N) (T := T) (tt_bk p N T u v) w) (nn_eq_trans h1 (nn_eq_trans (nn_eq_sub (nn_eq_rfl p _) h3) (nn_eq_symm (nn_eq_trans (zk_tr (p := p) (N := N) (T := T) u (tt_bk p N T v w)) h2))))
  exact nn_eq_red h4 ⟨Int.emod_nonneg _ (by omega), Int.emod_lt_of_pos _ hp⟩ ⟨Int.emod_nonneg _ (by omega), Int.emod_lt_of_pos _ hp⟩
end ZLM
end
section
/-! isomorphisms: what they keep -/
/-- φ takes T' to T, ψ takes it back -/
def zi_iso (p : Int) (N : Nat) (T T' : Nat → Nat → Nat → Int) (φ ψ : ln_V → ln_V) : Prop := zl_lin p N N φ ∧ zl_lin p N N ψ ∧ (∀ y, ln_eq p N (φ (ψ y)) y) ∧ (∀ x, ln_eq p N (ψ (φ x)) x) ∧ ∀ u v, ln_eq p N (φ (tt_bk p N T' u v)) (tt_bk p N T (φ u) (φ v))
section ZIS
variable {p : Int} {N : Nat} {T T' : Nat → Nat → Nat → Int} {φ ψ : ln_V → ln_V} {z z' : Int}
theorem zi_bk (h : zi_iso p N T T' φ ψ) (u v : ln_V) : ln_eq p N (tt_bk p N T' u v) (ψ (tt_bk p N T (φ u) (φ v))) := ln_eq_trans (ln_eq_symm (h.2.2.2.1 _)) (h.2.1.2.2 _ _ (h.2.2.2.2 u v))
theorem zi_symm (h : zi_iso p N T T' φ ψ) : zi_iso p N T' T ψ φ := by
  refine ⟨h.2.1, h.1, h.2.2.2.1, h.2.2.1, fun u v => ?_⟩
  have h1 : ln_eq p N (tt_bk p N T u v) (tt_bk p N T (φ (ψ u)) (φ (ψ v))) := fun c _ => tt_bk_congr (ln_eq_symm (h.2.2.1 u)) (ln_eq_symm (h.2.2.1 v)) c
  exact ln_eq_trans (h.2.1.2.2 _ _ h1) (ln_eq_symm (zi_bk h (ψ u) (ψ v)))
/-- the series -/
theorem zi_D (h : zi_iso p N T T' φ ψ) (w : Bool) : ∀ k x, ds_D p N T' w k x → ds_D p N T w k (φ x)
  | 0, _, _ => trivial
  | k + 1, x, hx => hx _ (zl_pre h.1 (ds_D_sub (p := p) (N := N) (T := T) w (k + 1))) (fun u v hu hv => (ds_D_sub (p := p) (N := N) (T := T) w (k + 1)).2.2.2 _ _ (ln_eq_symm (h.2.2.2.2 u v)) (fun K hK h2 => h2 _ _ (hu.imp id (zi_D h w k u)) (zi_D h w k v hv)))
theorem zi_ct (hp : nn_p p) (h : zi_iso p N T T' φ ψ) {U U' : ln_P} (h1 : ∀ x, U' x → U (φ x)) (h2 : ∀ x, U x → U' (ψ x)) {R R' : Nat → ln_V} (hR : ds_is p N R U) (hR' : ds_is p N R' U') : ln_ct R' N = ln_ct R N :=
  zq_iso hp h.1 h.2.1 h.2.2.1 h.2.2.2.1 h1 h2 ⟨R', hR', rfl⟩ ⟨R, hR, rfl⟩
theorem zi_Dct (hp : nn_p p) (h : zi_iso p N T T' φ ψ) {w : Bool} {k : Nat} {R R' : Nat → ln_V} (hR : ds_is p N R (ds_D p N T w k)) (hR' : ds_is p N R' (ds_D p N T' w k)) : ln_ct R' N = ln_ct R N := zi_ct hp h (zi_D h w k) (zi_D (zi_symm h) w k) hR hR'
theorem zi_dd (hp : nn_p p) (h : zi_iso p N T T' φ ψ) {b : Bool} {l : Int} (a : an_dd p N T b l z) (a' : an_dd p N T' b l z') : z' = z := by
  rcases a with ⟨a1, a2⟩ | ⟨a1, R, r, a2⟩ <;> rcases a' with ⟨b1, b2⟩ | ⟨b1, R', r', b2⟩
  · omega
  · exact absurd b1 a1
  · exact absurd a1 b1
  · rw [a2, b2, zi_Dct hp h r r']
theorem zi_ki (hp : nn_p p) (h : zi_iso p N T T' φ ψ) (a : an_ki p N T z) (a' : an_ki p N T' z') : z' = z := by
  rcases a with ⟨R, r, b, c⟩ | ⟨R, R2, r, b, r2, c⟩ <;> rcases a' with ⟨R', r', b', c'⟩ | ⟨R', R2', r', b', r2', c'⟩
  · omega
  · exact absurd (by rw [zi_Dct hp h r r']; exact b) b'
  · exact absurd (by rw [← zi_Dct hp h r r']; exact b') b
  · rw [c, c', zi_Dct hp h r2 r2']
/-- the center -/
theorem zi_cen_iff (x : ln_V) : ds_cen p N T x ↔ ∀ v c, c < N → nn_eq p (tt_bk p N T x v c) 0 := by
  have e : ∀ j k, j < N → nn_eq p (tt_bk p N T x (ln_e j) k) (nn_sm N (fun i => T i j k * x i)) := fun j k hj => by
    refine nn_eq_trans (tt_bk_eq k) (nn_eq_sm N (fun i _ => ?_))
    rw [nn_sm_one N j hj (fun q _ hne => by rw [show ln_e j q = 0 from if_neg hne, Int.mul_zero, Int.zero_mul]), show ln_e j j = 1 from if_pos rfl, Int.mul_one, Int.mul_comm]
    exact nn_eq_rfl p _
  constructor
  · intro h v
    exact zl_all (zl_bkr x) (fun j hj k hk => nn_eq_trans (e j k hj) (h j k hj hk)) v
  · intro h j k hj hk
    exact nn_eq_trans (nn_eq_symm (e j k hj)) (h (ln_e j) k hk)
theorem zi_cen (h : zi_iso p N T T' φ ψ) (x : ln_V) (hx : ds_cen p N T' x) : ds_cen p N T (φ x) := by
  rw [zi_cen_iff] at hx ⊢
  intro v c hc
  have h1 : nn_eq p (tt_bk p N T (φ x) v c) (tt_bk p N T (φ x) (φ (ψ v)) c) := tt_bk_congr (ln_eq_rfl _) (ln_eq_symm (h.2.2.1 v)) c
  exact nn_eq_trans h1 (nn_eq_trans (nn_eq_symm (h.2.2.2.2 x (ψ v) c hc)) (zl_z h.1 (hx (ψ v)) c hc))
theorem zi_cd (hp : nn_p p) (h : zi_iso p N T T' φ ψ) (a : an_cd p N T z) (a' : an_cd p N T' z') : z' = z := by
  obtain ⟨R, r, b⟩ := a
  obtain ⟨R', r', b'⟩ := a'
  rw [b, b', zi_ct hp h (zi_cen h) (zi_cen (zi_symm h)) r r']
/-- the Jacobi identity -/
theorem zi_J (h : zi_iso p N T T' φ ψ) (hJ : zj_all p N T) : zj_all p N T' := by
  intro u v w
  have e : ∀ a b d : ln_V, ln_eq p N (φ (tt_bk p N T' a (tt_bk p N T' b d))) (tt_bk p N T (φ a) (tt_bk p N T (φ b) (φ d))) := fun a b d => ln_eq_trans (h.2.2.2.2 a _) ((zl_bkr (φ a)).2.2 _ _ (h.2.2.2.2 b d))
  have h1 : ln_eq p N (φ (zj_J p N T' u v w)) (zj_J p N T (φ u) (φ v) (φ w)) := fun c hc => by
    have a1 := h.1.1 (fun c => tt_bk p N T' u (tt_bk p N T' v w) c + tt_bk p N T' v (tt_bk p N T' w u) c) (tt_bk p N T' w (tt_bk p N T' u v)) c hc
    have a2 := h.1.1 (tt_bk p N T' u (tt_bk p N T' v w)) (tt_bk p N T' v (tt_bk p N T' w u)) c hc
    exact nn_eq_trans a1 (nn_eq_add (nn_eq_trans a2 (nn_eq_add (e u v w c hc) (e v w u c hc))) (e w u v c hc))
  have h2 : ∀ c, c < N → nn_eq p (φ (zj_J p N T' u v w) c) 0 := fun c hc => nn_eq_trans (h1 c hc) (hJ _ _ _ c hc)
  intro c hc
  exact nn_eq_trans (nn_eq_symm (h.2.2.2.1 (zj_J p N T' u v w) c hc)) (zl_z h.2.1 h2 c hc)
theorem zi_jf (ht : tt_ok p N T) (ht' : tt_ok p N T') (h : zi_iso p N T T' φ ψ) (a : an_jf p N T z) (a' : an_jf p N T' z') : z = -9 ↔ z' = -9 := by
  have k : ∀ {T : Nat → Nat → Nat → Int} {z : Int}, tt_ok p N T → an_jf p N T z → (z = -9 ↔ zj_all p N T) := fun ht a => by
    rw [← zj_jf ht]
    rcases a with ⟨I, J, K, a1, a2, a3, a4, a5, a6⟩ | ⟨a1, a2⟩
    · exact ⟨fun e => by omega, fun e => absurd (e I J K a1 a2 a3 (Or.inl (by omega))) a4⟩
    · exact ⟨fun _ => a1, fun _ => a2⟩
  rw [k ht a, k ht' a']
  exact ⟨zi_J h, zi_J (zi_symm h)⟩
/-- the Killing form -/
theorem zi_kl (h : zi_iso p N T T' φ ψ) (u v : ln_V) : nn_eq p (tr_v p N T' u v) (tr_v p N T (φ u) (φ v)) := by
  refine nn_eq_trans (zk_tr u v) (nn_eq_trans ?_ (nn_eq_symm (zk_tr (φ u) (φ v))))
  have e : ∀ x, ln_eq p N (tt_bk p N T' u (tt_bk p N T' v x)) (ψ (tt_bk p N T (φ u) (tt_bk p N T (φ v) (φ x)))) := fun x => ln_eq_trans (zi_bk h u _) (h.2.1.2.2 _ _ ((zl_bkr (φ u)).2.2 _ _ (h.2.2.2.2 v x)))
  refine nn_eq_trans (zt_congr e) ?_
  refine nn_eq_trans (zt_comm (φ := ψ) (ψ := fun x => tt_bk p N T (φ u) (tt_bk p N T (φ v) (φ x))) h.2.1 (zl_comp (zl_comp h.1 (zl_bkr (φ v))) (zl_bkr (φ u)))) ?_
  exact zt_congr (fun x => (zl_comp (zl_bkr (φ v)) (zl_bkr (φ u))).2.2 _ _ (h.2.2.1 x))
/-- what is generated and what it kills -/
theorem zr_gen {w : Nat} {R : Nat → ln_V} {G : ln_P → Prop} (hg : ∀ K, ln_sub p w K → (ln_g w R K ↔ G K)) (x : ln_V) : ln_ker p w R x ↔ G (fun y => nn_eq p (nn_sm w (fun c => x c * y c)) 0) := by
  rw [← hg _ (ln_dot_sub x)]
  exact ⟨fun h r hr => by
    have h9 := h r hr
    show nn_eq p (nn_sm w (fun c => x c * R r c)) 0
    rw [nn_sm_congr w (fun c _ => Int.mul_comm (x c) (R r c))]
    exact h9, fun h r hr => by
    have h9 : nn_eq p (nn_sm w (fun c => x c * R r c)) 0 := h r hr
    rw [nn_sm_congr w (fun c _ => Int.mul_comm (x c) (R r c))] at h9
    exact h9⟩
theorem ln_ker_sub2 {w : Nat} (R : Nat → ln_V) : ln_sub p w (ln_ker p w R) := ln_ker_sub R
/-- the radical -/
def zr_U (p : Int) (N : Nat) (T : Nat → Nat → Nat → Int) : ln_P := fun x => ∀ y, nn_eq p (tr_v p N T y x) 0
theorem zr_dim (hp : nn_p p) (a : an_kr p N T z) : ∃ k : Nat, zq_dim p N (zr_U p N T) k ∧ z = k := by
  obtain ⟨R, r, hg, e⟩ := a
  obtain ⟨k, hk⟩ := zq_ex hp (ln_ker_sub2 (p := p) (w := N) R)
  have h1 := zq_ker hp r hk
  refine ⟨k, zq_iff (fun x => ?_) hk, by omega⟩
  rw [zr_gen hg x]
  have e1 : ∀ i, nn_eq p (nn_sm N (fun c => x c * kl_r p N T i c)) (tr_v p N T (ln_e i) x) := fun i => nn_eq_symm (zl_mat (zk_lin (p := p) (N := N) (T := T) (ln_e i)).1 x 0 (by omega))
  constructor
  · intro h y
    exact zl_all (v := 1) (zk_lin (p := p) (N := N) (T := T) x).2 (fun i hi c _ => nn_eq_trans (nn_eq_symm (e1 i)) (h i hi)) y 0 (by omega)
  · intro h i hi
    exact nn_eq_trans (e1 i) (h (ln_e i))
theorem zi_U (h : zi_iso p N T T' φ ψ) (x : ln_V) (hx : zr_U p N T' x) : zr_U p N T (φ x) := fun y => by
  have h1 : nn_eq p (tr_v p N T y (φ x)) (tr_v p N T (φ (ψ y)) (φ x)) := zk_congr (ln_eq_symm (h.2.2.1 y)) (ln_eq_rfl _)
  exact nn_eq_trans h1 (nn_eq_trans (nn_eq_symm (zi_kl h (ψ y) x)) (hx (ψ y)))
theorem zi_kr (hp : nn_p p) (h : zi_iso p N T T' φ ψ) (a : an_kr p N T z) (a' : an_kr p N T' z') : z' = z := by
  obtain ⟨k, hk, e⟩ := zr_dim hp a
  obtain ⟨k', hk', e'⟩ := zr_dim hp a'
  rw [e, e', zq_iso hp h.1 h.2.1 h.2.2.1 h.2.2.2.1 (zi_U h) (zi_U (zi_symm h)) hk' hk]
end ZIS
end
section
/-! derivations -/
/-- the endomorphism of a matrix, row by row -/
def zd_of (N : Nat) (x : ln_V) : ln_V → ln_V := fun u r => nn_sm N (fun a => x (r * N + a) * u a)
def zd_mat (N : Nat) (φ : ln_V → ln_V) : ln_V := fun q => φ (ln_e (q % N)) (q / N)
def zd_der (p : Int) (N : Nat) (T : Nat → Nat → Nat → Int) (δ : ln_V → ln_V) : Prop := ∀ u v c, c < N → nn_eq p (δ (tt_bk p N T u v) c) (tt_bk p N T (δ u) v c + tt_bk p N T u (δ v) c)
def zd_E (p : Int) (N : Nat) (T : Nat → Nat → Nat → Int) (δ : ln_V → ln_V) (u v : ln_V) (c : Nat) : Int := δ (tt_bk p N T u v) c + -(tt_bk p N T (δ u) v c) + -(tt_bk p N T u (δ v) c)
section ZDE
variable {p : Int} {N : Nat} {T T' : Nat → Nat → Nat → Int} {φ ψ δ : ln_V → ln_V} {z z' : Int}
theorem zd_lin (x : ln_V) : zl_lin p N N (zd_of N x) := by
  refine ⟨fun u v r _ => ?_, fun a u r _ => ?_, fun u v h r _ => nn_eq_sm N (fun a ha => nn_eq_mul (nn_eq_rfl p _) (h a ha))⟩
  · show nn_eq p (nn_sm N (fun a => x (r * N + a) * (u a + v a))) (nn_sm N (fun a => x (r * N + a) * u a) + nn_sm N (fun a => x (r * N + a) * v a))
    rw [← nn_sm_add]
    refine nn_eq_sm N (fun a _ => ?_)
    rw [Int.mul_add]
    exact nn_eq_rfl p _
  · show nn_eq p (nn_sm N (fun q => x (r * N + q) * (a * u q))) (a * nn_sm N (fun q => x (r * N + q) * u q))
    rw [← nn_sm_mul]
    refine nn_eq_sm N (fun q _ => ?_)
    rw [Int.mul_left_comm]
    exact nn_eq_rfl p _
theorem zd_lx (u : ln_V) : zl_lin p (N * N) N (fun x => zd_of N x u) := by
  refine ⟨fun x y r _ => ?_, fun a x r _ => ?_, fun x y h r hr => nn_eq_sm N (fun a ha => nn_eq_mul (h _ (dv_ix hr ha)) (nn_eq_rfl p _))⟩
  · show nn_eq p (nn_sm N (fun a => (x (r * N + a) + y (r * N + a)) * u a)) (nn_sm N (fun a => x (r * N + a) * u a) + nn_sm N (fun a => y (r * N + a) * u a))
    rw [← nn_sm_add]
    refine nn_eq_sm N (fun a _ => ?_)
    rw [Int.add_mul]
    exact nn_eq_rfl p _
  · show nn_eq p (nn_sm N (fun q => a * x (r * N + q) * u q)) (a * nn_sm N (fun q => x (r * N + q) * u q))
    rw [← nn_sm_mul]
    refine nn_eq_sm N (fun q _ => ?_)
    rw [Int.mul_assoc]
    exact nn_eq_rfl p _
theorem zd_at {r a : Nat} (ha : a < N) : zd_mat N φ (r * N + a) = φ (ln_e a) r := by
  have e1 : (r * N + a) % N = a := by rw [Nat.mul_comm, Nat.mul_add_mod, Nat.mod_eq_of_lt ha]
  have e2 : (r * N + a) / N = r := by rw [Nat.mul_comm, Nat.mul_add_div (by omega), Nat.div_eq_of_lt ha, Nat.add_zero]
  show φ (ln_e ((r * N + a) % N)) ((r * N + a) / N) = _
  rw [e1, e2]
theorem zd_of_mat (h : zl_lin p N N φ) (u : ln_V) : ln_eq p N (zd_of N (zd_mat N φ) u) (φ u) := by
  refine fun r hr => nn_eq_trans ?_ (nn_eq_symm (zl_mat h u r hr))
  refine nn_eq_sm N (fun a ha => ?_)
  rw [zd_at ha, Int.mul_comm]
  exact nn_eq_rfl p _
theorem zd_ix {q : Nat} (hq : q < N * N) : q % N < N ∧ q / N < N ∧ q / N * N + q % N = q := by
  have h0 : 0 < N := by
    rcases Nat.eq_zero_or_pos N with e | e
    · subst e; omega
    · exact e
  exact ⟨Nat.mod_lt _ h0, Nat.div_lt_of_lt_mul hq, by rw [Nat.mul_comm]; exact Nat.div_add_mod q N⟩
theorem zd_e (x : ln_V) {i : Nat} (hi : i < N) (r : Nat) : zd_of N x (ln_e i) r = x (r * N + i) := by
  show nn_sm N (fun a => x (r * N + a) * ln_e i a) = _
  rw [nn_sm_one N i hi (fun a _ hne => by rw [show ln_e i a = 0 from if_neg hne, Int.mul_zero]), show ln_e i i = 1 from if_pos rfl, Int.mul_one]
theorem zd_mat_of (x : ln_V) : ln_eq p (N * N) (zd_mat N (zd_of N x)) x := fun q hq => by
  obtain ⟨h1, h2, h3⟩ := zd_ix hq
  show nn_eq p (zd_of N x (ln_e (q % N)) (q / N)) (x q)
  rw [zd_e x h1, h3]
  exact nn_eq_rfl p _
theorem zd_mat_congr (h : ∀ u, ln_eq p N (φ u) (ψ u)) : ln_eq p (N * N) (zd_mat N φ) (zd_mat N ψ) := fun q hq => h _ _ (zd_ix hq).2.1
theorem zd_lmat (h : zl_lin p N N ψ) : zl_lin p (N * N) (N * N) (fun x => zd_mat N (fun u => ψ (zd_of N x (φ u)))) := by
  have l : ∀ u, zl_lin p (N * N) N (fun x => ψ (zd_of N x u)) := fun u => zl_comp (zd_lx u) h
  exact ⟨fun x y q hq => (l (φ (ln_e (q % N)))).1 x y _ (zd_ix hq).2.1, fun a x q hq => (l (φ (ln_e (q % N)))).2.1 a x _ (zd_ix hq).2.1, fun x y e q hq => (l (φ (ln_e (q % N)))).2.2 x y e _ (zd_ix hq).2.1⟩
theorem zd_congr (h : ∀ u, ln_eq p N (φ u) (ψ u)) (hd : zd_der p N T φ) : zd_der p N T ψ := fun u v c hc =>
  nn_eq_trans (nn_eq_symm (h _ c hc)) (nn_eq_trans (hd u v c hc) (nn_eq_add (tt_bk_congr (h u) (ln_eq_rfl v) c) (tt_bk_congr (ln_eq_rfl u) (h v) c)))
theorem zd_iso (h : zi_iso p N T T' φ ψ) (hδ : zl_lin p N N δ) (hd : zd_der p N T δ) : zd_der p N T' (fun u => ψ (δ (φ u))) := by
  intro u v c hc
  have e1 : ln_eq p N (ψ (δ (φ (tt_bk p N T' u v)))) (ψ (fun c => tt_bk p N T (δ (φ u)) (φ v) c + tt_bk p N T (φ u) (δ (φ v)) c)) := h.2.1.2.2 _ _ (ln_eq_trans (hδ.2.2 _ _ (h.2.2.2.2 u v)) (hd (φ u) (φ v)))
  have e2 := h.2.1.1 (tt_bk p N T (δ (φ u)) (φ v)) (tt_bk p N T (φ u) (δ (φ v)))
  have a : ∀ x, ln_eq p N (φ (ψ (δ (φ x)))) (δ (φ x)) := fun x => h.2.2.1 _
  have e3 : ln_eq p N (tt_bk p N T' (ψ (δ (φ u))) v) (ψ (tt_bk p N T (δ (φ u)) (φ v))) := ln_eq_trans (zi_bk h _ _) (h.2.1.2.2 _ _ (fun c _ => tt_bk_congr (a u) (ln_eq_rfl _) c))
  have e4 : ln_eq p N (tt_bk p N T' u (ψ (δ (φ v)))) (ψ (tt_bk p N T (φ u) (δ (φ v)))) := ln_eq_trans (zi_bk h _ _) (h.2.1.2.2 _ _ (fun c _ => tt_bk_congr (ln_eq_rfl _) (a v) c))
  exact nn_eq_trans (e1 c hc) (nn_eq_trans (e2 c hc) (nn_eq_symm (nn_eq_add (e3 c hc) (e4 c hc))))
/-! the rules -/
theorem zd_one {w c0 : Nat} (hc : c0 < w) (x : ln_V) (t : Int) : nn_sm w (fun c => x c * (if c = c0 then t else 0)) = x c0 * t := by
  rw [nn_sm_one w c0 hc (fun c _ hne => by rw [if_neg hne, Int.mul_zero]), if_pos rfl]
theorem zd_dot (x : ln_V) {i j r : Nat} (hi : i < N) (hj : j < N) (hr : r < N) : nn_eq p (nn_sm (N * N) (fun c => x c * dv_e p N T i j r c)) (nn_sm N (fun a => x (r * N + a) * T i j a + x (a * N + i) * -(T a j r) + x (a * N + j) * -(T i a r))) := by
  have e1 : nn_eq p (nn_sm (N * N) (fun c => x c * dv_e p N T i j r c)) (nn_sm (N * N) (fun c => x c * dv_p N T i j r N c)) := nn_eq_sm _ (fun c _ => nn_eq_mul (nn_eq_rfl p _) (nn_eq_mod p _))
  refine nn_eq_trans e1 ?_
  have e2 : nn_sm (N * N) (fun c => x c * dv_p N T i j r N c) = nn_sm (N * N) (fun c => nn_sm N (fun a => x c * (((if c = r * N + a then T i j a else 0) + (if c = a * N + i then -(T a j r) else 0)) + (if c = a * N + j then -(T i a r) else 0)))) := nn_sm_congr _ (fun c _ => (nn_sm_mul (x c) N _).symm)
  rw [e2, nn_sm_comm]
  refine nn_eq_sm N (fun a ha => ?_)
  have e3 : nn_sm (N * N) (fun c => x c * (((if c = r * N + a then T i j a else 0) + (if c = a * N + i then -(T a j r) else 0)) + (if c = a * N + j then -(T i a r) else 0))) = nn_sm (N * N) (fun c => (x c * (if c = r * N + a then T i j a else 0) + x c * (if c = a * N + i then -(T a j r) else 0)) + x c * (if c = a * N + j then -(T i a r) else 0)) := nn_sm_congr _ (fun c _ => by rw [Int.mul_add, Int.mul_add])
  rw [e3, nn_sm_add (N * N) (fun c => x c * (if c = r * N + a then T i j a else 0) + x c * (if c = a * N + i then -(T a j r) else 0)) (fun c => x c * (if c = a * N + j then -(T i a r) else 0)), nn_sm_add (N * N) (fun c => x c * (if c = r * N + a then T i j a else 0)) (fun c => x c * (if c = a * N + i then -(T a j r) else 0)), zd_one (dv_ix hr ha), zd_one (dv_ix ha hi), zd_one (dv_ix ha hj)]
  exact nn_eq_rfl p _
theorem zd_bl (ht : tt_ok p N T) (y : ln_V) {j : Nat} (hj : j < N) (r : Nat) : nn_eq p (tt_bk p N T y (ln_e j) r) (nn_sm N (fun a => y a * T a j r)) := by
  refine nn_eq_trans (tt_bk_eq r) (nn_eq_sm N (fun i _ => ?_))
  rw [nn_sm_one N j hj (fun q _ hne => by rw [show ln_e j q = 0 from if_neg hne, Int.mul_zero, Int.zero_mul]), show ln_e j j = 1 from if_pos rfl, Int.mul_one]
  exact nn_eq_rfl p _
theorem zd_br (ht : tt_ok p N T) (y : ln_V) {i : Nat} (hi : i < N) (r : Nat) : nn_eq p (tt_bk p N T (ln_e i) y r) (nn_sm N (fun a => y a * T i a r)) := by
  refine nn_eq_trans (tt_bk_eq r) ?_
  rw [nn_sm_one N i hi (fun q _ hne => nn_sm_0 N (fun a _ => by rw [show ln_e i q = 0 from if_neg hne, Int.zero_mul, Int.zero_mul]))]
  refine nn_eq_sm N (fun a _ => ?_)
  rw [show ln_e i i = 1 from if_pos rfl, Int.one_mul]
  exact nn_eq_rfl p _
theorem zd_rule (ht : tt_ok p N T) (x : ln_V) {i j r : Nat} (hi : i < N) (hj : j < N) (hr : r < N) : nn_eq p (nn_sm (N * N) (fun c => x c * dv_e p N T i j r c)) (zd_E p N T (zd_of N x) (ln_e i) (ln_e j) r) := by
  refine nn_eq_trans (zd_dot x hi hj hr) ?_
  have a1 : nn_eq p (zd_of N x (tt_bk p N T (ln_e i) (ln_e j)) r) (nn_sm N (fun a => x (r * N + a) * T i j a)) := (zd_lin x).2.2 _ _ (ln_eq_symm (zj_T ht hi hj)) r hr
  have a2 := zd_bl ht (zd_of N x (ln_e i)) hj r
  have a3 := zd_br ht (zd_of N x (ln_e j)) hi r
  have b2 : nn_sm N (fun a => zd_of N x (ln_e i) a * T a j r) = nn_sm N (fun a => x (a * N + i) * T a j r) := nn_sm_congr N (fun a _ => by rw [zd_e x hi])
  have b3 : nn_sm N (fun a => zd_of N x (ln_e j) a * T i a r) = nn_sm N (fun a => x (a * N + j) * T i a r) := nn_sm_congr N (fun a _ => by rw [zd_e x hj])
  rw [b2] at a2
  rw [b3] at a3
  have n2 := nn_eq_mul (nn_eq_rfl p (-1)) a2
  have n3 := nn_eq_mul (nn_eq_rfl p (-1)) a3
  have s := nn_eq_add (nn_eq_add a1 n2) n3
  have e : nn_sm N (fun a => x (r * N + a) * T i j a + x (a * N + i) * -(T a j r) + x (a * N + j) * -(T i a r)) = nn_sm N (fun a => x (r * N + a) * T i j a) + (-1) * nn_sm N (fun a => x (a * N + i) * T a j r) + (-1) * nn_sm N (fun a => x (a * N + j) * T i a r) := by
    rw [← nn_sm_mul, ← nn_sm_mul, ← nn_sm_add, ← nn_sm_add]
    refine nn_sm_congr N (fun a _ => ?_)
    rw [Int.mul_neg, Int.mul_neg, Int.neg_mul, Int.neg_mul, Int.one_mul, Int.one_mul]
  rw [e]
  refine nn_eq_symm ?_
  unfold zd_E
  rw [show ∀ q : Int, -q = (-1) * q from fun q => by omega, show -(tt_bk p N T (ln_e i) (zd_of N x (ln_e j)) r) = (-1) * tt_bk p N T (ln_e i) (zd_of N x (ln_e j)) r by omega]
  exact s
theorem zd_Eder : (∀ u v c, c < N → nn_eq p (zd_E p N T δ u v c) 0) ↔ zd_der p N T δ := by
  have key : ∀ a b d : Int, nn_eq p (a + -b + -d) 0 ↔ nn_eq p a (b + d) := fun a b d => by
    unfold nn_eq
    rw [show a + -b + -d - 0 = a - (b + d) by omega]
  exact ⟨fun h u v c hc => (key _ _ _).mp (h u v c hc), fun h u v c hc => (key _ _ _).mpr (h u v c hc)⟩
theorem zd_Elin (hδ : zl_lin p N N δ) (u : ln_V) : zl_lin p N N (fun v => zd_E p N T δ u v) ∧ zl_lin p N N (fun v => zd_E p N T δ v u) :=
  ⟨zl_add (zl_add (zl_comp (zl_bkr u) hδ) (zl_neg (zl_bkr (δ u)))) (zl_neg (zl_comp hδ (zl_bkr u))), zl_add (zl_add (zl_comp (zl_bkl u) hδ) (zl_neg (zl_comp hδ (zl_bkl u)))) (zl_neg (zl_bkl (δ u)))⟩
theorem zd_Eanti (ht : tt_ok p N T) (hδ : zl_lin p N N δ) (u v : ln_V) (c : Nat) (hc : c < N) : nn_eq p (zd_E p N T δ v u c) (-(zd_E p N T δ u v c)) := by
  have h1 : ln_eq p N (tt_bk p N T v u) (fun q => (-1) * tt_bk p N T u v q) := fun q _ => by
    show nn_eq p _ ((-1) * tt_bk p N T u v q)
    rw [show (-1) * tt_bk p N T u v q = -(tt_bk p N T u v q) by omega]
    exact tt_bk_anti ht u v q
  have h2 := nn_eq_trans (hδ.2.2 _ _ h1 c hc) (hδ.2.1 (-1) (tt_bk p N T u v) c hc)
  have h3 := nn_eq_mul (nn_eq_rfl p (-1)) (tt_bk_anti ht u (δ v) c)
  have h4 := nn_eq_mul (nn_eq_rfl p (-1)) (tt_bk_anti ht (δ u) v c)
  have h5 := nn_eq_add (nn_eq_add h2 h3) h4
  have e1 : zd_E p N T δ v u c = δ (tt_bk p N T v u) c + (-1) * tt_bk p N T (δ v) u c + (-1) * tt_bk p N T v (δ u) c := by unfold zd_E; omega
  have e2 : -(zd_E p N T δ u v c) = (-1) * δ (tt_bk p N T u v) c + (-1) * -(tt_bk p N T u (δ v) c) + (-1) * -(tt_bk p N T (δ u) v c) := by unfold zd_E; omega
  rw [e1, e2]
  exact h5
theorem zd_Eself (ht : tt_ok p N T) (hδ : zl_lin p N N δ) (u : ln_V) (c : Nat) (hc : c < N) : nn_eq p (zd_E p N T δ u u c) 0 := by
  have h1 : tt_bk p N T u u = fun _ => 0 := funext fun q => tt_bk_self ht u q
  have h2 := zl_0 hδ c hc
  have h3 := nn_eq_mul (nn_eq_rfl p (-1)) (tt_bk_anti ht (δ u) u c)
  have h5 := nn_eq_add (nn_eq_add h2 (nn_eq_rfl p (-(tt_bk p N T (δ u) u c)))) h3
  unfold zd_E
  rw [h1, show -(tt_bk p N T u (δ u) c) = (-1) * tt_bk p N T u (δ u) c by omega]
  refine nn_eq_trans h5 ?_
  show nn_eq p (0 + -(tt_bk p N T (δ u) u c) + (-1) * -(tt_bk p N T (δ u) u c)) 0
  rw [show 0 + -(tt_bk p N T (δ u) u c) + (-1) * -(tt_bk p N T (δ u) u c) = 0 by omega]
  exact nn_eq_rfl p 0
theorem zd_rules (ht : tt_ok p N T) (x : ln_V) : (∀ i j r, i < j → j < N → r < N → nn_eq p (nn_sm (N * N) (fun c => x c * dv_e p N T i j r c)) 0) ↔ zd_der p N T (zd_of N x) := by
  rw [← zd_Eder]
  have hδ := zd_lin (p := p) (N := N) x
  constructor
  · intro h
    have base : ∀ i j, i < j → j < N → ∀ c, c < N → nn_eq p (zd_E p N T (zd_of N x) (ln_e i) (ln_e j) c) 0 := fun i j h1 h2 c hc => nn_eq_trans (nn_eq_symm (zd_rule ht x (by omega) h2 hc)) (h i j c h1 h2 hc)
    have all : ∀ i j, i < N → j < N → ∀ c, c < N → nn_eq p (zd_E p N T (zd_of N x) (ln_e i) (ln_e j) c) 0 := by
      intro i j hi hj
      rcases Nat.lt_trichotomy i j with e | e | e
      · exact base i j e hj
      · subst e; exact zd_Eself ht hδ _
      · intro c hc
        have h9 := nn_eq_sub (nn_eq_rfl p 0) (base j i e hi c hc)
        rw [show (0 : Int) - zd_E p N T (zd_of N x) (ln_e j) (ln_e i) c = -(zd_E p N T (zd_of N x) (ln_e j) (ln_e i) c) by omega] at h9
        exact nn_eq_trans (zd_Eanti ht hδ _ _ c hc) h9
    intro u v
    exact zl_all (zd_Elin hδ v).2 (fun i hi => zl_all (zd_Elin hδ (ln_e i)).1 (fun j hj => all i j hi hj) v) u
  · intro h i j r h1 h2 h3
    exact nn_eq_trans (zd_rule ht x (by omega) h2 h3) (h _ _ r h3)
theorem zd_dim (ht : tt_ok p N T) (a : an_de p N T z) : ∃ k : Nat, zq_dim p (N * N) (fun x => zd_der p N T (zd_of N x)) k ∧ z = k := by
  obtain ⟨hp, -⟩ := id ht
  obtain ⟨R, r, hg, e⟩ := a
  obtain ⟨k, hk⟩ := zq_ex hp (ln_ker_sub2 (p := p) (w := N * N) R)
  have h1 := zq_ker hp r hk
  refine ⟨k, zq_iff (fun x => ?_) hk, by omega⟩
  rw [zr_gen (G := fun K => ∀ i j r, i < j → j < N → r < N → K (dv_e p N T i j r)) hg x]
  exact zd_rules ht x
theorem zi_de (ht : tt_ok p N T) (ht' : tt_ok p N T') (h : zi_iso p N T T' φ ψ) (a : an_de p N T z) (a' : an_de p N T' z') : z' = z := by
  obtain ⟨hp, -⟩ := id ht
  obtain ⟨k, hk, e⟩ := zd_dim ht a
  obtain ⟨k', hk', e'⟩ := zd_dim ht' a'
  have key : ∀ {T T' : Nat → Nat → Nat → Int} {φ ψ : ln_V → ln_V}, zi_iso p N T T' φ ψ → ∀ x, zd_der p N T (zd_of N x) → zd_der p N T' (zd_of N (zd_mat N (fun u => ψ (zd_of N x (φ u))))) := fun h x hd =>
    zd_congr (fun u => ln_eq_symm (zd_of_mat (zl_comp (zl_comp h.1 (zd_lin x)) h.2.1) u)) (zd_iso h (zd_lin x) hd)
  have inv : ∀ {T T' : Nat → Nat → Nat → Int} {φ ψ : ln_V → ln_V}, zi_iso p N T T' φ ψ → ∀ x, ln_eq p (N * N) (zd_mat N (fun u => φ (zd_of N (zd_mat N (fun u => ψ (zd_of N x (φ u)))) (ψ u)))) x := fun h x => by
    refine ln_eq_trans (zd_mat_congr (fun u => ?_)) (zd_mat_of x)
    refine ln_eq_trans (h.1.2.2 _ _ (zd_of_mat (zl_comp (zl_comp h.1 (zd_lin x)) h.2.1) _)) ?_
    exact ln_eq_trans (h.2.2.1 _) ((zd_lin x).2.2 _ _ (h.2.2.1 u))
  rw [e, e', zq_iso hp (φ := fun x => zd_mat N (fun u => φ (zd_of N x (ψ u)))) (ψ := fun x => zd_mat N (fun u => ψ (zd_of N x (φ u)))) (zd_lmat h.1) (zd_lmat h.2.1) (inv h) (inv (zi_symm h)) (key (zi_symm h)) (key h) hk' hk]
/-- as many derivations as inner ones -/
theorem zd_inner (ht : tt_ok p N T) (hJ : zj_all p N T) (a : an_de p N T z) (a' : an_cd p N T z') : (N : Int) - z' ≤ z := by
  obtain ⟨hp, -⟩ := id ht
  obtain ⟨k, hk, e⟩ := zd_dim ht a
  obtain ⟨R, r, e'⟩ := a'
  have hα : zl_lin p N (N * N) (fun u => zd_mat N (fun x => tt_bk p N T u x)) := ⟨fun u v q _ => tt_bk_add_l u v _ _, fun b u q _ => tt_bk_mul_l b u _ _, fun u v h q _ => tt_bk_congr h (ln_eq_rfl _) _⟩
  have hI : ln_sub p (N * N) (fun y => ∃ u, ln_eq p (N * N) y (zd_mat N (fun x => tt_bk p N T u x))) := by
    refine ⟨⟨fun _ => 0, ln_eq_symm (zl_0 hα)⟩, ?_, ?_, ?_⟩
    · rintro x y ⟨u, hu⟩ ⟨v, hv⟩
      exact ⟨_, ln_eq_trans (fun c hc => nn_eq_add (hu c hc) (hv c hc)) (ln_eq_symm (hα.1 u v))⟩
    · rintro b x ⟨u, hu⟩
      exact ⟨_, ln_eq_trans (fun c hc => nn_eq_mul (nn_eq_rfl p b) (hu c hc)) (ln_eq_symm (hα.2.1 b u))⟩
    · rintro x y h ⟨u, hu⟩
      exact ⟨u, ln_eq_trans (ln_eq_symm h) hu⟩
  obtain ⟨i, hi⟩ := zq_ex hp hI
  have h1 := zq_rn2 hp hα ⟨R, r, rfl⟩ (fun u hu => (zi_cen_iff u).mpr (fun v => zl_all (zl_bkr u) (fun b hb c hc => by
    have h9 := hu (c * N + b) (dv_ix hc hb)
    have h9 : nn_eq p (zd_mat N (fun x => tt_bk p N T u x) (c * N + b)) 0 := h9
    rw [zd_at hb] at h9
    exact h9) v)) hi (fun u => ⟨u, ln_eq_rfl _⟩) (fun y h => h)
  have h2 : i ≤ k := zq_le hp hi hk (fun y => by
    rintro ⟨u, hu⟩
    refine zd_congr (φ := fun x => tt_bk p N T u x) (fun x => ?_) ?_
    · exact ln_eq_trans (ln_eq_symm (zd_of_mat (zl_bkr u) x)) ((zd_lx x).2.2 _ _ (ln_eq_symm hu))
    · intro v w c hc
      have h9 := nn_eq_add (zj_ad ht hJ u v w c hc) (nn_eq_rfl p (tt_bk p N T v (tt_bk p N T u w) c))
      rw [show tt_bk p N T u (tt_bk p N T v w) c - tt_bk p N T v (tt_bk p N T u w) c + tt_bk p N T v (tt_bk p N T u w) c = tt_bk p N T u (tt_bk p N T v w) c by omega] at h9
      exact nn_eq_symm h9)
  omega
end ZDE
end
section
/-! changes of the basis are isomorphisms; changed back -/
/-- rows put together -/
def zb_f (N : Nat) (F : Nat → ln_V) : ln_V → ln_V := fun x c => nn_sm N (fun k => x k * F k c)
section ZCH
variable {p : Int} {v N : Nat} {T T' : Nat → Nat → Nat → Int} {φ ψ : ln_V → ln_V} {F G F' G' : Nat → ln_V}
theorem zl_same (h1 : zl_lin p N v φ) (h2 : zl_lin p N v ψ) (h : ∀ i, i < N → ln_eq p v (φ (ln_e i)) (ψ (ln_e i))) (x : ln_V) : ln_eq p v (φ x) (ψ x) :=
  ln_eq_trans (zl_mat h1 x) (ln_eq_trans (fun c hc => nn_eq_sm N (fun r hr => nn_eq_mul (nn_eq_rfl p _) (h r hr c hc))) (ln_eq_symm (zl_mat h2 x)))
theorem zb_lin : zl_lin p N N (zb_f N F) := by
  refine ⟨fun x y c _ => ?_, fun a x c _ => ?_, fun x y h c _ => nn_eq_sm N (fun k hk => nn_eq_mul (h k hk) (nn_eq_rfl p _))⟩
  · show nn_eq p (nn_sm N (fun k => (x k + y k) * F k c)) (nn_sm N (fun k => x k * F k c) + nn_sm N (fun k => y k * F k c))
    rw [← nn_sm_add]
    refine nn_eq_sm N (fun k _ => ?_)
    rw [Int.add_mul]
    exact nn_eq_rfl p _
  · show nn_eq p (nn_sm N (fun k => a * x k * F k c)) (a * nn_sm N (fun k => x k * F k c))
    rw [← nn_sm_mul]
    refine nn_eq_sm N (fun k _ => ?_)
    rw [Int.mul_assoc]
    exact nn_eq_rfl p _
theorem zb_e {i : Nat} (hi : i < N) : ln_eq p N (zb_f N F (ln_e i)) (F i) := fun c _ => by
  show nn_eq p (nn_sm N (fun k => ln_e i k * F k c)) (F i c)
  rw [nn_sm_one N i hi (fun k _ hne => by rw [show ln_e i k = 0 from if_neg hne, Int.zero_mul]), show ln_e i i = 1 from if_pos rfl, Int.one_mul]
  exact nn_eq_rfl p _
theorem zb_inv (h : ∀ k, k < N → ln_eq p N (zb_f N F (G k)) (ln_e k)) (y : ln_V) : ln_eq p N (zb_f N F (zb_f N G y)) y :=
  zl_same (φ := fun y => zb_f N F (zb_f N G y)) (ψ := fun y => y) (zl_comp zb_lin zb_lin) ⟨fun x y => ln_eq_rfl _, fun a x => ln_eq_rfl _, fun x y h => h⟩ (fun i hi => ln_eq_trans (zb_lin.2.2 _ _ (zb_e hi)) (h i hi)) y
theorem zb_iso (ht : tt_ok p N T) (h1 : ∀ k, k < N → ln_eq p N (zb_f N F (G k)) (ln_e k)) (h2 : ∀ k, k < N → ln_eq p N (zb_f N G (F k)) (ln_e k)) : zi_iso p N T (ch_T p N T F G) (zb_f N F) (zb_f N G) := by
  refine ⟨zb_lin, zb_lin, zb_inv h1, zb_inv h2, fun u v => ?_⟩
  have ht' := ch_ok ht F G
  have e : ln_eq p N (tt_bk p N (ch_T p N T F G) u v) (zb_f N G (tt_bk p N T (zb_f N F u) (zb_f N F v))) := by
    refine zl_same (φ := fun u => tt_bk p N (ch_T p N T F G) u v) (ψ := fun u => zb_f N G (tt_bk p N T (zb_f N F u) (zb_f N F v))) (zl_bkl v) (zl_comp (zl_comp zb_lin (zl_bkl (zb_f N F v))) zb_lin) (fun i hi => ?_) u
    refine zl_same (φ := fun v => tt_bk p N (ch_T p N T F G) (ln_e i) v) (ψ := fun v => zb_f N G (tt_bk p N T (zb_f N F (ln_e i)) (zb_f N F v))) (zl_bkr (ln_e i)) (zl_comp (zl_comp zb_lin (zl_bkr (zb_f N F (ln_e i)))) zb_lin) (fun j hj => ?_) v
    refine ln_eq_trans (ln_eq_symm (zj_T ht' hi hj)) ?_
    have e1 : ln_eq p N (ch_T p N T F G i j) (zb_f N G (tt_bk p N T (F i) (F j))) := fun c hc => by
      unfold ch_T
      rw [if_pos ⟨hi, hj, hc⟩]
      exact nn_eq_mod p _
    refine ln_eq_trans e1 (zb_lin.2.2 _ _ (fun c _ => ?_))
    exact tt_bk_congr (ln_eq_symm (zb_e hi)) (ln_eq_symm (zb_e hj)) c
  exact ln_eq_trans (zb_lin.2.2 _ _ e) (zb_inv h1 _)
/-- a table by its brackets -/
theorem zb_same (ht : tt_ok p N T) (ht' : tt_ok p N T') (h : ∀ i j, i < N → j < N → ln_eq p N (T' i j) (T i j)) : T' = T := by
  funext i j k
  by_cases e : i < N ∧ j < N ∧ k < N
  · exact nn_eq_red (h i j e.1 e.2.1 k e.2.2) (ht'.2.2.2.1 i j k) (ht.2.2.2.1 i j k)
  · rw [ht.2.2.2.2.1 i j k (by omega), ht'.2.2.2.2.1 i j k (by omega)]
/-- changed, and changed back -/
theorem zb_back (ht : tt_ok p N T) (h1 : ∀ k, k < N → ln_eq p N (zb_f N F (G k)) (ln_e k)) (h2 : ∀ k, k < N → ln_eq p N (zb_f N G (F k)) (ln_e k)) (h3 : ∀ k, k < N → ln_eq p N (zb_f N F' (G' k)) (ln_e k)) (h4 : ∀ k, k < N → ln_eq p N (zb_f N F (F' k)) (ln_e k)) : ch_T p N (ch_T p N T F G) F' G' = T := by
  have ht' := ch_ok ht F G
  refine zb_same ht (ch_ok ht' F' G') (fun i j hi hj => ?_)
  have iso := zb_iso ht h1 h2
  have e1 : ln_eq p N (ch_T p N (ch_T p N T F G) F' G' i j) (zb_f N G' (tt_bk p N (ch_T p N T F G) (F' i) (F' j))) := fun c hc => by
    unfold ch_T
    rw [if_pos ⟨hi, hj, hc⟩]
    exact nn_eq_mod p _
  have e2 : ∀ y, ln_eq p N (zb_f N G' y) (zb_f N F y) := fun y => by
    have a := zb_inv (F := F) (G := F') h4 (zb_f N G' y)
    have b := zb_lin (p := p) (F := F).2.2 _ _ (zb_inv h3 y)
    exact ln_eq_trans (ln_eq_symm a) b
  refine ln_eq_trans e1 (ln_eq_trans (e2 _) (ln_eq_trans (iso.2.2.2.2 _ _) ?_))
  exact ln_eq_trans (fun c _ => tt_bk_congr (h4 i hi) (h4 j hj) c) (ln_eq_symm (zj_T ht hi hj))
/-! the three changes -/
theorem zb_two {I J : Nat} (hI : I < N) (hJ : J < N) (a : Int) : ln_eq p N (zb_f N F (fun c => ln_e I c + a * ln_e J c)) (fun c => F I c + a * F J c) := fun c hc =>
  nn_eq_trans (zb_lin.1 (ln_e I) (fun c => a * ln_e J c) c hc) (nn_eq_add (zb_e hI c hc) (nn_eq_trans (zb_lin.2.1 a (ln_e J) c hc) (nn_eq_mul (nn_eq_rfl p a) (zb_e hJ c hc))))
theorem zb_add {I J : Nat} (hI : I < N) (hJ : J < N) (hne : I ≠ J) {a b : Int} (hab : nn_eq p (a + b) 0) : ∀ k, k < N → ln_eq p N (zb_f N (ch_u I (fun c => ln_e I c + a * ln_e J c)) (ch_u I (fun c => ln_e I c + b * ln_e J c) k)) (ln_e k) := by
  intro k hk
  by_cases e : k = I
  · subst e
    rw [show ch_u k (fun c => ln_e k c + b * ln_e J c) k = fun c => ln_e k c + b * ln_e J c from if_pos rfl]
    refine ln_eq_trans (zb_two hI hJ b) (fun c _ => ?_)
    rw [show ch_u k (fun c => ln_e k c + a * ln_e J c) k = fun c => ln_e k c + a * ln_e J c from if_pos rfl, show ch_u k (fun c => ln_e k c + a * ln_e J c) J = ln_e J from if_neg (Ne.symm hne)]
    show nn_eq p (ln_e k c + a * ln_e J c + b * ln_e J c) (ln_e k c)
    have h9 := nn_eq_add (nn_eq_rfl p (ln_e k c)) (nn_eq_mul hab (nn_eq_rfl p (ln_e J c)))
    rw [Int.add_mul, Int.zero_mul, Int.add_zero, ← Int.add_assoc] at h9
    exact h9
  · rw [show ch_u I (fun c => ln_e I c + b * ln_e J c) k = ln_e k from if_neg e]
    refine ln_eq_trans (zb_e hk) ?_
    rw [show ch_u I (fun c => ln_e I c + a * ln_e J c) k = ln_e k from if_neg e]
    exact ln_eq_rfl _
theorem zb_scl {I : Nat} (hI : I < N) {a b : Int} (hab : nn_eq p (a * b) 1) : ∀ k, k < N → ln_eq p N (zb_f N (ch_u I (fun c => a * ln_e I c)) (ch_u I (fun c => b * ln_e I c) k)) (ln_e k) := by
  intro k hk
  by_cases e : k = I
  · subst e
    rw [show ch_u k (fun c => b * ln_e k c) k = fun c => b * ln_e k c from if_pos rfl]
    refine ln_eq_trans (zb_lin.2.1 b (ln_e k)) (fun c hc => ?_)
    have h1 := zb_e (p := p) (F := ch_u k (fun c => a * ln_e k c)) hI c hc
    rw [show ch_u k (fun c => a * ln_e k c) k = fun c => a * ln_e k c from if_pos rfl] at h1
    have h2 := nn_eq_mul (nn_eq_rfl p b) h1
    refine nn_eq_trans h2 ?_
    show nn_eq p (b * (a * ln_e k c)) (ln_e k c)
    have h9 := nn_eq_mul hab (nn_eq_rfl p (ln_e k c))
    rw [Int.one_mul, Int.mul_comm a b, Int.mul_assoc] at h9
    exact h9
  · rw [show ch_u I (fun c => b * ln_e I c) k = ln_e k from if_neg e]
    refine ln_eq_trans (zb_e hk) ?_
    rw [show ch_u I (fun c => a * ln_e I c) k = ln_e k from if_neg e]
    exact ln_eq_rfl _
theorem zb_swp {I J : Nat} (hI : I < N) (hJ : J < N) (hne : I ≠ J) : ∀ k, k < N → ln_eq p N (zb_f N (ch_x I J) (ch_x I J k)) (ln_e k) ∧ ln_eq p N (zb_f N (ch_x I J) (ch_x J I k)) (ln_e k) := by
  have hx : ∀ k, ch_x I J k = ch_x J I k := fun k => by
    unfold ch_x
    by_cases e1 : k = J
    · rw [if_pos e1, if_neg (by omega), if_pos e1]
    · rw [if_neg e1]
      by_cases e2 : k = I
      · rw [if_pos e2, if_pos e2]
      · rw [if_neg e2, if_neg e2, if_neg e1]
  have key : ∀ k, k < N → ln_eq p N (zb_f N (ch_x I J) (ch_x I J k)) (ln_e k) := by
    intro k hk
    by_cases e1 : k = J
    · subst e1
      rw [show ch_x I k k = ln_e I from if_pos rfl]
      refine ln_eq_trans (zb_e hI) ?_
      rw [show ch_x I k I = ln_e k by unfold ch_x; rw [if_neg hne, if_pos rfl]]
      exact ln_eq_rfl _
    · by_cases e2 : k = I
      · subst e2
        rw [show ch_x k J k = ln_e J by unfold ch_x; rw [if_neg e1, if_pos rfl]]
        refine ln_eq_trans (zb_e hJ) ?_
        rw [show ch_x k J J = ln_e k from if_pos rfl]
        exact ln_eq_rfl _
      · have e3 : ch_x I J k = ln_e k := by unfold ch_x; rw [if_neg e1, if_neg e2]
        rw [e3]
        refine ln_eq_trans (zb_e hk) ?_
        rw [e3]
        exact ln_eq_rfl _
  exact fun k hk => ⟨key k hk, by rw [← hx]; exact key k hk⟩
end ZCH
end
section
/-! what the law asks of one table -/
section ZFC
variable {p : Int} {N : Nat} {T : Nat → Nat → Nat → Int} {z z' z'' : Int}
theorem fp_dg (hp : nn_p p) (u v f : Int) {k : Nat} (hk : k < N) : nn_dg p (nn_plus p N u v f) k = (nn_dg p u k + f * nn_dg p v k) % p := by
  have hp1 := (nn_p_pos hp).1
  exact nn_dg_nm hp1 N (f := fun k => (nn_dg p u k + f * nn_dg p v k) % p) (fun k _ => ⟨Int.emod_nonneg _ (by omega), Int.emod_lt_of_pos _ hp1⟩) k hk
theorem fp_rg (hp : nn_p p) (u v f : Int) : 0 ≤ nn_plus p N u v f ∧ nn_plus p N u v f < p ^ N := by
  have hp1 := (nn_p_pos hp).1
  exact nn_nm_rg hp1 N (f := fun k => (nn_dg p u k + f * nn_dg p v k) % p) (fun k _ => ⟨Int.emod_nonneg _ (by omega), Int.emod_lt_of_pos _ hp1⟩)
theorem fp_0 (hp : nn_p p) {u v f : Int} (h : ∀ k, k < N → nn_eq p (nn_dg p u k + f * nn_dg p v k) 0) : nn_plus p N u v f = 0 := nn_nm_eq0 N (fun k hk => by
  have h9 := nn_eq_iff.mp (h k hk)
  rw [Int.zero_emod] at h9
  exact h9)
theorem fb_rg (hp : nn_p p) (U V : ln_V) : 0 ≤ nn_nm p N (tt_bk p N T U V) ∧ nn_nm p N (tt_bk p N T U V) < p ^ N := nn_nm_rg (nn_p_pos hp).1 N (fun k _ => tt_bk_rg (nn_p_pos hp).1 U V k)
theorem fb_dg (hp : nn_p p) (U V : ln_V) {k : Nat} (hk : k < N) : nn_dg p (nn_nm p N (tt_bk p N T U V)) k = tt_bk p N T U V k := nn_dg_nm (nn_p_pos hp).1 N (fun k _ => tt_bk_rg (nn_p_pos hp).1 U V k) k hk
theorem fb_eq (hp : nn_p p) (U V : ln_V) : ln_eq p N (nn_dg p (nn_nm p N (tt_bk p N T U V))) (tt_bk p N T U V) := fun c hc => by
  rw [fb_dg hp U V hc]
  exact nn_eq_rfl p _
theorem fb_val {u v : Int} (hu : 0 ≤ u ∧ u < p ^ N) (hv : 0 ≤ v ∧ v < p ^ N) (h : an_br p N T u v z) : z = nn_nm p N (tt_bk p N T (nn_dg p u) (nn_dg p v)) := by
  rcases h with ⟨a, b⟩ | ⟨a, b⟩
  · exact absurd ⟨hu.1, hu.2, hv.1, hv.2⟩ a
  · exact b
theorem fk_val {u v : Int} (hu : 0 ≤ u ∧ u < p ^ N) (hv : 0 ≤ v ∧ v < p ^ N) (h : an_kl p N T u v z) : z = tr_v p N T (nn_dg p u) (nn_dg p v) := by
  rcases h with ⟨a, b⟩ | ⟨a, b⟩
  · exact absurd ⟨hu.1, hu.2, hv.1, hv.2⟩ a
  · exact b
theorem fk_rg (hp : nn_p p) (U V : ln_V) : 0 ≤ tr_v p N T U V ∧ tr_v p N T U V < p := ⟨Int.emod_nonneg _ (by have := (nn_p_pos hp).1; omega), Int.emod_lt_of_pos _ (nn_p_pos hp).1⟩
theorem ff_self (ht : tt_ok p N T) (U : ln_V) : nn_nm p N (tt_bk p N T U U) = 0 := nn_nm_eq0 N (fun k _ => tt_bk_self ht U k)
theorem ff_anti (ht : tt_ok p N T) (U V : ln_V) : nn_plus p N (nn_nm p N (tt_bk p N T U V)) (nn_nm p N (tt_bk p N T V U)) 1 = 0 := by
  obtain ⟨hp, -⟩ := id ht
  refine fp_0 hp (fun k hk => ?_)
  rw [fb_dg hp U V hk, fb_dg hp V U hk, Int.one_mul]
  have h9 := nn_eq_add (nn_eq_rfl p (tt_bk p N T U V k)) (tt_bk_anti ht U V k)
  rw [show tt_bk p N T U V k + -(tt_bk p N T U V k) = 0 by omega] at h9
  exact h9
theorem fp_eq (hp : nn_p p) (u w c : Int) : ln_eq p N (nn_dg p (nn_plus p N u w c)) (fun k => nn_dg p u k + c * nn_dg p w k) := fun k hk => by
  rw [fp_dg hp u w c hk]
  exact nn_eq_mod p _
theorem ff_lin (ht : tt_ok p N T) (u w c : Int) (V : ln_V) : nn_nm p N (tt_bk p N T (nn_dg p (nn_plus p N u w c)) V) = nn_plus p N (nn_nm p N (tt_bk p N T (nn_dg p u) V)) (nn_nm p N (tt_bk p N T (nn_dg p w) V)) c := by
  obtain ⟨hp, -⟩ := id ht
  have hp1 := (nn_p_pos hp).1
  refine nn_nm_congr N (fun k hk => ?_)
  rw [fb_dg hp _ V hk, fb_dg hp _ V hk]
  refine nn_eq_red ?_ (tt_bk_rg hp1 _ _ _) ⟨Int.emod_nonneg _ (by omega), Int.emod_lt_of_pos _ hp1⟩
  refine nn_eq_trans (tt_bk_congr (fp_eq hp u w c) (ln_eq_rfl V) k) (nn_eq_trans ?_ (nn_eq_symm (nn_eq_mod p _)))
  exact nn_eq_trans (tt_bk_add_l (nn_dg p u) (fun k => c * nn_dg p w k) V k) (nn_eq_add (nn_eq_rfl p _) (tt_bk_mul_l c (nn_dg p w) V k))
theorem ff_kl (ht : tt_ok p N T) (u w c : Int) (V : ln_V) : tr_v p N T (nn_dg p (nn_plus p N u w c)) V = (tr_v p N T (nn_dg p u) V + c * tr_v p N T (nn_dg p w) V) % p := by
  obtain ⟨hp, -⟩ := id ht
  have hp1 := (nn_p_pos hp).1
  refine nn_eq_red ?_ (fk_rg hp _ _) ⟨Int.emod_nonneg _ (by omega), Int.emod_lt_of_pos _ hp1⟩
  refine nn_eq_trans (zk_congr (fp_eq hp u w c) (ln_eq_rfl V)) (nn_eq_trans ?_ (nn_eq_symm (nn_eq_mod p _)))
  exact nn_eq_trans (zk_add (nn_dg p u) (fun k => c * nn_dg p w k) V) (nn_eq_add (nn_eq_rfl p _) (zk_mul c (nn_dg p w) V))
theorem ff_jac (ht : tt_ok p N T) (hJ : zj_all p N T) (U V W : ln_V) : nn_plus p N (nn_plus p N (nn_nm p N (tt_bk p N T U (nn_dg p (nn_nm p N (tt_bk p N T V W))))) (nn_nm p N (tt_bk p N T V (nn_dg p (nn_nm p N (tt_bk p N T W U))))) 1) (nn_nm p N (tt_bk p N T W (nn_dg p (nn_nm p N (tt_bk p N T U V))))) 1 = 0 := by
  obtain ⟨hp, -⟩ := id ht
  refine fp_0 hp (fun k hk => ?_)
  rw [fp_dg hp _ _ _ hk, fb_dg hp _ _ hk, fb_dg hp _ _ hk, fb_dg hp _ _ hk, Int.one_mul, Int.one_mul]
  have e : ∀ A B C : ln_V, nn_eq p (tt_bk p N T A (nn_dg p (nn_nm p N (tt_bk p N T B C))) k) (tt_bk p N T A (tt_bk p N T B C) k) := fun A B C => tt_bk_congr (ln_eq_rfl A) (fb_eq hp B C) k
  exact nn_eq_trans (nn_eq_add (nn_eq_trans (nn_eq_mod p _) (nn_eq_add (e U V W) (e V W U))) (e W U V)) (hJ U V W k hk)
theorem ff_kinv (ht : tt_ok p N T) (hJ : zj_all p N T) (U V W : ln_V) : tr_v p N T (nn_dg p (nn_nm p N (tt_bk p N T U V))) W = tr_v p N T U (nn_dg p (nn_nm p N (tt_bk p N T V W))) := by
  obtain ⟨hp, -⟩ := id ht
  have h1 := nn_eq_red (zk_congr (N := N) (T := T) (fb_eq (N := N) (T := T) hp U V) (ln_eq_rfl W)) (fk_rg hp _ _) (fk_rg hp _ _)
  have h2 := nn_eq_red (zk_congr (N := N) (T := T) (ln_eq_rfl U) (fb_eq (N := N) (T := T) hp V W)) (fk_rg hp _ _) (fk_rg hp _ _)
  rw [h1, h2, zk_inv (nn_p_pos hp).1 ht hJ]
theorem fu_ne (hp : nn_p p) {u : Int} (hu : 0 ≤ u ∧ u < p ^ N) (h : u ≠ 0) : ¬ ∀ c, c < N → nn_eq p (nn_dg p u c) 0 := fun h0 => h (by
  have hp1 := (nn_p_pos hp).1
  rw [← nn_nm_dg hp1 N hu.1 hu.2]
  exact nn_nm_eq0 N (fun k hk => nn_eq_red (h0 k hk) (nn_dg_rg hp1 k u) ⟨Int.le_refl 0, hp1⟩))
/-- the centralizer and the center -/
theorem fc_cz (ht : tt_ok p N T) {u : Int} (hu : 0 ≤ u ∧ u < p ^ N) (a : an_cd p N T z) (b : an_cz p N T u z') : z ≤ z' ∧ (u = 0 → z' = N) ∧ (u ≠ 0 → 1 ≤ z') := by
  obtain ⟨hp, -⟩ := id ht
  obtain ⟨R, r, e⟩ := a
  rcases b with ⟨b1, -⟩ | ⟨-, R', r', e'⟩
  · exact absurd hu b1
  · have hl := zl_bkl (p := p) (N := N) (T := T) (nn_dg p u)
    have hK : ln_sub p N (fun x => ∀ c, c < N → nn_eq p (tt_bk p N T x (nn_dg p u) c) 0) := zl_pre hl zl_zsub
    obtain ⟨k, hk⟩ := zq_ex hp hK
    have h1 := zq_rn1 hp hl hk (fun x hx => hx) ⟨R', r', rfl⟩ (fun y hy W hW h => hy W hW h)
    have h2 : ln_ct R N ≤ k := zq_le hp ⟨R, r, rfl⟩ hk (fun x hx => (zi_cen_iff x).mp hx (nn_dg p u))
    refine ⟨by omega, fun h0 => ?_, fun h0 => ?_⟩
    · have h3 : ln_ct R' N = 0 := zq_zero hp ⟨R', r', rfl⟩ (fun y hy => hy _ zl_zsub (fun x c hc => by
        subst h0
        have e0 : nn_dg p 0 = fun _ => 0 := funext fun k => nn_dg_0 (nn_p_pos hp).1 k
        rw [e0, tt_bk_0r]
        exact nn_eq_rfl p 0))
      omega
    · have h3 : 1 ≤ k := zq_pos hk (u := nn_dg p u) (fun c _ => by rw [tt_bk_self ht]; exact nn_eq_rfl p 0) (fu_ne hp hu h0)
      omega
theorem fc_id (ht : tt_ok p N T) {u : Int} (hu : 0 ≤ u ∧ u < p ^ N) (b : an_id p N T u z) : (u = 0 → z = 0) ∧ (u ≠ 0 → 1 ≤ z) := by
  obtain ⟨hp, -⟩ := id ht
  rcases b with ⟨b1, -⟩ | ⟨-, R', r', e'⟩
  · exact absurd hu b1
  · refine ⟨fun h0 => ?_, fun h0 => ?_⟩
    · have h3 : ln_ct R' N = 0 := zq_zero hp ⟨R', r', rfl⟩ (fun y hy => hy _ zl_zsub (fun c _ => by
        subst h0
        rw [nn_dg_0 (nn_p_pos hp).1]
        exact nn_eq_rfl p 0) (fun a w hw => zl_z (zl_bkr a) hw))
      omega
    · have h3 : 1 ≤ ln_ct R' N := zq_pos ⟨R', r', rfl⟩ (u := nn_dg p u) (fun K _ h _ => h) (fu_ne hp hu h0)
      omega
theorem fc_sd (b : an_sd p N T z' z'' z) (hu : 0 ≤ z' ∧ z' < p ^ N) (hv : 0 ≤ z'' ∧ z'' < p ^ N) : 0 ≤ z ∧ z ≤ N := by
  rcases b with ⟨b1, -⟩ | ⟨-, R', r', e'⟩
  · exact absurd ⟨hu.1, hu.2, hv.1, hv.2⟩ b1
  · have := ln_ct_w R' N
    omega
theorem fc_s1 (ht : tt_ok p N T) {u : Int} (hu : 0 ≤ u ∧ u < p ^ N) (b : an_sd p N T u u z) : (u = 0 → z = 0) ∧ (u ≠ 0 → z = 1) := by
  obtain ⟨hp, -⟩ := id ht
  rcases b with ⟨b1, -⟩ | ⟨-, R', r', e'⟩
  · exact absurd ⟨hu.1, hu.2, hu.1, hu.2⟩ b1
  · refine ⟨fun h0 => ?_, fun h0 => ?_⟩
    · have hz : ∀ c, c < N → nn_eq p (nn_dg p u c) 0 := fun c _ => by
        subst h0
        rw [nn_dg_0 (nn_p_pos hp).1]
        exact nn_eq_rfl p 0
      have h3 : ln_ct R' N = 0 := zq_zero hp ⟨R', r', rfl⟩ (fun y hy => hy _ zl_zsub hz hz (fun a w _ hw => zl_z (zl_bkr a) hw))
      omega
    · have h3 : 1 ≤ ln_ct R' N := zq_pos ⟨R', r', rfl⟩ (u := nn_dg p u) (fun K _ h _ _ => h) (fu_ne hp hu h0)
      obtain ⟨C, c1, c2, c3⟩ := ln_span_ex (N := N) hp (fun _ => nn_dg p u) ln_e 1
      have hCu : ln_in p N C (nn_dg p u) := (c2 _ (ln_in_sub C)).mp (fun r hr => ln_in_row c1 hr) 0 (by omega) (by show (if 0 = 0 then (1 : Int) else 0) ≠ 0; rw [if_pos rfl]; omega)
      have hmin : ∀ W, ln_sub p N W → W (nn_dg p u) → ∀ x, ln_in p N C x → W x := fun W hW hWu x hx => ln_in_W hW ((c2 W hW).mpr (fun _ _ _ => hWu)) hx
      have hcl : ∀ a b, ln_in p N C a → ln_in p N C b → ln_in p N C (tt_bk p N T a b) := fun a b ha hb =>
        hmin _ (tt_sub_l (ln_in_sub C) b) (hmin _ (tt_sub_r (ln_in_sub C) (nn_dg p u)) ((ln_in_sub C).2.2.2 _ _ (fun c _ => by rw [tt_bk_self ht]; exact nn_eq_rfl p 0) (ln_in_sub C).1) b hb) a ha
      have h4 := zq_le hp (U := ds_salg p N T (nn_dg p u) (nn_dg p u)) (V := ln_in p N C) ⟨R', r', rfl⟩ ⟨C, ⟨c1, fun x => Iff.rfl⟩, rfl⟩ (fun x hx => hx _ (ln_in_sub C) hCu hCu hcl)
      rw [ln_ct_e] at c3
      omega
/-! the series -/
theorem fs_in {b : Bool} {l : Int} (hl : 0 ≤ l ∧ l ≤ 9) (a : an_dd p N T b l z) : ∃ R, ds_is p N R (ds_D p N T b l.toNat) ∧ z = (ln_ct R N : Int) := by
  rcases a with ⟨b1, -⟩ | ⟨-, h⟩
  · exact absurd hl b1
  · exact h
theorem fs_rg {b : Bool} {l : Int} (hl : 0 ≤ l ∧ l ≤ 9) (a : an_dd p N T b l z) : 0 ≤ z ∧ z ≤ N := by
  obtain ⟨R, r, e⟩ := fs_in hl a
  have := ln_ct_w R N
  omega
theorem fs_0 (hp : nn_p p) {b : Bool} (a : an_dd p N T b 0 z) : z = N := by
  obtain ⟨R, r, e⟩ := fs_in ⟨by omega, by omega⟩ a
  have h := zq_one hp (U := fun _ => True) ⟨R, r, rfl⟩ (zq_all hp)
  omega
theorem fs_mono (hp : nn_p p) {b : Bool} {l : Int} (hl : 0 ≤ l ∧ l + 1 ≤ 9) (a : an_dd p N T b l z) (a' : an_dd p N T b (l + 1) z') : z' ≤ z := by
  obtain ⟨R, r, e⟩ := fs_in ⟨by omega, by omega⟩ a
  obtain ⟨R', r', e'⟩ := fs_in ⟨by omega, by omega⟩ a'
  rw [show (l + 1).toNat = l.toNat + 1 by omega] at r'
  have h := zq_le hp ⟨R', r', rfl⟩ ⟨R, r, rfl⟩ (fun x => ds_D_desc b l.toNat x)
  omega
theorem fs_sub : ∀ k x, ds_D p N T false k x → ds_D p N T true k x
  | 0, _, _ => trivial
  | k + 1, x, h => h _ (ds_D_sub true (k + 1)) (fun u v _ hv K hK h2 => h2 u v (Or.inl rfl) (fs_sub k v hv))
theorem fs_le (hp : nn_p p) {l : Int} (hl : 0 ≤ l ∧ l ≤ 9) (a : an_dd p N T false l z) (a' : an_dd p N T true l z') : z ≤ z' := by
  obtain ⟨R, r, e⟩ := fs_in hl a
  obtain ⟨R', r', e'⟩ := fs_in hl a'
  have h := zq_le hp ⟨R, r, rfl⟩ ⟨R', r', rfl⟩ (fun x => fs_sub l.toNat x)
  omega
theorem fs_ki (hp : nn_p p) (a : an_dd p N T false 9 z) (a' : an_dd p N T true 9 z') (k : an_ki p N T z'') : z'' = if z' = 0 then 2 else if z = 0 then 1 else 0 := by
  obtain ⟨R, r, e⟩ := fs_in ⟨by omega, by omega⟩ a
  obtain ⟨R', r', e'⟩ := fs_in ⟨by omega, by omega⟩ a'
  rcases k with ⟨S, s, b, c⟩ | ⟨S, S2, s, b, s2, c⟩
  · have h1 := ct_one hp s r'
    rw [if_pos (by omega)]
    exact c
  · have h1 := ct_one hp s r'
    have h2 := ct_one hp s2 r
    rw [if_neg (by omega), c]
    by_cases h0 : ln_ct S2 N = 0
    · rw [if_pos h0, if_pos (by omega)]
    · rw [if_neg h0, if_neg (by omega)]
theorem fs_none (hp : nn_p p) {l : Int} (hl : 0 ≤ l ∧ l ≤ 9) (a : an_dd p N T false l z) (b : an_dv p N T l z z') : z' = -9 := by
  obtain ⟨R, r, e⟩ := fs_in hl a
  rcases b with ⟨b1, -⟩ | ⟨-, S, s, h⟩
  · exact absurd ⟨hl.1, hl.2, by omega⟩ b1
  · have h1 := ct_one hp s r
    rcases h with ⟨-, h⟩ | ⟨q, q1, q2, q3, -⟩
    · exact h
    · have h2 := ln_ct_lt q1 q2
      omega
/-- row k of a level: its lead is q -/
def fs_is (p : Int) (N : Nat) (T : Nat → Nat → Nat → Int) (l k : Int) (q : Nat) (v : Int) : Prop := ∃ R, ds_is p N R (ds_D p N T false l.toNat) ∧ q < N ∧ R q q ≠ 0 ∧ (ln_ct R q : Int) = k ∧ v = nn_nm p N (R q)
theorem fs_row (hp : nn_p p) {l k : Int} (hl : 0 ≤ l ∧ l ≤ 9) (hk : 0 ≤ k ∧ k < z) (a : an_dd p N T false l z) (b : an_dv p N T l k z') : ∃ q, fs_is p N T l k q z' := by
  obtain ⟨R, r, e⟩ := fs_in hl a
  rcases b with ⟨b1, -⟩ | ⟨-, S, s, h⟩
  · exact absurd ⟨hl.1, hl.2, hk.1⟩ b1
  · have h1 := ct_one hp s r
    rcases h with ⟨h, -⟩ | ⟨q, q1, q2, q3, q4⟩
    · omega
    · exact ⟨q, S, s, q1, q2, by omega, q4⟩
theorem fs_lead (hp : nn_p p) {l k v : Int} {q : Nat} (h : fs_is p N T l k q v) : q < N ∧ 1 ≤ v ∧ v < p ^ N ∧ (∀ c, c < q → nn_dg p v c = 0) ∧ nn_dg p v q = 1 := by
  have hp1 := (nn_p_pos hp).1
  obtain ⟨R, r, h1, h2, h3, h4⟩ := h
  have hrg := fun c hc => (r.1 q h1).1 c hc
  have dg : ∀ c, c < N → nn_dg p v c = R q c := fun c hc => by rw [h4]; exact nn_dg_nm hp1 N hrg c hc
  have h5 := nn_nm_rg hp1 N hrg
  have h6 : nn_dg p v q = 1 := by rw [dg q h1]; exact ln_R_one r.1 h1 h2
  refine ⟨h1, ?_, by omega, fun c hc => by rw [dg c (by omega)]; exact ln_R_low r.1 h1 hc, h6⟩
  rcases Int.lt_or_le 0 v with g | g
  · omega
  · have : v = 0 := by omega
    rw [this, nn_dg_0 hp1] at h6
    omega
theorem fs_next (hp : nn_p p) {l k v v' : Int} {q q' : Nat} (h : fs_is p N T l k q v) (h' : fs_is p N T l (k + 1) q' v') : q < q' := by
  obtain ⟨R, r, h1, h2, h3, h4⟩ := h
  obtain ⟨R', r', h1', h2', h3', h4'⟩ := h'
  have e := ds_uniq hp r r'
  have ec : ln_ct R q = ln_ct R' q := ln_ct_congr q (fun c hc => by rw [e c c (by omega) (by omega)])
  rcases Nat.lt_or_ge q q' with g | g
  · exact g
  · have := ln_ct_mono2 (R := R') g
    omega
end ZFC
end
