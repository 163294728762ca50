/-- a private method of a class that the tables say can be made, by its rows of tables_1 -/
def lw_okq (q : MethodName × Nat) : Prop := (q.1.cls ≠ "java/lang/invoke/MethodHandle" ∧ q.1.cls ≠ "java/lang/invoke/VarHandle") ∧ Cond.instantiable q.1.cls q.2 ∈ tables_1 ∧ Cond.privateMethod q.1 ∈ tables_1 ∧ Cond.instanceMethod q.1 ∈ tables_1
theorem lw_p0 : lw_okq (⟨"LieAlgebra", "remember", "()V"⟩, 8) := ⟨⟨by decide +kernel, by decide +kernel⟩, List.mem_of_getElem? (i := 13) (by decide +kernel), List.mem_of_getElem? (i := 203) (by decide +kernel), List.mem_of_getElem? (i := 204) (by decide +kernel)⟩
theorem lw_p1 : lw_okq (⟨"LieAlgebra$Change", "begin", "()V"⟩, 4) := ⟨⟨by decide +kernel, by decide +kernel⟩, List.mem_of_getElem? (i := 117) (by decide +kernel), List.mem_of_getElem? (i := 284) (by decide +kernel), List.mem_of_getElem? (i := 285) (by decide +kernel)⟩
theorem lw_p2 : lw_okq (⟨"LieAlgebra$Change", "apply", "()V"⟩, 4) := ⟨⟨by decide +kernel, by decide +kernel⟩, List.mem_of_getElem? (i := 117) (by decide +kernel), List.mem_of_getElem? (i := 291) (by decide +kernel), List.mem_of_getElem? (i := 292) (by decide +kernel)⟩
theorem lw_p3 : lw_okq (⟨"LieAlgebra$Change", "rewrite", "(I)I"⟩, 4) := ⟨⟨by decide +kernel, by decide +kernel⟩, List.mem_of_getElem? (i := 117) (by decide +kernel), List.mem_of_getElem? (i := 306) (by decide +kernel), List.mem_of_getElem? (i := 307) (by decide +kernel)⟩
theorem lw_p4 : lw_okq (⟨"LieAlgebra$Spaces", "descend", "(IZ)LLieAlgebra$Subspace;"⟩, 4) := ⟨⟨by decide +kernel, by decide +kernel⟩, List.mem_of_getElem? (i := 49) (by decide +kernel), List.mem_of_getElem? (i := 412) (by decide +kernel), List.mem_of_getElem? (i := 413) (by decide +kernel)⟩
theorem lw_p5 : lw_okq (⟨"LieAlgebra$Spaces", "fill", "(LLieAlgebra$Subspace;)V"⟩, 4) := ⟨⟨by decide +kernel, by decide +kernel⟩, List.mem_of_getElem? (i := 49) (by decide +kernel), List.mem_of_getElem? (i := 416) (by decide +kernel), List.mem_of_getElem? (i := 417) (by decide +kernel)⟩
theorem lw_p6 : lw_okq (⟨"LieAlgebra$Subspace", "hasLead", "(I)Z"⟩, 5) := ⟨⟨by decide +kernel, by decide +kernel⟩, List.mem_of_getElem? (i := 55) (by decide +kernel), List.mem_of_getElem? (i := 442) (by decide +kernel), List.mem_of_getElem? (i := 443) (by decide +kernel)⟩
theorem lw_p7 : lw_okq (⟨"LieAlgebra$Subspace", "cell", "(II)I"⟩, 5) := ⟨⟨by decide +kernel, by decide +kernel⟩, List.mem_of_getElem? (i := 55) (by decide +kernel), List.mem_of_getElem? (i := 446) (by decide +kernel), List.mem_of_getElem? (i := 447) (by decide +kernel)⟩
theorem lw_p8 : lw_okq (⟨"LieAlgebra$Subspace", "addRow", "(III)V"⟩, 5) := ⟨⟨by decide +kernel, by decide +kernel⟩, List.mem_of_getElem? (i := 55) (by decide +kernel), List.mem_of_getElem? (i := 450) (by decide +kernel), List.mem_of_getElem? (i := 451) (by decide +kernel)⟩
theorem lw_p9 : lw_okq (⟨"LieAlgebra$Spaces", "addProducts", "(LLieAlgebra$Subspace;LLieAlgebra$Subspace;LLieAlgebra$Subspace;)Z"⟩, 4) := ⟨⟨by decide +kernel, by decide +kernel⟩, List.mem_of_getElem? (i := 49) (by decide +kernel), List.mem_of_getElem? (i := 455) (by decide +kernel), List.mem_of_getElem? (i := 456) (by decide +kernel)⟩
theorem lw_p10 : lw_okq (⟨"LieAlgebra$Subspace", "rowAsVector", "(I)I"⟩, 5) := ⟨⟨by decide +kernel, by decide +kernel⟩, List.mem_of_getElem? (i := 55) (by decide +kernel), List.mem_of_getElem? (i := 463) (by decide +kernel), List.mem_of_getElem? (i := 464) (by decide +kernel)⟩
theorem lw_p11 : lw_okq (⟨"LieAlgebra$Maps", "addDerivationRule", "(III)V"⟩, 3) := ⟨⟨by decide +kernel, by decide +kernel⟩, List.mem_of_getElem? (i := 99) (by decide +kernel), List.mem_of_getElem? (i := 524) (by decide +kernel), List.mem_of_getElem? (i := 525) (by decide +kernel)⟩
theorem lw_p12 : lw_okq (⟨"LieAlgebra$Maps", "unknown", "(II)I"⟩, 3) := ⟨⟨by decide +kernel, by decide +kernel⟩, List.mem_of_getElem? (i := 99) (by decide +kernel), List.mem_of_getElem? (i := 528) (by decide +kernel), List.mem_of_getElem? (i := 529) (by decide +kernel)⟩
theorem lw_p13 : lw_okq (⟨"LieAlgebra$Spaces", "close", "(LLieAlgebra$Subspace;LLieAlgebra$Subspace;)V"⟩, 4) := ⟨⟨by decide +kernel, by decide +kernel⟩, List.mem_of_getElem? (i := 49) (by decide +kernel), List.mem_of_getElem? (i := 563) (by decide +kernel), List.mem_of_getElem? (i := 564) (by decide +kernel)⟩
def lw_privs_1 : List (MethodName × Nat) := [(⟨"LieAlgebra", "remember", "()V"⟩, 8), (⟨"LieAlgebra$Change", "begin", "()V"⟩, 4), (⟨"LieAlgebra$Change", "apply", "()V"⟩, 4), (⟨"LieAlgebra$Change", "rewrite", "(I)I"⟩, 4), (⟨"LieAlgebra$Spaces", "descend", "(IZ)LLieAlgebra$Subspace;"⟩, 4), (⟨"LieAlgebra$Spaces", "fill", "(LLieAlgebra$Subspace;)V"⟩, 4), (⟨"LieAlgebra$Subspace", "hasLead", "(I)Z"⟩, 5), (⟨"LieAlgebra$Subspace", "cell", "(II)I"⟩, 5), (⟨"LieAlgebra$Subspace", "addRow", "(III)V"⟩, 5), (⟨"LieAlgebra$Spaces", "addProducts", "(LLieAlgebra$Subspace;LLieAlgebra$Subspace;LLieAlgebra$Subspace;)Z"⟩, 4), (⟨"LieAlgebra$Subspace", "rowAsVector", "(I)I"⟩, 5), (⟨"LieAlgebra$Maps", "addDerivationRule", "(III)V"⟩, 3), (⟨"LieAlgebra$Maps", "unknown", "(II)I"⟩, 3), (⟨"LieAlgebra$Spaces", "close", "(LLieAlgebra$Subspace;LLieAlgebra$Subspace;)V"⟩, 4)]
theorem lw_r1 : ∀ q ∈ lw_privs_1, lw_okq q := List.forall_mem_cons.mpr ⟨lw_p0, List.forall_mem_cons.mpr ⟨lw_p1, List.forall_mem_cons.mpr ⟨lw_p2, List.forall_mem_cons.mpr ⟨lw_p3, List.forall_mem_cons.mpr ⟨lw_p4, List.forall_mem_cons.mpr ⟨lw_p5, List.forall_mem_cons.mpr ⟨lw_p6, List.forall_mem_cons.mpr ⟨lw_p7, List.forall_mem_cons.mpr ⟨lw_p8, List.forall_mem_cons.mpr ⟨lw_p9, List.forall_mem_cons.mpr ⟨lw_p10, List.forall_mem_cons.mpr ⟨lw_p11, List.forall_mem_cons.mpr ⟨lw_p12, List.forall_mem_cons.mpr ⟨lw_p13, fun _ h => absurd h List.not_mem_nil⟩⟩⟩⟩⟩⟩⟩⟩⟩⟩⟩⟩⟩⟩
def lw_privs : List (MethodName × Nat) := lw_privs_1
def lw_tbl : List Cond := k2_sels lw_privs ++ tables_1
theorem lw_privs_ok : ∀ q ∈ lw_privs, lw_okq q := lw_r1

def RX0 : String := "LieAlgebra$Change"
def TX0 : u_T := fun k => match k with
  | 0 => ("LieAlgebra$Change", "table", "LLieAlgebra$Table;", true)
  | 1 => ("LieAlgebra$Change", "draft", "LLieAlgebra$Table;", true)
  | 2 => ("LieAlgebra$Change", "newOnes", "[I", true)
  | _ => ("LieAlgebra$Change", "oldOnes", "[I", true)
def RX1 : String := "LieAlgebra$Maps"
def TX1 : u_T := fun k => match k with
  | 0 => ("LieAlgebra$Maps", "table", "LLieAlgebra$Table;", true)
  | 1 => ("LieAlgebra$Maps", "rows", "LLieAlgebra$Subspace;", true)
  | _ => ("LieAlgebra$Maps", "equations", "LLieAlgebra$Subspace;", true)
def RX2 : String := "LieAlgebra$Script"
def TX2 : u_T := fun k => match k with
  | 0 => ("LieAlgebra$Script", "characters", "[I", true)
  | 1 => ("LieAlgebra$Script", "draft", "LLieAlgebra$Table;", true)
  | 2 => ("LieAlgebra$Script", "length", "I", false)
  | 3 => ("LieAlgebra$Script", "position", "I", false)
  | _ => ("LieAlgebra$Script", "pairsGiven", "I", false)
def RX3 : String := "LieAlgebra$Shelf"
def TX3 : u_T := fun k => match k with
  | 0 => ("LieAlgebra$Shelf", "places", "I", true)
  | _ => ("LieAlgebra$Shelf", "cells", "[I", true)
def RX4 : String := "LieAlgebra$Spaces"
def TX4 : u_T := fun k => match k with
  | 0 => ("LieAlgebra$Spaces", "table", "LLieAlgebra$Table;", true)
  | 1 => ("LieAlgebra$Spaces", "whole", "LLieAlgebra$Subspace;", true)
  | 2 => ("LieAlgebra$Spaces", "first", "LLieAlgebra$Subspace;", true)
  | _ => ("LieAlgebra$Spaces", "second", "LLieAlgebra$Subspace;", true)
def RX5 : String := "LieAlgebra$Subspace"
def TX5 : u_T := fun k => match k with
  | 0 => ("LieAlgebra$Subspace", "columns", "I", true)
  | 1 => ("LieAlgebra$Subspace", "cells", "[I", true)
  | 2 => ("LieAlgebra$Subspace", "p", "I", false)
  | 3 => ("LieAlgebra$Subspace", "width", "I", false)
  | _ => ("LieAlgebra$Subspace", "size", "I", false)
def RX6 : String := "LieAlgebra$Table"
def TX6 : u_T := fun k => match k with
  | 0 => ("LieAlgebra$Table", "p", "I", false)
  | 1 => ("LieAlgebra$Table", "n", "I", false)
  | _ => ("LieAlgebra$Table", "brackets", "[I", true)
def RX7 : String := "LieAlgebra"
def TX7 : u_T := fun k => match k with
  | 0 => ("LieAlgebra", "table", "LLieAlgebra$Table;", true)
  | 1 => ("LieAlgebra", "spaces", "LLieAlgebra$Spaces;", true)
  | 2 => ("LieAlgebra", "maps", "LLieAlgebra$Maps;", true)
  | 3 => ("LieAlgebra", "change", "LLieAlgebra$Change;", true)
  | 4 => ("LieAlgebra", "script", "LLieAlgebra$Script;", true)
  | 5 => ("LieAlgebra", "history", "LLieAlgebra$Shelf;", true)
  | 6 => ("LieAlgebra", "snapshots", "LLieAlgebra$Shelf;", true)
  | _ => ("LieAlgebra", "savedStates", "I", false)
abbrev vwCl : List vw_C := [(RX0, TX0, 4), (RX1, TX1, 3), (RX2, TX2, 5), (RX3, TX3, 2), (RX4, TX4, 4), (RX5, TX5, 5), (RX6, TX6, 3), (RX7, TX7, 8)]
