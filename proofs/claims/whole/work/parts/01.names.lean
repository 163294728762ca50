/-- a private method of a class that the tables say can be made, by its rows of tables_1 -/
def lw_okq (q : MethodName × Nat) : Prop := (q.1.cls ≠ "java/lang/invoke/MethodHandle" ∧ q.1.cls ≠ "java/lang/invoke/VarHandle") ∧ Cond.instantiable q.1.cls q.2 ∈ tables_1 ∧ Cond.privateMethod q.1 ∈ tables_1 ∧ Cond.instanceMethod q.1 ∈ tables_1
theorem lw_p0 : lw_okq (⟨"LieAlgebra", "remember", "()V"⟩, 8) := ⟨⟨by decide +kernel, by decide +kernel⟩, List.mem_of_getElem? (i := 14) (by decide +kernel), List.mem_of_getElem? (i := 211) (by decide +kernel), List.mem_of_getElem? (i := 212) (by decide +kernel)⟩
theorem lw_p1 : lw_okq (⟨"LieAlgebra$Script", "readItem", "()Z"⟩, 5) := ⟨⟨by decide +kernel, by decide +kernel⟩, List.mem_of_getElem? (i := 141) (by decide +kernel), List.mem_of_getElem? (i := 306) (by decide +kernel), List.mem_of_getElem? (i := 307) (by decide +kernel)⟩
theorem lw_p2 : lw_okq (⟨"LieAlgebra$Script", "take", "(I)Z"⟩, 5) := ⟨⟨by decide +kernel, by decide +kernel⟩, List.mem_of_getElem? (i := 141) (by decide +kernel), List.mem_of_getElem? (i := 310) (by decide +kernel), List.mem_of_getElem? (i := 311) (by decide +kernel)⟩
theorem lw_p3 : lw_okq (⟨"LieAlgebra$Script", "next", "()I"⟩, 5) := ⟨⟨by decide +kernel, by decide +kernel⟩, List.mem_of_getElem? (i := 141) (by decide +kernel), List.mem_of_getElem? (i := 314) (by decide +kernel), List.mem_of_getElem? (i := 315) (by decide +kernel)⟩
theorem lw_p4 : lw_okq (⟨"LieAlgebra$Script", "takeDigit", "(II)I"⟩, 5) := ⟨⟨by decide +kernel, by decide +kernel⟩, List.mem_of_getElem? (i := 141) (by decide +kernel), List.mem_of_getElem? (i := 319) (by decide +kernel), List.mem_of_getElem? (i := 320) (by decide +kernel)⟩
theorem lw_p5 : lw_okq (⟨"LieAlgebra$Script", "readValue", "()I"⟩, 5) := ⟨⟨by decide +kernel, by decide +kernel⟩, List.mem_of_getElem? (i := 141) (by decide +kernel), List.mem_of_getElem? (i := 329) (by decide +kernel), List.mem_of_getElem? (i := 330) (by decide +kernel)⟩
theorem lw_p6 : lw_okq (⟨"LieAlgebra$Spaces", "descend", "(IZ)LLieAlgebra$Subspace;"⟩, 4) := ⟨⟨by decide +kernel, by decide +kernel⟩, List.mem_of_getElem? (i := 52) (by decide +kernel), List.mem_of_getElem? (i := 375) (by decide +kernel), List.mem_of_getElem? (i := 376) (by decide +kernel)⟩
theorem lw_p7 : lw_okq (⟨"LieAlgebra$Spaces", "fill", "(LLieAlgebra$Subspace;)V"⟩, 4) := ⟨⟨by decide +kernel, by decide +kernel⟩, List.mem_of_getElem? (i := 52) (by decide +kernel), List.mem_of_getElem? (i := 379) (by decide +kernel), List.mem_of_getElem? (i := 380) (by decide +kernel)⟩
theorem lw_p8 : lw_okq (⟨"LieAlgebra$Subspace", "hasLead", "(I)Z"⟩, 5) := ⟨⟨by decide +kernel, by decide +kernel⟩, List.mem_of_getElem? (i := 58) (by decide +kernel), List.mem_of_getElem? (i := 405) (by decide +kernel), List.mem_of_getElem? (i := 406) (by decide +kernel)⟩
theorem lw_p9 : lw_okq (⟨"LieAlgebra$Subspace", "cell", "(II)I"⟩, 5) := ⟨⟨by decide +kernel, by decide +kernel⟩, List.mem_of_getElem? (i := 58) (by decide +kernel), List.mem_of_getElem? (i := 409) (by decide +kernel), List.mem_of_getElem? (i := 410) (by decide +kernel)⟩
theorem lw_p10 : lw_okq (⟨"LieAlgebra$Subspace", "addRow", "(III)V"⟩, 5) := ⟨⟨by decide +kernel, by decide +kernel⟩, List.mem_of_getElem? (i := 58) (by decide +kernel), List.mem_of_getElem? (i := 413) (by decide +kernel), List.mem_of_getElem? (i := 414) (by decide +kernel)⟩
theorem lw_p11 : lw_okq (⟨"LieAlgebra$Spaces", "addProducts", "(LLieAlgebra$Subspace;LLieAlgebra$Subspace;LLieAlgebra$Subspace;)Z"⟩, 4) := ⟨⟨by decide +kernel, by decide +kernel⟩, List.mem_of_getElem? (i := 52) (by decide +kernel), List.mem_of_getElem? (i := 420) (by decide +kernel), List.mem_of_getElem? (i := 421) (by decide +kernel)⟩
theorem lw_p12 : lw_okq (⟨"LieAlgebra$Subspace", "rowAsVector", "(I)I"⟩, 5) := ⟨⟨by decide +kernel, by decide +kernel⟩, List.mem_of_getElem? (i := 58) (by decide +kernel), List.mem_of_getElem? (i := 428) (by decide +kernel), List.mem_of_getElem? (i := 429) (by decide +kernel)⟩
theorem lw_p13 : lw_okq (⟨"LieAlgebra$Spaces", "close", "(LLieAlgebra$Subspace;LLieAlgebra$Subspace;)V"⟩, 4) := ⟨⟨by decide +kernel, by decide +kernel⟩, List.mem_of_getElem? (i := 52) (by decide +kernel), List.mem_of_getElem? (i := 487) (by decide +kernel), List.mem_of_getElem? (i := 488) (by decide +kernel)⟩
theorem lw_p14 : lw_okq (⟨"LieAlgebra$Maps", "addDerivationRule", "(III)V"⟩, 3) := ⟨⟨by decide +kernel, by decide +kernel⟩, List.mem_of_getElem? (i := 102) (by decide +kernel), List.mem_of_getElem? (i := 551) (by decide +kernel), List.mem_of_getElem? (i := 552) (by decide +kernel)⟩
theorem lw_p15 : lw_okq (⟨"LieAlgebra$Maps", "unknown", "(II)I"⟩, 3) := ⟨⟨by decide +kernel, by decide +kernel⟩, List.mem_of_getElem? (i := 102) (by decide +kernel), List.mem_of_getElem? (i := 555) (by decide +kernel), List.mem_of_getElem? (i := 556) (by decide +kernel)⟩
def lw_privs_1 : List (MethodName × Nat) := [(⟨"LieAlgebra", "remember", "()V"⟩, 8), (⟨"LieAlgebra$Script", "readItem", "()Z"⟩, 5), (⟨"LieAlgebra$Script", "take", "(I)Z"⟩, 5), (⟨"LieAlgebra$Script", "next", "()I"⟩, 5), (⟨"LieAlgebra$Script", "takeDigit", "(II)I"⟩, 5), (⟨"LieAlgebra$Script", "readValue", "()I"⟩, 5), (⟨"LieAlgebra$Spaces", "descend", "(IZ)LLieAlgebra$Subspace;"⟩, 4), (⟨"LieAlgebra$Spaces", "fill", "(LLieAlgebra$Subspace;)V"⟩, 4), (⟨"LieAlgebra$Subspace", "hasLead", "(I)Z"⟩, 5), (⟨"LieAlgebra$Subspace", "cell", "(II)I"⟩, 5), (⟨"LieAlgebra$Subspace", "addRow", "(III)V"⟩, 5), (⟨"LieAlgebra$Spaces", "addProducts", "(LLieAlgebra$Subspace;LLieAlgebra$Subspace;LLieAlgebra$Subspace;)Z"⟩, 4), (⟨"LieAlgebra$Subspace", "rowAsVector", "(I)I"⟩, 5), (⟨"LieAlgebra$Spaces", "close", "(LLieAlgebra$Subspace;LLieAlgebra$Subspace;)V"⟩, 4), (⟨"LieAlgebra$Maps", "addDerivationRule", "(III)V"⟩, 3), (⟨"LieAlgebra$Maps", "unknown", "(II)I"⟩, 3)]
theorem lw_r1 : ∀ q ∈ lw_privs_1, lw_okq q := List.forall_mem_cons.mpr ⟨lw_p0, List.forall_mem_cons.mpr ⟨lw_p1, List.forall_mem_cons.mpr ⟨lw_p2, List.forall_mem_cons.mpr ⟨lw_p3, List.forall_mem_cons.mpr ⟨lw_p4, List.forall_mem_cons.mpr ⟨lw_p5, List.forall_mem_cons.mpr ⟨lw_p6, List.forall_mem_cons.mpr ⟨lw_p7, List.forall_mem_cons.mpr ⟨lw_p8, List.forall_mem_cons.mpr ⟨lw_p9, List.forall_mem_cons.mpr ⟨lw_p10, List.forall_mem_cons.mpr ⟨lw_p11, List.forall_mem_cons.mpr ⟨lw_p12, List.forall_mem_cons.mpr ⟨lw_p13, List.forall_mem_cons.mpr ⟨lw_p14, List.forall_mem_cons.mpr ⟨lw_p15, fun _ h => absurd h List.not_mem_nil⟩⟩⟩⟩⟩⟩⟩⟩⟩⟩⟩⟩⟩⟩⟩⟩
theorem lw_p16 : lw_okq (⟨"LieAlgebra$Change", "begin", "()V"⟩, 4) := ⟨⟨by decide +kernel, by decide +kernel⟩, List.mem_of_getElem? (i := 120) (by decide +kernel), List.mem_of_getElem? (i := 572) (by decide +kernel), List.mem_of_getElem? (i := 573) (by decide +kernel)⟩
theorem lw_p17 : lw_okq (⟨"LieAlgebra$Change", "apply", "()V"⟩, 4) := ⟨⟨by decide +kernel, by decide +kernel⟩, List.mem_of_getElem? (i := 120) (by decide +kernel), List.mem_of_getElem? (i := 579) (by decide +kernel), List.mem_of_getElem? (i := 580) (by decide +kernel)⟩
theorem lw_p18 : lw_okq (⟨"LieAlgebra$Change", "rewrite", "(I)I"⟩, 4) := ⟨⟨by decide +kernel, by decide +kernel⟩, List.mem_of_getElem? (i := 120) (by decide +kernel), List.mem_of_getElem? (i := 586) (by decide +kernel), List.mem_of_getElem? (i := 587) (by decide +kernel)⟩
theorem lw_p19 : lw_okq (⟨"LieAlgebraModel", "keep", "()V"⟩, 28) := ⟨⟨by decide +kernel, by decide +kernel⟩, List.mem_of_getElem? (i := 635) (by decide +kernel), List.mem_of_getElem? (i := 734) (by decide +kernel), List.mem_of_getElem? (i := 735) (by decide +kernel)⟩
theorem lw_p20 : lw_okq (⟨"LieAlgebraModel", "isIndex", "(I)Z"⟩, 28) := ⟨⟨by decide +kernel, by decide +kernel⟩, List.mem_of_getElem? (i := 635) (by decide +kernel), List.mem_of_getElem? (i := 745) (by decide +kernel), List.mem_of_getElem? (i := 746) (by decide +kernel)⟩
theorem lw_p21 : lw_okq (⟨"LieAlgebraModel", "isVector", "(I)Z"⟩, 28) := ⟨⟨by decide +kernel, by decide +kernel⟩, List.mem_of_getElem? (i := 635) (by decide +kernel), List.mem_of_getElem? (i := 749) (by decide +kernel), List.mem_of_getElem? (i := 750) (by decide +kernel)⟩
theorem lw_p22 : lw_okq (⟨"LieAlgebraModel", "numberOf", "([II)I"⟩, 28) := ⟨⟨by decide +kernel, by decide +kernel⟩, List.mem_of_getElem? (i := 635) (by decide +kernel), List.mem_of_getElem? (i := 756) (by decide +kernel), List.mem_of_getElem? (i := 757) (by decide +kernel)⟩
theorem lw_p23 : lw_okq (⟨"LieAlgebraModel", "read", "(I[I)V"⟩, 28) := ⟨⟨by decide +kernel, by decide +kernel⟩, List.mem_of_getElem? (i := 635) (by decide +kernel), List.mem_of_getElem? (i := 760) (by decide +kernel), List.mem_of_getElem? (i := 761) (by decide +kernel)⟩
theorem lw_p24 : lw_okq (⟨"LieAlgebraModel", "setPair", "(II[II)V"⟩, 28) := ⟨⟨by decide +kernel, by decide +kernel⟩, List.mem_of_getElem? (i := 635) (by decide +kernel), List.mem_of_getElem? (i := 764) (by decide +kernel), List.mem_of_getElem? (i := 765) (by decide +kernel)⟩
theorem lw_p25 : lw_okq (⟨"LieAlgebraModel", "mod", "(I)I"⟩, 28) := ⟨⟨by decide +kernel, by decide +kernel⟩, List.mem_of_getElem? (i := 635) (by decide +kernel), List.mem_of_getElem? (i := 768) (by decide +kernel), List.mem_of_getElem? (i := 769) (by decide +kernel)⟩
theorem lw_p26 : lw_okq (⟨"LieAlgebraModel", "readItem", "()V"⟩, 28) := ⟨⟨by decide +kernel, by decide +kernel⟩, List.mem_of_getElem? (i := 635) (by decide +kernel), List.mem_of_getElem? (i := 784) (by decide +kernel), List.mem_of_getElem? (i := 785) (by decide +kernel)⟩
theorem lw_p27 : lw_okq (⟨"LieAlgebraModel", "current", "()I"⟩, 28) := ⟨⟨by decide +kernel, by decide +kernel⟩, List.mem_of_getElem? (i := 635) (by decide +kernel), List.mem_of_getElem? (i := 788) (by decide +kernel), List.mem_of_getElem? (i := 789) (by decide +kernel)⟩
theorem lw_p28 : lw_okq (⟨"LieAlgebraModel", "characterAt", "(I)I"⟩, 28) := ⟨⟨by decide +kernel, by decide +kernel⟩, List.mem_of_getElem? (i := 635) (by decide +kernel), List.mem_of_getElem? (i := 792) (by decide +kernel), List.mem_of_getElem? (i := 793) (by decide +kernel)⟩
theorem lw_p29 : lw_okq (⟨"LieAlgebraModel", "accept", "(Z)I"⟩, 28) := ⟨⟨by decide +kernel, by decide +kernel⟩, List.mem_of_getElem? (i := 635) (by decide +kernel), List.mem_of_getElem? (i := 796) (by decide +kernel), List.mem_of_getElem? (i := 797) (by decide +kernel)⟩
theorem lw_p30 : lw_okq (⟨"LieAlgebraModel", "isFine", "()Z"⟩, 28) := ⟨⟨by decide +kernel, by decide +kernel⟩, List.mem_of_getElem? (i := 635) (by decide +kernel), List.mem_of_getElem? (i := 800) (by decide +kernel), List.mem_of_getElem? (i := 801) (by decide +kernel)⟩
theorem lw_p31 : lw_okq (⟨"LieAlgebraModel", "index", "()I"⟩, 28) := ⟨⟨by decide +kernel, by decide +kernel⟩, List.mem_of_getElem? (i := 635) (by decide +kernel), List.mem_of_getElem? (i := 804) (by decide +kernel), List.mem_of_getElem? (i := 805) (by decide +kernel)⟩
def lw_privs_2 : List (MethodName × Nat) := [(⟨"LieAlgebra$Change", "begin", "()V"⟩, 4), (⟨"LieAlgebra$Change", "apply", "()V"⟩, 4), (⟨"LieAlgebra$Change", "rewrite", "(I)I"⟩, 4), (⟨"LieAlgebraModel", "keep", "()V"⟩, 28), (⟨"LieAlgebraModel", "isIndex", "(I)Z"⟩, 28), (⟨"LieAlgebraModel", "isVector", "(I)Z"⟩, 28), (⟨"LieAlgebraModel", "numberOf", "([II)I"⟩, 28), (⟨"LieAlgebraModel", "read", "(I[I)V"⟩, 28), (⟨"LieAlgebraModel", "setPair", "(II[II)V"⟩, 28), (⟨"LieAlgebraModel", "mod", "(I)I"⟩, 28), (⟨"LieAlgebraModel", "readItem", "()V"⟩, 28), (⟨"LieAlgebraModel", "current", "()I"⟩, 28), (⟨"LieAlgebraModel", "characterAt", "(I)I"⟩, 28), (⟨"LieAlgebraModel", "accept", "(Z)I"⟩, 28), (⟨"LieAlgebraModel", "isFine", "()Z"⟩, 28), (⟨"LieAlgebraModel", "index", "()I"⟩, 28)]
theorem lw_r2 : ∀ q ∈ lw_privs_2, lw_okq q := List.forall_mem_cons.mpr ⟨lw_p16, List.forall_mem_cons.mpr ⟨lw_p17, List.forall_mem_cons.mpr ⟨lw_p18, List.forall_mem_cons.mpr ⟨lw_p19, List.forall_mem_cons.mpr ⟨lw_p20, List.forall_mem_cons.mpr ⟨lw_p21, List.forall_mem_cons.mpr ⟨lw_p22, List.forall_mem_cons.mpr ⟨lw_p23, List.forall_mem_cons.mpr ⟨lw_p24, List.forall_mem_cons.mpr ⟨lw_p25, List.forall_mem_cons.mpr ⟨lw_p26, List.forall_mem_cons.mpr ⟨lw_p27, List.forall_mem_cons.mpr ⟨lw_p28, List.forall_mem_cons.mpr ⟨lw_p29, List.forall_mem_cons.mpr ⟨lw_p30, List.forall_mem_cons.mpr ⟨lw_p31, fun _ h => absurd h List.not_mem_nil⟩⟩⟩⟩⟩⟩⟩⟩⟩⟩⟩⟩⟩⟩⟩⟩
theorem lw_p32 : lw_okq (⟨"LieAlgebraModel", "readValue", "(I)V"⟩, 28) := ⟨⟨by decide +kernel, by decide +kernel⟩, List.mem_of_getElem? (i := 635) (by decide +kernel), List.mem_of_getElem? (i := 808) (by decide +kernel), List.mem_of_getElem? (i := 809) (by decide +kernel)⟩
theorem lw_p33 : lw_okq (⟨"LieAlgebraModel", "readTerm", "(II)V"⟩, 28) := ⟨⟨by decide +kernel, by decide +kernel⟩, List.mem_of_getElem? (i := 635) (by decide +kernel), List.mem_of_getElem? (i := 812) (by decide +kernel), List.mem_of_getElem? (i := 813) (by decide +kernel)⟩
theorem lw_p34 : lw_okq (⟨"LieAlgebraModel", "bracketOf", "([II[II)V"⟩, 28) := ⟨⟨by decide +kernel, by decide +kernel⟩, List.mem_of_getElem? (i := 635) (by decide +kernel), List.mem_of_getElem? (i := 828) (by decide +kernel), List.mem_of_getElem? (i := 829) (by decide +kernel)⟩
theorem lw_p35 : lw_okq (⟨"LieAlgebraModel", "isJacobi", "(III)Z"⟩, 28) := ⟨⟨by decide +kernel, by decide +kernel⟩, List.mem_of_getElem? (i := 635) (by decide +kernel), List.mem_of_getElem? (i := 836) (by decide +kernel), List.mem_of_getElem? (i := 837) (by decide +kernel)⟩
theorem lw_p36 : lw_okq (⟨"LieAlgebraModel", "makeLevel", "(IZ)I"⟩, 28) := ⟨⟨by decide +kernel, by decide +kernel⟩, List.mem_of_getElem? (i := 635) (by decide +kernel), List.mem_of_getElem? (i := 844) (by decide +kernel), List.mem_of_getElem? (i := 845) (by decide +kernel)⟩
theorem lw_p37 : lw_okq (⟨"LieAlgebraModel", "makeWhole", "([I)V"⟩, 28) := ⟨⟨by decide +kernel, by decide +kernel⟩, List.mem_of_getElem? (i := 635) (by decide +kernel), List.mem_of_getElem? (i := 848) (by decide +kernel), List.mem_of_getElem? (i := 849) (by decide +kernel)⟩
theorem lw_p38 : lw_okq (⟨"LieAlgebraModel", "multiply", "([IZ)V"⟩, 28) := ⟨⟨by decide +kernel, by decide +kernel⟩, List.mem_of_getElem? (i := 635) (by decide +kernel), List.mem_of_getElem? (i := 852) (by decide +kernel), List.mem_of_getElem? (i := 853) (by decide +kernel)⟩
theorem lw_p39 : lw_okq (⟨"LieAlgebraModel", "add", "([I[II)Z"⟩, 28) := ⟨⟨by decide +kernel, by decide +kernel⟩, List.mem_of_getElem? (i := 635) (by decide +kernel), List.mem_of_getElem? (i := 856) (by decide +kernel), List.mem_of_getElem? (i := 857) (by decide +kernel)⟩
theorem lw_p40 : lw_okq (⟨"LieAlgebraModel", "leadOf", "([II)I"⟩, 28) := ⟨⟨by decide +kernel, by decide +kernel⟩, List.mem_of_getElem? (i := 635) (by decide +kernel), List.mem_of_getElem? (i := 860) (by decide +kernel), List.mem_of_getElem? (i := 861) (by decide +kernel)⟩
theorem lw_p41 : lw_okq (⟨"LieAlgebraModel", "clear", "([II[III)V"⟩, 28) := ⟨⟨by decide +kernel, by decide +kernel⟩, List.mem_of_getElem? (i := 635) (by decide +kernel), List.mem_of_getElem? (i := 864) (by decide +kernel), List.mem_of_getElem? (i := 865) (by decide +kernel)⟩
theorem lw_p42 : lw_okq (⟨"LieAlgebraModel", "inverse", "(I)I"⟩, 28) := ⟨⟨by decide +kernel, by decide +kernel⟩, List.mem_of_getElem? (i := 635) (by decide +kernel), List.mem_of_getElem? (i := 868) (by decide +kernel), List.mem_of_getElem? (i := 869) (by decide +kernel)⟩
theorem lw_p43 : lw_okq (⟨"LieAlgebraModel", "vectorOf", "(I)I"⟩, 28) := ⟨⟨by decide +kernel, by decide +kernel⟩, List.mem_of_getElem? (i := 635) (by decide +kernel), List.mem_of_getElem? (i := 880) (by decide +kernel), List.mem_of_getElem? (i := 881) (by decide +kernel)⟩
theorem lw_p44 : lw_okq (⟨"LieAlgebraModel", "makeCenter", "()V"⟩, 28) := ⟨⟨by decide +kernel, by decide +kernel⟩, List.mem_of_getElem? (i := 635) (by decide +kernel), List.mem_of_getElem? (i := 892) (by decide +kernel), List.mem_of_getElem? (i := 893) (by decide +kernel)⟩
theorem lw_p45 : lw_okq (⟨"LieAlgebraModel", "demand", "([II)V"⟩, 28) := ⟨⟨by decide +kernel, by decide +kernel⟩, List.mem_of_getElem? (i := 635) (by decide +kernel), List.mem_of_getElem? (i := 896) (by decide +kernel), List.mem_of_getElem? (i := 897) (by decide +kernel)⟩
theorem lw_p46 : lw_okq (⟨"LieAlgebraModel", "solve", "()V"⟩, 28) := ⟨⟨by decide +kernel, by decide +kernel⟩, List.mem_of_getElem? (i := 635) (by decide +kernel), List.mem_of_getElem? (i := 900) (by decide +kernel), List.mem_of_getElem? (i := 901) (by decide +kernel)⟩
theorem lw_p47 : lw_okq (⟨"LieAlgebraModel", "close", "(Z)V"⟩, 28) := ⟨⟨by decide +kernel, by decide +kernel⟩, List.mem_of_getElem? (i := 635) (by decide +kernel), List.mem_of_getElem? (i := 916) (by decide +kernel), List.mem_of_getElem? (i := 917) (by decide +kernel)⟩
def lw_privs_3 : List (MethodName × Nat) := [(⟨"LieAlgebraModel", "readValue", "(I)V"⟩, 28), (⟨"LieAlgebraModel", "readTerm", "(II)V"⟩, 28), (⟨"LieAlgebraModel", "bracketOf", "([II[II)V"⟩, 28), (⟨"LieAlgebraModel", "isJacobi", "(III)Z"⟩, 28), (⟨"LieAlgebraModel", "makeLevel", "(IZ)I"⟩, 28), (⟨"LieAlgebraModel", "makeWhole", "([I)V"⟩, 28), (⟨"LieAlgebraModel", "multiply", "([IZ)V"⟩, 28), (⟨"LieAlgebraModel", "add", "([I[II)Z"⟩, 28), (⟨"LieAlgebraModel", "leadOf", "([II)I"⟩, 28), (⟨"LieAlgebraModel", "clear", "([II[III)V"⟩, 28), (⟨"LieAlgebraModel", "inverse", "(I)I"⟩, 28), (⟨"LieAlgebraModel", "vectorOf", "(I)I"⟩, 28), (⟨"LieAlgebraModel", "makeCenter", "()V"⟩, 28), (⟨"LieAlgebraModel", "demand", "([II)V"⟩, 28), (⟨"LieAlgebraModel", "solve", "()V"⟩, 28), (⟨"LieAlgebraModel", "close", "(Z)V"⟩, 28)]
theorem lw_r3 : ∀ q ∈ lw_privs_3, lw_okq q := List.forall_mem_cons.mpr ⟨lw_p32, List.forall_mem_cons.mpr ⟨lw_p33, List.forall_mem_cons.mpr ⟨lw_p34, List.forall_mem_cons.mpr ⟨lw_p35, List.forall_mem_cons.mpr ⟨lw_p36, List.forall_mem_cons.mpr ⟨lw_p37, List.forall_mem_cons.mpr ⟨lw_p38, List.forall_mem_cons.mpr ⟨lw_p39, List.forall_mem_cons.mpr ⟨lw_p40, List.forall_mem_cons.mpr ⟨lw_p41, List.forall_mem_cons.mpr ⟨lw_p42, List.forall_mem_cons.mpr ⟨lw_p43, List.forall_mem_cons.mpr ⟨lw_p44, List.forall_mem_cons.mpr ⟨lw_p45, List.forall_mem_cons.mpr ⟨lw_p46, List.forall_mem_cons.mpr ⟨lw_p47, fun _ h => absurd h List.not_mem_nil⟩⟩⟩⟩⟩⟩⟩⟩⟩⟩⟩⟩⟩⟩⟩⟩
theorem lw_p48 : lw_okq (⟨"LieAlgebraModel", "makeSubalgebra", "(II)V"⟩, 28) := ⟨⟨by decide +kernel, by decide +kernel⟩, List.mem_of_getElem? (i := 635) (by decide +kernel), List.mem_of_getElem? (i := 924) (by decide +kernel), List.mem_of_getElem? (i := 925) (by decide +kernel)⟩
theorem lw_p49 : lw_okq (⟨"LieAlgebraModel", "makeAdjoint", "(I[I)V"⟩, 28) := ⟨⟨by decide +kernel, by decide +kernel⟩, List.mem_of_getElem? (i := 635) (by decide +kernel), List.mem_of_getElem? (i := 936) (by decide +kernel), List.mem_of_getElem? (i := 937) (by decide +kernel)⟩
theorem lw_p50 : lw_okq (⟨"LieAlgebraModel", "isZero", "([I)Z"⟩, 28) := ⟨⟨by decide +kernel, by decide +kernel⟩, List.mem_of_getElem? (i := 635) (by decide +kernel), List.mem_of_getElem? (i := 944) (by decide +kernel), List.mem_of_getElem? (i := 945) (by decide +kernel)⟩
theorem lw_p51 : lw_okq (⟨"LieAlgebraModel", "makeProduct", "([I[I)V"⟩, 28) := ⟨⟨by decide +kernel, by decide +kernel⟩, List.mem_of_getElem? (i := 635) (by decide +kernel), List.mem_of_getElem? (i := 948) (by decide +kernel), List.mem_of_getElem? (i := 949) (by decide +kernel)⟩
theorem lw_p52 : lw_okq (⟨"LieAlgebraModel", "killingOf", "(II)I"⟩, 28) := ⟨⟨by decide +kernel, by decide +kernel⟩, List.mem_of_getElem? (i := 635) (by decide +kernel), List.mem_of_getElem? (i := 956) (by decide +kernel), List.mem_of_getElem? (i := 957) (by decide +kernel)⟩
theorem lw_p53 : lw_okq (⟨"LieAlgebraModel", "makeLine", "(III)V"⟩, 28) := ⟨⟨by decide +kernel, by decide +kernel⟩, List.mem_of_getElem? (i := 635) (by decide +kernel), List.mem_of_getElem? (i := 968) (by decide +kernel), List.mem_of_getElem? (i := 969) (by decide +kernel)⟩
theorem lw_p54 : lw_okq (⟨"LieAlgebraModel", "addLine", "()V"⟩, 28) := ⟨⟨by decide +kernel, by decide +kernel⟩, List.mem_of_getElem? (i := 635) (by decide +kernel), List.mem_of_getElem? (i := 972) (by decide +kernel), List.mem_of_getElem? (i := 973) (by decide +kernel)⟩
theorem lw_p55 : lw_okq (⟨"LieAlgebraModel", "beginChange", "()V"⟩, 28) := ⟨⟨by decide +kernel, by decide +kernel⟩, List.mem_of_getElem? (i := 635) (by decide +kernel), List.mem_of_getElem? (i := 980) (by decide +kernel), List.mem_of_getElem? (i := 981) (by decide +kernel)⟩
theorem lw_p56 : lw_okq (⟨"LieAlgebraModel", "makeTable", "()V"⟩, 28) := ⟨⟨by decide +kernel, by decide +kernel⟩, List.mem_of_getElem? (i := 635) (by decide +kernel), List.mem_of_getElem? (i := 984) (by decide +kernel), List.mem_of_getElem? (i := 985) (by decide +kernel)⟩
theorem lw_p57 : lw_okq (⟨"LieAlgebraModel", "takeTable", "()V"⟩, 28) := ⟨⟨by decide +kernel, by decide +kernel⟩, List.mem_of_getElem? (i := 635) (by decide +kernel), List.mem_of_getElem? (i := 988) (by decide +kernel), List.mem_of_getElem? (i := 989) (by decide +kernel)⟩
def lw_privs_4 : List (MethodName × Nat) := [(⟨"LieAlgebraModel", "makeSubalgebra", "(II)V"⟩, 28), (⟨"LieAlgebraModel", "makeAdjoint", "(I[I)V"⟩, 28), (⟨"LieAlgebraModel", "isZero", "([I)Z"⟩, 28), (⟨"LieAlgebraModel", "makeProduct", "([I[I)V"⟩, 28), (⟨"LieAlgebraModel", "killingOf", "(II)I"⟩, 28), (⟨"LieAlgebraModel", "makeLine", "(III)V"⟩, 28), (⟨"LieAlgebraModel", "addLine", "()V"⟩, 28), (⟨"LieAlgebraModel", "beginChange", "()V"⟩, 28), (⟨"LieAlgebraModel", "makeTable", "()V"⟩, 28), (⟨"LieAlgebraModel", "takeTable", "()V"⟩, 28)]
theorem lw_r4 : ∀ q ∈ lw_privs_4, lw_okq q := List.forall_mem_cons.mpr ⟨lw_p48, List.forall_mem_cons.mpr ⟨lw_p49, List.forall_mem_cons.mpr ⟨lw_p50, List.forall_mem_cons.mpr ⟨lw_p51, List.forall_mem_cons.mpr ⟨lw_p52, List.forall_mem_cons.mpr ⟨lw_p53, List.forall_mem_cons.mpr ⟨lw_p54, List.forall_mem_cons.mpr ⟨lw_p55, List.forall_mem_cons.mpr ⟨lw_p56, List.forall_mem_cons.mpr ⟨lw_p57, fun _ h => absurd h List.not_mem_nil⟩⟩⟩⟩⟩⟩⟩⟩⟩⟩
def lw_privs : List (MethodName × Nat) := lw_privs_1 ++ (lw_privs_2 ++ (lw_privs_3 ++ (lw_privs_4)))
def lw_tbl : List Cond := k2_sels lw_privs ++ tables_1
theorem lw_privs_ok : ∀ q ∈ lw_privs, lw_okq q := by
  show ∀ q ∈ lw_privs_1 ++ (lw_privs_2 ++ (lw_privs_3 ++ (lw_privs_4))), lw_okq q
  exact List.forall_mem_append.mpr ⟨lw_r1, List.forall_mem_append.mpr ⟨lw_r2, List.forall_mem_append.mpr ⟨lw_r3, lw_r4⟩⟩⟩

def RX0 : String := "LieAlgebra$Change"
def TX0 : u_T := fun k => match k with
  | 0 => ("LieAlgebra$Change", "table", "LLieAlgebra$Table;", true)
  | 1 => ("LieAlgebra$Change", "draft", "LLieAlgebra$Table;", true)
  | 2 => ("LieAlgebra$Change", "newOnes", "[I", true)
  | _ => ("LieAlgebra$Change", "oldOnes", "[I", true)
def RX1 : String := "LieAlgebra$Maps"
def TX1 : u_T := fun k => match k with
  | 0 => ("LieAlgebra$Maps", "table", "LLieAlgebra$Table;", true)
  | 1 => ("LieAlgebra$Maps", "rows", "LLieAlgebra$Subspace;", true)
  | _ => ("LieAlgebra$Maps", "equations", "LLieAlgebra$Subspace;", true)
def RX2 : String := "LieAlgebra$Script"
def TX2 : u_T := fun k => match k with
  | 0 => ("LieAlgebra$Script", "characters", "[I", true)
  | 1 => ("LieAlgebra$Script", "draft", "LLieAlgebra$Table;", true)
  | 2 => ("LieAlgebra$Script", "length", "I", false)
  | 3 => ("LieAlgebra$Script", "position", "I", false)
  | _ => ("LieAlgebra$Script", "pairsGiven", "I", false)
def RX3 : String := "LieAlgebra$Shelf"
def TX3 : u_T := fun k => match k with
  | 0 => ("LieAlgebra$Shelf", "places", "I", true)
  | _ => ("LieAlgebra$Shelf", "cells", "[I", true)
def RX4 : String := "LieAlgebra$Spaces"
def TX4 : u_T := fun k => match k with
  | 0 => ("LieAlgebra$Spaces", "table", "LLieAlgebra$Table;", true)
  | 1 => ("LieAlgebra$Spaces", "whole", "LLieAlgebra$Subspace;", true)
  | 2 => ("LieAlgebra$Spaces", "first", "LLieAlgebra$Subspace;", true)
  | _ => ("LieAlgebra$Spaces", "second", "LLieAlgebra$Subspace;", true)
def RX5 : String := "LieAlgebra$Subspace"
def TX5 : u_T := fun k => match k with
  | 0 => ("LieAlgebra$Subspace", "columns", "I", true)
  | 1 => ("LieAlgebra$Subspace", "cells", "[I", true)
  | 2 => ("LieAlgebra$Subspace", "p", "I", false)
  | 3 => ("LieAlgebra$Subspace", "width", "I", false)
  | _ => ("LieAlgebra$Subspace", "size", "I", false)
def RX6 : String := "LieAlgebra$Table"
def TX6 : u_T := fun k => match k with
  | 0 => ("LieAlgebra$Table", "p", "I", false)
  | 1 => ("LieAlgebra$Table", "n", "I", false)
  | _ => ("LieAlgebra$Table", "brackets", "[I", true)
def RX7 : String := "LieAlgebra"
def TX7 : u_T := fun k => match k with
  | 0 => ("LieAlgebra", "table", "LLieAlgebra$Table;", true)
  | 1 => ("LieAlgebra", "spaces", "LLieAlgebra$Spaces;", true)
  | 2 => ("LieAlgebra", "maps", "LLieAlgebra$Maps;", true)
  | 3 => ("LieAlgebra", "change", "LLieAlgebra$Change;", true)
  | 4 => ("LieAlgebra", "script", "LLieAlgebra$Script;", true)
  | 5 => ("LieAlgebra", "history", "LLieAlgebra$Shelf;", true)
  | 6 => ("LieAlgebra", "snapshots", "LLieAlgebra$Shelf;", true)
  | _ => ("LieAlgebra", "savedStates", "I", false)
def RX8 : String := "LieAlgebraModel"
def TX8 : u_T := fun k => match k with
  | 0 => ("LieAlgebraModel", "thrown", "I", false)
  | 1 => ("LieAlgebraModel", "s", "[I", true)
  | 2 => ("LieAlgebraModel", "history", "[I", true)
  | 3 => ("LieAlgebraModel", "depth", "I", false)
  | 4 => ("LieAlgebraModel", "slots", "[I", true)
  | 5 => ("LieAlgebraModel", "isSaved", "[Z", true)
  | 6 => ("LieAlgebraModel", "text", "[I", true)
  | 7 => ("LieAlgebraModel", "length", "I", false)
  | 8 => ("LieAlgebraModel", "one", "[I", true)
  | 9 => ("LieAlgebraModel", "two", "[I", true)
  | 10 => ("LieAlgebraModel", "result", "[I", true)
  | 11 => ("LieAlgebraModel", "next", "I", false)
  | 12 => ("LieAlgebraModel", "error", "I", false)
  | 13 => ("LieAlgebraModel", "isGiven", "[Z", true)
  | 14 => ("LieAlgebraModel", "given", "[I", true)
  | 15 => ("LieAlgebraModel", "space", "[I", true)
  | 16 => ("LieAlgebraModel", "other", "[I", true)
  | 17 => ("LieAlgebraModel", "rest", "[I", true)
  | 18 => ("LieAlgebraModel", "whole", "[I", true)
  | 19 => ("LieAlgebraModel", "equations", "[I", true)
  | 20 => ("LieAlgebraModel", "matrix", "[I", true)
  | 21 => ("LieAlgebraModel", "second", "[I", true)
  | 22 => ("LieAlgebraModel", "product", "[I", true)
  | 23 => ("LieAlgebraModel", "rows", "[I", true)
  | 24 => ("LieAlgebraModel", "rank", "I", false)
  | 25 => ("LieAlgebraModel", "line", "[I", true)
  | 26 => ("LieAlgebraModel", "fresh", "[I", true)
  | _ => ("LieAlgebraModel", "table", "[I", true)
abbrev vwCl : List vw_C := [(RX0, TX0, 4), (RX1, TX1, 3), (RX2, TX2, 5), (RX3, TX3, 2), (RX4, TX4, 4), (RX5, TX5, 5), (RX6, TX6, 3), (RX7, TX7, 8), (RX8, TX8, 28)]
