/-! one instruction of the pure machine is one of the JVM's -/
def pj_Cx (p : Program) (R : Room) (s : State) (m : MethodId) (args : Array Value) (meth : Method) (c : Code) (D : va_G) (dA : Nat → ClassId) (A : Nat → Prop) (b : Nat) (X : pj_X) (M : Nat) : Prop :=
  p.tables.exec = Jvm.exec ∧ c.code = k_b M ∧ c.maxLocals = k_nL M ∧ s.vm.findClass (k_y M).cls = some m.cls ∧ (∀ w ∈ pj_tb, w.before args s = true) ∧ (∀ w ∈ pj_nb, va_Nw w s) ∧ va_K D vwCl [(dA 0, .int), (dA 1, .int)] s ∧ va_X b X.1 (fun j => Int32.ofInt (X.2 j)) s s.heap ∧ b < s.heap.size ∧ ¬ A b ∧ (∀ q, s.heap.size ≤ q → A q) ∧ meth.name = (k_y M).name ∧ k_fr M ≤ R.frames ∧ k_lo M ≤ R.locals
def pj_St (s : State) (D : va_G) (dA : Nat → ClassId) (A : Nat → Prop) (b M : Nat) (α : Nat → Nat) (la : Array Slot) (H : Heap) (locs : List Loc) (ls : List pj_V) (h : List pj_C) : Prop :=
  va_P D vwCl (pj_wl dA α b 0 h) H ∧ va_D A (pj_wl dA α b 0 h) ∧ va_S A s.heap H locs ∧ lv_has la (k_nL M) (pj_ll α b 0 ls) ∧ ls.length = k_nL M ∧ h.length ≤ 1000
def pj_K (p : Program) (l : Launch) (e : Env) (R : Room) (s : State) (m : MethodId) (args : Array Value) (below : List Frame) (meth : Method) (c : Code) (D : va_G) (dA : Nat → ClassId) (A : Nat → Prop) (b M cells slots : Nat) (Q : State → Prop) (α : Nat → Nat) (h : List pj_C) (pc' : Nat) (ls' st' : List pj_V) (h' : List pj_C) : Prop :=
  ∀ (α' : Nat → Nat) (la' : Array Slot) (H' : Heap) (locs' : List Loc), ((∀ k, k < h.length → α' k = α k) ∧ (h'.length = h.length → α' = α)) → pj_St s D dA A b M α' la' H' locs' ls' h' → W p l e R s m args below meth c H' locs' (cells + (h'.length - h.length)) (slots + (pj_tot h' - pj_tot h)) Q (F0 m pc' la' (st'.map (pj_cv α' b)))
def pj_nsw : Instr → Bool
  | .tableswitch _ _ _ _ => false
  | _ => true
theorem pj_okE_dec {M pc nx a b c d : Nat} {i : Instr} {hd : Bool} (h : pj_okE M pc (i, nx, a, b, c, d, hd) = true) (hs : pj_nsw i = true) : decode (k_b M) pc = .ok (i, pj_len i) ∧ nx = pc + pj_len i := by
  unfold pj_okE at h
  simp only [Bool.and_eq_true, decide_eq_true_eq] at h
  obtain ⟨⟨⟨h1, h2⟩, h3⟩, -⟩ := h
  have h3' : nx = pc + pj_len i := by
    split at h3
    · cases hs
    · exact Nat.eq_of_beq_eq_true h3
  refine ⟨?_, h3'⟩
  rw [h1, h3', Nat.add_sub_cancel_left]
theorem pj_i32 {x : Int} (h : pj_rg x) : (Int32.ofInt x).toInt = x := Int32.toInt_ofInt_of_le (by have := h.1; omega) (by have := h.2; omega)
theorem pj_lt32 {x y : Int} (hx : pj_rg x) (hy : pj_rg y) : Int32.ofInt x < Int32.ofInt y ↔ x < y := by rw [Int32.lt_iff_toInt_lt, pj_i32 hx, pj_i32 hy]
theorem pj_le32 {x y : Int} (hx : pj_rg x) (hy : pj_rg y) : Int32.ofInt x ≤ Int32.ofInt y ↔ x ≤ y := by rw [Int32.le_iff_toInt_le, pj_i32 hx, pj_i32 hy]
theorem pj_eq32 {x y : Int} (hx : pj_rg x) (hy : pj_rg y) : Int32.ofInt x = Int32.ofInt y ↔ x = y := by rw [← Int32.toInt_inj, pj_i32 hx, pj_i32 hy]
theorem pj_rg0 : pj_rg 0 := by unfold pj_rg; omega
theorem pj_z32 : Int32.ofInt 0 = 0 := rfl
theorem pj_cl32 {j : Int} (h0 : 0 ≤ j) (h1 : j < 2147483648) : (Int32.ofInt j).toNatClampNeg = j.toNat := Int32.toNatClampNeg_ofInt_of_le (by omega) (by omega)
theorem pj_in32 {j : Int} {n : Nat} (h0 : 0 ≤ j) (hn : j < (n : Int)) (h1 : j < 2147483648) : vp_in (Int32.ofInt j) n := by
  intro h
  rcases h with h | h
  · rw [← pj_z32, pj_lt32 (by unfold pj_rg; omega) pj_rg0] at h
    omega
  · rw [pj_cl32 h0 h1] at h
    omega
theorem pj_div32 {x y : Int} (h : pj_dv x y) : Int32.ofInt (x.tdiv y) = Int32.ofInt x / Int32.ofInt y :=
  Int32.ofInt_tdiv (by have := h.1.1; show (-2147483648 : Int) ≤ x; omega) (by have := h.1.2; show x ≤ (2147483647 : Int); omega) (by have := h.2.1.1; show (-2147483648 : Int) ≤ y; omega) (by have := h.2.1.2; show y ≤ (2147483647 : Int); omega)
theorem pj_rem32 {x y : Int} (h : pj_dv x y) : Int32.ofInt (x.tmod y) = Int32.ofInt x - Int32.ofInt x / Int32.ofInt y * Int32.ofInt y := by
  rw [← pj_div32 h, ← Int32.ofInt_mul, ← Int32.ofInt_sub, Int.tmod_def, Int.mul_comm]
theorem pj_ne32 {x y : Int} (h : pj_dv x y) : ¬ Int32.ofInt y = 0 := by
  rw [← pj_z32, pj_eq32 h.2.1 pj_rg0]
  exact h.2.2
theorem pj_upd32 (f : Nat → Int) (k : Nat) (z : Int) : (fun j => Int32.ofInt (pj_up f k z j)) = upd (fun j => Int32.ofInt (f j)) k (Int32.ofInt z) := by
  funext j
  simp only [pj_up, upd]
  split <;> rfl
section STEP
variable {p : Program} {l : Launch} {e : Env} {R : Room} {s : State} {m : MethodId} {args : Array Value} {below : List Frame} {meth : Method} {c : Code} {D : va_G} {dA : Nat → ClassId} {A : Nat → Prop} {b M cells slots : Nat} {Q : State → Prop} {X : pj_X}
variable {α : Nat → Nat} {la : Array Slot} {H : Heap} {locs : List Loc} {ls st : List pj_V} {h : List pj_C} {al hd : Bool} {pc nx a b1 c1 d pc' : Nat} {P : Prop} {ls' st' : List pj_V} {h' : List pj_C}
theorem pj_K.same (kk : pj_K p l e R s m args below meth c D dA A b M cells slots Q α h pc' ls' st' h) (S : pj_St s D dA A b M α la H locs ls' h) : W p l e R s m args below meth c H locs cells slots Q (F0 m pc' la (st'.map (pj_cv α b))) :=
  W.cs (by omega) (by omega) (kk α la H locs ⟨fun _ _ => rfl, fun _ => rfl⟩ S)
theorem pj_St.lcs (S : pj_St s D dA A b M α la H locs ls h) {la' : Array Slot} {ls' : List pj_V} (h1 : lv_has la' (k_nL M) (pj_ll α b 0 ls')) (h2 : ls'.length = k_nL M) : pj_St s D dA A b M α la' H locs ls' h := ⟨S.1, S.2.1, S.2.2.1, h1, h2, S.2.2.2.2.2⟩
theorem pj_St.get (S : pj_St s D dA A b M α la H locs ls h) {k : Nat} {v : pj_V} (h1 : pj_at ls k = some v) (h2 : pj_ok v = true) : la[k]? = some (.val (pj_cv α b v)) := by
  have := S.2.2.2.1.2.2 _ (pj_ll_mem (α := α) (b := b) (k := 0) h1 (pj_tr_ok h2))
  simpa using this
theorem sp_ldi {k : Nat} {i : Instr} (hi : i = .iload k ∨ ∃ q : Fin 4, i = .iload_n q ∧ q.val = k) (C : pj_Cx p R s m args meth c D dA A b X M) (S : pj_St s D dA A b M α la H locs ls h) (hok : pj_okE M pc (i, nx, a, b1, c1, d, hd) = true) (he : pj_ldi nx ls st h k = some (P, pc', ls', st', h')) (kk : pj_K p l e R s m args below meth c D dA A b M cells slots Q α h pc' ls' st' h') : W p l e R s m args below meth c H locs cells slots Q (F0 m pc la (st.map (pj_cv α b))) := by
  obtain ⟨hx, hb, -⟩ := C
  unfold pj_ldi at he
  split at he
  · rename_i z hz
    cases he
    have hl := S.get hz rfl
    rcases hi with rfl | ⟨q, rfl, rfl⟩
    · obtain ⟨hdg, rfl⟩ := pj_okE_dec hok rfl
      exact lv_iload hx hb hdg hl (kk.same S)
    · obtain ⟨hdg, rfl⟩ := pj_okE_dec hok rfl
      exact lv_iload_n hx hb hdg rfl hl (kk.same S)
  · cases he
theorem sp_lda {k : Nat} {i : Instr} (hi : i = .aload k ∨ ∃ q : Fin 4, i = .aload_n q ∧ q.val = k) (C : pj_Cx p R s m args meth c D dA A b X M) (S : pj_St s D dA A b M α la H locs ls h) (hok : pj_okE M pc (i, nx, a, b1, c1, d, hd) = true) (he : pj_lda nx ls st h k = some (P, pc', ls', st', h')) (kk : pj_K p l e R s m args below meth c D dA A b M cells slots Q α h pc' ls' st' h') : W p l e R s m args below meth c H locs cells slots Q (F0 m pc la (st.map (pj_cv α b))) := by
  obtain ⟨hx, hb, -⟩ := C
  unfold pj_lda at he
  split at he
  · rename_i r hz
    cases ho : pj_ok (.inr r) with
    | false => rw [ho] at he; cases he
    | true =>
      rw [ho] at he
      cases he
      have hl := S.get hz ho
      obtain ⟨x, hxr⟩ := pj_cv_ok (α := α) (b := b) ho
      rw [hxr] at hl
      have kk := kk.same S
      rw [List.map_cons, hxr] at kk
      rcases hi with rfl | ⟨q, rfl, rfl⟩
      · obtain ⟨hdg, rfl⟩ := pj_okE_dec hok rfl
        exact lv_aload hx hb hdg hl kk
      · obtain ⟨hdg, rfl⟩ := pj_okE_dec hok rfl
        exact lv_aload_n hx hb hdg rfl hl kk
  · cases he
theorem sp_sti {k : Nat} {i : Instr} (hi : i = .istore k ∨ ∃ q : Fin 4, i = .istore_n q ∧ q.val = k) (C : pj_Cx p R s m args meth c D dA A b X M) (S : pj_St s D dA A b M α la H locs ls h) (hok : pj_okE M pc (i, nx, a, b1, c1, d, hd) = true) (he : pj_sti nx ls st h k = some (P, pc', ls', st', h')) (kk : pj_K p l e R s m args below meth c D dA A b M cells slots Q α h pc' ls' st' h') : W p l e R s m args below meth c H locs cells slots Q (F0 m pc la (st.map (pj_cv α b))) := by
  obtain ⟨hx, hb, -⟩ := C
  unfold pj_sti at he
  split at he
  · rename_i z t
    cases ho : (Nat.blt k ls.length && pj_nl ls k) with
    | false => rw [ho] at he; cases he
    | true =>
      rw [ho] at he
      cases he
      rw [Bool.and_eq_true] at ho
      have hk : k < ls.length := Nat.le_of_ble_eq_true ho.1
      have hk2 : k < k_nL M := by rw [← S.2.2.2.2.1]; exact hk
      have go : ∀ ls9 : Array Slot, lv_has ls9 (k_nL M) ((k, Value.int (Int32.ofInt z)) :: (pj_ll α b 0 ls).filter (fun q => !(q.1 == k) && !(q.1 + 1 == k && q.2.category == 2))) → W p l e R s m args below meth c H locs cells slots Q (F0 m nx ls9 (st'.map (pj_cv α b))) := fun ls9 h9 =>
        kk.same (S.lcs (pj_ll_set hk ho.2 h9) (by rw [List.length_set]; exact S.2.2.2.2.1))
      rcases hi with rfl | ⟨q, rfl, rfl⟩
      · obtain ⟨hdg, rfl⟩ := pj_okE_dec hok rfl
        exact lv_istore hx hb hdg S.2.2.2.1 hk2 rfl go
      · obtain ⟨hdg, rfl⟩ := pj_okE_dec hok rfl
        exact lv_istore_n hx hb hdg rfl S.2.2.2.1 hk2 rfl go
  · cases he
theorem sp_sta {k : Nat} {i : Instr} (hi : i = .astore k ∨ ∃ q : Fin 4, i = .astore_n q ∧ q.val = k) (C : pj_Cx p R s m args meth c D dA A b X M) (S : pj_St s D dA A b M α la H locs ls h) (hok : pj_okE M pc (i, nx, a, b1, c1, d, hd) = true) (he : pj_sta nx ls st h k = some (P, pc', ls', st', h')) (kk : pj_K p l e R s m args below meth c D dA A b M cells slots Q α h pc' ls' st' h') : W p l e R s m args below meth c H locs cells slots Q (F0 m pc la (st.map (pj_cv α b))) := by
  obtain ⟨hx, hb, -⟩ := C
  unfold pj_sta at he
  split at he
  · rename_i r t
    cases ho : ((pj_ok (.inr r) && Nat.blt k ls.length) && pj_nl ls k) with
    | false => rw [ho] at he; cases he
    | true =>
      rw [ho] at he
      cases he
      rw [Bool.and_eq_true, Bool.and_eq_true] at ho
      have hk : k < ls.length := Nat.le_of_ble_eq_true ho.1.2
      have hk2 : k < k_nL M := by rw [← S.2.2.2.2.1]; exact hk
      obtain ⟨x, hxr⟩ := pj_cv_ok (α := α) (b := b) ho.1.1
      have go : ∀ ls9 : Array Slot, lv_has ls9 (k_nL M) ((k, Value.ref x) :: (pj_ll α b 0 ls).filter (fun q => !(q.1 == k) && !(q.1 + 1 == k && q.2.category == 2))) → W p l e R s m args below meth c H locs cells slots Q (F0 m nx ls9 (st'.map (pj_cv α b))) := fun ls9 h9 =>
        kk.same (S.lcs (pj_ll_set (v := .inr r) hk ho.2 (by rw [hxr]; exact h9)) (by rw [List.length_set]; exact S.2.2.2.2.1))
      rw [List.map_cons, hxr]
      rcases hi with rfl | ⟨q, rfl, rfl⟩
      · obtain ⟨hdg, rfl⟩ := pj_okE_dec hok rfl
        exact lv_astore hx hb hdg S.2.2.2.1 hk2 rfl go
      · obtain ⟨hdg, rfl⟩ := pj_okE_dec hok rfl
        exact lv_astore_n hx hb hdg rfl S.2.2.2.1 hk2 rfl go
  · cases he
theorem sp_cst {i : Instr} {z : Int} (hi : i = .iconst z ∨ i = .bipush z ∨ i = .sipush z) (C : pj_Cx p R s m args meth c D dA A b X M) (S : pj_St s D dA A b M α la H locs ls h) (hok : pj_okE M pc (i, nx, a, b1, c1, d, hd) = true) (kk : pj_K p l e R s m args below meth c D dA A b M cells slots Q α h nx ls (.inl z :: st) h) : W p l e R s m args below meth c H locs cells slots Q (F0 m pc la (st.map (pj_cv α b))) := by
  obtain ⟨hx, hb, -⟩ := C
  rcases hi with rfl | rfl | rfl
  · obtain ⟨hdg, rfl⟩ := pj_okE_dec hok rfl
    exact lv_iconst hx hb hdg rfl (kk.same S)
  · obtain ⟨hdg, rfl⟩ := pj_okE_dec hok rfl
    simp only [pj_okE, Bool.and_eq_true, decide_eq_true_eq] at hok
    exact lv_bipush hx hb hdg hok.2 (kk.same S)
  · obtain ⟨hdg, rfl⟩ := pj_okE_dec hok rfl
    simp only [pj_okE, Bool.and_eq_true, decide_eq_true_eq] at hok
    exact lv_sipush hx hb hdg hok.2 (kk.same S)
theorem sp_iinc {k : Nat} {z x : Int} (hx0 : pj_at ls k = some (.inl x)) (hnl : pj_nl ls k = true) (C : pj_Cx p R s m args meth c D dA A b X M) (S : pj_St s D dA A b M α la H locs ls h) (hok : pj_okE M pc (.iinc k z, nx, a, b1, c1, d, hd) = true) (kk : pj_K p l e R s m args below meth c D dA A b M cells slots Q α h nx (ls.set k (.inl (x + z))) st h) : W p l e R s m args below meth c H locs cells slots Q (F0 m pc la (st.map (pj_cv α b))) := by
  obtain ⟨hx, hb, -⟩ := C
  obtain ⟨hdg, rfl⟩ := pj_okE_dec hok rfl
  have hk := pj_at_lt hx0
  have hk2 : k < k_nL M := by rw [← S.2.2.2.2.1]; exact hk
  obtain ⟨j, hj⟩ := List.getElem?_of_mem (pj_ll_mem (α := α) (b := b) (k := 0) hx0 rfl)
  rw [Nat.zero_add] at hj
  exact lv_iinc (v := Int32.ofInt (x + z)) hx hb hdg S.2.2.2.1 hj (Int32.ofInt_add x z).symm hk2 rfl (fun ls9 h9 => kk.same (S.lcs (pj_ll_set (v := .inl (x + z)) hk hnl h9) (by rw [List.length_set]; exact S.2.2.2.2.1)))
theorem sp_goto {o : Int} (C : pj_Cx p R s m args meth c D dA A b X M) (S : pj_St s D dA A b M α la H locs ls h) (hok : pj_okE M pc (.goto o, nx, a, b1, c1, d, hd) = true) (kk : pj_K p l e R s m args below meth c D dA A b M cells slots Q α h a ls st h) : W p l e R s m args below meth c H locs cells slots Q (F0 m pc la (st.map (pj_cv α b))) := by
  obtain ⟨hx, hb, -⟩ := C
  obtain ⟨hdg, rfl⟩ := pj_okE_dec hok rfl
  simp only [pj_okE, Bool.and_eq_true, decide_eq_true_eq] at hok
  exact lv_goto hx hb hdg hok.2 (kk.same S)
/-- two ints off the stack, one on it -/
theorem sp_b2 {i : Instr} {z x y : Int} (C : pj_Cx p R s m args meth c D dA A b X M) (S : pj_St s D dA A b M α la H locs ls h) (hok : pj_okE M pc (i, nx, a, b1, c1, d, hd) = true) (hl : pj_len i = 1) (hs : pj_nsw i = true)
    (row : decode (k_b M) pc = .ok (i, 1) → W p l e R s m args below meth c H locs cells slots Q (F0 m (pc + 1) la (.int (Int32.ofInt z) :: st.map (pj_cv α b))) → W p l e R s m args below meth c H locs cells slots Q (F0 m pc la (.int (Int32.ofInt y) :: .int (Int32.ofInt x) :: st.map (pj_cv α b))))
    (kk : pj_K p l e R s m args below meth c D dA A b M cells slots Q α h nx ls (.inl z :: st) h) : W p l e R s m args below meth c H locs cells slots Q (F0 m pc la ((.inl y :: .inl x :: st : List pj_V).map (pj_cv α b))) := by
  obtain ⟨hdg, rfl⟩ := pj_okE_dec hok hs
  rw [hl] at hdg kk
  exact row hdg (kk.same S)
theorem pj_bt (x : Int32) : Int32.ofInt x.toInt = x := Int32.ofInt_toInt x
theorem sp_bin {i : Instr} {q : Int → Int → Prop} {f : Int → Int → Int} (C : pj_Cx p R s m args meth c D dA A b X M) (S : pj_St s D dA A b M α la H locs ls h) (hok : pj_okE M pc (i, nx, a, b1, c1, d, hd) = true)
    (hif : (i = .iadd ∧ q = (fun _ _ => True) ∧ f = (fun x y => x + y)) ∨ (i = .isub ∧ q = (fun _ _ => True) ∧ f = (fun x y => x - y)) ∨ (i = .imul ∧ q = (fun _ _ => True) ∧ f = (fun x y => x * y)) ∨ (i = .idiv ∧ q = pj_dv ∧ f = (fun x y => x.tdiv y)) ∨ (i = .irem ∧ q = pj_dv ∧ f = (fun x y => x.tmod y)) ∨ (i = .iand ∧ q = (fun _ _ => True) ∧ f = pj_and) ∨ (i = .ior ∧ q = (fun _ _ => True) ∧ f = pj_or) ∨ (i = .ixor ∧ q = (fun _ _ => True) ∧ f = pj_xor) ∨ (i = .ishl ∧ q = (fun _ _ => True) ∧ f = pj_shl) ∨ (i = .ishr ∧ q = (fun _ _ => True) ∧ f = pj_shr))
    (he : pj_b2 nx ls st h q f = some (P, pc', ls', st', h')) (hP : P) (kk : pj_K p l e R s m args below meth c D dA A b M cells slots Q α h pc' ls' st' h') : W p l e R s m args below meth c H locs cells slots Q (F0 m pc la (st.map (pj_cv α b))) := by
  have hx := C.1
  have hb := C.2.1
  unfold pj_b2 at he
  split at he
  · rename_i y x t
    cases he
    rcases hif with ⟨rfl, rfl, rfl⟩ | ⟨rfl, rfl, rfl⟩ | ⟨rfl, rfl, rfl⟩ | ⟨rfl, rfl, rfl⟩ | ⟨rfl, rfl, rfl⟩ | ⟨rfl, rfl, rfl⟩ | ⟨rfl, rfl, rfl⟩ | ⟨rfl, rfl, rfl⟩ | ⟨rfl, rfl, rfl⟩ | ⟨rfl, rfl, rfl⟩
    · exact sp_b2 C S hok rfl rfl (fun hdg k => lv_iadd hx hb hdg (by rw [← Int32.ofInt_add]; exact k)) kk
    · exact sp_b2 C S hok rfl rfl (fun hdg k => lv_isub hx hb hdg (by rw [← Int32.ofInt_sub]; exact k)) kk
    · exact sp_b2 C S hok rfl rfl (fun hdg k => lv_imul hx hb hdg (by rw [← Int32.ofInt_mul]; exact k)) kk
    · exact sp_b2 C S hok rfl rfl (fun hdg k => lv_idiv hx hb hdg (pj_ne32 hP) (by rw [← pj_div32 hP]; exact k)) kk
    · exact sp_b2 C S hok rfl rfl (fun hdg k => lv_irem hx hb hdg (pj_ne32 hP) (by rw [← pj_rem32 hP]; exact k)) kk
    · exact sp_b2 C S hok rfl rfl (fun hdg k => lv_iand hx hb hdg (by rw [pj_and, pj_bt] at k; exact k)) kk
    · exact sp_b2 C S hok rfl rfl (fun hdg k => lv_ior hx hb hdg (by rw [pj_or, pj_bt] at k; exact k)) kk
    · exact sp_b2 C S hok rfl rfl (fun hdg k => lv_ixor hx hb hdg (by rw [pj_xor, pj_bt] at k; exact k)) kk
    · exact sp_b2 C S hok rfl rfl (fun hdg k => lv_ishl hx hb hdg (by rw [pj_shl, pj_bt] at k; exact k)) kk
    · exact sp_b2 C S hok rfl rfl (fun hdg k => lv_ishr hx hb hdg (by rw [pj_shr, pj_bt] at k; exact k)) kk
  · cases he
theorem sp_ineg {x : Int} {t : List pj_V} (C : pj_Cx p R s m args meth c D dA A b X M) (S : pj_St s D dA A b M α la H locs ls h) (hok : pj_okE M pc (.ineg, nx, a, b1, c1, d, hd) = true) (kk : pj_K p l e R s m args below meth c D dA A b M cells slots Q α h nx ls (.inl (-x) :: t) h) : W p l e R s m args below meth c H locs cells slots Q (F0 m pc la ((.inl x :: t : List pj_V).map (pj_cv α b))) := by
  obtain ⟨hdg, rfl⟩ := pj_okE_dec hok rfl
  have k := kk.same S
  refine lv_ineg (x := Int32.ofInt x) C.1 C.2.1 hdg ?_
  rw [← Int32.ofInt_neg]
  exact k
theorem sp_dup {v : pj_V} {t : List pj_V} (hv : pj_n2 v = true) (C : pj_Cx p R s m args meth c D dA A b X M) (S : pj_St s D dA A b M α la H locs ls h) (hok : pj_okE M pc (.dup, nx, a, b1, c1, d, hd) = true) (kk : pj_K p l e R s m args below meth c D dA A b M cells slots Q α h nx ls (v :: v :: t) h) : W p l e R s m args below meth c H locs cells slots Q (F0 m pc la ((v :: t).map (pj_cv α b))) := by
  obtain ⟨hdg, rfl⟩ := pj_okE_dec hok rfl
  exact lv_dup C.1 C.2.1 hdg (pj_cv_cat hv) (kk.same S)
theorem sp_dup2 {v w : pj_V} {t : List pj_V} (hv : (pj_n2 v && pj_n2 w) = true) (C : pj_Cx p R s m args meth c D dA A b X M) (S : pj_St s D dA A b M α la H locs ls h) (hok : pj_okE M pc (.dup2, nx, a, b1, c1, d, hd) = true) (kk : pj_K p l e R s m args below meth c D dA A b M cells slots Q α h nx ls (v :: w :: v :: w :: t) h) : W p l e R s m args below meth c H locs cells slots Q (F0 m pc la ((v :: w :: t).map (pj_cv α b))) := by
  obtain ⟨hdg, rfl⟩ := pj_okE_dec hok rfl
  rw [Bool.and_eq_true] at hv
  exact lv_dup2_11 C.1 C.2.1 hdg (by first | exact pj_cv_cat hv.1 | exact pj_cv_cat hv.2) (by first | exact pj_cv_cat hv.2 | exact pj_cv_cat hv.1) (kk.same S)
theorem sp_pop {v : pj_V} {t : List pj_V} (hv : pj_n2 v = true) (C : pj_Cx p R s m args meth c D dA A b X M) (S : pj_St s D dA A b M α la H locs ls h) (hok : pj_okE M pc (.pop, nx, a, b1, c1, d, hd) = true) (kk : pj_K p l e R s m args below meth c D dA A b M cells slots Q α h nx ls t h) : W p l e R s m args below meth c H locs cells slots Q (F0 m pc la ((v :: t).map (pj_cv α b))) := by
  obtain ⟨hdg, rfl⟩ := pj_okE_dec hok rfl
  exact lv_pop C.1 C.2.1 hdg (pj_cv_cat hv) (kk.same S)
/-- the cell at a place -/
theorem pj_St.cell (S : pj_St s D dA A b M α la H locs ls h) {r : Nat} {q : pj_C} (hq : pj_at h r = some q) : (pj_wl dA α b 0 h)[r]? = some (α r, pj_cc dA α b q) ∧ pj_cv α b (.inr r) = .ref (α r) := by
  refine ⟨by simpa using pj_wl_at (dA := dA) (α := α) (b := b) (k := 0) hq, pj_cv_ref ?_⟩
  have := pj_at_lt hq
  have := S.2.2.2.2.2
  omega
theorem pj_okG_spec {n : Nat} {put : Bool} (hk : pj_okG M n a b1 c1 d put = true) : ∃ (C : String) (T : u_T) (N : Nat), pj_at vwCl a = some (C, T, N) ∧ b1 < N ∧ (T b1).1 = C ∧ (pj_fl (k_y M).cls n C (T b1).2.1 (T b1).2.2.1 d = 1 ∧ (put = true → (T b1).2.2.2 = false ∨ ((k_y M).name = "<init>" ∧ C = (k_y M).cls)) ∨ pj_fl (k_y M).cls n C (T b1).2.1 (T b1).2.2.1 d = 2 ∧ (put = true → (T b1).2.2.2 = false)) ∧ (put = true → (c1 = 0 ∧ pj_ty0 T b1 = .int) ∨ (c1 ≠ 0 ∧ ((∃ n, pj_ty0 T b1 = .object n) ∨ ∃ t, pj_ty0 T b1 = .array t))) := by
  unfold pj_okG at hk
  split at hk
  · rename_i C T N hq
    simp only [Bool.and_eq_true, decide_eq_true_eq] at hk
    obtain ⟨h1, ⟨h2, h3⟩, h4⟩ := hk
    refine ⟨C, T, N, hq, Nat.le_of_ble_eq_true h1, h2, ?_, ?_⟩
    · split at h3
      · rename_i e
        refine Or.inl ⟨e, fun hp => ?_⟩
        subst hp
        simp only [Bool.not_true, Bool.false_or, Bool.or_eq_true, decide_eq_true_eq, Bool.not_eq_true'] at h3
        exact h3
      · rename_i e
        refine Or.inr ⟨e, fun hp => ?_⟩
        subst hp
        simpa using h3
      · cases h3
    · intro hp
      subst hp
      simp only [Bool.not_true, Bool.false_or] at h4
      split at h4
      · refine Or.inl ⟨rfl, ?_⟩
        unfold pj_isInt at h4
        split at h4
        · assumption
        · cases h4
      · rename_i hc
        refine Or.inr ⟨hc, ?_⟩
        unfold pj_isRef at h4
        split at h4
        · exact Or.inl ⟨_, by assumption⟩
        · exact Or.inr ⟨_, by assumption⟩
        · cases h4
  · cases hk
theorem pj_cl_get {q : vw_C} (hq : pj_at vwCl a = some q) : vwCl[a]? = some q := (pj_at_get _ _).symm.trans hq
theorem pj_at_map {α' β : Type} (f : α' → β) (l : List α') (k : Nat) (v : α') (hk : pj_at l k = some v) : (l.map f)[k]? = some (f v) := by
  rw [List.getElem?_map, ← pj_at_get, hk]
  rfl
theorem sp_get {n r ci : Nat} {fs t : List pj_V} {v : pj_V} (hq : pj_at h r = some (.inr (ci, fs))) (hv : pj_at fs b1 = some v) (hc : (Nat.beq ci a && pj_ok v) = true) (C : pj_Cx p R s m args meth c D dA A b X M) (S : pj_St s D dA A b M α la H locs ls h) (hok : pj_okE M pc (.getfield n, nx, a, b1, c1, d, hd) = true) (kk : pj_K p l e R s m args below meth c D dA A b M cells slots Q α h nx ls (v :: t) h) : W p l e R s m args below meth c H locs cells slots Q (F0 m pc la ((.inr r :: t : List pj_V).map (pj_cv α b))) := by
  obtain ⟨hdg, rfl⟩ := pj_okE_dec hok rfl
  have hok2 : pj_okG M n a b1 c1 d false = true := by
    simp only [pj_okE, Bool.and_eq_true] at hok
    exact hok.2
  obtain ⟨cn, T, N, hcl, hb1, hT, hf, -⟩ := pj_okG_spec hok2
  rw [Bool.and_eq_true] at hc
  have hca := Nat.eq_of_beq_eq_true hc.1
  subst hca
  obtain ⟨hw, hr⟩ := S.cell hq
  obtain ⟨hx, hb, hml, hown, hts, hnw, hK, -⟩ := C
  rw [List.map_cons, hr]
  rcases hf with ⟨hf, -⟩ | ⟨hf, -⟩
  · refine va_get (T := T) (N := N) (C := cn) (ref := cn) hx hb hts (pj_cls ci _ hcl) hown hK S.1 r hw (pj_cl_get hcl) b1 hb1 (hts _ (pj_tbl_good (pj_fl_1 hf) rfl)) (fun x h9 => by rw [hT] at h9; exact h9) (pj_at_map _ _ _ _ hv) hdg (kk.same S)
  · obtain ⟨host, hm⟩ := pj_fl_2 hf
    refine va_getN (T := T) (N := N) (C := cn) (ref := cn) (host := host) hx hb hts (pj_cls ci _ hcl) hown hK S.1 r hw (pj_cl_get hcl) b1 hb1 (va_Nw.use rfl (hnw _ hm)) (fun x h9 => by rw [hT] at h9; exact h9) (pj_at_map _ _ _ _ hv) hdg (kk.same S)
/-! longs -/
theorem pj_dcl {x : Nat} (h : 2000 ≤ x) : ((2000 + (x - 2000) : Nat) : Int) - 2000 = (x : Int) - 2000 := by omega
theorem sp_ldc {n : Nat} (C : pj_Cx p R s m args meth c D dA A b X M) (S : pj_St s D dA A b M α la H locs ls h) (hok : pj_okE M pc (.ldc n, nx, a, b1, c1, d, hd) = true) (kk : pj_K p l e R s m args below meth c D dA A b M cells slots Q α h nx ls (.inl (a : Int) :: st) h) : W p l e R s m args below meth c H locs cells slots Q (F0 m pc la (st.map (pj_cv α b))) := by
  obtain ⟨hx, hb, hml, hown, hts, -⟩ := C
  obtain ⟨hdg, rfl⟩ := pj_okE_dec hok rfl
  simp only [pj_okE, Bool.and_eq_true] at hok
  exact lv_ldc hx hb hown (hts _ (pj_is_mem rfl hok.2)) hdg (kk.same S)
theorem sp_ldc2 {n : Nat} (C : pj_Cx p R s m args meth c D dA A b X M) (S : pj_St s D dA A b M α la H locs ls h) (hok : pj_okE M pc (.ldc2_w n, nx, a, b1, c1, d, hd) = true) (kk : pj_K p l e R s m args below meth c D dA A b M cells slots Q α h nx ls (.inr (2000 + a) :: st) h) : W p l e R s m args below meth c H locs cells slots Q (F0 m pc la (st.map (pj_cv α b))) := by
  obtain ⟨hx, hb, hml, hown, hts, -⟩ := C
  obtain ⟨hdg, rfl⟩ := pj_okE_dec hok rfl
  simp only [pj_okE, Bool.and_eq_true] at hok
  have k := kk.same S
  rw [List.map_cons, pj_cv_long (by omega), show ((2000 + a : Nat) : Int) - 2000 = (a : Int) by omega] at k
  exact lv_ldc2 hx hb hown (hts _ (pj_is_mem rfl hok.2)) hdg k
theorem sp_lconst {n : Fin 2} (C : pj_Cx p R s m args meth c D dA A b X M) (S : pj_St s D dA A b M α la H locs ls h) (hok : pj_okE M pc (.lconst n, nx, a, b1, c1, d, hd) = true) (kk : pj_K p l e R s m args below meth c D dA A b M cells slots Q α h nx ls (.inr (2000 + n.val) :: st) h) : W p l e R s m args below meth c H locs cells slots Q (F0 m pc la (st.map (pj_cv α b))) := by
  obtain ⟨hx, hb, -⟩ := C
  obtain ⟨hdg, rfl⟩ := pj_okE_dec hok rfl
  have k := kk.same S
  rw [List.map_cons, pj_cv_long (by omega), show ((2000 + n.val : Nat) : Int) - 2000 = ((n.val : Nat) : Int) by omega] at k
  exact lv_lconst hx hb hdg (by rw [← Int64.ofInt_eq_ofNat]) k
theorem sp_ldl {k : Nat} {i : Instr} (hi : i = .lload k ∨ ∃ q : Fin 4, i = .lload_n q ∧ q.val = k) (C : pj_Cx p R s m args meth c D dA A b X M) (S : pj_St s D dA A b M α la H locs ls h) (hok : pj_okE M pc (i, nx, a, b1, c1, d, hd) = true) (he : pj_ldl nx ls st h k = some (P, pc', ls', st', h')) (hP : P) (kk : pj_K p l e R s m args below meth c D dA A b M cells slots Q α h pc' ls' st' h') : W p l e R s m args below meth c H locs cells slots Q (F0 m pc la (st.map (pj_cv α b))) := by
  obtain ⟨hx, hb, -⟩ := C
  unfold pj_ldl at he
  split at he
  · rename_i r hz
    cases he
    have hr : 2000 ≤ r := hP
    have hl : la[k]? = some (.val (pj_cv α b (.inr r))) := by
      have := S.2.2.2.1.2.2 _ (pj_ll_mem (α := α) (b := b) (k := 0) hz (by simp only [pj_tr, Nat.ble_eq_true_of_le hr, Bool.or_true]))
      simpa using this
    have kk := kk.same S
    rw [pj_cv_long hr] at hl
    rw [List.map_cons, pj_cv_long hr] at kk
    rcases hi with rfl | ⟨q, rfl, rfl⟩
    · obtain ⟨hdg, rfl⟩ := pj_okE_dec hok rfl
      exact lv_lload hx hb hdg hl kk
    · obtain ⟨hdg, rfl⟩ := pj_okE_dec hok rfl
      exact lv_lload_n hx hb hdg rfl hl kk
  · cases he
theorem sp_stl {k : Nat} {i : Instr} (hi : i = .lstore k ∨ ∃ q : Fin 4, i = .lstore_n q ∧ q.val = k) (C : pj_Cx p R s m args meth c D dA A b X M) (S : pj_St s D dA A b M α la H locs ls h) (hok : pj_okE M pc (i, nx, a, b1, c1, d, hd) = true) (he : pj_stl nx ls st h k = some (P, pc', ls', st', h')) (hP : P) (kk : pj_K p l e R s m args below meth c D dA A b M cells slots Q α h pc' ls' st' h') : W p l e R s m args below meth c H locs cells slots Q (F0 m pc la (st.map (pj_cv α b))) := by
  obtain ⟨hx, hb, -⟩ := C
  unfold pj_stl at he
  split at he
  · rename_i r t
    cases ho : (Nat.blt (k + 1) ls.length && pj_nl ls k) with
    | false => rw [ho] at he; cases he
    | true =>
    rw [ho] at he
    rw [Bool.and_eq_true] at ho
    cases he
    have hr : 2000 ≤ r := hP
    have hk : k + 1 < ls.length := Nat.le_of_ble_eq_true ho.1
    have hk2 : k + 1 < k_nL M := by rw [← S.2.2.2.2.1]; exact hk
    have go : ∀ ls9 : Array Slot, lv_has ls9 (k_nL M) ((k, Value.long (Int64.ofInt ((r : Int) - 2000))) :: (pj_ll α b 0 ls).filter (fun q => !(q.1 == k) && (!(q.1 == k + 1) && !(q.1 + 1 == k && q.2.category == 2)))) → W p l e R s m args below meth c H locs cells slots Q (F0 m nx ls9 (st'.map (pj_cv α b))) := fun ls9 h9 =>
      kk.same (S.lcs (pj_ll_set2 (v := .inr r) hk ho.2 (by rw [pj_cv_long hr]; exact h9)) (by rw [List.length_set, List.length_set]; exact S.2.2.2.2.1))
    rw [List.map_cons, pj_cv_long hr]
    rcases hi with rfl | ⟨q, rfl, rfl⟩
    · obtain ⟨hdg, rfl⟩ := pj_okE_dec hok rfl
      exact lv_lstore hx hb hdg S.2.2.2.1 hk2 rfl go
    · obtain ⟨hdg, rfl⟩ := pj_okE_dec hok rfl
      exact lv_lstore_n hx hb hdg rfl S.2.2.2.1 hk2 rfl go
  · cases he
theorem sp_i2l {x : Int} {t : List pj_V} (hP : 0 ≤ x ∧ x ≤ 2147483647) (C : pj_Cx p R s m args meth c D dA A b X M) (S : pj_St s D dA A b M α la H locs ls h) (hok : pj_okE M pc (.i2l, nx, a, b1, c1, d, hd) = true) (kk : pj_K p l e R s m args below meth c D dA A b M cells slots Q α h nx ls (.inr (2000 + x.toNat) :: t) h) : W p l e R s m args below meth c H locs cells slots Q (F0 m pc la ((.inl x :: t : List pj_V).map (pj_cv α b))) := by
  obtain ⟨hdg, rfl⟩ := pj_okE_dec hok rfl
  have k := kk.same S
  rw [List.map_cons, pj_cv_long (by omega), show ((2000 + x.toNat : Nat) : Int) - 2000 = x by omega] at k
  refine lv_i2l (x := Int32.ofInt x) C.1 C.2.1 hdg ?_ k
  rw [← Int64.toInt_inj, Int32.toInt_toInt64, pj_i32 ⟨by omega, by omega⟩, Int64.toInt_ofInt_of_le (by omega) (by omega)]
theorem sp_lmul {x y : Nat} {t : List pj_V} (hP : 2000 ≤ x ∧ 2000 ≤ y) (C : pj_Cx p R s m args meth c D dA A b X M) (S : pj_St s D dA A b M α la H locs ls h) (hok : pj_okE M pc (.lmul, nx, a, b1, c1, d, hd) = true) (kk : pj_K p l e R s m args below meth c D dA A b M cells slots Q α h nx ls (.inr (2000 + (x - 2000) * (y - 2000)) :: t) h) : W p l e R s m args below meth c H locs cells slots Q (F0 m pc la ((.inr y :: .inr x :: t : List pj_V).map (pj_cv α b))) := by
  obtain ⟨hdg, rfl⟩ := pj_okE_dec hok rfl
  have k := kk.same S
  have e : ((2000 + (x - 2000) * (y - 2000) : Nat) : Int) - 2000 = ((x : Int) - 2000) * ((y : Int) - 2000) := by
    rw [Int.natCast_add, Int.natCast_mul, Int.natCast_sub hP.1, Int.natCast_sub hP.2]
    show (2000 : Int) + ((x : Int) - 2000) * ((y : Int) - 2000) - 2000 = _
    omega
  rw [List.map_cons, pj_cv_long (by omega), e] at k
  rw [List.map_cons, List.map_cons, pj_cv_long hP.1, pj_cv_long hP.2]
  refine lv_lmul C.1 C.2.1 hdg ?_
  rw [← Int64.ofInt_mul]
  exact k
theorem sp_ladd {x y : Nat} {t : List pj_V} (hP : 2000 ≤ x ∧ 2000 ≤ y) (C : pj_Cx p R s m args meth c D dA A b X M) (S : pj_St s D dA A b M α la H locs ls h) (hok : pj_okE M pc (.ladd, nx, a, b1, c1, d, hd) = true) (kk : pj_K p l e R s m args below meth c D dA A b M cells slots Q α h nx ls (.inr (2000 + ((x - 2000) + (y - 2000))) :: t) h) : W p l e R s m args below meth c H locs cells slots Q (F0 m pc la ((.inr y :: .inr x :: t : List pj_V).map (pj_cv α b))) := by
  obtain ⟨hdg, rfl⟩ := pj_okE_dec hok rfl
  have k := kk.same S
  have e : ((2000 + ((x - 2000) + (y - 2000)) : Nat) : Int) - 2000 = ((x : Int) - 2000) + ((y : Int) - 2000) := by omega
  rw [List.map_cons, pj_cv_long (by omega), e] at k
  rw [List.map_cons, List.map_cons, pj_cv_long hP.1, pj_cv_long hP.2]
  refine lv_ladd C.1 C.2.1 hdg ?_
  rw [← Int64.ofInt_add]
  exact k
theorem sp_lcmp {x y : Nat} {t : List pj_V} (hP : 2000 ≤ x ∧ x = y) (C : pj_Cx p R s m args meth c D dA A b X M) (S : pj_St s D dA A b M α la H locs ls h) (hok : pj_okE M pc (.lcmp, nx, a, b1, c1, d, hd) = true) (kk : pj_K p l e R s m args below meth c D dA A b M cells slots Q α h nx ls (.inl 0 :: t) h) : W p l e R s m args below meth c H locs cells slots Q (F0 m pc la ((.inr y :: .inr x :: t : List pj_V).map (pj_cv α b))) := by
  obtain ⟨hdg, rfl⟩ := pj_okE_dec hok rfl
  have k := kk.same S
  obtain ⟨h1, rfl⟩ := hP
  rw [List.map_cons, List.map_cons, pj_cv_long h1]
  refine W.lcmp C.1 C.2.1 hdg ?_
  have e1 : ∀ z : Int64, lg_cmp z z = 0 := fun z => by simp [lg_cmp]
  rw [e1]
  exact k
end STEP
