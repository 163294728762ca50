/-! a run of the pure machine gives the method's contract, and its walk on the JVM -/
def pj_tys (dA : Nat → ClassId) : List (ClassId × FieldType) := [(dA 0, .int), (dA 1, .int)]
def pj_wsM (a : Nat) : List Cond := .code (k_y a) (k_b a) (k_nL a) (k_ret a) :: pj_tb
def pj_rm (a mc ms : Nat) : Room := { frames := k_fr a, cells := mc, slots := ms, locals := k_lo a }
def pj_pre (D : va_G) (dA : Nat → ClassId) (b : Nat) (X : pj_X) (α : Nat → Nat) (h : List pj_C) (sz : Nat) (U : State) : Prop :=
  U.heap.size = sz ∧ va_P D vwCl (pj_wl dA α b 0 h) U.heap ∧ va_K D vwCl [(dA 0, .int), (dA 1, .int)] U ∧ va_D (fun _ => True) (pj_wl dA α b 0 h) ∧ va_X b X.1 (fun j => Int32.ofInt (X.2 j)) U U.heap ∧ b < sz ∧ (∀ (k : Nat) (q : Nat × va_E), (pj_wl dA α b 0 h)[k]? = some q → q.1 ≠ b) ∧ (∀ w ∈ pj_nb, va_Nw w U) ∧ h.length ≤ 1000
def pj_post (D : va_G) (dA : Nat → ClassId) (b : Nat) (α : Nat → Nat) (h hc : List pj_C) (A : Nat → Prop) (α' : Nat → Nat) (t : State) : Prop :=
  va_P D vwCl (pj_wl dA α' b 0 hc) t.heap ∧ va_D A (pj_wl dA α' b 0 hc) ∧ ((∀ k, k < h.length → α' k = α k) ∧ (hc.length = h.length → α' = α))
def pj_qc (D : va_G) (dA : Nat → ClassId) (b : Nat) (α : Nat → Nat) (h hc : List pj_C) (A : Nat → Prop) (r : Option pj_V) : Array Value → State → Outcome → State → Prop := match r with
  | none => va_Qv (S := Nat → Nat) (fun _ => True) (pj_post D dA b α h hc A) A
  | some (.inl z) => va_Qi (S := Nat → Nat) (fun r _ => r = Int32.ofInt z) (pj_post D dA b α h hc A) A
  | some (.inr k) => if k < 1000 then va_Qr (S := Nat → Nat) (fun _ => True) (fun α' a t => a = α' k ∧ pj_post D dA b α h hc A α' t) A else va_Ql (S := Nat → Nat) (fun r _ => r = Int64.ofInt ((k : Int) - 2000)) (pj_post D dA b α h hc A) A
theorem pj_gi (ws : List Cond) (hw : ∀ w ∈ ws, w ∈ pj_tb) : GoodIn pj_tb ws := fun w h => ⟨hw w h, good_of_word (pj_good w (hw w h))⟩
theorem pj_okI_spec {a : Nat} (h : pj_okI a = true) : plainFor (k_y a) = true ∧ Cond.code (k_y a) (k_b a) (k_nL a) (k_ret a) ∈ pj_tb ∧ Cond.initialized (k_y a).cls ∈ pj_tb ∧ ((k_y a).cls ≠ "java/lang/invoke/MethodHandle" ∧ (k_y a).cls ≠ "java/lang/invoke/VarHandle") ∧ (parseMethodDescriptor (k_y a).desc).map (fun d => d.parameters.length) = some (match k_kd a with | 0 => k_na a | _ => k_na a - 1) ∧ k_na a ≤ k_nL a ∧
    ((k_kd a = 0 ∧ Cond.static (k_y a) ∈ pj_tb) ∨ (k_kd a = 1 ∧ 0 < k_na a ∧ Cond.instanceMethod (k_y a) ∈ pj_tb ∧ Cond.selects (k_y a).cls (k_y a) (k_y a) ∈ pj_tb ∧ (pj_at vwCl (k_ci a)).map (fun q => q.1) = some (k_y a).cls) ∨ (k_kd a = 2 ∧ 0 < k_na a ∧ Cond.instanceMethod (k_y a) ∈ pj_tb ∧ (k_y a).name = "<init>" ∧ k_ret a = none)) ∧
    ((k_rt a = 0 ∧ k_ret a = none) ∨ (k_rt a = 1 ∧ k_ret a = some .int) ∨ (k_rt a = 2 ∧ k_ret a = some .boolean) ∨ (k_rt a = 3 ∧ ∃ n, k_ret a = some (.object n)) ∨ (k_rt a = 4 ∧ k_ret a = some .long)) := by
  unfold pj_okI at h
  simp only [Bool.and_eq_true, decide_eq_true_eq] at h
  obtain ⟨h1, h2, h3, h4, h5, h6, h7, h8⟩ := h
  refine ⟨h1, pj_is_mem rfl h2, pj_is_mem rfl h3, h4, h5, Nat.le_of_ble_eq_true h6, ?_, ?_⟩
  · split at h7
    · rename_i hk
      exact Or.inl ⟨hk, pj_is_mem rfl h7⟩
    · rename_i hk
      simp only [Bool.and_eq_true, decide_eq_true_eq] at h7
      exact Or.inr (Or.inl ⟨hk, Nat.le_of_ble_eq_true h7.1, pj_is_mem rfl h7.2.1, pj_is_mem rfl h7.2.2.1, h7.2.2.2⟩)
    · rename_i hk
      simp only [Bool.and_eq_true, decide_eq_true_eq] at h7
      exact Or.inr (Or.inr ⟨hk, Nat.le_of_ble_eq_true h7.1, pj_is_mem rfl h7.2.1, h7.2.2.1, h7.2.2.2⟩)
    · cases h7
  · split at h8
    · rename_i e1 e2; exact Or.inl ⟨e1, e2⟩
    · rename_i e1 e2; exact Or.inr (Or.inl ⟨e1, e2⟩)
    · rename_i e1 e2; exact Or.inr (Or.inr (Or.inl ⟨e1, e2⟩))
    · rename_i e1 e2; exact Or.inr (Or.inr (Or.inr (Or.inl ⟨e1, _, e2⟩)))
    · rename_i e1 e2; exact Or.inr (Or.inr (Or.inr (Or.inr ⟨e1, e2⟩)))
    · cases h8
def pj_BS (X : pj_X) (al : Bool) (n : Nat) : Prop :=
  ∀ (M pc : Nat) (ls st : List pj_V) (h : List pj_C) (r : Option pj_V) (hf : List pj_C), pj_Rn X al n M pc ls st h r hf → ∀ (p : Program) (l : Launch) (e : Env) (R : Room) (s : State) (m : MethodId) (args : Array Value) (below : List Frame) (meth : Method) (c : Code) (D : va_G) (dA : Nat → ClassId) (A : Nat → Prop) (b cells slots : Nat) (Q : State → Prop) (α : Nat → Nat) (la : Array Slot) (H : Heap) (locs : List Loc),
    pj_Cx p R s m args meth c D dA A b X M → pj_St s D dA A b M α la H locs ls h → cells + (hf.length - h.length) ≤ R.cells → slots + (pj_tot hf - pj_tot h) ≤ R.slots →
    (∀ (α' : Nat → Nat) (H' : Heap) (locs' : List Loc) (la' : Array Slot) (pc' : Nat) (i : Instr) (st' : List pj_V) (P : Prop), ((∀ k, k < h.length → α' k = α k) ∧ (hf.length = h.length → α' = α)) → decode (k_b M) pc' = .ok (i, 1) → pj_rn (k_rt M) i st' = some (P, r) → P → va_P D vwCl (pj_wl dA α' b 0 hf) H' → va_D A (pj_wl dA α' b 0 hf) → va_S A s.heap H' locs' → W p l e R s m args below meth c H' locs' (cells + (hf.length - h.length)) (slots + (pj_tot hf - pj_tot h)) Q (F0 m pc' la' (st'.map (pj_cv α' b)))) →
    W p l e R s m args below meth c H locs cells slots Q (F0 m pc la (st.map (pj_cv α b)))
theorem pj_sl (α : Nat → Nat) (b : Nat) : ∀ as : List pj_V, as.all pj_n2 = true → (lg_sl (as.map (pj_cv α b))).length = as.length
  | [], _ => rfl
  | v :: vs, hn => by
    simp only [List.all_cons, Bool.and_eq_true] at hn
    have := pj_sl α b vs hn.2
    simp only [lg_sl] at this ⊢
    rw [List.map_cons, List.flatMap_cons, List.length_append, this, pj_cv_cat hn.1, if_neg (by decide)]
    simp only [List.length_cons, List.length_nil]
    omega
set_option maxHeartbeats 1000000 in
theorem pj_met {X : pj_X} {al : Bool} {n a : Nat} (IH : pj_BS X al n) (hI : pj_okI a = true) {as : List pj_V} {h hc : List pj_C} {rc : Option pj_V} (hR : pj_Rn X al n a 0 (as ++ pj_rep (k_nL a - as.length)) [] h rc hc) (has : as.length = k_na a) (hn2 : as.all pj_n2 = true) (l : Launch) (D : va_G) (dA : Nat → ClassId) (b : Nat) (α : Nat → Nat) (sz : Nat) :
    Met l (k_y a) (pj_wsM a) (pj_rm a (hc.length - h.length) (pj_tot hc - pj_tot h)) (va_Pc (as.map (pj_cv α b)) (pj_pre D dA b X α h sz)) (pj_qc D dA b α h hc (va_A (pj_wl dA α b 0 h) sz) rc) (hc.length - h.length) (pj_tot hc - pj_tot h) (va_A (pj_wl dA α b 0 h) sz) := by
  obtain ⟨hpl, hcode, hini, hcls, hdesc, hnl, hkind, hret⟩ := pj_okI_spec hI
  refine va_MetF (cc := k_b a) (maxL := k_nL a) (ret := k_ret a) hpl rfl ?_
  intro p e s m args below meth c s₁ B hml hv
  obtain ⟨rfl, hsz, hP, hK, hD0, hX, hbl, hbne, hnw, hlen⟩ := hv
  have hts0 := atoms_spec (ws := pj_wsM a) B.pre
  have hts : ∀ w ∈ pj_tb, w.before (as.map (pj_cv α b)).toArray s = true := fun w hw => hts0 w (List.mem_cons_of_mem _ hw)
  have hown : s.vm.findClass (k_y a).cls = some m.cls := findClass_of_methodNamed B.named
  have hname : meth.name = (k_y a).name := (name_of_methodNamed B.named B.method).1
  have hlocks := B.notSynchronized
  have hx := B.exec
  have hb := B.bytes
  have hr := B.returns
  subst hsz
  have hD := hD0.self (sz := s.heap.size)
  have hbA : ¬ va_A (pj_wl dA α b 0 h) s.heap.size b := by
    intro h9
    rcases h9 with ⟨k, q, h9⟩ | h9
    · exact hbne k _ h9 rfl
    · omega
  have hl := lv_entry (as.map (pj_cv α b)) (n := k_nL a) (by rw [pj_sl _ _ _ hn2, has]; exact hnl)
  rw [lg_entry_eq]
  generalize (lg_sl (as.map (pj_cv α b)) ++ List.replicate (k_nL a - (lg_sl (as.map (pj_cv α b))).length) Slot.unset).toArray = la at hl ⊢
  have hl : lv_has la (k_nL a) (pj_ll α b 0 (as ++ pj_rep (k_nL a - as.length))) := ⟨hl.1, hl.2.1, fun q hq => hl.2.2 q (pj_ll_args as 0 _ hn2 q hq)⟩
  refine IH a 0 _ [] h rc hc hR p l e _ s m _ below meth c D dA (va_A (pj_wl dA α b 0 h) s.heap.size) b 0 0 _ α la s.heap [] ⟨hx, hb, hml, hown, hts, hnw, hK, hX, hbl, hbA, fun q h9 => Or.inr h9, hname, Nat.le_refl _, Nat.le_refl _⟩ ⟨hP, hD, va_S.rf, hl, by rw [List.length_append, pj_rep_len]; omega, hlen⟩ (by show 0 + _ ≤ hc.length - h.length; omega) (by show 0 + _ ≤ pj_tot hc - pj_tot h; omega) ?_
  intro α' H' locs' la' pc' i st' P hag hdg hrn hPP hP1 hD1 hS1
  refine W.cs (cells' := hc.length - h.length) (slots' := pj_tot hc - pj_tot h) (by omega) (by omega) ?_
  unfold pj_rn at hrn
  split at hrn
  · split at hrn
    · rename_i hrt
      cases hrn
      have hret : k_ret a = none := by rcases hret with ⟨_, z⟩ | ⟨z, _⟩ | ⟨z, _⟩ | ⟨z, _⟩ | ⟨z, _⟩ <;> first | exact z | omega
      exact W.vret hx hb (by rw [hr, hret]) (fun t ht hW => ⟨⟨α', rfl, trivial, by rw [ht]; exact hP1, hD1, hag⟩, hS1.F ht⟩) hS1.2.2 hdg
    · cases hrn
  · split at hrn
    · rename_i hrt
      cases hrn
      have hret : k_ret a = some .int := by rcases hret with ⟨z, _⟩ | ⟨_, z⟩ | ⟨z, _⟩ | ⟨z, _⟩ | ⟨z, _⟩ <;> first | exact z | omega
      exact W.iret hx hb (by rw [hr, hret]) (fun t ht hW => ⟨⟨_, α', rfl, rfl, by rw [ht]; exact hP1, hD1, hag⟩, hS1.F ht⟩) hS1.2.2 hdg
    · rename_i hrt
      cases hrn
      have hret : k_ret a = some .boolean := by rcases hret with ⟨z, _⟩ | ⟨z, _⟩ | ⟨_, z⟩ | ⟨z, _⟩ | ⟨z, _⟩ <;> first | exact z | omega
      exact W.zret (ty := .boolean) hx hb (by rw [hr, hret]) (by rcases hPP with rfl | rfl <;> rfl) (fun t ht hW => ⟨⟨_, α', rfl, rfl, by rw [ht]; exact hP1, hD1, hag⟩, hS1.F ht⟩) hS1.2.2 hdg
    · cases hrn
  · split at hrn
    · rename_i hrt
      obtain ⟨hc9, hrn⟩ := pj_cond hrn
      have hc9 := Nat.le_of_ble_eq_true hc9
      cases hrn
      obtain ⟨nm, hret⟩ : ∃ nm, k_ret a = some (.object nm) := by rcases hret with ⟨z, _⟩ | ⟨z, _⟩ | ⟨z, _⟩ | ⟨_, z⟩ | ⟨z, _⟩ <;> first | exact z | omega
      rw [List.map_cons, pj_cv_ref (by omega)]
      simp only [pj_qc]
      rw [if_pos (by omega)]
      exact W.aret (rt := .object nm) hx hb (by rw [hr, hret]) (Or.inl ⟨_, rfl⟩) (Or.inr ⟨_, rfl⟩) (fun t ht hW => ⟨⟨α', _, rfl, trivial, rfl, by rw [ht]; exact hP1, hD1, hag⟩, hS1.F ht⟩) hS1.2.2 hdg
    · cases hrn
  · split at hrn
    · rename_i hrt
      cases hrn
      have hPP : 2000 ≤ _ := hPP
      have hret : k_ret a = some .long := by rcases hret with ⟨z, _⟩ | ⟨z, _⟩ | ⟨z, _⟩ | ⟨z, _⟩ | ⟨_, z⟩ <;> first | exact z | omega
      rw [List.map_cons, pj_cv_long hPP]
      simp only [pj_qc]
      rw [if_neg (by omega)]
      exact W.lret hx hb (by rw [hr, hret]) (fun t ht hW => ⟨⟨_, α', rfl, rfl, by rw [ht]; exact hP1, hD1, hag⟩, hS1.F ht⟩) hS1.2.2 hdg
    · cases hrn
  · cases hrn
section CALL
variable {p : Program} {l : Launch} {e : Env} {R : Room} {s : State} {m : MethodId} {args : Array Value} {below : List Frame} {meth : Method} {c : Code} {D : va_G} {dA : Nat → ClassId} {A : Nat → Prop} {b M cells slots mc ms : Nat} {Q : State → Prop} {X : pj_X}
variable {α : Nat → Nat} {la : Array Slot} {H : Heap} {locs : List Loc} {ls st : List pj_V} {h : List pj_C} {al hd : Bool} {pc nx a b1 c1 d pc' : Nat} {P : Prop} {ls' st' : List pj_V} {h' hc : List pj_C} {i : Instr} {rc : Option pj_V}
theorem sp_ret {st0 rest : List Value} {aa : Array Value} (hA : ∀ q, s.heap.size ≤ q → A q) (hk : ∀ k, rc = some (.inr k) → k < 1000 ∨ 2000 ≤ k) (hr : va_Run p l e R s m args below meth c H locs cells slots mc ms (F0 m pc la st0) rest (pj_qc D dA b α h hc (va_A (pj_wl dA α b 0 h) H.size) rc aa) (va_A (pj_wl dA α b 0 h) H.size)) (hD : va_D A (pj_wl dA α b 0 h)) (hS : va_S A s.heap H locs)
    (kk : ∀ (α' : Nat → Nat) (H' : Heap) (locs' : List Loc), ((∀ k, k < h.length → α' k = α k) ∧ (hc.length = h.length → α' = α)) → va_P D vwCl (pj_wl dA α' b 0 hc) H' → va_D A (pj_wl dA α' b 0 hc) → va_S A s.heap H' locs' → W p l e R s m args below meth c H' locs' (cells + mc) (slots + ms) Q (F0 m (pc + 3) la (rc.toList.map (pj_cv α' b) ++ rest))) : W p l e R s m args below meth c H locs cells slots Q (F0 m pc la st0) := by
  have hsub : ∀ q, va_A (pj_wl dA α b 0 h) H.size q → A q := by
    intro q h9
    rcases h9 with ⟨k, q1, h9⟩ | h9
    · exact hD.2 k _ h9
    · exact hA q (Nat.le_trans hS.1 h9)
  cases rc with
  | none =>
    refine va_callv (a := aa) hr hS (fun q _ h9 => hsub q h9) hsub (fun u t H1 locs1 ht hvm hp hB hz1 hk1 hS1 => ?_)
    obtain ⟨hP1, hD1, hag⟩ := hB
    rw [ht] at hP1
    exact kk u H1 locs1 hag hP1 (hD1.weaken (fun _ _ _ h9 => hsub _ h9)) hS1
  | some v =>
    cases v with
    | inl z =>
      refine va_calli (a := aa) hr hS (fun q _ h9 => hsub q h9) hsub (fun r u t H1 locs1 ht hvm hp hB hz1 hk1 hS1 => ?_)
      obtain ⟨hP1, hD1, hag⟩ := hB
      rw [ht] at hP1
      subst hp
      exact kk u H1 locs1 hag hP1 (hD1.weaken (fun _ _ _ h9 => hsub _ h9)) hS1
    | inr k =>
      rcases hk k rfl with hk | hk
      case inr =>
        simp only [pj_qc] at hr
        rw [if_neg (by omega)] at hr
        refine va_calll (a := aa) hr hS (fun q _ h9 => hsub q h9) hsub (fun r u t H1 locs1 ht hvm hp hB hz1 hk1 hS1 => ?_)
        obtain ⟨hP1, hD1, hag⟩ := hB
        rw [ht] at hP1
        subst hp
        have k9 := kk u H1 locs1 hag hP1 (hD1.weaken (fun _ _ _ h9 => hsub _ h9)) hS1
        rw [show (some (Sum.inr k : pj_V)).toList = [Sum.inr k] from rfl, List.map_cons, pj_cv_long hk] at k9
        exact k9
      simp only [pj_qc] at hr
      rw [if_pos hk] at hr
      refine va_callr (a := aa) hr hS (fun q _ h9 => hsub q h9) hsub ?_
      intro u a9 t H1 locs1 ht hvm hp hB hz1 hk1 hS1
      obtain ⟨rfl, hP1, hD1, hag⟩ := hB
      rw [ht] at hP1
      have k9 := kk u H1 locs1 hag hP1 (hD1.weaken (fun _ _ _ h9 => hsub _ h9)) hS1
      rw [show (some (Sum.inr k : pj_V)).toList = [Sum.inr k] from rfl, List.map_cons, pj_cv_ref hk] at k9
      exact k9
theorem pj_blind (av : List Value) (sz : Nat) : FrameBlind (va_Pc av (pj_pre D dA b X α h sz)) := by
  intro a9 U g mk q
  obtain ⟨h1, h2, h3, h4, h5, h6, h7, h8, h9, h10⟩ := q
  exact ⟨h1, h2, h3, va_K.moved (u := U) (U := U.calling g mk a9) (Vm.Alike.refl U.vm) h4, h5, va_X.moved (u := U) (U := U.calling g mk a9) (Vm.Alike.refl U.vm) h6, h7, h8, fun w hw => va_Nw.same (u := U) (U := U.calling g mk a9) (pj_nb_tabs w hw) rfl (h9 w hw), h10⟩
theorem pj_pre_at {av : List Value} (C : pj_Cx p R s m args meth c D dA A b X M) (S : pj_St s D dA A b M α la H locs ls h) : ∀ U : State, U.heap = H → s.WarmedH U.vm → va_Pc av (pj_pre D dA b X α h H.size) av.toArray U := by
  intro U hU hW
  obtain ⟨hx, hb, hml, hown, hts, hnw, hK, hX, hbl, hbA, hA, hnm, hfr, hlo⟩ := C
  refine ⟨rfl, by rw [hU], by rw [hU]; exact S.1, va_K.moved hW.alike hK, S.2.1.weaken (fun _ _ _ _ => trivial), ?_, Nat.lt_of_lt_of_le hbl S.2.2.1.1, ?_, pj_nb_warm hW hnw, S.2.2.2.2.2⟩
  · rw [hU]
    exact va_X.moved hW.alike (va_X.kept hX (S.2.2.1.2.1 b hbl hbA))
  · intro k q hq h9
    exact hbA (h9 ▸ S.2.1.2 k q hq)
set_option maxHeartbeats 1000000 in
theorem sp_call {al' : Bool} {n : Nat} {as t : List pj_V} (IH : pj_BS X al' n) (hR : pj_Rn X al' n a 0 (as ++ pj_rep (k_nL a - as.length)) [] h rc hc) (he : pj_cl i a b1 st h = some (a, as, t)) (C : pj_Cx p R s m args meth c D dA A b X M) (S : pj_St s D dA A b M α la H locs ls h) (hok : pj_okE M pc (i, nx, a, b1, c1, d, hd) = true) (hrc : ∀ k, rc = some (.inr k) → k < 1000 ∨ 2000 ≤ k) (hcl : cells + (hc.length - h.length) ≤ R.cells) (hsl : slots + (pj_tot hc - pj_tot h) ≤ R.slots)
    (kk : ∀ (α' : Nat → Nat) (H' : Heap) (locs' : List Loc), ((∀ k, k < h.length → α' k = α k) ∧ (hc.length = h.length → α' = α)) → va_P D vwCl (pj_wl dA α' b 0 hc) H' → va_D A (pj_wl dA α' b 0 hc) → va_S A s.heap H' locs' → W p l e R s m args below meth c H' locs' (cells + (hc.length - h.length)) (slots + (pj_tot hc - pj_tot h)) Q (F0 m nx la (rc.toList.map (pj_cv α' b) ++ t.map (pj_cv α b)))) : W p l e R s m args below meth c H locs cells slots Q (F0 m pc la (st.map (pj_cv α b))) := by
  obtain ⟨hx, hb, hml, hown, hts, hnw, hK, hX, hbl, hbA, hA, hnm, hfr, hlo⟩ := id C
  have hD := S.2.1
  have hS := S.2.2.1
  have fin : ∀ {mc ms : Nat} {st0 rest : List Value} {aa : Array Value}, mc = hc.length - h.length → ms = pj_tot hc - pj_tot h → rest = t.map (pj_cv α b) → st0 = st.map (pj_cv α b) → nx = pc + 3 → va_Run p l e R s m args below meth c H locs cells slots mc ms (F0 m pc la st0) rest (pj_qc D dA b α h hc (va_A (pj_wl dA α b 0 h) H.size) rc aa) (va_A (pj_wl dA α b 0 h) H.size) → W p l e R s m args below meth c H locs cells slots Q (F0 m pc la (st.map (pj_cv α b))) := by
    intro mc ms st0 rest aa e1 e2 e3 e4 e5 hr
    subst e1 e2 e3 e4 e5
    exact sp_ret hA hrc hr hD hS kk
  have hCF : CallFix p m c (k_b M) (k_nL M) s args pj_tb (k_y M).cls := ⟨hx, hb, hml, hown, hts⟩
  have hsize : la.size = k_nL M := S.2.2.2.1.1
  have common : Nat.blt a 100 = true → as.length = k_na a → _ := fun h1 h2 => pj_okI_spec (k_okI a (Nat.le_of_ble_eq_true h1))
  have hcats : ∀ l9 : List pj_V, pj_wd l9 ≤ 8 → 2 * (F0 m pc la (st.map (pj_cv α b))).monitorRoom + ((l9.map (pj_cv α b)).map fun v => v.category).sum ≤ 8 := fun l9 h9 => lv_room (Nat.le_trans (pj_cats l9) h9)
  unfold pj_cl at he
  split at he
  · split at he
    · -- static
      rename_i n9
      obtain ⟨hdg, rfl⟩ := pj_okE_dec hok rfl
      simp only [pj_okE, Bool.and_eq_true] at hok
      obtain ⟨-, o1, o2, o3, o4, o5⟩ := hok
      obtain ⟨hc9, he⟩ := pj_cond he
      simp only [Bool.and_eq_true] at hc9
      simp only [Option.some.injEq, Prod.mk.injEq, true_and] at he
      obtain ⟨rfl, rfl⟩ := he
      have hle := Nat.le_of_ble_eq_true hc9.2.1
      have h8 := Nat.le_of_ble_eq_true hc9.1.2
      have hkd := Nat.eq_of_beq_eq_true hc9.1.1
      have hn2 : (st.take (k_na a)).reverse.all pj_n2 = true := by rw [List.all_reverse]; exact hc9.2.2
      have hasl : (st.take (k_na a)).reverse.length = k_na a := by rw [List.length_reverse, List.length_take]; omega
      have o4 := Nat.le_of_ble_eq_true o4
      have o5 := Nat.le_of_ble_eq_true o5
      have hI := k_okI a (Nat.le_of_ble_eq_true o1)
      obtain ⟨hpl, hcode, hini, hcls, hdesc, hnl, hkind, hret⟩ := pj_okI_spec hI
      have hst : Cond.static (k_y a) ∈ pj_tb := by rcases hkind with ⟨_, z⟩ | ⟨z, _⟩ | ⟨z, _⟩ <;> first | exact z | omega
      have hM := pj_met IH hI hR hasl hn2 l D dA b α H.size
      have hdesc : (parseMethodDescriptor (k_y a).desc).map (fun d => d.parameters.length) = some (k_na a) := by rw [hdesc, hkd]; rfl
      have hws : ∀ w ∈ pj_wsM a, w ∈ pj_tb := fun w hw => by rcases List.mem_cons.mp hw with rfl | hw <;> assumption
      have hstk : st.map (pj_cv α b) = ((st.take (k_na a)).reverse.map (pj_cv α b)).reverse ++ (st.drop (k_na a)).map (pj_cv α b) := by
        rw [← List.map_reverse, List.reverse_reverse, ← List.map_append, List.take_append_drop]
      have hroom : (pj_rm a (hc.length - h.length) (pj_tot hc - pj_tot h)).frames + 1 ≤ R.frames ∧ 8 + (k_nL a + 11) + (pj_rm a (hc.length - h.length) (pj_tot hc - pj_tot h)).locals ≤ R.locals := ⟨Nat.le_trans o4 hfr, Nat.le_trans o5 hlo⟩
      have hpre : PreS s H (va_Pc ((st.take (k_na a)).reverse.map (pj_cv α b)) (pj_pre D dA b X α h H.size)) ((st.take (k_na a)).reverse.map (pj_cv α b)) := ⟨pj_blind _ _, pj_pre_at C S⟩
      have hna : ((st.take (k_na a)).reverse.map (pj_cv α b)).length = k_na a := by rw [List.length_map, hasl]
      split at o3
      · have hlk := pj_is_mem rfl o3
        exact fin rfl rfl rfl rfl rfl (va_runS hCF hM (va_cwS (k_na a) hts (pj_gi _ (fun w hw => by
          simp only [va_wsS, List.mem_append, List.mem_cons, List.not_mem_nil, or_false] at hw
          rcases hw with (rfl | rfl | rfl) | hw
          · exact hlk
          · exact hst
          · exact hini
          · exact hws w hw)) rfl rfl rfl ⟨hcls.1, hcls.2, hdesc⟩ hroom) hpre rfl hna hsize hstk (hcats _ h8) hdg ⟨hcl, hsl⟩)
      · have hlk := pj_is_nest rfl o3
        exact fin rfl rfl rfl rfl rfl (va_runSN hCF hM ⟨va_cnB (k_na a) hts (pj_gi _ hws) rfl rfl rfl (hnw _ hlk) (hts _ hini) ⟨hcls.1, hcls.2, hdesc⟩ hroom, hts _ hst, trivial⟩ hpre rfl hna hsize hstk (hcats _ h8) hdg ⟨hcl, hsl⟩)
    · -- virtual
      rename_i n9
      obtain ⟨hdg, rfl⟩ := pj_okE_dec hok rfl
      simp only [pj_okE, Bool.and_eq_true] at hok
      obtain ⟨-, o1, o2, o3, o4, o5⟩ := hok
      obtain ⟨hc9, he⟩ := pj_cond he
      simp only [Bool.and_eq_true] at hc9
      simp only [Option.some.injEq, Prod.mk.injEq, true_and] at he
      obtain ⟨has0, rfl⟩ := he
      have hrcv := hc9.1.1.2
      have h8 := Nat.le_of_ble_eq_true hc9.1.2
      have hle := Nat.le_of_ble_eq_true hc9.2.1
      have hkd := Nat.eq_of_beq_eq_true hc9.1.1.1
      have hn2 : as.all pj_n2 = true := by rw [← has0, List.all_reverse]; exact hc9.2.2
      have o4 := Nat.le_of_ble_eq_true o4
      have o5 := Nat.le_of_ble_eq_true o5
      have hI := k_okI a (Nat.le_of_ble_eq_true o1)
      obtain ⟨hpl, hcode, hini, hcls, hdesc, hnl, hkind, hret⟩ := pj_okI_spec hI
      obtain ⟨hn0, hin, hsel, hcv⟩ : 0 < k_na a ∧ Cond.instanceMethod (k_y a) ∈ pj_tb ∧ Cond.selects (k_y a).cls (k_y a) (k_y a) ∈ pj_tb ∧ (pj_at vwCl (k_ci a)).map (fun q => q.1) = some (k_y a).cls := by rcases hkind with ⟨z, _⟩ | ⟨_, z⟩ | ⟨z, _⟩ <;> first | exact z | omega
      rw [has0] at hrcv
      have hasl : as.length = k_na a := by rw [← has0, List.length_reverse, List.length_take]; omega
      have hstk : st.map (pj_cv α b) = (as.map (pj_cv α b)).reverse ++ (st.drop (k_na a)).map (pj_cv α b) := by
        rw [← has0, ← List.map_reverse, List.reverse_reverse, ← List.map_append, List.take_append_drop]
      unfold pj_rc at hrcv
      simp only at hrcv
      split at hrcv
      · rename_i r as1
        split at hrcv
        · rename_i cix fs hq
          have hcix := Nat.eq_of_beq_eq_true hrcv
          subst hcix
          obtain ⟨hw0, hr0⟩ := S.cell hq
          have hM := pj_met IH hI hR hasl hn2 l D dA b α H.size
          have hdesc : (parseMethodDescriptor (k_y a).desc).map (fun d => d.parameters.length) = some (k_na a - 1) := by rw [hdesc, hkd]; rfl
          have hws : ∀ w ∈ pj_wsM a, w ∈ pj_tb := fun w hw => by rcases List.mem_cons.mp hw with rfl | hw <;> assumption
          have hroom : (pj_rm a (hc.length - h.length) (pj_tot hc - pj_tot h)).frames + 1 ≤ R.frames ∧ 8 + (k_nL a + 11) + (pj_rm a (hc.length - h.length) (pj_tot hc - pj_tot h)).locals ≤ R.locals := ⟨Nat.le_trans o4 hfr, Nat.le_trans o5 hlo⟩
          rw [List.map_cons, hr0] at hM hstk
          have hna : (as1.map (pj_cv α b)).length = k_na a - 1 := by rw [List.length_map]; simp only [List.length_cons] at hasl; omega
          have hstk2 : st.map (pj_cv α b) = (as1.map (pj_cv α b)).reverse ++ .ref (α r) :: (st.drop (k_na a)).map (pj_cv α b) := by
            rw [hstk, List.reverse_cons, List.append_assoc]; rfl
          obtain ⟨q9, hq9, hq9c⟩ : ∃ q9, pj_at vwCl (k_ci a) = some q9 ∧ q9.1 = (k_y a).cls := by
            cases hz : pj_at vwCl (k_ci a) with
            | none => rw [hz] at hcv; cases hcv
            | some q9 => rw [hz] at hcv; exact ⟨q9, rfl, Option.some.inj hcv⟩
          have hrecv := va_recv hK S.1 (pj_cl_get hq9) hw0
          rw [hq9c] at hrecv
          have hpre : PreV s H (k_y a).cls (α r) (va_Pc (.ref (α r) :: as1.map (pj_cv α b)) (pj_pre D dA b X α h H.size)) (as1.map (pj_cv α b)) := ⟨pj_blind _ _, hrecv, pj_pre_at C S⟩
          split at o3
          · have hlk := pj_is_mem rfl o3
            exact fin rfl rfl rfl rfl rfl (va_runV hCF hM (cwV (k_na a - 1) hts (pj_gi _ (fun w hw => by
              simp only [wsV, List.mem_append, List.mem_cons, List.not_mem_nil, or_false] at hw
              rcases hw with (rfl | rfl | rfl | rfl) | hw
              · exact hlk
              · exact hin
              · exact hsel
              · exact hini
              · exact hws w hw)) rfl rfl rfl ⟨rfl, hcls.1, hcls.2, hdesc⟩ hroom) hpre rfl hna hsize hstk2 (hcats _ h8) hdg ⟨hcl, hsl⟩)
          · have hlk := pj_is_nest rfl o3
            exact fin rfl rfl rfl rfl rfl (va_runVN hCF hM ⟨va_cnB (k_na a - 1) hts (pj_gi _ hws) rfl rfl rfl (hnw _ hlk) (hts _ hini) ⟨hcls.1, hcls.2, hdesc⟩ hroom, hts _ hin, hts _ hsel⟩ hpre rfl hna hsize hstk2 (hcats _ h8) hdg ⟨hcl, hsl⟩)
        · cases hrcv
      · cases hrcv
    · -- special
      rename_i n9
      obtain ⟨hdg, rfl⟩ := pj_okE_dec hok rfl
      simp only [pj_okE, Bool.and_eq_true] at hok
      obtain ⟨-, o1, o2, o3, o4, o5⟩ := hok
      obtain ⟨hc9, he⟩ := pj_cond he
      simp only [Bool.and_eq_true] at hc9
      simp only [Option.some.injEq, Prod.mk.injEq, true_and] at he
      obtain ⟨has0, rfl⟩ := he
      have hrcv := hc9.1.1.2
      have h8 := Nat.le_of_ble_eq_true hc9.1.2
      have hle := Nat.le_of_ble_eq_true hc9.2.1
      have hkd := Nat.eq_of_beq_eq_true hc9.1.1.1
      have hn2 : as.all pj_n2 = true := by rw [← has0, List.all_reverse]; exact hc9.2.2
      have o4 := Nat.le_of_ble_eq_true o4
      have o5 := Nat.le_of_ble_eq_true o5
      have hI := k_okI a (Nat.le_of_ble_eq_true o1)
      obtain ⟨hpl, hcode, hini, hcls, hdesc, hnl, hkind, hret⟩ := pj_okI_spec hI
      obtain ⟨hn0, hin, hnm9, hrn⟩ : 0 < k_na a ∧ Cond.instanceMethod (k_y a) ∈ pj_tb ∧ (k_y a).name = "<init>" ∧ k_ret a = none := by rcases hkind with ⟨z, _⟩ | ⟨z, _⟩ | ⟨_, z⟩ <;> first | exact z | omega
      rw [has0] at hrcv
      have hasl : as.length = k_na a := by rw [← has0, List.length_reverse, List.length_take]; omega
      have hstk : st.map (pj_cv α b) = (as.map (pj_cv α b)).reverse ++ (st.drop (k_na a)).map (pj_cv α b) := by
        rw [← has0, ← List.map_reverse, List.reverse_reverse, ← List.map_append, List.take_append_drop]
      unfold pj_rc at hrcv
      simp only at hrcv
      split at hrcv
      · rename_i r as1
        have hr0 : pj_cv α b (.inr r) = .ref (α r) := pj_cv_ref (by have := Nat.le_of_ble_eq_true hrcv; omega)
        have hM := pj_met IH hI hR hasl hn2 l D dA b α H.size
        have hdesc : (parseMethodDescriptor (k_y a).desc).map (fun d => d.parameters.length) = some (k_na a - 1) := by rw [hdesc, hkd]; rfl
        have hws : ∀ w ∈ pj_wsM a, w ∈ pj_tb := fun w hw => by rcases List.mem_cons.mp hw with rfl | hw <;> assumption
        have hroom : (pj_rm a (hc.length - h.length) (pj_tot hc - pj_tot h)).frames + 1 ≤ R.frames ∧ 8 + (k_nL a + 11) + (pj_rm a (hc.length - h.length) (pj_tot hc - pj_tot h)).locals ≤ R.locals := ⟨Nat.le_trans o4 hfr, Nat.le_trans o5 hlo⟩
        rw [List.map_cons, hr0] at hM hstk
        have hna : (as1.map (pj_cv α b)).length = k_na a - 1 := by rw [List.length_map]; simp only [List.length_cons] at hasl; omega
        have hstk2 : st.map (pj_cv α b) = (as1.map (pj_cv α b)).reverse ++ .ref (α r) :: (st.drop (k_na a)).map (pj_cv α b) := by
          rw [hstk, List.reverse_cons, List.append_assoc]; rfl
        have hpre : PreS s H (va_Pc (.ref (α r) :: as1.map (pj_cv α b)) (pj_pre D dA b X α h H.size)) (.ref (α r) :: as1.map (pj_cv α b)) := ⟨pj_blind _ _, pj_pre_at C S⟩
        have hwsn : pj_wsM a = .code (k_y a) (k_b a) (k_nL a) none :: pj_tb := by unfold pj_wsM; rw [hrn]
        split at o3
        · have hlk := pj_is_mem rfl o3
          exact fin rfl rfl rfl rfl rfl (va_runI hCF hM (cwI (k_na a - 1) hts (pj_gi _ hws) hwsn rfl rfl (hts _ hini) (hts _ hlk) (hts _ hin) hnm9 ⟨hcls.1, hcls.2, hdesc⟩ hroom) hpre rfl hna hsize hstk2 (hcats _ h8) hdg ⟨hcl, hsl⟩)
        · have hlk := pj_is_nest rfl o3
          exact fin rfl rfl rfl rfl rfl (va_runIN hCF hM ⟨va_cnB (k_na a - 1) hts (pj_gi _ hws) hwsn rfl rfl (hnw _ hlk) (hts _ hini) ⟨hcls.1, hcls.2, hdesc⟩ hroom, hnm9, hts _ hin⟩ hpre rfl hna hsize hstk2 (hcats _ h8) hdg ⟨hcl, hsl⟩)
      · cases hrcv
    · cases he
  · cases he
theorem pj_Rn_ref {X : pj_X} {al : Bool} : ∀ (n M pc : Nat) (ls st : List pj_V) (h : List pj_C) (r : Option pj_V) (hf : List pj_C), pj_Rn X al n M pc ls st h r hf → ∀ k, r = some (.inr k) → k < 1000 ∨ 2000 ≤ k
  | 0, _, _, _, _, _, _, _, hR => False.elim hR
  | n + 1, M, pc, ls, st, h, r, hf, hR => by
    unfold pj_Rn at hR
    split at hR
    · exact False.elim hR
    · split at hR
      · exact pj_Rn_ref n _ _ _ _ _ _ _ hR.2
      · split at hR
        · rename_i k pt pf t hk
          by_cases hc : k
          · exact pj_Rn_ref n _ _ _ _ _ _ _ (hR.2.1 hc)
          · exact pj_Rn_ref n _ _ _ _ _ _ _ (hR.2.2 hc)
        · split at hR
          · rename_i v hv
            obtain ⟨hP9, rfl, -⟩ := hR
            intro k hk
            subst hk
            unfold pj_rn at hv
            split at hv
            · split at hv <;> cases hv
            · split at hv <;> cases hv
            · split at hv
              · obtain ⟨h9, hv⟩ := pj_cond hv
                have := Nat.le_of_ble_eq_true h9
                cases hv
                omega
              · cases hv
            · split at hv
              · cases hv
                exact Or.inr hP9
              · cases hv
            · cases hv
          · split at hR
            · obtain ⟨rc, hc, h1, -, h2⟩ := hR
              exact pj_Rn_ref n _ _ _ _ _ _ _ h2
            · split at hR
              · obtain ⟨-, pt, -, h1⟩ := hR
                exact pj_Rn_ref n _ _ _ _ _ _ _ h1
              · exact False.elim hR
theorem pj_cl_a {a b1 M' : Nat} {as t : List pj_V} (he : pj_cl i a b1 st h = some (M', as, t)) : M' = a := by
  unfold pj_cl at he
  split at he
  · split at he
    · obtain ⟨_, he⟩ := pj_cond he; cases he; rfl
    · obtain ⟨_, he⟩ := pj_cond he; cases he; rfl
    · obtain ⟨_, he⟩ := pj_cond he; cases he; rfl
    · cases he
  · cases he
set_option maxHeartbeats 1000000 in
/-- THE RUN: what the pure machine does from here, the JVM does -/
theorem pj_body (X : pj_X) (al : Bool) : ∀ n, pj_BS X al n
  | 0 => fun _ _ _ _ _ _ _ hR => False.elim hR
  | n + 1 => by
    intro M pc ls st h r hf hR p l e R s m args below meth c D dA A b cells slots Q α la H locs C S hcl hsl fin
    have hmono := pj_Rn_mono _ _ _ _ _ _ _ _ hR
    unfold pj_Rn at hR
    split at hR
    · exact False.elim hR
    · rename_i i nx a b1 c1 d hd hcd
      have hok := k_okM M pc _ hcd
      split at hR
      · rename_i P pc' ls' st' h' he
        have m1 := pj_s1_mono he
        have m2 := pj_Rn_mono _ _ _ _ _ _ _ _ hR.2
        refine pj_step C S hok he hR.1 (by omega) (by omega) ?_
        intro α' la' H' locs' hag S'
        refine pj_body X al n M pc' ls' st' h' r hf hR.2 p l e R s m args below meth c D dA A b _ _ Q α' la' H' locs' C S' (by omega) (by omega) ?_
        intro α2 H2 locs2 la2 pc2 i2 st2 P2 hag2 hdg2 hrn2 hP2 hPP hD2 hS2
        refine W.cs (cells' := cells + (hf.length - h.length)) (slots' := slots + (pj_tot hf - pj_tot h)) (by omega) (by omega) (fin α2 H2 locs2 la2 pc2 i2 st2 P2 ⟨fun k hk => (hag2.1 k (by omega)).trans (hag.1 k hk), fun e9 => (hag2.2 (by omega)).trans (hag.2 (by omega))⟩ hdg2 hrn2 hP2 hPP hD2 hS2)
      · split at hR
        · rename_i P k pt pf t he
          refine sp_br C hok he hR.1 (fun hk => ?_) (fun hk => ?_)
          · exact pj_body X al n M pt ls t h r hf (hR.2.1 hk) p l e R s m args below meth c D dA A b _ _ Q α la H locs C S hcl hsl fin
          · exact pj_body X al n M pf ls t h r hf (hR.2.2 hk) p l e R s m args below meth c D dA A b _ _ Q α la H locs C S hcl hsl fin
        · split at hR
          · rename_i P v he
            obtain ⟨hP, rfl, rfl⟩ := hR
            have hdg : decode (k_b M) pc = .ok (i, 1) := by
              unfold pj_rn at he
              split at he
              · exact (pj_okE_dec hok rfl).1
              · exact (pj_okE_dec hok rfl).1
              · exact (pj_okE_dec hok rfl).1
              · exact (pj_okE_dec hok rfl).1
              · cases he
            refine W.cs (cells' := cells + (hf.length - hf.length)) (slots' := slots + (pj_tot hf - pj_tot hf)) (by omega) (by omega) (fin α H locs la pc i st P ⟨fun _ _ => rfl, fun _ => rfl⟩ hdg he hP S.1 S.2.1 S.2.2.1)
          · split at hR
            · rename_i M' as t he
              obtain ⟨rc, hc, h1, h2, h3⟩ := hR
              have hMa := pj_cl_a he
              subst hMa
              have m1 := pj_Rn_mono _ _ _ _ _ _ _ _ h1
              have m2 := pj_Rn_mono _ _ _ _ _ _ _ _ h3
              have hrc := pj_Rn_ref _ _ _ _ _ _ _ _ h1
              refine sp_call (pj_body X al n) h1 he C S hok hrc (by omega) (by omega) ?_
              intro α' H' locs' hag hP' hD' hS'
              have els : pj_ll α' b 0 ls = pj_ll α b 0 ls ∧ t.map (pj_cv α' b) = t.map (pj_cv α b) := by
                rcases h2 with h2 | h2
                · rw [hag.2 h2]; exact ⟨rfl, rfl⟩
                · obtain ⟨-, w1, w2, -⟩ := pj_wfa_spec h2
                  exact ⟨pj_ll_agree hag.1 ls 0 w1, pj_map_agree hag.1 t w2⟩
              rw [← els.2, ← List.map_append]
              refine pj_body X al n M nx ls (rc.toList ++ t) hc r hf h3 p l e R s m args below meth c D dA A b _ _ Q α' la H' locs' C ⟨hP', hD', hS', by rw [els.1]; exact S.2.2.2.1, S.2.2.2.2.1, m1.2 S.2.2.2.2.2⟩ (by omega) (by omega) ?_
              intro α2 H2 locs2 la2 pc2 i2 st2 P2 hag2 hdg2 hrn2 hP2 hPP hD2 hS2
              refine W.cs (cells' := cells + (hf.length - h.length)) (slots' := slots + (pj_tot hf - pj_tot h)) (by omega) (by omega) (fin α2 H2 locs2 la2 pc2 i2 st2 P2 ⟨fun k hk => (hag2.1 k (by omega)).trans (hag.1 k hk), fun e9 => (hag2.2 (by omega)).trans (hag.2 (by omega))⟩ hdg2 hrn2 hP2 hPP hD2 hS2)
            · split at hR
              · rename_i dd lo hi offs x t he
                obtain ⟨hx, pt, ht, h3⟩ := hR
                refine sp_sw C hok he hx ht ?_
                exact pj_body X al n M pt ls t h r hf h3 p l e R s m args below meth c D dA A b _ _ Q α la H locs C S hcl hsl fin
              · exact False.elim hR
end CALL
