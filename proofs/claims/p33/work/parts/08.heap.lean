/-! one instruction: stores into cells, arrays, what is new -/
section HEAP
variable {p : Program} {l : Launch} {e : Env} {R : Room} {s : State} {m : MethodId} {args : Array Value} {below : List Frame} {meth : Method} {c : Code} {D : va_G} {dA : Nat → ClassId} {A : Nat → Prop} {b M cells slots : Nat} {Q : State → Prop} {X : pj_X}
variable {α : Nat → Nat} {la : Array Slot} {H : Heap} {locs : List Loc} {ls st : List pj_V} {h : List pj_C} {al hd : Bool} {pc nx a b1 c1 d pc' : Nat} {P : Prop} {ls' st' : List pj_V} {h' : List pj_C}
/-- behind a store into a cell -/
theorem pj_K.set {r : Nat} {q q' : pj_C} {t : List pj_V} (hq : pj_at h r = some q) (hz : pj_sz q' = pj_sz q) (S : pj_St s D dA A b M α la H locs ls h) (kk : pj_K p l e R s m args below meth c D dA A b M cells slots Q α h pc' ls t (h.set r q')) :
    ∀ (H1 : Heap) (locs1 : List Loc), va_P D vwCl ((pj_wl dA α b 0 h).set r (α r, pj_cc dA α b q')) H1 → va_D A ((pj_wl dA α b 0 h).set r (α r, pj_cc dA α b q')) → va_S A s.heap H1 locs1 → W p l e R s m args below meth c H1 locs1 cells slots Q (F0 m pc' la (t.map (pj_cv α b))) := by
  intro H1 locs1 hP hD hS
  have e1 : pj_wl dA α b 0 (h.set r q') = (pj_wl dA α b 0 h).set r (α r, pj_cc dA α b q') := by
    rw [pj_wl_set q' (pj_at_lt hq), Nat.zero_add]
  rw [← e1] at hP hD
  refine W.cs ?_ ?_ (kk α la H1 locs1 ⟨fun _ _ => rfl, fun _ => rfl⟩ ⟨hP, hD, hS, S.2.2.2.1, S.2.2.2.2.1, by rw [List.length_set]; exact S.2.2.2.2.2⟩)
  · rw [List.length_set]; omega
  · rw [pj_tot_set hq hz]; omega
theorem pj_map_set (fs : List pj_V) (k : Nat) (v : pj_V) : (fs.set k v).map (pj_cv α b) = (fs.map (pj_cv α b)).set k (pj_cv α b v) := by
  rw [List.map_set]
theorem sp_put {n r ci : Nat} {fs t : List pj_V} {v : pj_V} (hv : (∃ z, v = .inl z ∧ c1 = 0) ∨ ∃ y, v = .inr y ∧ c1 = 1 ∧ pj_ok v = true) (hq : pj_at h r = some (.inr (ci, fs))) (hca : ci = a) (hlt : b1 < fs.length) (C : pj_Cx p R s m args meth c D dA A b X M) (S : pj_St s D dA A b M α la H locs ls h) (hok : pj_okE M pc (.putfield n, nx, a, b1, c1, d, hd) = true) (kk : pj_K p l e R s m args below meth c D dA A b M cells slots Q α h nx ls t (h.set r (.inr (ci, fs.set b1 v)))) : W p l e R s m args below meth c H locs cells slots Q (F0 m pc la ((v :: .inr r :: t : List pj_V).map (pj_cv α b))) := by
  obtain ⟨hdg, rfl⟩ := pj_okE_dec hok rfl
  have hok2 : pj_okG M n a b1 c1 d true = true := by
    simp only [pj_okE, Bool.and_eq_true] at hok
    exact hok.2
  obtain ⟨cn, T, N, hcl, hb1, hT, hf, hty⟩ := pj_okG_spec hok2
  subst hca
  obtain ⟨hw, hr⟩ := S.cell hq
  obtain ⟨hx, hb, hml, hown, hts, hnw, hK, hX, hbl, hbA, hA, hname, -⟩ := C
  have kset := kk.set hq (by simp only [pj_sz, List.length_set]) S
  simp only [pj_cc, pj_map_set] at kset
  rw [List.map_cons, List.map_cons, hr]
  have hd2 : parseFieldDescriptor (T b1).2.2.1 = some (pj_ty0 T b1) := pj_clty ci _ hcl b1 hb1
  have hnf : narrow (pj_ty0 T b1) (pj_cv α b v) = pj_cv α b v ∧ fits (pj_ty0 T b1) (pj_cv α b v) = true := by
    rcases hv with ⟨z, rfl, hc0⟩ | ⟨y, rfl, hc0, ho⟩
    · rcases hty rfl with ⟨-, e0⟩ | ⟨e0, -⟩
      · rw [e0]
        exact ⟨rfl, rfl⟩
      · exact absurd hc0 e0
    · obtain ⟨x, hxr⟩ := pj_cv_ok (α := α) (b := b) ho
      rw [hxr]
      rcases hty rfl with ⟨e0, -⟩ | ⟨-, e0⟩
      · omega
      · rcases e0 with ⟨q, e0⟩ | ⟨q, e0⟩ <;> rw [e0] <;> exact ⟨rfl, rfl⟩
  have hl : b1 < (fs.map (pj_cv α b)).length := by rw [List.length_map]; exact hlt
  have hsame : ∀ x, s.fieldFound? (T b1).1 (T b1).2.1 (T b1).2.2.1 = some x → s.fieldFound? cn (T b1).2.1 (T b1).2.2.1 = some x := fun x h9 => by rw [hT] at h9; exact h9
  rcases hf with ⟨hf, hfin⟩ | ⟨hf, hfin⟩
  · have hlink := hts _ (pj_tbl_good (pj_fl_1 hf) rfl)
    by_cases hF : (T b1).2.2.2 = false
    · exact va_put (T := T) (N := N) (C := cn) (ref := cn) hx hb hts (pj_cls ci _ hcl) (pj_ty0 T) (pj_clty ci _ hcl) (pj_clnm ci _ hcl) hown hK S.1 S.2.1 S.2.2.1 r hw (pj_cl_get hcl) b1 hb1 hlink hsame hF hd2 hnf.1 hnf.2 hl hdg kset
    · have hF2 : (T b1).2.2.2 = true := by cases hz : (T b1).2.2.2 <;> simp_all
      rcases hfin rfl with h9 | ⟨h9, h10⟩
      · exact absurd h9 hF
      · exact va_putF (T := T) (N := N) (C := cn) (ref := cn) hx hb hts (pj_cls ci _ hcl) (pj_ty0 T) (pj_clty ci _ hcl) (pj_clnm ci _ hcl) hown hK S.1 S.2.1 S.2.2.1 r hw (pj_cl_get hcl) b1 hb1 hlink hsame hF2 (hname.trans h9) (hT.trans h10) hd2 hnf.1 hnf.2 hl hdg kset
  · obtain ⟨host, hm⟩ := pj_fl_2 hf
    exact va_putN (T := T) (N := N) (C := cn) (ref := cn) (host := host) hx hb hts (pj_cls ci _ hcl) (pj_ty0 T) (pj_clty ci _ hcl) (pj_clnm ci _ hcl) hown hK S.1 S.2.1 S.2.2.1 r hw (pj_cl_get hcl) b1 hb1 (va_Nw.use rfl (hnw _ hm)) hsame (hfin rfl) hd2 hnf.1 hnf.2 hl hdg kset
theorem sp_iald {r len : Nat} {f : Nat → Int} {j : Int} {t : List pj_V} (hq : pj_at h r = some (.inl (0, len, f))) (hj : (0 ≤ j ∧ j < (len : Int)) ∧ j < 2147483648) (C : pj_Cx p R s m args meth c D dA A b X M) (S : pj_St s D dA A b M α la H locs ls h) (hok : pj_okE M pc (.iaload, nx, a, b1, c1, d, hd) = true) (kk : pj_K p l e R s m args below meth c D dA A b M cells slots Q α h nx ls (.inl (f j.toNat) :: t) h) : W p l e R s m args below meth c H locs cells slots Q (F0 m pc la ((.inl j :: .inr r :: t : List pj_V).map (pj_cv α b))) := by
  obtain ⟨hdg, rfl⟩ := pj_okE_dec hok rfl
  obtain ⟨hw, hr⟩ := S.cell hq
  obtain ⟨hx, hb, hml, hown, hts, hnw, hK, -⟩ := C
  rw [List.map_cons, List.map_cons, hr]
  refine va_iald hx hb hK S.1 r 0 hw rfl (pj_in32 hj.1.1 hj.1.2 hj.2) hdg ?_
  rw [pj_cl32 hj.1.1 hj.2]
  exact kk.same S
theorem sp_bald {r len : Nat} {f : Nat → Int} {j : Int} {t : List pj_V} (hq : pj_at h r = some (.inl (1, len, f))) (hj : (0 ≤ j ∧ j < (len : Int)) ∧ j < 2147483648) (C : pj_Cx p R s m args meth c D dA A b X M) (S : pj_St s D dA A b M α la H locs ls h) (hok : pj_okE M pc (.baload, nx, a, b1, c1, d, hd) = true) (kk : pj_K p l e R s m args below meth c D dA A b M cells slots Q α h nx ls (.inl (f j.toNat) :: t) h) : W p l e R s m args below meth c H locs cells slots Q (F0 m pc la ((.inl j :: .inr r :: t : List pj_V).map (pj_cv α b))) := by
  simp only [pj_okE, Bool.and_false] at hok
  cases hok
theorem sp_sld {j : Int} {t : List pj_V} (hj : (0 ≤ j ∧ j < (X.1 : Int)) ∧ j < 2147483648) (C : pj_Cx p R s m args meth c D dA A b X M) (S : pj_St s D dA A b M α la H locs ls h) (hok : pj_okE M pc (.iaload, nx, a, b1, c1, d, hd) = true) (kk : pj_K p l e R s m args below meth c D dA A b M cells slots Q α h nx ls (.inl (X.2 j.toNat) :: t) h) : W p l e R s m args below meth c H locs cells slots Q (F0 m pc la ((.inl j :: .inr 1002 :: t : List pj_V).map (pj_cv α b))) := by
  obtain ⟨hdg, rfl⟩ := pj_okE_dec hok rfl
  obtain ⟨hx, hb, hml, hown, hts, hnw, hK, hX, hbl, hbA, -⟩ := C
  refine va_sld hx hb hX hbl hbA S.2.2.1 (i := Int32.ofInt j) (pj_in32 hj.1.1 hj.1.2 hj.2) hdg ?_
  rw [pj_cl32 hj.1.1 hj.2]
  exact kk.same S
theorem sp_slen {t : List pj_V} (C : pj_Cx p R s m args meth c D dA A b X M) (S : pj_St s D dA A b M α la H locs ls h) (hok : pj_okE M pc (.arraylength, nx, a, b1, c1, d, hd) = true) (kk : pj_K p l e R s m args below meth c D dA A b M cells slots Q α h nx ls (.inl (X.1 : Int) :: t) h) : W p l e R s m args below meth c H locs cells slots Q (F0 m pc la ((.inr 1002 :: t : List pj_V).map (pj_cv α b))) := by
  obtain ⟨hdg, rfl⟩ := pj_okE_dec hok rfl
  obtain ⟨hx, hb, hml, hown, hts, hnw, hK, hX, hbl, hbA, -⟩ := C
  refine va_slen hx hb hX hbl hbA S.2.2.1 hdg ?_
  rw [← Int32.ofInt_eq_ofNat]
  exact kk.same S
theorem sp_alen {r k len : Nat} {f : Nat → Int} {t : List pj_V} (hk : k = 0 ∨ k = 1) (hq : pj_at h r = some (.inl (k, len, f))) (C : pj_Cx p R s m args meth c D dA A b X M) (S : pj_St s D dA A b M α la H locs ls h) (hok : pj_okE M pc (.arraylength, nx, a, b1, c1, d, hd) = true) (kk : pj_K p l e R s m args below meth c D dA A b M cells slots Q α h nx ls (.inl (len : Int) :: t) h) : W p l e R s m args below meth c H locs cells slots Q (F0 m pc la ((.inr r :: t : List pj_V).map (pj_cv α b))) := by
  obtain ⟨hdg, rfl⟩ := pj_okE_dec hok rfl
  obtain ⟨hw, hr⟩ := S.cell hq
  obtain ⟨hx, hb, hml, hown, hts, hnw, hK, -⟩ := C
  rw [List.map_cons, hr]
  have k1 := kk.same S
  rcases hk with rfl | rfl
  · exact va_alen hx hb hK S.1 r 0 hw rfl (Int32.ofInt_eq_ofNat (n := len)).symm hdg k1
  · exact va_alen hx hb hK S.1 r 1 hw rfl (Int32.ofInt_eq_ofNat (n := len)).symm hdg k1
theorem sp_iast {r len : Nat} {f : Nat → Int} {j z : Int} {t : List pj_V} (hq : pj_at h r = some (.inl (0, len, f))) (hj : (0 ≤ j ∧ j < (len : Int)) ∧ j < 2147483648) (C : pj_Cx p R s m args meth c D dA A b X M) (S : pj_St s D dA A b M α la H locs ls h) (hok : pj_okE M pc (.iastore, nx, a, b1, c1, d, hd) = true) (kk : pj_K p l e R s m args below meth c D dA A b M cells slots Q α h nx ls t (h.set r (.inl (0, len, pj_up f j.toNat z)))) : W p l e R s m args below meth c H locs cells slots Q (F0 m pc la ((.inl z :: .inl j :: .inr r :: t : List pj_V).map (pj_cv α b))) := by
  obtain ⟨hdg, rfl⟩ := pj_okE_dec hok rfl
  obtain ⟨hw, hr⟩ := S.cell hq
  obtain ⟨hx, hb, hml, hown, hts, hnw, hK, -⟩ := C
  rw [List.map_cons, List.map_cons, List.map_cons, hr]
  have kset := pj_K.set (q' := .inl (0, len, pj_up f j.toNat z)) hq rfl S kk
  simp only [pj_cc, pj_upd32] at kset
  refine va_iast (i := Int32.ofInt j) (x := Int32.ofInt z) hx hb hK S.1 S.2.1 S.2.2.1 r 0 hw rfl (pj_in32 hj.1.1 hj.1.2 hj.2) hdg ?_
  rw [pj_cl32 hj.1.1 hj.2]
  exact kset
theorem sp_bast {r len : Nat} {f : Nat → Int} {j z : Int} {t : List pj_V} (hq : pj_at h r = some (.inl (1, len, f))) (hj : ((0 ≤ j ∧ j < (len : Int)) ∧ j < 2147483648) ∧ (z = 0 ∨ z = 1)) (C : pj_Cx p R s m args meth c D dA A b X M) (S : pj_St s D dA A b M α la H locs ls h) (hok : pj_okE M pc (.bastore, nx, a, b1, c1, d, hd) = true) (kk : pj_K p l e R s m args below meth c D dA A b M cells slots Q α h nx ls t (h.set r (.inl (1, len, pj_up f j.toNat z)))) : W p l e R s m args below meth c H locs cells slots Q (F0 m pc la ((.inl z :: .inl j :: .inr r :: t : List pj_V).map (pj_cv α b))) := by
  simp only [pj_okE, Bool.and_false] at hok
  cases hok
theorem pj_wfa_spec {ls st : List pj_V} {h : List pj_C} (hw : pj_wfa ls st h = true) : h.length ≤ 900 ∧ ls.all (pj_wv h.length) = true ∧ st.all (pj_wv h.length) = true ∧ h.all (pj_wc h.length) = true := by
  unfold pj_wfa at hw
  simp only [Bool.and_eq_true] at hw
  exact ⟨Nat.le_of_ble_eq_true hw.1, hw.2.1, hw.2.2.1, hw.2.2.2⟩
/-- behind what is new -/
theorem pj_K.push {q0 : pj_C} {t : List pj_V} (hw : pj_wfa ls t h = true) (hwc : ∀ α' : Nat → Nat, (∀ k, k < h.length → α' k = α k) → pj_cc dA α' b q0 = pj_cc dA α b q0) (S : pj_St s D dA A b M α la H locs ls h) (kk : pj_K p l e R s m args below meth c D dA A b M cells slots Q α h pc' ls (.inr h.length :: t) (h ++ [q0])) :
    ∀ (q : Nat) (H1 : Heap), va_P D vwCl (pj_wl dA α b 0 h ++ [(q, pj_cc dA α b q0)]) H1 → va_D A (pj_wl dA α b 0 h ++ [(q, pj_cc dA α b q0)]) → va_S A s.heap H1 locs → W p l e R s m args below meth c H1 locs (cells + 1) (slots + pj_sz q0) Q (F0 m pc' la (.ref q :: t.map (pj_cv α b))) := by
  intro q H1 hP hD hS
  obtain ⟨h1, h2, h3, h4⟩ := pj_wfa_spec hw
  have ha : ∀ k, k < h.length → (fun k => if k = h.length then q else α k) k = α k := fun k hk => by
    show (if k = h.length then q else α k) = α k
    rw [if_neg (by omega)]
  have e1 : pj_wl dA (fun k => if k = h.length then q else α k) b 0 (h ++ [q0]) = pj_wl dA α b 0 h ++ [(q, pj_cc dA α b q0)] := by
    rw [pj_wl_app, pj_wl_agree ha h 0 (by omega) h4, hwc _ ha]
    simp
  have k1 := kk (fun k => if k = h.length then q else α k) la H1 locs ⟨ha, fun e9 => absurd e9 (by simp)⟩ ⟨by rw [e1]; exact hP, by rw [e1]; exact hD, hS, by rw [pj_ll_agree ha ls 0 h2]; exact S.2.2.2.1, S.2.2.2.2.1, by simp only [List.length_append, List.length_singleton]; omega⟩
  rw [List.map_cons, pj_map_agree ha t h3, pj_cv_ref (by omega), if_pos rfl] at k1
  refine W.cs ?_ ?_ k1
  · simp only [List.length_append, List.length_singleton]; omega
  · rw [pj_tot_app]; omega
theorem sp_new {n : Nat} (hw : pj_wfa ls st h = true) (C : pj_Cx p R s m args meth c D dA A b X M) (S : pj_St s D dA A b M α la H locs ls h) (hok : pj_okE M pc (.new n, nx, a, b1, c1, d, hd) = true) (hcl : cells + ((h ++ ([.inr (a, k_df a)] : List pj_C)).length - h.length) ≤ R.cells) (hsl : slots + (pj_tot (h ++ ([.inr (a, k_df a)] : List pj_C)) - pj_tot h) ≤ R.slots) (kk : pj_K p l e R s m args below meth c D dA A b M cells slots Q α h nx ls (.inr h.length :: st) (h ++ [.inr (a, k_df a)])) : W p l e R s m args below meth c H locs cells slots Q (F0 m pc la (st.map (pj_cv α b))) := by
  obtain ⟨hdg, rfl⟩ := pj_okE_dec hok rfl
  simp only [pj_okE, Bool.and_eq_true] at hok
  have hok2 := hok.2
  split at hok2
  · rename_i cn T N hcq
    simp only [Bool.and_eq_true] at hok2
    obtain ⟨hx, hb, hml, hown, hts, hnw, hK, hX, hbl, hbA, hA, -⟩ := C
    obtain ⟨hlen, hdf⟩ := pj_cldf a _ α b hcq
    have hz : pj_sz (.inr (a, k_df a)) = N := hlen
    rw [pj_tot_app, hz] at hsl
    simp only [List.length_append, List.length_singleton] at hcl
    have kp := kk.push hw (fun α' ha => by
      show (Sum.inr (a, (k_df a).map (pj_cv α' b)) : va_E) = .inr (a, (k_df a).map (pj_cv α b))
      have : ∀ v ∈ k_df a, v = .inl 0 ∨ v = .inr 1001 := by
        have key : ∀ ci, ci < 8 → (k_df ci).all (fun v => decide (v = .inl 0 ∨ v = .inr 1001)) = true := by decide +kernel
        intro v hv
        exact of_decide_eq_true (List.all_eq_true.mp (key a (pj_at_lt hcq)) v hv)
      exact congrArg (fun z => (Sum.inr (a, z) : va_E)) (List.map_congr_left (fun v hv => by rcases this v hv with rfl | rfl <;> rfl))) S
    rw [hz] at kp
    exact va_new (T := T) (N := N) (C := cn) hx hb hts (pj_cls a _ hcq) (pj_ty0 T) (pj_clty a _ hcq) hown (hts _ (pj_is_mem rfl hok2.1)) (hts _ (pj_is_mem rfl hok2.2.1)) (hts _ (pj_is_mem rfl hok2.2.2)) hK S.1 S.2.1 S.2.2.1 hA (pj_cl_get hcq) hdf (by omega) (by omega) hdg kp
  · cases hok2
theorem pj_K2 {k : Nat} {ty : FieldType} {cA : ClassId} (hK : va_K D vwCl [(dA 0, .int), (dA 1, .int)] s) (hty : (k = 0 ∧ ty = .int) ∨ (k = 1 ∧ ty = .int)) (h9 : va_K D vwCl ([(dA 0, .int), (dA 1, .int)] ++ [(cA, ty)]) s) : cA = dA k := by
  have h1 := (h9.2 2 (cA, ty) rfl).2
  rcases hty with ⟨rfl, rfl⟩ | ⟨rfl, rfl⟩
  · have h2 := (hK.2 0 (dA 0, .int) rfl).2
    exact Option.some.inj (h1.symm.trans h2)
  · have h2 := (hK.2 1 (dA 1, .int) rfl).2
    exact Option.some.inj (h1.symm.trans h2)
theorem sp_newa {ty : ArrayType} {z : Int} {t : List pj_V} (hw : pj_wfa ls t h = true) (hz : 0 ≤ z ∧ z ≤ 100000) (C : pj_Cx p R s m args meth c D dA A b X M) (S : pj_St s D dA A b M α la H locs ls h) (hok : pj_okE M pc (.newarray ty, nx, a, b1, c1, d, hd) = true) (hcl : cells + ((h ++ ([.inl (a, z.toNat, fun _ => 0)] : List pj_C)).length - h.length) ≤ R.cells) (hsl : slots + (pj_tot (h ++ ([.inl (a, z.toNat, fun _ => 0)] : List pj_C)) - pj_tot h) ≤ R.slots) (kk : pj_K p l e R s m args below meth c D dA A b M cells slots Q α h nx ls (.inr h.length :: t) (h ++ [.inl (a, z.toNat, fun _ => 0)])) : W p l e R s m args below meth c H locs cells slots Q (F0 m pc la ((.inl z :: t : List pj_V).map (pj_cv α b))) := by
  obtain ⟨hdg, rfl⟩ := pj_okE_dec hok rfl
  simp only [pj_okE, Bool.and_eq_true, decide_eq_true_eq] at hok
  obtain ⟨hk1, hk2⟩ := hok.2
  obtain ⟨hx, hb, hml, hown, hts, hnw, hK, hX, hbl, hbA, hA, -⟩ := C
  rw [pj_tot_app] at hsl
  simp only [List.length_append, List.length_singleton, pj_sz] at hcl hsl
  have kp := kk.push hw (fun α' ha => rfl) S
  have hn : ¬ Int32.ofInt z < 0 := by
    rw [← pj_z32, pj_lt32 (by unfold pj_rg; omega) pj_rg0]
    omega
  have hN : (Int32.ofInt z).toNatClampNeg = z.toNat := pj_cl32 hz.1 (by omega)
  obtain ⟨ha0, rfl⟩ := hk2
  · have ha1 := Nat.eq_of_beq_eq_true ha0
    subst ha1
    refine va_newa (atype := .int) (ty := .int) (N' := z.toNat) (a0 := (z.toNat, .inl (fun _ => 0))) hx hb (hts _ (pj_is_mem rfl hk1)) rfl hK S.1 S.2.1 S.2.2.1 hA (fun cA => rfl) hn hN (by show z.toNat * 4 ≤ _; omega) (by omega) (by omega) hdg (fun q cA H1 h9 hP hD hS => ?_)
    have := pj_K2 hK (Or.inl ⟨rfl, rfl⟩) h9
    subst this
    exact kp q H1 hP hD hS
theorem pj_obj : Cond.instanceMethod objectInit ∈ pj_tb ∧ Cond.code objectInit ⟨#[0xb1]⟩ 1 none ∈ pj_tb := by
  have key : (decide (Cond.instanceMethod objectInit ∈ lw_tbl) && goodWord (Cond.instanceMethod objectInit)) && (decide (Cond.code objectInit ⟨#[0xb1]⟩ 1 none ∈ lw_tbl) && goodWord (Cond.code objectInit ⟨#[0xb1]⟩ 1 none)) = true := by decide +kernel
  simp only [Bool.and_eq_true, decide_eq_true_eq] at key
  exact ⟨pj_tbl_good key.1.1 key.1.2, pj_tbl_good key.2.1 key.2.2⟩
theorem pj_cpw : Cond.native arraycopyName ∈ pj_tb ∧ Cond.static arraycopyName ∈ pj_tb ∧ Cond.initialized "java/lang/System" ∈ pj_tb := by
  have key : (decide (Cond.native arraycopyName ∈ lw_tbl) && goodWord (Cond.native arraycopyName)) && ((decide (Cond.static arraycopyName ∈ lw_tbl) && goodWord (Cond.static arraycopyName)) && (decide (Cond.initialized "java/lang/System" ∈ lw_tbl) && goodWord (Cond.initialized "java/lang/System"))) = true := by decide +kernel
  simp only [Bool.and_eq_true, decide_eq_true_eq] at key
  exact ⟨pj_tbl_good key.1.1 key.1.2, pj_tbl_good key.2.1.1 key.2.1.2, pj_tbl_good key.2.2.1 key.2.2.2⟩
theorem sp_obj {n r : Nat} {t : List pj_V} (hr : pj_ok (.inr r) = true) (ht : pj_wd t ≤ 8) (C : pj_Cx p R s m args meth c D dA A b X M) (S : pj_St s D dA A b M α la H locs ls h) (hok : pj_okE M pc (.invokespecial n, nx, a, 1, c1, d, hd) = true) (kk : pj_K p l e R s m args below meth c D dA A b M cells slots Q α h nx ls t h) : W p l e R s m args below meth c H locs cells slots Q (F0 m pc la ((.inr r :: t : List pj_V).map (pj_cv α b))) := by
  obtain ⟨hdg, rfl⟩ := pj_okE_dec hok rfl
  simp only [pj_okE, Bool.and_eq_true] at hok
  obtain ⟨h1, h2, h3⟩ := hok.2
  have h2 := Nat.le_of_ble_eq_true h2
  have h3 := Nat.le_of_ble_eq_true h3
  obtain ⟨hx, hb, hml, hown, hts, hnw, hK, hX, hbl, hbA, hA, hnm, hfr, hlo⟩ := C
  obtain ⟨x, hxr⟩ := pj_cv_ok (α := α) (b := b) hr
  rw [List.map_cons, hxr]
  refine W.objInit (g := F0 m pc la (.ref x :: t.map (pj_cv α b))) hx hb hown (hts _ (pj_is_mem rfl h1)) (hts _ pj_obj.1) (hts _ pj_obj.2) rfl (by rw [hml]; exact S.2.2.2.1.1) rfl hdg (Nat.le_trans h2 hfr) ?_ ?_
  · show 2 * 0 + _ + 12 ≤ _
    have := pj_cats (α := α) (b := b) t
    omega
  · exact kk.same S
theorem pj_cpy32 (f g : Nat → Int) (sp dp n : Nat) : (fun j => Int32.ofInt (va_cpy f g sp dp n j)) = va_cpy (fun j => Int32.ofInt (f j)) (fun j => Int32.ofInt (g j)) sp dp n := by
  funext j
  simp only [va_cpy]
  split <;> rfl
theorem sp_cpy {n r0 r1 n0 n1 : Nat} {f g : Nat → Int} {z dp sp : Int} {t : List pj_V} (hq0 : pj_at h r0 = some (.inl (0, n0, f))) (hq1 : pj_at h r1 = some (.inl (0, n1, g))) (ht : pj_wd t ≤ 8) (hj : ((0 ≤ z ∧ z < 2147483648) ∧ (0 ≤ sp ∧ sp < 2147483648)) ∧ ((0 ≤ dp ∧ dp < 2147483648) ∧ (sp + z ≤ (n0 : Int) ∧ dp + z ≤ (n1 : Int)))) (C : pj_Cx p R s m args meth c D dA A b X M) (S : pj_St s D dA A b M α la H locs ls h) (hok : pj_okE M pc (.invokestatic n, nx, a, 2, c1, d, hd) = true) (kk : pj_K p l e R s m args below meth c D dA A b M cells slots Q α h nx ls t (h.set r1 (.inl (0, n1, va_cpy f g sp.toNat dp.toNat z.toNat)))) : W p l e R s m args below meth c H locs cells slots Q (F0 m pc la ((.inl z :: .inl dp :: .inr r1 :: .inl sp :: .inr r0 :: t : List pj_V).map (pj_cv α b))) := by
  obtain ⟨hdg, rfl⟩ := pj_okE_dec hok rfl
  simp only [pj_okE, Bool.and_eq_true] at hok
  obtain ⟨h1, h2, h3⟩ := hok.2
  have h2 := Nat.le_of_ble_eq_true h2
  have h3 := Nat.le_of_ble_eq_true h3
  obtain ⟨hx, hb, hml, hown, hts, hnw, hK, hX, hbl, hbA, hA, hnm, hfr, hlo⟩ := C
  obtain ⟨hw0, hr0⟩ := S.cell hq0
  obtain ⟨hw1, hr1⟩ := S.cell hq1
  simp only [List.map_cons, hr0, hr1]
  have kset := pj_K.set (q' := .inl (0, n1, va_cpy f g sp.toNat dp.toNat z.toNat)) hq1 rfl S kk
  simp only [pj_cc, pj_cpy32] at kset
  have nneg : ∀ y : Int, 0 ≤ y → y < 2147483648 → ¬ Int32.ofInt y < 0 := fun y h5 h6 => by
    rw [← pj_z32, pj_lt32 (by unfold pj_rg; omega) pj_rg0]
    omega
  refine va_copyi (ty := .int) (sp := Int32.ofInt sp) (dp := Int32.ofInt dp) (n := Int32.ofInt z) hx hb (by rw [hml]; exact S.2.2.2.1.1.symm) hown (hts _ (pj_is_mem rfl h1)) (hts _ pj_cpw.1) (hts _ pj_cpw.2.1) (hts _ pj_cpw.2.2) hK S.1 S.2.1 S.2.2.1 r0 r1 0 0 hw0 hw1 rfl rfl rfl (nneg _ hj.1.2.1 hj.1.2.2) (nneg _ hj.2.1.1 hj.2.1.2) (nneg _ hj.1.1.1 hj.1.1.2) ?_ ?_ (fun i _ => rfl) (Nat.le_trans h2 hfr) ?_ hdg ?_
  · rw [pj_cl32 hj.1.2.1 hj.1.2.2, pj_cl32 hj.1.1.1 hj.1.1.2]; omega
  · rw [pj_cl32 hj.2.1.1 hj.2.1.2, pj_cl32 hj.1.1.1 hj.1.1.2]; omega
  · have := pj_cats (α := α) (b := b) t
    omega
  · rw [pj_cl32 hj.1.2.1 hj.1.2.2, pj_cl32 hj.2.1.1 hj.2.1.2, pj_cl32 hj.1.1.1 hj.1.1.2]
    exact kset
end HEAP
