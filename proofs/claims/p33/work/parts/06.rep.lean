/-! what the pure machine's values, cells and locals are on the JVM -/
def pj_cv (α : Nat → Nat) (b : Nat) : pj_V → Value
  | .inl z => .int (Int32.ofInt z)
  | .inr r => if r < 1000 then .ref (α r) else if r = 1002 then .ref b else if 2000 ≤ r then .long (Int64.ofInt ((r : Int) - 2000)) else .null
/-- it is told of the locals -/
def pj_tr : pj_V → Bool
  | .inl _ => true
  | .inr r => pj_ok (.inr r) || Nat.ble 2000 r
theorem pj_tr_ok {v : pj_V} (h : pj_ok v = true) : pj_tr v = true := by
  cases v with
  | inl z => rfl
  | inr r => simp only [pj_tr, h, Bool.true_or]
def pj_cc (dA : Nat → ClassId) (α : Nat → Nat) (b : Nat) : pj_C → va_E
  | .inl (k, len, f) => .inl (dA k, len, .inl (fun j => Int32.ofInt (f j)))
  | .inr (ci, fs) => .inr (ci, fs.map (pj_cv α b))
def pj_wl (dA : Nat → ClassId) (α : Nat → Nat) (b : Nat) : Nat → List pj_C → va_W
  | _, [] => []
  | k, c :: cs => (α k, pj_cc dA α b c) :: pj_wl dA α b (k + 1) cs
def pj_ll (α : Nat → Nat) (b : Nat) : Nat → List pj_V → List (Nat × Value)
  | _, [] => []
  | k, v :: vs => bif pj_tr v then (k, pj_cv α b v) :: pj_ll α b (k + 1) vs else pj_ll α b (k + 1) vs
def pj_sz : pj_C → Nat
  | .inl (_, len, _) => len
  | .inr (_, fs) => fs.length
def pj_tot : List pj_C → Nat
  | [] => 0
  | c :: cs => pj_sz c + pj_tot cs
theorem pj_at_lt {α : Type} : ∀ {h : List α} {r : Nat} {c : α}, pj_at h r = some c → r < h.length
  | _ :: _, 0, _, _ => Nat.zero_lt_succ _
  | _ :: cs, r + 1, c, e => Nat.succ_lt_succ (pj_at_lt (h := cs) e)
theorem pj_at_get {α : Type} : ∀ (h : List α) (r : Nat), pj_at h r = h[r]?
  | [], r => by simp [pj_at]
  | c :: cs, 0 => rfl
  | c :: cs, r + 1 => by rw [pj_at, List.getElem?_cons_succ, pj_at_get cs r]
section REP
variable {dA : Nat → ClassId} {α α' : Nat → Nat} {b : Nat}
theorem pj_wl_at : ∀ {h : List pj_C} {k r : Nat} {c : pj_C}, pj_at h r = some c → (pj_wl dA α b k h)[r]? = some (α (k + r), pj_cc dA α b c)
  | _ :: _, k, 0, _, e => by cases e; rfl
  | _ :: cs, k, r + 1, c, e => by
    show (pj_wl dA α b (k + 1) cs)[r]? = _
    rw [pj_wl_at (h := cs) (k := k + 1) e, show k + 1 + r = k + (r + 1) by omega]
theorem pj_wl_set : ∀ {h : List pj_C} {k r : Nat} (c : pj_C), r < h.length → pj_wl dA α b k (h.set r c) = (pj_wl dA α b k h).set r (α (k + r), pj_cc dA α b c)
  | _ :: _, k, 0, c, _ => rfl
  | d :: cs, k, r + 1, c, e => by
    show (α k, pj_cc dA α b d) :: pj_wl dA α b (k + 1) (cs.set r c) = (α k, pj_cc dA α b d) :: (pj_wl dA α b (k + 1) cs).set r _
    rw [pj_wl_set (h := cs) (k := k + 1) c (Nat.lt_of_succ_lt_succ e), show k + 1 + r = k + (r + 1) by omega]
theorem pj_wl_len : ∀ (h : List pj_C) (k : Nat), (pj_wl dA α b k h).length = h.length
  | [], _ => rfl
  | _ :: cs, k => by show (pj_wl dA α b (k + 1) cs).length + 1 = _; rw [pj_wl_len cs (k + 1)]; rfl
theorem pj_cv_agree {n : Nat} (ha : ∀ k, k < n → α' k = α k) : ∀ v : pj_V, pj_wv n v = true → pj_cv α' b v = pj_cv α b v
  | .inl z, _ => rfl
  | .inr r, h => by
    simp only [pj_cv]
    by_cases hr : r < 1000
    · rw [if_pos hr, if_pos hr, ha r]
      simp only [pj_wv, Bool.or_eq_true] at h
      rcases h with h | h
      · exact Nat.le_of_ble_eq_true h
      · have := Nat.le_of_ble_eq_true h
        omega
    · rw [if_neg hr, if_neg hr]
theorem pj_map_agree {n : Nat} (ha : ∀ k, k < n → α' k = α k) : ∀ l : List pj_V, l.all (pj_wv n) = true → l.map (pj_cv α' b) = l.map (pj_cv α b) := by
  intro l hl
  refine List.map_congr_left fun v hv => pj_cv_agree ha v (List.all_eq_true.mp hl v hv)
theorem pj_cc_agree {n : Nat} (ha : ∀ k, k < n → α' k = α k) : ∀ c : pj_C, pj_wc n c = true → pj_cc dA α' b c = pj_cc dA α b c
  | .inl _, _ => rfl
  | .inr (ci, fs), h => by
    simp only [pj_cc]
    rw [pj_map_agree ha fs h]
theorem pj_wl_agree {n : Nat} (ha : ∀ k, k < n → α' k = α k) : ∀ (h : List pj_C) (k : Nat), k + h.length ≤ n → h.all (pj_wc n) = true → pj_wl dA α' b k h = pj_wl dA α b k h
  | [], _, _, _ => rfl
  | c :: cs, k, hk, hw => by
    simp only [List.all_cons, Bool.and_eq_true] at hw
    simp only [List.length_cons] at hk
    show (α' k, _) :: _ = (α k, _) :: _
    rw [ha k (by omega), pj_cc_agree ha c hw.1, pj_wl_agree ha cs (k + 1) (by omega) hw.2]
theorem pj_wl_app : ∀ (h : List pj_C) (k : Nat) (c : pj_C), pj_wl dA α b k (h ++ [c]) = pj_wl dA α b k h ++ [(α (k + h.length), pj_cc dA α b c)]
  | [], _, _ => rfl
  | d :: cs, k, c => by
    show (α k, _) :: pj_wl dA α b (k + 1) (cs ++ [c]) = _ :: (pj_wl dA α b (k + 1) cs ++ _)
    rw [pj_wl_app cs (k + 1) c, show k + 1 + cs.length = k + (d :: cs).length by simp only [List.length_cons]; omega]
theorem pj_ll_mem : ∀ {ls : List pj_V} {k i : Nat} {v : pj_V}, pj_at ls i = some v → pj_tr v = true → (k + i, pj_cv α b v) ∈ pj_ll α b k ls
  | w :: ws, k, 0, v, e, ho => by
    cases e
    simp only [pj_ll, ho, cond_true]
    exact List.mem_cons_self
  | w :: ws, k, i + 1, v, e, ho => by
    have := pj_ll_mem (ls := ws) (k := k + 1) e ho
    rw [show k + 1 + i = k + (i + 1) by omega] at this
    simp only [pj_ll]
    cases pj_tr w
    · exact this
    · exact List.mem_cons_of_mem _ this
theorem pj_ll_inv : ∀ {ls : List pj_V} {k : Nat} {q : Nat × Value}, q ∈ pj_ll α b k ls → ∃ i v, q = (k + i, pj_cv α b v) ∧ pj_at ls i = some v ∧ pj_tr v = true
  | [], _, _, h => by cases h
  | w :: ws, k, q, h => by
    simp only [pj_ll] at h
    cases ho : pj_tr w with
    | false =>
      rw [ho] at h
      obtain ⟨i, v, e, h1, h2⟩ := pj_ll_inv (ls := ws) h
      exact ⟨i + 1, v, by rw [e, show k + 1 + i = k + (i + 1) by omega], h1, h2⟩
    | true =>
      rw [ho] at h
      rcases List.mem_cons.mp h with h | h
      · exact ⟨0, w, h, rfl, ho⟩
      · obtain ⟨i, v, e, h1, h2⟩ := pj_ll_inv (ls := ws) h
        exact ⟨i + 1, v, by rw [e, show k + 1 + i = k + (i + 1) by omega], h1, h2⟩
theorem pj_cv_cat {v : pj_V} (hv : pj_n2 v = true) : (pj_cv α b v).category = 1 := by
  cases v with
  | inl z => rfl
  | inr r =>
    have := Nat.le_of_ble_eq_true hv
    simp only [pj_cv]
    split
    · rfl
    · split
      · rfl
      · rw [if_neg (by omega)]
        rfl
theorem pj_cv_cat2 (v : pj_V) : (pj_cv α b v).category ≤ 2 := by
  cases v with
  | inl z => show 1 ≤ 2; omega
  | inr r =>
    simp only [pj_cv]
    split
    · show 1 ≤ 2; omega
    · split
      · show 1 ≤ 2; omega
      · split
        · show 2 ≤ 2; omega
        · show 1 ≤ 2; omega
theorem pj_cv_long {r : Nat} (h : 2000 ≤ r) : pj_cv α b (.inr r) = .long (Int64.ofInt ((r : Int) - 2000)) := by
  simp only [pj_cv]
  rw [if_neg (by omega), if_neg (by omega), if_pos h]
theorem pj_at_set_self {α : Type} : ∀ {ls : List α} {i : Nat} {v : α}, i < ls.length → pj_at (ls.set i v) i = some v
  | _ :: _, 0, _, _ => rfl
  | _ :: ws, i + 1, v, h => pj_at_set_self (ls := ws) (Nat.lt_of_succ_lt_succ h)
theorem pj_at_set_ne {α : Type} {ls : List α} {i j : Nat} {v : α} (h : j ≠ i) : pj_at (ls.set i v) j = pj_at ls j := by
  rw [pj_at_get, pj_at_get, List.getElem?_set_ne (Ne.symm h)]
/-- a store into the locals -/
theorem pj_ll_set {ls : List pj_V} {la' : Array Slot} {nL i : Nat} {v : pj_V} (hi : i < ls.length) (hnl : pj_nl ls i = true) (h : lv_has la' nL ((i, pj_cv α b v) :: (pj_ll α b 0 ls).filter (fun q => !(q.1 == i) && !(q.1 + 1 == i && q.2.category == 2)))) : lv_has la' nL (pj_ll α b 0 (ls.set i v)) := by
  refine ⟨h.1, h.2.1, fun q hq => h.2.2 q ?_⟩
  obtain ⟨j, w, e, h1, h2⟩ := pj_ll_inv hq
  rw [Nat.zero_add] at e
  subst e
  by_cases hj : j = i
  · subst hj
    rw [pj_at_set_self hi] at h1
    cases h1
    exact List.mem_cons_self
  · rw [pj_at_set_ne hj] at h1
    refine List.mem_cons_of_mem _ (List.mem_filter.mpr ⟨by simpa using pj_ll_mem (α := α) (b := b) (k := 0) h1 h2, ?_⟩)
    by_cases hj2 : j + 1 = i
    · subst hj2
      have : pj_n2 w = true := by
        simp only [pj_nl, h1] at hnl
        cases w with
        | inl z => rfl
        | inr r => exact hnl
      simp [pj_cv_cat this]
    · simp [hj, hj2]
/-- a store of a long -/
theorem pj_ll_set2 {ls : List pj_V} {la' : Array Slot} {nL i : Nat} {v : pj_V} (hi : i + 1 < ls.length) (hnl : pj_nl ls i = true) (h : lv_has la' nL ((i, pj_cv α b v) :: (pj_ll α b 0 ls).filter (fun q => !(q.1 == i) && (!(q.1 == i + 1) && !(q.1 + 1 == i && q.2.category == 2))))) : lv_has la' nL (pj_ll α b 0 ((ls.set i v).set (i + 1) (.inr 1000))) := by
  refine ⟨h.1, h.2.1, fun q hq => h.2.2 q ?_⟩
  obtain ⟨j, w, e, h1, h2⟩ := pj_ll_inv hq
  rw [Nat.zero_add] at e
  subst e
  by_cases hj1 : j = i + 1
  · subst hj1
    rw [pj_at_set_self (by rw [List.length_set]; exact hi)] at h1
    cases h1
    cases h2
  · rw [pj_at_set_ne hj1] at h1
    by_cases hj : j = i
    · subst hj
      rw [pj_at_set_self (by omega)] at h1
      cases h1
      exact List.mem_cons_self
    · rw [pj_at_set_ne hj] at h1
      refine List.mem_cons_of_mem _ (List.mem_filter.mpr ⟨by simpa using pj_ll_mem (α := α) (b := b) (k := 0) h1 h2, ?_⟩)
      by_cases hj2 : j + 1 = i
      · subst hj2
        have : pj_n2 w = true := by
          simp only [pj_nl, h1] at hnl
          cases w with
          | inl z => rfl
          | inr r => exact hnl
        simp [pj_cv_cat this] <;> omega
      · simp [hj, hj1, hj2]
theorem pj_ll_args : ∀ (as : List pj_V) (k m : Nat), as.all pj_n2 = true → ∀ q ∈ pj_ll α b k (as ++ pj_rep m), q ∈ lv_args k (as.map (pj_cv α b))
  | [], k, m, _, q, h => by
    exfalso
    have key : ∀ (m k : Nat), pj_ll α b k (pj_rep m) = [] := by
      intro m
      induction m with
      | zero => intro k; rfl
      | succ m ih => intro k; show (bif pj_tr (.inr 1000) then _ else pj_ll α b (k + 1) (pj_rep m)) = []; rw [ih]; rfl
    rw [List.nil_append, key] at h
    cases h
  | v :: vs, k, m, hn, q, h => by
    simp only [List.all_cons, Bool.and_eq_true] at hn
    have e : lv_args k ((v :: vs).map (pj_cv α b)) = (k, pj_cv α b v) :: lv_args (k + 1) (vs.map (pj_cv α b)) := by
      show (k, pj_cv α b v) :: lv_args (if (pj_cv α b v).category = 2 then k + 2 else k + 1) (vs.map (pj_cv α b)) = _
      rw [pj_cv_cat hn.1, if_neg (by decide)]
    rw [e]
    have h' : q ∈ (bif pj_tr v then (k, pj_cv α b v) :: pj_ll α b (k + 1) (vs ++ pj_rep m) else pj_ll α b (k + 1) (vs ++ pj_rep m)) := h
    cases ho : pj_tr v with
    | false =>
      rw [ho] at h'
      exact List.mem_cons_of_mem _ (pj_ll_args vs (k + 1) m hn.2 q h')
    | true =>
      rw [ho] at h'
      rcases List.mem_cons.mp h' with h | h
      · rw [h]; exact List.mem_cons_self
      · exact List.mem_cons_of_mem _ (pj_ll_args vs (k + 1) m hn.2 q h)
theorem pj_ll_agree {n : Nat} (ha : ∀ k, k < n → α' k = α k) : ∀ (l : List pj_V) (k : Nat), l.all (pj_wv n) = true → pj_ll α' b k l = pj_ll α b k l
  | [], _, _ => rfl
  | v :: vs, k, h => by
    simp only [List.all_cons, Bool.and_eq_true] at h
    simp only [pj_ll, pj_cv_agree ha v h.1, pj_ll_agree ha vs (k + 1) h.2]
theorem pj_rep_len : ∀ n, (pj_rep n).length = n
  | 0 => rfl
  | n + 1 => by show (pj_rep n).length + 1 = _; rw [pj_rep_len n]
theorem pj_cats : ∀ (l : List pj_V), ((l.map (pj_cv α b)).map fun v => v.category).sum ≤ pj_wd l
  | [] => Nat.le_refl _
  | .inl z :: vs => by
    have := pj_cats vs
    simp only [List.map_cons, List.sum_cons, pj_wd]
    have h1 : (pj_cv α b (.inl z)).category = 1 := rfl
    omega
  | .inr r :: vs => by
    have := pj_cats vs
    simp only [List.map_cons, List.sum_cons, pj_wd]
    have h1 := pj_cv_cat2 (α := α) (b := b) (.inr r)
    omega
theorem pj_cv_ref {r : Nat} (h : r < 1000) : pj_cv α b (.inr r) = .ref (α r) := by simp only [pj_cv, if_pos h]
theorem pj_cv_ok {r : Nat} (h : pj_ok (.inr r) = true) : ∃ a, pj_cv α b (.inr r) = .ref a := by
  simp only [pj_ok, Bool.or_eq_true] at h
  rcases h with h | h
  · exact ⟨α r, pj_cv_ref (by have := Nat.le_of_ble_eq_true h; omega)⟩
  · have := Nat.eq_of_beq_eq_true h
    subst this
    exact ⟨b, rfl⟩
end REP
theorem pj_tot_set : ∀ {h : List pj_C} {r : Nat} {c c' : pj_C}, pj_at h r = some c → pj_sz c' = pj_sz c → pj_tot (h.set r c') = pj_tot h
  | _ :: _, 0, _, _, e, hs => by cases e; simp only [List.set_cons_zero, pj_tot, hs]
  | d :: cs, r + 1, c, c', e, hs => by
    show pj_sz d + pj_tot (cs.set r c') = pj_sz d + pj_tot cs
    rw [pj_tot_set (h := cs) e hs]
theorem pj_tot_app : ∀ (h : List pj_C) (c : pj_C), pj_tot (h ++ [c]) = pj_tot h + pj_sz c
  | [], c => by show pj_sz c + 0 = 0 + pj_sz c; omega
  | d :: cs, c => by show pj_sz d + pj_tot (cs ++ [c]) = pj_sz d + pj_tot cs + pj_sz c; rw [pj_tot_app cs c]; omega
theorem pj_tw_mem : ∀ {ch i : Nat} {w : Cond}, pj_tw ch i = some w → w ∈ lw_tbl := by
  intro ch i w h
  have key : ∀ {l : List Cond}, pj_at l i = some w → w ∈ l := fun h => List.mem_of_getElem? ((pj_at_get _ _).symm.trans h)
  have sels : ∀ {l : List (MethodName × Nat)}, (∀ q ∈ l, q ∈ lw_privs) → w ∈ k2_sels l → w ∈ lw_tbl := fun hl h => by
    obtain ⟨q, h1, h2⟩ := List.mem_map.mp h
    exact List.mem_append_left _ (List.mem_map.mpr ⟨q, hl q h1, h2⟩)
  have tab : w ∈ tables_1 → w ∈ lw_tbl := fun h => List.mem_append_right _ h
  unfold pj_tw at h
  split at h
  · exact tab (List.mem_append_left _ (key h))
  · exact tab (List.mem_append_right _ (List.mem_append_left _ (key h)))
  · exact tab (List.mem_append_right _ (List.mem_append_right _ (key h)))
  · exact sels (fun q hq => hq) (key h)
  · cases h
/-- the words that may be carried into a callee -/
def pj_tb : List Cond := lw_tbl.filter goodWord
def pj_nb : List Cond := lw_tbl.filter pj_nest
theorem pj_is_tw {d : Nat} {w : Cond} (h : pj_is d w = true) : w ∈ lw_tbl := by
  unfold pj_is at h
  simp only [Bool.and_eq_true] at h
  exact pj_tw_mem (of_decide_eq_true h.2)
theorem pj_is_mem {d : Nat} {w : Cond} (hn : pj_nest w = false) (h : pj_is d w = true) : w ∈ pj_tb := by
  have h1 := pj_is_tw h
  unfold pj_is at h
  simp only [Bool.and_eq_true, Bool.or_eq_true, hn] at h
  exact List.mem_filter.mpr ⟨h1, by simpa using h.1⟩
theorem pj_is_nest {d : Nat} {w : Cond} (hn : pj_nest w = true) (h : pj_is d w = true) : w ∈ pj_nb := List.mem_filter.mpr ⟨pj_is_tw h, hn⟩
theorem pj_good : ∀ w ∈ pj_tb, goodWord w = true := fun w h => (List.mem_filter.mp h).2
theorem pj_nb_warm {s U : State} (hW : s.WarmedH U.vm) (h : ∀ w ∈ pj_nb, va_Nw w s) : ∀ w ∈ pj_nb, va_Nw w U := by
  intro w hw
  have h1 := h w hw
  have h2 := (List.mem_filter.mp hw).2
  cases w <;> first | exact h1.warmF hW | exact h1.warmM hW | cases h2
theorem pj_nb_tabs : ∀ w ∈ pj_nb, w.onTables = true := by
  intro w hw
  have h2 := (List.mem_filter.mp hw).2
  cases w <;> first | rfl | cases h2
theorem pj_fl_1 {own : String} {n : Nat} {C nm ds : String} {d : Nat} (h : pj_fl own n C nm ds d = 1) : Cond.fieldLink own n C nm ds ∈ lw_tbl := by
  unfold pj_fl at h
  split at h
  · rename_i o i r f g e
    have e1 := pj_tw_mem e
    by_cases hd : o = own ∧ i = n ∧ r = C ∧ f = nm ∧ g = ds
    · obtain ⟨rfl, rfl, rfl, rfl, rfl⟩ := hd
      exact e1
    · rw [decide_eq_false hd] at h
      cases h
  · rename_i o i r f g x e
    cases hx : decide (o = own ∧ i = n ∧ r = C ∧ f = nm ∧ g = ds) <;> rw [hx] at h <;> cases h
  · cases h
theorem pj_fl_2 {own : String} {n : Nat} {C nm ds : String} {d : Nat} (h : pj_fl own n C nm ds d = 2) : ∃ host, Cond.fieldLinkNest own n C nm ds host ∈ pj_nb := by
  unfold pj_fl at h
  split at h
  · rename_i o i r f g e
    cases hx : decide (o = own ∧ i = n ∧ r = C ∧ f = nm ∧ g = ds) <;> rw [hx] at h <;> cases h
  · rename_i o i r f g x e
    have e1 := pj_tw_mem e
    by_cases hd : o = own ∧ i = n ∧ r = C ∧ f = nm ∧ g = ds
    · obtain ⟨rfl, rfl, rfl, rfl, rfl⟩ := hd
      exact ⟨x, List.mem_filter.mpr ⟨e1, rfl⟩⟩
    · rw [decide_eq_false hd] at h
      cases h
  · cases h
theorem pj_tbl_good {w : Cond} (h : w ∈ lw_tbl) (hg : goodWord w = true) : w ∈ pj_tb := List.mem_filter.mpr ⟨h, hg⟩
/-- the classes' own words -/
theorem pj_cls : ∀ (ci : Nat) (q : vw_C), pj_at vwCl ci = some q → ∀ w ∈ u_ws q.1 q.2.1 q.2.2, w ∈ pj_tb := by
  have key : vwCl.all (fun q => (u_ws q.1 q.2.1 q.2.2).all (fun w => decide (w ∈ lw_tbl) && goodWord w)) = true := by decide +kernel
  intro ci q hq w hw
  have h1 := List.all_eq_true.mp key q (List.mem_of_getElem? ((pj_at_get _ _).symm.trans hq))
  have h2 := List.all_eq_true.mp h1 w hw
  simp only [Bool.and_eq_true, decide_eq_true_eq] at h2
  exact pj_tbl_good h2.1 h2.2
theorem pj_clty : ∀ (ci : Nat) (q : vw_C), pj_at vwCl ci = some q → ∀ k, k < q.2.2 → parseFieldDescriptor (q.2.1 k).2.2.1 = some (pj_ty0 q.2.1 k) := by
  have key : vwCl.all (fun q => (List.range q.2.2).all (fun k => (parseFieldDescriptor (q.2.1 k).2.2.1).isSome)) = true := by decide +kernel
  intro ci q hq k hk
  have h1 := List.all_eq_true.mp key q (List.mem_of_getElem? ((pj_at_get _ _).symm.trans hq))
  have h2 := List.all_eq_true.mp h1 k (List.mem_range.mpr hk)
  obtain ⟨ty, hty⟩ := Option.isSome_iff_exists.mp h2
  unfold pj_ty0
  rw [hty]
  rfl
theorem pj_clnm : ∀ (ci : Nat) (q : vw_C), pj_at vwCl ci = some q → ∀ a, a < q.2.2 → ∀ b, b < q.2.2 → a ≠ b → (q.2.1 a).2.1 ≠ (q.2.1 b).2.1 := by
  have key : vwCl.all (fun q => (List.range q.2.2).all (fun a => (List.range q.2.2).all (fun b => decide (a = b) || decide ((q.2.1 a).2.1 ≠ (q.2.1 b).2.1)))) = true := by decide +kernel
  intro ci q hq a ha b hb hab
  have h1 := List.all_eq_true.mp key q (List.mem_of_getElem? ((pj_at_get _ _).symm.trans hq))
  have h2 := List.all_eq_true.mp (List.all_eq_true.mp h1 a (List.mem_range.mpr ha)) b (List.mem_range.mpr hb)
  simp only [Bool.or_eq_true, decide_eq_true_eq] at h2
  rcases h2 with h | h
  · exact absurd h hab
  · exact h
def pj_dv0 : pj_V → Value
  | .inl _ => .int 0
  | .inr _ => .null
theorem pj_cldf : ∀ (ci : Nat) (q : vw_C) (α : Nat → Nat) (b : Nat), pj_at vwCl ci = some q → (k_df ci).length = q.2.2 ∧ ∀ j, j < q.2.2 → defaultValue (pj_ty0 q.2.1 j) = vp_V ((k_df ci).map (pj_cv α b)) j := by
  have key : ∀ ci, ci < 8 → (match pj_at vwCl ci with
    | some q => decide ((k_df ci).length = q.2.2) && ((k_df ci).all (fun v => decide (v = .inl 0 ∨ v = .inr 1001)) && (List.range q.2.2).all (fun j => decide (defaultValue (pj_ty0 q.2.1 j) = vp_V ((k_df ci).map pj_dv0) j)))
    | none => true) = true := by decide +kernel
  intro ci q α b hq
  have hlt : ci < 8 := pj_at_lt hq
  have h1 := key ci hlt
  rw [hq] at h1
  simp only [Bool.and_eq_true, decide_eq_true_eq] at h1
  obtain ⟨h1, h2, h3⟩ := h1
  refine ⟨h1, fun j hj => ?_⟩
  have h4 := List.all_eq_true.mp h3 j (List.mem_range.mpr hj)
  rw [of_decide_eq_true h4]
  congr 1
  refine List.map_congr_left fun v hv => ?_
  have := of_decide_eq_true (List.all_eq_true.mp h2 v hv)
  rcases this with rfl | rfl <;> rfl
