/-! Spaces: ideal, subalgebra, bracketsWith, the series -/
def ds_ideal (p : Int) (N : Nat) (T : Nat → Nat → Nat → Int) (v : ln_V) : ln_P := fun x => ∀ K, ln_sub p N K → K v → (∀ u w, K w → K (tt_bk p N T u w)) → K x
def ds_salg (p : Int) (N : Nat) (T : Nat → Nat → Nat → Int) (u v : ln_V) : ln_P := fun x => ∀ K, ln_sub p N K → K u → K v → (∀ a b, K a → K b → K (tt_bk p N T a b)) → K x
def ds_br (p : Int) (N : Nat) (T : Nat → Nat → Nat → Int) (v : ln_V) : ln_P := fun x => ∀ K, ln_sub p N K → (∀ u, K (tt_bk p N T u v)) → K x
/-- a level of a series: byWhole the lower central one, else the derived one -/
def ds_D (p : Int) (N : Nat) (T : Nat → Nat → Nat → Int) (byWhole : Bool) : Nat → ln_P
  | 0 => fun _ => True
  | k + 1 => fun x => ∀ K, ln_sub p N K → (∀ u v, (byWhole = true ∨ ds_D p N T byWhole k u) → ds_D p N T byWhole k v → K (tt_bk p N T u v)) → K x
/-- R is the canonical matrix of the subspace U -/
def ds_is (p : Int) (N : Nat) (R : Nat → ln_V) (U : ln_P) : Prop := ln_R p N R ∧ ∀ x, ln_in p N R x ↔ U x
theorem ds_uniq {p : Int} {N : Nat} {R R' : Nat → ln_V} {U : ln_P} (hp : nn_p p) (h : ds_is p N R U) (h' : ds_is p N R' U) : ∀ r c, r < N → c < N → R r c = R' r c :=
  ln_uniq h.1 h'.1 (by have := (nn_p_pos hp).2.1; omega) (fun x => (h.2 x).trans (h'.2 x).symm)
section SPC2
variable {X : pj_X} {Q : pj_Q} {p n : Int} {N : Nat} {T : Nat → Nat → Nat → Int} {br : Nat → Int}
theorem ln_sp1 {v : ln_V} {R : Nat → ln_V} {R0 : Nat → ln_V} {b : Bool} (h0 : ∀ r c, r < N → c < N → R0 r c = 0) (hj : ln_join p N R0 v R b) : ∀ K, ln_sub p N K → (ln_g N R K ↔ K v) := by
  intro K hK
  rw [hj.2.1 K hK]
  exact ⟨fun h => h.2, fun h => ⟨fun r hr => hK.2.2.2 _ _ (fun c hc => by rw [h0 r c hr hc]; exact nn_eq_rfl p 0) hK.1, h⟩⟩
abbrev w_I (p n : Int) (br : Nat → Int) (sW : pj_C) (fW : Nat → Int) (sF : pj_C) (fF : Nat → Int) : List pj_C := [c_Sp (.inr 1) (.inr 3) (.inr 5) v_u, c_T (.inl p) (.inl n) (.inr 2), c_A 25 br, sW, c_A 30 fW, sF, c_A 30 fF]
abbrev w_G (p n : Int) (br : Nat → Int) (sF : pj_C) (fF : Nat → Int) : List pj_C := [c_Sp (.inr 1) v_u (.inr 3) v_u, c_T (.inl p) (.inl n) (.inr 2), c_A 25 br, sF, c_A 30 fF]
/-- ideal(v) -/
theorem c_ideal (ht : tt_ok p N T) (hb : tt_br p N T br) (hn : n = N) {v : Int} (hv : 0 ≤ v ∧ v ≤ 2147483647) {fW fF : Nat → Int}
    (hQ : ∀ (fW' f' : Nat → Int) (z' : Int), sb_ok 5 N p f' z' → ds_is p N (sb_R 5 f') (ds_ideal p N T (nn_dg p v)) → Q (some (.inr 5)) [c_Sp (.inr 1) (.inr 3) (.inr 5) v_u, c_T (.inl p) (.inl n) (.inr 2), c_A 25 br, c_S (.inl 5) (.inr 4) (.inl p) (.inl n) (.inl n), c_A 30 fW', c_S (.inl 5) (.inr 6) (.inl p) (.inl n) (.inl z'), c_A 30 f']) :
    pj_ci X m_Spaces_ideal [.inr 0, .inl v] [c_Sp (.inr 1) (.inr 3) (.inr 5) v_u, c_T (.inl p) (.inl n) (.inr 2), c_A 25 br, c_S (.inl 5) (.inr 4) v_u v_u v_u, c_A 30 fW, c_S (.inl 5) (.inr 6) v_u v_u v_u, c_A 30 fF] Q := by
  obtain ⟨hp, h1N, hN, hT, -⟩ := id ht
  have hp1 := (nn_p_pos hp).1
  refine wp_c rfl (by omega) [0, 1, 3, 4] (c_Sfill hp hN hn (fun fW1 hokW hall => ?_)) rfl rfl rfl rfl
  refine wp_h (w_I p n br (c_S (.inl 5) (.inr 4) (.inl p) (.inl n) (.inl n)) fW1 (c_S (.inl 5) (.inr 6) v_u v_u v_u) fF) rfl ?_
  refine wp_c rfl (by omega) [5, 6] (c_Sbegin (C := 5) (W := N) (by omega) hn hN ?_) rfl rfl rfl rfl
  refine wp_h (w_I p n br (c_S (.inl 5) (.inr 4) (.inl p) (.inl n) (.inl n)) fW1 (c_S (.inl 5) (.inr 6) (.inl p) (.inl n) (.inl 0)) (fun k => if k < (5 + 1) * 5 then 0 else fF k)) rfl ?_
  obtain ⟨hz1, hz2⟩ := sb_zero (C := 5) (W := N) (f := fF) hp1 hN
  refine wp_c rfl (by omega) [5, 6, 1] (c_join (W := N) hp hn hN hv hz1 (fun f2 b hj hok2 => ?_)) rfl rfl rfl rfl
  refine wp_h (w_I p n br (c_S (.inl 5) (.inr 4) (.inl p) (.inl n) (.inl n)) fW1 (c_S (.inl 5) (.inr 6) (.inl p) (.inl n) (.inl (0 + if b = true then 1 else 0))) f2) rfl ?_
  have hs := ln_sp1 hz2 hj
  refine wp_c rfl (by omega) [0, 1, 2, 3, 4, 5, 6] (c_close1 ht hb hn hokW hok2 (fun f3 z3 hok3 a1 a2 a3 => ?_)) rfl rfl rfl rfl
  refine wp_r rfl (by omega) (hQ fW1 f3 z3 hok3 ⟨hok3.1, fun x => ⟨fun hx K hK h1 h2 => ?_, fun hx => ?_⟩⟩)
  · exact ln_in_W hK (a2 K hK ((hs K hK).mpr h1) (fun u w _ hw => h2 u w hw)) hx
  · exact hx _ (ln_in_sub _) (a1 _ (ln_join_in hj).1) (fun u w hw => a3 u w (hall u) hw)
/-- subalgebra(u, v) -/
theorem c_subalg (ht : tt_ok p N T) (hb : tt_br p N T br) (hn : n = N) {u v : Int} (hu : 0 ≤ u ∧ u ≤ 2147483647) (hv : 0 ≤ v ∧ v ≤ 2147483647) {fF : Nat → Int}
    (hQ : ∀ (f' : Nat → Int) (z' : Int), sb_ok 5 N p f' z' → ds_is p N (sb_R 5 f') (ds_salg p N T (nn_dg p u) (nn_dg p v)) → Q (some (.inr 3)) [c_Sp (.inr 1) v_u (.inr 3) v_u, c_T (.inl p) (.inl n) (.inr 2), c_A 25 br, c_S (.inl 5) (.inr 4) (.inl p) (.inl n) (.inl z'), c_A 30 f']) :
    pj_ci X m_Spaces_subalgebra [.inr 0, .inl u, .inl v] [c_Sp (.inr 1) v_u (.inr 3) v_u, c_T (.inl p) (.inl n) (.inr 2), c_A 25 br, c_S (.inl 5) (.inr 4) v_u v_u v_u, c_A 30 fF] Q := by
  obtain ⟨hp, h1N, hN, hT, -⟩ := id ht
  have hp1 := (nn_p_pos hp).1
  refine wp_c rfl (by omega) [3, 4] (c_Sbegin (C := 5) (W := N) (by omega) hn hN ?_) rfl rfl rfl rfl
  refine wp_h (w_G p n br (c_S (.inl 5) (.inr 4) (.inl p) (.inl n) (.inl 0)) (fun k => if k < (5 + 1) * 5 then 0 else fF k)) rfl ?_
  obtain ⟨hz1, hz2⟩ := sb_zero (C := 5) (W := N) (f := fF) hp1 hN
  refine wp_c rfl (by omega) [3, 4, 1] (c_join (W := N) hp hn hN hu hz1 (fun f2 b hj hok2 => ?_)) rfl rfl rfl rfl
  refine wp_h (w_G p n br (c_S (.inl 5) (.inr 4) (.inl p) (.inl n) (.inl (0 + if b = true then 1 else 0))) f2) rfl ?_
  refine wp_c rfl (by omega) [3, 4, 1] (c_join (W := N) hp hn hN hv hok2 (fun f3 b3 hj3 hok3 => ?_)) rfl rfl rfl rfl
  refine wp_h (w_G p n br (c_S (.inl 5) (.inr 4) (.inl p) (.inl n) (.inl (0 + (if b = true then 1 else 0) + if b3 = true then 1 else 0))) f3) rfl ?_
  have hs := ln_sp1 hz2 hj
  refine wp_c rfl (by omega) [0, 1, 2, 3, 4] (c_close2 ht hb hn hok3 (fun f4 z4 hok4 a1 a2 a3 => ?_)) rfl rfl rfl rfl
  refine wp_r rfl (by omega) (hQ f4 z4 hok4 ⟨hok4.1, fun x => ⟨fun hx K hK h1 h2 h3 => ?_, fun hx => ?_⟩⟩)
  · exact ln_in_W hK (a2 K hK ((hj3.2.1 K hK).mpr ⟨(hs K hK).mpr h1, h2⟩) h3) hx
  · exact hx _ (ln_in_sub _) (a1 _ ((ln_join_in hj3).2 _ (ln_join_in hj).1)) (a1 _ (ln_join_in hj3).1) a3
theorem c_brWith_loop (ht : tt_ok p N T) (hb : tt_br p N T br) (hn : n = N) {v : Int} (hv : 0 ≤ v ∧ v ≤ 2147483647)
    (hQ : ∀ (f' : Nat → Int) (z' : Int), sb_ok 5 N p f' z' → ds_is p N (sb_R 5 f') (ds_br p N T (nn_dg p v)) → Q (some (.inr 3)) [c_Sp (.inr 1) v_u (.inr 3) v_u, c_T (.inl p) (.inl n) (.inr 2), c_A 25 br, c_S (.inl 5) (.inr 4) (.inl p) (.inl n) (.inl z'), c_A 30 f']) :
    ∀ (m k : Nat) (g : Nat → Int) (sz z : Int), k + m = N → z = k → sb_ok 5 N p g sz → (∀ K, ln_sub p N K → (ln_g N (sb_R 5 g) K ↔ ∀ i, i < k → K (tt_bk p N T (ln_e i) (nn_dg p v)))) → pj_WP X m_Spaces_bracketsWith 23 [.inr 0, .inl v, .inl z] [] [c_Sp (.inr 1) v_u (.inr 3) v_u, c_T (.inl p) (.inl n) (.inr 2), c_A 25 br, c_S (.inl 5) (.inr 4) (.inl p) (.inl n) (.inl sz), c_A 30 g] Q := by
  obtain ⟨hp, h1N, hN, hT, -⟩ := id ht
  obtain ⟨hp1, hp2, hp3⟩ := nn_p_pos hp
  intro m
  induction m with
  | zero =>
    intro k g sz z hk hz hok hinv
    refine wp_b rfl (by omega) (fun c => ?_) (fun c => absurd c (by omega))
    refine wp_r rfl (by omega) (hQ g sz hok ⟨hok.1, fun x => ⟨fun hx K hK h1 => ?_, fun hx => ?_⟩⟩)
    · exact ln_in_W hK ((hinv K hK).mpr (fun i _ => h1 (ln_e i))) hx
    · refine hx _ (ln_in_sub _) (fun u => ?_)
      have h2 := (hinv _ (ln_in_sub (sb_R 5 g))).mp (fun r hr => ln_in_row hok.1 hr)
      exact ln_e_all (N := N) (tt_sub_l (ln_in_sub (sb_R 5 g)) (nn_dg p v)) (fun i hi => h2 i (by omega)) u
  | succ m ih =>
    intro k g sz z hk hz hok hinv
    have h1 := nn_pwle hp k (by omega)
    have h2 := nn_pw1 hp1 k
    refine wp_b rfl (by omega) (fun c => absurd c (by omega)) (fun c => ?_)
    refine wp_c rfl (by omega) [1] (c_power (E := k) (by omega) hz ?_) rfl rfl rfl rfl
    refine wp_c rfl (by omega) [1, 2] (c_product ht hb hn (by omega) hv ?_) rfl rfl rfl rfl
    obtain ⟨n5, n6⟩ := tt_bk_num (T := T) hp hN (nn_dg p (p ^ k)) (nn_dg p v)
    refine wp_c rfl (by omega) [3, 4, 1] (c_join (W := N) hp hn hN n5 hok (fun f2 b hj hok2 => ?_)) rfl rfl rfl rfl
    refine wp_g rfl (by omega) ?_
    refine ih (k + 1) f2 _ _ (by omega) (by omega) hok2 (fun K hK => ?_)
    rw [hj.2.1 K hK, hinv K hK]
    have e1 : ln_eq p N (nn_dg p (nn_nm p N (tt_bk p N T (nn_dg p (p ^ k)) (nn_dg p v)))) (tt_bk p N T (ln_e k) (nn_dg p v)) := fun c hc => by
      rw [n6 c hc]
      exact tt_bk_congr (fun i hi => by rw [nn_dg_pw hp]; exact nn_eq_rfl p _) (ln_eq_rfl _) c
    have e : K (nn_dg p (nn_nm p N (tt_bk p N T (nn_dg p (p ^ k)) (nn_dg p v)))) ↔ K (tt_bk p N T (ln_e k) (nn_dg p v)) := ⟨fun h => hK.2.2.2 _ _ e1 h, fun h => hK.2.2.2 _ _ (ln_eq_symm e1) h⟩
    rw [e]
    constructor
    · rintro ⟨a1, a2⟩ i hi
      by_cases h : i = k
      · subst h; exact a2
      · exact a1 i (by omega)
    · intro h
      exact ⟨fun i hi => h i (by omega), h k (by omega)⟩
/-- bracketsWith(v) -/
theorem c_brWith (ht : tt_ok p N T) (hb : tt_br p N T br) (hn : n = N) {v : Int} (hv : 0 ≤ v ∧ v ≤ 2147483647) {fF : Nat → Int}
    (hQ : ∀ (f' : Nat → Int) (z' : Int), sb_ok 5 N p f' z' → ds_is p N (sb_R 5 f') (ds_br p N T (nn_dg p v)) → Q (some (.inr 3)) [c_Sp (.inr 1) v_u (.inr 3) v_u, c_T (.inl p) (.inl n) (.inr 2), c_A 25 br, c_S (.inl 5) (.inr 4) (.inl p) (.inl n) (.inl z'), c_A 30 f']) :
    pj_ci X m_Spaces_bracketsWith [.inr 0, .inl v] [c_Sp (.inr 1) v_u (.inr 3) v_u, c_T (.inl p) (.inl n) (.inr 2), c_A 25 br, c_S (.inl 5) (.inr 4) v_u v_u v_u, c_A 30 fF] Q := by
  obtain ⟨hp, h1N, hN, hT, -⟩ := id ht
  have hp1 := (nn_p_pos hp).1
  refine wp_c rfl (by omega) [3, 4] (c_Sbegin (C := 5) (W := N) (by omega) hn hN ?_) rfl rfl rfl rfl
  obtain ⟨hz1, hz2⟩ := sb_zero (C := 5) (W := N) (f := fF) hp1 hN
  refine wp_g rfl (by omega) ?_
  exact c_brWith_loop ht hb hn hv hQ N 0 _ _ _ (by omega) (by omega) hz1 (fun K hK => ⟨fun _ i hi => absurd hi (by omega), fun _ r hr => hK.2.2.2 _ _ (fun c hc => by rw [hz2 r c hr hc]; exact nn_eq_rfl p 0) hK.1⟩)
/-! the series -/
theorem ds_D_sub (w : Bool) : ∀ k, ln_sub p N (ds_D p N T w k)
  | 0 => ⟨trivial, fun _ _ _ _ => trivial, fun _ _ _ => trivial, fun _ _ _ _ => trivial⟩
  | k + 1 => ⟨fun K hK _ => hK.1, fun x y hx hy K hK h => hK.2.1 _ _ (hx K hK h) (hy K hK h), fun a x hx K hK h => hK.2.2.1 a _ (hx K hK h), fun x y e hx K hK h => hK.2.2.2 _ _ e (hx K hK h)⟩
theorem ds_D_desc (w : Bool) : ∀ k x, ds_D p N T w (k + 1) x → ds_D p N T w k x
  | 0, _, _ => trivial
  | k + 1, x, h => h _ (ds_D_sub w (k + 1)) (fun u v hu hv K hK h2 => h2 u v (hu.imp id (ds_D_desc w k u)) (ds_D_desc w k v hv))
theorem ds_D_stop (w : Bool) {k : Nat} (h : ∀ x, ds_D p N T w k x → ds_D p N T w (k + 1) x) : ∀ (m : Nat) (x : ln_V), ds_D p N T w (k + m) x ↔ ds_D p N T w k x
  | 0, _ => Iff.rfl
  | m + 1, x => by
    constructor
    · intro hx
      exact (ds_D_stop w h m x).mp (ds_D_desc w (k + m) x hx)
    · intro hx K hK h2
      refine h x hx K hK (fun u v hu hv => h2 u v (hu.imp id (ds_D_stop w h m u).mpr) ((ds_D_stop w h m v).mpr hv))
end SPC2
