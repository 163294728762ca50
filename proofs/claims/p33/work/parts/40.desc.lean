/-! Spaces.descend. Written by wip/tools/desc.py. -/
section DESC
variable {X : pj_X} {Q : pj_Q} {p n : Int} {N : Nat} {T : Nat → Nat → Nat → Int} {br : Nat → Int}
theorem ds_step {R R' L : Nat → ln_V} {w : Bool} {k : Nat} (hR : ds_is p N R (ds_D p N T w k)) (hR' : ln_R p N R') (hL : ln_R p N L) (hLw : ∀ x, ln_in p N L x ↔ (w = true ∨ ds_D p N T w k x)) (h : ∀ W, ln_sub p N W → (ln_g N R' W ↔ ∀ r q, r < N → q < N → L r r ≠ 0 → R q q ≠ 0 → W (tt_bk p N T (L r) (R q)))) : ds_is p N R' (ds_D p N T w (k + 1)) := by
  refine ⟨hR', fun x => ?_⟩
  rw [ln_in_iff hR']
  constructor
  · intro hx K hK h2
    refine hx K hK ((h K hK).mpr (fun r q hr hq _ _ => ?_))
    exact h2 _ _ ((hLw _).mp (ln_in_row hL hr)) ((hR.2 _).mp (ln_in_row hR.1 hq))
  · intro hx W hW hg
    refine hx W hW (fun u v hu hv => ?_)
    exact tt_bil hW hL hR.1 ((h W hW).mp hg) ((hLw u).mpr hu) ((hR.2 v).mpr hv)
theorem ds_falls {R R' : Nat → ln_V} {w : Bool} {k : Nat} (hp : nn_p p) (hR : ds_is p N R (ds_D p N T w k)) (hR' : ds_is p N R' (ds_D p N T w (k + 1))) : ln_ct R' N ≤ ln_ct R N ∧ (¬ ln_ct R' N < ln_ct R N → ∀ m x, ds_D p N T w (k + 1 + m) x ↔ ds_D p N T w (k + 1) x) := by
  have hp2 := (nn_p_pos hp).2.1
  obtain ⟨h1, h2⟩ := ln_dim hR'.1 hR.1 (by omega) (fun x hx => (hR.2 x).mpr (ds_D_desc w k x ((hR'.2 x).mp hx)))
  refine ⟨h1, fun h3 => ?_⟩
  have h4 := h2 (by omega)
  have h5 : ∀ x, ds_D p N T w k x → ds_D p N T w (k + 1) x := fun x hx => (hR'.2 x).mp ((ln_in_congr h4).mpr ((hR.2 x).mpr hx))
  intro m x
  have e1 := ds_D_stop w h5 (1 + m) x
  have e2 := ds_D_stop w h5 1 x
  rw [show k + (1 + m) = k + 1 + m by omega] at e1
  exact e1.trans e2.symm
abbrev w_D (p n : Int) (br fW : Nat → Int) (a : pj_C) (f1 : Nat → Int) (b : pj_C) (f2 : Nat → Int) : List pj_C := [c_Sp (.inr 1) (.inr 3) (.inr 5) (.inr 7), c_T (.inl p) (.inl n) (.inr 2), c_A 25 br, c_S (.inl 5) (.inr 4) (.inl p) (.inl n) (.inl n), c_A 30 fW, a, c_A 30 f1, b, c_A 30 f2]
set_option maxHeartbeats 2000000 in
theorem c_desc_loop (ht : tt_ok p N T) (hb : tt_br p N T br) (hn : n = N) {w : Bool} {lv : Int} {Lv : Nat} (hlv : lv = Lv) (hLv : Lv ≤ 9) {fW : Nat → Int} (hW : sb_ok 5 N p fW n) (hall : ∀ x, ln_in p N (sb_R 5 fW) x)
    (hQ5 : ∀ (f1 f2 : Nat → Int) (z1 : Int) (s1 s2 s3 : Int), sb_ok 5 N p f1 z1 → ds_is p N (sb_R 5 f1) (ds_D p N T w Lv) → Q (some (.inr 5)) [c_Sp (.inr 1) (.inr 3) (.inr 5) (.inr 7), c_T (.inl p) (.inl n) (.inr 2), c_A 25 br, c_S (.inl 5) (.inr 4) (.inl p) (.inl n) (.inl n), c_A 30 fW, c_S (.inl 5) (.inr 6) (.inl p) (.inl n) (.inl z1), c_A 30 f1, c_S (.inl 5) (.inr 8) (.inl s1) (.inl s2) (.inl s3), c_A 30 f2])
    (hQ7 : ∀ (f1 f2 : Nat → Int) (z2 : Int) (s1 s2 s3 : Int), sb_ok 5 N p f2 z2 → ds_is p N (sb_R 5 f2) (ds_D p N T w Lv) → Q (some (.inr 7)) [c_Sp (.inr 1) (.inr 3) (.inr 5) (.inr 7), c_T (.inl p) (.inl n) (.inr 2), c_A 25 br, c_S (.inl 5) (.inr 4) (.inl p) (.inl n) (.inl n), c_A 30 fW, c_S (.inl 5) (.inr 6) (.inl s1) (.inl s2) (.inl s3), c_A 30 f1, c_S (.inl 5) (.inr 8) (.inl p) (.inl n) (.inl z2), c_A 30 f2]) :
    ∀ m : Nat, (∀ (f1 f2 : Nat → Int) (z1 fl z : Int) (s1 s2 s3 : Int) (sp : pj_V) (k : Nat), k + m = Lv → z = k → sb_ok 5 N p f1 z1 → ds_is p N (sb_R 5 f1) (ds_D p N T w k) → ((fl = 1) ∨ (fl = 0 ∧ ∀ j x, ds_D p N T w (k + j) x ↔ ds_D p N T w k x)) → pj_WP X m_Spaces_descend 33 [.inr 0, .inl lv, .inl (if w then 1 else 0), .inr 5, .inr 7, .inl fl, .inl z, sp] [] [c_Sp (.inr 1) (.inr 3) (.inr 5) (.inr 7), c_T (.inl p) (.inl n) (.inr 2), c_A 25 br, c_S (.inl 5) (.inr 4) (.inl p) (.inl n) (.inl n), c_A 30 fW, c_S (.inl 5) (.inr 6) (.inl p) (.inl n) (.inl z1), c_A 30 f1, c_S (.inl 5) (.inr 8) (.inl s1) (.inl s2) (.inl s3), c_A 30 f2] Q) ∧ (∀ (f1 f2 : Nat → Int) (z2 fl z : Int) (s1 s2 s3 : Int) (sp : pj_V) (k : Nat), k + m = Lv → z = k → sb_ok 5 N p f2 z2 → ds_is p N (sb_R 5 f2) (ds_D p N T w k) → ((fl = 1) ∨ (fl = 0 ∧ ∀ j x, ds_D p N T w (k + j) x ↔ ds_D p N T w k x)) → pj_WP X m_Spaces_descend 33 [.inr 0, .inl lv, .inl (if w then 1 else 0), .inr 7, .inr 5, .inl fl, .inl z, sp] [] [c_Sp (.inr 1) (.inr 3) (.inr 5) (.inr 7), c_T (.inl p) (.inl n) (.inr 2), c_A 25 br, c_S (.inl 5) (.inr 4) (.inl p) (.inl n) (.inl n), c_A 30 fW, c_S (.inl 5) (.inr 6) (.inl s1) (.inl s2) (.inl s3), c_A 30 f1, c_S (.inl 5) (.inr 8) (.inl p) (.inl n) (.inl z2), c_A 30 f2] Q) := by
  obtain ⟨hp, h1N, hN, hT, -⟩ := id ht
  obtain ⟨hp1, hp2, hp3⟩ := nn_p_pos hp
  intro m
  induction m with
  | zero =>
    refine ⟨?_, ?_⟩
    · intro f1 f2 z1 fl z s1 s2 s3 sp k hk hz hok his hfl
      refine wp_b rfl (by omega) (fun c => ?_) (fun c => absurd c (by omega))
      refine wp_r rfl (by omega) (hQ5 _ _ _ _ _ _ hok (by rw [show k = Lv by omega] at his; exact his))
    · intro f1 f2 z2 fl z s1 s2 s3 sp k hk hz hok his hfl
      refine wp_b rfl (by omega) (fun c => ?_) (fun c => absurd c (by omega))
      refine wp_r rfl (by omega) (hQ7 _ _ _ _ _ _ hok (by rw [show k = Lv by omega] at his; exact his))
  | succ m ih =>
    refine ⟨?_, ?_⟩
    · intro f1 f2 z1 fl z s1 s2 s3 sp k hk hz hok his hfl
      have hct := ln_ct_w (sb_R 5 f1) N
      have hsz := hok.2.2
      rcases hfl with hfl | ⟨hfl, hst⟩
      · subst hfl
        refine wp_b rfl (by omega) (fun c => absurd c (by omega)) (fun c => ?_)
        refine wp_b rfl (by omega) (fun c => absurd c (show ¬ (1 : Int) = 0 by omega)) (fun c => ?_)
        refine wp_c rfl (by omega) [7, 8] (c_Sbegin (C := 5) (W := N) (by omega) hn hN ?_) rfl rfl rfl rfl
        obtain ⟨hz1, hz2⟩ := sb_zero (C := 5) (W := N) (f := f2) hp1 hN
        refine wp_h [c_Sp (.inr 1) (.inr 3) (.inr 5) (.inr 7), c_T (.inl p) (.inl n) (.inr 2), c_A 25 br, c_S (.inl 5) (.inr 4) (.inl p) (.inl n) (.inl n), c_A 30 fW, c_S (.inl 5) (.inr 6) (.inl p) (.inl n) (.inl z1), c_A 30 f1, c_S (.inl 5) (.inr 8) (.inl p) (.inl n) (.inl 0), c_A 30 (fun k => if k < (5 + 1) * 5 then 0 else f2 k)] rfl ?_
        have hg0 : ∀ W, ln_sub p N W → ln_g N (sb_R 5 (fun k => if k < (5 + 1) * 5 then 0 else f2 k)) W := fun W hW r hr => hW.2.2.2 _ _ (fun c hc => by rw [hz2 r c hr hc]; exact nn_eq_rfl p 0) hW.1
        have fin : ∀ (f9 : Nat → Int) (z9 g9 : Int), sb_ok 5 N p f9 z9 → ds_is p N (sb_R 5 f9) (ds_D p N T w (k + 1)) → pj_WP X m_Spaces_descend 82 [.inr 0, .inl lv, .inl (if w then 1 else 0), .inr 5, .inr 7, .inl 1, .inl z, sp] [.inl g9] [c_Sp (.inr 1) (.inr 3) (.inr 5) (.inr 7), c_T (.inl p) (.inl n) (.inr 2), c_A 25 br, c_S (.inl 5) (.inr 4) (.inl p) (.inl n) (.inl n), c_A 30 fW, c_S (.inl 5) (.inr 6) (.inl p) (.inl n) (.inl z1), c_A 30 f1, c_S (.inl 5) (.inr 8) (.inl p) (.inl n) (.inl z9), c_A 30 f9] Q := by
          intro f9 z9 g9 hok9 his9
          have hct9 := ln_ct_w (sb_R 5 f9) N
          have hsz9 := hok9.2.2
          obtain ⟨q1, q2⟩ := ds_falls hp his his9
          refine wp_b rfl (by omega) (fun c => ?_) (fun c => ?_)
          · refine wp_g rfl (by omega) ?_
            refine wp_h [c_Sp (.inr 1) (.inr 3) (.inr 5) (.inr 7), c_T (.inl p) (.inl n) (.inr 2), c_A 25 br, c_S (.inl 5) (.inr 4) (.inl p) (.inl n) (.inl n), c_A 30 fW, c_S (.inl 5) (.inr 6) (.inl p) (.inl n) (.inl z1), c_A 30 f1, c_S (.inl 5) (.inr 8) (.inl p) (.inl n) (.inl z9), c_A 30 f9] rfl ?_
            exact (ih).2 _ _ _ _ _ _ _ _ _ (k + 1) (by omega) (by omega) hok9 his9 (Or.inr ⟨rfl, q2 (by omega)⟩)
          · refine wp_g rfl (by omega) ?_
            refine wp_h [c_Sp (.inr 1) (.inr 3) (.inr 5) (.inr 7), c_T (.inl p) (.inl n) (.inr 2), c_A 25 br, c_S (.inl 5) (.inr 4) (.inl p) (.inl n) (.inl n), c_A 30 fW, c_S (.inl 5) (.inr 6) (.inl p) (.inl n) (.inl z1), c_A 30 f1, c_S (.inl 5) (.inr 8) (.inl p) (.inl n) (.inl z9), c_A 30 f9] rfl ?_
            exact (ih).2 _ _ _ _ _ _ _ _ _ (k + 1) (by omega) (by omega) hok9 his9 (Or.inl rfl)
        cases w with
        | true =>
          refine wp_b rfl (by simp) (fun c => absurd c (show ¬ (1 : Int) = 0 by omega)) (fun c => ?_)
          refine wp_c rfl (by omega) [0, 1, 2, 3, 4, 5, 6, 7, 8] (c_addProducts_A1 ht hb hn hW hok hz1 (fun f9 z9 g9 hok9 hinv hg9 => ?_)) rfl rfl rfl rfl
          refine wp_h [c_Sp (.inr 1) (.inr 3) (.inr 5) (.inr 7), c_T (.inl p) (.inl n) (.inr 2), c_A 25 br, c_S (.inl 5) (.inr 4) (.inl p) (.inl n) (.inl n), c_A 30 fW, c_S (.inl 5) (.inr 6) (.inl p) (.inl n) (.inl z1), c_A 30 f1, c_S (.inl 5) (.inr 8) (.inl p) (.inl n) (.inl z9), c_A 30 f9] rfl ?_
          exact fin f9 z9 g9 hok9 (ds_step his hok9.1 hW.1 (fun x => ⟨fun _ => Or.inl rfl, fun _ => hall x⟩) (fun W hW9 => by rw [hinv W hW9]; exact ⟨fun h => h.2, fun h => ⟨hg0 W hW9, h⟩⟩))
        | false =>
          refine wp_b rfl (by simp) (fun c => ?_) (fun c => absurd rfl c)
          refine wp_c rfl (by omega) [0, 1, 2, 5, 6, 7, 8] (c_addProducts_A2 ht hb hn hok hz1 (fun f9 z9 g9 hok9 hinv hg9 => ?_)) rfl rfl rfl rfl
          refine wp_h [c_Sp (.inr 1) (.inr 3) (.inr 5) (.inr 7), c_T (.inl p) (.inl n) (.inr 2), c_A 25 br, c_S (.inl 5) (.inr 4) (.inl p) (.inl n) (.inl n), c_A 30 fW, c_S (.inl 5) (.inr 6) (.inl p) (.inl n) (.inl z1), c_A 30 f1, c_S (.inl 5) (.inr 8) (.inl p) (.inl n) (.inl z9), c_A 30 f9] rfl ?_
          exact fin f9 z9 g9 hok9 (ds_step his hok9.1 hok.1 (fun x => (his.2 x).trans ⟨fun h => Or.inr h, fun h => h.elim (fun z => by cases z) id⟩) (fun W hW9 => by rw [hinv W hW9]; exact ⟨fun h => h.2, fun h => ⟨hg0 W hW9, h⟩⟩))
      · subst hfl
        refine wp_b rfl (by omega) (fun c => absurd c (by omega)) (fun c => ?_)
        refine wp_b rfl (by omega) (fun c => ?_) (fun c => absurd rfl c)
        refine wp_r rfl (by omega) (hQ5 _ _ _ _ _ _ hok ⟨his.1, fun x => ?_⟩)
        rw [his.2 x, ← hst (m + 1) x, show k + (m + 1) = Lv by omega]
    · intro f1 f2 z2 fl z s1 s2 s3 sp k hk hz hok his hfl
      have hct := ln_ct_w (sb_R 5 f2) N
      have hsz := hok.2.2
      rcases hfl with hfl | ⟨hfl, hst⟩
      · subst hfl
        refine wp_b rfl (by omega) (fun c => absurd c (by omega)) (fun c => ?_)
        refine wp_b rfl (by omega) (fun c => absurd c (show ¬ (1 : Int) = 0 by omega)) (fun c => ?_)
        refine wp_c rfl (by omega) [5, 6] (c_Sbegin (C := 5) (W := N) (by omega) hn hN ?_) rfl rfl rfl rfl
        obtain ⟨hz1, hz2⟩ := sb_zero (C := 5) (W := N) (f := f1) hp1 hN
        refine wp_h [c_Sp (.inr 1) (.inr 3) (.inr 5) (.inr 7), c_T (.inl p) (.inl n) (.inr 2), c_A 25 br, c_S (.inl 5) (.inr 4) (.inl p) (.inl n) (.inl n), c_A 30 fW, c_S (.inl 5) (.inr 6) (.inl p) (.inl n) (.inl 0), c_A 30 (fun k => if k < (5 + 1) * 5 then 0 else f1 k), c_S (.inl 5) (.inr 8) (.inl p) (.inl n) (.inl z2), c_A 30 f2] rfl ?_
        have hg0 : ∀ W, ln_sub p N W → ln_g N (sb_R 5 (fun k => if k < (5 + 1) * 5 then 0 else f1 k)) W := fun W hW r hr => hW.2.2.2 _ _ (fun c hc => by rw [hz2 r c hr hc]; exact nn_eq_rfl p 0) hW.1
        have fin : ∀ (f9 : Nat → Int) (z9 g9 : Int), sb_ok 5 N p f9 z9 → ds_is p N (sb_R 5 f9) (ds_D p N T w (k + 1)) → pj_WP X m_Spaces_descend 82 [.inr 0, .inl lv, .inl (if w then 1 else 0), .inr 7, .inr 5, .inl 1, .inl z, sp] [.inl g9] [c_Sp (.inr 1) (.inr 3) (.inr 5) (.inr 7), c_T (.inl p) (.inl n) (.inr 2), c_A 25 br, c_S (.inl 5) (.inr 4) (.inl p) (.inl n) (.inl n), c_A 30 fW, c_S (.inl 5) (.inr 6) (.inl p) (.inl n) (.inl z9), c_A 30 f9, c_S (.inl 5) (.inr 8) (.inl p) (.inl n) (.inl z2), c_A 30 f2] Q := by
          intro f9 z9 g9 hok9 his9
          have hct9 := ln_ct_w (sb_R 5 f9) N
          have hsz9 := hok9.2.2
          obtain ⟨q1, q2⟩ := ds_falls hp his his9
          refine wp_b rfl (by omega) (fun c => ?_) (fun c => ?_)
          · refine wp_g rfl (by omega) ?_
            refine wp_h [c_Sp (.inr 1) (.inr 3) (.inr 5) (.inr 7), c_T (.inl p) (.inl n) (.inr 2), c_A 25 br, c_S (.inl 5) (.inr 4) (.inl p) (.inl n) (.inl n), c_A 30 fW, c_S (.inl 5) (.inr 6) (.inl p) (.inl n) (.inl z9), c_A 30 f9, c_S (.inl 5) (.inr 8) (.inl p) (.inl n) (.inl z2), c_A 30 f2] rfl ?_
            exact (ih).1 _ _ _ _ _ _ _ _ _ (k + 1) (by omega) (by omega) hok9 his9 (Or.inr ⟨rfl, q2 (by omega)⟩)
          · refine wp_g rfl (by omega) ?_
            refine wp_h [c_Sp (.inr 1) (.inr 3) (.inr 5) (.inr 7), c_T (.inl p) (.inl n) (.inr 2), c_A 25 br, c_S (.inl 5) (.inr 4) (.inl p) (.inl n) (.inl n), c_A 30 fW, c_S (.inl 5) (.inr 6) (.inl p) (.inl n) (.inl z9), c_A 30 f9, c_S (.inl 5) (.inr 8) (.inl p) (.inl n) (.inl z2), c_A 30 f2] rfl ?_
            exact (ih).1 _ _ _ _ _ _ _ _ _ (k + 1) (by omega) (by omega) hok9 his9 (Or.inl rfl)
        cases w with
        | true =>
          refine wp_b rfl (by simp) (fun c => absurd c (show ¬ (1 : Int) = 0 by omega)) (fun c => ?_)
          refine wp_c rfl (by omega) [0, 1, 2, 3, 4, 7, 8, 5, 6] (c_addProducts_A1 ht hb hn hW hok hz1 (fun f9 z9 g9 hok9 hinv hg9 => ?_)) rfl rfl rfl rfl
          refine wp_h [c_Sp (.inr 1) (.inr 3) (.inr 5) (.inr 7), c_T (.inl p) (.inl n) (.inr 2), c_A 25 br, c_S (.inl 5) (.inr 4) (.inl p) (.inl n) (.inl n), c_A 30 fW, c_S (.inl 5) (.inr 6) (.inl p) (.inl n) (.inl z9), c_A 30 f9, c_S (.inl 5) (.inr 8) (.inl p) (.inl n) (.inl z2), c_A 30 f2] rfl ?_
          exact fin f9 z9 g9 hok9 (ds_step his hok9.1 hW.1 (fun x => ⟨fun _ => Or.inl rfl, fun _ => hall x⟩) (fun W hW9 => by rw [hinv W hW9]; exact ⟨fun h => h.2, fun h => ⟨hg0 W hW9, h⟩⟩))
        | false =>
          refine wp_b rfl (by simp) (fun c => ?_) (fun c => absurd rfl c)
          refine wp_c rfl (by omega) [0, 1, 2, 7, 8, 5, 6] (c_addProducts_A2 ht hb hn hok hz1 (fun f9 z9 g9 hok9 hinv hg9 => ?_)) rfl rfl rfl rfl
          refine wp_h [c_Sp (.inr 1) (.inr 3) (.inr 5) (.inr 7), c_T (.inl p) (.inl n) (.inr 2), c_A 25 br, c_S (.inl 5) (.inr 4) (.inl p) (.inl n) (.inl n), c_A 30 fW, c_S (.inl 5) (.inr 6) (.inl p) (.inl n) (.inl z9), c_A 30 f9, c_S (.inl 5) (.inr 8) (.inl p) (.inl n) (.inl z2), c_A 30 f2] rfl ?_
          exact fin f9 z9 g9 hok9 (ds_step his hok9.1 hok.1 (fun x => (his.2 x).trans ⟨fun h => Or.inr h, fun h => h.elim (fun z => by cases z) id⟩) (fun W hW9 => by rw [hinv W hW9]; exact ⟨fun h => h.2, fun h => ⟨hg0 W hW9, h⟩⟩))
      · subst hfl
        refine wp_b rfl (by omega) (fun c => absurd c (by omega)) (fun c => ?_)
        refine wp_b rfl (by omega) (fun c => ?_) (fun c => absurd rfl c)
        refine wp_r rfl (by omega) (hQ7 _ _ _ _ _ _ hok ⟨his.1, fun x => ?_⟩)
        rw [his.2 x, ← hst (m + 1) x, show k + (m + 1) = Lv by omega]

set_option maxHeartbeats 1000000 in
/-- descend(level, byWhole) -/
theorem c_descend (ht : tt_ok p N T) (hb : tt_br p N T br) (hn : n = N) {w : Bool} {lv : Int} {Lv : Nat} (hlv : lv = Lv) (hLv : Lv ≤ 9) {fW f1 f2 : Nat → Int} {a1 a2 a3 : Int}
    (hQ5 : ∀ (fW f1 f2 : Nat → Int) (z1 : Int) (s1 s2 s3 : Int), sb_ok 5 N p f1 z1 → ds_is p N (sb_R 5 f1) (ds_D p N T w Lv) → Q (some (.inr 5)) [c_Sp (.inr 1) (.inr 3) (.inr 5) (.inr 7), c_T (.inl p) (.inl n) (.inr 2), c_A 25 br, c_S (.inl 5) (.inr 4) (.inl p) (.inl n) (.inl n), c_A 30 fW, c_S (.inl 5) (.inr 6) (.inl p) (.inl n) (.inl z1), c_A 30 f1, c_S (.inl 5) (.inr 8) (.inl s1) (.inl s2) (.inl s3), c_A 30 f2])
    (hQ7 : ∀ (fW f1 f2 : Nat → Int) (z2 : Int) (s1 s2 s3 : Int), sb_ok 5 N p f2 z2 → ds_is p N (sb_R 5 f2) (ds_D p N T w Lv) → Q (some (.inr 7)) [c_Sp (.inr 1) (.inr 3) (.inr 5) (.inr 7), c_T (.inl p) (.inl n) (.inr 2), c_A 25 br, c_S (.inl 5) (.inr 4) (.inl p) (.inl n) (.inl n), c_A 30 fW, c_S (.inl 5) (.inr 6) (.inl s1) (.inl s2) (.inl s3), c_A 30 f1, c_S (.inl 5) (.inr 8) (.inl p) (.inl n) (.inl z2), c_A 30 f2]) :
    pj_ci X m_Spaces_descend [.inr 0, .inl lv, .inl (if w then 1 else 0)] [c_Sp (.inr 1) (.inr 3) (.inr 5) (.inr 7), c_T (.inl p) (.inl n) (.inr 2), c_A 25 br, c_S (.inl 5) (.inr 4) v_u v_u v_u, c_A 30 fW, c_S (.inl 5) (.inr 6) v_u v_u v_u, c_A 30 f1, c_S (.inl 5) (.inr 8) (.inl a1) (.inl a2) (.inl a3), c_A 30 f2] Q := by
  obtain ⟨hp, h1N, hN, hT, -⟩ := id ht
  refine wp_c rfl (by omega) [0, 1, 3, 4] (c_Sfill hp hN hn (fun fW1 hokW hall => ?_)) rfl rfl rfl rfl
  refine wp_h (w_D p n br fW1 (c_S (.inl 5) (.inr 6) v_u v_u v_u) f1 (c_S (.inl 5) (.inr 8) (.inl a1) (.inl a2) (.inl a3)) f2) rfl ?_
  refine wp_c rfl (by omega) [0, 1, 5, 6] (c_Sfill hp hN hn (fun f11 hok1 hall1 => ?_)) rfl rfl rfl rfl
  refine wp_h (w_D p n br fW1 (c_S (.inl 5) (.inr 6) (.inl p) (.inl n) (.inl n)) f11 (c_S (.inl 5) (.inr 8) (.inl a1) (.inl a2) (.inl a3)) f2) rfl ?_
  refine wp_g rfl (by omega) ?_
  exact (c_desc_loop ht hb hn hlv hLv hokW hall (hQ5 fW1) (hQ7 fW1) Lv).1 f11 f2 n _ _ _ _ _ _ 0 (by omega) (by omega) hok1 ⟨hok1.1, fun x => ⟨fun _ => trivial, fun _ => hall1 x⟩⟩ (Or.inl rfl)
/-- derived(level) -/
theorem c_derived (ht : tt_ok p N T) (hb : tt_br p N T br) (hn : n = N) {lv : Int} {Lv : Nat} (hlv : lv = Lv) (hLv : Lv ≤ 9) {fW f1 f2 : Nat → Int} {a1 a2 a3 : Int}
    (hQ5 : ∀ (fW f1 f2 : Nat → Int) (z1 : Int) (s1 s2 s3 : Int), sb_ok 5 N p f1 z1 → ds_is p N (sb_R 5 f1) (ds_D p N T false Lv) → Q (some (.inr 5)) [c_Sp (.inr 1) (.inr 3) (.inr 5) (.inr 7), c_T (.inl p) (.inl n) (.inr 2), c_A 25 br, c_S (.inl 5) (.inr 4) (.inl p) (.inl n) (.inl n), c_A 30 fW, c_S (.inl 5) (.inr 6) (.inl p) (.inl n) (.inl z1), c_A 30 f1, c_S (.inl 5) (.inr 8) (.inl s1) (.inl s2) (.inl s3), c_A 30 f2])
    (hQ7 : ∀ (fW f1 f2 : Nat → Int) (z2 : Int) (s1 s2 s3 : Int), sb_ok 5 N p f2 z2 → ds_is p N (sb_R 5 f2) (ds_D p N T false Lv) → Q (some (.inr 7)) [c_Sp (.inr 1) (.inr 3) (.inr 5) (.inr 7), c_T (.inl p) (.inl n) (.inr 2), c_A 25 br, c_S (.inl 5) (.inr 4) (.inl p) (.inl n) (.inl n), c_A 30 fW, c_S (.inl 5) (.inr 6) (.inl s1) (.inl s2) (.inl s3), c_A 30 f1, c_S (.inl 5) (.inr 8) (.inl p) (.inl n) (.inl z2), c_A 30 f2]) :
    pj_ci X m_Spaces_derived [.inr 0, .inl lv] [c_Sp (.inr 1) (.inr 3) (.inr 5) (.inr 7), c_T (.inl p) (.inl n) (.inr 2), c_A 25 br, c_S (.inl 5) (.inr 4) v_u v_u v_u, c_A 30 fW, c_S (.inl 5) (.inr 6) v_u v_u v_u, c_A 30 f1, c_S (.inl 5) (.inr 8) (.inl a1) (.inl a2) (.inl a3), c_A 30 f2] Q := by
  refine wp_c rfl (by omega) [0, 1, 2, 3, 4, 5, 6, 7, 8] (c_descend (w := false) ht hb hn hlv hLv (fun fW' f1' f2' z1 s1 s2 s3 h1 h2 => ?_) (fun fW' f1' f2' z2 s1 s2 s3 h1 h2 => ?_)) rfl rfl rfl rfl
  · exact wp_r rfl (by omega) (hQ5 fW' f1' f2' z1 s1 s2 s3 h1 h2)
  · exact wp_r rfl (by omega) (hQ7 fW' f1' f2' z2 s1 s2 s3 h1 h2)
/-- lowerCentral(level) -/
theorem c_lower (ht : tt_ok p N T) (hb : tt_br p N T br) (hn : n = N) {lv : Int} {Lv : Nat} (hlv : lv = Lv) (hLv : Lv ≤ 9) {fW f1 f2 : Nat → Int} {a1 a2 a3 : Int}
    (hQ5 : ∀ (fW f1 f2 : Nat → Int) (z1 : Int) (s1 s2 s3 : Int), sb_ok 5 N p f1 z1 → ds_is p N (sb_R 5 f1) (ds_D p N T true Lv) → Q (some (.inr 5)) [c_Sp (.inr 1) (.inr 3) (.inr 5) (.inr 7), c_T (.inl p) (.inl n) (.inr 2), c_A 25 br, c_S (.inl 5) (.inr 4) (.inl p) (.inl n) (.inl n), c_A 30 fW, c_S (.inl 5) (.inr 6) (.inl p) (.inl n) (.inl z1), c_A 30 f1, c_S (.inl 5) (.inr 8) (.inl s1) (.inl s2) (.inl s3), c_A 30 f2])
    (hQ7 : ∀ (fW f1 f2 : Nat → Int) (z2 : Int) (s1 s2 s3 : Int), sb_ok 5 N p f2 z2 → ds_is p N (sb_R 5 f2) (ds_D p N T true Lv) → Q (some (.inr 7)) [c_Sp (.inr 1) (.inr 3) (.inr 5) (.inr 7), c_T (.inl p) (.inl n) (.inr 2), c_A 25 br, c_S (.inl 5) (.inr 4) (.inl p) (.inl n) (.inl n), c_A 30 fW, c_S (.inl 5) (.inr 6) (.inl s1) (.inl s2) (.inl s3), c_A 30 f1, c_S (.inl 5) (.inr 8) (.inl p) (.inl n) (.inl z2), c_A 30 f2]) :
    pj_ci X m_Spaces_lowerCentral [.inr 0, .inl lv] [c_Sp (.inr 1) (.inr 3) (.inr 5) (.inr 7), c_T (.inl p) (.inl n) (.inr 2), c_A 25 br, c_S (.inl 5) (.inr 4) v_u v_u v_u, c_A 30 fW, c_S (.inl 5) (.inr 6) v_u v_u v_u, c_A 30 f1, c_S (.inl 5) (.inr 8) (.inl a1) (.inl a2) (.inl a3), c_A 30 f2] Q := by
  refine wp_c rfl (by omega) [0, 1, 2, 3, 4, 5, 6, 7, 8] (c_descend (w := true) ht hb hn hlv hLv (fun fW' f1' f2' z1 s1 s2 s3 h1 h2 => ?_) (fun fW' f1' f2' z2 s1 s2 s3 h1 h2 => ?_)) rfl rfl rfl rfl
  · exact wp_r rfl (by omega) (hQ5 fW' f1' f2' z1 s1 s2 s3 h1 h2)
  · exact wp_r rfl (by omega) (hQ7 fW' f1' f2' z2 s1 s2 s3 h1 h2)
end DESC
