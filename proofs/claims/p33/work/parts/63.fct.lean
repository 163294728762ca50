/-! what the law asks of one table -/
section ZFC
variable {p : Int} {N : Nat} {T : Nat → Nat → Nat → Int} {z z' z'' : Int}
theorem fp_dg (hp : nn_p p) (u v f : Int) {k : Nat} (hk : k < N) : nn_dg p (nn_plus p N u v f) k = (nn_dg p u k + f * nn_dg p v k) % p := by
  have hp1 := (nn_p_pos hp).1
  exact nn_dg_nm hp1 N (f := fun k => (nn_dg p u k + f * nn_dg p v k) % p) (fun k _ => ⟨Int.emod_nonneg _ (by omega), Int.emod_lt_of_pos _ hp1⟩) k hk
theorem fp_rg (hp : nn_p p) (u v f : Int) : 0 ≤ nn_plus p N u v f ∧ nn_plus p N u v f < p ^ N := by
  have hp1 := (nn_p_pos hp).1
  exact nn_nm_rg hp1 N (f := fun k => (nn_dg p u k + f * nn_dg p v k) % p) (fun k _ => ⟨Int.emod_nonneg _ (by omega), Int.emod_lt_of_pos _ hp1⟩)
theorem fp_0 (hp : nn_p p) {u v f : Int} (h : ∀ k, k < N → nn_eq p (nn_dg p u k + f * nn_dg p v k) 0) : nn_plus p N u v f = 0 := nn_nm_eq0 N (fun k hk => by
  have h9 := nn_eq_iff.mp (h k hk)
  rw [Int.zero_emod] at h9
  exact h9)
theorem fb_rg (hp : nn_p p) (U V : ln_V) : 0 ≤ nn_nm p N (tt_bk p N T U V) ∧ nn_nm p N (tt_bk p N T U V) < p ^ N := nn_nm_rg (nn_p_pos hp).1 N (fun k _ => tt_bk_rg (nn_p_pos hp).1 U V k)
theorem fb_dg (hp : nn_p p) (U V : ln_V) {k : Nat} (hk : k < N) : nn_dg p (nn_nm p N (tt_bk p N T U V)) k = tt_bk p N T U V k := nn_dg_nm (nn_p_pos hp).1 N (fun k _ => tt_bk_rg (nn_p_pos hp).1 U V k) k hk
theorem fb_eq (hp : nn_p p) (U V : ln_V) : ln_eq p N (nn_dg p (nn_nm p N (tt_bk p N T U V))) (tt_bk p N T U V) := fun c hc => by
  rw [fb_dg hp U V hc]
  exact nn_eq_rfl p _
theorem fb_val {u v : Int} (hu : 0 ≤ u ∧ u < p ^ N) (hv : 0 ≤ v ∧ v < p ^ N) (h : an_br p N T u v z) : z = nn_nm p N (tt_bk p N T (nn_dg p u) (nn_dg p v)) := by
  rcases h with ⟨a, b⟩ | ⟨a, b⟩
  · exact absurd ⟨hu.1, hu.2, hv.1, hv.2⟩ a
  · exact b
theorem fk_val {u v : Int} (hu : 0 ≤ u ∧ u < p ^ N) (hv : 0 ≤ v ∧ v < p ^ N) (h : an_kl p N T u v z) : z = tr_v p N T (nn_dg p u) (nn_dg p v) := by
  rcases h with ⟨a, b⟩ | ⟨a, b⟩
  · exact absurd ⟨hu.1, hu.2, hv.1, hv.2⟩ a
  · exact b
theorem fk_rg (hp : nn_p p) (U V : ln_V) : 0 ≤ tr_v p N T U V ∧ tr_v p N T U V < p := ⟨Int.emod_nonneg _ (by have := (nn_p_pos hp).1; omega), Int.emod_lt_of_pos _ (nn_p_pos hp).1⟩
theorem ff_self (ht : tt_ok p N T) (U : ln_V) : nn_nm p N (tt_bk p N T U U) = 0 := nn_nm_eq0 N (fun k _ => tt_bk_self ht U k)
theorem ff_anti (ht : tt_ok p N T) (U V : ln_V) : nn_plus p N (nn_nm p N (tt_bk p N T U V)) (nn_nm p N (tt_bk p N T V U)) 1 = 0 := by
  obtain ⟨hp, -⟩ := id ht
  refine fp_0 hp (fun k hk => ?_)
  rw [fb_dg hp U V hk, fb_dg hp V U hk, Int.one_mul]
  have h9 := nn_eq_add (nn_eq_rfl p (tt_bk p N T U V k)) (tt_bk_anti ht U V k)
  rw [show tt_bk p N T U V k + -(tt_bk p N T U V k) = 0 by omega] at h9
  exact h9
theorem fp_eq (hp : nn_p p) (u w c : Int) : ln_eq p N (nn_dg p (nn_plus p N u w c)) (fun k => nn_dg p u k + c * nn_dg p w k) := fun k hk => by
  rw [fp_dg hp u w c hk]
  exact nn_eq_mod p _
theorem ff_lin (ht : tt_ok p N T) (u w c : Int) (V : ln_V) : nn_nm p N (tt_bk p N T (nn_dg p (nn_plus p N u w c)) V) = nn_plus p N (nn_nm p N (tt_bk p N T (nn_dg p u) V)) (nn_nm p N (tt_bk p N T (nn_dg p w) V)) c := by
  obtain ⟨hp, -⟩ := id ht
  have hp1 := (nn_p_pos hp).1
  refine nn_nm_congr N (fun k hk => ?_)
  rw [fb_dg hp _ V hk, fb_dg hp _ V hk]
  refine nn_eq_red ?_ (tt_bk_rg hp1 _ _ _) ⟨Int.emod_nonneg _ (by omega), Int.emod_lt_of_pos _ hp1⟩
  refine nn_eq_trans (tt_bk_congr (fp_eq hp u w c) (ln_eq_rfl V) k) (nn_eq_trans ?_ (nn_eq_symm (nn_eq_mod p _)))
  exact nn_eq_trans (tt_bk_add_l (nn_dg p u) (fun k => c * nn_dg p w k) V k) (nn_eq_add (nn_eq_rfl p _) (tt_bk_mul_l c (nn_dg p w) V k))
theorem ff_kl (ht : tt_ok p N T) (u w c : Int) (V : ln_V) : tr_v p N T (nn_dg p (nn_plus p N u w c)) V = (tr_v p N T (nn_dg p u) V + c * tr_v p N T (nn_dg p w) V) % p := by
  obtain ⟨hp, -⟩ := id ht
  have hp1 := (nn_p_pos hp).1
  refine nn_eq_red ?_ (fk_rg hp _ _) ⟨Int.emod_nonneg _ (by omega), Int.emod_lt_of_pos _ hp1⟩
  refine nn_eq_trans (zk_congr (fp_eq hp u w c) (ln_eq_rfl V)) (nn_eq_trans ?_ (nn_eq_symm (nn_eq_mod p _)))
  exact nn_eq_trans (zk_add (nn_dg p u) (fun k => c * nn_dg p w k) V) (nn_eq_add (nn_eq_rfl p _) (zk_mul c (nn_dg p w) V))
theorem ff_jac (ht : tt_ok p N T) (hJ : zj_all p N T) (U V W : ln_V) : nn_plus p N (nn_plus p N (nn_nm p N (tt_bk p N T U (nn_dg p (nn_nm p N (tt_bk p N T V W))))) (nn_nm p N (tt_bk p N T V (nn_dg p (nn_nm p N (tt_bk p N T W U))))) 1) (nn_nm p N (tt_bk p N T W (nn_dg p (nn_nm p N (tt_bk p N T U V))))) 1 = 0 := by
  obtain ⟨hp, -⟩ := id ht
  refine fp_0 hp (fun k hk => ?_)
  rw [fp_dg hp _ _ _ hk, fb_dg hp _ _ hk, fb_dg hp _ _ hk, fb_dg hp _ _ hk, Int.one_mul, Int.one_mul]
  have e : ∀ A B C : ln_V, nn_eq p (tt_bk p N T A (nn_dg p (nn_nm p N (tt_bk p N T B C))) k) (tt_bk p N T A (tt_bk p N T B C) k) := fun A B C => tt_bk_congr (ln_eq_rfl A) (fb_eq hp B C) k
  exact nn_eq_trans (nn_eq_add (nn_eq_trans (nn_eq_mod p _) (nn_eq_add (e U V W) (e V W U))) (e W U V)) (hJ U V W k hk)
theorem ff_kinv (ht : tt_ok p N T) (hJ : zj_all p N T) (U V W : ln_V) : tr_v p N T (nn_dg p (nn_nm p N (tt_bk p N T U V))) W = tr_v p N T U (nn_dg p (nn_nm p N (tt_bk p N T V W))) := by
  obtain ⟨hp, -⟩ := id ht
  have h1 := nn_eq_red (zk_congr (N := N) (T := T) (fb_eq (N := N) (T := T) hp U V) (ln_eq_rfl W)) (fk_rg hp _ _) (fk_rg hp _ _)
  have h2 := nn_eq_red (zk_congr (N := N) (T := T) (ln_eq_rfl U) (fb_eq (N := N) (T := T) hp V W)) (fk_rg hp _ _) (fk_rg hp _ _)
  rw [h1, h2, zk_inv (nn_p_pos hp).1 ht hJ]
theorem fu_ne (hp : nn_p p) {u : Int} (hu : 0 ≤ u ∧ u < p ^ N) (h : u ≠ 0) : ¬ ∀ c, c < N → nn_eq p (nn_dg p u c) 0 := fun h0 => h (by
  have hp1 := (nn_p_pos hp).1
  rw [← nn_nm_dg hp1 N hu.1 hu.2]
  exact nn_nm_eq0 N (fun k hk => nn_eq_red (h0 k hk) (nn_dg_rg hp1 k u) ⟨Int.le_refl 0, hp1⟩))
/-- the centralizer and the center -/
theorem fc_cz (ht : tt_ok p N T) {u : Int} (hu : 0 ≤ u ∧ u < p ^ N) (a : an_cd p N T z) (b : an_cz p N T u z') : z ≤ z' ∧ (u = 0 → z' = N) ∧ (u ≠ 0 → 1 ≤ z') := by
  obtain ⟨hp, -⟩ := id ht
  obtain ⟨R, r, e⟩ := a
  rcases b with ⟨b1, -⟩ | ⟨-, R', r', e'⟩
  · exact absurd hu b1
  · have hl := zl_bkl (p := p) (N := N) (T := T) (nn_dg p u)
    have hK : ln_sub p N (fun x => ∀ c, c < N → nn_eq p (tt_bk p N T x (nn_dg p u) c) 0) := zl_pre hl zl_zsub
    obtain ⟨k, hk⟩ := zq_ex hp hK
    have h1 := zq_rn1 hp hl hk (fun x hx => hx) ⟨R', r', rfl⟩ (fun y hy W hW h => hy W hW h)
    have h2 : ln_ct R N ≤ k := zq_le hp ⟨R, r, rfl⟩ hk (fun x hx => (zi_cen_iff x).mp hx (nn_dg p u))
    refine ⟨by omega, fun h0 => ?_, fun h0 => ?_⟩
    · have h3 : ln_ct R' N = 0 := zq_zero hp ⟨R', r', rfl⟩ (fun y hy => hy _ zl_zsub (fun x c hc => by
        subst h0
        have e0 : nn_dg p 0 = fun _ => 0 := funext fun k => nn_dg_0 (nn_p_pos hp).1 k
        rw [e0, tt_bk_0r]
        exact nn_eq_rfl p 0))
      omega
    · have h3 : 1 ≤ k := zq_pos hk (u := nn_dg p u) (fun c _ => by rw [tt_bk_self ht]; exact nn_eq_rfl p 0) (fu_ne hp hu h0)
      omega
theorem fc_id (ht : tt_ok p N T) {u : Int} (hu : 0 ≤ u ∧ u < p ^ N) (b : an_id p N T u z) : (u = 0 → z = 0) ∧ (u ≠ 0 → 1 ≤ z) := by
  obtain ⟨hp, -⟩ := id ht
  rcases b with ⟨b1, -⟩ | ⟨-, R', r', e'⟩
  · exact absurd hu b1
  · refine ⟨fun h0 => ?_, fun h0 => ?_⟩
    · have h3 : ln_ct R' N = 0 := zq_zero hp ⟨R', r', rfl⟩ (fun y hy => hy _ zl_zsub (fun c _ => by
        subst h0
        rw [nn_dg_0 (nn_p_pos hp).1]
        exact nn_eq_rfl p 0) (fun a w hw => zl_z (zl_bkr a) hw))
      omega
    · have h3 : 1 ≤ ln_ct R' N := zq_pos ⟨R', r', rfl⟩ (u := nn_dg p u) (fun K _ h _ => h) (fu_ne hp hu h0)
      omega
theorem fc_sd (b : an_sd p N T z' z'' z) (hu : 0 ≤ z' ∧ z' < p ^ N) (hv : 0 ≤ z'' ∧ z'' < p ^ N) : 0 ≤ z ∧ z ≤ N := by
  rcases b with ⟨b1, -⟩ | ⟨-, R', r', e'⟩
  · exact absurd ⟨hu.1, hu.2, hv.1, hv.2⟩ b1
  · have := ln_ct_w R' N
    omega
theorem fc_s1 (ht : tt_ok p N T) {u : Int} (hu : 0 ≤ u ∧ u < p ^ N) (b : an_sd p N T u u z) : (u = 0 → z = 0) ∧ (u ≠ 0 → z = 1) := by
  obtain ⟨hp, -⟩ := id ht
  rcases b with ⟨b1, -⟩ | ⟨-, R', r', e'⟩
  · exact absurd ⟨hu.1, hu.2, hu.1, hu.2⟩ b1
  · refine ⟨fun h0 => ?_, fun h0 => ?_⟩
    · have hz : ∀ c, c < N → nn_eq p (nn_dg p u c) 0 := fun c _ => by
        subst h0
        rw [nn_dg_0 (nn_p_pos hp).1]
        exact nn_eq_rfl p 0
      have h3 : ln_ct R' N = 0 := zq_zero hp ⟨R', r', rfl⟩ (fun y hy => hy _ zl_zsub hz hz (fun a w _ hw => zl_z (zl_bkr a) hw))
      omega
    · have h3 : 1 ≤ ln_ct R' N := zq_pos ⟨R', r', rfl⟩ (u := nn_dg p u) (fun K _ h _ _ => h) (fu_ne hp hu h0)
      obtain ⟨C, c1, c2, c3⟩ := ln_span_ex (N := N) hp (fun _ => nn_dg p u) ln_e 1
      have hCu : ln_in p N C (nn_dg p u) := (c2 _ (ln_in_sub C)).mp (fun r hr => ln_in_row c1 hr) 0 (by omega) (by show (if 0 = 0 then (1 : Int) else 0) ≠ 0; rw [if_pos rfl]; omega)
      have hmin : ∀ W, ln_sub p N W → W (nn_dg p u) → ∀ x, ln_in p N C x → W x := fun W hW hWu x hx => ln_in_W hW ((c2 W hW).mpr (fun _ _ _ => hWu)) hx
      have hcl : ∀ a b, ln_in p N C a → ln_in p N C b → ln_in p N C (tt_bk p N T a b) := fun a b ha hb =>
        hmin _ (tt_sub_l (ln_in_sub C) b) (hmin _ (tt_sub_r (ln_in_sub C) (nn_dg p u)) ((ln_in_sub C).2.2.2 _ _ (fun c _ => by rw [tt_bk_self ht]; exact nn_eq_rfl p 0) (ln_in_sub C).1) b hb) a ha
      have h4 := zq_le hp (U := ds_salg p N T (nn_dg p u) (nn_dg p u)) (V := ln_in p N C) ⟨R', r', rfl⟩ ⟨C, ⟨c1, fun x => Iff.rfl⟩, rfl⟩ (fun x hx => hx _ (ln_in_sub C) hCu hCu hcl)
      rw [ln_ct_e] at c3
      omega
/-! the series -/
theorem fs_in {b : Bool} {l : Int} (hl : 0 ≤ l ∧ l ≤ 9) (a : an_dd p N T b l z) : ∃ R, ds_is p N R (ds_D p N T b l.toNat) ∧ z = (ln_ct R N : Int) := by
  rcases a with ⟨b1, -⟩ | ⟨-, h⟩
  · exact absurd hl b1
  · exact h
theorem fs_rg {b : Bool} {l : Int} (hl : 0 ≤ l ∧ l ≤ 9) (a : an_dd p N T b l z) : 0 ≤ z ∧ z ≤ N := by
  obtain ⟨R, r, e⟩ := fs_in hl a
  have := ln_ct_w R N
  omega
theorem fs_0 (hp : nn_p p) {b : Bool} (a : an_dd p N T b 0 z) : z = N := by
  obtain ⟨R, r, e⟩ := fs_in ⟨by omega, by omega⟩ a
  have h := zq_one hp (U := fun _ => True) ⟨R, r, rfl⟩ (zq_all hp)
  omega
theorem fs_mono (hp : nn_p p) {b : Bool} {l : Int} (hl : 0 ≤ l ∧ l + 1 ≤ 9) (a : an_dd p N T b l z) (a' : an_dd p N T b (l + 1) z') : z' ≤ z := by
  obtain ⟨R, r, e⟩ := fs_in ⟨by omega, by omega⟩ a
  obtain ⟨R', r', e'⟩ := fs_in ⟨by omega, by omega⟩ a'
  rw [show (l + 1).toNat = l.toNat + 1 by omega] at r'
  have h := zq_le hp ⟨R', r', rfl⟩ ⟨R, r, rfl⟩ (fun x => ds_D_desc b l.toNat x)
  omega
theorem fs_sub : ∀ k x, ds_D p N T false k x → ds_D p N T true k x
  | 0, _, _ => trivial
  | k + 1, x, h => h _ (ds_D_sub true (k + 1)) (fun u v _ hv K hK h2 => h2 u v (Or.inl rfl) (fs_sub k v hv))
theorem fs_le (hp : nn_p p) {l : Int} (hl : 0 ≤ l ∧ l ≤ 9) (a : an_dd p N T false l z) (a' : an_dd p N T true l z') : z ≤ z' := by
  obtain ⟨R, r, e⟩ := fs_in hl a
  obtain ⟨R', r', e'⟩ := fs_in hl a'
  have h := zq_le hp ⟨R, r, rfl⟩ ⟨R', r', rfl⟩ (fun x => fs_sub l.toNat x)
  omega
theorem fs_ki (hp : nn_p p) (a : an_dd p N T false 9 z) (a' : an_dd p N T true 9 z') (k : an_ki p N T z'') : z'' = if z' = 0 then 2 else if z = 0 then 1 else 0 := by
  obtain ⟨R, r, e⟩ := fs_in ⟨by omega, by omega⟩ a
  obtain ⟨R', r', e'⟩ := fs_in ⟨by omega, by omega⟩ a'
  rcases k with ⟨S, s, b, c⟩ | ⟨S, S2, s, b, s2, c⟩
  · have h1 := ct_one hp s r'
    rw [if_pos (by omega)]
    exact c
  · have h1 := ct_one hp s r'
    have h2 := ct_one hp s2 r
    rw [if_neg (by omega), c]
    by_cases h0 : ln_ct S2 N = 0
    · rw [if_pos h0, if_pos (by omega)]
    · rw [if_neg h0, if_neg (by omega)]
theorem fs_none (hp : nn_p p) {l : Int} (hl : 0 ≤ l ∧ l ≤ 9) (a : an_dd p N T false l z) (b : an_dv p N T l z z') : z' = -9 := by
  obtain ⟨R, r, e⟩ := fs_in hl a
  rcases b with ⟨b1, -⟩ | ⟨-, S, s, h⟩
  · exact absurd ⟨hl.1, hl.2, by omega⟩ b1
  · have h1 := ct_one hp s r
    rcases h with ⟨-, h⟩ | ⟨q, q1, q2, q3, -⟩
    · exact h
    · have h2 := ln_ct_lt q1 q2
      omega
/-- row k of a level: its lead is q -/
def fs_is (p : Int) (N : Nat) (T : Nat → Nat → Nat → Int) (l k : Int) (q : Nat) (v : Int) : Prop := ∃ R, ds_is p N R (ds_D p N T false l.toNat) ∧ q < N ∧ R q q ≠ 0 ∧ (ln_ct R q : Int) = k ∧ v = nn_nm p N (R q)
theorem fs_row (hp : nn_p p) {l k : Int} (hl : 0 ≤ l ∧ l ≤ 9) (hk : 0 ≤ k ∧ k < z) (a : an_dd p N T false l z) (b : an_dv p N T l k z') : ∃ q, fs_is p N T l k q z' := by
  obtain ⟨R, r, e⟩ := fs_in hl a
  rcases b with ⟨b1, -⟩ | ⟨-, S, s, h⟩
  · exact absurd ⟨hl.1, hl.2, hk.1⟩ b1
  · have h1 := ct_one hp s r
    rcases h with ⟨h, -⟩ | ⟨q, q1, q2, q3, q4⟩
    · omega
    · exact ⟨q, S, s, q1, q2, by omega, q4⟩
theorem fs_lead (hp : nn_p p) {l k v : Int} {q : Nat} (h : fs_is p N T l k q v) : q < N ∧ 1 ≤ v ∧ v < p ^ N ∧ (∀ c, c < q → nn_dg p v c = 0) ∧ nn_dg p v q = 1 := by
  have hp1 := (nn_p_pos hp).1
  obtain ⟨R, r, h1, h2, h3, h4⟩ := h
  have hrg := fun c hc => (r.1 q h1).1 c hc
  have dg : ∀ c, c < N → nn_dg p v c = R q c := fun c hc => by rw [h4]; exact nn_dg_nm hp1 N hrg c hc
  have h5 := nn_nm_rg hp1 N hrg
  have h6 : nn_dg p v q = 1 := by rw [dg q h1]; exact ln_R_one r.1 h1 h2
  refine ⟨h1, ?_, by omega, fun c hc => by rw [dg c (by omega)]; exact ln_R_low r.1 h1 hc, h6⟩
  rcases Int.lt_or_le 0 v with g | g
  · omega
  · have : v = 0 := by omega
    rw [this, nn_dg_0 hp1] at h6
    omega
theorem fs_next (hp : nn_p p) {l k v v' : Int} {q q' : Nat} (h : fs_is p N T l k q v) (h' : fs_is p N T l (k + 1) q' v') : q < q' := by
  obtain ⟨R, r, h1, h2, h3, h4⟩ := h
  obtain ⟨R', r', h1', h2', h3', h4'⟩ := h'
  have e := ds_uniq hp r r'
  have ec : ln_ct R q = ln_ct R' q := ln_ct_congr q (fun c hc => by rw [e c c (by omega) (by omega)])
  rcases Nat.lt_or_ge q q' with g | g
  · exact g
  · have := ln_ct_mono2 (R := R') g
    omega
end ZFC
