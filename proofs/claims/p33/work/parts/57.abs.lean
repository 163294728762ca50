/-! what the answers are: out of the parts of the reference, the mathematics alone -/
section ABS
variable {X : pj_X} {Q : pj_Q} {p n : Int} {w N : Nat} {T : Nat → Nat → Nat → Int} {s br : Nat → Int}
theorem ln_push {R R' : Nat → ln_V} (hR : ln_R p w R) (hp : nn_p p) {v v1 v2 : ln_V} {K : Nat} {y : Int} (h1 : ln_eq p w v1 (fun c => v c - nn_sm w (fun r => v r * R r c))) (hv1 : ∀ c, c < w → 0 ≤ v1 c ∧ v1 c < p) (hK : K < w) (h0 : ∀ c, c < K → v1 c = 0) (hne : v1 K ≠ 0) (hy : y * v1 K % p = 1) (hv2 : ∀ c, c < w → v2 c = (v1 c * y) % p)
    (hl' : ∀ c, c < w → R' K c = v2 c) (hr' : ∀ r c, r < w → r ≠ K → c < w → R' r c = (R r c - R r K * v2 c) % p) :
    ln_join p w R v R' true ∧ R K K = 0 ∧ v2 K = 1 ∧ (∀ c, c < K → v2 c = 0) ∧ (∀ r, r < w → R r r ≠ 0 → v2 r = 0) ∧ (∀ c, c < w → 0 ≤ v2 c ∧ v2 c < p) ∧ (∀ r, r < w → (R' r r = 0 ↔ (R r r = 0 ∧ r ≠ K))) := by
  obtain ⟨hp1, hp2, hp3⟩ := nn_p_pos hp
  have hin := ln_red_in (R := R) (v := v) h1
  have hlr : R K K = 0 := Decidable.byContradiction fun z9 => hne (nn_eq_red (ln_red_lead hR h1 hK z9) (hv1 K hK) ⟨by omega, by omega⟩)
  have hv2g : ∀ c, c < w → 0 ≤ v2 c ∧ v2 c < p := fun c hc => by
    rw [hv2 c hc]
    exact ⟨Int.emod_nonneg _ (by omega), Int.emod_lt_of_pos _ hp1⟩
  have hsc : ln_eq p w v2 (fun c => y * v1 c) := fun c hc => by
    rw [hv2 c hc, Int.mul_comm]
    exact nn_eq_mod p _
  have hone : v2 K = 1 := by rw [hv2 K hK, Int.mul_comm]; exact hy
  have hzero : ∀ c, c < w → nn_eq p (v1 c) 0 → v2 c = 0 := fun c hc h9 => by
    have e := nn_eq_red h9 (hv1 c hc) ⟨by omega, by omega⟩
    rw [hv2 c hc, e, Int.zero_mul, Int.zero_emod]
  have hz0 : ∀ c, c < K → v2 c = 0 := fun c hc => hzero c (by omega) (by rw [h0 c hc]; exact nn_eq_rfl p 0)
  have hzl : ∀ r, r < w → R r r ≠ 0 → v2 r = 0 := fun r hr hl => hzero r hr (ln_red_lead hR h1 hr hl)
  have hins := ln_ins (p := p) (w := w) (R := R) (R' := R') hR (by omega) (v2 := v2) hK hv2g hone hz0 hzl hl' (fun r c hr hne2 hc => by
    rw [hr' r c hr hne2 hc]
    exact ⟨⟨Int.emod_nonneg _ (by omega), Int.emod_lt_of_pos _ hp1⟩, nn_eq_mod p _⟩)
  refine ⟨⟨hins.1, fun W9 hW9 => ?_, ?_, ⟨fun _ h9 => ?_, fun _ => rfl⟩, fun h9 => by cases h9⟩, hlr, hone, hz0, hzl, hv2g, hins.2.2⟩
  · rw [hins.2.1 W9 hW9]
    have hs1 : W9 v1 ↔ W9 v2 := ln_scale_W hW9 (a := y) (b := v1 K) (by rw [hy, Int.emod_eq_of_lt (by omega) (by omega)]) hsc
    constructor
    · rintro ⟨a1, a2⟩
      exact ⟨a1, (ln_red_W hW9 a1 h1).mpr (hs1.mpr a2)⟩
    · rintro ⟨a1, a2⟩
      exact ⟨a1, hs1.mp ((ln_red_W hW9 a1 h1).mp a2)⟩
  · exact ln_ct_ins w hK hlr hins.2.2
  · exact hne (nn_eq_red (hin.mp h9 K hK) (hv1 K hK) ⟨by omega, by omega⟩)
/-- the first place that isn't 0 -/
theorem ln_first {v : ln_V} : ∀ n : Nat, (∀ c, c < n → v c = 0) ∨ ∃ K, K < n ∧ (∀ c, c < K → v c = 0) ∧ v K ≠ 0
  | 0 => Or.inl fun c hc => absurd hc (by omega)
  | n + 1 => by
    rcases ln_first (v := v) n with h | ⟨K, h1, h2, h3⟩
    · by_cases h0 : v n = 0
      · exact Or.inl fun c hc => by
          by_cases e : c = n
          · rw [e]; exact h0
          · exact h c (by omega)
      · exact Or.inr ⟨n, by omega, h, h0⟩
    · exact Or.inr ⟨K, by omega, h2, h3⟩
/-- a join there always is -/
theorem ln_join_ex {R : Nat → ln_V} (hR : ln_R p w R) (hp : nn_p p) (v : ln_V) : ∃ R' b, ln_join p w R v R' b := by
  obtain ⟨hp1, hp2, hp3⟩ := nn_p_pos hp
  have h1 : ln_eq p w (fun c => (v c - nn_sm w (fun r => v r * R r c)) % p) (fun c => v c - nn_sm w (fun r => v r * R r c)) := fun c _ => nn_eq_mod p _
  have hv1 : ∀ c, c < w → 0 ≤ (v c - nn_sm w (fun r => v r * R r c)) % p ∧ (v c - nn_sm w (fun r => v r * R r c)) % p < p := fun c _ => ⟨Int.emod_nonneg _ (by omega), Int.emod_lt_of_pos _ hp1⟩
  rcases ln_first (v := fun c => (v c - nn_sm w (fun r => v r * R r c)) % p) w with h | ⟨K, hK, h0, hne⟩
  · exact ⟨R, false, ln_join_same hR ((ln_red_in h1).mpr (fun c hc => by rw [h c hc]; exact nn_eq_rfl p 0)) (fun _ _ _ _ => rfl)⟩
  · have hvK := hv1 K hK
    have hne' : (v K - nn_sm w (fun r => v r * R r K)) % p ≠ 0 := hne
    obtain ⟨y, -, -, hy⟩ := nn_inv_ex hp _ (show 1 ≤ (v K - nn_sm w (fun r => v r * R r K)) % p by omega) hvK.2
    exact ⟨fun r c => if r = K then ((v c - nn_sm w (fun r => v r * R r c)) % p * y) % p else (R r c - R r K * (((v c - nn_sm w (fun r => v r * R r c)) % p * y) % p)) % p, true, (ln_push hR hp (v2 := fun c => ((v c - nn_sm w (fun r => v r * R r c)) % p * y) % p) h1 hv1 hK h0 hne hy (fun c _ => rfl) (fun c _ => by rw [if_pos rfl]) (fun r c _ hne2 _ => by rw [if_neg hne2])).1⟩
theorem ln_ct_ex {R : Nat → ln_V} : ∀ (n j : Nat), j < ln_ct R n → ∃ r, r < n ∧ R r r ≠ 0 ∧ ln_ct R r = j
  | 0, j, h => absurd h (by show ¬ j < 0; omega)
  | n + 1, j, h => by
    have h : j < ln_ct R n + (if R n n = 0 then 0 else 1) := h
    by_cases hj : j < ln_ct R n
    · obtain ⟨r, h1, h2, h3⟩ := ln_ct_ex n j hj
      exact ⟨r, by omega, h2, h3⟩
    · by_cases h0 : R n n = 0
      · rw [if_pos h0] at h; omega
      · rw [if_neg h0] at h
        exact ⟨n, by omega, h0, by omega⟩
theorem ln_ct_mono2 {R : Nat → ln_V} {r q : Nat} (h : r ≤ q) : ln_ct R r ≤ ln_ct R q := by
  have := ln_ct_mono (R := R) (q - r) r
  rw [show r + (q - r) = q by omega] at this
  exact this
theorem ln_ct_e : ∀ n : Nat, ln_ct ln_e n = n
  | 0 => rfl
  | n + 1 => by
    show ln_ct ln_e n + (if ln_e n n = 0 then 0 else 1) = n + 1
    rw [ln_ct_e n, if_neg (by unfold ln_e; rw [if_pos rfl]; omega)]
theorem ln_R_e (hp : nn_p p) : ln_R p N ln_e := by
  have hp2 := (nn_p_pos hp).2.1
  refine fun r hr => ⟨fun c _ => ?_, Or.inr ⟨if_pos rfl, fun c hc => if_neg (by omega), fun q _ hq => if_neg (by omega)⟩⟩
  unfold ln_e
  split <;> omega
theorem ln_in_e (x : ln_V) : ln_in p N ln_e x := by
  intro c hc
  show nn_eq p (x c) (nn_sm N (fun r => x r * ln_e r c))
  rw [nn_sm_one N c hc (fun r _ hne => by rw [show ln_e r c = 0 from if_neg (by omega), Int.mul_zero]), show ln_e c c = 1 from if_pos rfl, Int.mul_one]
  exact nn_eq_rfl p _
/-- vectorOf(index): what it answers -/
def vo_is (p : Int) (N : Nat) (R : Nat → ln_V) (I : Nat) (z : Int) : Prop := (ln_ct R N ≤ I ∧ z = -9) ∨ ∃ r, r < N ∧ R r r ≠ 0 ∧ ln_ct R r = I ∧ z = nn_nm p N (R r)
theorem vo_one {R R' : Nat → ln_V} {U : ln_P} {I : Nat} {z z' : Int} (hp : nn_p p) (hR : ds_is p N R U) (hR' : ds_is p N R' U) (h : vo_is p N R I z) (h' : vo_is p N R' I z') : z = z' := by
  have e := ds_uniq hp hR hR'
  have ec : ∀ r, r ≤ N → ln_ct R r = ln_ct R' r := fun r hr => ln_ct_congr r (fun q hq => by rw [e q q (by omega) (by omega)])
  rcases h with ⟨h1, h2⟩ | ⟨r, h1, h2, h3, h4⟩
  · rcases h' with ⟨k1, k2⟩ | ⟨q, k1, k2, k3, k4⟩
    · rw [h2, k2]
    · have := ln_ct_lt (R := R') k1 k2
      have := ec N (Nat.le_refl N)
      omega
  · rcases h' with ⟨k1, k2⟩ | ⟨q, k1, k2, k3, k4⟩
    · have := ln_ct_lt (R := R) h1 h2
      have := ec N (Nat.le_refl N)
      omega
    · have hl : R q q ≠ 0 := by rw [e q q k1 k1]; exact k2
      have hc : ln_ct R q = ln_ct R r := by rw [ec q (by omega), k3, h3]
      have := ln_ct_inj hl h2 hc
      subst this
      rw [h4, k4]
      exact nn_nm_congr N (fun c hc => e q c k1 hc)
theorem ct_one {R R' : Nat → ln_V} {U : ln_P} (hp : nn_p p) (hR : ds_is p N R U) (hR' : ds_is p N R' U) : ln_ct R N = ln_ct R' N := by
  have e := ds_uniq hp hR hR'
  exact ln_ct_congr N (fun q hq => by rw [e q q hq hq])
/-- subalgebraDimension(u, v): what it answers -/
def an_sd (p : Int) (N : Nat) (T : Nat → Nat → Nat → Int) (u v z : Int) : Prop := (¬ (0 ≤ u ∧ u < p ^ N ∧ 0 ≤ v ∧ v < p ^ N) ∧ z = -1) ∨ ((0 ≤ u ∧ u < p ^ N ∧ 0 ≤ v ∧ v < p ^ N) ∧ ∃ R, ds_is p N R (ds_salg p N T (nn_dg p u) (nn_dg p v)) ∧ z = (ln_ct R N : Int))
def an_id (p : Int) (N : Nat) (T : Nat → Nat → Nat → Int) (v z : Int) : Prop := (¬ (0 ≤ v ∧ v < p ^ N) ∧ z = -1) ∨ ((0 ≤ v ∧ v < p ^ N) ∧ ∃ R, ds_is p N R (ds_ideal p N T (nn_dg p v)) ∧ z = (ln_ct R N : Int))
/-- a dimension of a level -/
def an_dd (p : Int) (N : Nat) (T : Nat → Nat → Nat → Int) (b : Bool) (l z : Int) : Prop := (¬ (0 ≤ l ∧ l ≤ 9) ∧ z = -1) ∨ ((0 ≤ l ∧ l ≤ 9) ∧ ∃ R, ds_is p N R (ds_D p N T b l.toNat) ∧ z = (ln_ct R N : Int))
def an_dv (p : Int) (N : Nat) (T : Nat → Nat → Nat → Int) (l i z : Int) : Prop := (¬ (0 ≤ l ∧ l ≤ 9 ∧ 0 ≤ i) ∧ z = -1) ∨ ((0 ≤ l ∧ l ≤ 9 ∧ 0 ≤ i) ∧ ∃ R, ds_is p N R (ds_D p N T false l.toNat) ∧ vo_is p N R i.toNat z)
def an_ki (p : Int) (N : Nat) (T : Nat → Nat → Nat → Int) (z : Int) : Prop := (∃ R, ds_is p N R (ds_D p N T true 9) ∧ ln_ct R N = 0 ∧ z = 2) ∨ (∃ R R2, ds_is p N R (ds_D p N T true 9) ∧ ln_ct R N ≠ 0 ∧ ds_is p N R2 (ds_D p N T false 9) ∧ z = if ln_ct R2 N = 0 then 1 else 0)
/-- the span of those S q that are taken -/
theorem ln_span_ex (hp : nn_p p) (S : Nat → ln_V) (R : Nat → ln_V) : ∀ n : Nat, ∃ C, ln_R p N C ∧ (∀ W, ln_sub p N W → (ln_g N C W ↔ ∀ q, q < n → R q q ≠ 0 → W (S q))) ∧ ln_ct C N ≤ ln_ct R n
  | 0 => ⟨fun _ _ => 0, fun r _ => ⟨fun c _ => ⟨Int.le_refl 0, (nn_p_pos hp).1⟩, Or.inl fun _ _ => rfl⟩, fun W hW => ⟨fun _ q hq => absurd hq (by omega), fun _ r _ => hW.1⟩, by rw [ln_ct_0 N (fun _ _ => rfl)]; exact Nat.zero_le _⟩
  | n + 1 => by
    obtain ⟨C, c1, c2, c3⟩ := ln_span_ex hp S R n
    by_cases h : R n n = 0
    · refine ⟨C, c1, fun W hW => ?_, ?_⟩
      · rw [c2 W hW]
        constructor
        · intro a q hq hl
          by_cases e : q = n
          · subst e; exact absurd h hl
          · exact a q (by omega) hl
        · intro a q hq hl
          exact a q (by omega) hl
      · show _ ≤ ln_ct R n + (if R n n = 0 then 0 else 1)
        rw [if_pos h]
        omega
    · obtain ⟨C2, b, hj⟩ := ln_join_ex c1 hp (S n)
      refine ⟨C2, hj.1, fun W hW => ?_, ?_⟩
      · rw [hj.2.1 W hW, c2 W hW]
        constructor
        · rintro ⟨a1, a2⟩ q hq hl
          by_cases e : q = n
          · subst e; exact a2
          · exact a1 q (by omega) hl
        · intro a
          exact ⟨fun q hq hl => a q (by omega) hl, a n (by omega) h⟩
      · rw [hj.2.2.1]
        show _ ≤ ln_ct R n + (if R n n = 0 then 0 else 1)
        rw [if_neg h]
        split <;> omega
theorem ln_span_all (hp : nn_p p) (S : Nat → ln_V) (n : Nat) : ∃ C, ln_R p N C ∧ ∀ W, ln_sub p N W → (ln_g N C W ↔ ∀ q, q < n → W (S q)) := by
  obtain ⟨C, c1, c2, -⟩ := ln_span_ex hp S ln_e n
  refine ⟨C, c1, fun W hW => ?_⟩
  rw [c2 W hW]
  exact ⟨fun a q hq => a q hq (by show (if q = q then (1 : Int) else 0) ≠ 0; rw [if_pos rfl]; omega), fun a q hq _ => a q hq⟩
def an_cd (p : Int) (N : Nat) (T : Nat → Nat → Nat → Int) (z : Int) : Prop := ∃ R, ds_is p N R (ds_cen p N T) ∧ z = (ln_ct R N : Int)
def an_cz (p : Int) (N : Nat) (T : Nat → Nat → Nat → Int) (v z : Int) : Prop := (¬ (0 ≤ v ∧ v < p ^ N) ∧ z = -1) ∨ ((0 ≤ v ∧ v < p ^ N) ∧ ∃ R, ds_is p N R (ds_br p N T (nn_dg p v)) ∧ z = (N : Int) - (ln_ct R N : Int))
def an_kl (p : Int) (N : Nat) (T : Nat → Nat → Nat → Int) (u v z : Int) : Prop := (¬ (0 ≤ u ∧ u < p ^ N ∧ 0 ≤ v ∧ v < p ^ N) ∧ z = -1) ∨ ((0 ≤ u ∧ u < p ^ N ∧ 0 ≤ v ∧ v < p ^ N) ∧ z = tr_v p N T (nn_dg p u) (nn_dg p v))
def an_kr (p : Int) (N : Nat) (T : Nat → Nat → Nat → Int) (z : Int) : Prop := ∃ R, ln_R p N R ∧ (∀ K, ln_sub p N K → (ln_g N R K ↔ ∀ i, i < N → K (kl_r p N T i))) ∧ z = (N : Int) - (ln_ct R N : Int)
def an_de (p : Int) (N : Nat) (T : Nat → Nat → Nat → Int) (z : Int) : Prop := ∃ R, ln_R p (N * N) R ∧ (∀ K, ln_sub p (N * N) K → (ln_g (N * N) R K ↔ ∀ i j r, i < j → j < N → r < N → K (dv_e p N T i j r))) ∧ z = ((N * N : Nat) : Int) - (ln_ct R (N * N) : Int)
/-- the table with a pair set -/
def tt_set (p : Int) (T : Nat → Nat → Nat → Int) (I J : Nat) (x : Nat → Int) (i j k : Nat) : Int := if i = I ∧ j = J then x k else if i = J ∧ j = I then (-(x k)) % p else T i j k
/-- what setBracket makes of the table -/
def sb_T (p : Int) (N : Nat) (T : Nat → Nat → Nat → Int) (I J : Nat) (v : Int) : Nat → Nat → Nat → Int := tt_set p T I J (fun k => if k < N then nn_dg p v k else 0)
def an_br (p : Int) (N : Nat) (T : Nat → Nat → Nat → Int) (u v z : Int) : Prop := (¬ (0 ≤ u ∧ u < p ^ N ∧ 0 ≤ v ∧ v < p ^ N) ∧ z = -1) ∨ ((0 ≤ u ∧ u < p ^ N ∧ 0 ≤ v ∧ v < p ^ N) ∧ z = nn_nm p N (tt_bk p N T (nn_dg p u) (nn_dg p v)))
def an_jf (p : Int) (N : Nat) (T : Nat → Nat → Nat → Int) (z : Int) : Prop := (∃ I J K : Nat, I < J ∧ J < K ∧ K < N ∧ nn_nm p N (jc_s p N T I J K) ≠ 0 ∧ jf_d p N T I J K ∧ z = 100 * I + 10 * J + K) ∨ (jf_d p N T N 0 0 ∧ z = -9)
theorem sb_T_ok (ht : tt_ok p N T) {I J : Nat} {v : Int} (hI : I < N) (hJ : J < N) (hne : I ≠ J) : tt_ok p N (sb_T p N T I J v) := by
  obtain ⟨hp, h1N, hN, hT, hz, ha, hd⟩ := id ht
  have hp1 := (nn_p_pos hp).1
  have hs : ∀ i j k, sb_T p N T I J v i j k = if i = I ∧ j = J then (if k < N then nn_dg p v k else 0) else if i = J ∧ j = I then (-(if k < N then nn_dg p v k else 0)) % p else T i j k := fun _ _ _ => rfl
  have hx : ∀ k, 0 ≤ (if k < N then nn_dg p v k else 0) ∧ (if k < N then nn_dg p v k else 0) < p := fun k => by
    split
    · exact nn_dg_rg hp1 k v
    · exact ⟨Int.le_refl 0, hp1⟩
  refine ⟨hp, h1N, hN, fun i j k => ?_, fun i j k h => ?_, fun i j k => ?_, fun i k => ?_⟩
  · rw [hs]
    split
    · exact hx k
    · split
      · exact ⟨Int.emod_nonneg _ (by omega), Int.emod_lt_of_pos _ hp1⟩
      · exact hT i j k
  · rw [hs]
    by_cases e1 : i = I ∧ j = J
    · rw [if_pos e1, if_neg (by omega)]
    · rw [if_neg e1]
      by_cases e2 : i = J ∧ j = I
      · rw [if_pos e2, if_neg (by omega), Int.neg_zero, Int.zero_emod]
      · rw [if_neg e2]
        exact hz i j k h
  · rw [hs, hs]
    by_cases e1 : i = I ∧ j = J
    · rw [if_pos e1, if_neg (show ¬ (j = I ∧ i = J) by omega), if_pos (show j = J ∧ i = I by omega)]
      exact nn_eq_mod p _
    · by_cases e2 : i = J ∧ j = I
      · rw [if_neg e1, if_pos e2, if_pos (show j = I ∧ i = J by omega)]
        have h9 := nn_eq_sub (nn_eq_rfl p 0) (nn_eq_mod p (-(if k < N then nn_dg p v k else 0)))
        rw [Int.zero_sub, Int.zero_sub, Int.neg_neg] at h9
        exact nn_eq_symm h9
      · rw [if_neg e1, if_neg e2, if_neg (show ¬ (j = I ∧ i = J) by omega), if_neg (show ¬ (j = J ∧ i = I) by omega)]
        exact ha i j k
  · rw [hs, if_neg (by omega), if_neg (by omega)]
    exact hd i k
end ABS
