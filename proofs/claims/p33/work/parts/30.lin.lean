/-! linear algebra modulo p: subspaces as predicates, canonical matrices (row r: the basis vector with lead r, or 0) -/
abbrev ln_V : Type := Nat → Int
abbrev ln_P : Type := ln_V → Prop
def ln_eq (p : Int) (w : Nat) (x y : ln_V) : Prop := ∀ c, c < w → nn_eq p (x c) (y c)
def ln_sub (p : Int) (w : Nat) (W : ln_P) : Prop := W (fun _ => 0) ∧ (∀ x y, W x → W y → W (fun c => x c + y c)) ∧ (∀ a x, W x → W (fun c => a * x c)) ∧ ∀ x y, ln_eq p w x y → W x → W y
/-- the span -/
def ln_sp (p : Int) (w : Nat) (S : ln_P) : ln_P := fun x => ∀ W, ln_sub p w W → (∀ y, S y → W y) → W x
def ln_R (p : Int) (w : Nat) (R : Nat → ln_V) : Prop := ∀ r, r < w → (∀ c, c < w → 0 ≤ R r c ∧ R r c < p) ∧ ((∀ c, c < w → R r c = 0) ∨ (R r r = 1 ∧ (∀ c, c < r → R r c = 0) ∧ ∀ q, q < w → q ≠ r → R q r = 0))
/-- the span of a canonical matrix -/
def ln_in (p : Int) (w : Nat) (R : Nat → ln_V) : ln_P := fun x => ln_eq p w x (fun c => nn_sm w (fun r => x r * R r c))
def ln_ct (R : Nat → ln_V) : Nat → Nat
  | 0 => 0
  | w + 1 => ln_ct R w + (if R w w = 0 then 0 else 1)
/-- W holds every row -/
def ln_g (w : Nat) (R : Nat → ln_V) (W : ln_P) : Prop := ∀ r, r < w → W (R r)
section LIN
variable {p : Int} {w : Nat}
theorem ln_eq_rfl (x : ln_V) : ln_eq p w x x := fun _ _ => nn_eq_rfl p _
theorem ln_eq_symm {x y : ln_V} (h : ln_eq p w x y) : ln_eq p w y x := fun c hc => nn_eq_symm (h c hc)
theorem ln_eq_trans {x y z : ln_V} (h : ln_eq p w x y) (h2 : ln_eq p w y z) : ln_eq p w x z := fun c hc => nn_eq_trans (h c hc) (h2 c hc)
theorem ln_sub_sm {W : ln_P} (hW : ln_sub p w W) {R : Nat → ln_V} (a : Nat → Int) : ∀ n, (∀ r, r < n → W (R r)) → W (fun c => nn_sm n (fun r => a r * R r c))
  | 0, _ => hW.1
  | n + 1, h => hW.2.1 _ _ (ln_sub_sm hW a n (fun r hr => h r (by omega))) (hW.2.2.1 (a n) _ (h n (by omega)))
theorem ln_sub_sub {W : ln_P} (hW : ln_sub p w W) {x y : ln_V} (hx : W x) (hy : W y) (a : Int) : W (fun c => x c - a * y c) := by
  refine hW.2.2.2 _ _ (fun c _ => ?_) (hW.2.1 _ _ hx (hW.2.2.1 (-a) _ hy))
  show nn_eq p (x c + -a * y c) (x c - a * y c)
  rw [Int.neg_mul]
  exact nn_eq_rfl p _
theorem ln_sub_neg {W : ln_P} (hW : ln_sub p w W) {x : ln_V} (hx : W x) : W (fun c => -(x c)) := by
  refine hW.2.2.2 _ _ (fun c _ => ?_) (hW.2.2.1 (-1) _ hx)
  show nn_eq p (-1 * x c) (-(x c))
  rw [Int.neg_mul, Int.one_mul]
  exact nn_eq_rfl p _
theorem ln_sp_sub (S : ln_P) : ln_sub p w (ln_sp p w S) :=
  ⟨fun W hW _ => hW.1, fun x y hx hy W hW h => hW.2.1 _ _ (hx W hW h) (hy W hW h), fun a x hx W hW h => hW.2.2.1 a _ (hx W hW h), fun x y e hx W hW h => hW.2.2.2 _ _ e (hx W hW h)⟩
theorem ln_sp_mem {S : ln_P} {x : ln_V} (h : S x) : ln_sp p w S x := fun W _ hS => hS x h
theorem ln_in_sub (R : Nat → ln_V) : ln_sub p w (ln_in p w R) := by
  refine ⟨fun c _ => ?_, fun x y hx hy c hc => ?_, fun a x hx c hc => ?_, fun x y e hx c hc => ?_⟩
  · show nn_eq p 0 (nn_sm w (fun r => 0 * R r c))
    rw [nn_sm_0 w (fun r _ => Int.zero_mul _)]
    exact nn_eq_rfl p 0
  · show nn_eq p (x c + y c) (nn_sm w (fun r => (x r + y r) * R r c))
    have e : nn_sm w (fun r => (x r + y r) * R r c) = nn_sm w (fun r => x r * R r c) + nn_sm w (fun r => y r * R r c) := by
      rw [← nn_sm_add]
      exact nn_sm_congr w (fun r _ => Int.add_mul _ _ _)
    rw [e]
    exact nn_eq_add (hx c hc) (hy c hc)
  · show nn_eq p (a * x c) (nn_sm w (fun r => a * x r * R r c))
    have e : nn_sm w (fun r => a * x r * R r c) = a * nn_sm w (fun r => x r * R r c) := by
      rw [← nn_sm_mul]
      exact nn_sm_congr w (fun r _ => Int.mul_assoc _ _ _)
    rw [e]
    exact nn_eq_mul (nn_eq_rfl p a) (hx c hc)
  · refine nn_eq_trans (nn_eq_symm (e c hc)) (nn_eq_trans (hx c hc) ?_)
    exact nn_eq_sm w (fun r hr => nn_eq_mul (e r hr) (nn_eq_rfl p _))
theorem ln_R_col {R : Nat → ln_V} (hR : ln_R p w R) {r q : Nat} (hr : r < w) (hq : q < w) (hl : R r r ≠ 0) (hne : q ≠ r) : R q r = 0 := by
  rcases (hR r hr).2 with h | h
  · exact absurd (h r hr) hl
  · exact h.2.2 q hq hne
theorem ln_R_one {R : Nat → ln_V} (hR : ln_R p w R) {r : Nat} (hr : r < w) (hl : R r r ≠ 0) : R r r = 1 := by
  rcases (hR r hr).2 with h | h
  · exact absurd (h r hr) hl
  · exact h.1
theorem ln_R_zero {R : Nat → ln_V} (hR : ln_R p w R) {r c : Nat} (hr : r < w) (hc : c < w) (hl : R r r = 0) : R r c = 0 := by
  rcases (hR r hr).2 with h | h
  · exact h c hc
  · rw [hl] at h
    exact absurd h.1 (by omega)
theorem ln_R_low {R : Nat → ln_V} (hR : ln_R p w R) {r c : Nat} (hr : r < w) (hc : c < r) : R r c = 0 := by
  rcases (hR r hr).2 with h | h
  · exact h c (by omega)
  · exact h.2.1 c hc
/-- a sum of multiples of the rows at a lead -/
theorem ln_sm_lead {R : Nat → ln_V} (hR : ln_R p w R) (x : Nat → Int) {c : Nat} (hc : c < w) (hl : R c c ≠ 0) : nn_sm w (fun r => x r * R r c) = x c := by
  rw [nn_sm_one w c hc (fun r hr hne => by rw [ln_R_col hR hc hr hl hne, Int.mul_zero]), ln_R_one hR hc hl, Int.mul_one]
theorem ln_in_row {R : Nat → ln_V} (hR : ln_R p w R) {r : Nat} (hr : r < w) : ln_in p w R (R r) := by
  intro c hc
  show nn_eq p (R r c) (nn_sm w (fun q => R r q * R q c))
  rw [nn_sm_one w r hr (fun q hq hne => ?_)]
  · by_cases hl : R r r = 0
    · rw [ln_R_zero hR hr hc hl, Int.mul_zero]
      exact nn_eq_rfl p 0
    · rw [ln_R_one hR hr hl, Int.one_mul]
      exact nn_eq_rfl p _
  · by_cases hl : R q q = 0
    · rw [ln_R_zero hR hq hc hl, Int.mul_zero]
    · rw [ln_R_col hR hq hr hl (Ne.symm hne), Int.zero_mul]
theorem ln_in_W {R : Nat → ln_V} {W : ln_P} (hW : ln_sub p w W) (hg : ln_g w R W) {x : ln_V} (hx : ln_in p w R x) : W x :=
  hW.2.2.2 _ _ (ln_eq_symm hx) (ln_sub_sm hW x w hg)
theorem ln_in_iff {R : Nat → ln_V} (hR : ln_R p w R) {x : ln_V} : ln_in p w R x ↔ ∀ W, ln_sub p w W → ln_g w R W → W x :=
  ⟨fun h W hW hg => ln_in_W hW hg h, fun h => h _ (ln_in_sub R) (fun _ hr => ln_in_row hR hr)⟩
theorem ln_lead_of {R R' : Nat → ln_V} (hR : ln_R p w R) (hR' : ln_R p w R') (hp : 1 < p) (h : ∀ x, ln_in p w R x → ln_in p w R' x) {r : Nat} (hr : r < w) (hl : R r r ≠ 0) : R' r r ≠ 0 := by
  have h1 := h _ (ln_in_row hR hr) r hr
  have h2 : nn_sm w (fun q => R r q * R' q r) = R r r * R' r r := nn_sm_one w r hr (fun q hq hne => by
    by_cases hlt : q < r
    · rw [ln_R_low hR hr hlt, Int.zero_mul]
    · rw [ln_R_low hR' hq (by omega), Int.mul_zero])
  have h1 : nn_eq p (R r r) (nn_sm w (fun q => R r q * R' q r)) := h1
  rw [h2, ln_R_one hR hr hl, Int.one_mul] at h1
  intro h0
  rw [h0, nn_eq_iff, Int.zero_emod, Int.emod_eq_of_lt (by omega) hp] at h1
  omega
/-- U in V, the same leads: the same matrix -/
theorem ln_same {R R' : Nat → ln_V} (hR : ln_R p w R) (hR' : ln_R p w R') (h : ∀ x, ln_in p w R x → ln_in p w R' x) (hl : ∀ r, r < w → (R r r = 0 ↔ R' r r = 0)) : ∀ r c, r < w → c < w → R r c = R' r c := by
  intro r c hr hc
  by_cases h0 : R r r = 0
  · rw [ln_R_zero hR hr hc h0, ln_R_zero hR' hr hc ((hl r hr).mp h0)]
  · have h1 := h _ (ln_in_row hR hr) c hc
    have h1 : nn_eq p (R r c) (nn_sm w (fun q => R r q * R' q c)) := h1
    rw [nn_sm_one w r hr (fun q hq hne => ?_), ln_R_one hR hr h0, Int.one_mul] at h1
    · exact nn_eq_red h1 ((hR r hr).1 c hc) ((hR' r hr).1 c hc)
    · by_cases hq0 : R' q q = 0
      · rw [ln_R_zero hR' hq hc hq0, Int.mul_zero]
      · rw [ln_R_col hR hq hr (fun z => hq0 ((hl q hq).mp z)) (Ne.symm hne), Int.zero_mul]
/-- THE CANONICAL MATRIX IS ONE -/
theorem ln_uniq {R R' : Nat → ln_V} (hR : ln_R p w R) (hR' : ln_R p w R') (hp : 1 < p) (h : ∀ x, ln_in p w R x ↔ ln_in p w R' x) : ∀ r c, r < w → c < w → R r c = R' r c :=
  ln_same hR hR' (fun x => (h x).mp) (fun r hr => ⟨fun z => Decidable.byContradiction fun z2 => ln_lead_of hR' hR hp (fun x => (h x).mpr) hr z2 z, fun z => Decidable.byContradiction fun z2 => ln_lead_of hR hR' hp (fun x => (h x).mp) hr z2 z⟩)
theorem ln_ct_congr {R R' : Nat → ln_V} : ∀ n, (∀ r, r < n → (R r r = 0 ↔ R' r r = 0)) → ln_ct R n = ln_ct R' n
  | 0, _ => rfl
  | n + 1, h => by
    show ln_ct R n + _ = ln_ct R' n + _
    rw [ln_ct_congr n (fun r hr => h r (by omega))]
    by_cases h0 : R n n = 0
    · rw [if_pos h0, if_pos ((h n (by omega)).mp h0)]
    · rw [if_neg h0, if_neg (fun z => h0 ((h n (by omega)).mpr z))]
theorem ln_ct_le {R R' : Nat → ln_V} : ∀ n, (∀ r, r < n → R r r ≠ 0 → R' r r ≠ 0) → ln_ct R n ≤ ln_ct R' n ∧ (ln_ct R n = ln_ct R' n → ∀ r, r < n → R' r r ≠ 0 → R r r ≠ 0)
  | 0, _ => ⟨Nat.le_refl _, fun _ r hr => absurd hr (by omega)⟩
  | n + 1, h => by
    obtain ⟨h1, h2⟩ := ln_ct_le n (fun r hr => h r (by omega))
    show ln_ct R n + _ ≤ ln_ct R' n + _ ∧ (ln_ct R n + _ = ln_ct R' n + _ → _)
    by_cases h0 : R n n = 0
    · rw [if_pos h0]
      by_cases h0' : R' n n = 0
      · rw [if_pos h0']
        refine ⟨h1, fun e r hr hz => ?_⟩
        by_cases hrn : r = n
        · subst hrn; exact absurd h0' hz
        · exact h2 e r (by omega) hz
      · rw [if_neg h0']
        exact ⟨by omega, fun e => by omega⟩
    · rw [if_neg h0, if_neg (h n (by omega) h0)]
      refine ⟨by omega, fun e r hr hz => ?_⟩
      by_cases hrn : r = n
      · subst hrn; exact h0
      · exact h2 (by omega) r (by omega) hz
theorem ln_ct_w (R : Nat → ln_V) : ∀ n, ln_ct R n ≤ n
  | 0 => Nat.le_refl _
  | n + 1 => by
    have := ln_ct_w R n
    show ln_ct R n + _ ≤ n + 1
    split <;> omega
theorem ln_ct_0 {R : Nat → ln_V} : ∀ n, (∀ r, r < n → R r r = 0) → ln_ct R n = 0
  | 0, _ => rfl
  | n + 1, h => by
    show ln_ct R n + _ = 0
    rw [ln_ct_0 n (fun r hr => h r (by omega)), if_pos (h n (by omega))]
theorem ln_ct_eq0 {R : Nat → ln_V} : ∀ n, ln_ct R n = 0 → ∀ r, r < n → R r r = 0
  | 0, _, r, hr => absurd hr (by omega)
  | n + 1, h, r, hr => by
    have h : ln_ct R n + (if R n n = 0 then 0 else 1) = 0 := h
    by_cases hrn : r = n
    · subst hrn
      by_cases h0 : R r r = 0
      · exact h0
      · rw [if_neg h0] at h; omega
    · exact ln_ct_eq0 n (by omega) r (by omega)
/-- U in V: the dimensions; equal ones mean equality -/
theorem ln_dim {R R' : Nat → ln_V} (hR : ln_R p w R) (hR' : ln_R p w R') (hp : 1 < p) (h : ∀ x, ln_in p w R x → ln_in p w R' x) : ln_ct R w ≤ ln_ct R' w ∧ (ln_ct R w = ln_ct R' w → ∀ r c, r < w → c < w → R r c = R' r c) := by
  obtain ⟨h1, h2⟩ := ln_ct_le w (fun r hr hl => ln_lead_of hR hR' hp h hr hl)
  refine ⟨h1, fun e => ln_same hR hR' h (fun r hr => ⟨fun z => ?_, fun z => ?_⟩)⟩
  · exact Decidable.byContradiction fun z2 => h2 e r hr z2 z
  · exact Decidable.byContradiction fun z2 => ln_lead_of hR hR' hp h hr z2 z
theorem ln_in_congr {R R' : Nat → ln_V} (h : ∀ r c, r < w → c < w → R r c = R' r c) {x : ln_V} : ln_in p w R x ↔ ln_in p w R' x := by
  have key : ∀ {R R' : Nat → ln_V}, (∀ r c, r < w → c < w → R r c = R' r c) → ln_in p w R x → ln_in p w R' x := fun h hx c hc => by
    have := hx c hc
    refine nn_eq_trans this ?_
    exact nn_eq_sm w (fun r hr => by rw [h r c hr hc]; exact nn_eq_rfl p _)
  exact ⟨key h, key (fun r c hr hc => (h r c hr hc).symm)⟩
end LIN
