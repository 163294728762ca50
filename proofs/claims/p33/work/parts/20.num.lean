/-! numbers: digits of a vector, the number of a row -/
abbrev nn_p (p : Int) : Prop := p = 2 ∨ p = 3 ∨ p = 5 ∨ p = 7
def nn_dg (p : Int) : Int → Nat → Int
  | v, 0 => v % p
  | v, k + 1 => nn_dg p (v / p) k
def nn_nm (p : Int) : Nat → (Nat → Int) → Int
  | 0, _ => 0
  | n + 1, f => f 0 + p * nn_nm p n (fun k => f (k + 1))
/-- a sum -/
def nn_sm : Nat → (Nat → Int) → Int
  | 0, _ => 0
  | n + 1, f => nn_sm n f + f n
theorem nn_dg_rg {p : Int} (hp : 0 < p) : ∀ (k : Nat) (v : Int), 0 ≤ nn_dg p v k ∧ nn_dg p v k < p
  | 0, v => ⟨Int.emod_nonneg v (by omega), Int.emod_lt_of_pos v hp⟩
  | k + 1, v => nn_dg_rg hp k (v / p)
theorem nn_dg_0 {p : Int} (hp : 0 < p) : ∀ k : Nat, nn_dg p 0 k = 0
  | 0 => by show (0 : Int) % p = 0; exact Int.zero_emod p
  | k + 1 => by show nn_dg p (0 / p) k = 0; rw [Int.zero_ediv]; exact nn_dg_0 hp k
theorem nn_nm_congr {p : Int} : ∀ (n : Nat) {f g : Nat → Int}, (∀ k, k < n → f k = g k) → nn_nm p n f = nn_nm p n g
  | 0, _, _, _ => rfl
  | n + 1, f, g, h => by
    show f 0 + p * _ = g 0 + p * _
    rw [h 0 (by omega), nn_nm_congr n (fun k hk => h (k + 1) (by omega))]
theorem nn_nm_rg {p : Int} (hp : 0 < p) : ∀ (n : Nat) {f : Nat → Int}, (∀ k, k < n → 0 ≤ f k ∧ f k < p) → 0 ≤ nn_nm p n f ∧ nn_nm p n f < p ^ n
  | 0, _, _ => ⟨Int.le_refl _, by show (0 : Int) < p ^ 0; rw [Int.pow_zero]; omega⟩
  | n + 1, f, h => by
    obtain ⟨h1, h2⟩ := nn_nm_rg hp n (f := fun k => f (k + 1)) (fun k hk => h (k + 1) (by omega))
    obtain ⟨h3, h4⟩ := h 0 (by omega)
    show 0 ≤ f 0 + p * _ ∧ f 0 + p * _ < _
    rw [Int.pow_succ']
    have h5 : 0 ≤ p * nn_nm p n (fun k => f (k + 1)) := Int.mul_nonneg (by omega) h1
    have h6 : p * (nn_nm p n (fun k => f (k + 1)) + 1) ≤ p * p ^ n := Int.mul_le_mul_of_nonneg_left (by omega) (by omega)
    rw [Int.mul_add] at h6
    omega
theorem nn_dg_nm {p : Int} (hp : 0 < p) : ∀ (n : Nat) {f : Nat → Int}, (∀ k, k < n → 0 ≤ f k ∧ f k < p) → ∀ k, k < n → nn_dg p (nn_nm p n f) k = f k
  | n + 1, f, h, 0, _ => by
    show (f 0 + p * _) % p = f 0
    rw [Int.add_mul_emod_self_left]
    exact Int.emod_eq_of_lt (h 0 (by omega)).1 (h 0 (by omega)).2
  | n + 1, f, h, k + 1, hk => by
    show nn_dg p ((f 0 + p * _) / p) k = f (k + 1)
    rw [Int.add_mul_ediv_left _ _ (by omega), Int.ediv_eq_zero_of_lt (h 0 (by omega)).1 (h 0 (by omega)).2, Int.zero_add]
    exact nn_dg_nm hp n (fun j hj => h (j + 1) (by omega)) k (by omega)
theorem nn_dg_nm0 {p : Int} (hp : 0 < p) : ∀ (n : Nat) {f : Nat → Int}, (∀ k, k < n → 0 ≤ f k ∧ f k < p) → ∀ k, n ≤ k → nn_dg p (nn_nm p n f) k = 0
  | 0, f, h, k, _ => nn_dg_0 hp k
  | n + 1, f, h, 0, hk => by omega
  | n + 1, f, h, k + 1, hk => by
    show nn_dg p ((f 0 + p * _) / p) k = 0
    rw [Int.add_mul_ediv_left _ _ (by omega), Int.ediv_eq_zero_of_lt (h 0 (by omega)).1 (h 0 (by omega)).2, Int.zero_add]
    exact nn_dg_nm0 hp n (fun j hj => h (j + 1) (by omega)) k (by omega)
theorem nn_nm_dg {p : Int} (hp : 0 < p) : ∀ (n : Nat) {v : Int}, 0 ≤ v → v < p ^ n → nn_nm p n (nn_dg p v) = v
  | 0, v, h1, h2 => by
    rw [Int.pow_zero] at h2
    show (0 : Int) = v
    omega
  | n + 1, v, h1, h2 => by
    show v % p + p * nn_nm p n (nn_dg p (v / p)) = v
    rw [Int.pow_succ] at h2
    rw [nn_nm_dg hp n (Int.ediv_nonneg h1 (by omega)) (Int.ediv_lt_of_lt_mul hp h2)]
    exact Int.emod_add_mul_ediv v p
theorem nn_nm_last {p : Int} : ∀ (n : Nat) (f : Nat → Int), nn_nm p (n + 1) f = nn_nm p n f + f n * p ^ n
  | 0, f => by
    show f 0 + p * 0 = 0 + f 0 * p ^ 0
    rw [Int.pow_zero, Int.mul_zero, Int.mul_one]
    omega
  | n + 1, f => by
    have h := nn_nm_last (p := p) n (fun k => f (k + 1))
    show f 0 + p * nn_nm p (n + 1) (fun k => f (k + 1)) = f 0 + p * nn_nm p n (fun k => f (k + 1)) + f (n + 1) * p ^ (n + 1)
    rw [h, Int.mul_add, Int.pow_succ, ← Int.add_assoc]
    congr 1
    rw [Int.mul_left_comm, Int.mul_comm p (p ^ n)]
theorem nn_nm_eq0 {p : Int} : ∀ (n : Nat) {f : Nat → Int}, (∀ k, k < n → f k = 0) → nn_nm p n f = 0
  | 0, _, _ => rfl
  | n + 1, f, h => by
    show f 0 + p * _ = 0
    rw [h 0 (by omega), nn_nm_eq0 n (fun k hk => h (k + 1) (by omega)), Int.mul_zero]
    rfl
theorem nn_nm_inj {p : Int} (hp : 0 < p) {n : Nat} {f g : Nat → Int} (hf : ∀ k, k < n → 0 ≤ f k ∧ f k < p) (hg : ∀ k, k < n → 0 ≤ g k ∧ g k < p) (h : nn_nm p n f = nn_nm p n g) : ∀ k, k < n → f k = g k := by
  intro k hk
  rw [← nn_dg_nm hp n hf k hk, h, nn_dg_nm hp n hg k hk]
theorem nn_dg_pow {p : Int} (hp : 0 < p) : ∀ (k : Nat) {v : Int}, nn_dg p v k = v / p ^ k % p
  | 0, v => by show v % p = v / p ^ 0 % p; rw [Int.pow_zero, Int.ediv_one]
  | k + 1, v => by
    show nn_dg p (v / p) k = _
    rw [nn_dg_pow hp k, Int.ediv_ediv_of_nonneg (Int.le_of_lt hp), Int.pow_succ']
theorem nn_pw1 {p : Int} (hp : 0 < p) (k : Nat) : 1 ≤ p ^ k := by
  have := Int.pow_pos (m := k) hp
  omega
theorem nn_pwle {p : Int} (hp : nn_p p) : ∀ k : Nat, k ≤ 5 → p ^ k ≤ 16807 := by
  have key : ∀ k, k < 6 → (2 : Int) ^ k ≤ 16807 ∧ (3 : Int) ^ k ≤ 16807 ∧ (5 : Int) ^ k ≤ 16807 ∧ (7 : Int) ^ k ≤ 16807 := by decide
  intro k hk
  obtain ⟨h1, h2, h3, h4⟩ := key k (by omega)
  rcases hp with rfl | rfl | rfl | rfl <;> assumption
theorem nn_p_pos {p : Int} (hp : nn_p p) : 0 < p ∧ 2 ≤ p ∧ p ≤ 7 := by rcases hp with rfl | rfl | rfl | rfl <;> omega
theorem nn_dg_lt {p : Int} (hp : 0 < p) {n : Nat} {v : Int} (h1 : 0 ≤ v) (h2 : v < p ^ n) {k : Nat} (hk : n ≤ k) : nn_dg p v k = 0 := by
  rw [← nn_nm_dg hp n h1 h2]
  exact nn_dg_nm0 hp n (fun j _ => nn_dg_rg hp j v) k hk
theorem nn_sm_congr : ∀ (n : Nat) {f g : Nat → Int}, (∀ k, k < n → f k = g k) → nn_sm n f = nn_sm n g
  | 0, _, _, _ => rfl
  | n + 1, f, g, h => by
    show nn_sm n f + f n = nn_sm n g + g n
    rw [nn_sm_congr n (fun k hk => h k (by omega)), h n (by omega)]
theorem nn_sm_add : ∀ (n : Nat) (f g : Nat → Int), nn_sm n (fun k => f k + g k) = nn_sm n f + nn_sm n g
  | 0, _, _ => rfl
  | n + 1, f, g => by
    show nn_sm n (fun k => f k + g k) + (f n + g n) = nn_sm n f + f n + (nn_sm n g + g n)
    rw [nn_sm_add n f g]
    omega
theorem nn_sm_mul (c : Int) : ∀ (n : Nat) (f : Nat → Int), nn_sm n (fun k => c * f k) = c * nn_sm n f
  | 0, _ => (Int.mul_zero c).symm
  | n + 1, f => by
    show nn_sm n (fun k => c * f k) + c * f n = c * (nn_sm n f + f n)
    rw [nn_sm_mul c n f, Int.mul_add]
theorem nn_sm_0 : ∀ (n : Nat) {f : Nat → Int}, (∀ k, k < n → f k = 0) → nn_sm n f = 0
  | 0, _, _ => rfl
  | n + 1, f, h => by
    show nn_sm n f + f n = 0
    rw [nn_sm_0 n (fun k hk => h k (by omega)), h n (by omega)]
    rfl
theorem nn_sm_one : ∀ (n : Nat) {f : Nat → Int} (i : Nat), i < n → (∀ k, k < n → k ≠ i → f k = 0) → nn_sm n f = f i
  | n + 1, f, i, hi, h => by
    show nn_sm n f + f n = f i
    by_cases hin : i = n
    · subst hin
      rw [nn_sm_0 i (fun k hk => h k (by omega) (by omega))]
      omega
    · rw [nn_sm_one n i (by omega) (fun k hk hne => h k (by omega) hne), h n (by omega) (by omega)]
      omega
theorem nn_sm_comm : ∀ (n m : Nat) (f : Nat → Nat → Int), nn_sm n (fun i => nn_sm m (fun j => f i j)) = nn_sm m (fun j => nn_sm n (fun i => f i j))
  | 0, m, f => (nn_sm_0 m (fun _ _ => rfl)).symm
  | n + 1, m, f => by
    show nn_sm n (fun i => nn_sm m (fun j => f i j)) + nn_sm m (fun j => f n j) = nn_sm m (fun j => nn_sm n (fun i => f i j) + f n j)
    rw [nn_sm_add, nn_sm_comm n m f]
/-- equal modulo p -/
def nn_eq (p x y : Int) : Prop := (x - y) % p = 0
theorem nn_eq_iff {p x y : Int} : nn_eq p x y ↔ x % p = y % p := Int.emod_eq_emod_iff_emod_sub_eq_zero.symm
theorem nn_eq_rfl (p x : Int) : nn_eq p x x := by unfold nn_eq; rw [Int.sub_self]; exact Int.zero_emod p
theorem nn_eq_symm {p x y : Int} (h : nn_eq p x y) : nn_eq p y x := nn_eq_iff.mpr (nn_eq_iff.mp h).symm
theorem nn_eq_trans {p x y z : Int} (h : nn_eq p x y) (h2 : nn_eq p y z) : nn_eq p x z := nn_eq_iff.mpr ((nn_eq_iff.mp h).trans (nn_eq_iff.mp h2))
theorem nn_eq_add {p x y z w : Int} (h : nn_eq p x y) (h2 : nn_eq p z w) : nn_eq p (x + z) (y + w) := by
  rw [nn_eq_iff] at *
  rw [Int.add_emod, h, h2, ← Int.add_emod]
theorem nn_eq_mul {p x y z w : Int} (h : nn_eq p x y) (h2 : nn_eq p z w) : nn_eq p (x * z) (y * w) := by
  rw [nn_eq_iff] at *
  rw [Int.mul_emod, h, h2, ← Int.mul_emod]
theorem nn_eq_sub {p x y z w : Int} (h : nn_eq p x y) (h2 : nn_eq p z w) : nn_eq p (x - z) (y - w) := by
  rw [nn_eq_iff] at *
  rw [Int.sub_emod, h, h2, ← Int.sub_emod]
theorem nn_eq_mod (p x : Int) : nn_eq p (x % p) x := nn_eq_iff.mpr (Int.emod_emod x p)
theorem nn_eq_sm {p : Int} : ∀ (n : Nat) {f g : Nat → Int}, (∀ k, k < n → nn_eq p (f k) (g k)) → nn_eq p (nn_sm n f) (nn_sm n g)
  | 0, _, _, _ => nn_eq_rfl p 0
  | n + 1, f, g, h => nn_eq_add (nn_eq_sm n (fun k hk => h k (by omega))) (h n (by omega))
theorem nn_eq_red {p x y : Int} (h : nn_eq p x y) (hx : 0 ≤ x ∧ x < p) (hy : 0 ≤ y ∧ y < p) : x = y := by
  rw [nn_eq_iff, Int.emod_eq_of_lt hx.1 hx.2, Int.emod_eq_of_lt hy.1 hy.2] at h
  exact h
