/-! dimensions: linear maps, images, kernels -/
/-- a linear map from w coordinates to v -/
def zl_lin (p : Int) (w v : Nat) (φ : ln_V → ln_V) : Prop := (∀ x y, ln_eq p v (φ (fun c => x c + y c)) (fun c => φ x c + φ y c)) ∧ (∀ a x, ln_eq p v (φ (fun c => a * x c)) (fun c => a * φ x c)) ∧ ∀ x y, ln_eq p w x y → ln_eq p v (φ x) (φ y)
/-- the dimension of a subspace -/
def zq_dim (p : Int) (w : Nat) (U : ln_P) (d : Nat) : Prop := ∃ R, ds_is p w R U ∧ ln_ct R w = d
section ZDM
variable {p : Int} {w v : Nat} {φ ψ : ln_V → ln_V} {U V K I : ln_P} {d e k i : Nat}
theorem zl_0 (h : zl_lin p w v φ) : ln_eq p v (φ (fun _ => 0)) (fun _ => 0) := by
  intro c hc
  have h1 : nn_eq p (φ (fun _ => 0) c) (0 * φ (fun _ => 0) c) := h.2.1 0 (fun _ => 0) c hc
  rw [Int.zero_mul] at h1
  exact h1
theorem zl_pre (h : zl_lin p w v φ) {W : ln_P} (hW : ln_sub p v W) : ln_sub p w (fun x => W (φ x)) :=
  ⟨hW.2.2.2 _ _ (ln_eq_symm (zl_0 h)) hW.1, fun x y hx hy => hW.2.2.2 _ _ (ln_eq_symm (h.1 x y)) (hW.2.1 _ _ hx hy), fun a x hx => hW.2.2.2 _ _ (ln_eq_symm (h.2.1 a x)) (hW.2.2.1 a _ hx), fun x y e hx => hW.2.2.2 _ _ (h.2.2 x y e) hx⟩
theorem zl_sm (h : zl_lin p w v φ) (R : Nat → ln_V) (a : Nat → Int) : ∀ n, ln_eq p v (φ (fun c => nn_sm n (fun r => a r * R r c))) (fun c => nn_sm n (fun r => a r * φ (R r) c))
  | 0 => zl_0 h
  | n + 1 => fun c hc => nn_eq_trans (h.1 (fun c => nn_sm n (fun r => a r * R r c)) (fun c => a n * R n c) c hc) (nn_eq_add (zl_sm h R a n c hc) (h.2.1 (a n) (R n) c hc))
theorem zq_one (hp : nn_p p) (h : zq_dim p w U d) (h' : zq_dim p w U e) : d = e := by
  obtain ⟨R, r, rfl⟩ := h
  obtain ⟨R', r', rfl⟩ := h'
  exact ct_one hp r r'
theorem zq_le (hp : nn_p p) (h : zq_dim p w U d) (h' : zq_dim p w V e) (hs : ∀ x, U x → V x) : d ≤ e := by
  have hp2 := (nn_p_pos hp).2.1
  obtain ⟨R, r, rfl⟩ := h
  obtain ⟨R', r', rfl⟩ := h'
  exact (ln_dim r.1 r'.1 (by omega) (fun x hx => (r'.2 x).mpr (hs x ((r.2 x).mp hx)))).1
theorem zq_iff (h : ∀ x, U x ↔ V x) (hd : zq_dim p w U d) : zq_dim p w V d := by
  obtain ⟨R, r, e⟩ := hd
  exact ⟨R, ⟨r.1, fun x => (r.2 x).trans (h x)⟩, e⟩
theorem zq_w (h : zq_dim p w U d) : d ≤ w := by
  obtain ⟨R, r, rfl⟩ := h
  exact ln_ct_w R w
theorem zq_sub (h : zq_dim p w U d) : ln_sub p w U := by
  obtain ⟨R, r, -⟩ := h
  have hs := ln_in_sub (p := p) (w := w) R
  exact ⟨(r.2 _).mp hs.1, fun x y hx hy => (r.2 _).mp (hs.2.1 x y ((r.2 x).mpr hx) ((r.2 y).mpr hy)), fun a x hx => (r.2 _).mp (hs.2.2.1 a x ((r.2 x).mpr hx)), fun x y e hx => (r.2 _).mp (hs.2.2.2 x y e ((r.2 x).mpr hx))⟩
theorem zq_all (hp : nn_p p) : zq_dim p w (fun _ => True) w := ⟨ln_e, ⟨ln_R_e hp, fun x => ⟨fun _ => trivial, fun _ => ln_in_e x⟩⟩, ln_ct_e w⟩
theorem zq_ex (hp : nn_p p) (hU : ln_sub p w U) : ∃ d, zq_dim p w U d := by
  have key : ∀ (m : Nat) (R : Nat → ln_V), ln_R p w R → ln_g w R U → ln_ct R w + m = w → ∃ d, zq_dim p w U d := by
    intro m
    induction m with
    | zero =>
      intro R hR hg hm
      by_cases h : ∀ x, U x → ln_in p w R x
      · exact ⟨_, R, ⟨hR, fun x => ⟨fun hx => ln_in_W hU hg hx, h x⟩⟩, rfl⟩
      · exfalso
        refine h (fun x hx => Classical.byContradiction fun hn => ?_)
        obtain ⟨R', b, hj⟩ := ln_join_ex hR hp x
        have hb := hj.2.2.2.1.mpr hn
        have h3 := hj.2.2.1
        rw [hb, if_pos rfl] at h3
        have := ln_ct_w R' w
        omega
    | succ m ih =>
      intro R hR hg hm
      by_cases h : ∀ x, U x → ln_in p w R x
      · exact ⟨_, R, ⟨hR, fun x => ⟨fun hx => ln_in_W hU hg hx, h x⟩⟩, rfl⟩
      · have hex : ∃ x, U x ∧ ¬ ln_in p w R x := Classical.byContradiction fun hn => h (fun x hx => Classical.byContradiction fun hx2 => hn ⟨x, hx, hx2⟩)
        obtain ⟨x, hx, hn⟩ := hex
        obtain ⟨R', b, hj⟩ := ln_join_ex hR hp x
        have hb := hj.2.2.2.1.mpr hn
        have h3 := hj.2.2.1
        rw [hb, if_pos rfl] at h3
        exact ih R' hj.1 ((hj.2.1 U hU).mpr ⟨hg, hx⟩) (by omega)
  have hz : ∀ r c : Nat, (fun _ _ => 0 : Nat → ln_V) r c = 0 := fun _ _ => rfl
  refine key w (fun _ _ => 0) (fun r _ => ⟨fun c _ => ⟨Int.le_refl 0, (nn_p_pos hp).1⟩, Or.inl fun _ _ => rfl⟩) (fun r _ => hU.1) ?_
  rw [ln_ct_0 w (fun r _ => rfl)]
  omega
theorem zq_im (hp : nn_p p) (hφ : zl_lin p w v φ) (hU : zq_dim p w U d) (hV : zq_dim p v V e) (hs : ∀ y, V y → ∃ x, U x ∧ ln_eq p v y (φ x)) : e ≤ d := by
  have hp2 := (nn_p_pos hp).2.1
  obtain ⟨R, ⟨r1, r2⟩, rfl⟩ := hU
  obtain ⟨R', ⟨q1, q2⟩, rfl⟩ := hV
  obtain ⟨C, c1, c2, c3⟩ := ln_span_ex (N := v) hp (fun q => φ (R q)) R w
  have hC : ∀ q, q < w → R q q ≠ 0 → ln_in p v C (φ (R q)) := (c2 _ (ln_in_sub C)).mp (fun r hr => ln_in_row c1 hr)
  have P := zl_pre hφ (ln_in_sub (p := p) (w := v) C)
  refine Nat.le_trans (ln_dim q1 c1 (by omega) (fun y hy => ?_)).1 c3
  obtain ⟨x, hx, e⟩ := hs y ((q2 y).mp hy)
  refine (ln_in_sub C).2.2.2 _ _ (ln_eq_symm e) ?_
  refine ln_in_W P (fun r hr => ?_) ((r2 x).mpr hx)
  by_cases h0 : R r r = 0
  · exact P.2.2.2 _ _ (fun c hc => by rw [ln_R_zero r1 hr hc h0]; exact nn_eq_rfl p 0) P.1
  · exact hC r hr h0
theorem zq_iso (hp : nn_p p) (hφ : zl_lin p w v φ) (hψ : zl_lin p v w ψ) (h3 : ∀ y, ln_eq p v (φ (ψ y)) y) (h4 : ∀ x, ln_eq p w (ψ (φ x)) x) (h1 : ∀ x, U x → V (φ x)) (h2 : ∀ y, V y → U (ψ y)) (hU : zq_dim p w U d) (hV : zq_dim p v V e) : d = e :=
  Nat.le_antisymm (zq_im hp hψ hV hU (fun x hx => ⟨φ x, h1 x hx, ln_eq_symm (h4 x)⟩)) (zq_im hp hφ hU hV (fun y hy => ⟨ψ y, h2 y hy, ln_eq_symm (h3 y)⟩))
theorem zq_pos (h : zq_dim p w U d) {u : ln_V} (hu : U u) (hne : ¬ ∀ c, c < w → nn_eq p (u c) 0) : 1 ≤ d := by
  obtain ⟨R, ⟨r1, r2⟩, rfl⟩ := h
  refine Nat.one_le_iff_ne_zero.mpr (fun h0 => hne (fun c hc => ?_))
  have hin : nn_eq p (u c) (nn_sm w (fun r => u r * R r c)) := (r2 u).mpr hu c hc
  have hz := ln_ct_eq0 w h0
  rw [nn_sm_0 w (fun r hr => by rw [ln_R_zero r1 hr hc (hz r hr), Int.mul_zero])] at hin
  exact hin
theorem zq_zero (hp : nn_p p) (h : zq_dim p w U d) (h0 : ∀ x, U x → ∀ c, c < w → nn_eq p (x c) 0) : d = 0 := by
  obtain ⟨R, ⟨r1, r2⟩, rfl⟩ := h
  refine ln_ct_0 w (fun r hr => ?_)
  exact nn_eq_red (h0 _ ((r2 _).mp (ln_in_row r1 hr)) r hr) ((r1 r hr).1 r hr) ⟨Int.le_refl 0, (nn_p_pos hp).1⟩
def zc_n (R : Nat → ln_V) : Nat → ln_V := fun q c => if c = q then (if R q q = 0 then 1 else 0) else 0
theorem zc_ct (R : Nat → ln_V) : ∀ n, ln_ct (zc_n R) n + ln_ct R n = n
  | 0 => rfl
  | n + 1 => by
    have h9 := zc_ct R n
    have e : zc_n R n n = if R n n = 0 then 1 else 0 := if_pos rfl
    show ln_ct (zc_n R) n + (if zc_n R n n = 0 then 0 else 1) + (ln_ct R n + (if R n n = 0 then 0 else 1)) = n + 1
    by_cases h : R n n = 0
    · rw [if_pos h] at e
      rw [e, if_neg (by omega), if_pos h]
      omega
    · rw [if_neg h] at e
      rw [e, if_pos rfl, if_neg h]
      omega
theorem zq_rn1 (hp : nn_p p) (hφ : zl_lin p w v φ) (hK : zq_dim p w K k) (hKz : ∀ x, K x → ∀ c, c < v → nn_eq p (φ x c) 0) (hI : zq_dim p v I i) (hIs : ∀ y, I y → ∀ W, ln_sub p v W → (∀ x, W (φ x)) → W y) : k + i ≤ w := by
  have hp2 := (nn_p_pos hp).2.1
  obtain ⟨R, ⟨r1, r2⟩, rfl⟩ := hK
  obtain ⟨R', ⟨q1, q2⟩, rfl⟩ := hI
  obtain ⟨C, c1, c2, c3⟩ := ln_span_ex (N := v) hp (fun q => φ (ln_e q)) (zc_n R) w
  have hct := zc_ct R w
  have hC : ∀ q, q < w → zc_n R q q ≠ 0 → ln_in p v C (φ (ln_e q)) := (c2 _ (ln_in_sub C)).mp (fun r hr => ln_in_row c1 hr)
  have P := zl_pre hφ (ln_in_sub (p := p) (w := v) C)
  have hmem : ∀ x, ln_in p v C (φ x) := by
    intro x
    have h1 : ln_in p v C (φ (fun c => nn_sm w (fun r => x r * R r c))) := ln_sub_sm P x w (fun r hr => (ln_in_sub C).2.2.2 _ _ (fun c hc => nn_eq_symm (hKz _ ((r2 _).mp (ln_in_row r1 hr)) c hc)) (ln_in_sub C).1)
    have h2 : ln_in p v C (φ (fun c => nn_sm w (fun q => (x q - nn_sm w (fun r => x r * R r q)) * (if R q q = 0 then ln_e q else fun _ => 0 : ln_V) c))) := ln_sub_sm P (R := fun q => if R q q = 0 then ln_e q else fun _ => 0) (fun q => x q - nn_sm w (fun r => x r * R r q)) w (fun q hq => by
      show ln_in p v C (φ (if R q q = 0 then ln_e q else fun _ => 0))
      by_cases h0 : R q q = 0
      · rw [if_pos h0]
        refine hC q hq ?_
        show (if q = q then (if R q q = 0 then (1 : Int) else 0) else 0) ≠ 0
        rw [if_pos rfl, if_pos h0]
        omega
      · rw [if_neg h0]
        exact P.1)
    refine P.2.2.2 _ _ (fun c hc => ?_) (P.2.1 _ _ h1 h2)
    show nn_eq p (nn_sm w (fun r => x r * R r c) + nn_sm w (fun q => (x q - nn_sm w (fun r => x r * R r q)) * (if R q q = 0 then ln_e q else fun _ => 0 : ln_V) c)) (x c)
    have e9 := nn_sm_one w (f := fun q => (x q - nn_sm w (fun r => x r * R r q)) * (if R q q = 0 then ln_e q else fun _ => 0 : ln_V) c) c hc (fun q hq hne => by
      show (x q - nn_sm w (fun r => x r * R r q)) * (if R q q = 0 then ln_e q else fun _ => 0 : ln_V) c = 0
      by_cases h0 : R q q = 0
      · rw [if_pos h0, show ln_e q c = 0 from if_neg (Ne.symm hne), Int.mul_zero]
      · rw [if_neg h0, Int.mul_zero])
    rw [e9]
    show nn_eq p (nn_sm w (fun r => x r * R r c) + (x c - nn_sm w (fun r => x r * R r c)) * (if R c c = 0 then ln_e c else fun _ => 0 : ln_V) c) (x c)
    by_cases h0 : R c c = 0
    · rw [if_pos h0, show ln_e c c = 1 from if_pos rfl, Int.mul_one, show ∀ a b : Int, a + (b - a) = b from fun a b => by omega]
      exact nn_eq_rfl p _
    · rw [if_neg h0, ln_sm_lead r1 x hc h0, Int.mul_zero, Int.add_zero]
      exact nn_eq_rfl p _
  have hle := (ln_dim q1 c1 (by omega) (fun y hy => hIs y ((q2 y).mp hy) _ (ln_in_sub C) hmem)).1
  omega
def zc_2 (w : Nat) (R R' : Nat → ln_V) : Nat → ln_V := fun q c => if c = q then (if q < w then R q q else R' (q - w) (q - w)) else 0
theorem zc_2ct (R R' : Nat → ln_V) : ∀ m, ln_ct (zc_2 w R R') (w + m) = ln_ct R w + ln_ct R' m
  | 0 => by
    show ln_ct (zc_2 w R R') w = ln_ct R w + 0
    rw [Nat.add_zero]
    refine ln_ct_congr w (fun r hr => ?_)
    have e : zc_2 w R R' r r = R r r := by
      show (if r = r then (if r < w then R r r else R' (r - w) (r - w)) else 0) = _
      rw [if_pos rfl, if_pos hr]
    rw [e]
  | m + 1 => by
    have h9 := zc_2ct R R' m
    have e : zc_2 w R R' (w + m) (w + m) = R' m m := by
      show (if w + m = w + m then (if w + m < w then R (w + m) (w + m) else R' (w + m - w) (w + m - w)) else 0) = _
      rw [if_pos rfl, if_neg (by omega), Nat.add_sub_cancel_left]
    show ln_ct (zc_2 w R R') (w + m) + (if zc_2 w R R' (w + m) (w + m) = 0 then 0 else 1) = ln_ct R w + (ln_ct R' m + (if R' m m = 0 then 0 else 1))
    rw [e, h9]
    omega
theorem zq_rn2 (hp : nn_p p) (hφ : zl_lin p w v φ) (hK : zq_dim p w K k) (hKz : ∀ x, (∀ c, c < v → nn_eq p (φ x c) 0) → K x) (hI : zq_dim p v I i) (hIs : ∀ x, I (φ x)) (hIp : ∀ y, I y → ∃ x, ln_eq p v y (φ x)) : w ≤ k + i := by
  have hp2 := (nn_p_pos hp).2.1
  obtain ⟨R, ⟨r1, r2⟩, rfl⟩ := hK
  obtain ⟨R', ⟨q1, q2⟩, rfl⟩ := hI
  have hu : ∃ u : Nat → ln_V, ∀ r, r < v → ln_eq p v (R' r) (φ (u r)) := by
    have h : ∀ r : Nat, ∃ x : ln_V, r < v → ln_eq p v (R' r) (φ x) := fun r => by
      by_cases hr : r < v
      · obtain ⟨x, hx⟩ := hIp _ ((q2 _).mp (ln_in_row q1 hr))
        exact ⟨x, fun _ => hx⟩
      · exact ⟨fun _ => 0, fun z => absurd z hr⟩
    exact ⟨fun r => Classical.choose (h r), fun r => Classical.choose_spec (h r)⟩
  obtain ⟨u, hu⟩ := hu
  obtain ⟨C, c1, c2, c3⟩ := ln_span_ex (N := w) hp (fun q => if q < w then R q else u (q - w)) (zc_2 w R R') (w + v)
  rw [zc_2ct] at c3
  have hC : ∀ q, q < w + v → zc_2 w R R' q q ≠ 0 → ln_in p w C (if q < w then R q else u (q - w)) := (c2 _ (ln_in_sub C)).mp (fun r hr => ln_in_row c1 hr)
  have hC1 : ∀ q, q < w → ln_in p w C (R q) := fun q hq => by
    by_cases h0 : R q q = 0
    · exact (ln_in_sub C).2.2.2 _ _ (fun c hc => by rw [ln_R_zero r1 hq hc h0]; exact nn_eq_rfl p 0) (ln_in_sub C).1
    · have h9 := hC q (by omega) (by
        show (if q = q then (if q < w then R q q else R' (q - w) (q - w)) else 0) ≠ 0
        rw [if_pos rfl, if_pos hq]
        exact h0)
      rw [if_pos hq] at h9
      exact h9
  have hC2 : ∀ r, r < v → R' r r ≠ 0 → ln_in p w C (u r) := fun r hr h0 => by
    have h9 := hC (w + r) (by omega) (by
      show (if w + r = w + r then (if w + r < w then R (w + r) (w + r) else R' (w + r - w) (w + r - w)) else 0) ≠ 0
      rw [if_pos rfl, if_neg (by omega), Nat.add_sub_cancel_left]
      exact h0)
    rw [if_neg (by omega), Nat.add_sub_cancel_left] at h9
    exact h9
  have hall : ∀ x, ln_in p w C x := by
    intro x
    have hs : ln_in p w C (fun c => nn_sm v (fun r => (if R' r r = 0 then 0 else φ x r) * u r c)) := by
      have h9 := ln_sub_sm (ln_in_sub (p := p) (w := w) C) (R := fun r => if R' r r = 0 then fun _ => 0 else u r) (fun r => if R' r r = 0 then 0 else φ x r) v (fun r hr => by
        show ln_in p w C (if R' r r = 0 then fun _ => 0 else u r)
        by_cases h0 : R' r r = 0
        · rw [if_pos h0]
          exact (ln_in_sub C).1
        · rw [if_neg h0]
          exact hC2 r hr h0)
      refine (ln_in_sub C).2.2.2 _ _ (fun c hc => ?_) h9
      refine nn_eq_sm v (fun r hr => ?_)
      by_cases h0 : R' r r = 0
      · rw [if_pos h0, if_pos h0, Int.zero_mul, Int.zero_mul]
        exact nn_eq_rfl p 0
      · rw [if_neg h0, if_neg h0]
        exact nn_eq_rfl p _
    have hy : ln_in p w C (fun c => x c + (-1) * nn_sm v (fun r => (if R' r r = 0 then 0 else φ x r) * u r c)) := by
      refine ln_in_W (ln_in_sub C) hC1 ((r2 _).mpr (hKz _ (fun c hc => ?_)))
      have e1 := hφ.1 x (fun c => (-1) * nn_sm v (fun r => (if R' r r = 0 then 0 else φ x r) * u r c)) c hc
      have e2 := hφ.2.1 (-1) (fun c => nn_sm v (fun r => (if R' r r = 0 then 0 else φ x r) * u r c)) c hc
      have e3 := zl_sm hφ u (fun r => if R' r r = 0 then 0 else φ x r) v c hc
      have e4 : nn_eq p (nn_sm v (fun r => (if R' r r = 0 then 0 else φ x r) * φ (u r) c)) (nn_sm v (fun r => φ x r * R' r c)) := nn_eq_sm v (fun r hr => by
        by_cases h0 : R' r r = 0
        · rw [if_pos h0, ln_R_zero q1 hr hc h0, Int.zero_mul, Int.mul_zero]
          exact nn_eq_rfl p 0
        · rw [if_neg h0]
          exact nn_eq_mul (nn_eq_rfl p _) (nn_eq_symm (hu r hr c hc)))
      have e5 : nn_eq p (φ x c) (nn_sm v (fun r => φ x r * R' r c)) := (q2 _).mpr (hIs x) c hc
      have e6 : nn_eq p (φ (fun c => nn_sm v (fun r => (if R' r r = 0 then 0 else φ x r) * u r c)) c) (φ x c) := nn_eq_trans e3 (nn_eq_trans e4 (nn_eq_symm e5))
      have e7 := nn_eq_trans e1 (nn_eq_add (nn_eq_rfl p (φ x c)) (nn_eq_trans e2 (nn_eq_mul (nn_eq_rfl p (-1)) e6)))
      rw [show φ x c + -1 * φ x c = 0 by omega] at e7
      exact e7
    refine (ln_in_sub C).2.2.2 _ _ (fun c hc => ?_) ((ln_in_sub C).2.1 _ _ hy hs)
    show nn_eq p (x c + (-1) * nn_sm v (fun r => (if R' r r = 0 then 0 else φ x r) * u r c) + nn_sm v (fun r => (if R' r r = 0 then 0 else φ x r) * u r c)) (x c)
    rw [show ∀ a b : Int, a + (-1) * b + b = a from fun a b => by omega]
    exact nn_eq_rfl p _
  have hfull := (ln_full_ct (by omega) hall).2
  omega
/-- the kernel of a canonical matrix -/
theorem zq_ker (hp : nn_p p) {R : Nat → ln_V} (hR : ln_R p w R) (hK : zq_dim p w (ln_ker p w R) k) : k + ln_ct R w = w := by
  obtain ⟨hp1, hp2, hp3⟩ := nn_p_pos hp
  have hφ : zl_lin p w w (fun x r => nn_sm w (fun c => R r c * x c)) := by
    refine ⟨fun x y r hr => ?_, fun a x r hr => ?_, fun x y h r hr => ?_⟩
    · show nn_eq p (nn_sm w (fun c => R r c * (x c + y c))) (nn_sm w (fun c => R r c * x c) + nn_sm w (fun c => R r c * y c))
      rw [← nn_sm_add]
      refine nn_eq_sm w (fun c _ => ?_)
      rw [Int.mul_add]
      exact nn_eq_rfl p _
    · show nn_eq p (nn_sm w (fun c => R r c * (a * x c))) (a * nn_sm w (fun c => R r c * x c))
      rw [← nn_sm_mul]
      refine nn_eq_sm w (fun c _ => ?_)
      rw [Int.mul_left_comm]
      exact nn_eq_rfl p _
    · exact nn_eq_sm w (fun c hc => nn_eq_mul (nn_eq_rfl p _) (h c hc))
  have hd : ds_is p w (fun r c => if c = r then (if R r r = 0 then 0 else 1) else 0) (fun y => ∀ r, r < w → R r r = 0 → nn_eq p (y r) 0) := by
    refine ⟨fun r hr => ⟨fun c hc => ?_, ?_⟩, fun x => ?_⟩
    · show 0 ≤ (if c = r then (if R r r = 0 then (0 : Int) else 1) else 0) ∧ (if c = r then (if R r r = 0 then (0 : Int) else 1) else 0) < p
      split
      · split <;> omega
      · omega
    · by_cases h0 : R r r = 0
      · refine Or.inl fun c hc => ?_
        show (if c = r then (if R r r = 0 then (0 : Int) else 1) else 0) = 0
        rw [if_pos h0]
        split <;> rfl
      · refine Or.inr ⟨?_, fun c hc => ?_, fun q hq hne => ?_⟩
        · show (if r = r then (if R r r = 0 then (0 : Int) else 1) else 0) = 1
          rw [if_pos rfl, if_neg h0]
        · show (if c = r then (if R r r = 0 then (0 : Int) else 1) else 0) = 0
          rw [if_neg (by omega)]
        · show (if r = q then (if R q q = 0 then (0 : Int) else 1) else 0) = 0
          rw [if_neg (Ne.symm hne)]
    · have e : ∀ c, c < w → nn_sm w (fun r => x r * (if c = r then (if R r r = 0 then (0 : Int) else 1) else 0)) = x c * (if R c c = 0 then 0 else 1) := fun c hc => by
        rw [nn_sm_one w c hc (fun r _ hne => by rw [if_neg (Ne.symm hne), Int.mul_zero]), if_pos rfl]
      constructor
      · intro h r hr h0
        have h9 : nn_eq p (x r) (nn_sm w (fun q => x q * (if r = q then (if R q q = 0 then (0 : Int) else 1) else 0))) := h r hr
        rw [e r hr, if_pos h0, Int.mul_zero] at h9
        exact h9
      · intro h c hc
        show nn_eq p (x c) (nn_sm w (fun q => x q * (if c = q then (if R q q = 0 then (0 : Int) else 1) else 0)))
        rw [e c hc]
        by_cases h0 : R c c = 0
        · rw [if_pos h0, Int.mul_zero]
          exact h c hc h0
        · rw [if_neg h0, Int.mul_one]
          exact nn_eq_rfl p _
  have hct : ln_ct (fun r c => if c = r then (if R r r = 0 then (0 : Int) else 1) else 0) w = ln_ct R w := ln_ct_congr w (fun r hr => by
    show (if r = r then (if R r r = 0 then (0 : Int) else 1) else 0) = 0 ↔ _
    rw [if_pos rfl]
    by_cases h0 : R r r = 0
    · rw [if_pos h0]
      exact ⟨fun _ => h0, fun _ => rfl⟩
    · rw [if_neg h0]
      exact ⟨fun z => absurd z (by omega), fun z => absurd z h0⟩)
  have hp' : ∀ y : ln_V, (∀ r, r < w → R r r = 0 → nn_eq p (y r) 0) → ∃ x : ln_V, ln_eq p w y (fun r => nn_sm w (fun c => R r c * x c)) := by
    intro y hy
    refine ⟨fun c => if R c c = 0 then 0 else y c, fun r hr => ?_⟩
    show nn_eq p (y r) (nn_sm w (fun c => R r c * (if R c c = 0 then 0 else y c)))
    by_cases h0 : R r r = 0
    · rw [nn_sm_0 w (fun c hc => by rw [ln_R_zero hR hr hc h0, Int.zero_mul])]
      exact hy r hr h0
    · rw [nn_sm_one w r hr (fun c hc hne => by
        by_cases h1 : R c c = 0
        · rw [if_pos h1, Int.mul_zero]
        · rw [ln_R_col hR hc hr h1 (Ne.symm hne), Int.zero_mul]), if_neg h0, ln_R_one hR hr h0, Int.one_mul]
      exact nn_eq_rfl p _
  have a1 := zq_rn1 hp hφ hK (fun x hx c hc => hx c hc) ⟨_, hd, hct⟩ (fun y hy W hW h => by
    obtain ⟨x, hx⟩ := hp' y hy
    exact hW.2.2.2 _ _ (ln_eq_symm hx) (h x))
  have a2 := zq_rn2 hp hφ hK (fun x hx c hc => hx c hc) ⟨_, hd, hct⟩ (fun x r hr h0 => by
    show nn_eq p (nn_sm w (fun c => R r c * x c)) 0
    rw [nn_sm_0 w (fun c hc => by rw [ln_R_zero hR hr hc h0, Int.zero_mul])]
    exact nn_eq_rfl p 0) hp'
  omega
end ZDM
