/-! the histories of both sides, block by block -/
/-- block r of the class's shelf f and of the model's states h are one table -/
def hb_ok (p : Int) (N : Nat) (T : Nat → Nat → Nat → Int) (f h : Nat → Int) (r : Nat) : Prop := tt_ok p N T ∧ f (27 * r) = p ∧ f (27 * r + 1) = N ∧ tt_br p N T (fun q => f (27 * r + 2 + q)) ∧ st_m p N T (fun k => h (127 * r + k))
def hr_ok (D : Nat) (f h : Nat → Int) : Prop := ∀ r, r < D → ∃ p N T, hb_ok p N T f h r
/-- what remember() makes of the shelf -/
def hk_f (D : Nat) (f : Nat → Int) (p n : Int) (br : Nat → Int) : Nat → Int := if D = 6 then sh_k (va_cpy f f 27 0 135) 5 p n br else sh_k f D p n br
theorem sh_k_at (f : Nat → Int) (K : Nat) (p n : Int) (br : Nat → Int) (q : Nat) : sh_k f K p n br q = if 27 * K + 2 ≤ q ∧ q < 27 * K + 27 then br (q - (27 * K + 2)) else if q = 27 * K + 1 then n else if q = 27 * K then p else f q := by
  unfold sh_k va_cpy pj_up
  by_cases e : 27 * K + 2 ≤ q ∧ q < 27 * K + 27
  · rw [if_pos (by omega), if_pos e, Nat.zero_add]
  · rw [if_neg (by omega), if_neg e]
theorem hb_put {p n : Int} {N : Nat} {T : Nat → Nat → Nat → Int} {f h br s : Nat → Int} {K : Nat} (ht : tt_ok p N T) (hb : tt_br p N T br) (hn : n = N) (hs : st_m p N T s) (hh : ∀ k, k < 127 → h (127 * K + k) = s k) : hb_ok p N T (sh_k f K p n br) h K := by
  refine ⟨ht, ?_, ?_, fun i j hi hj => ?_, ?_, ?_, fun i j k hi hj hk => ?_⟩
  · rw [sh_k_at, if_neg (by omega), if_neg (by omega), if_pos rfl]
  · rw [sh_k_at, if_neg (by omega), if_pos rfl, hn]
  · show sh_k f K p n br (27 * K + 2 + (5 * i + j)) = _
    rw [sh_k_at, if_pos (by omega), show 27 * K + 2 + (5 * i + j) - (27 * K + 2) = 5 * i + j by omega]
    exact hb i j hi hj
  · show h (127 * K + 0) = p
    rw [hh 0 (by omega)]
    exact hs.1
  · show h (127 * K + 1) = N
    rw [hh 1 (by omega)]
    exact hs.2.1
  · show h (127 * K + (2 + 5 * (5 * i + j) + k)) = T i j k
    rw [hh _ (by omega)]
    exact hs.2.2 i j k hi hj hk
theorem hb_same {p : Int} {N : Nat} {T : Nat → Nat → Nat → Int} {f h f' h' : Nat → Int} {r r' : Nat} (hb : hb_ok p N T f h r) (hf : ∀ q, q < 27 → f' (27 * r' + q) = f (27 * r + q)) (hh : ∀ k, k < 127 → h' (127 * r' + k) = h (127 * r + k)) : hb_ok p N T f' h' r' := by
  obtain ⟨ht, h0, h1, h2, h3, h4, h5⟩ := hb
  refine ⟨ht, ?_, ?_, fun i j hi hj => ?_, ?_, ?_, fun i j k hi hj hk => ?_⟩
  · have h9 := hf 0 (by omega)
    rw [Nat.add_zero, Nat.add_zero] at h9
    rw [h9, h0]
  · rw [hf 1 (by omega), h1]
  · show f' (27 * r' + 2 + (5 * i + j)) = _
    rw [Nat.add_assoc, hf (2 + (5 * i + j)) (by omega), ← Nat.add_assoc]
    exact h2 i j hi hj
  · show h' (127 * r' + 0) = p
    rw [hh 0 (by omega)]
    exact h3
  · show h' (127 * r' + 1) = N
    rw [hh 1 (by omega)]
    exact h4
  · show h' (127 * r' + (2 + 5 * (5 * i + j) + k)) = T i j k
    rw [hh _ (by omega)]
    exact h5 i j k hi hj hk
/-- both sides remember the state -/
theorem hr_push {p n : Int} {N : Nat} {T : Nat → Nat → Nat → Int} {f h h' br s : Nat → Int} {D : Nat} (ht : tt_ok p N T) (hb : tt_br p N T br) (hn : n = N) (hs : st_m p N T s) (hD : D ≤ 6) (hr : hr_ok D f h) (hk : kp_is D s h h') : hr_ok (if D = 6 then 6 else D + 1) (hk_f D f p n br) h' := by
  unfold kp_is at hk
  unfold hk_f
  by_cases e : D = 6
  · rw [if_pos e] at hk ⊢
    rw [if_pos e]
    intro r hr6
    by_cases e5 : r = 5
    · rw [e5]
      exact ⟨p, N, T, hb_put ht hb hn hs (fun k hk' => hk.1 k hk')⟩
    · obtain ⟨p', N', T', h9⟩ := hr (r + 1) (by omega)
      refine ⟨p', N', T', hb_same h9 (fun q hq => ?_) (fun k hk' => ?_)⟩
      · rw [sh_k_at, if_neg (by omega), if_neg (by omega), if_neg (by omega)]
        unfold va_cpy
        rw [if_pos (by omega), show 27 + (27 * r + q - 0) = 27 * (r + 1) + q by omega]
      · rw [hk.2 _ (by omega), show 127 + (127 * r + k) = 127 * (r + 1) + k by omega]
  · rw [if_neg e] at hk ⊢
    rw [if_neg e]
    intro r hrD
    by_cases e5 : r = D
    · rw [e5]
      exact ⟨p, N, T, hb_put ht hb hn hs (fun k hk' => hk.1 k hk')⟩
    · obtain ⟨p', N', T', h9⟩ := hr r (by omega)
      refine ⟨p', N', T', hb_same h9 (fun q hq => ?_) (fun k hk' => ?_)⟩
      · rw [sh_k_at, if_neg (by omega), if_neg (by omega), if_neg (by omega)]
      · rw [hk.2 _ (by omega)]
theorem hr_less {f h : Nat → Int} {D E : Nat} (hr : hr_ok D f h) (h1 : E ≤ D) : hr_ok E f h := fun r h2 => hr r (by omega)
/-- a block fetched -/
theorem hb_get {p : Int} {N : Nat} {T : Nat → Nat → Nat → Int} {f h br s' : Nat → Int} {r : Nat} (hb : hb_ok p N T f h r) (hs : ∀ k, k < 127 → s' k = h (127 * r + k)) : tt_br p N T (va_cpy f br (27 * r + 2) 0 25) ∧ st_m p N T s' := by
  obtain ⟨ht, h0, h1, h2, h3, h4, h5⟩ := hb
  refine ⟨fun i j hi hj => ?_, ?_, ?_, fun i j k hi hj hk => ?_⟩
  · unfold va_cpy
    rw [if_pos (by omega), show 27 * r + 2 + (5 * i + j - 0) = 27 * r + 2 + (5 * i + j) by omega]
    exact h2 i j hi hj
  · rw [hs 0 (by omega)]
    exact h3
  · rw [hs 1 (by omega)]
    exact h4
  · rw [hs _ (by omega)]
    exact h5 i j k hi hj hk
/-- the two snapshots -/
def sn_ok (fs sl sv : Nat → Int) : Prop := ∀ r, r < 2 → (sv r = 0 ∧ fs (27 * r) = 0) ∨ (sv r = 1 ∧ ∃ p N T, hb_ok p N T fs sl r)
theorem sn_put {p n : Int} {N : Nat} {T : Nat → Nat → Nat → Int} {fs sl sl' sv br s : Nat → Int} {Z : Nat} (ht : tt_ok p N T) (hb : tt_br p N T br) (hn : n = N) (hs : st_m p N T s) (hr : sn_ok fs sl sv) (h : ∀ q, sl' q = if 127 * Z ≤ q ∧ q < 127 * Z + 127 then s (q - 127 * Z) else sl q) : sn_ok (sh_k fs Z p n br) sl' (pj_up sv Z 1) := by
  intro r hr2
  unfold pj_up
  by_cases e : r = Z
  · rw [e, if_pos rfl]
    exact Or.inr ⟨rfl, p, N, T, hb_put ht hb hn hs (fun k hk => by rw [h, if_pos (by omega), show 127 * Z + k - 127 * Z = k by omega])⟩
  · rw [if_neg e]
    rcases hr r hr2 with ⟨a, b⟩ | ⟨a, p', N', T', h9⟩
    · refine Or.inl ⟨a, ?_⟩
      rw [sh_k_at, if_neg (by omega), if_neg (by omega), if_neg (by omega)]
      exact b
    · refine Or.inr ⟨a, p', N', T', hb_same h9 (fun q hq => ?_) (fun k hk => ?_)⟩
      · rw [sh_k_at, if_neg (by omega), if_neg (by omega), if_neg (by omega)]
      · rw [h, if_neg (by omega)]
