set_option maxRecDepth 100000 in
theorem kn_Change_init : ∀ pc e, kc_Change_init pc = some e → pj_okE 0 pc e = true := pj_fin 35 (by decide +kernel) (fun pc h => by show cond (Nat.ble 35 pc) none _ = none; rw [Nat.ble_eq_true_of_le h]; rfl)
set_option maxRecDepth 100000 in
theorem kn_Change_add : ∀ pc e, kc_Change_add pc = some e → pj_okE 1 pc e = true := pj_fin 74 (by decide +kernel) (fun pc h => by show cond (Nat.ble 74 pc) none _ = none; rw [Nat.ble_eq_true_of_le h]; rfl)
set_option maxRecDepth 100000 in
theorem kn_Change_begin : ∀ pc e, kc_Change_begin pc = some e → pj_okE 2 pc e = true := pj_fin 52 (by decide +kernel) (fun pc h => by show cond (Nat.ble 52 pc) none _ = none; rw [Nat.ble_eq_true_of_le h]; rfl)
set_option maxRecDepth 100000 in
theorem kn_Change_apply : ∀ pc e, kc_Change_apply pc = some e → pj_okE 3 pc e = true := pj_fin 111 (by decide +kernel) (fun pc h => by show cond (Nat.ble 111 pc) none _ = none; rw [Nat.ble_eq_true_of_le h]; rfl)
set_option maxRecDepth 100000 in
theorem kn_Change_rewrite : ∀ pc e, kc_Change_rewrite pc = some e → pj_okE 4 pc e = true := pj_fin 49 (by decide +kernel) (fun pc h => by show cond (Nat.ble 49 pc) none _ = none; rw [Nat.ble_eq_true_of_le h]; rfl)
set_option maxRecDepth 100000 in
theorem kn_Change_scale : ∀ pc e, kc_Change_scale pc = some e → pj_okE 5 pc e = true := pj_fin 55 (by decide +kernel) (fun pc h => by show cond (Nat.ble 55 pc) none _ = none; rw [Nat.ble_eq_true_of_le h]; rfl)
set_option maxRecDepth 100000 in
theorem kn_Change_exchange : ∀ pc e, kc_Change_exchange pc = some e → pj_okE 6 pc e = true := pj_fin 73 (by decide +kernel) (fun pc h => by show cond (Nat.ble 73 pc) none _ = none; rw [Nat.ble_eq_true_of_le h]; rfl)
set_option maxRecDepth 100000 in
theorem kn_Maps_init : ∀ pc e, kc_Maps_init pc = some e → pj_okE 7 pc e = true := pj_fin 35 (by decide +kernel) (fun pc h => by show cond (Nat.ble 35 pc) none _ = none; rw [Nat.ble_eq_true_of_le h]; rfl)
set_option maxRecDepth 100000 in
theorem kn_Maps_radicalSize : ∀ pc e, kc_Maps_radicalSize pc = some e → pj_okE 8 pc e = true := pj_fin 111 (by decide +kernel) (fun pc h => by show cond (Nat.ble 111 pc) none _ = none; rw [Nat.ble_eq_true_of_le h]; rfl)
set_option maxRecDepth 100000 in
theorem kn_Maps_trace : ∀ pc e, kc_Maps_trace pc = some e → pj_okE 9 pc e = true := pj_fin 73 (by decide +kernel) (fun pc h => by show cond (Nat.ble 73 pc) none _ = none; rw [Nat.ble_eq_true_of_le h]; rfl)
set_option maxRecDepth 100000 in
theorem kn_Maps_derivationCount : ∀ pc e, kc_Maps_derivationCount pc = some e → pj_okE 10 pc e = true := pj_fin 119 (by decide +kernel) (fun pc h => by show cond (Nat.ble 119 pc) none _ = none; rw [Nat.ble_eq_true_of_le h]; rfl)
set_option maxRecDepth 100000 in
theorem kn_Maps_addDerivationRule : ∀ pc e, kc_Maps_addDerivationRule pc = some e → pj_okE 11 pc e = true := pj_fin 128 (by decide +kernel) (fun pc h => by show cond (Nat.ble 128 pc) none _ = none; rw [Nat.ble_eq_true_of_le h]; rfl)
set_option maxRecDepth 100000 in
theorem kn_Maps_unknown : ∀ pc e, kc_Maps_unknown pc = some e → pj_okE 12 pc e = true := pj_fin 12 (by decide +kernel) (fun pc h => by show cond (Nat.ble 12 pc) none _ = none; rw [Nat.ble_eq_true_of_le h]; rfl)
set_option maxRecDepth 100000 in
theorem kn_Script_init : ∀ pc e, kc_Script_init pc = some e → pj_okE 13 pc e = true := pj_fin 24 (by decide +kernel) (fun pc h => by show cond (Nat.ble 24 pc) none _ = none; rw [Nat.ble_eq_true_of_le h]; rfl)
set_option maxRecDepth 100000 in
theorem kn_Shelf_init : ∀ pc e, kc_Shelf_init pc = some e → pj_okE 14 pc e = true := pj_fin 32 (by decide +kernel) (fun pc h => by show cond (Nat.ble 32 pc) none _ = none; rw [Nat.ble_eq_true_of_le h]; rfl)
set_option maxRecDepth 100000 in
theorem kn_Shelf_dropFirst : ∀ pc e, kc_Shelf_dropFirst pc = some e → pj_okE 15 pc e = true := pj_fin 23 (by decide +kernel) (fun pc h => by show cond (Nat.ble 23 pc) none _ = none; rw [Nat.ble_eq_true_of_le h]; rfl)
set_option maxRecDepth 100000 in
theorem kn_Shelf_keep : ∀ pc e, kc_Shelf_keep pc = some e → pj_okE 16 pc e = true := pj_fin 58 (by decide +kernel) (fun pc h => by show cond (Nat.ble 58 pc) none _ = none; rw [Nat.ble_eq_true_of_le h]; rfl)
set_option maxRecDepth 100000 in
theorem kn_Shelf_fetch : ∀ pc e, kc_Shelf_fetch pc = some e → pj_okE 17 pc e = true := pj_fin 58 (by decide +kernel) (fun pc h => by show cond (Nat.ble 58 pc) none _ = none; rw [Nat.ble_eq_true_of_le h]; rfl)
set_option maxRecDepth 100000 in
theorem kn_Shelf_isEmpty : ∀ pc e, kc_Shelf_isEmpty pc = some e → pj_okE 18 pc e = true := pj_fin 20 (by decide +kernel) (fun pc h => by show cond (Nat.ble 20 pc) none _ = none; rw [Nat.ble_eq_true_of_le h]; rfl)
set_option maxRecDepth 100000 in
theorem kn_Spaces_init : ∀ pc e, kc_Spaces_init pc = some e → pj_okE 19 pc e = true := pj_fin 46 (by decide +kernel) (fun pc h => by show cond (Nat.ble 46 pc) none _ = none; rw [Nat.ble_eq_true_of_le h]; rfl)
set_option maxRecDepth 100000 in
theorem kn_Spaces_derived : ∀ pc e, kc_Spaces_derived pc = some e → pj_okE 20 pc e = true := pj_fin 7 (by decide +kernel) (fun pc h => by show cond (Nat.ble 7 pc) none _ = none; rw [Nat.ble_eq_true_of_le h]; rfl)
set_option maxRecDepth 100000 in
theorem kn_Spaces_descend : ∀ pc e, kc_Spaces_descend pc = some e → pj_okE 21 pc e = true := pj_fin 120 (by decide +kernel) (fun pc h => by show cond (Nat.ble 120 pc) none _ = none; rw [Nat.ble_eq_true_of_le h]; rfl)
set_option maxRecDepth 100000 in
theorem kn_Spaces_fill : ∀ pc e, kc_Spaces_fill pc = some e → pj_okE 22 pc e = true := pj_fin 55 (by decide +kernel) (fun pc h => by show cond (Nat.ble 55 pc) none _ = none; rw [Nat.ble_eq_true_of_le h]; rfl)
set_option maxRecDepth 100000 in
theorem kn_Spaces_addProducts : ∀ pc e, kc_Spaces_addProducts pc = some e → pj_okE 23 pc e = true := pj_fin 96 (by decide +kernel) (fun pc h => by show cond (Nat.ble 96 pc) none _ = none; rw [Nat.ble_eq_true_of_le h]; rfl)
set_option maxRecDepth 100000 in
theorem kn_Spaces_lowerCentral : ∀ pc e, kc_Spaces_lowerCentral pc = some e → pj_okE 24 pc e = true := pj_fin 7 (by decide +kernel) (fun pc h => by show cond (Nat.ble 7 pc) none _ = none; rw [Nat.ble_eq_true_of_le h]; rfl)
set_option maxRecDepth 100000 in
theorem kn_Spaces_center : ∀ pc e, kc_Spaces_center pc = some e → pj_okE 25 pc e = true := pj_fin 127 (by decide +kernel) (fun pc h => by show cond (Nat.ble 127 pc) none _ = none; rw [Nat.ble_eq_true_of_le h]; rfl)
set_option maxRecDepth 100000 in
theorem kn_Spaces_bracketsWith : ∀ pc e, kc_Spaces_bracketsWith pc = some e → pj_okE 26 pc e = true := pj_fin 73 (by decide +kernel) (fun pc h => by show cond (Nat.ble 73 pc) none _ = none; rw [Nat.ble_eq_true_of_le h]; rfl)
set_option maxRecDepth 100000 in
theorem kn_Spaces_ideal : ∀ pc e, kc_Spaces_ideal pc = some e → pj_okE 27 pc e = true := pj_fin 59 (by decide +kernel) (fun pc h => by show cond (Nat.ble 59 pc) none _ = none; rw [Nat.ble_eq_true_of_le h]; rfl)
set_option maxRecDepth 100000 in
theorem kn_Spaces_close : ∀ pc e, kc_Spaces_close pc = some e → pj_okE 28 pc e = true := pj_fin 36 (by decide +kernel) (fun pc h => by show cond (Nat.ble 36 pc) none _ = none; rw [Nat.ble_eq_true_of_le h]; rfl)
set_option maxRecDepth 100000 in
theorem kn_Spaces_subalgebra : ∀ pc e, kc_Spaces_subalgebra pc = some e → pj_okE 29 pc e = true := pj_fin 64 (by decide +kernel) (fun pc h => by show cond (Nat.ble 64 pc) none _ = none; rw [Nat.ble_eq_true_of_le h]; rfl)
set_option maxRecDepth 100000 in
theorem kn_Subspace_init : ∀ pc e, kc_Subspace_init pc = some e → pj_okE 30 pc e = true := pj_fin 41 (by decide +kernel) (fun pc h => by show cond (Nat.ble 41 pc) none _ = none; rw [Nat.ble_eq_true_of_le h]; rfl)
set_option maxRecDepth 100000 in
theorem kn_Subspace_begin : ∀ pc e, kc_Subspace_begin pc = some e → pj_okE 31 pc e = true := pj_fin 35 (by decide +kernel) (fun pc h => by show cond (Nat.ble 35 pc) none _ = none; rw [Nat.ble_eq_true_of_le h]; rfl)
set_option maxRecDepth 100000 in
theorem kn_Subspace_join : ∀ pc e, kc_Subspace_join pc = some e → pj_okE 32 pc e = true := pj_fin 32 (by decide +kernel) (fun pc h => by show cond (Nat.ble 32 pc) none _ = none; rw [Nat.ble_eq_true_of_le h]; rfl)
set_option maxRecDepth 100000 in
theorem kn_Subspace_addIncoming : ∀ pc e, kc_Subspace_addIncoming pc = some e → pj_okE 33 pc e = true := pj_fin 63 (by decide +kernel) (fun pc h => by show cond (Nat.ble 63 pc) none _ = none; rw [Nat.ble_eq_true_of_le h]; rfl)
set_option maxRecDepth 100000 in
theorem kn_Subspace_takeIncoming : ∀ pc e, kc_Subspace_takeIncoming pc = some e → pj_okE 34 pc e = true := pj_fin 163 (by decide +kernel) (fun pc h => by show cond (Nat.ble 163 pc) none _ = none; rw [Nat.ble_eq_true_of_le h]; rfl)
set_option maxRecDepth 100000 in
theorem kn_Subspace_hasLead : ∀ pc e, kc_Subspace_hasLead pc = some e → pj_okE 35 pc e = true := pj_fin 37 (by decide +kernel) (fun pc h => by show cond (Nat.ble 37 pc) none _ = none; rw [Nat.ble_eq_true_of_le h]; rfl)
set_option maxRecDepth 100000 in
theorem kn_Subspace_cell : ∀ pc e, kc_Subspace_cell pc = some e → pj_okE 36 pc e = true := pj_fin 33 (by decide +kernel) (fun pc h => by show cond (Nat.ble 33 pc) none _ = none; rw [Nat.ble_eq_true_of_le h]; rfl)
set_option maxRecDepth 100000 in
theorem kn_Subspace_addRow : ∀ pc e, kc_Subspace_addRow pc = some e → pj_okE 37 pc e = true := pj_fin 121 (by decide +kernel) (fun pc h => by show cond (Nat.ble 121 pc) none _ = none; rw [Nat.ble_eq_true_of_le h]; rfl)
set_option maxRecDepth 100000 in
theorem kn_Subspace_vector : ∀ pc e, kc_Subspace_vector pc = some e → pj_okE 38 pc e = true := pj_fin 43 (by decide +kernel) (fun pc h => by show cond (Nat.ble 43 pc) none _ = none; rw [Nat.ble_eq_true_of_le h]; rfl)
set_option maxRecDepth 100000 in
theorem kn_Subspace_rowAsVector : ∀ pc e, kc_Subspace_rowAsVector pc = some e → pj_okE 39 pc e = true := pj_fin 43 (by decide +kernel) (fun pc h => by show cond (Nat.ble 43 pc) none _ = none; rw [Nat.ble_eq_true_of_le h]; rfl)
set_option maxRecDepth 100000 in
theorem kn_Subspace_solveInto : ∀ pc e, kc_Subspace_solveInto pc = some e → pj_okE 40 pc e = true := pj_fin 79 (by decide +kernel) (fun pc h => by show cond (Nat.ble 79 pc) none _ = none; rw [Nat.ble_eq_true_of_le h]; rfl)
set_option maxRecDepth 100000 in
theorem kn_Table_init : ∀ pc e, kc_Table_init pc = some e → pj_okE 41 pc e = true := pj_fin 23 (by decide +kernel) (fun pc h => by show cond (Nat.ble 23 pc) none _ = none; rw [Nat.ble_eq_true_of_le h]; rfl)
set_option maxRecDepth 100000 in
theorem kn_Table_begin : ∀ pc e, kc_Table_begin pc = some e → pj_okE 42 pc e = true := pj_fin 19 (by decide +kernel) (fun pc h => by show cond (Nat.ble 19 pc) none _ = none; rw [Nat.ble_eq_true_of_le h]; rfl)
set_option maxRecDepth 100000 in
theorem kn_Table_vectorCount : ∀ pc e, kc_Table_vectorCount pc = some e → pj_okE 43 pc e = true := pj_fin 9 (by decide +kernel) (fun pc h => by show cond (Nat.ble 9 pc) none _ = none; rw [Nat.ble_eq_true_of_le h]; rfl)
set_option maxRecDepth 100000 in
theorem kn_Table_power : ∀ pc e, kc_Table_power pc = some e → pj_okE 44 pc e = true := pj_fin 29 (by decide +kernel) (fun pc h => by show cond (Nat.ble 29 pc) none _ = none; rw [Nat.ble_eq_true_of_le h]; rfl)
set_option maxRecDepth 100000 in
theorem kn_Table_hasPair : ∀ pc e, kc_Table_hasPair pc = some e → pj_okE 45 pc e = true := pj_fin 27 (by decide +kernel) (fun pc h => by show cond (Nat.ble 27 pc) none _ = none; rw [Nat.ble_eq_true_of_le h]; rfl)
set_option maxRecDepth 100000 in
theorem kn_Table_hasIndex : ∀ pc e, kc_Table_hasIndex pc = some e → pj_okE 46 pc e = true := pj_fin 18 (by decide +kernel) (fun pc h => by show cond (Nat.ble 18 pc) none _ = none; rw [Nat.ble_eq_true_of_le h]; rfl)
set_option maxRecDepth 100000 in
theorem kn_Table_hasVector : ∀ pc e, kc_Table_hasVector pc = some e → pj_okE 47 pc e = true := pj_fin 18 (by decide +kernel) (fun pc h => by show cond (Nat.ble 18 pc) none _ = none; rw [Nat.ble_eq_true_of_le h]; rfl)
set_option maxRecDepth 100000 in
theorem kn_Table_entry : ∀ pc e, kc_Table_entry pc = some e → pj_okE 48 pc e = true := pj_fin 13 (by decide +kernel) (fun pc h => by show cond (Nat.ble 13 pc) none _ = none; rw [Nat.ble_eq_true_of_le h]; rfl)
set_option maxRecDepth 100000 in
theorem kn_Table_setEntry : ∀ pc e, kc_Table_setEntry pc = some e → pj_okE 49 pc e = true := pj_fin 33 (by decide +kernel) (fun pc h => by show cond (Nat.ble 33 pc) none _ = none; rw [Nat.ble_eq_true_of_le h]; rfl)
set_option maxRecDepth 100000 in
theorem kn_Table_plus : ∀ pc e, kc_Table_plus pc = some e → pj_okE 50 pc e = true := pj_fin 106 (by decide +kernel) (fun pc h => by show cond (Nat.ble 106 pc) none _ = none; rw [Nat.ble_eq_true_of_le h]; rfl)
set_option maxRecDepth 100000 in
theorem kn_Table_reduce : ∀ pc e, kc_Table_reduce pc = some e → pj_okE 51 pc e = true := pj_fin 32 (by decide +kernel) (fun pc h => by show cond (Nat.ble 32 pc) none _ = none; rw [Nat.ble_eq_true_of_le h]; rfl)
set_option maxRecDepth 100000 in
theorem kn_Table_hasFactor : ∀ pc e, kc_Table_hasFactor pc = some e → pj_okE 52 pc e = true := pj_fin 19 (by decide +kernel) (fun pc h => by show cond (Nat.ble 19 pc) none _ = none; rw [Nat.ble_eq_true_of_le h]; rfl)
set_option maxRecDepth 100000 in
theorem kn_Table_product : ∀ pc e, kc_Table_product pc = some e → pj_okE 53 pc e = true := pj_fin 119 (by decide +kernel) (fun pc h => by show cond (Nat.ble 119 pc) none _ = none; rw [Nat.ble_eq_true_of_le h]; rfl)
set_option maxRecDepth 100000 in
theorem kn_Table_coordinate : ∀ pc e, kc_Table_coordinate pc = some e → pj_okE 54 pc e = true := pj_fin 31 (by decide +kernel) (fun pc h => by show cond (Nat.ble 31 pc) none _ = none; rw [Nat.ble_eq_true_of_le h]; rfl)
set_option maxRecDepth 100000 in
theorem kn_Table_copyFrom : ∀ pc e, kc_Table_copyFrom pc = some e → pj_okE 55 pc e = true := pj_fin 35 (by decide +kernel) (fun pc h => by show cond (Nat.ble 35 pc) none _ = none; rw [Nat.ble_eq_true_of_le h]; rfl)
set_option maxRecDepth 100000 in
theorem kn_Table_pairsWithBracket : ∀ pc e, kc_Table_pairsWithBracket pc = some e → pj_okE 56 pc e = true := pj_fin 48 (by decide +kernel) (fun pc h => by show cond (Nat.ble 48 pc) none _ = none; rw [Nat.ble_eq_true_of_le h]; rfl)
set_option maxRecDepth 100000 in
theorem kn_Table_jacobiValue : ∀ pc e, kc_Table_jacobiValue pc = some e → pj_okE 57 pc e = true := pj_fin 64 (by decide +kernel) (fun pc h => by show cond (Nat.ble 64 pc) none _ = none; rw [Nat.ble_eq_true_of_le h]; rfl)
set_option maxRecDepth 100000 in
theorem kn_Li_init : ∀ pc e, kc_Li_init pc = some e → pj_okE 58 pc e = true := pj_fin 97 (by decide +kernel) (fun pc h => by show cond (Nat.ble 97 pc) none _ = none; rw [Nat.ble_eq_true_of_le h]; rfl)
set_option maxRecDepth 100000 in
theorem kn_Li_configure : ∀ pc e, kc_Li_configure pc = some e → pj_okE 59 pc e = true := pj_fin 64 (by decide +kernel) (fun pc h => by show cond (Nat.ble 64 pc) none _ = none; rw [Nat.ble_eq_true_of_le h]; rfl)
set_option maxRecDepth 100000 in
theorem kn_Li_remember : ∀ pc e, kc_Li_remember pc = some e → pj_okE 60 pc e = true := pj_fin 52 (by decide +kernel) (fun pc h => by show cond (Nat.ble 52 pc) none _ = none; rw [Nat.ble_eq_true_of_le h]; rfl)
set_option maxRecDepth 100000 in
theorem kn_Li_setBracket : ∀ pc e, kc_Li_setBracket pc = some e → pj_okE 61 pc e = true := pj_fin 53 (by decide +kernel) (fun pc h => by show cond (Nat.ble 53 pc) none _ = none; rw [Nat.ble_eq_true_of_le h]; rfl)
set_option maxRecDepth 100000 in
theorem kn_Li_at : ∀ pc e, kc_Li_at pc = some e → pj_okE 62 pc e = true := pj_fin 18 (by decide +kernel) (fun pc h => by show cond (Nat.ble 18 pc) none _ = none; rw [Nat.ble_eq_true_of_le h]; rfl)
set_option maxRecDepth 100000 in
theorem kn_Li_put : ∀ pc e, kc_Li_put pc = some e → pj_okE 63 pc e = true := pj_fin 15 (by decide +kernel) (fun pc h => by show cond (Nat.ble 15 pc) none _ = none; rw [Nat.ble_eq_true_of_le h]; rfl)
set_option maxRecDepth 100000 in
theorem kn_Li_addBasis : ∀ pc e, kc_Li_addBasis pc = some e → pj_okE 64 pc e = true := pj_fin 49 (by decide +kernel) (fun pc h => by show cond (Nat.ble 49 pc) none _ = none; rw [Nat.ble_eq_true_of_le h]; rfl)
set_option maxRecDepth 100000 in
theorem kn_Li_scaleBasis : ∀ pc e, kc_Li_scaleBasis pc = some e → pj_okE 65 pc e = true := pj_fin 45 (by decide +kernel) (fun pc h => by show cond (Nat.ble 45 pc) none _ = none; rw [Nat.ble_eq_true_of_le h]; rfl)
set_option maxRecDepth 100000 in
theorem kn_Li_inverse : ∀ pc e, kc_Li_inverse pc = some e → pj_okE 66 pc e = true := pj_fin 26 (by decide +kernel) (fun pc h => by show cond (Nat.ble 26 pc) none _ = none; rw [Nat.ble_eq_true_of_le h]; rfl)
set_option maxRecDepth 100000 in
theorem kn_Li_swapBasis : ∀ pc e, kc_Li_swapBasis pc = some e → pj_okE 67 pc e = true := pj_fin 37 (by decide +kernel) (fun pc h => by show cond (Nat.ble 37 pc) none _ = none; rw [Nat.ble_eq_true_of_le h]; rfl)
set_option maxRecDepth 100000 in
theorem kn_Li_undo : ∀ pc e, kc_Li_undo pc = some e → pj_okE 68 pc e = true := pj_fin 40 (by decide +kernel) (fun pc h => by show cond (Nat.ble 40 pc) none _ = none; rw [Nat.ble_eq_true_of_le h]; rfl)
set_option maxRecDepth 100000 in
theorem kn_Li_save : ∀ pc e, kc_Li_save pc = some e → pj_okE 69 pc e = true := pj_fin 31 (by decide +kernel) (fun pc h => by show cond (Nat.ble 31 pc) none _ = none; rw [Nat.ble_eq_true_of_le h]; rfl)
set_option maxRecDepth 100000 in
theorem kn_Li_restore : ∀ pc e, kc_Li_restore pc = some e → pj_okE 70 pc e = true := pj_fin 50 (by decide +kernel) (fun pc h => by show cond (Nat.ble 50 pc) none _ = none; rw [Nat.ble_eq_true_of_le h]; rfl)
set_option maxRecDepth 100000 in
theorem kn_Li_prime : ∀ pc e, kc_Li_prime pc = some e → pj_okE 71 pc e = true := pj_fin 8 (by decide +kernel) (fun pc h => by show cond (Nat.ble 8 pc) none _ = none; rw [Nat.ble_eq_true_of_le h]; rfl)
set_option maxRecDepth 100000 in
theorem kn_Li_dimension : ∀ pc e, kc_Li_dimension pc = some e → pj_okE 72 pc e = true := pj_fin 8 (by decide +kernel) (fun pc h => by show cond (Nat.ble 8 pc) none _ = none; rw [Nat.ble_eq_true_of_le h]; rfl)
set_option maxRecDepth 100000 in
theorem kn_Li_bracket : ∀ pc e, kc_Li_bracket pc = some e → pj_okE 73 pc e = true := pj_fin 34 (by decide +kernel) (fun pc h => by show cond (Nat.ble 34 pc) none _ = none; rw [Nat.ble_eq_true_of_le h]; rfl)
set_option maxRecDepth 100000 in
theorem kn_Li_jacobiFailure : ∀ pc e, kc_Li_jacobiFailure pc = some e → pj_okE 74 pc e = true := pj_fin 89 (by decide +kernel) (fun pc h => by show cond (Nat.ble 89 pc) none _ = none; rw [Nat.ble_eq_true_of_le h]; rfl)
set_option maxRecDepth 100000 in
theorem kn_Li_derivedDimension : ∀ pc e, kc_Li_derivedDimension pc = some e → pj_okE 75 pc e = true := pj_fin 24 (by decide +kernel) (fun pc h => by show cond (Nat.ble 24 pc) none _ = none; rw [Nat.ble_eq_true_of_le h]; rfl)
set_option maxRecDepth 100000 in
theorem kn_Li_lowerCentralDimension : ∀ pc e, kc_Li_lowerCentralDimension pc = some e → pj_okE 76 pc e = true := pj_fin 24 (by decide +kernel) (fun pc h => by show cond (Nat.ble 24 pc) none _ = none; rw [Nat.ble_eq_true_of_le h]; rfl)
set_option maxRecDepth 100000 in
theorem kn_Li_kind : ∀ pc e, kc_Li_kind pc = some e → pj_okE 77 pc e = true := pj_fin 38 (by decide +kernel) (fun pc h => by show cond (Nat.ble 38 pc) none _ = none; rw [Nat.ble_eq_true_of_le h]; rfl)
set_option maxRecDepth 100000 in
theorem kn_Li_centerDimension : ∀ pc e, kc_Li_centerDimension pc = some e → pj_okE 78 pc e = true := pj_fin 11 (by decide +kernel) (fun pc h => by show cond (Nat.ble 11 pc) none _ = none; rw [Nat.ble_eq_true_of_le h]; rfl)
set_option maxRecDepth 100000 in
theorem kn_Li_killingRadicalDimension : ∀ pc e, kc_Li_killingRadicalDimension pc = some e → pj_okE 79 pc e = true := pj_fin 8 (by decide +kernel) (fun pc h => by show cond (Nat.ble 8 pc) none _ = none; rw [Nat.ble_eq_true_of_le h]; rfl)
set_option maxRecDepth 100000 in
theorem kn_Li_derivationDimension : ∀ pc e, kc_Li_derivationDimension pc = some e → pj_okE 80 pc e = true := pj_fin 8 (by decide +kernel) (fun pc h => by show cond (Nat.ble 8 pc) none _ = none; rw [Nat.ble_eq_true_of_le h]; rfl)
set_option maxRecDepth 100000 in
theorem kn_Li_killing : ∀ pc e, kc_Li_killing pc = some e → pj_okE 81 pc e = true := pj_fin 34 (by decide +kernel) (fun pc h => by show cond (Nat.ble 34 pc) none _ = none; rw [Nat.ble_eq_true_of_le h]; rfl)
set_option maxRecDepth 100000 in
theorem kn_Li_centralizerDimension : ∀ pc e, kc_Li_centralizerDimension pc = some e → pj_okE 82 pc e = true := pj_fin 33 (by decide +kernel) (fun pc h => by show cond (Nat.ble 33 pc) none _ = none; rw [Nat.ble_eq_true_of_le h]; rfl)
set_option maxRecDepth 100000 in
theorem kn_Li_idealDimension : ∀ pc e, kc_Li_idealDimension pc = some e → pj_okE 83 pc e = true := pj_fin 25 (by decide +kernel) (fun pc h => by show cond (Nat.ble 25 pc) none _ = none; rw [Nat.ble_eq_true_of_le h]; rfl)
set_option maxRecDepth 100000 in
theorem kn_Li_subalgebraDimension : ∀ pc e, kc_Li_subalgebraDimension pc = some e → pj_okE 84 pc e = true := pj_fin 37 (by decide +kernel) (fun pc h => by show cond (Nat.ble 37 pc) none _ = none; rw [Nat.ble_eq_true_of_le h]; rfl)
set_option maxRecDepth 100000 in
theorem kn_Li_derivedVector : ∀ pc e, kc_Li_derivedVector pc = some e → pj_okE 85 pc e = true := pj_fin 29 (by decide +kernel) (fun pc h => by show cond (Nat.ble 29 pc) none _ = none; rw [Nat.ble_eq_true_of_le h]; rfl)
set_option maxRecDepth 100000 in
theorem kn_Math_min : ∀ pc e, kc_Math_min pc = some e → pj_okE 86 pc e = true := pj_fin 11 (by decide +kernel) (fun pc h => by show cond (Nat.ble 11 pc) none _ = none; rw [Nat.ble_eq_true_of_le h]; rfl)
set_option maxRecDepth 100000 in
theorem kn_Math_max : ∀ pc e, kc_Math_max pc = some e → pj_okE 87 pc e = true := pj_fin 11 (by decide +kernel) (fun pc h => by show cond (Nat.ble 11 pc) none _ = none; rw [Nat.ble_eq_true_of_le h]; rfl)
set_option maxRecDepth 100000 in
theorem kn_Arrays_fill : ∀ pc e, kc_Arrays_fill pc = some e → pj_okE 88 pc e = true := pj_fin 21 (by decide +kernel) (fun pc h => by show cond (Nat.ble 21 pc) none _ = none; rw [Nat.ble_eq_true_of_le h]; rfl)
set_option maxRecDepth 100000 in
theorem kn_Lw_cell : ∀ pc e, kc_Lw_cell pc = some e → pj_okE 89 pc e = true := pj_fin 25 (by decide +kernel) (fun pc h => by show cond (Nat.ble 25 pc) none _ = none; rw [Nat.ble_eq_true_of_le h]; rfl)
set_option maxRecDepth 100000 in
theorem kn_Lw_low : ∀ pc e, kc_Lw_low pc = some e → pj_okE 90 pc e = true := pj_fin 7 (by decide +kernel) (fun pc h => by show cond (Nat.ble 7 pc) none _ = none; rw [Nat.ble_eq_true_of_le h]; rfl)
set_option maxRecDepth 100000 in
theorem kn_Lw_power : ∀ pc e, kc_Lw_power pc = some e → pj_okE 91 pc e = true := pj_fin 21 (by decide +kernel) (fun pc h => by show cond (Nat.ble 21 pc) none _ = none; rw [Nat.ble_eq_true_of_le h]; rfl)
set_option maxRecDepth 100000 in
theorem kn_Lw_mod : ∀ pc e, kc_Lw_mod pc = some e → pj_okE 92 pc e = true := pj_fin 8 (by decide +kernel) (fun pc h => by show cond (Nat.ble 8 pc) none _ = none; rw [Nat.ble_eq_true_of_le h]; rfl)
set_option maxRecDepth 100000 in
theorem kn_Lw_digest : ∀ pc e, kc_Lw_digest pc = some e → pj_okE 93 pc e = true := pj_fin 83 (by decide +kernel) (fun pc h => by show cond (Nat.ble 83 pc) none _ = none; rw [Nat.ble_eq_true_of_le h]; rfl)
set_option maxRecDepth 100000 in
theorem kn_Lw_kinds : ∀ pc e, kc_Lw_kinds pc = some e → pj_okE 94 pc e = true := pj_fin 97 (by decide +kernel) (fun pc h => by show cond (Nat.ble 97 pc) none _ = none; rw [Nat.ble_eq_true_of_le h]; rfl)
set_option maxRecDepth 100000 in
theorem kn_Math_floorMod : ∀ pc e, kc_Math_floorMod pc = some e → pj_okE 95 pc e = true := pj_fin 20 (by decide +kernel) (fun pc h => by show cond (Nat.ble 20 pc) none _ = none; rw [Nat.ble_eq_true_of_le h]; rfl)
set_option maxRecDepth 100000 in
theorem kn_Lw_linear_0 : ∀ q, q < 60 → (match kc_Lw_linear (0 + q) with | some e => pj_okE 96 (0 + q) e | none => true) = true := by decide +kernel
set_option maxRecDepth 100000 in
theorem kn_Lw_linear_60 : ∀ q, q < 60 → (match kc_Lw_linear (60 + q) with | some e => pj_okE 96 (60 + q) e | none => true) = true := by decide +kernel
set_option maxRecDepth 100000 in
theorem kn_Lw_linear_120 : ∀ q, q < 60 → (match kc_Lw_linear (120 + q) with | some e => pj_okE 96 (120 + q) e | none => true) = true := by decide +kernel
set_option maxRecDepth 100000 in
theorem kn_Lw_linear_180 : ∀ q, q < 60 → (match kc_Lw_linear (180 + q) with | some e => pj_okE 96 (180 + q) e | none => true) = true := by decide +kernel
set_option maxRecDepth 100000 in
theorem kn_Lw_linear_240 : ∀ q, q < 60 → (match kc_Lw_linear (240 + q) with | some e => pj_okE 96 (240 + q) e | none => true) = true := by decide +kernel
set_option maxRecDepth 100000 in
theorem kn_Lw_linear_300 : ∀ q, q < 60 → (match kc_Lw_linear (300 + q) with | some e => pj_okE 96 (300 + q) e | none => true) = true := by decide +kernel
set_option maxRecDepth 100000 in
theorem kn_Lw_linear : ∀ pc e, kc_Lw_linear pc = some e → pj_okE 96 pc e = true := pj_fin 346 (by
  intro pc h
  by_cases h0 : pc < 60
  · have := kn_Lw_linear_0 (pc - 0) (by omega)
    rwa [show 0 + (pc - 0) = pc by omega] at this
  by_cases h60 : pc < 120
  · have := kn_Lw_linear_60 (pc - 60) (by omega)
    rwa [show 60 + (pc - 60) = pc by omega] at this
  by_cases h120 : pc < 180
  · have := kn_Lw_linear_120 (pc - 120) (by omega)
    rwa [show 120 + (pc - 120) = pc by omega] at this
  by_cases h180 : pc < 240
  · have := kn_Lw_linear_180 (pc - 180) (by omega)
    rwa [show 180 + (pc - 180) = pc by omega] at this
  by_cases h240 : pc < 300
  · have := kn_Lw_linear_240 (pc - 240) (by omega)
    rwa [show 240 + (pc - 240) = pc by omega] at this
  by_cases h300 : pc < 360
  · have := kn_Lw_linear_300 (pc - 300) (by omega)
    rwa [show 300 + (pc - 300) = pc by omega] at this
  exact absurd h (by omega)) (fun pc h => by show cond (Nat.ble 346 pc) none _ = none; rw [Nat.ble_eq_true_of_le h]; rfl)
set_option maxRecDepth 100000 in
theorem kn_Lw_sum : ∀ pc e, kc_Lw_sum pc = some e → pj_okE 97 pc e = true := pj_fin 51 (by decide +kernel) (fun pc h => by show cond (Nat.ble 51 pc) none _ = none; rw [Nat.ble_eq_true_of_le h]; rfl)
set_option maxRecDepth 100000 in
theorem kn_Lw_digit : ∀ pc e, kc_Lw_digit pc = some e → pj_okE 98 pc e = true := pj_fin 25 (by decide +kernel) (fun pc h => by show cond (Nat.ble 25 pc) none _ = none; rw [Nat.ble_eq_true_of_le h]; rfl)
set_option maxRecDepth 100000 in
theorem kn_Lw_falls : ∀ pc e, kc_Lw_falls pc = some e → pj_okE 99 pc e = true := pj_fin 213 (by decide +kernel) (fun pc h => by show cond (Nat.ble 213 pc) none _ = none; rw [Nat.ble_eq_true_of_le h]; rfl)
set_option maxRecDepth 100000 in
theorem kn_Lw_law_0 : ∀ q, q < 60 → (match kc_Lw_law (0 + q) with | some e => pj_okE 100 (0 + q) e | none => true) = true := by decide +kernel
set_option maxRecDepth 100000 in
theorem kn_Lw_law_60 : ∀ q, q < 60 → (match kc_Lw_law (60 + q) with | some e => pj_okE 100 (60 + q) e | none => true) = true := by decide +kernel
set_option maxRecDepth 100000 in
theorem kn_Lw_law_120 : ∀ q, q < 60 → (match kc_Lw_law (120 + q) with | some e => pj_okE 100 (120 + q) e | none => true) = true := by decide +kernel
set_option maxRecDepth 100000 in
theorem kn_Lw_law_180 : ∀ q, q < 60 → (match kc_Lw_law (180 + q) with | some e => pj_okE 100 (180 + q) e | none => true) = true := by decide +kernel
set_option maxRecDepth 100000 in
theorem kn_Lw_law_240 : ∀ q, q < 60 → (match kc_Lw_law (240 + q) with | some e => pj_okE 100 (240 + q) e | none => true) = true := by decide +kernel
set_option maxRecDepth 100000 in
theorem kn_Lw_law_300 : ∀ q, q < 60 → (match kc_Lw_law (300 + q) with | some e => pj_okE 100 (300 + q) e | none => true) = true := by decide +kernel
set_option maxRecDepth 100000 in
theorem kn_Lw_law_360 : ∀ q, q < 60 → (match kc_Lw_law (360 + q) with | some e => pj_okE 100 (360 + q) e | none => true) = true := by decide +kernel
set_option maxRecDepth 100000 in
theorem kn_Lw_law_420 : ∀ q, q < 60 → (match kc_Lw_law (420 + q) with | some e => pj_okE 100 (420 + q) e | none => true) = true := by decide +kernel
set_option maxRecDepth 100000 in
theorem kn_Lw_law_480 : ∀ q, q < 60 → (match kc_Lw_law (480 + q) with | some e => pj_okE 100 (480 + q) e | none => true) = true := by decide +kernel
set_option maxRecDepth 100000 in
theorem kn_Lw_law_540 : ∀ q, q < 60 → (match kc_Lw_law (540 + q) with | some e => pj_okE 100 (540 + q) e | none => true) = true := by decide +kernel
set_option maxRecDepth 100000 in
theorem kn_Lw_law_600 : ∀ q, q < 60 → (match kc_Lw_law (600 + q) with | some e => pj_okE 100 (600 + q) e | none => true) = true := by decide +kernel
set_option maxRecDepth 100000 in
theorem kn_Lw_law : ∀ pc e, kc_Lw_law pc = some e → pj_okE 100 pc e = true := pj_fin 634 (by
  intro pc h
  by_cases h0 : pc < 60
  · have := kn_Lw_law_0 (pc - 0) (by omega)
    rwa [show 0 + (pc - 0) = pc by omega] at this
  by_cases h60 : pc < 120
  · have := kn_Lw_law_60 (pc - 60) (by omega)
    rwa [show 60 + (pc - 60) = pc by omega] at this
  by_cases h120 : pc < 180
  · have := kn_Lw_law_120 (pc - 120) (by omega)
    rwa [show 120 + (pc - 120) = pc by omega] at this
  by_cases h180 : pc < 240
  · have := kn_Lw_law_180 (pc - 180) (by omega)
    rwa [show 180 + (pc - 180) = pc by omega] at this
  by_cases h240 : pc < 300
  · have := kn_Lw_law_240 (pc - 240) (by omega)
    rwa [show 240 + (pc - 240) = pc by omega] at this
  by_cases h300 : pc < 360
  · have := kn_Lw_law_300 (pc - 300) (by omega)
    rwa [show 300 + (pc - 300) = pc by omega] at this
  by_cases h360 : pc < 420
  · have := kn_Lw_law_360 (pc - 360) (by omega)
    rwa [show 360 + (pc - 360) = pc by omega] at this
  by_cases h420 : pc < 480
  · have := kn_Lw_law_420 (pc - 420) (by omega)
    rwa [show 420 + (pc - 420) = pc by omega] at this
  by_cases h480 : pc < 540
  · have := kn_Lw_law_480 (pc - 480) (by omega)
    rwa [show 480 + (pc - 480) = pc by omega] at this
  by_cases h540 : pc < 600
  · have := kn_Lw_law_540 (pc - 540) (by omega)
    rwa [show 540 + (pc - 540) = pc by omega] at this
  by_cases h600 : pc < 660
  · have := kn_Lw_law_600 (pc - 600) (by omega)
    rwa [show 600 + (pc - 600) = pc by omega] at this
  exact absurd h (by omega)) (fun pc h => by show cond (Nat.ble 634 pc) none _ = none; rw [Nat.ble_eq_true_of_le h]; rfl)
theorem k_okM : ∀ (M : Nat) (pc : Nat) (e : pj_E), k_cd M pc = some e → pj_okE M pc e = true := fun M => match M with
  | 0 => kn_Change_init
  | 1 => kn_Change_add
  | 2 => kn_Change_begin
  | 3 => kn_Change_apply
  | 4 => kn_Change_rewrite
  | 5 => kn_Change_scale
  | 6 => kn_Change_exchange
  | 7 => kn_Maps_init
  | 8 => kn_Maps_radicalSize
  | 9 => kn_Maps_trace
  | 10 => kn_Maps_derivationCount
  | 11 => kn_Maps_addDerivationRule
  | 12 => kn_Maps_unknown
  | 13 => kn_Script_init
  | 14 => kn_Shelf_init
  | 15 => kn_Shelf_dropFirst
  | 16 => kn_Shelf_keep
  | 17 => kn_Shelf_fetch
  | 18 => kn_Shelf_isEmpty
  | 19 => kn_Spaces_init
  | 20 => kn_Spaces_derived
  | 21 => kn_Spaces_descend
  | 22 => kn_Spaces_fill
  | 23 => kn_Spaces_addProducts
  | 24 => kn_Spaces_lowerCentral
  | 25 => kn_Spaces_center
  | 26 => kn_Spaces_bracketsWith
  | 27 => kn_Spaces_ideal
  | 28 => kn_Spaces_close
  | 29 => kn_Spaces_subalgebra
  | 30 => kn_Subspace_init
  | 31 => kn_Subspace_begin
  | 32 => kn_Subspace_join
  | 33 => kn_Subspace_addIncoming
  | 34 => kn_Subspace_takeIncoming
  | 35 => kn_Subspace_hasLead
  | 36 => kn_Subspace_cell
  | 37 => kn_Subspace_addRow
  | 38 => kn_Subspace_vector
  | 39 => kn_Subspace_rowAsVector
  | 40 => kn_Subspace_solveInto
  | 41 => kn_Table_init
  | 42 => kn_Table_begin
  | 43 => kn_Table_vectorCount
  | 44 => kn_Table_power
  | 45 => kn_Table_hasPair
  | 46 => kn_Table_hasIndex
  | 47 => kn_Table_hasVector
  | 48 => kn_Table_entry
  | 49 => kn_Table_setEntry
  | 50 => kn_Table_plus
  | 51 => kn_Table_reduce
  | 52 => kn_Table_hasFactor
  | 53 => kn_Table_product
  | 54 => kn_Table_coordinate
  | 55 => kn_Table_copyFrom
  | 56 => kn_Table_pairsWithBracket
  | 57 => kn_Table_jacobiValue
  | 58 => kn_Li_init
  | 59 => kn_Li_configure
  | 60 => kn_Li_remember
  | 61 => kn_Li_setBracket
  | 62 => kn_Li_at
  | 63 => kn_Li_put
  | 64 => kn_Li_addBasis
  | 65 => kn_Li_scaleBasis
  | 66 => kn_Li_inverse
  | 67 => kn_Li_swapBasis
  | 68 => kn_Li_undo
  | 69 => kn_Li_save
  | 70 => kn_Li_restore
  | 71 => kn_Li_prime
  | 72 => kn_Li_dimension
  | 73 => kn_Li_bracket
  | 74 => kn_Li_jacobiFailure
  | 75 => kn_Li_derivedDimension
  | 76 => kn_Li_lowerCentralDimension
  | 77 => kn_Li_kind
  | 78 => kn_Li_centerDimension
  | 79 => kn_Li_killingRadicalDimension
  | 80 => kn_Li_derivationDimension
  | 81 => kn_Li_killing
  | 82 => kn_Li_centralizerDimension
  | 83 => kn_Li_idealDimension
  | 84 => kn_Li_subalgebraDimension
  | 85 => kn_Li_derivedVector
  | 86 => kn_Math_min
  | 87 => kn_Math_max
  | 88 => kn_Arrays_fill
  | 89 => kn_Lw_cell
  | 90 => kn_Lw_low
  | 91 => kn_Lw_power
  | 92 => kn_Lw_mod
  | 93 => kn_Lw_digest
  | 94 => kn_Lw_kinds
  | 95 => kn_Math_floorMod
  | 96 => kn_Lw_linear
  | 97 => kn_Lw_sum
  | 98 => kn_Lw_digit
  | 99 => kn_Lw_falls
  | 100 => kn_Lw_law
  | n + 101 => fun pc e h => by rw [show k_cd (n + 101) pc = none from by show cond (Nat.ble 101 (n + 101)) none _ = none; rw [Nat.ble_eq_true_of_le (Nat.le_add_left _ _)]; rfl] at h; cases h
set_option maxRecDepth 100000 in
theorem k_okI_0 : ∀ k, k < 6 → pj_okI (0 + k) = true := by decide +kernel
set_option maxRecDepth 100000 in
theorem k_okI_6 : ∀ k, k < 6 → pj_okI (6 + k) = true := by decide +kernel
set_option maxRecDepth 100000 in
theorem k_okI_12 : ∀ k, k < 6 → pj_okI (12 + k) = true := by decide +kernel
set_option maxRecDepth 100000 in
theorem k_okI_18 : ∀ k, k < 6 → pj_okI (18 + k) = true := by decide +kernel
set_option maxRecDepth 100000 in
theorem k_okI_24 : ∀ k, k < 6 → pj_okI (24 + k) = true := by decide +kernel
set_option maxRecDepth 100000 in
theorem k_okI_30 : ∀ k, k < 6 → pj_okI (30 + k) = true := by decide +kernel
set_option maxRecDepth 100000 in
theorem k_okI_36 : ∀ k, k < 6 → pj_okI (36 + k) = true := by decide +kernel
set_option maxRecDepth 100000 in
theorem k_okI_42 : ∀ k, k < 6 → pj_okI (42 + k) = true := by decide +kernel
set_option maxRecDepth 100000 in
theorem k_okI_48 : ∀ k, k < 6 → pj_okI (48 + k) = true := by decide +kernel
set_option maxRecDepth 100000 in
theorem k_okI_54 : ∀ k, k < 6 → pj_okI (54 + k) = true := by decide +kernel
set_option maxRecDepth 100000 in
theorem k_okI_60 : ∀ k, k < 6 → pj_okI (60 + k) = true := by decide +kernel
set_option maxRecDepth 100000 in
theorem k_okI_66 : ∀ k, k < 6 → pj_okI (66 + k) = true := by decide +kernel
set_option maxRecDepth 100000 in
theorem k_okI_72 : ∀ k, k < 6 → pj_okI (72 + k) = true := by decide +kernel
set_option maxRecDepth 100000 in
theorem k_okI_78 : ∀ k, k < 6 → pj_okI (78 + k) = true := by decide +kernel
set_option maxRecDepth 100000 in
theorem k_okI_84 : ∀ k, k < 6 → pj_okI (84 + k) = true := by decide +kernel
set_option maxRecDepth 100000 in
theorem k_okI_90 : ∀ k, k < 6 → pj_okI (90 + k) = true := by decide +kernel
set_option maxRecDepth 100000 in
theorem k_okI_96 : ∀ k, k < 4 → pj_okI (96 + k) = true := by decide +kernel
theorem k_okI : ∀ M, M < 100 → pj_okI M = true := by
  intro M h
  by_cases h0 : M < 6
  · have := k_okI_0 (M - 0) (by omega)
    rwa [show 0 + (M - 0) = M by omega] at this
  by_cases h6 : M < 12
  · have := k_okI_6 (M - 6) (by omega)
    rwa [show 6 + (M - 6) = M by omega] at this
  by_cases h12 : M < 18
  · have := k_okI_12 (M - 12) (by omega)
    rwa [show 12 + (M - 12) = M by omega] at this
  by_cases h18 : M < 24
  · have := k_okI_18 (M - 18) (by omega)
    rwa [show 18 + (M - 18) = M by omega] at this
  by_cases h24 : M < 30
  · have := k_okI_24 (M - 24) (by omega)
    rwa [show 24 + (M - 24) = M by omega] at this
  by_cases h30 : M < 36
  · have := k_okI_30 (M - 30) (by omega)
    rwa [show 30 + (M - 30) = M by omega] at this
  by_cases h36 : M < 42
  · have := k_okI_36 (M - 36) (by omega)
    rwa [show 36 + (M - 36) = M by omega] at this
  by_cases h42 : M < 48
  · have := k_okI_42 (M - 42) (by omega)
    rwa [show 42 + (M - 42) = M by omega] at this
  by_cases h48 : M < 54
  · have := k_okI_48 (M - 48) (by omega)
    rwa [show 48 + (M - 48) = M by omega] at this
  by_cases h54 : M < 60
  · have := k_okI_54 (M - 54) (by omega)
    rwa [show 54 + (M - 54) = M by omega] at this
  by_cases h60 : M < 66
  · have := k_okI_60 (M - 60) (by omega)
    rwa [show 60 + (M - 60) = M by omega] at this
  by_cases h66 : M < 72
  · have := k_okI_66 (M - 66) (by omega)
    rwa [show 66 + (M - 66) = M by omega] at this
  by_cases h72 : M < 78
  · have := k_okI_72 (M - 72) (by omega)
    rwa [show 72 + (M - 72) = M by omega] at this
  by_cases h78 : M < 84
  · have := k_okI_78 (M - 78) (by omega)
    rwa [show 78 + (M - 78) = M by omega] at this
  by_cases h84 : M < 90
  · have := k_okI_84 (M - 84) (by omega)
    rwa [show 84 + (M - 84) = M by omega] at this
  by_cases h90 : M < 96
  · have := k_okI_90 (M - 90) (by omega)
    rwa [show 90 + (M - 90) = M by omega] at this
  by_cases h96 : M < 100
  · have := k_okI_96 (M - 96) (by omega)
    rwa [show 96 + (M - 96) = M by omega] at this
  exact absurd h (by omega)
