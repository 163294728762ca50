set_option maxRecDepth 100000 in
theorem kn_Change_init : ∀ pc e, kc_Change_init pc = some e → pj_okE 0 pc e = true := pj_fin 35 (by decide +kernel) (fun pc h => by show cond (Nat.ble 35 pc) none _ = none; rw [Nat.ble_eq_true_of_le h]; rfl)
set_option maxRecDepth 100000 in
theorem kn_Change_add : ∀ pc e, kc_Change_add pc = some e → pj_okE 1 pc e = true := pj_fin 74 (by decide +kernel) (fun pc h => by show cond (Nat.ble 74 pc) none _ = none; rw [Nat.ble_eq_true_of_le h]; rfl)
set_option maxRecDepth 100000 in
theorem kn_Change_begin : ∀ pc e, kc_Change_begin pc = some e → pj_okE 2 pc e = true := pj_fin 52 (by decide +kernel) (fun pc h => by show cond (Nat.ble 52 pc) none _ = none; rw [Nat.ble_eq_true_of_le h]; rfl)
set_option maxRecDepth 100000 in
theorem kn_Change_apply : ∀ pc e, kc_Change_apply pc = some e → pj_okE 3 pc e = true := pj_fin 111 (by decide +kernel) (fun pc h => by show cond (Nat.ble 111 pc) none _ = none; rw [Nat.ble_eq_true_of_le h]; rfl)
set_option maxRecDepth 100000 in
theorem kn_Change_rewrite : ∀ pc e, kc_Change_rewrite pc = some e → pj_okE 4 pc e = true := pj_fin 49 (by decide +kernel) (fun pc h => by show cond (Nat.ble 49 pc) none _ = none; rw [Nat.ble_eq_true_of_le h]; rfl)
set_option maxRecDepth 100000 in
theorem kn_Change_scale : ∀ pc e, kc_Change_scale pc = some e → pj_okE 5 pc e = true := pj_fin 55 (by decide +kernel) (fun pc h => by show cond (Nat.ble 55 pc) none _ = none; rw [Nat.ble_eq_true_of_le h]; rfl)
set_option maxRecDepth 100000 in
theorem kn_Change_exchange : ∀ pc e, kc_Change_exchange pc = some e → pj_okE 6 pc e = true := pj_fin 73 (by decide +kernel) (fun pc h => by show cond (Nat.ble 73 pc) none _ = none; rw [Nat.ble_eq_true_of_le h]; rfl)
set_option maxRecDepth 100000 in
theorem kn_Maps_init : ∀ pc e, kc_Maps_init pc = some e → pj_okE 7 pc e = true := pj_fin 35 (by decide +kernel) (fun pc h => by show cond (Nat.ble 35 pc) none _ = none; rw [Nat.ble_eq_true_of_le h]; rfl)
set_option maxRecDepth 100000 in
theorem kn_Maps_nilpotency : ∀ pc e, kc_Maps_nilpotency pc = some e → pj_okE 8 pc e = true := pj_fin 86 (by decide +kernel) (fun pc h => by show cond (Nat.ble 86 pc) none _ = none; rw [Nat.ble_eq_true_of_le h]; rfl)
set_option maxRecDepth 100000 in
theorem kn_Maps_trace : ∀ pc e, kc_Maps_trace pc = some e → pj_okE 9 pc e = true := pj_fin 73 (by decide +kernel) (fun pc h => by show cond (Nat.ble 73 pc) none _ = none; rw [Nat.ble_eq_true_of_le h]; rfl)
set_option maxRecDepth 100000 in
theorem kn_Maps_radicalSize : ∀ pc e, kc_Maps_radicalSize pc = some e → pj_okE 10 pc e = true := pj_fin 111 (by decide +kernel) (fun pc h => by show cond (Nat.ble 111 pc) none _ = none; rw [Nat.ble_eq_true_of_le h]; rfl)
set_option maxRecDepth 100000 in
theorem kn_Maps_derivationCount : ∀ pc e, kc_Maps_derivationCount pc = some e → pj_okE 11 pc e = true := pj_fin 119 (by decide +kernel) (fun pc h => by show cond (Nat.ble 119 pc) none _ = none; rw [Nat.ble_eq_true_of_le h]; rfl)
set_option maxRecDepth 100000 in
theorem kn_Maps_addDerivationRule : ∀ pc e, kc_Maps_addDerivationRule pc = some e → pj_okE 12 pc e = true := pj_fin 128 (by decide +kernel) (fun pc h => by show cond (Nat.ble 128 pc) none _ = none; rw [Nat.ble_eq_true_of_le h]; rfl)
set_option maxRecDepth 100000 in
theorem kn_Maps_unknown : ∀ pc e, kc_Maps_unknown pc = some e → pj_okE 13 pc e = true := pj_fin 12 (by decide +kernel) (fun pc h => by show cond (Nat.ble 12 pc) none _ = none; rw [Nat.ble_eq_true_of_le h]; rfl)
set_option maxRecDepth 100000 in
theorem kn_Script_init : ∀ pc e, kc_Script_init pc = some e → pj_okE 14 pc e = true := pj_fin 24 (by decide +kernel) (fun pc h => by show cond (Nat.ble 24 pc) none _ = none; rw [Nat.ble_eq_true_of_le h]; rfl)
set_option maxRecDepth 100000 in
theorem kn_Script_add : ∀ pc e, kc_Script_add pc = some e → pj_okE 15 pc e = true := pj_fin 35 (by decide +kernel) (fun pc h => by show cond (Nat.ble 35 pc) none _ = none; rw [Nat.ble_eq_true_of_le h]; rfl)
set_option maxRecDepth 100000 in
theorem kn_Script_read : ∀ pc e, kc_Script_read pc = some e → pj_okE 16 pc e = true := pj_fin 54 (by decide +kernel) (fun pc h => by show cond (Nat.ble 54 pc) none _ = none; rw [Nat.ble_eq_true_of_le h]; rfl)
set_option maxRecDepth 100000 in
theorem kn_Script_readItem : ∀ pc e, kc_Script_readItem pc = some e → pj_okE 17 pc e = true := pj_fin 143 (by decide +kernel) (fun pc h => by show cond (Nat.ble 143 pc) none _ = none; rw [Nat.ble_eq_true_of_le h]; rfl)
set_option maxRecDepth 100000 in
theorem kn_Script_take : ∀ pc e, kc_Script_take pc = some e → pj_okE 18 pc e = true := pj_fin 22 (by decide +kernel) (fun pc h => by show cond (Nat.ble 22 pc) none _ = none; rw [Nat.ble_eq_true_of_le h]; rfl)
set_option maxRecDepth 100000 in
theorem kn_Script_next : ∀ pc e, kc_Script_next pc = some e → pj_okE 19 pc e = true := pj_fin 67 (by decide +kernel) (fun pc h => by show cond (Nat.ble 67 pc) none _ = none; rw [Nat.ble_eq_true_of_le h]; rfl)
set_option maxRecDepth 100000 in
theorem kn_Script_takeDigit : ∀ pc e, kc_Script_takeDigit pc = some e → pj_okE 20 pc e = true := pj_fin 32 (by decide +kernel) (fun pc h => by show cond (Nat.ble 32 pc) none _ = none; rw [Nat.ble_eq_true_of_le h]; rfl)
set_option maxRecDepth 100000 in
theorem kn_Script_pairBit : ∀ pc e, kc_Script_pairBit pc = some e → pj_okE 21 pc e = true := pj_fin 16 (by decide +kernel) (fun pc h => by show cond (Nat.ble 16 pc) none _ = none; rw [Nat.ble_eq_true_of_le h]; rfl)
set_option maxRecDepth 100000 in
theorem kn_Script_readValue : ∀ pc e, kc_Script_readValue pc = some e → pj_okE 22 pc e = true := pj_fin 181 (by decide +kernel) (fun pc h => by show cond (Nat.ble 181 pc) none _ = none; rw [Nat.ble_eq_true_of_le h]; rfl)
set_option maxRecDepth 100000 in
theorem kn_Shelf_init : ∀ pc e, kc_Shelf_init pc = some e → pj_okE 23 pc e = true := pj_fin 32 (by decide +kernel) (fun pc h => by show cond (Nat.ble 32 pc) none _ = none; rw [Nat.ble_eq_true_of_le h]; rfl)
set_option maxRecDepth 100000 in
theorem kn_Shelf_dropFirst : ∀ pc e, kc_Shelf_dropFirst pc = some e → pj_okE 24 pc e = true := pj_fin 23 (by decide +kernel) (fun pc h => by show cond (Nat.ble 23 pc) none _ = none; rw [Nat.ble_eq_true_of_le h]; rfl)
set_option maxRecDepth 100000 in
theorem kn_Shelf_keep : ∀ pc e, kc_Shelf_keep pc = some e → pj_okE 25 pc e = true := pj_fin 58 (by decide +kernel) (fun pc h => by show cond (Nat.ble 58 pc) none _ = none; rw [Nat.ble_eq_true_of_le h]; rfl)
set_option maxRecDepth 100000 in
theorem kn_Shelf_fetch : ∀ pc e, kc_Shelf_fetch pc = some e → pj_okE 26 pc e = true := pj_fin 58 (by decide +kernel) (fun pc h => by show cond (Nat.ble 58 pc) none _ = none; rw [Nat.ble_eq_true_of_le h]; rfl)
set_option maxRecDepth 100000 in
theorem kn_Shelf_isEmpty : ∀ pc e, kc_Shelf_isEmpty pc = some e → pj_okE 27 pc e = true := pj_fin 20 (by decide +kernel) (fun pc h => by show cond (Nat.ble 20 pc) none _ = none; rw [Nat.ble_eq_true_of_le h]; rfl)
set_option maxRecDepth 100000 in
theorem kn_Spaces_init : ∀ pc e, kc_Spaces_init pc = some e → pj_okE 28 pc e = true := pj_fin 46 (by decide +kernel) (fun pc h => by show cond (Nat.ble 46 pc) none _ = none; rw [Nat.ble_eq_true_of_le h]; rfl)
set_option maxRecDepth 100000 in
theorem kn_Spaces_derived : ∀ pc e, kc_Spaces_derived pc = some e → pj_okE 29 pc e = true := pj_fin 7 (by decide +kernel) (fun pc h => by show cond (Nat.ble 7 pc) none _ = none; rw [Nat.ble_eq_true_of_le h]; rfl)
set_option maxRecDepth 100000 in
theorem kn_Spaces_descend : ∀ pc e, kc_Spaces_descend pc = some e → pj_okE 30 pc e = true := pj_fin 120 (by decide +kernel) (fun pc h => by show cond (Nat.ble 120 pc) none _ = none; rw [Nat.ble_eq_true_of_le h]; rfl)
set_option maxRecDepth 100000 in
theorem kn_Spaces_fill : ∀ pc e, kc_Spaces_fill pc = some e → pj_okE 31 pc e = true := pj_fin 55 (by decide +kernel) (fun pc h => by show cond (Nat.ble 55 pc) none _ = none; rw [Nat.ble_eq_true_of_le h]; rfl)
set_option maxRecDepth 100000 in
theorem kn_Spaces_addProducts : ∀ pc e, kc_Spaces_addProducts pc = some e → pj_okE 32 pc e = true := pj_fin 96 (by decide +kernel) (fun pc h => by show cond (Nat.ble 96 pc) none _ = none; rw [Nat.ble_eq_true_of_le h]; rfl)
set_option maxRecDepth 100000 in
theorem kn_Spaces_lowerCentral : ∀ pc e, kc_Spaces_lowerCentral pc = some e → pj_okE 33 pc e = true := pj_fin 7 (by decide +kernel) (fun pc h => by show cond (Nat.ble 7 pc) none _ = none; rw [Nat.ble_eq_true_of_le h]; rfl)
set_option maxRecDepth 100000 in
theorem kn_Spaces_center : ∀ pc e, kc_Spaces_center pc = some e → pj_okE 34 pc e = true := pj_fin 127 (by decide +kernel) (fun pc h => by show cond (Nat.ble 127 pc) none _ = none; rw [Nat.ble_eq_true_of_le h]; rfl)
set_option maxRecDepth 100000 in
theorem kn_Spaces_bracketsWith : ∀ pc e, kc_Spaces_bracketsWith pc = some e → pj_okE 35 pc e = true := pj_fin 73 (by decide +kernel) (fun pc h => by show cond (Nat.ble 73 pc) none _ = none; rw [Nat.ble_eq_true_of_le h]; rfl)
set_option maxRecDepth 100000 in
theorem kn_Spaces_ideal : ∀ pc e, kc_Spaces_ideal pc = some e → pj_okE 36 pc e = true := pj_fin 59 (by decide +kernel) (fun pc h => by show cond (Nat.ble 59 pc) none _ = none; rw [Nat.ble_eq_true_of_le h]; rfl)
set_option maxRecDepth 100000 in
theorem kn_Spaces_close : ∀ pc e, kc_Spaces_close pc = some e → pj_okE 37 pc e = true := pj_fin 36 (by decide +kernel) (fun pc h => by show cond (Nat.ble 36 pc) none _ = none; rw [Nat.ble_eq_true_of_le h]; rfl)
set_option maxRecDepth 100000 in
theorem kn_Spaces_subalgebra : ∀ pc e, kc_Spaces_subalgebra pc = some e → pj_okE 38 pc e = true := pj_fin 64 (by decide +kernel) (fun pc h => by show cond (Nat.ble 64 pc) none _ = none; rw [Nat.ble_eq_true_of_le h]; rfl)
set_option maxRecDepth 100000 in
theorem kn_Subspace_init : ∀ pc e, kc_Subspace_init pc = some e → pj_okE 39 pc e = true := pj_fin 41 (by decide +kernel) (fun pc h => by show cond (Nat.ble 41 pc) none _ = none; rw [Nat.ble_eq_true_of_le h]; rfl)
set_option maxRecDepth 100000 in
theorem kn_Subspace_begin : ∀ pc e, kc_Subspace_begin pc = some e → pj_okE 40 pc e = true := pj_fin 35 (by decide +kernel) (fun pc h => by show cond (Nat.ble 35 pc) none _ = none; rw [Nat.ble_eq_true_of_le h]; rfl)
set_option maxRecDepth 100000 in
theorem kn_Subspace_join : ∀ pc e, kc_Subspace_join pc = some e → pj_okE 41 pc e = true := pj_fin 32 (by decide +kernel) (fun pc h => by show cond (Nat.ble 32 pc) none _ = none; rw [Nat.ble_eq_true_of_le h]; rfl)
set_option maxRecDepth 100000 in
theorem kn_Subspace_addIncoming : ∀ pc e, kc_Subspace_addIncoming pc = some e → pj_okE 42 pc e = true := pj_fin 63 (by decide +kernel) (fun pc h => by show cond (Nat.ble 63 pc) none _ = none; rw [Nat.ble_eq_true_of_le h]; rfl)
set_option maxRecDepth 100000 in
theorem kn_Subspace_takeIncoming : ∀ pc e, kc_Subspace_takeIncoming pc = some e → pj_okE 43 pc e = true := pj_fin 163 (by decide +kernel) (fun pc h => by show cond (Nat.ble 163 pc) none _ = none; rw [Nat.ble_eq_true_of_le h]; rfl)
set_option maxRecDepth 100000 in
theorem kn_Subspace_hasLead : ∀ pc e, kc_Subspace_hasLead pc = some e → pj_okE 44 pc e = true := pj_fin 37 (by decide +kernel) (fun pc h => by show cond (Nat.ble 37 pc) none _ = none; rw [Nat.ble_eq_true_of_le h]; rfl)
set_option maxRecDepth 100000 in
theorem kn_Subspace_cell : ∀ pc e, kc_Subspace_cell pc = some e → pj_okE 45 pc e = true := pj_fin 33 (by decide +kernel) (fun pc h => by show cond (Nat.ble 33 pc) none _ = none; rw [Nat.ble_eq_true_of_le h]; rfl)
set_option maxRecDepth 100000 in
theorem kn_Subspace_addRow : ∀ pc e, kc_Subspace_addRow pc = some e → pj_okE 46 pc e = true := pj_fin 121 (by decide +kernel) (fun pc h => by show cond (Nat.ble 121 pc) none _ = none; rw [Nat.ble_eq_true_of_le h]; rfl)
set_option maxRecDepth 100000 in
theorem kn_Subspace_vector : ∀ pc e, kc_Subspace_vector pc = some e → pj_okE 47 pc e = true := pj_fin 43 (by decide +kernel) (fun pc h => by show cond (Nat.ble 43 pc) none _ = none; rw [Nat.ble_eq_true_of_le h]; rfl)
set_option maxRecDepth 100000 in
theorem kn_Subspace_rowAsVector : ∀ pc e, kc_Subspace_rowAsVector pc = some e → pj_okE 48 pc e = true := pj_fin 43 (by decide +kernel) (fun pc h => by show cond (Nat.ble 43 pc) none _ = none; rw [Nat.ble_eq_true_of_le h]; rfl)
set_option maxRecDepth 100000 in
theorem kn_Subspace_solveInto : ∀ pc e, kc_Subspace_solveInto pc = some e → pj_okE 49 pc e = true := pj_fin 79 (by decide +kernel) (fun pc h => by show cond (Nat.ble 79 pc) none _ = none; rw [Nat.ble_eq_true_of_le h]; rfl)
set_option maxRecDepth 100000 in
theorem kn_Table_init : ∀ pc e, kc_Table_init pc = some e → pj_okE 50 pc e = true := pj_fin 23 (by decide +kernel) (fun pc h => by show cond (Nat.ble 23 pc) none _ = none; rw [Nat.ble_eq_true_of_le h]; rfl)
set_option maxRecDepth 100000 in
theorem kn_Table_begin : ∀ pc e, kc_Table_begin pc = some e → pj_okE 51 pc e = true := pj_fin 19 (by decide +kernel) (fun pc h => by show cond (Nat.ble 19 pc) none _ = none; rw [Nat.ble_eq_true_of_le h]; rfl)
set_option maxRecDepth 100000 in
theorem kn_Table_vectorCount : ∀ pc e, kc_Table_vectorCount pc = some e → pj_okE 52 pc e = true := pj_fin 9 (by decide +kernel) (fun pc h => by show cond (Nat.ble 9 pc) none _ = none; rw [Nat.ble_eq_true_of_le h]; rfl)
set_option maxRecDepth 100000 in
theorem kn_Table_power : ∀ pc e, kc_Table_power pc = some e → pj_okE 53 pc e = true := pj_fin 29 (by decide +kernel) (fun pc h => by show cond (Nat.ble 29 pc) none _ = none; rw [Nat.ble_eq_true_of_le h]; rfl)
set_option maxRecDepth 100000 in
theorem kn_Table_hasPair : ∀ pc e, kc_Table_hasPair pc = some e → pj_okE 54 pc e = true := pj_fin 27 (by decide +kernel) (fun pc h => by show cond (Nat.ble 27 pc) none _ = none; rw [Nat.ble_eq_true_of_le h]; rfl)
set_option maxRecDepth 100000 in
theorem kn_Table_hasIndex : ∀ pc e, kc_Table_hasIndex pc = some e → pj_okE 55 pc e = true := pj_fin 18 (by decide +kernel) (fun pc h => by show cond (Nat.ble 18 pc) none _ = none; rw [Nat.ble_eq_true_of_le h]; rfl)
set_option maxRecDepth 100000 in
theorem kn_Table_hasVector : ∀ pc e, kc_Table_hasVector pc = some e → pj_okE 56 pc e = true := pj_fin 18 (by decide +kernel) (fun pc h => by show cond (Nat.ble 18 pc) none _ = none; rw [Nat.ble_eq_true_of_le h]; rfl)
set_option maxRecDepth 100000 in
theorem kn_Table_entry : ∀ pc e, kc_Table_entry pc = some e → pj_okE 57 pc e = true := pj_fin 13 (by decide +kernel) (fun pc h => by show cond (Nat.ble 13 pc) none _ = none; rw [Nat.ble_eq_true_of_le h]; rfl)
set_option maxRecDepth 100000 in
theorem kn_Table_setEntry : ∀ pc e, kc_Table_setEntry pc = some e → pj_okE 58 pc e = true := pj_fin 33 (by decide +kernel) (fun pc h => by show cond (Nat.ble 33 pc) none _ = none; rw [Nat.ble_eq_true_of_le h]; rfl)
set_option maxRecDepth 100000 in
theorem kn_Table_plus : ∀ pc e, kc_Table_plus pc = some e → pj_okE 59 pc e = true := pj_fin 106 (by decide +kernel) (fun pc h => by show cond (Nat.ble 106 pc) none _ = none; rw [Nat.ble_eq_true_of_le h]; rfl)
set_option maxRecDepth 100000 in
theorem kn_Table_reduce : ∀ pc e, kc_Table_reduce pc = some e → pj_okE 60 pc e = true := pj_fin 32 (by decide +kernel) (fun pc h => by show cond (Nat.ble 32 pc) none _ = none; rw [Nat.ble_eq_true_of_le h]; rfl)
set_option maxRecDepth 100000 in
theorem kn_Table_copyFrom : ∀ pc e, kc_Table_copyFrom pc = some e → pj_okE 61 pc e = true := pj_fin 35 (by decide +kernel) (fun pc h => by show cond (Nat.ble 35 pc) none _ = none; rw [Nat.ble_eq_true_of_le h]; rfl)
set_option maxRecDepth 100000 in
theorem kn_Table_product : ∀ pc e, kc_Table_product pc = some e → pj_okE 62 pc e = true := pj_fin 119 (by decide +kernel) (fun pc h => by show cond (Nat.ble 119 pc) none _ = none; rw [Nat.ble_eq_true_of_le h]; rfl)
set_option maxRecDepth 100000 in
theorem kn_Table_coordinate : ∀ pc e, kc_Table_coordinate pc = some e → pj_okE 63 pc e = true := pj_fin 31 (by decide +kernel) (fun pc h => by show cond (Nat.ble 31 pc) none _ = none; rw [Nat.ble_eq_true_of_le h]; rfl)
set_option maxRecDepth 100000 in
theorem kn_Table_jacobiValue : ∀ pc e, kc_Table_jacobiValue pc = some e → pj_okE 64 pc e = true := pj_fin 64 (by decide +kernel) (fun pc h => by show cond (Nat.ble 64 pc) none _ = none; rw [Nat.ble_eq_true_of_le h]; rfl)
set_option maxRecDepth 100000 in
theorem kn_Table_hasFactor : ∀ pc e, kc_Table_hasFactor pc = some e → pj_okE 65 pc e = true := pj_fin 19 (by decide +kernel) (fun pc h => by show cond (Nat.ble 19 pc) none _ = none; rw [Nat.ble_eq_true_of_le h]; rfl)
set_option maxRecDepth 100000 in
theorem kn_Table_pairsWithBracket : ∀ pc e, kc_Table_pairsWithBracket pc = some e → pj_okE 66 pc e = true := pj_fin 48 (by decide +kernel) (fun pc h => by show cond (Nat.ble 48 pc) none _ = none; rw [Nat.ble_eq_true_of_le h]; rfl)
set_option maxRecDepth 100000 in
theorem kn_Li_init : ∀ pc e, kc_Li_init pc = some e → pj_okE 67 pc e = true := pj_fin 97 (by decide +kernel) (fun pc h => by show cond (Nat.ble 97 pc) none _ = none; rw [Nat.ble_eq_true_of_le h]; rfl)
set_option maxRecDepth 100000 in
theorem kn_Li_configure : ∀ pc e, kc_Li_configure pc = some e → pj_okE 68 pc e = true := pj_fin 64 (by decide +kernel) (fun pc h => by show cond (Nat.ble 64 pc) none _ = none; rw [Nat.ble_eq_true_of_le h]; rfl)
set_option maxRecDepth 100000 in
theorem kn_Li_remember : ∀ pc e, kc_Li_remember pc = some e → pj_okE 69 pc e = true := pj_fin 52 (by decide +kernel) (fun pc h => by show cond (Nat.ble 52 pc) none _ = none; rw [Nat.ble_eq_true_of_le h]; rfl)
set_option maxRecDepth 100000 in
theorem kn_Li_setBracket : ∀ pc e, kc_Li_setBracket pc = some e → pj_okE 70 pc e = true := pj_fin 53 (by decide +kernel) (fun pc h => by show cond (Nat.ble 53 pc) none _ = none; rw [Nat.ble_eq_true_of_le h]; rfl)
set_option maxRecDepth 100000 in
theorem kn_Li_at : ∀ pc e, kc_Li_at pc = some e → pj_okE 71 pc e = true := pj_fin 18 (by decide +kernel) (fun pc h => by show cond (Nat.ble 18 pc) none _ = none; rw [Nat.ble_eq_true_of_le h]; rfl)
set_option maxRecDepth 100000 in
theorem kn_Li_put : ∀ pc e, kc_Li_put pc = some e → pj_okE 72 pc e = true := pj_fin 15 (by decide +kernel) (fun pc h => by show cond (Nat.ble 15 pc) none _ = none; rw [Nat.ble_eq_true_of_le h]; rfl)
set_option maxRecDepth 100000 in
theorem kn_Li_append : ∀ pc e, kc_Li_append pc = some e → pj_okE 73 pc e = true := pj_fin 37 (by decide +kernel) (fun pc h => by show cond (Nat.ble 37 pc) none _ = none; rw [Nat.ble_eq_true_of_le h]; rfl)
set_option maxRecDepth 100000 in
theorem kn_Li_clearText : ∀ pc e, kc_Li_clearText pc = some e → pj_okE 74 pc e = true := pj_fin 18 (by decide +kernel) (fun pc h => by show cond (Nat.ble 18 pc) none _ = none; rw [Nat.ble_eq_true_of_le h]; rfl)
set_option maxRecDepth 100000 in
theorem kn_Li_loadText : ∀ pc e, kc_Li_loadText pc = some e → pj_okE 75 pc e = true := pj_fin 46 (by decide +kernel) (fun pc h => by show cond (Nat.ble 46 pc) none _ = none; rw [Nat.ble_eq_true_of_le h]; rfl)
set_option maxRecDepth 100000 in
theorem kn_Li_prime : ∀ pc e, kc_Li_prime pc = some e → pj_okE 76 pc e = true := pj_fin 8 (by decide +kernel) (fun pc h => by show cond (Nat.ble 8 pc) none _ = none; rw [Nat.ble_eq_true_of_le h]; rfl)
set_option maxRecDepth 100000 in
theorem kn_Li_dimension : ∀ pc e, kc_Li_dimension pc = some e → pj_okE 77 pc e = true := pj_fin 8 (by decide +kernel) (fun pc h => by show cond (Nat.ble 8 pc) none _ = none; rw [Nat.ble_eq_true_of_le h]; rfl)
set_option maxRecDepth 100000 in
theorem kn_Li_bracket : ∀ pc e, kc_Li_bracket pc = some e → pj_okE 78 pc e = true := pj_fin 34 (by decide +kernel) (fun pc h => by show cond (Nat.ble 34 pc) none _ = none; rw [Nat.ble_eq_true_of_le h]; rfl)
set_option maxRecDepth 100000 in
theorem kn_Li_jacobiFailure : ∀ pc e, kc_Li_jacobiFailure pc = some e → pj_okE 79 pc e = true := pj_fin 89 (by decide +kernel) (fun pc h => by show cond (Nat.ble 89 pc) none _ = none; rw [Nat.ble_eq_true_of_le h]; rfl)
set_option maxRecDepth 100000 in
theorem kn_Li_derivedDimension : ∀ pc e, kc_Li_derivedDimension pc = some e → pj_okE 80 pc e = true := pj_fin 24 (by decide +kernel) (fun pc h => by show cond (Nat.ble 24 pc) none _ = none; rw [Nat.ble_eq_true_of_le h]; rfl)
set_option maxRecDepth 100000 in
theorem kn_Li_inverse : ∀ pc e, kc_Li_inverse pc = some e → pj_okE 81 pc e = true := pj_fin 26 (by decide +kernel) (fun pc h => by show cond (Nat.ble 26 pc) none _ = none; rw [Nat.ble_eq_true_of_le h]; rfl)
set_option maxRecDepth 100000 in
theorem kn_Li_lowerCentralDimension : ∀ pc e, kc_Li_lowerCentralDimension pc = some e → pj_okE 82 pc e = true := pj_fin 24 (by decide +kernel) (fun pc h => by show cond (Nat.ble 24 pc) none _ = none; rw [Nat.ble_eq_true_of_le h]; rfl)
set_option maxRecDepth 100000 in
theorem kn_Li_derivedVector : ∀ pc e, kc_Li_derivedVector pc = some e → pj_okE 83 pc e = true := pj_fin 29 (by decide +kernel) (fun pc h => by show cond (Nat.ble 29 pc) none _ = none; rw [Nat.ble_eq_true_of_le h]; rfl)
set_option maxRecDepth 100000 in
theorem kn_Li_kind : ∀ pc e, kc_Li_kind pc = some e → pj_okE 84 pc e = true := pj_fin 38 (by decide +kernel) (fun pc h => by show cond (Nat.ble 38 pc) none _ = none; rw [Nat.ble_eq_true_of_le h]; rfl)
set_option maxRecDepth 100000 in
theorem kn_Li_centerDimension : ∀ pc e, kc_Li_centerDimension pc = some e → pj_okE 85 pc e = true := pj_fin 11 (by decide +kernel) (fun pc h => by show cond (Nat.ble 11 pc) none _ = none; rw [Nat.ble_eq_true_of_le h]; rfl)
set_option maxRecDepth 100000 in
theorem kn_Li_centerVector : ∀ pc e, kc_Li_centerVector pc = some e → pj_okE 86 pc e = true := pj_fin 18 (by decide +kernel) (fun pc h => by show cond (Nat.ble 18 pc) none _ = none; rw [Nat.ble_eq_true_of_le h]; rfl)
set_option maxRecDepth 100000 in
theorem kn_Li_centralizerDimension : ∀ pc e, kc_Li_centralizerDimension pc = some e → pj_okE 87 pc e = true := pj_fin 33 (by decide +kernel) (fun pc h => by show cond (Nat.ble 33 pc) none _ = none; rw [Nat.ble_eq_true_of_le h]; rfl)
set_option maxRecDepth 100000 in
theorem kn_Li_idealDimension : ∀ pc e, kc_Li_idealDimension pc = some e → pj_okE 88 pc e = true := pj_fin 25 (by decide +kernel) (fun pc h => by show cond (Nat.ble 25 pc) none _ = none; rw [Nat.ble_eq_true_of_le h]; rfl)
set_option maxRecDepth 100000 in
theorem kn_Li_subalgebraDimension : ∀ pc e, kc_Li_subalgebraDimension pc = some e → pj_okE 89 pc e = true := pj_fin 37 (by decide +kernel) (fun pc h => by show cond (Nat.ble 37 pc) none _ = none; rw [Nat.ble_eq_true_of_le h]; rfl)
set_option maxRecDepth 100000 in
theorem kn_Li_subalgebraVector : ∀ pc e, kc_Li_subalgebraVector pc = some e → pj_okE 90 pc e = true := pj_fin 42 (by decide +kernel) (fun pc h => by show cond (Nat.ble 42 pc) none _ = none; rw [Nat.ble_eq_true_of_le h]; rfl)
set_option maxRecDepth 100000 in
theorem kn_Li_adjointEntry : ∀ pc e, kc_Li_adjointEntry pc = some e → pj_okE 91 pc e = true := pj_fin 60 (by decide +kernel) (fun pc h => by show cond (Nat.ble 60 pc) none _ = none; rw [Nat.ble_eq_true_of_le h]; rfl)
set_option maxRecDepth 100000 in
theorem kn_Li_nilpotencyIndex : ∀ pc e, kc_Li_nilpotencyIndex pc = some e → pj_okE 92 pc e = true := pj_fin 22 (by decide +kernel) (fun pc h => by show cond (Nat.ble 22 pc) none _ = none; rw [Nat.ble_eq_true_of_le h]; rfl)
set_option maxRecDepth 100000 in
theorem kn_Li_killing : ∀ pc e, kc_Li_killing pc = some e → pj_okE 93 pc e = true := pj_fin 34 (by decide +kernel) (fun pc h => by show cond (Nat.ble 34 pc) none _ = none; rw [Nat.ble_eq_true_of_le h]; rfl)
set_option maxRecDepth 100000 in
theorem kn_Li_killingRadicalDimension : ∀ pc e, kc_Li_killingRadicalDimension pc = some e → pj_okE 94 pc e = true := pj_fin 8 (by decide +kernel) (fun pc h => by show cond (Nat.ble 8 pc) none _ = none; rw [Nat.ble_eq_true_of_le h]; rfl)
set_option maxRecDepth 100000 in
theorem kn_Li_derivationDimension : ∀ pc e, kc_Li_derivationDimension pc = some e → pj_okE 95 pc e = true := pj_fin 8 (by decide +kernel) (fun pc h => by show cond (Nat.ble 8 pc) none _ = none; rw [Nat.ble_eq_true_of_le h]; rfl)
set_option maxRecDepth 100000 in
theorem kn_Li_addBasis : ∀ pc e, kc_Li_addBasis pc = some e → pj_okE 96 pc e = true := pj_fin 49 (by decide +kernel) (fun pc h => by show cond (Nat.ble 49 pc) none _ = none; rw [Nat.ble_eq_true_of_le h]; rfl)
set_option maxRecDepth 100000 in
theorem kn_Li_scaleBasis : ∀ pc e, kc_Li_scaleBasis pc = some e → pj_okE 97 pc e = true := pj_fin 45 (by decide +kernel) (fun pc h => by show cond (Nat.ble 45 pc) none _ = none; rw [Nat.ble_eq_true_of_le h]; rfl)
set_option maxRecDepth 100000 in
theorem kn_Li_swapBasis : ∀ pc e, kc_Li_swapBasis pc = some e → pj_okE 98 pc e = true := pj_fin 37 (by decide +kernel) (fun pc h => by show cond (Nat.ble 37 pc) none _ = none; rw [Nat.ble_eq_true_of_le h]; rfl)
set_option maxRecDepth 100000 in
theorem kn_Li_undo : ∀ pc e, kc_Li_undo pc = some e → pj_okE 99 pc e = true := pj_fin 40 (by decide +kernel) (fun pc h => by show cond (Nat.ble 40 pc) none _ = none; rw [Nat.ble_eq_true_of_le h]; rfl)
set_option maxRecDepth 100000 in
theorem kn_Li_save : ∀ pc e, kc_Li_save pc = some e → pj_okE 100 pc e = true := pj_fin 31 (by decide +kernel) (fun pc h => by show cond (Nat.ble 31 pc) none _ = none; rw [Nat.ble_eq_true_of_le h]; rfl)
set_option maxRecDepth 100000 in
theorem kn_Li_restore : ∀ pc e, kc_Li_restore pc = some e → pj_okE 101 pc e = true := pj_fin 50 (by decide +kernel) (fun pc h => by show cond (Nat.ble 50 pc) none _ = none; rw [Nat.ble_eq_true_of_le h]; rfl)
set_option maxRecDepth 100000 in
theorem kn_Mo_init : ∀ pc e, kc_Mo_init pc = some e → pj_okE 102 pc e = true := pj_fin 193 (by decide +kernel) (fun pc h => by show cond (Nat.ble 193 pc) none _ = none; rw [Nat.ble_eq_true_of_le h]; rfl)
set_option maxRecDepth 100000 in
theorem kn_Mo_configure : ∀ pc e, kc_Mo_configure pc = some e → pj_okE 103 pc e = true := pj_fin 82 (by decide +kernel) (fun pc h => by show cond (Nat.ble 82 pc) none _ = none; rw [Nat.ble_eq_true_of_le h]; rfl)
set_option maxRecDepth 100000 in
theorem kn_Mo_in : ∀ pc e, kc_Mo_in pc = some e → pj_okE 104 pc e = true := pj_fin 16 (by decide +kernel) (fun pc h => by show cond (Nat.ble 16 pc) none _ = none; rw [Nat.ble_eq_true_of_le h]; rfl)
set_option maxRecDepth 100000 in
theorem kn_Mo_keep : ∀ pc e, kc_Mo_keep pc = some e → pj_okE 105 pc e = true := pj_fin 94 (by decide +kernel) (fun pc h => by show cond (Nat.ble 94 pc) none _ = none; rw [Nat.ble_eq_true_of_le h]; rfl)
set_option maxRecDepth 100000 in
theorem kn_Mo_power : ∀ pc e, kc_Mo_power pc = some e → pj_okE 106 pc e = true := pj_fin 21 (by decide +kernel) (fun pc h => by show cond (Nat.ble 21 pc) none _ = none; rw [Nat.ble_eq_true_of_le h]; rfl)
set_option maxRecDepth 100000 in
theorem kn_Mo_setBracket : ∀ pc e, kc_Mo_setBracket pc = some e → pj_okE 107 pc e = true := pj_fin 78 (by decide +kernel) (fun pc h => by show cond (Nat.ble 78 pc) none _ = none; rw [Nat.ble_eq_true_of_le h]; rfl)
set_option maxRecDepth 100000 in
theorem kn_Mo_isIndex : ∀ pc e, kc_Mo_isIndex pc = some e → pj_okE 108 pc e = true := pj_fin 14 (by decide +kernel) (fun pc h => by show cond (Nat.ble 14 pc) none _ = none; rw [Nat.ble_eq_true_of_le h]; rfl)
set_option maxRecDepth 100000 in
theorem kn_Mo_isVector : ∀ pc e, kc_Mo_isVector pc = some e → pj_okE 109 pc e = true := pj_fin 23 (by decide +kernel) (fun pc h => by show cond (Nat.ble 23 pc) none _ = none; rw [Nat.ble_eq_true_of_le h]; rfl)
set_option maxRecDepth 100000 in
theorem kn_Mo_at : ∀ pc e, kc_Mo_at pc = some e → pj_okE 110 pc e = true := pj_fin 10 (by decide +kernel) (fun pc h => by show cond (Nat.ble 10 pc) none _ = none; rw [Nat.ble_eq_true_of_le h]; rfl)
set_option maxRecDepth 100000 in
theorem kn_Mo_numberOf : ∀ pc e, kc_Mo_numberOf pc = some e → pj_okE 111 pc e = true := pj_fin 41 (by decide +kernel) (fun pc h => by show cond (Nat.ble 41 pc) none _ = none; rw [Nat.ble_eq_true_of_le h]; rfl)
set_option maxRecDepth 100000 in
theorem kn_Mo_read : ∀ pc e, kc_Mo_read pc = some e → pj_okE 112 pc e = true := pj_fin 54 (by decide +kernel) (fun pc h => by show cond (Nat.ble 54 pc) none _ = none; rw [Nat.ble_eq_true_of_le h]; rfl)
set_option maxRecDepth 100000 in
theorem kn_Mo_setPair : ∀ pc e, kc_Mo_setPair pc = some e → pj_okE 113 pc e = true := pj_fin 61 (by decide +kernel) (fun pc h => by show cond (Nat.ble 61 pc) none _ = none; rw [Nat.ble_eq_true_of_le h]; rfl)
set_option maxRecDepth 100000 in
theorem kn_Mo_mod : ∀ pc e, kc_Mo_mod pc = some e → pj_okE 114 pc e = true := pj_fin 26 (by decide +kernel) (fun pc h => by show cond (Nat.ble 26 pc) none _ = none; rw [Nat.ble_eq_true_of_le h]; rfl)
set_option maxRecDepth 100000 in
theorem kn_Mo_append : ∀ pc e, kc_Mo_append pc = some e → pj_okE 115 pc e = true := pj_fin 55 (by decide +kernel) (fun pc h => by show cond (Nat.ble 55 pc) none _ = none; rw [Nat.ble_eq_true_of_le h]; rfl)
set_option maxRecDepth 100000 in
theorem kn_Mo_clearText : ∀ pc e, kc_Mo_clearText pc = some e → pj_okE 116 pc e = true := pj_fin 17 (by decide +kernel) (fun pc h => by show cond (Nat.ble 17 pc) none _ = none; rw [Nat.ble_eq_true_of_le h]; rfl)
set_option maxRecDepth 100000 in
theorem kn_Mo_loadText : ∀ pc e, kc_Mo_loadText pc = some e → pj_okE 117 pc e = true := pj_fin 135 (by decide +kernel) (fun pc h => by show cond (Nat.ble 135 pc) none _ = none; rw [Nat.ble_eq_true_of_le h]; rfl)
set_option maxRecDepth 100000 in
theorem kn_Mo_readItem : ∀ pc e, kc_Mo_readItem pc = some e → pj_okE 118 pc e = true := pj_fin 218 (by decide +kernel) (fun pc h => by show cond (Nat.ble 218 pc) none _ = none; rw [Nat.ble_eq_true_of_le h]; rfl)
set_option maxRecDepth 100000 in
theorem kn_Mo_current : ∀ pc e, kc_Mo_current pc = some e → pj_okE 119 pc e = true := pj_fin 35 (by decide +kernel) (fun pc h => by show cond (Nat.ble 35 pc) none _ = none; rw [Nat.ble_eq_true_of_le h]; rfl)
set_option maxRecDepth 100000 in
theorem kn_Mo_characterAt : ∀ pc e, kc_Mo_characterAt pc = some e → pj_okE 120 pc e = true := pj_fin 19 (by decide +kernel) (fun pc h => by show cond (Nat.ble 19 pc) none _ = none; rw [Nat.ble_eq_true_of_le h]; rfl)
set_option maxRecDepth 100000 in
theorem kn_Mo_accept : ∀ pc e, kc_Mo_accept pc = some e → pj_okE 121 pc e = true := pj_fin 39 (by decide +kernel) (fun pc h => by show cond (Nat.ble 39 pc) none _ = none; rw [Nat.ble_eq_true_of_le h]; rfl)
set_option maxRecDepth 100000 in
theorem kn_Mo_isFine : ∀ pc e, kc_Mo_isFine pc = some e → pj_okE 122 pc e = true := pj_fin 15 (by decide +kernel) (fun pc h => by show cond (Nat.ble 15 pc) none _ = none; rw [Nat.ble_eq_true_of_le h]; rfl)
set_option maxRecDepth 100000 in
theorem kn_Mo_index : ∀ pc e, kc_Mo_index pc = some e → pj_okE 123 pc e = true := pj_fin 27 (by decide +kernel) (fun pc h => by show cond (Nat.ble 27 pc) none _ = none; rw [Nat.ble_eq_true_of_le h]; rfl)
set_option maxRecDepth 100000 in
theorem kn_Mo_readValue : ∀ pc e, kc_Mo_readValue pc = some e → pj_okE 124 pc e = true := pj_fin 106 (by decide +kernel) (fun pc h => by show cond (Nat.ble 106 pc) none _ = none; rw [Nat.ble_eq_true_of_le h]; rfl)
set_option maxRecDepth 100000 in
theorem kn_Mo_readTerm : ∀ pc e, kc_Mo_readTerm pc = some e → pj_okE 125 pc e = true := pj_fin 99 (by decide +kernel) (fun pc h => by show cond (Nat.ble 99 pc) none _ = none; rw [Nat.ble_eq_true_of_le h]; rfl)
set_option maxRecDepth 100000 in
theorem kn_Mo_prime : ∀ pc e, kc_Mo_prime pc = some e → pj_okE 126 pc e = true := pj_fin 12 (by decide +kernel) (fun pc h => by show cond (Nat.ble 12 pc) none _ = none; rw [Nat.ble_eq_true_of_le h]; rfl)
set_option maxRecDepth 100000 in
theorem kn_Mo_dimension : ∀ pc e, kc_Mo_dimension pc = some e → pj_okE 127 pc e = true := pj_fin 12 (by decide +kernel) (fun pc h => by show cond (Nat.ble 12 pc) none _ = none; rw [Nat.ble_eq_true_of_le h]; rfl)
set_option maxRecDepth 100000 in
theorem kn_Mo_bracket : ∀ pc e, kc_Mo_bracket pc = some e → pj_okE 128 pc e = true := pj_fin 65 (by decide +kernel) (fun pc h => by show cond (Nat.ble 65 pc) none _ = none; rw [Nat.ble_eq_true_of_le h]; rfl)
set_option maxRecDepth 100000 in
theorem kn_Mo_bracketOf : ∀ pc e, kc_Mo_bracketOf pc = some e → pj_okE 129 pc e = true := pj_fin 107 (by decide +kernel) (fun pc h => by show cond (Nat.ble 107 pc) none _ = none; rw [Nat.ble_eq_true_of_le h]; rfl)
set_option maxRecDepth 100000 in
theorem kn_Mo_jacobiFailure : ∀ pc e, kc_Mo_jacobiFailure pc = some e → pj_okE 130 pc e = true := pj_fin 88 (by decide +kernel) (fun pc h => by show cond (Nat.ble 88 pc) none _ = none; rw [Nat.ble_eq_true_of_le h]; rfl)
set_option maxRecDepth 100000 in
theorem kn_Mo_isJacobi : ∀ pc e, kc_Mo_isJacobi pc = some e → pj_okE 131 pc e = true := pj_fin 161 (by decide +kernel) (fun pc h => by show cond (Nat.ble 161 pc) none _ = none; rw [Nat.ble_eq_true_of_le h]; rfl)
set_option maxRecDepth 100000 in
theorem kn_Mo_derivedDimension : ∀ pc e, kc_Mo_derivedDimension pc = some e → pj_okE 132 pc e = true := pj_fin 26 (by decide +kernel) (fun pc h => by show cond (Nat.ble 26 pc) none _ = none; rw [Nat.ble_eq_true_of_le h]; rfl)
set_option maxRecDepth 100000 in
theorem kn_Mo_makeLevel : ∀ pc e, kc_Mo_makeLevel pc = some e → pj_okE 133 pc e = true := pj_fin 37 (by decide +kernel) (fun pc h => by show cond (Nat.ble 37 pc) none _ = none; rw [Nat.ble_eq_true_of_le h]; rfl)
set_option maxRecDepth 100000 in
theorem kn_Mo_makeWhole : ∀ pc e, kc_Mo_makeWhole pc = some e → pj_okE 134 pc e = true := pj_fin 49 (by decide +kernel) (fun pc h => by show cond (Nat.ble 49 pc) none _ = none; rw [Nat.ble_eq_true_of_le h]; rfl)
set_option maxRecDepth 100000 in
theorem kn_Mo_multiply : ∀ pc e, kc_Mo_multiply pc = some e → pj_okE 135 pc e = true := pj_fin 121 (by decide +kernel) (fun pc h => by show cond (Nat.ble 121 pc) none _ = none; rw [Nat.ble_eq_true_of_le h]; rfl)
set_option maxRecDepth 100000 in
theorem kn_Mo_add : ∀ pc e, kc_Mo_add pc = some e → pj_okE 136 pc e = true := pj_fin 287 (by decide +kernel) (fun pc h => by show cond (Nat.ble 287 pc) none _ = none; rw [Nat.ble_eq_true_of_le h]; rfl)
set_option maxRecDepth 100000 in
theorem kn_Mo_leadOf : ∀ pc e, kc_Mo_leadOf pc = some e → pj_okE 137 pc e = true := pj_fin 28 (by decide +kernel) (fun pc h => by show cond (Nat.ble 28 pc) none _ = none; rw [Nat.ble_eq_true_of_le h]; rfl)
set_option maxRecDepth 100000 in
theorem kn_Mo_clear : ∀ pc e, kc_Mo_clear pc = some e → pj_okE 138 pc e = true := pj_fin 56 (by decide +kernel) (fun pc h => by show cond (Nat.ble 56 pc) none _ = none; rw [Nat.ble_eq_true_of_le h]; rfl)
set_option maxRecDepth 100000 in
theorem kn_Mo_inverse : ∀ pc e, kc_Mo_inverse pc = some e → pj_okE 139 pc e = true := pj_fin 21 (by decide +kernel) (fun pc h => by show cond (Nat.ble 21 pc) none _ = none; rw [Nat.ble_eq_true_of_le h]; rfl)
set_option maxRecDepth 100000 in
theorem kn_Mo_lowerCentralDimension : ∀ pc e, kc_Mo_lowerCentralDimension pc = some e → pj_okE 140 pc e = true := pj_fin 26 (by decide +kernel) (fun pc h => by show cond (Nat.ble 26 pc) none _ = none; rw [Nat.ble_eq_true_of_le h]; rfl)
set_option maxRecDepth 100000 in
theorem kn_Mo_derivedVector : ∀ pc e, kc_Mo_derivedVector pc = some e → pj_okE 141 pc e = true := pj_fin 34 (by decide +kernel) (fun pc h => by show cond (Nat.ble 34 pc) none _ = none; rw [Nat.ble_eq_true_of_le h]; rfl)
set_option maxRecDepth 100000 in
theorem kn_Mo_vectorOf : ∀ pc e, kc_Mo_vectorOf pc = some e → pj_okE 142 pc e = true := pj_fin 29 (by decide +kernel) (fun pc h => by show cond (Nat.ble 29 pc) none _ = none; rw [Nat.ble_eq_true_of_le h]; rfl)
set_option maxRecDepth 100000 in
theorem kn_Mo_kind : ∀ pc e, kc_Mo_kind pc = some e → pj_okE 143 pc e = true := pj_fin 35 (by decide +kernel) (fun pc h => by show cond (Nat.ble 35 pc) none _ = none; rw [Nat.ble_eq_true_of_le h]; rfl)
set_option maxRecDepth 100000 in
theorem kn_Mo_centerDimension : ∀ pc e, kc_Mo_centerDimension pc = some e → pj_okE 144 pc e = true := pj_fin 16 (by decide +kernel) (fun pc h => by show cond (Nat.ble 16 pc) none _ = none; rw [Nat.ble_eq_true_of_le h]; rfl)
set_option maxRecDepth 100000 in
theorem kn_Mo_makeCenter : ∀ pc e, kc_Mo_makeCenter pc = some e → pj_okE 145 pc e = true := pj_fin 51 (by decide +kernel) (fun pc h => by show cond (Nat.ble 51 pc) none _ = none; rw [Nat.ble_eq_true_of_le h]; rfl)
set_option maxRecDepth 100000 in
theorem kn_Mo_demand : ∀ pc e, kc_Mo_demand pc = some e → pj_okE 146 pc e = true := pj_fin 121 (by decide +kernel) (fun pc h => by show cond (Nat.ble 121 pc) none _ = none; rw [Nat.ble_eq_true_of_le h]; rfl)
set_option maxRecDepth 100000 in
theorem kn_Mo_solve : ∀ pc e, kc_Mo_solve pc = some e → pj_okE 147 pc e = true := pj_fin 154 (by decide +kernel) (fun pc h => by show cond (Nat.ble 154 pc) none _ = none; rw [Nat.ble_eq_true_of_le h]; rfl)
set_option maxRecDepth 100000 in
theorem kn_Mo_centerVector : ∀ pc e, kc_Mo_centerVector pc = some e → pj_okE 148 pc e = true := pj_fin 21 (by decide +kernel) (fun pc h => by show cond (Nat.ble 21 pc) none _ = none; rw [Nat.ble_eq_true_of_le h]; rfl)
set_option maxRecDepth 100000 in
theorem kn_Mo_centralizerDimension : ∀ pc e, kc_Mo_centralizerDimension pc = some e → pj_okE 149 pc e = true := pj_fin 54 (by decide +kernel) (fun pc h => by show cond (Nat.ble 54 pc) none _ = none; rw [Nat.ble_eq_true_of_le h]; rfl)
set_option maxRecDepth 100000 in
theorem kn_Mo_idealDimension : ∀ pc e, kc_Mo_idealDimension pc = some e → pj_okE 150 pc e = true := pj_fin 57 (by decide +kernel) (fun pc h => by show cond (Nat.ble 57 pc) none _ = none; rw [Nat.ble_eq_true_of_le h]; rfl)
set_option maxRecDepth 100000 in
theorem kn_Mo_close : ∀ pc e, kc_Mo_close pc = some e → pj_okE 151 pc e = true := pj_fin 146 (by decide +kernel) (fun pc h => by show cond (Nat.ble 146 pc) none _ = none; rw [Nat.ble_eq_true_of_le h]; rfl)
set_option maxRecDepth 100000 in
theorem kn_Mo_subalgebraDimension : ∀ pc e, kc_Mo_subalgebraDimension pc = some e → pj_okE 152 pc e = true := pj_fin 36 (by decide +kernel) (fun pc h => by show cond (Nat.ble 36 pc) none _ = none; rw [Nat.ble_eq_true_of_le h]; rfl)
set_option maxRecDepth 100000 in
theorem kn_Mo_makeSubalgebra : ∀ pc e, kc_Mo_makeSubalgebra pc = some e → pj_okE 153 pc e = true := pj_fin 59 (by decide +kernel) (fun pc h => by show cond (Nat.ble 59 pc) none _ = none; rw [Nat.ble_eq_true_of_le h]; rfl)
set_option maxRecDepth 100000 in
theorem kn_Mo_subalgebraVector : ∀ pc e, kc_Mo_subalgebraVector pc = some e → pj_okE 154 pc e = true := pj_fin 39 (by decide +kernel) (fun pc h => by show cond (Nat.ble 39 pc) none _ = none; rw [Nat.ble_eq_true_of_le h]; rfl)
set_option maxRecDepth 100000 in
theorem kn_Mo_adjointEntry : ∀ pc e, kc_Mo_adjointEntry pc = some e → pj_okE 155 pc e = true := pj_fin 51 (by decide +kernel) (fun pc h => by show cond (Nat.ble 51 pc) none _ = none; rw [Nat.ble_eq_true_of_le h]; rfl)
set_option maxRecDepth 100000 in
theorem kn_Mo_makeAdjoint : ∀ pc e, kc_Mo_makeAdjoint pc = some e → pj_okE 156 pc e = true := pj_fin 112 (by decide +kernel) (fun pc h => by show cond (Nat.ble 112 pc) none _ = none; rw [Nat.ble_eq_true_of_le h]; rfl)
set_option maxRecDepth 100000 in
theorem kn_Mo_nilpotencyIndex : ∀ pc e, kc_Mo_nilpotencyIndex pc = some e → pj_okE 157 pc e = true := pj_fin 105 (by decide +kernel) (fun pc h => by show cond (Nat.ble 105 pc) none _ = none; rw [Nat.ble_eq_true_of_le h]; rfl)
set_option maxRecDepth 100000 in
theorem kn_Mo_isZero : ∀ pc e, kc_Mo_isZero pc = some e → pj_okE 158 pc e = true := pj_fin 63 (by decide +kernel) (fun pc h => by show cond (Nat.ble 63 pc) none _ = none; rw [Nat.ble_eq_true_of_le h]; rfl)
set_option maxRecDepth 100000 in
theorem kn_Mo_makeProduct : ∀ pc e, kc_Mo_makeProduct pc = some e → pj_okE 159 pc e = true := pj_fin 102 (by decide +kernel) (fun pc h => by show cond (Nat.ble 102 pc) none _ = none; rw [Nat.ble_eq_true_of_le h]; rfl)
set_option maxRecDepth 100000 in
theorem kn_Mo_killing : ∀ pc e, kc_Mo_killing pc = some e → pj_okE 160 pc e = true := pj_fin 32 (by decide +kernel) (fun pc h => by show cond (Nat.ble 32 pc) none _ = none; rw [Nat.ble_eq_true_of_le h]; rfl)
set_option maxRecDepth 100000 in
theorem kn_Mo_killingOf : ∀ pc e, kc_Mo_killingOf pc = some e → pj_okE 161 pc e = true := pj_fin 71 (by decide +kernel) (fun pc h => by show cond (Nat.ble 71 pc) none _ = none; rw [Nat.ble_eq_true_of_le h]; rfl)
set_option maxRecDepth 100000 in
theorem kn_Mo_killingRadicalDimension : ∀ pc e, kc_Mo_killingRadicalDimension pc = some e → pj_okE 162 pc e = true := pj_fin 115 (by decide +kernel) (fun pc h => by show cond (Nat.ble 115 pc) none _ = none; rw [Nat.ble_eq_true_of_le h]; rfl)
set_option maxRecDepth 100000 in
theorem kn_Mo_derivationDimension : ∀ pc e, kc_Mo_derivationDimension pc = some e → pj_okE 163 pc e = true := pj_fin 94 (by decide +kernel) (fun pc h => by show cond (Nat.ble 94 pc) none _ = none; rw [Nat.ble_eq_true_of_le h]; rfl)
set_option maxRecDepth 100000 in
theorem kn_Mo_makeLine : ∀ pc e, kc_Mo_makeLine pc = some e → pj_okE 164 pc e = true := pj_fin 160 (by decide +kernel) (fun pc h => by show cond (Nat.ble 160 pc) none _ = none; rw [Nat.ble_eq_true_of_le h]; rfl)
set_option maxRecDepth 100000 in
theorem kn_Mo_addLine : ∀ pc e, kc_Mo_addLine pc = some e → pj_okE 165 pc e = true := pj_fin 206 (by decide +kernel) (fun pc h => by show cond (Nat.ble 206 pc) none _ = none; rw [Nat.ble_eq_true_of_le h]; rfl)
set_option maxRecDepth 100000 in
theorem kn_Mo_addBasis : ∀ pc e, kc_Mo_addBasis pc = some e → pj_okE 166 pc e = true := pj_fin 141 (by decide +kernel) (fun pc h => by show cond (Nat.ble 141 pc) none _ = none; rw [Nat.ble_eq_true_of_le h]; rfl)
set_option maxRecDepth 100000 in
theorem kn_Mo_beginChange : ∀ pc e, kc_Mo_beginChange pc = some e → pj_okE 167 pc e = true := pj_fin 56 (by decide +kernel) (fun pc h => by show cond (Nat.ble 56 pc) none _ = none; rw [Nat.ble_eq_true_of_le h]; rfl)
set_option maxRecDepth 100000 in
theorem kn_Mo_makeTable : ∀ pc e, kc_Mo_makeTable pc = some e → pj_okE 168 pc e = true := pj_fin 88 (by decide +kernel) (fun pc h => by show cond (Nat.ble 88 pc) none _ = none; rw [Nat.ble_eq_true_of_le h]; rfl)
set_option maxRecDepth 100000 in
theorem kn_Mo_takeTable : ∀ pc e, kc_Mo_takeTable pc = some e → pj_okE 169 pc e = true := pj_fin 29 (by decide +kernel) (fun pc h => by show cond (Nat.ble 29 pc) none _ = none; rw [Nat.ble_eq_true_of_le h]; rfl)
set_option maxRecDepth 100000 in
theorem kn_Mo_scaleBasis : ∀ pc e, kc_Mo_scaleBasis pc = some e → pj_okE 170 pc e = true := pj_fin 150 (by decide +kernel) (fun pc h => by show cond (Nat.ble 150 pc) none _ = none; rw [Nat.ble_eq_true_of_le h]; rfl)
set_option maxRecDepth 100000 in
theorem kn_Mo_swapBasis : ∀ pc e, kc_Mo_swapBasis pc = some e → pj_okE 171 pc e = true := pj_fin 158 (by decide +kernel) (fun pc h => by show cond (Nat.ble 158 pc) none _ = none; rw [Nat.ble_eq_true_of_le h]; rfl)
set_option maxRecDepth 100000 in
theorem kn_Mo_undo : ∀ pc e, kc_Mo_undo pc = some e → pj_okE 172 pc e = true := pj_fin 64 (by decide +kernel) (fun pc h => by show cond (Nat.ble 64 pc) none _ = none; rw [Nat.ble_eq_true_of_le h]; rfl)
set_option maxRecDepth 100000 in
theorem kn_Mo_save : ∀ pc e, kc_Mo_save pc = some e → pj_okE 173 pc e = true := pj_fin 61 (by decide +kernel) (fun pc h => by show cond (Nat.ble 61 pc) none _ = none; rw [Nat.ble_eq_true_of_le h]; rfl)
set_option maxRecDepth 100000 in
theorem kn_Mo_restore : ∀ pc e, kc_Mo_restore pc = some e → pj_okE 174 pc e = true := pj_fin 71 (by decide +kernel) (fun pc h => by show cond (Nat.ble 71 pc) none _ = none; rw [Nat.ble_eq_true_of_le h]; rfl)
set_option maxRecDepth 100000 in
theorem kn_Math_min : ∀ pc e, kc_Math_min pc = some e → pj_okE 175 pc e = true := pj_fin 11 (by decide +kernel) (fun pc h => by show cond (Nat.ble 11 pc) none _ = none; rw [Nat.ble_eq_true_of_le h]; rfl)
set_option maxRecDepth 100000 in
theorem kn_Math_max : ∀ pc e, kc_Math_max pc = some e → pj_okE 176 pc e = true := pj_fin 11 (by decide +kernel) (fun pc h => by show cond (Nat.ble 11 pc) none _ = none; rw [Nat.ble_eq_true_of_le h]; rfl)
set_option maxRecDepth 100000 in
theorem kn_Arrays_fill : ∀ pc e, kc_Arrays_fill pc = some e → pj_okE 177 pc e = true := pj_fin 21 (by decide +kernel) (fun pc h => by show cond (Nat.ble 21 pc) none _ = none; rw [Nat.ble_eq_true_of_le h]; rfl)
set_option maxRecDepth 100000 in
theorem kn_Math_floorMod : ∀ pc e, kc_Math_floorMod pc = some e → pj_okE 178 pc e = true := pj_fin 20 (by decide +kernel) (fun pc h => by show cond (Nat.ble 20 pc) none _ = none; rw [Nat.ble_eq_true_of_le h]; rfl)
set_option maxRecDepth 100000 in
theorem kn_Lw_law_0 : ∀ q, q < 60 → (match kc_Lw_law (0 + q) with | some e => pj_okE 179 (0 + q) e | none => true) = true := by decide +kernel
set_option maxRecDepth 100000 in
theorem kn_Lw_law_60 : ∀ q, q < 60 → (match kc_Lw_law (60 + q) with | some e => pj_okE 179 (60 + q) e | none => true) = true := by decide +kernel
set_option maxRecDepth 100000 in
theorem kn_Lw_law_120 : ∀ q, q < 60 → (match kc_Lw_law (120 + q) with | some e => pj_okE 179 (120 + q) e | none => true) = true := by decide +kernel
set_option maxRecDepth 100000 in
theorem kn_Lw_law_180 : ∀ q, q < 60 → (match kc_Lw_law (180 + q) with | some e => pj_okE 179 (180 + q) e | none => true) = true := by decide +kernel
set_option maxRecDepth 100000 in
theorem kn_Lw_law_240 : ∀ q, q < 60 → (match kc_Lw_law (240 + q) with | some e => pj_okE 179 (240 + q) e | none => true) = true := by decide +kernel
set_option maxRecDepth 100000 in
theorem kn_Lw_law_300 : ∀ q, q < 60 → (match kc_Lw_law (300 + q) with | some e => pj_okE 179 (300 + q) e | none => true) = true := by decide +kernel
set_option maxRecDepth 100000 in
theorem kn_Lw_law_360 : ∀ q, q < 60 → (match kc_Lw_law (360 + q) with | some e => pj_okE 179 (360 + q) e | none => true) = true := by decide +kernel
set_option maxRecDepth 100000 in
theorem kn_Lw_law_420 : ∀ q, q < 60 → (match kc_Lw_law (420 + q) with | some e => pj_okE 179 (420 + q) e | none => true) = true := by decide +kernel
set_option maxRecDepth 100000 in
theorem kn_Lw_law_480 : ∀ q, q < 60 → (match kc_Lw_law (480 + q) with | some e => pj_okE 179 (480 + q) e | none => true) = true := by decide +kernel
set_option maxRecDepth 100000 in
theorem kn_Lw_law_540 : ∀ q, q < 60 → (match kc_Lw_law (540 + q) with | some e => pj_okE 179 (540 + q) e | none => true) = true := by decide +kernel
set_option maxRecDepth 100000 in
theorem kn_Lw_law_600 : ∀ q, q < 60 → (match kc_Lw_law (600 + q) with | some e => pj_okE 179 (600 + q) e | none => true) = true := by decide +kernel
set_option maxRecDepth 100000 in
theorem kn_Lw_law_660 : ∀ q, q < 60 → (match kc_Lw_law (660 + q) with | some e => pj_okE 179 (660 + q) e | none => true) = true := by decide +kernel
set_option maxRecDepth 100000 in
theorem kn_Lw_law_720 : ∀ q, q < 60 → (match kc_Lw_law (720 + q) with | some e => pj_okE 179 (720 + q) e | none => true) = true := by decide +kernel
set_option maxRecDepth 100000 in
theorem kn_Lw_law_780 : ∀ q, q < 60 → (match kc_Lw_law (780 + q) with | some e => pj_okE 179 (780 + q) e | none => true) = true := by decide +kernel
set_option maxRecDepth 100000 in
theorem kn_Lw_law_840 : ∀ q, q < 60 → (match kc_Lw_law (840 + q) with | some e => pj_okE 179 (840 + q) e | none => true) = true := by decide +kernel
set_option maxRecDepth 100000 in
theorem kn_Lw_law_900 : ∀ q, q < 60 → (match kc_Lw_law (900 + q) with | some e => pj_okE 179 (900 + q) e | none => true) = true := by decide +kernel
set_option maxRecDepth 100000 in
theorem kn_Lw_law : ∀ pc e, kc_Lw_law pc = some e → pj_okE 179 pc e = true := pj_fin 916 (by
  intro pc h
  by_cases h0 : pc < 60
  · have := kn_Lw_law_0 (pc - 0) (by omega)
    rwa [show 0 + (pc - 0) = pc by omega] at this
  by_cases h60 : pc < 120
  · have := kn_Lw_law_60 (pc - 60) (by omega)
    rwa [show 60 + (pc - 60) = pc by omega] at this
  by_cases h120 : pc < 180
  · have := kn_Lw_law_120 (pc - 120) (by omega)
    rwa [show 120 + (pc - 120) = pc by omega] at this
  by_cases h180 : pc < 240
  · have := kn_Lw_law_180 (pc - 180) (by omega)
    rwa [show 180 + (pc - 180) = pc by omega] at this
  by_cases h240 : pc < 300
  · have := kn_Lw_law_240 (pc - 240) (by omega)
    rwa [show 240 + (pc - 240) = pc by omega] at this
  by_cases h300 : pc < 360
  · have := kn_Lw_law_300 (pc - 300) (by omega)
    rwa [show 300 + (pc - 300) = pc by omega] at this
  by_cases h360 : pc < 420
  · have := kn_Lw_law_360 (pc - 360) (by omega)
    rwa [show 360 + (pc - 360) = pc by omega] at this
  by_cases h420 : pc < 480
  · have := kn_Lw_law_420 (pc - 420) (by omega)
    rwa [show 420 + (pc - 420) = pc by omega] at this
  by_cases h480 : pc < 540
  · have := kn_Lw_law_480 (pc - 480) (by omega)
    rwa [show 480 + (pc - 480) = pc by omega] at this
  by_cases h540 : pc < 600
  · have := kn_Lw_law_540 (pc - 540) (by omega)
    rwa [show 540 + (pc - 540) = pc by omega] at this
  by_cases h600 : pc < 660
  · have := kn_Lw_law_600 (pc - 600) (by omega)
    rwa [show 600 + (pc - 600) = pc by omega] at this
  by_cases h660 : pc < 720
  · have := kn_Lw_law_660 (pc - 660) (by omega)
    rwa [show 660 + (pc - 660) = pc by omega] at this
  by_cases h720 : pc < 780
  · have := kn_Lw_law_720 (pc - 720) (by omega)
    rwa [show 720 + (pc - 720) = pc by omega] at this
  by_cases h780 : pc < 840
  · have := kn_Lw_law_780 (pc - 780) (by omega)
    rwa [show 780 + (pc - 780) = pc by omega] at this
  by_cases h840 : pc < 900
  · have := kn_Lw_law_840 (pc - 840) (by omega)
    rwa [show 840 + (pc - 840) = pc by omega] at this
  by_cases h900 : pc < 960
  · have := kn_Lw_law_900 (pc - 900) (by omega)
    rwa [show 900 + (pc - 900) = pc by omega] at this
  exact absurd h (by omega)) (fun pc h => by show cond (Nat.ble 916 pc) none _ = none; rw [Nat.ble_eq_true_of_le h]; rfl)
theorem k_okM : ∀ (M : Nat) (pc : Nat) (e : pj_E), k_cd M pc = some e → pj_okE M pc e = true := fun M => match M with
  | 0 => kn_Change_init
  | 1 => kn_Change_add
  | 2 => kn_Change_begin
  | 3 => kn_Change_apply
  | 4 => kn_Change_rewrite
  | 5 => kn_Change_scale
  | 6 => kn_Change_exchange
  | 7 => kn_Maps_init
  | 8 => kn_Maps_nilpotency
  | 9 => kn_Maps_trace
  | 10 => kn_Maps_radicalSize
  | 11 => kn_Maps_derivationCount
  | 12 => kn_Maps_addDerivationRule
  | 13 => kn_Maps_unknown
  | 14 => kn_Script_init
  | 15 => kn_Script_add
  | 16 => kn_Script_read
  | 17 => kn_Script_readItem
  | 18 => kn_Script_take
  | 19 => kn_Script_next
  | 20 => kn_Script_takeDigit
  | 21 => kn_Script_pairBit
  | 22 => kn_Script_readValue
  | 23 => kn_Shelf_init
  | 24 => kn_Shelf_dropFirst
  | 25 => kn_Shelf_keep
  | 26 => kn_Shelf_fetch
  | 27 => kn_Shelf_isEmpty
  | 28 => kn_Spaces_init
  | 29 => kn_Spaces_derived
  | 30 => kn_Spaces_descend
  | 31 => kn_Spaces_fill
  | 32 => kn_Spaces_addProducts
  | 33 => kn_Spaces_lowerCentral
  | 34 => kn_Spaces_center
  | 35 => kn_Spaces_bracketsWith
  | 36 => kn_Spaces_ideal
  | 37 => kn_Spaces_close
  | 38 => kn_Spaces_subalgebra
  | 39 => kn_Subspace_init
  | 40 => kn_Subspace_begin
  | 41 => kn_Subspace_join
  | 42 => kn_Subspace_addIncoming
  | 43 => kn_Subspace_takeIncoming
  | 44 => kn_Subspace_hasLead
  | 45 => kn_Subspace_cell
  | 46 => kn_Subspace_addRow
  | 47 => kn_Subspace_vector
  | 48 => kn_Subspace_rowAsVector
  | 49 => kn_Subspace_solveInto
  | 50 => kn_Table_init
  | 51 => kn_Table_begin
  | 52 => kn_Table_vectorCount
  | 53 => kn_Table_power
  | 54 => kn_Table_hasPair
  | 55 => kn_Table_hasIndex
  | 56 => kn_Table_hasVector
  | 57 => kn_Table_entry
  | 58 => kn_Table_setEntry
  | 59 => kn_Table_plus
  | 60 => kn_Table_reduce
  | 61 => kn_Table_copyFrom
  | 62 => kn_Table_product
  | 63 => kn_Table_coordinate
  | 64 => kn_Table_jacobiValue
  | 65 => kn_Table_hasFactor
  | 66 => kn_Table_pairsWithBracket
  | 67 => kn_Li_init
  | 68 => kn_Li_configure
  | 69 => kn_Li_remember
  | 70 => kn_Li_setBracket
  | 71 => kn_Li_at
  | 72 => kn_Li_put
  | 73 => kn_Li_append
  | 74 => kn_Li_clearText
  | 75 => kn_Li_loadText
  | 76 => kn_Li_prime
  | 77 => kn_Li_dimension
  | 78 => kn_Li_bracket
  | 79 => kn_Li_jacobiFailure
  | 80 => kn_Li_derivedDimension
  | 81 => kn_Li_inverse
  | 82 => kn_Li_lowerCentralDimension
  | 83 => kn_Li_derivedVector
  | 84 => kn_Li_kind
  | 85 => kn_Li_centerDimension
  | 86 => kn_Li_centerVector
  | 87 => kn_Li_centralizerDimension
  | 88 => kn_Li_idealDimension
  | 89 => kn_Li_subalgebraDimension
  | 90 => kn_Li_subalgebraVector
  | 91 => kn_Li_adjointEntry
  | 92 => kn_Li_nilpotencyIndex
  | 93 => kn_Li_killing
  | 94 => kn_Li_killingRadicalDimension
  | 95 => kn_Li_derivationDimension
  | 96 => kn_Li_addBasis
  | 97 => kn_Li_scaleBasis
  | 98 => kn_Li_swapBasis
  | 99 => kn_Li_undo
  | 100 => kn_Li_save
  | 101 => kn_Li_restore
  | 102 => kn_Mo_init
  | 103 => kn_Mo_configure
  | 104 => kn_Mo_in
  | 105 => kn_Mo_keep
  | 106 => kn_Mo_power
  | 107 => kn_Mo_setBracket
  | 108 => kn_Mo_isIndex
  | 109 => kn_Mo_isVector
  | 110 => kn_Mo_at
  | 111 => kn_Mo_numberOf
  | 112 => kn_Mo_read
  | 113 => kn_Mo_setPair
  | 114 => kn_Mo_mod
  | 115 => kn_Mo_append
  | 116 => kn_Mo_clearText
  | 117 => kn_Mo_loadText
  | 118 => kn_Mo_readItem
  | 119 => kn_Mo_current
  | 120 => kn_Mo_characterAt
  | 121 => kn_Mo_accept
  | 122 => kn_Mo_isFine
  | 123 => kn_Mo_index
  | 124 => kn_Mo_readValue
  | 125 => kn_Mo_readTerm
  | 126 => kn_Mo_prime
  | 127 => kn_Mo_dimension
  | 128 => kn_Mo_bracket
  | 129 => kn_Mo_bracketOf
  | 130 => kn_Mo_jacobiFailure
  | 131 => kn_Mo_isJacobi
  | 132 => kn_Mo_derivedDimension
  | 133 => kn_Mo_makeLevel
  | 134 => kn_Mo_makeWhole
  | 135 => kn_Mo_multiply
  | 136 => kn_Mo_add
  | 137 => kn_Mo_leadOf
  | 138 => kn_Mo_clear
  | 139 => kn_Mo_inverse
  | 140 => kn_Mo_lowerCentralDimension
  | 141 => kn_Mo_derivedVector
  | 142 => kn_Mo_vectorOf
  | 143 => kn_Mo_kind
  | 144 => kn_Mo_centerDimension
  | 145 => kn_Mo_makeCenter
  | 146 => kn_Mo_demand
  | 147 => kn_Mo_solve
  | 148 => kn_Mo_centerVector
  | 149 => kn_Mo_centralizerDimension
  | 150 => kn_Mo_idealDimension
  | 151 => kn_Mo_close
  | 152 => kn_Mo_subalgebraDimension
  | 153 => kn_Mo_makeSubalgebra
  | 154 => kn_Mo_subalgebraVector
  | 155 => kn_Mo_adjointEntry
  | 156 => kn_Mo_makeAdjoint
  | 157 => kn_Mo_nilpotencyIndex
  | 158 => kn_Mo_isZero
  | 159 => kn_Mo_makeProduct
  | 160 => kn_Mo_killing
  | 161 => kn_Mo_killingOf
  | 162 => kn_Mo_killingRadicalDimension
  | 163 => kn_Mo_derivationDimension
  | 164 => kn_Mo_makeLine
  | 165 => kn_Mo_addLine
  | 166 => kn_Mo_addBasis
  | 167 => kn_Mo_beginChange
  | 168 => kn_Mo_makeTable
  | 169 => kn_Mo_takeTable
  | 170 => kn_Mo_scaleBasis
  | 171 => kn_Mo_swapBasis
  | 172 => kn_Mo_undo
  | 173 => kn_Mo_save
  | 174 => kn_Mo_restore
  | 175 => kn_Math_min
  | 176 => kn_Math_max
  | 177 => kn_Arrays_fill
  | 178 => kn_Math_floorMod
  | 179 => kn_Lw_law
  | n + 180 => fun pc e h => by rw [show k_cd (n + 180) pc = none from by show cond (Nat.ble 180 (n + 180)) none _ = none; rw [Nat.ble_eq_true_of_le (Nat.le_add_left _ _)]; rfl] at h; cases h
set_option maxRecDepth 100000 in
theorem k_okI_0 : ∀ k, k < 6 → pj_okI (0 + k) = true := by decide +kernel
set_option maxRecDepth 100000 in
theorem k_okI_6 : ∀ k, k < 6 → pj_okI (6 + k) = true := by decide +kernel
set_option maxRecDepth 100000 in
theorem k_okI_12 : ∀ k, k < 6 → pj_okI (12 + k) = true := by decide +kernel
set_option maxRecDepth 100000 in
theorem k_okI_18 : ∀ k, k < 6 → pj_okI (18 + k) = true := by decide +kernel
set_option maxRecDepth 100000 in
theorem k_okI_24 : ∀ k, k < 6 → pj_okI (24 + k) = true := by decide +kernel
set_option maxRecDepth 100000 in
theorem k_okI_30 : ∀ k, k < 6 → pj_okI (30 + k) = true := by decide +kernel
set_option maxRecDepth 100000 in
theorem k_okI_36 : ∀ k, k < 6 → pj_okI (36 + k) = true := by decide +kernel
set_option maxRecDepth 100000 in
theorem k_okI_42 : ∀ k, k < 6 → pj_okI (42 + k) = true := by decide +kernel
set_option maxRecDepth 100000 in
theorem k_okI_48 : ∀ k, k < 6 → pj_okI (48 + k) = true := by decide +kernel
set_option maxRecDepth 100000 in
theorem k_okI_54 : ∀ k, k < 6 → pj_okI (54 + k) = true := by decide +kernel
set_option maxRecDepth 100000 in
theorem k_okI_60 : ∀ k, k < 6 → pj_okI (60 + k) = true := by decide +kernel
set_option maxRecDepth 100000 in
theorem k_okI_66 : ∀ k, k < 6 → pj_okI (66 + k) = true := by decide +kernel
set_option maxRecDepth 100000 in
theorem k_okI_72 : ∀ k, k < 6 → pj_okI (72 + k) = true := by decide +kernel
set_option maxRecDepth 100000 in
theorem k_okI_78 : ∀ k, k < 6 → pj_okI (78 + k) = true := by decide +kernel
set_option maxRecDepth 100000 in
theorem k_okI_84 : ∀ k, k < 6 → pj_okI (84 + k) = true := by decide +kernel
set_option maxRecDepth 100000 in
theorem k_okI_90 : ∀ k, k < 6 → pj_okI (90 + k) = true := by decide +kernel
set_option maxRecDepth 100000 in
theorem k_okI_96 : ∀ k, k < 6 → pj_okI (96 + k) = true := by decide +kernel
set_option maxRecDepth 100000 in
theorem k_okI_102 : ∀ k, k < 6 → pj_okI (102 + k) = true := by decide +kernel
set_option maxRecDepth 100000 in
theorem k_okI_108 : ∀ k, k < 6 → pj_okI (108 + k) = true := by decide +kernel
set_option maxRecDepth 100000 in
theorem k_okI_114 : ∀ k, k < 6 → pj_okI (114 + k) = true := by decide +kernel
set_option maxRecDepth 100000 in
theorem k_okI_120 : ∀ k, k < 6 → pj_okI (120 + k) = true := by decide +kernel
set_option maxRecDepth 100000 in
theorem k_okI_126 : ∀ k, k < 6 → pj_okI (126 + k) = true := by decide +kernel
set_option maxRecDepth 100000 in
theorem k_okI_132 : ∀ k, k < 6 → pj_okI (132 + k) = true := by decide +kernel
set_option maxRecDepth 100000 in
theorem k_okI_138 : ∀ k, k < 6 → pj_okI (138 + k) = true := by decide +kernel
set_option maxRecDepth 100000 in
theorem k_okI_144 : ∀ k, k < 6 → pj_okI (144 + k) = true := by decide +kernel
set_option maxRecDepth 100000 in
theorem k_okI_150 : ∀ k, k < 6 → pj_okI (150 + k) = true := by decide +kernel
set_option maxRecDepth 100000 in
theorem k_okI_156 : ∀ k, k < 6 → pj_okI (156 + k) = true := by decide +kernel
set_option maxRecDepth 100000 in
theorem k_okI_162 : ∀ k, k < 6 → pj_okI (162 + k) = true := by decide +kernel
set_option maxRecDepth 100000 in
theorem k_okI_168 : ∀ k, k < 6 → pj_okI (168 + k) = true := by decide +kernel
set_option maxRecDepth 100000 in
theorem k_okI_174 : ∀ k, k < 5 → pj_okI (174 + k) = true := by decide +kernel
theorem k_okI : ∀ M, M < 179 → pj_okI M = true := by
  intro M h
  by_cases h0 : M < 6
  · have := k_okI_0 (M - 0) (by omega)
    rwa [show 0 + (M - 0) = M by omega] at this
  by_cases h6 : M < 12
  · have := k_okI_6 (M - 6) (by omega)
    rwa [show 6 + (M - 6) = M by omega] at this
  by_cases h12 : M < 18
  · have := k_okI_12 (M - 12) (by omega)
    rwa [show 12 + (M - 12) = M by omega] at this
  by_cases h18 : M < 24
  · have := k_okI_18 (M - 18) (by omega)
    rwa [show 18 + (M - 18) = M by omega] at this
  by_cases h24 : M < 30
  · have := k_okI_24 (M - 24) (by omega)
    rwa [show 24 + (M - 24) = M by omega] at this
  by_cases h30 : M < 36
  · have := k_okI_30 (M - 30) (by omega)
    rwa [show 30 + (M - 30) = M by omega] at this
  by_cases h36 : M < 42
  · have := k_okI_36 (M - 36) (by omega)
    rwa [show 36 + (M - 36) = M by omega] at this
  by_cases h42 : M < 48
  · have := k_okI_42 (M - 42) (by omega)
    rwa [show 42 + (M - 42) = M by omega] at this
  by_cases h48 : M < 54
  · have := k_okI_48 (M - 48) (by omega)
    rwa [show 48 + (M - 48) = M by omega] at this
  by_cases h54 : M < 60
  · have := k_okI_54 (M - 54) (by omega)
    rwa [show 54 + (M - 54) = M by omega] at this
  by_cases h60 : M < 66
  · have := k_okI_60 (M - 60) (by omega)
    rwa [show 60 + (M - 60) = M by omega] at this
  by_cases h66 : M < 72
  · have := k_okI_66 (M - 66) (by omega)
    rwa [show 66 + (M - 66) = M by omega] at this
  by_cases h72 : M < 78
  · have := k_okI_72 (M - 72) (by omega)
    rwa [show 72 + (M - 72) = M by omega] at this
  by_cases h78 : M < 84
  · have := k_okI_78 (M - 78) (by omega)
    rwa [show 78 + (M - 78) = M by omega] at this
  by_cases h84 : M < 90
  · have := k_okI_84 (M - 84) (by omega)
    rwa [show 84 + (M - 84) = M by omega] at this
  by_cases h90 : M < 96
  · have := k_okI_90 (M - 90) (by omega)
    rwa [show 90 + (M - 90) = M by omega] at this
  by_cases h96 : M < 102
  · have := k_okI_96 (M - 96) (by omega)
    rwa [show 96 + (M - 96) = M by omega] at this
  by_cases h102 : M < 108
  · have := k_okI_102 (M - 102) (by omega)
    rwa [show 102 + (M - 102) = M by omega] at this
  by_cases h108 : M < 114
  · have := k_okI_108 (M - 108) (by omega)
    rwa [show 108 + (M - 108) = M by omega] at this
  by_cases h114 : M < 120
  · have := k_okI_114 (M - 114) (by omega)
    rwa [show 114 + (M - 114) = M by omega] at this
  by_cases h120 : M < 126
  · have := k_okI_120 (M - 120) (by omega)
    rwa [show 120 + (M - 120) = M by omega] at this
  by_cases h126 : M < 132
  · have := k_okI_126 (M - 126) (by omega)
    rwa [show 126 + (M - 126) = M by omega] at this
  by_cases h132 : M < 138
  · have := k_okI_132 (M - 132) (by omega)
    rwa [show 132 + (M - 132) = M by omega] at this
  by_cases h138 : M < 144
  · have := k_okI_138 (M - 138) (by omega)
    rwa [show 138 + (M - 138) = M by omega] at this
  by_cases h144 : M < 150
  · have := k_okI_144 (M - 144) (by omega)
    rwa [show 144 + (M - 144) = M by omega] at this
  by_cases h150 : M < 156
  · have := k_okI_150 (M - 150) (by omega)
    rwa [show 150 + (M - 150) = M by omega] at this
  by_cases h156 : M < 162
  · have := k_okI_156 (M - 156) (by omega)
    rwa [show 156 + (M - 156) = M by omega] at this
  by_cases h162 : M < 168
  · have := k_okI_162 (M - 162) (by omega)
    rwa [show 162 + (M - 162) = M by omega] at this
  by_cases h168 : M < 174
  · have := k_okI_168 (M - 168) (by omega)
    rwa [show 168 + (M - 168) = M by omega] at this
  by_cases h174 : M < 179
  · have := k_okI_174 (M - 174) (by omega)
    rwa [show 174 + (M - 174) = M by omega] at this
  exact absurd h (by omega)
