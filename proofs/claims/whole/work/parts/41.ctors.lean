set_option maxRecDepth 100000 in
theorem mk_Part (l : Launch) {G : xG} {h a n : Nat} {E E2 : Nat → va_E} (han : a < n) (hE : E a = .inr (5, [.int 0, .int 0, .int 0, .int 0])) (h2 : ∀ i : Nat, i < n → (kup E a (.inr (5, [.int 0, .int 0, .int 0, .int 0]))) i = E2 i) : kMet l yX5_init (x_ws yX5_init cX5_init 1 none) { frames := 1, cells := 0, slots := 0, locals := 12 } G h a n E n E2 0 0 := by
  refine kMet.of (by decide +kernel) rfl (Nat.le_of_ble_eq_true rfl) hE ?_
  intro M e1 C
  have C : kC (M, G, h, a, n, 1, 0, 0, 5) RX5 cX5_init _ := C
  refine k_aload_n (j := 0) C dX5_init_0 rfl rfl ?_
  refine k_objInit C dX5_init_1 lk214 lk96 lk97 (Nat.le_of_ble_eq_true rfl) (Nat.le_of_ble_eq_true rfl) ?_
  exact k_vret C dX5_init_4 (Nat.le_refl _) (Nat.le_refl _) h2
set_option maxRecDepth 100000 in
theorem mk_Fault (l : Launch) {G : xG} {h a n : Nat} {E E2 : Nat → va_E} (han : a < n) (hE : E a = .inr (2, [.int 0, .int 0, .int 0])) (h2 : ∀ i : Nat, i < n → (kup E a (.inr (2, [.int 0, .int 0, .int 0]))) i = E2 i) : kMet l yX2_init (x_ws yX2_init cX2_init 1 none) { frames := 1, cells := 0, slots := 0, locals := 12 } G h a n E n E2 0 0 := by
  refine kMet.of (by decide +kernel) rfl (Nat.le_of_ble_eq_true rfl) hE ?_
  intro M e1 C
  have C : kC (M, G, h, a, n, 1, 0, 0, 2) RX2 cX2_init _ := C
  refine k_aload_n (j := 0) C dX2_init_0 rfl rfl ?_
  refine k_objInit C dX2_init_1 lk261 lk96 lk97 (Nat.le_of_ble_eq_true rfl) (Nat.le_of_ble_eq_true rfl) ?_
  exact k_vret C dX2_init_4 (Nat.le_refl _) (Nat.le_refl _) h2
set_option maxRecDepth 100000 in
theorem mk_Act (l : Launch) {G : xG} {h a n : Nat} {E E2 : Nat → va_E} (han : a < n) (hE : E a = .inr (0, [.null, .int 0, .int 0, .int 0, .int 0])) (h2 : ∀ i : Nat, i < (n + 1) → (kup (kup E n (.inl (G.2.2 0, 16, .inl fun _ => 0))) a (.inr (0, [.ref (h + n), .int 0, .int 0, .int 0, .int 0]))) i = E2 i) : kMet l yX0_init (x_ws yX0_init cX0_init 1 none) { frames := 1, cells := 1, slots := 16, locals := 13 } G h a n E (n + 1) E2 1 16 := by
  refine kMet.of (by decide +kernel) rfl (Nat.le_of_ble_eq_true rfl) hE ?_
  intro M e1 C
  have C : kC (M, G, h, a, n, 1, 1, 16, 0) RX0 cX0_init _ := C
  refine k_aload_n (j := 0) C dX0_init_0 rfl rfl ?_
  refine k_objInit C dX0_init_1 lk171 lk96 lk97 (Nat.le_of_ble_eq_true rfl) (Nat.le_of_ble_eq_true rfl) ?_
  refine k_aload_n (j := 0) C dX0_init_4 rfl rfl ?_
  refine k_bipush (v := 16) C dX0_init_5 (by decide) ?_
  refine k_newa (t := 0) (ty := .int) (N := 16) (a0 := (16, .inl fun _ => 0)) C dX0_init_7 rfl (fun _ _ q => q) rfl lk116 rfl (by decide) rfl (Nat.le_of_ble_eq_true rfl) (by omega) (Nat.le_of_ble_eq_true rfl) (Nat.le_of_ble_eq_true rfl) ?_
  refine k_putF (T := TX0) (N := 5) (j := 0) (ty := (.array .int)) C tyX0 dX0_init_9 inx0 tyX0_ok nmX0 rfl (Nat.le_of_ble_eq_true rfl) lk172 rfl rfl rfl (by decide +kernel) rfl rfl (by omega) (Nat.le_of_ble_eq_true rfl) ?_
  exact k_vret C dX0_init_12 (Nat.le_refl _) (Nat.le_refl _) h2
set_option maxRecDepth 100000 in
theorem mk_Noise (l : Launch) {G : xG} {h a n : Nat} {E E2 : Nat → va_E} (han : a < n) (hE : E a = .inr (4, [.null, .null, .int 0])) (h2 : ∀ i : Nat, i < (n + 2) → (kup (kup (kup E n (.inl (G.2.2 0, 8, .inl fun _ => 0))) (n + 1) (.inl (G.2.2 0, 8, .inl fun _ => 0))) a (.inr (4, [.ref (h + n), .ref (h + (n + 1)), .int 0]))) i = E2 i) : kMet l yX4_init (x_ws yX4_init cX4_init 1 none) { frames := 1, cells := 2, slots := 16, locals := 13 } G h a n E (n + 2) E2 2 16 := by
  refine kMet.of (by decide +kernel) rfl (Nat.le_of_ble_eq_true rfl) hE ?_
  intro M e1 C
  have C : kC (M, G, h, a, n, 1, 2, 16, 4) RX4 cX4_init _ := C
  refine k_aload_n (j := 0) C dX4_init_0 rfl rfl ?_
  refine k_objInit C dX4_init_1 lk123 lk96 lk97 (Nat.le_of_ble_eq_true rfl) (Nat.le_of_ble_eq_true rfl) ?_
  refine k_aload_n (j := 0) C dX4_init_4 rfl rfl ?_
  refine k_bipush (v := 8) C dX4_init_5 (by decide) ?_
  refine k_newa (t := 0) (ty := .int) (N := 8) (a0 := (8, .inl fun _ => 0)) C dX4_init_7 rfl (fun _ _ q => q) rfl lk116 rfl (by decide) rfl (Nat.le_of_ble_eq_true rfl) (by omega) (Nat.le_of_ble_eq_true rfl) (Nat.le_of_ble_eq_true rfl) ?_
  refine k_putF (T := TX4) (N := 3) (j := 0) (ty := (.array .int)) C tyX4 dX4_init_9 inx4 tyX4_ok nmX4 rfl (Nat.le_of_ble_eq_true rfl) lk124 rfl rfl rfl (by decide +kernel) rfl rfl (by omega) (Nat.le_of_ble_eq_true rfl) ?_
  refine k_aload_n (j := 0) C dX4_init_12 rfl rfl ?_
  refine k_bipush (v := 8) C dX4_init_13 (by decide) ?_
  refine k_newa (t := 0) (ty := .int) (N := 8) (a0 := (8, .inl fun _ => 0)) C dX4_init_15 rfl (fun _ _ q => q) rfl lk116 rfl (by decide) rfl (Nat.le_of_ble_eq_true rfl) (by omega) (Nat.le_of_ble_eq_true rfl) (Nat.le_of_ble_eq_true rfl) ?_
  refine k_putF (T := TX4) (N := 3) (j := 1) (ty := (.array .int)) C tyX4 dX4_init_17 inx4 tyX4_ok nmX4 rfl (Nat.le_of_ble_eq_true rfl) lk125 rfl rfl rfl (by decide +kernel) rfl rfl (by omega) (Nat.le_of_ble_eq_true rfl) ?_
  exact k_vret C dX4_init_20 (Nat.le_refl _) (Nat.le_refl _) h2
set_option maxRecDepth 100000 in
theorem mk_Table (l : Launch) {G : xG} {h a n : Nat} {E E2 : Nat → va_E} (han : a < n) (hE : E a = .inr (7, [.null, .null, .int 0])) (h2 : ∀ i : Nat, i < (n + 2) → (kup (kup (kup E n (.inl (G.2.2 0, 4096, .inl fun _ => 0))) (n + 1) (.inl (G.2.2 1, 4251, .inr (.inl fun _ => 0)))) a (.inr (7, [.ref (h + n), .ref (h + (n + 1)), .int (-1)]))) i = E2 i) : kMet l yX7_init (x_ws yX7_init cX7_init 1 none) { frames := 1, cells := 2, slots := 8347, locals := 13 } G h a n E (n + 2) E2 2 8347 := by
  refine kMet.of (by decide +kernel) rfl (Nat.le_of_ble_eq_true rfl) hE ?_
  intro M e1 C
  have C : kC (M, G, h, a, n, 1, 2, 8347, 7) RX7 cX7_init _ := C
  refine k_aload_n (j := 0) C dX7_init_0 rfl rfl ?_
  refine k_objInit C dX7_init_1 lk105 lk96 lk97 (Nat.le_of_ble_eq_true rfl) (Nat.le_of_ble_eq_true rfl) ?_
  refine k_aload_n (j := 0) C dX7_init_4 rfl rfl ?_
  refine k_sipush (v := 4096) C dX7_init_5 (by decide) ?_
  refine k_newa (t := 0) (ty := .int) (N := 4096) (a0 := (4096, .inl fun _ => 0)) C dX7_init_8 rfl (fun _ _ q => q) rfl lk116 rfl (by decide) rfl (Nat.le_of_ble_eq_true rfl) (by omega) (Nat.le_of_ble_eq_true rfl) (Nat.le_of_ble_eq_true rfl) ?_
  refine k_putF (T := TX7) (N := 3) (j := 0) (ty := (.array .int)) C tyX7 dX7_init_10 inx7 tyX7_ok nmX7 rfl (Nat.le_of_ble_eq_true rfl) lk106 rfl rfl rfl (by decide +kernel) rfl rfl (by omega) (Nat.le_of_ble_eq_true rfl) ?_
  refine k_aload_n (j := 0) C dX7_init_13 rfl rfl ?_
  refine k_sipush (v := 4251) C dX7_init_14 (by decide) ?_
  refine k_newa (t := 1) (ty := .long) (N := 4251) (a0 := (4251, .inr (.inl fun _ => 0))) C dX7_init_17 rfl (fun _ _ q => q) rfl lk117 rfl (by decide) rfl (Nat.le_of_ble_eq_true rfl) (by omega) (Nat.le_of_ble_eq_true rfl) (Nat.le_of_ble_eq_true rfl) ?_
  refine k_putF (T := TX7) (N := 3) (j := 1) (ty := (.array .long)) C tyX7 dX7_init_19 inx7 tyX7_ok nmX7 rfl (Nat.le_of_ble_eq_true rfl) lk107 rfl rfl rfl (by decide +kernel) rfl rfl (by omega) (Nat.le_of_ble_eq_true rfl) ?_
  refine k_aload_n (j := 0) C dX7_init_22 rfl rfl ?_
  refine k_iconst (v := (-1)) C dX7_init_23 (by decide) ?_
  refine k_put (T := TX7) (N := 3) (j := 2) (ty := .int) C tyX7 dX7_init_24 inx7 tyX7_ok nmX7 rfl (Nat.le_of_ble_eq_true rfl) lk108 rfl rfl (by decide +kernel) rfl rfl (by omega) (Nat.le_of_ble_eq_true rfl) ?_
  exact k_vret C dX7_init_27 (Nat.le_refl _) (Nat.le_refl _) h2
set_option maxRecDepth 100000 in
theorem mk_Cover (l : Launch) {G : xG} {h a n : Nat} {E E2 : Nat → va_E} (han : a < n) (hE : E a = .inr (1, [.null, .null, .null, .int 0, .int 0])) (h2 : ∀ i : Nat, i < (n + 3) → (kup (kup (kup (kup E n (.inl (G.2.2 0, 1024, .inl fun _ => 0))) (n + 1) (.inl (G.2.2 0, 1024, .inl fun _ => 0))) (n + 2) (.inl (G.2.2 0, 1024, .inl fun _ => 0))) a (.inr (1, [.ref (h + n), .ref (h + (n + 1)), .ref (h + (n + 2)), .int 0, .int 0]))) i = E2 i) : kMet l yX1_init (x_ws yX1_init cX1_init 1 none) { frames := 1, cells := 3, slots := 3072, locals := 13 } G h a n E (n + 3) E2 3 3072 := by
  refine kMet.of (by decide +kernel) rfl (Nat.le_of_ble_eq_true rfl) hE ?_
  intro M e1 C
  have C : kC (M, G, h, a, n, 1, 3, 3072, 1) RX1 cX1_init _ := C
  refine k_aload_n (j := 0) C dX1_init_0 rfl rfl ?_
  refine k_objInit C dX1_init_1 lk142 lk96 lk97 (Nat.le_of_ble_eq_true rfl) (Nat.le_of_ble_eq_true rfl) ?_
  refine k_aload_n (j := 0) C dX1_init_4 rfl rfl ?_
  refine k_sipush (v := 1024) C dX1_init_5 (by decide) ?_
  refine k_newa (t := 0) (ty := .int) (N := 1024) (a0 := (1024, .inl fun _ => 0)) C dX1_init_8 rfl (fun _ _ q => q) rfl lk116 rfl (by decide) rfl (Nat.le_of_ble_eq_true rfl) (by omega) (Nat.le_of_ble_eq_true rfl) (Nat.le_of_ble_eq_true rfl) ?_
  refine k_putF (T := TX1) (N := 5) (j := 0) (ty := (.array .int)) C tyX1 dX1_init_10 inx1 tyX1_ok nmX1 rfl (Nat.le_of_ble_eq_true rfl) lk143 rfl rfl rfl (by decide +kernel) rfl rfl (by omega) (Nat.le_of_ble_eq_true rfl) ?_
  refine k_aload_n (j := 0) C dX1_init_13 rfl rfl ?_
  refine k_sipush (v := 1024) C dX1_init_14 (by decide) ?_
  refine k_newa (t := 0) (ty := .int) (N := 1024) (a0 := (1024, .inl fun _ => 0)) C dX1_init_17 rfl (fun _ _ q => q) rfl lk116 rfl (by decide) rfl (Nat.le_of_ble_eq_true rfl) (by omega) (Nat.le_of_ble_eq_true rfl) (Nat.le_of_ble_eq_true rfl) ?_
  refine k_putF (T := TX1) (N := 5) (j := 1) (ty := (.array .int)) C tyX1 dX1_init_19 inx1 tyX1_ok nmX1 rfl (Nat.le_of_ble_eq_true rfl) lk144 rfl rfl rfl (by decide +kernel) rfl rfl (by omega) (Nat.le_of_ble_eq_true rfl) ?_
  refine k_aload_n (j := 0) C dX1_init_22 rfl rfl ?_
  refine k_sipush (v := 1024) C dX1_init_23 (by decide) ?_
  refine k_newa (t := 0) (ty := .int) (N := 1024) (a0 := (1024, .inl fun _ => 0)) C dX1_init_26 rfl (fun _ _ q => q) rfl lk116 rfl (by decide) rfl (Nat.le_of_ble_eq_true rfl) (by omega) (Nat.le_of_ble_eq_true rfl) (Nat.le_of_ble_eq_true rfl) ?_
  refine k_putF (T := TX1) (N := 5) (j := 2) (ty := (.array .int)) C tyX1 dX1_init_28 inx1 tyX1_ok nmX1 rfl (Nat.le_of_ble_eq_true rfl) lk145 rfl rfl rfl (by decide +kernel) rfl rfl (by omega) (Nat.le_of_ble_eq_true rfl) ?_
  exact k_vret C dX1_init_31 (Nat.le_refl _) (Nat.le_refl _) h2
set_option maxRecDepth 100000 in
theorem mk_StepMetersModel (l : Launch) {G : xG} {h a n : Nat} {E E2 : Nat → va_E} (han : a < n) (hE : E a = .inr (9, [.null, .null, .int 0, .int 0, .int 0, .null, .null, .null, .null, .null, .int 0, .int 0, .int 0, .int 0, .int 0, .null, .null, .null, .null, .null])) (h2 : ∀ i : Nat, i < (n + 12) → (kup (kup (kup (kup (kup (kup (kup (kup (kup (kup (kup (kup (kup (kup E n (.inl (G.2.2 0, 530, .inl fun _ => 0))) (n + 1) (.inl (G.2.2 0, 31800, .inl fun _ => 0))) (n + 2) (.inl (G.2.2 0, 8, .inl fun _ => 0))) (n + 3) (.inl (G.2.2 0, 8, .inl fun _ => 0))) (n + 4) (.inl (G.2.2 0, 10, .inl fun _ => 0))) (n + 5) (.inl (G.2.2 0, 10, .inl fun _ => 0))) (n + 6) (.inl (G.2.2 0, 10, .inl fun _ => 0))) (n + 7) (.inl (G.2.2 0, 4096, .inl fun _ => 0))) (n + 8) (.inl (G.2.2 0, 4096, .inl fun _ => 0))) (n + 9) (.inl (G.2.2 0, 4096, .inl fun _ => 0))) (n + 10) (.inl (G.2.2 2, 1024, .inl fun _ => 0))) (n + 11) (.inl (G.2.2 0, 1024, .inl fun _ => 0))) n (.inl (G.2.2 0, 530, .inl (upd (fun _ => 0) (0 : Int32).toNatClampNeg 255)))) a (.inr (9, [.ref (h + n), .ref (h + (n + 1)), .int 0, .int 0, .int 0, .ref (h + (n + 2)), .ref (h + (n + 3)), .ref (h + (n + 4)), .ref (h + (n + 5)), .ref (h + (n + 6)), .int 0, .int 0, .int 0, .int 0, .int 0, .ref (h + (n + 7)), .ref (h + (n + 8)), .ref (h + (n + 9)), .ref (h + (n + 10)), .ref (h + (n + 11))]))) i = E2 i) : kMet l yX9_init (x_ws yX9_init cX9_init 1 none) { frames := 1, cells := 12, slots := 46712, locals := 13 } G h a n E (n + 12) E2 12 46712 := by
  refine kMet.of (by decide +kernel) rfl (Nat.le_of_ble_eq_true rfl) hE ?_
  intro M e1 C
  have C : kC (M, G, h, a, n, 1, 12, 46712, 9) RX9 cX9_init _ := C
  refine k_aload_n (j := 0) C dX9_init_0 rfl rfl ?_
  refine k_objInit C dX9_init_1 lk736 lk96 lk97 (Nat.le_of_ble_eq_true rfl) (Nat.le_of_ble_eq_true rfl) ?_
  refine k_aload_n (j := 0) C dX9_init_4 rfl rfl ?_
  refine k_sipush (v := 530) C dX9_init_5 (by decide) ?_
  refine k_newa (t := 0) (ty := .int) (N := 530) (a0 := (530, .inl fun _ => 0)) C dX9_init_8 rfl (fun _ _ q => q) rfl lk116 rfl (by decide) rfl (Nat.le_of_ble_eq_true rfl) (by omega) (Nat.le_of_ble_eq_true rfl) (Nat.le_of_ble_eq_true rfl) ?_
  refine k_putF (T := TX9) (N := 20) (j := 0) (ty := (.array .int)) C tyX9 dX9_init_10 inx9 tyX9_ok nmX9 rfl (Nat.le_of_ble_eq_true rfl) lk737 rfl rfl rfl (by decide +kernel) rfl rfl (by omega) (Nat.le_of_ble_eq_true rfl) ?_
  refine k_aload_n (j := 0) C dX9_init_13 rfl rfl ?_
  refine k_sipush (v := 31800) C dX9_init_14 (by decide) ?_
  refine k_newa (t := 0) (ty := .int) (N := 31800) (a0 := (31800, .inl fun _ => 0)) C dX9_init_17 rfl (fun _ _ q => q) rfl lk116 rfl (by decide) rfl (Nat.le_of_ble_eq_true rfl) (by omega) (Nat.le_of_ble_eq_true rfl) (Nat.le_of_ble_eq_true rfl) ?_
  refine k_putF (T := TX9) (N := 20) (j := 1) (ty := (.array .int)) C tyX9 dX9_init_19 inx9 tyX9_ok nmX9 rfl (Nat.le_of_ble_eq_true rfl) lk738 rfl rfl rfl (by decide +kernel) rfl rfl (by omega) (Nat.le_of_ble_eq_true rfl) ?_
  refine k_aload_n (j := 0) C dX9_init_22 rfl rfl ?_
  refine k_bipush (v := 8) C dX9_init_23 (by decide) ?_
  refine k_newa (t := 0) (ty := .int) (N := 8) (a0 := (8, .inl fun _ => 0)) C dX9_init_25 rfl (fun _ _ q => q) rfl lk116 rfl (by decide) rfl (Nat.le_of_ble_eq_true rfl) (by omega) (Nat.le_of_ble_eq_true rfl) (Nat.le_of_ble_eq_true rfl) ?_
  refine k_putF (T := TX9) (N := 20) (j := 5) (ty := (.array .int)) C tyX9 dX9_init_27 inx9 tyX9_ok nmX9 rfl (Nat.le_of_ble_eq_true rfl) lk742 rfl rfl rfl (by decide +kernel) rfl rfl (by omega) (Nat.le_of_ble_eq_true rfl) ?_
  refine k_aload_n (j := 0) C dX9_init_30 rfl rfl ?_
  refine k_bipush (v := 8) C dX9_init_31 (by decide) ?_
  refine k_newa (t := 0) (ty := .int) (N := 8) (a0 := (8, .inl fun _ => 0)) C dX9_init_33 rfl (fun _ _ q => q) rfl lk116 rfl (by decide) rfl (Nat.le_of_ble_eq_true rfl) (by omega) (Nat.le_of_ble_eq_true rfl) (Nat.le_of_ble_eq_true rfl) ?_
  refine k_putF (T := TX9) (N := 20) (j := 6) (ty := (.array .int)) C tyX9 dX9_init_35 inx9 tyX9_ok nmX9 rfl (Nat.le_of_ble_eq_true rfl) lk743 rfl rfl rfl (by decide +kernel) rfl rfl (by omega) (Nat.le_of_ble_eq_true rfl) ?_
  refine k_aload_n (j := 0) C dX9_init_38 rfl rfl ?_
  refine k_bipush (v := 10) C dX9_init_39 (by decide) ?_
  refine k_newa (t := 0) (ty := .int) (N := 10) (a0 := (10, .inl fun _ => 0)) C dX9_init_41 rfl (fun _ _ q => q) rfl lk116 rfl (by decide) rfl (Nat.le_of_ble_eq_true rfl) (by omega) (Nat.le_of_ble_eq_true rfl) (Nat.le_of_ble_eq_true rfl) ?_
  refine k_putF (T := TX9) (N := 20) (j := 7) (ty := (.array .int)) C tyX9 dX9_init_43 inx9 tyX9_ok nmX9 rfl (Nat.le_of_ble_eq_true rfl) lk744 rfl rfl rfl (by decide +kernel) rfl rfl (by omega) (Nat.le_of_ble_eq_true rfl) ?_
  refine k_aload_n (j := 0) C dX9_init_46 rfl rfl ?_
  refine k_bipush (v := 10) C dX9_init_47 (by decide) ?_
  refine k_newa (t := 0) (ty := .int) (N := 10) (a0 := (10, .inl fun _ => 0)) C dX9_init_49 rfl (fun _ _ q => q) rfl lk116 rfl (by decide) rfl (Nat.le_of_ble_eq_true rfl) (by omega) (Nat.le_of_ble_eq_true rfl) (Nat.le_of_ble_eq_true rfl) ?_
  refine k_putF (T := TX9) (N := 20) (j := 8) (ty := (.array .int)) C tyX9 dX9_init_51 inx9 tyX9_ok nmX9 rfl (Nat.le_of_ble_eq_true rfl) lk745 rfl rfl rfl (by decide +kernel) rfl rfl (by omega) (Nat.le_of_ble_eq_true rfl) ?_
  refine k_aload_n (j := 0) C dX9_init_54 rfl rfl ?_
  refine k_bipush (v := 10) C dX9_init_55 (by decide) ?_
  refine k_newa (t := 0) (ty := .int) (N := 10) (a0 := (10, .inl fun _ => 0)) C dX9_init_57 rfl (fun _ _ q => q) rfl lk116 rfl (by decide) rfl (Nat.le_of_ble_eq_true rfl) (by omega) (Nat.le_of_ble_eq_true rfl) (Nat.le_of_ble_eq_true rfl) ?_
  refine k_putF (T := TX9) (N := 20) (j := 9) (ty := (.array .int)) C tyX9 dX9_init_59 inx9 tyX9_ok nmX9 rfl (Nat.le_of_ble_eq_true rfl) lk746 rfl rfl rfl (by decide +kernel) rfl rfl (by omega) (Nat.le_of_ble_eq_true rfl) ?_
  refine k_aload_n (j := 0) C dX9_init_62 rfl rfl ?_
  refine k_sipush (v := 4096) C dX9_init_63 (by decide) ?_
  refine k_newa (t := 0) (ty := .int) (N := 4096) (a0 := (4096, .inl fun _ => 0)) C dX9_init_66 rfl (fun _ _ q => q) rfl lk116 rfl (by decide) rfl (Nat.le_of_ble_eq_true rfl) (by omega) (Nat.le_of_ble_eq_true rfl) (Nat.le_of_ble_eq_true rfl) ?_
  refine k_putF (T := TX9) (N := 20) (j := 15) (ty := (.array .int)) C tyX9 dX9_init_68 inx9 tyX9_ok nmX9 rfl (Nat.le_of_ble_eq_true rfl) lk752 rfl rfl rfl (by decide +kernel) rfl rfl (by omega) (Nat.le_of_ble_eq_true rfl) ?_
  refine k_aload_n (j := 0) C dX9_init_71 rfl rfl ?_
  refine k_sipush (v := 4096) C dX9_init_72 (by decide) ?_
  refine k_newa (t := 0) (ty := .int) (N := 4096) (a0 := (4096, .inl fun _ => 0)) C dX9_init_75 rfl (fun _ _ q => q) rfl lk116 rfl (by decide) rfl (Nat.le_of_ble_eq_true rfl) (by omega) (Nat.le_of_ble_eq_true rfl) (Nat.le_of_ble_eq_true rfl) ?_
  refine k_putF (T := TX9) (N := 20) (j := 16) (ty := (.array .int)) C tyX9 dX9_init_77 inx9 tyX9_ok nmX9 rfl (Nat.le_of_ble_eq_true rfl) lk753 rfl rfl rfl (by decide +kernel) rfl rfl (by omega) (Nat.le_of_ble_eq_true rfl) ?_
  refine k_aload_n (j := 0) C dX9_init_80 rfl rfl ?_
  refine k_sipush (v := 4096) C dX9_init_81 (by decide) ?_
  refine k_newa (t := 0) (ty := .int) (N := 4096) (a0 := (4096, .inl fun _ => 0)) C dX9_init_84 rfl (fun _ _ q => q) rfl lk116 rfl (by decide) rfl (Nat.le_of_ble_eq_true rfl) (by omega) (Nat.le_of_ble_eq_true rfl) (Nat.le_of_ble_eq_true rfl) ?_
  refine k_putF (T := TX9) (N := 20) (j := 17) (ty := (.array .int)) C tyX9 dX9_init_86 inx9 tyX9_ok nmX9 rfl (Nat.le_of_ble_eq_true rfl) lk754 rfl rfl rfl (by decide +kernel) rfl rfl (by omega) (Nat.le_of_ble_eq_true rfl) ?_
  refine k_aload_n (j := 0) C dX9_init_89 rfl rfl ?_
  refine k_sipush (v := 1024) C dX9_init_90 (by decide) ?_
  refine k_newa (t := 2) (ty := .boolean) (N := 1024) (a0 := (1024, .inl fun _ => 0)) C dX9_init_93 rfl (fun _ _ q => q) rfl lk798 rfl (by decide) rfl (Nat.le_of_ble_eq_true rfl) (by omega) (Nat.le_of_ble_eq_true rfl) (Nat.le_of_ble_eq_true rfl) ?_
  refine k_putF (T := TX9) (N := 20) (j := 18) (ty := (.array .boolean)) C tyX9 dX9_init_95 inx9 tyX9_ok nmX9 rfl (Nat.le_of_ble_eq_true rfl) lk755 rfl rfl rfl (by decide +kernel) rfl rfl (by omega) (Nat.le_of_ble_eq_true rfl) ?_
  refine k_aload_n (j := 0) C dX9_init_98 rfl rfl ?_
  refine k_sipush (v := 1024) C dX9_init_99 (by decide) ?_
  refine k_newa (t := 0) (ty := .int) (N := 1024) (a0 := (1024, .inl fun _ => 0)) C dX9_init_102 rfl (fun _ _ q => q) rfl lk116 rfl (by decide) rfl (Nat.le_of_ble_eq_true rfl) (by omega) (Nat.le_of_ble_eq_true rfl) (Nat.le_of_ble_eq_true rfl) ?_
  refine k_putF (T := TX9) (N := 20) (j := 19) (ty := (.array .int)) C tyX9 dX9_init_104 inx9 tyX9_ok nmX9 rfl (Nat.le_of_ble_eq_true rfl) lk756 rfl rfl rfl (by decide +kernel) rfl rfl (by omega) (Nat.le_of_ble_eq_true rfl) ?_
  refine k_aload_n (j := 0) C dX9_init_107 rfl rfl ?_
  refine k_get (T := TX9) (N := 20) (j := 0) C dX9_init_108 inx9 rfl (Nat.le_of_ble_eq_true rfl) lk737 rfl (by omega) rfl ?_
  refine k_iconst (v := 0) C dX9_init_111 (by decide) ?_
  refine k_sipush (v := 255) C dX9_init_112 (by decide) ?_
  refine k_iast (N := 530) (f := fun _ => 0) C dX9_init_115 (by omega) (by omega) (by omega) (by simp only [kup]; (repeat rw [if_neg (by omega)]); rfl) (by decide) ?_
  exact k_vret C dX9_init_116 (Nat.le_refl _) (Nat.le_refl _) h2
