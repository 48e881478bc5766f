/-! the constructors with loops -/
theorem vp_in_nI' {n N : Nat} (h : n < N) (hN : N < 2 ^ 31) : vp_in (nI n) N := vp_in_nI h hN
theorem upq (h b c : Nat) (j : Nat) (hj : j < 2 ^ 31) : va_up (fun k => if k < j then some (h + (b + c * k)) else none) (nI j).toNatClampNeg (some (h + (b + c * j))) = fun k => if k < j + 1 then some (h + (b + c * k)) else none := by
  rw [nI_clamp hj]
  funext k
  simp only [va_up]
  by_cases q : k = j
  · subst q; simp
  · by_cases q2 : k < j
    · rw [if_neg q, if_pos q2, if_pos (by omega)]
    · rw [if_neg q, if_neg q2, if_neg (by omega)]
/-- a Meter of j Parts: the row at n, the Parts behind it -/
def mF (G : xG) (h n : Nat) (E : Nat → va_E) (j : Nat) : Nat → va_E := fun i => if i = n then .inl (G.2.2 6, 16, .inr (.inr (.inr (.inr fun k => if k < j then some (h + (n + 1 + 1 * k)) else none)))) else if n < i then .inr (5, [.int 0, .int 0, .int 0, .int 0]) else E i
/-- the Past of j Acts -/
def pF (G : xG) (h n : Nat) (E : Nat → va_E) (j : Nat) : Nat → va_E := fun i => if i = n then .inl (G.2.2 3, 60, .inr (.inr (.inr (.inr fun k => if k < j then some (h + (n + 1 + 2 * k)) else none)))) else if n < i then (if (i - (n + 1)) % 2 = 0 then .inr (0, [.ref (h + (i + 1)), .int 0, .int 0, .int 0, .int 0]) else .inl (G.2.2 0, 16, .inl fun _ => 0)) else E i
theorem mF_n (G : xG) (h n : Nat) (E : Nat → va_E) (j : Nat) : mF G h n E j n = .inl (G.2.2 6, 16, .inr (.inr (.inr (.inr fun k => if k < j then some (h + (n + 1 + 1 * k)) else none)))) := by simp [mF]
theorem pF_n (G : xG) (h n : Nat) (E : Nat → va_E) (j : Nat) : pF G h n E j n = .inl (G.2.2 3, 60, .inr (.inr (.inr (.inr fun k => if k < j then some (h + (n + 1 + 2 * k)) else none)))) := by simp [pF]
set_option maxRecDepth 100000 in
theorem mk_Meter_loop {M : xM} {G : xG} {h a n : Nat} {E E2 : Nat → va_E} (han : a < n) (C : kC (M, G, h, a, n, 2, 17, 80, 3) RX3 cX3_init { frames := 2, cells := 17, slots := 80, locals := 32 }) (h2 : ∀ i : Nat, i < n + 17 → kup (mF G h n E 16) a (.inr (3, [.ref (h + n), .int 0, .int 0, .int 0, .int 0, .int 0])) i = E2 i) :
    ∀ d j : Nat, j + d = 16 → K (M, G, h, a, n, 2, 17, 80, 3) (n + 17) E2 (mF G h n E j) [.ref (h + n), .int 0, .int 0, .int 0, .int 0, .int 0] (n + 1 + j) (1 + j) (16 + 4 * j) 15 [(1, .int (nI j)), (0, .ref (h + a))] [] := by
  intro d
  induction d with
  | zero =>
    intro j hj
    have hj : j = 16 := by omega
    subst hj
    refine k_iload_n (j := 0) C dX3_init_15 rfl rfl ?_
    refine k_aload_n (j := 1) C dX3_init_16 rfl rfl ?_
    refine k_get (T := TX3) (N := 6) (j := 0) C dX3_init_17 inx3 rfl (Nat.le_of_ble_eq_true rfl) lk234 rfl (by omega) rfl ?_
    refine k_alen (t := 6) (v := 16) C dX3_init_20 (by omega) (by omega) (mF_n G h n E _) rfl rfl ?_
    refine k_icmp_ge (tgt := 43) C dX3_init_21 (by decide) (fun c => ?_) (fun c => absurd (by decide) c)
    exact k_vret C dX3_init_43 (Nat.le_refl _) (Nat.le_refl _) h2
  | succ d ih =>
    intro j hj
    refine k_iload_n (j := 0) C dX3_init_15 rfl rfl ?_
    refine k_aload_n (j := 1) C dX3_init_16 rfl rfl ?_
    refine k_get (T := TX3) (N := 6) (j := 0) C dX3_init_17 inx3 rfl (Nat.le_of_ble_eq_true rfl) lk234 rfl (by omega) rfl ?_
    refine k_alen (t := 6) (v := nI 16) C dX3_init_20 (by omega) (by omega) (mF_n G h n E _) rfl rfl ?_
    refine k_icmp_ge (tgt := 43) C dX3_init_21 (by decide) (fun c => absurd c (nI_ge (by omega) (by decide))) (fun c => ?_)
    refine k_aload_n (j := 1) C dX3_init_24 rfl rfl ?_
    refine k_get (T := TX3) (N := 6) (j := 0) C dX3_init_25 inx3 rfl (Nat.le_of_ble_eq_true rfl) lk234 rfl (by omega) rfl ?_
    refine k_iload_n (j := 0) C dX3_init_28 rfl rfl ?_
    refine k_new (cj := 5) (T := TX5) (N := 4) (f0 := [.int 0, .int 0, .int 0, .int 0]) C tyX5 dX3_init_29 inx5 tyX5_ok rfl lk208 lk210 lk85 (by intro j hj; rcases (show j = 0 ∨ j = 1 ∨ j = 2 ∨ j = 3 by omega) with rfl | rfl | rfl | rfl <;> rfl) (by omega) (by show _ ≤ 17; omega) (by show _ ≤ 80; omega) ?_
    refine k_dup C dX3_init_32 rfl ?_
    refine k_callIN (F2 := kup (mF G h n E j) (n + 1 + j) (.inr (5, [.int 0, .int 0, .int 0, .int 0]))) (n1 := n + 1 + j + 1) C dX3_init_33 (mk_Part _ (E2 := kup (kup (mF G h n E j) (n + 1 + j) (.inr (5, [.int 0, .int 0, .int 0, .int 0]))) a (.inr (3, [.ref (h + n), .int 0, .int 0, .int 0, .int 0, .int 0]))) (by omega) (by rw [kup_ne _ _ (by omega), kup_at]) (fun i hi => ?_)) lk211 lk212 lk85 lk213 ⟨rfl, rfl⟩ ⟨by decide +kernel, by decide +kernel, by decide +kernel⟩ rfl ⟨Nat.le_of_ble_eq_true rfl, Nat.le_of_ble_eq_true rfl⟩ (by show _ ≤ 17; omega) (by show _ ≤ 80; omega) (by omega) (by omega) (Nat.le_of_ble_eq_true rfl) (fun i hi => rfl) ?_
    · simp only [kup]
      repeat' split
      all_goals first | rfl | omega | (exfalso; omega) | (subst_vars; rfl) | (subst_vars; exfalso; omega)
    refine k_aast (t := 6) (N := 16) (r := (RX5, TX5, 4)) (b := n) (j := n + 1 + j) (cj := 5) (f := fun k => if k < j then some (h + (n + 1 + 1 * k)) else none) C dX3_init_36 (by omega) (by omega) (by omega) (by rw [kup_ne _ _ (by omega)]; exact mF_n G h n E j) rfl (by omega) (by omega) (kup_at _ _ _) rfl (vp_in_nI (by omega) (by decide)) ?_
    refine k_iinc (j := 0) (v := nI (j + 1)) (ls' := [(1, .int (nI (j + 1))), (0, .ref (h + a))]) C dX3_init_37 rfl (nI_1 j) (Nat.le_of_ble_eq_true rfl) rfl ?_
    refine k_goto (tgt := 15) C dX3_init_40 (by decide) ?_
    have e := upq h (n + 1) 1 j (by omega)
    rw [Nat.one_mul] at e
    refine k_F (F2 := mF G h n E (j + 1)) (fun i hi hia => ?_) (ih (j + 1) (by omega))
    rw [e]
    simp only [kup, mF]
    repeat' split
    all_goals first | rfl | omega | (exfalso; omega) | (subst_vars; rfl) | (subst_vars; exfalso; omega)
set_option maxRecDepth 100000 in
theorem mk_Meter (l : Launch) {G : xG} {h a n : Nat} {E E2 : Nat → va_E} (han : a < n) (hE : E a = .inr (3, [.null, .int 0, .int 0, .int 0, .int 0, .int 0])) (h2 : ∀ i : Nat, i < (n + 17) → (kup (mF G h n E 16) a (.inr (3, [.ref (h + n), .int 0, .int 0, .int 0, .int 0, .int 0]))) i = E2 i) : kMet l yX3_init (x_ws yX3_init cX3_init 2 none) { frames := 2, cells := 17, slots := 80, locals := 32 } G h a n E (n + 17) E2 17 80 := by
  refine kMet.of (by decide +kernel) rfl (Nat.le_of_ble_eq_true rfl) hE ?_
  intro M e1 C
  have C : kC (M, G, h, a, n, 2, 17, 80, 3) RX3 cX3_init _ := C
  refine k_aload_n (j := 0) C dX3_init_0 rfl rfl ?_
  refine k_objInit C dX3_init_1 lk207 lk96 lk97 (Nat.le_of_ble_eq_true rfl) (Nat.le_of_ble_eq_true rfl) ?_
  refine k_aload_n (j := 0) C dX3_init_4 rfl rfl ?_
  refine k_bipush (v := 16) C dX3_init_5 (by decide) ?_
  refine k_newq (Cn := RX5) (t := 6) (N := 16) C dX3_init_7 (fun _ q => q.2.2.2) rfl lk208 (by decide) rfl (Nat.le_of_ble_eq_true rfl) (by omega) (Nat.le_of_ble_eq_true rfl) (Nat.le_of_ble_eq_true rfl) ?_
  refine k_putF (T := TX3) (N := 6) (j := 0) (ty := (.array (.object "StepMeters$Part"))) C tyX3 dX3_init_10 inx3 tyX3_ok nmX3 rfl (Nat.le_of_ble_eq_true rfl) lk234 rfl rfl rfl (by decide +kernel) rfl rfl (by omega) (Nat.le_of_ble_eq_true rfl) ?_
  refine k_iconst (v := 0) C dX3_init_13 (by decide) ?_
  refine k_istore_n (ls' := [(1, .int 0), (0, .ref (h + a))]) C dX3_init_14 rfl (Nat.le_of_ble_eq_true rfl) rfl ?_
  refine k_F (F2 := mF G h n E 0) (fun i hi hia => ?_) (mk_Meter_loop han C h2 16 0 (by omega))
  by_cases q : i = n
  · subst q; rw [kup_at]; simp [mF]
  · rw [kup_ne _ _ q]; unfold mF; rw [if_neg q, if_neg (by omega)]
set_option maxRecDepth 100000 in
theorem mk_Past_loop {M : xM} {G : xG} {h a n : Nat} {E E2 : Nat → va_E} (han : a < n) (C : kC (M, G, h, a, n, 2, 121, 1320, 6) RX6 cX6_init { frames := 2, cells := 121, slots := 1320, locals := 33 }) (h2 : ∀ i : Nat, i < n + 121 → kup (pF G h n E 60) a (.inr (6, [.ref (h + n), .int 0, .int 0])) i = E2 i) :
    ∀ d j : Nat, j + d = 60 → K (M, G, h, a, n, 2, 121, 1320, 6) (n + 121) E2 (pF G h n E j) [.ref (h + n), .int 0, .int 0] (n + 1 + 2 * j) (1 + 2 * j) (60 + 21 * j) 15 [(1, .int (nI j)), (0, .ref (h + a))] [] := by
  intro d
  induction d with
  | zero =>
    intro j hj
    have hj : j = 60 := by omega
    subst hj
    refine k_iload_n (j := 0) C dX6_init_15 rfl rfl ?_
    refine k_aload_n (j := 1) C dX6_init_16 rfl rfl ?_
    refine k_get (T := TX6) (N := 3) (j := 0) C dX6_init_17 inx6 rfl (Nat.le_of_ble_eq_true rfl) lk192 rfl (by omega) rfl ?_
    refine k_alen (t := 3) (v := 60) C dX6_init_20 (by omega) (by omega) (pF_n G h n E _) rfl rfl ?_
    refine k_icmp_ge (tgt := 43) C dX6_init_21 (by decide) (fun c => ?_) (fun c => absurd (by decide) c)
    exact k_vret C dX6_init_43 (Nat.le_refl _) (Nat.le_refl _) h2
  | succ d ih =>
    intro j hj
    refine k_iload_n (j := 0) C dX6_init_15 rfl rfl ?_
    refine k_aload_n (j := 1) C dX6_init_16 rfl rfl ?_
    refine k_get (T := TX6) (N := 3) (j := 0) C dX6_init_17 inx6 rfl (Nat.le_of_ble_eq_true rfl) lk192 rfl (by omega) rfl ?_
    refine k_alen (t := 3) (v := nI 60) C dX6_init_20 (by omega) (by omega) (pF_n G h n E _) rfl rfl ?_
    refine k_icmp_ge (tgt := 43) C dX6_init_21 (by decide) (fun c => absurd c (nI_ge (by omega) (by decide))) (fun c => ?_)
    refine k_aload_n (j := 1) C dX6_init_24 rfl rfl ?_
    refine k_get (T := TX6) (N := 3) (j := 0) C dX6_init_25 inx6 rfl (Nat.le_of_ble_eq_true rfl) lk192 rfl (by omega) rfl ?_
    refine k_iload_n (j := 0) C dX6_init_28 rfl rfl ?_
    refine k_new (cj := 0) (T := TX0) (N := 5) (f0 := [.null, .int 0, .int 0, .int 0, .int 0]) C tyX0 dX6_init_29 inx0 tyX0_ok rfl lk165 lk167 lk83 (by intro j hj; rcases (show j = 0 ∨ j = 1 ∨ j = 2 ∨ j = 3 ∨ j = 4 by omega) with rfl | rfl | rfl | rfl | rfl <;> rfl) (by omega) (by show _ ≤ 121; omega) (by show _ ≤ 1320; omega) ?_
    refine k_dup C dX6_init_32 rfl ?_
    refine k_callIN (F2 := kup (kup (pF G h n E j) (n + 1 + 2 * j + 1) (.inl (G.2.2 0, 16, .inl fun _ => 0))) (n + 1 + 2 * j) (.inr (0, [.ref (h + (n + 1 + 2 * j + 1)), .int 0, .int 0, .int 0, .int 0]))) (n1 := n + 1 + 2 * j + 1 + 1) C dX6_init_33 (mk_Act _ (E2 := kup (kup (kup (pF G h n E j) (n + 1 + 2 * j + 1) (.inl (G.2.2 0, 16, .inl fun _ => 0))) (n + 1 + 2 * j) (.inr (0, [.ref (h + (n + 1 + 2 * j + 1)), .int 0, .int 0, .int 0, .int 0]))) a (.inr (6, [.ref (h + n), .int 0, .int 0]))) (by omega) (by rw [kup_ne _ _ (by omega), kup_at]) (fun i hi => ?_)) lk168 lk169 lk83 lk170 ⟨rfl, rfl⟩ ⟨by decide +kernel, by decide +kernel, by decide +kernel⟩ rfl ⟨Nat.le_of_ble_eq_true rfl, Nat.le_of_ble_eq_true rfl⟩ (by show _ ≤ 121; omega) (by show _ ≤ 1320; omega) (by omega) (by omega) (Nat.le_of_ble_eq_true rfl) (fun i hi => rfl) ?_
    · simp only [kup]
      repeat' split
      all_goals first | rfl | omega | (exfalso; omega) | (subst_vars; rfl) | (subst_vars; exfalso; omega)
    refine k_aast (t := 3) (N := 60) (r := (RX0, TX0, 5)) (b := n) (j := n + 1 + 2 * j) (cj := 0) (f := fun k => if k < j then some (h + (n + 1 + 2 * k)) else none) C dX6_init_36 (by omega) (by omega) (by omega) (by rw [kup_ne _ _ (by omega), kup_ne _ _ (by omega)]; exact pF_n G h n E j) rfl (by omega) (by omega) (kup_at _ _ _) rfl (vp_in_nI (by omega) (by decide)) ?_
    refine k_iinc (j := 0) (v := nI (j + 1)) (ls' := [(1, .int (nI (j + 1))), (0, .ref (h + a))]) C dX6_init_37 rfl (nI_1 j) (Nat.le_of_ble_eq_true rfl) rfl ?_
    refine k_goto (tgt := 15) C dX6_init_40 (by decide) ?_
    have e := upq h (n + 1) 2 j (by omega)
    refine k_widen (k1 := 1 + 2 * (j + 1)) (k2 := 60 + 21 * (j + 1)) (by omega) (by omega) ?_
    refine k_F (F2 := pF G h n E (j + 1)) (fun i hi hia => ?_) (ih (j + 1) (by omega))
    rw [e]
    simp only [kup, pF]
    repeat' split
    all_goals first | rfl | omega | (exfalso; omega) | (subst_vars; rfl) | (subst_vars; exfalso; omega)
set_option maxRecDepth 100000 in
theorem mk_Past (l : Launch) {G : xG} {h a n : Nat} {E E2 : Nat → va_E} (han : a < n) (hE : E a = .inr (6, [.null, .int 0, .int 0])) (h2 : ∀ i : Nat, i < (n + 121) → (kup (pF G h n E 60) a (.inr (6, [.ref (h + n), .int 0, .int 0]))) i = E2 i) : kMet l yX6_init (x_ws yX6_init cX6_init 2 none) { frames := 2, cells := 121, slots := 1320, locals := 33 } G h a n E (n + 121) E2 121 1320 := by
  refine kMet.of (by decide +kernel) rfl (Nat.le_of_ble_eq_true rfl) hE ?_
  intro M e1 C
  have C : kC (M, G, h, a, n, 2, 121, 1320, 6) RX6 cX6_init _ := C
  refine k_aload_n (j := 0) C dX6_init_0 rfl rfl ?_
  refine k_objInit C dX6_init_1 lk164 lk96 lk97 (Nat.le_of_ble_eq_true rfl) (Nat.le_of_ble_eq_true rfl) ?_
  refine k_aload_n (j := 0) C dX6_init_4 rfl rfl ?_
  refine k_bipush (v := 60) C dX6_init_5 (by decide) ?_
  refine k_newq (Cn := RX0) (t := 3) (N := 60) C dX6_init_7 (fun _ q => q.1) rfl lk165 (by decide) rfl (Nat.le_of_ble_eq_true rfl) (by omega) (Nat.le_of_ble_eq_true rfl) (Nat.le_of_ble_eq_true rfl) ?_
  refine k_putF (T := TX6) (N := 3) (j := 0) (ty := (.array (.object "StepMeters$Act"))) C tyX6 dX6_init_10 inx6 tyX6_ok nmX6 rfl (Nat.le_of_ble_eq_true rfl) lk192 rfl rfl rfl (by decide +kernel) rfl rfl (by omega) (Nat.le_of_ble_eq_true rfl) ?_
  refine k_iconst (v := 0) C dX6_init_13 (by decide) ?_
  refine k_istore_n (ls' := [(1, .int 0), (0, .ref (h + a))]) C dX6_init_14 rfl (Nat.le_of_ble_eq_true rfl) rfl ?_
  refine k_F (F2 := pF G h n E 0) (fun i hi hia => ?_) (mk_Past_loop han C h2 60 0 (by omega))
  by_cases q : i = n
  · subst q; rw [kup_at]; simp [pF]
  · rw [kup_ne _ _ q]; unfold pF; rw [if_neg q, if_neg (by omega)]
