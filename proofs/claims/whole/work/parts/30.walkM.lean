set_option maxRecDepth 100000 in
theorem t9_in {M : xM} {G : xG} {N : Nat} {p1 : Int32} {p2 : Int32} {p3 : Int32} (C : xC (M, G, mdom, 4) RX9 cX9_in (some .boolean)) (R : xR (M, G, mdom, 4) = xrm 0 0) {s : mS} {r : Int32} {s1 : mS} (h : f9_in N p1 p2 p3 s = some (r, s1)) : X (M, G, mdom, 4) (some (.int r)) (encM G s1) (encM G s) 0 [(0, .ref (G.2.1 0 0)), (1, .int (p1)), (2, .int (p2)), (3, .int (p3))] [] := by
  unfold f9_in at h
  refine x_iload_n (j := 1) C dX9_in_0 rfl rfl ?_
  refine x_iload_n (j := 2) C dX9_in_1 rfl rfl ?_
  refine x_icmp_lt (tgt := 14) C dX9_in_2 (by decide) (fun c2 => ?_) (fun c2 => ?_)
  · rw [if_pos c2] at h
    refine x_iconst (v := 0) C dX9_in_14 (by decide) ?_
    cases h
    exact x_zret C dX9_in_15 rfl
  · rw [if_neg c2] at h
    refine x_iload_n (j := 1) C dX9_in_5 rfl rfl ?_
    refine x_iload_n (j := 3) C dX9_in_6 rfl rfl ?_
    refine x_icmp_gt (tgt := 14) C dX9_in_7 (by decide) (fun c7 => ?_) (fun c7 => ?_)
    · rw [if_pos c7] at h
      refine x_iconst (v := 0) C dX9_in_14 (by decide) ?_
      cases h
      exact x_zret C dX9_in_15 rfl
    · rw [if_neg c7] at h
      refine x_iconst (v := 1) C dX9_in_10 (by decide) ?_
      refine x_goto (tgt := 15) C dX9_in_11 (by decide) ?_
      cases h
      exact x_zret C dX9_in_15 rfl
theorem c9_in (l : Launch) (G : xG) {N : Nat} {p1 : Int32} {p2 : Int32} {p3 : Int32} {s : mS} {r : Int32} {s1 : mS} (h : f9_in N p1 p2 p3 s = some (r, s1)) : xMet l yX9_in (x_ws yX9_in cX9_in 4 (some .boolean)) (xrm 0 0) G mdom [.ref (G.2.1 0 0), .int (p1), .int (p2), .int (p3)] (encM G s) (some (.int r)) (encM G s1) := by
  refine xMet.of (by decide +kernel) (Nat.le_of_ble_eq_true rfl) ?_
  rintro ⟨M, G', dom', n'⟩ e1 R e3 e4 e5 C
  change G' = G at e3; change dom' = mdom at e4; change n' = 4 at e5
  subst e3; subst e4; subst e5
  exact t9_in C R h
set_option maxRecDepth 100000 in
theorem t9_no {M : xM} {G : xG} {N : Nat} {p1 : Int32} (C : xC (M, G, mdom, 2) RX9 cX9_no (some .int)) (R : xR (M, G, mdom, 2) = xrm 0 0) {s : mS} {r : Int32} {s1 : mS} (h : f9_no N p1 s = some (r, s1)) : X (M, G, mdom, 2) (some (.int r)) (encM G s1) (encM G s) 0 [(0, .ref (G.2.1 0 0)), (1, .int (p1))] [] := by
  unfold f9_no at h
  refine x_aload_n (j := 0) C dX9_no_0 rfl rfl ?_
  refine x_iload_n (j := 1) C dX9_no_1 rfl rfl ?_
  refine pf9_51 C dX9_no_2 ?_
  refine x_iconst (v := (-1)) C dX9_no_5 (by decide) ?_
  cases h
  exact x_iret C dX9_no_6
theorem c9_no (l : Launch) (G : xG) {N : Nat} {p1 : Int32} {s : mS} {r : Int32} {s1 : mS} (h : f9_no N p1 s = some (r, s1)) : xMet l yX9_no (x_ws yX9_no cX9_no 2 (some .int)) (xrm 0 0) G mdom [.ref (G.2.1 0 0), .int (p1)] (encM G s) (some (.int r)) (encM G s1) := by
  refine xMet.of (by decide +kernel) (Nat.le_of_ble_eq_true rfl) ?_
  rintro ⟨M, G', dom', n'⟩ e1 R e3 e4 e5 C
  change G' = G at e3; change dom' = mdom at e4; change n' = 2 at e5
  subst e3; subst e4; subst e5
  exact t9_no C R h
set_option maxRecDepth 100000 in
theorem t9_not {M : xM} {G : xG} {N : Nat} {p1 : Int32} (C : xC (M, G, mdom, 2) RX9 cX9_not (some .boolean)) (R : xR (M, G, mdom, 2) = xrm 0 0) {s : mS} {r : Int32} {s1 : mS} (h : f9_not N p1 s = some (r, s1)) : X (M, G, mdom, 2) (some (.int r)) (encM G s1) (encM G s) 0 [(0, .ref (G.2.1 0 0)), (1, .int (p1))] [] := by
  unfold f9_not at h
  refine x_aload_n (j := 0) C dX9_not_0 rfl rfl ?_
  refine x_iload_n (j := 1) C dX9_not_1 rfl rfl ?_
  refine pf9_51 C dX9_not_2 ?_
  refine x_iconst (v := 0) C dX9_not_5 (by decide) ?_
  cases h
  exact x_zret C dX9_not_6 rfl
theorem c9_not (l : Launch) (G : xG) {N : Nat} {p1 : Int32} {s : mS} {r : Int32} {s1 : mS} (h : f9_not N p1 s = some (r, s1)) : xMet l yX9_not (x_ws yX9_not cX9_not 2 (some .boolean)) (xrm 0 0) G mdom [.ref (G.2.1 0 0), .int (p1)] (encM G s) (some (.int r)) (encM G s1) := by
  refine xMet.of (by decide +kernel) (Nat.le_of_ble_eq_true rfl) ?_
  rintro ⟨M, G', dom', n'⟩ e1 R e3 e4 e5 C
  change G' = G at e3; change dom' = mdom at e4; change n' = 2 at e5
  subst e3; subst e4; subst e5
  exact t9_not C R h
set_option maxRecDepth 100000 in
theorem t9_act_l54b {M : xM} {G : xG} {N : Nat}  (C : xC (M, G, mdom, 2) RX9 cX9_act none) (R : xR (M, G, mdom, 2) = xrm 0 0) {k54 : Int32 → mS → Option (mS)} (hk54 : ∀ (a1 : Int32) (s : mS) (s1 : mS), k54 a1 s = some s1 → X (M, G, mdom, 2) none (encM G s1) (encM G s) 54 [(0, .ref (G.2.1 0 0)), (1, .int (a1))] []) {a1 : Int32} {s : mS} {s1 : mS} (h : f9_act_l54b N k54 a1 s = some s1) : X (M, G, mdom, 2) none (encM G s1) (encM G s) 54 [(0, .ref (G.2.1 0 0)), (1, .int (a1))] [] := by
  unfold f9_act_l54b at h
  refine x_iload_n (j := 1) C dX9_act_54 rfl rfl ?_
  refine x_sipush (v := 530) C dX9_act_55 (by decide) ?_
  refine x_icmp_ge (tgt := 88) C dX9_act_58 (by decide) (fun c58 => ?_) (fun c58 => ?_)
  · rw [if_pos c58] at h
    refine x_aload_n (j := 0) C dX9_act_88 rfl rfl ?_
    refine x_dup C dX9_act_89 rfl ?_
    refine gf9_54 C dX9_act_90 ?_
    refine x_iconst (v := 1) C dX9_act_93 (by decide) ?_
    refine x_iadd C dX9_act_94 ?_
    refine pf9_54 C dX9_act_95 ?_
    refine x_aload_n (j := 0) C dX9_act_98 rfl rfl ?_
    refine x_iconst (v := 0) C dX9_act_99 (by decide) ?_
    refine pf9_51 C dX9_act_100 ?_
    cases h
    exact x_vret C dX9_act_103
  · rw [if_neg c58] at h
    refine x_aload_n (j := 0) C dX9_act_61 rfl rfl ?_
    refine gf9_13 C dX9_act_62 ?_
    refine x_sipush (v := 530) C dX9_act_65 (by decide) ?_
    refine x_aload_n (j := 0) C dX9_act_68 rfl rfl ?_
    refine gf9_54 C dX9_act_69 ?_
    refine x_imul C dX9_act_72 ?_
    refine x_iload_n (j := 1) C dX9_act_73 rfl rfl ?_
    refine x_iadd C dX9_act_74 ?_
    refine x_aload_n (j := 0) C dX9_act_75 rfl rfl ?_
    refine gf9_7 C dX9_act_76 ?_
    refine x_iload_n (j := 1) C dX9_act_79 rfl rfl ?_
    by_cases g80_1 : inB a1 530 = true
    case neg => rw [if_neg g80_1] at h; cases h
    rw [if_pos g80_1] at h
    refine mld1 C dX9_act_80 g80_1 ?_
    by_cases g81_2 : inB ((530 * (s 2 0)) + a1) 31800 = true
    case neg => rw [if_neg g81_2] at h; cases h
    rw [if_pos g81_2] at h
    refine mst2 C dX9_act_81 g81_2 ?_
    refine x_iinc (j := 1) (v := (a1 + 1)) (ls' := [(1, .int ((a1 + 1))), (0, .ref (G.2.1 0 0))]) C dX9_act_82 rfl rfl (Nat.le_of_ble_eq_true rfl) rfl ?_
    refine x_goto (tgt := 54) C dX9_act_85 (by decide) ?_
    refine x_sub (ls' := [(0, .ref (G.2.1 0 0)), (1, .int ((a1 + 1)))]) [1, 0] rfl ?_
    exact hk54 _ _ _ h
theorem t9_act_l54 {M : xM} {G : xG} {N : Nat}  (C : xC (M, G, mdom, 2) RX9 cX9_act none) (R : xR (M, G, mdom, 2) = xrm 0 0) (n : Nat) : ∀ (a1 : Int32) (s : mS) (s1 : mS), f9_act_l54 N n a1 s = some s1 → X (M, G, mdom, 2) none (encM G s1) (encM G s) 54 [(0, .ref (G.2.1 0 0)), (1, .int (a1))] [] := by
  induction n with
  | zero => intro a1 s s1 h; exact (Option.some_ne_none _ (Eq.symm h)).elim
  | succ n ih => intro a1 s s1 h; exact t9_act_l54b (N := N) C R (k54 := f9_act_l54 N n) ih h
set_option maxRecDepth 100000 in
theorem t9_act_l13b {M : xM} {G : xG} {N : Nat}  (C : xC (M, G, mdom, 2) RX9 cX9_act none) (R : xR (M, G, mdom, 2) = xrm 0 0) {k13 : Int32 → mS → Option (mS)} (hk13 : ∀ (a1 : Int32) (s : mS) (s1 : mS), k13 a1 s = some s1 → X (M, G, mdom, 2) none (encM G s1) (encM G s) 13 [(0, .ref (G.2.1 0 0)), (1, .int (a1))] []) {a1 : Int32} {s : mS} {s1 : mS} (h : f9_act_l13b N k13 a1 s = some s1) : X (M, G, mdom, 2) none (encM G s1) (encM G s) 13 [(0, .ref (G.2.1 0 0)), (1, .int (a1))] [] := by
  unfold f9_act_l13b at h
  refine x_iload_n (j := 1) C dX9_act_13 rfl rfl ?_
  refine x_sipush (v := 31800) C dX9_act_14 (by decide) ?_
  refine x_icmp_ge (tgt := 42) C dX9_act_17 (by decide) (fun c17 => ?_) (fun c17 => ?_)
  · rw [if_pos c17] at h
    refine x_aload_n (j := 0) C dX9_act_42 rfl rfl ?_
    refine x_dup C dX9_act_43 rfl ?_
    refine gf9_54 C dX9_act_44 ?_
    refine x_iconst (v := 1) C dX9_act_47 (by decide) ?_
    refine x_isub C dX9_act_48 ?_
    refine pf9_54 C dX9_act_49 ?_
    refine x_iconst (v := 0) C dX9_act_52 (by decide) ?_
    refine x_istore_n (i := 1) (ls' := [(1, .int (0)), (0, .ref (G.2.1 0 0))]) C dX9_act_53 rfl (Nat.le_of_ble_eq_true rfl) rfl ?_
    refine x_sub (ls' := [(0, .ref (G.2.1 0 0)), (1, .int (0))]) [1, 0] rfl ?_
    exact t9_act_l54 (N := N) C R N _ _ _ h
  · rw [if_neg c17] at h
    refine x_aload_n (j := 0) C dX9_act_20 rfl rfl ?_
    refine gf9_13 C dX9_act_21 ?_
    refine x_iload_n (j := 1) C dX9_act_24 rfl rfl ?_
    refine x_sipush (v := 530) C dX9_act_25 (by decide) ?_
    refine x_isub C dX9_act_28 ?_
    refine x_aload_n (j := 0) C dX9_act_29 rfl rfl ?_
    refine gf9_13 C dX9_act_30 ?_
    refine x_iload_n (j := 1) C dX9_act_33 rfl rfl ?_
    by_cases g34_1 : inB a1 31800 = true
    case neg => rw [if_neg g34_1] at h; cases h
    rw [if_pos g34_1] at h
    refine mld2 C dX9_act_34 g34_1 ?_
    by_cases g35_2 : inB (a1 - 530) 31800 = true
    case neg => rw [if_neg g35_2] at h; cases h
    rw [if_pos g35_2] at h
    refine mst2 C dX9_act_35 g35_2 ?_
    refine x_iinc (j := 1) (v := (a1 + 1)) (ls' := [(1, .int ((a1 + 1))), (0, .ref (G.2.1 0 0))]) C dX9_act_36 rfl rfl (Nat.le_of_ble_eq_true rfl) rfl ?_
    refine x_goto (tgt := 13) C dX9_act_39 (by decide) ?_
    refine x_sub (ls' := [(0, .ref (G.2.1 0 0)), (1, .int ((a1 + 1)))]) [1, 0] rfl ?_
    exact hk13 _ _ _ h
theorem t9_act_l13 {M : xM} {G : xG} {N : Nat}  (C : xC (M, G, mdom, 2) RX9 cX9_act none) (R : xR (M, G, mdom, 2) = xrm 0 0) (n : Nat) : ∀ (a1 : Int32) (s : mS) (s1 : mS), f9_act_l13 N n a1 s = some s1 → X (M, G, mdom, 2) none (encM G s1) (encM G s) 13 [(0, .ref (G.2.1 0 0)), (1, .int (a1))] [] := by
  induction n with
  | zero => intro a1 s s1 h; exact (Option.some_ne_none _ (Eq.symm h)).elim
  | succ n ih => intro a1 s s1 h; exact t9_act_l13b (N := N) C R (k13 := f9_act_l13 N n) ih h
set_option maxRecDepth 100000 in
theorem t9_act {M : xM} {G : xG} {N : Nat}  (C : xC (M, G, mdom, 2) RX9 cX9_act none) (R : xR (M, G, mdom, 2) = xrm 0 0) {s : mS} {s1 : mS} (h : f9_act N s = some s1) : X (M, G, mdom, 2) none (encM G s1) (encM G s) 0 [(0, .ref (G.2.1 0 0))] [] := by
  unfold f9_act at h
  refine x_aload_n (j := 0) C dX9_act_0 rfl rfl ?_
  refine gf9_54 C dX9_act_1 ?_
  refine x_bipush (v := 60) C dX9_act_4 (by decide) ?_
  refine x_icmp_ne (tgt := 52) C dX9_act_6 (by decide) (fun c6 => ?_) (fun c6 => ?_)
  · rw [if_neg c6] at h
    refine x_iconst (v := 0) C dX9_act_52 (by decide) ?_
    refine x_istore_n (i := 1) (ls' := [(1, .int (0)), (0, .ref (G.2.1 0 0))]) C dX9_act_53 rfl (Nat.le_of_ble_eq_true rfl) rfl ?_
    refine x_sub (ls' := [(0, .ref (G.2.1 0 0)), (1, .int (0))]) [1, 0] rfl ?_
    exact t9_act_l54 (N := N) C R N _ _ _ h
  · rw [if_pos c6] at h
    refine x_sipush (v := 530) C dX9_act_9 (by decide) ?_
    refine x_istore_n (i := 1) (ls' := [(1, .int (530)), (0, .ref (G.2.1 0 0))]) C dX9_act_12 rfl (Nat.le_of_ble_eq_true rfl) rfl ?_
    refine x_sub (ls' := [(0, .ref (G.2.1 0 0)), (1, .int (530))]) [1, 0] rfl ?_
    exact t9_act_l13 (N := N) C R N _ _ _ h
theorem c9_act (l : Launch) (G : xG) {N : Nat}  {s : mS} {s1 : mS} (h : f9_act N s = some s1) : xMet l yX9_act (x_ws yX9_act cX9_act 2 none) (xrm 0 0) G mdom [.ref (G.2.1 0 0)] (encM G s) none (encM G s1) := by
  refine xMet.of (by decide +kernel) (Nat.le_of_ble_eq_true rfl) ?_
  rintro ⟨M, G', dom', n'⟩ e1 R e3 e4 e5 C
  change G' = G at e3; change dom' = mdom at e4; change n' = 2 at e5
  subst e3; subst e4; subst e5
  exact t9_act C R h
theorem k9_64 {M : xM} {G : xG} {n : Nat} {rv : Option Value} {E' : xE} {cc : ByteArray} {ret : Option FieldType} {pc : Nat} {ls : List (Nat × Value)} {st : List Value} {N : Nat} {p1 : Int32} {p2 : Int32} {p3 : Int32} {s s1 : mS} {r : Int32} (C : xC (M, G, mdom, n) RX9 cc ret) (d : decode cc pc = .ok (.invokevirtual 64, 3)) (h : f9_in N p1 p2 p3 s = some (r, s1)) (hR : (xrm 0 0).frames + 1 ≤ (xR (M, G, mdom, n)).frames ∧ 8 + (4 + 11) + (xrm 0 0).locals ≤ (xR (M, G, mdom, n)).locals) (hw : (st.map fun v => v.category).sum ≤ 8) (k : X (M, G, mdom, n) rv E' (encM G s1) (pc + 3) ls (.int r :: st)) : X (M, G, mdom, n) rv E' (encM G s) pc ls (.int (p3) :: .int (p2) :: .int (p1) :: .ref (G.2.1 0 0) :: st) :=
  x_callV (As := [.int (p1), .int (p2), .int (p3)]) (n := 3) C d (c9_in (xl (M, G, mdom, n)) G h) lk811 lk813 lk58 lk87 lk814 ⟨rfl, rfl⟩ ⟨by decide +kernel, by decide +kernel, by decide +kernel⟩ rfl hR rfl rfl rfl rfl hw k
set_option maxRecDepth 100000 in
theorem t9_isMeter {M : xM} {G : xG} {N : Nat} {p1 : Int32} (C : xC (M, G, mdom, 2) RX9 cX9_isMeter (some .boolean)) (R : xR (M, G, mdom, 2) = xrm 1 23) {s : mS} {r : Int32} {s1 : mS} (h : f9_isMeter N p1 s = some (r, s1)) : X (M, G, mdom, 2) (some (.int r)) (encM G s1) (encM G s) 0 [(0, .ref (G.2.1 0 0)), (1, .int (p1))] [] := by
  unfold f9_isMeter at h
  refine x_aload_n (j := 0) C dX9_isMeter_0 rfl rfl ?_
  refine x_iload_n (j := 1) C dX9_isMeter_1 rfl rfl ?_
  refine x_iconst (v := 0) C dX9_isMeter_2 (by decide) ?_
  refine x_aload_n (j := 0) C dX9_isMeter_3 rfl rfl ?_
  refine gf9_7 C dX9_isMeter_4 ?_
  refine x_iconst (v := 1) C dX9_isMeter_7 (by decide) ?_
  refine mld1 C dX9_isMeter_8 (by decide) ?_
  refine x_iconst (v := 1) C dX9_isMeter_9 (by decide) ?_
  refine x_isub C dX9_isMeter_10 ?_
  obtain ⟨⟨r11, s11⟩, e11, h⟩ := Option.bind_eq_some_iff.mp h
  try dsimp only at h
  refine k9_64 C dX9_isMeter_11 e11 (x_room R rfl) (Nat.le_of_ble_eq_true rfl) ?_
  by_cases g : r11 = 0 ∨ r11 = 1
  · rw [if_pos g] at h; cases h; exact x_zret C dX9_isMeter_14 (nar01 g)
  · rw [if_neg g] at h; cases h
theorem c9_isMeter (l : Launch) (G : xG) {N : Nat} {p1 : Int32} {s : mS} {r : Int32} {s1 : mS} (h : f9_isMeter N p1 s = some (r, s1)) : xMet l yX9_isMeter (x_ws yX9_isMeter cX9_isMeter 2 (some .boolean)) (xrm 1 23) G mdom [.ref (G.2.1 0 0), .int (p1)] (encM G s) (some (.int r)) (encM G s1) := by
  refine xMet.of (by decide +kernel) (Nat.le_of_ble_eq_true rfl) ?_
  rintro ⟨M, G', dom', n'⟩ e1 R e3 e4 e5 C
  change G' = G at e3; change dom' = mdom at e4; change n' = 2 at e5
  subst e3; subst e4; subst e5
  exact t9_isMeter C R h
theorem k9_68 {M : xM} {G : xG} {n : Nat} {rv : Option Value} {E' : xE} {cc : ByteArray} {ret : Option FieldType} {pc : Nat} {ls : List (Nat × Value)} {st : List Value} {N : Nat} {p1 : Int32} {s s1 : mS} {r : Int32} (C : xC (M, G, mdom, n) RX9 cc ret) (d : decode cc pc = .ok (.invokevirtual 68, 3)) (h : f9_isMeter N p1 s = some (r, s1)) (hR : (xrm 1 23).frames + 1 ≤ (xR (M, G, mdom, n)).frames ∧ 8 + (2 + 11) + (xrm 1 23).locals ≤ (xR (M, G, mdom, n)).locals) (hw : (st.map fun v => v.category).sum ≤ 8) (k : X (M, G, mdom, n) rv E' (encM G s1) (pc + 3) ls (.int r :: st)) : X (M, G, mdom, n) rv E' (encM G s) pc ls (.int (p1) :: .ref (G.2.1 0 0) :: st) :=
  x_callV (As := [.int (p1)]) (n := 1) C d (c9_isMeter (xl (M, G, mdom, n)) G h) lk807 lk809 lk57 lk87 lk810 ⟨rfl, rfl⟩ ⟨by decide +kernel, by decide +kernel, by decide +kernel⟩ rfl hR rfl rfl rfl rfl hw k
set_option maxRecDepth 100000 in
theorem t9_isPart {M : xM} {G : xG} {N : Nat} {p1 : Int32} {p2 : Int32} (C : xC (M, G, mdom, 3) RX9 cX9_isPart (some .boolean)) (R : xR (M, G, mdom, 3) = xrm 2 44) {s : mS} {r : Int32} {s1 : mS} (h : f9_isPart N p1 p2 s = some (r, s1)) : X (M, G, mdom, 3) (some (.int r)) (encM G s1) (encM G s) 0 [(0, .ref (G.2.1 0 0)), (1, .int (p1)), (2, .int (p2))] [] := by
  unfold f9_isPart at h
  refine x_aload_n (j := 0) C dX9_isPart_0 rfl rfl ?_
  refine x_iload_n (j := 1) C dX9_isPart_1 rfl rfl ?_
  obtain ⟨⟨r2, s2⟩, e2, h⟩ := Option.bind_eq_some_iff.mp h
  try dsimp only at h
  refine k9_68 C dX9_isPart_2 e2 (x_room R rfl) (Nat.le_of_ble_eq_true rfl) ?_
  refine x_if_eq (tgt := 32) C dX9_isPart_5 (by decide) (fun c5 => ?_) (fun c5 => ?_)
  · rw [if_pos c5] at h
    refine x_iconst (v := 0) C dX9_isPart_32 (by decide) ?_
    cases h
    exact x_zret C dX9_isPart_33 rfl
  · rw [if_neg c5] at h
    refine x_aload_n (j := 0) C dX9_isPart_8 rfl rfl ?_
    refine x_iload_n (j := 2) C dX9_isPart_9 rfl rfl ?_
    refine x_iconst (v := 0) C dX9_isPart_10 (by decide) ?_
    refine x_aload_n (j := 0) C dX9_isPart_11 rfl rfl ?_
    refine gf9_7 C dX9_isPart_12 ?_
    refine x_bipush (v := 10) C dX9_isPart_15 (by decide) ?_
    refine x_iload_n (j := 1) C dX9_isPart_17 rfl rfl ?_
    refine x_iadd C dX9_isPart_18 ?_
    by_cases g19_1 : inB (10 + p1) 530 = true
    case neg => rw [if_neg g19_1] at h; cases h
    rw [if_pos g19_1] at h
    refine mld1 C dX9_isPart_19 g19_1 ?_
    refine x_iconst (v := 1) C dX9_isPart_20 (by decide) ?_
    refine x_isub C dX9_isPart_21 ?_
    obtain ⟨⟨r22, s22⟩, e22, h⟩ := Option.bind_eq_some_iff.mp h
    try dsimp only at h
    refine k9_64 C dX9_isPart_22 e22 (x_room R rfl) (Nat.le_of_ble_eq_true rfl) ?_
    refine x_if_eq (tgt := 32) C dX9_isPart_25 (by decide) (fun c25 => ?_) (fun c25 => ?_)
    · rw [if_pos c25] at h
      refine x_iconst (v := 0) C dX9_isPart_32 (by decide) ?_
      cases h
      exact x_zret C dX9_isPart_33 rfl
    · rw [if_neg c25] at h
      refine x_iconst (v := 1) C dX9_isPart_28 (by decide) ?_
      refine x_goto (tgt := 33) C dX9_isPart_29 (by decide) ?_
      cases h
      exact x_zret C dX9_isPart_33 rfl
theorem c9_isPart (l : Launch) (G : xG) {N : Nat} {p1 : Int32} {p2 : Int32} {s : mS} {r : Int32} {s1 : mS} (h : f9_isPart N p1 p2 s = some (r, s1)) : xMet l yX9_isPart (x_ws yX9_isPart cX9_isPart 3 (some .boolean)) (xrm 2 44) G mdom [.ref (G.2.1 0 0), .int (p1), .int (p2)] (encM G s) (some (.int r)) (encM G s1) := by
  refine xMet.of (by decide +kernel) (Nat.le_of_ble_eq_true rfl) ?_
  rintro ⟨M, G', dom', n'⟩ e1 R e3 e4 e5 C
  change G' = G at e3; change dom' = mdom at e4; change n' = 3 at e5
  subst e3; subst e4; subst e5
  exact t9_isPart C R h
theorem k9_60 {M : xM} {G : xG} {n : Nat} {rv : Option Value} {E' : xE} {cc : ByteArray} {ret : Option FieldType} {pc : Nat} {ls : List (Nat × Value)} {st : List Value} {N : Nat} {p1 : Int32} {p2 : Int32} {s s1 : mS} {r : Int32} (C : xC (M, G, mdom, n) RX9 cc ret) (d : decode cc pc = .ok (.invokevirtual 60, 3)) (h : f9_isPart N p1 p2 s = some (r, s1)) (hR : (xrm 2 44).frames + 1 ≤ (xR (M, G, mdom, n)).frames ∧ 8 + (3 + 11) + (xrm 2 44).locals ≤ (xR (M, G, mdom, n)).locals) (hw : (st.map fun v => v.category).sum ≤ 8) (k : X (M, G, mdom, n) rv E' (encM G s1) (pc + 3) ls (.int r :: st)) : X (M, G, mdom, n) rv E' (encM G s) pc ls (.int (p2) :: .int (p1) :: .ref (G.2.1 0 0) :: st) :=
  x_callV (As := [.int (p1), .int (p2)]) (n := 2) C d (c9_isPart (xl (M, G, mdom, n)) G h) lk803 lk805 lk56 lk87 lk806 ⟨rfl, rfl⟩ ⟨by decide +kernel, by decide +kernel, by decide +kernel⟩ rfl hR rfl rfl rfl rfl hw k
set_option maxRecDepth 100000 in
theorem t9_undo_l64b {M : xM} {G : xG} {N : Nat}  (C : xC (M, G, mdom, 3) RX9 cX9_undo (some .int)) (R : xR (M, G, mdom, 3) = xrm 3 66) {k64 : Int32 → Int32 → mS → Option (Int32 × mS)} (hk64 : ∀ (a1 : Int32) (a2 : Int32) (s : mS) (r : Int32) (s1 : mS), k64 a1 a2 s = some (r, s1) → X (M, G, mdom, 3) (some (.int r)) (encM G s1) (encM G s) 64 [(0, .ref (G.2.1 0 0)), (1, .int (a1)), (2, .int (a2))] []) {a1 : Int32} {a2 : Int32} {s : mS} {r : Int32} {s1 : mS} (h : f9_undo_l64b N k64 a1 a2 s = some (r, s1)) : X (M, G, mdom, 3) (some (.int r)) (encM G s1) (encM G s) 64 [(0, .ref (G.2.1 0 0)), (1, .int (a1)), (2, .int (a2))] [] := by
  unfold f9_undo_l64b at h
  refine x_iload_n (j := 2) C dX9_undo_64 rfl rfl ?_
  refine x_aload_n (j := 0) C dX9_undo_65 rfl rfl ?_
  refine gf9_57 C dX9_undo_66 ?_
  refine x_icmp_ge (tgt := 139) C dX9_undo_69 (by decide) (fun c69 => ?_) (fun c69 => ?_)
  · rw [if_pos c69] at h
    refine x_aload_n (j := 0) C dX9_undo_139 rfl rfl ?_
    refine x_iload_n (j := 1) C dX9_undo_140 rfl rfl ?_
    refine pf9_57 C dX9_undo_141 ?_
    refine x_iconst (v := 1) C dX9_undo_144 (by decide) ?_
    cases h
    exact x_iret C dX9_undo_145
  · rw [if_neg c69] at h
    refine x_aload_n (j := 0) C dX9_undo_72 rfl rfl ?_
    refine x_aload_n (j := 0) C dX9_undo_73 rfl rfl ?_
    refine gf9_22 C dX9_undo_74 ?_
    refine x_iload_n (j := 2) C dX9_undo_77 rfl rfl ?_
    by_cases g78_1 : inB a2 10 = true
    case neg => rw [if_neg g78_1] at h; cases h
    rw [if_pos g78_1] at h
    refine mld5 C dX9_undo_78 g78_1 ?_
    refine x_aload_n (j := 0) C dX9_undo_79 rfl rfl ?_
    refine gf9_25 C dX9_undo_80 ?_
    refine x_iload_n (j := 2) C dX9_undo_83 rfl rfl ?_
    refine mld6 C dX9_undo_84 g78_1 ?_
    obtain ⟨⟨r85, s85⟩, e85, h⟩ := Option.bind_eq_some_iff.mp h
    try dsimp only at h
    refine k9_60 C dX9_undo_85 e85 (x_room R rfl) (Nat.le_of_ble_eq_true rfl) ?_
    refine x_if_ne (tgt := 94) C dX9_undo_88 (by decide) (fun c88 => ?_) (fun c88 => ?_)
    · rw [if_neg c88] at h
      refine x_aload_n (j := 0) C dX9_undo_94 rfl rfl ?_
      refine gf9_22 C dX9_undo_95 ?_
      refine x_iload_n (j := 1) C dX9_undo_98 rfl rfl ?_
      refine x_aload_n (j := 0) C dX9_undo_99 rfl rfl ?_
      refine gf9_22 C dX9_undo_100 ?_
      refine x_iload_n (j := 2) C dX9_undo_103 rfl rfl ?_
      refine mld5 C dX9_undo_104 g78_1 ?_
      by_cases g105_2 : inB a1 10 = true
      case neg => rw [if_neg g105_2] at h; cases h
      rw [if_pos g105_2] at h
      refine mst5 C dX9_undo_105 g105_2 ?_
      refine x_aload_n (j := 0) C dX9_undo_106 rfl rfl ?_
      refine gf9_25 C dX9_undo_107 ?_
      refine x_iload_n (j := 1) C dX9_undo_110 rfl rfl ?_
      refine x_aload_n (j := 0) C dX9_undo_111 rfl rfl ?_
      refine gf9_25 C dX9_undo_112 ?_
      refine x_iload_n (j := 2) C dX9_undo_115 rfl rfl ?_
      refine mld6 C dX9_undo_116 g78_1 ?_
      refine mst6 C dX9_undo_117 g105_2 ?_
      refine x_aload_n (j := 0) C dX9_undo_118 rfl rfl ?_
      refine gf9_28 C dX9_undo_119 ?_
      refine x_iload_n (j := 1) C dX9_undo_122 rfl rfl ?_
      refine x_aload_n (j := 0) C dX9_undo_123 rfl rfl ?_
      refine gf9_28 C dX9_undo_124 ?_
      refine x_iload_n (j := 2) C dX9_undo_127 rfl rfl ?_
      refine mld7 C dX9_undo_128 g78_1 ?_
      refine mst7 C dX9_undo_129 g105_2 ?_
      refine x_iinc (j := 1) (v := (a1 + 1)) (ls' := [(1, .int ((a1 + 1))), (0, .ref (G.2.1 0 0)), (2, .int (a2))]) C dX9_undo_130 rfl rfl (Nat.le_of_ble_eq_true rfl) rfl ?_
      refine x_iinc (j := 2) (v := (a2 + 1)) (ls' := [(2, .int ((a2 + 1))), (1, .int ((a1 + 1))), (0, .ref (G.2.1 0 0))]) C dX9_undo_133 rfl rfl (Nat.le_of_ble_eq_true rfl) rfl ?_
      refine x_goto (tgt := 64) C dX9_undo_136 (by decide) ?_
      refine x_sub (ls' := [(0, .ref (G.2.1 0 0)), (1, .int ((a1 + 1))), (2, .int ((a2 + 1)))]) [2, 1, 0] rfl ?_
      exact hk64 _ _ _ _ _ h
    · rw [if_pos c88] at h
      refine x_goto (tgt := 133) C dX9_undo_91 (by decide) ?_
      refine x_iinc (j := 2) (v := (a2 + 1)) (ls' := [(2, .int ((a2 + 1))), (0, .ref (G.2.1 0 0)), (1, .int (a1))]) C dX9_undo_133 rfl rfl (Nat.le_of_ble_eq_true rfl) rfl ?_
      refine x_goto (tgt := 64) C dX9_undo_136 (by decide) ?_
      refine x_sub (ls' := [(0, .ref (G.2.1 0 0)), (1, .int (a1)), (2, .int ((a2 + 1)))]) [1, 2, 0] rfl ?_
      exact hk64 _ _ _ _ _ h
theorem t9_undo_l64 {M : xM} {G : xG} {N : Nat}  (C : xC (M, G, mdom, 3) RX9 cX9_undo (some .int)) (R : xR (M, G, mdom, 3) = xrm 3 66) (n : Nat) : ∀ (a1 : Int32) (a2 : Int32) (s : mS) (r : Int32) (s1 : mS), f9_undo_l64 N n a1 a2 s = some (r, s1) → X (M, G, mdom, 3) (some (.int r)) (encM G s1) (encM G s) 64 [(0, .ref (G.2.1 0 0)), (1, .int (a1)), (2, .int (a2))] [] := by
  induction n with
  | zero => intro a1 a2 s r s1 h; exact (Option.some_ne_none _ (Eq.symm h)).elim
  | succ n ih => intro a1 a2 s r s1 h; exact t9_undo_l64b (N := N) C R (k64 := f9_undo_l64 N n) ih h
set_option maxRecDepth 100000 in
theorem t9_undo_l26b {M : xM} {G : xG} {N : Nat}  (C : xC (M, G, mdom, 3) RX9 cX9_undo (some .int)) (R : xR (M, G, mdom, 3) = xrm 3 66) {k26 : Int32 → mS → Option (Int32 × mS)} (hk26 : ∀ (a1 : Int32) (s : mS) (r : Int32) (s1 : mS), k26 a1 s = some (r, s1) → X (M, G, mdom, 3) (some (.int r)) (encM G s1) (encM G s) 26 [(0, .ref (G.2.1 0 0)), (1, .int (a1))] []) {a1 : Int32} {s : mS} {r : Int32} {s1 : mS} (h : f9_undo_l26b N k26 a1 s = some (r, s1)) : X (M, G, mdom, 3) (some (.int r)) (encM G s1) (encM G s) 26 [(0, .ref (G.2.1 0 0)), (1, .int (a1))] [] := by
  unfold f9_undo_l26b at h
  refine x_iload_n (j := 1) C dX9_undo_26 rfl rfl ?_
  refine x_sipush (v := 530) C dX9_undo_27 (by decide) ?_
  refine x_icmp_ge (tgt := 60) C dX9_undo_30 (by decide) (fun c30 => ?_) (fun c30 => ?_)
  · rw [if_pos c30] at h
    refine x_iconst (v := 0) C dX9_undo_60 (by decide) ?_
    refine x_istore_n (i := 1) (ls' := [(1, .int (0)), (0, .ref (G.2.1 0 0))]) C dX9_undo_61 rfl (Nat.le_of_ble_eq_true rfl) rfl ?_
    refine x_iconst (v := 0) C dX9_undo_62 (by decide) ?_
    refine x_istore_n (i := 2) (ls' := [(2, .int (0)), (1, .int (0)), (0, .ref (G.2.1 0 0))]) C dX9_undo_63 rfl (Nat.le_of_ble_eq_true rfl) rfl ?_
    refine x_sub (ls' := [(0, .ref (G.2.1 0 0)), (1, .int (0)), (2, .int (0))]) [2, 1, 0] rfl ?_
    exact t9_undo_l64 (N := N) C R N _ _ _ _ _ h
  · rw [if_neg c30] at h
    refine x_aload_n (j := 0) C dX9_undo_33 rfl rfl ?_
    refine gf9_7 C dX9_undo_34 ?_
    refine x_iload_n (j := 1) C dX9_undo_37 rfl rfl ?_
    refine x_aload_n (j := 0) C dX9_undo_38 rfl rfl ?_
    refine gf9_13 C dX9_undo_39 ?_
    refine x_sipush (v := 530) C dX9_undo_42 (by decide) ?_
    refine x_aload_n (j := 0) C dX9_undo_45 rfl rfl ?_
    refine gf9_54 C dX9_undo_46 ?_
    refine x_imul C dX9_undo_49 ?_
    refine x_iload_n (j := 1) C dX9_undo_50 rfl rfl ?_
    refine x_iadd C dX9_undo_51 ?_
    by_cases g52_1 : inB ((530 * (s 2 0)) + a1) 31800 = true
    case neg => rw [if_neg g52_1] at h; cases h
    rw [if_pos g52_1] at h
    refine mld2 C dX9_undo_52 g52_1 ?_
    by_cases g53_2 : inB a1 530 = true
    case neg => rw [if_neg g53_2] at h; cases h
    rw [if_pos g53_2] at h
    refine mst1 C dX9_undo_53 g53_2 ?_
    refine x_iinc (j := 1) (v := (a1 + 1)) (ls' := [(1, .int ((a1 + 1))), (0, .ref (G.2.1 0 0))]) C dX9_undo_54 rfl rfl (Nat.le_of_ble_eq_true rfl) rfl ?_
    refine x_goto (tgt := 26) C dX9_undo_57 (by decide) ?_
    refine x_sub (ls' := [(0, .ref (G.2.1 0 0)), (1, .int ((a1 + 1)))]) [1, 0] rfl ?_
    exact hk26 _ _ _ _ h
theorem t9_undo_l26 {M : xM} {G : xG} {N : Nat}  (C : xC (M, G, mdom, 3) RX9 cX9_undo (some .int)) (R : xR (M, G, mdom, 3) = xrm 3 66) (n : Nat) : ∀ (a1 : Int32) (s : mS) (r : Int32) (s1 : mS), f9_undo_l26 N n a1 s = some (r, s1) → X (M, G, mdom, 3) (some (.int r)) (encM G s1) (encM G s) 26 [(0, .ref (G.2.1 0 0)), (1, .int (a1))] [] := by
  induction n with
  | zero => intro a1 s r s1 h; exact (Option.some_ne_none _ (Eq.symm h)).elim
  | succ n ih => intro a1 s r s1 h; exact t9_undo_l26b (N := N) C R (k26 := f9_undo_l26 N n) ih h
set_option maxRecDepth 100000 in
theorem t9_undo {M : xM} {G : xG} {N : Nat}  (C : xC (M, G, mdom, 3) RX9 cX9_undo (some .int)) (R : xR (M, G, mdom, 3) = xrm 3 66) {s : mS} {r : Int32} {s1 : mS} (h : f9_undo N s = some (r, s1)) : X (M, G, mdom, 3) (some (.int r)) (encM G s1) (encM G s) 0 [(0, .ref (G.2.1 0 0))] [] := by
  unfold f9_undo at h
  refine x_aload_n (j := 0) C dX9_undo_0 rfl rfl ?_
  refine x_iconst (v := 0) C dX9_undo_1 (by decide) ?_
  refine pf9_47 C dX9_undo_2 ?_
  refine x_aload_n (j := 0) C dX9_undo_5 rfl rfl ?_
  refine gf9_54 C dX9_undo_6 ?_
  refine x_if_ne (tgt := 14) C dX9_undo_9 (by decide) (fun c9 => ?_) (fun c9 => ?_)
  · rw [if_neg c9] at h
    refine x_aload_n (j := 0) C dX9_undo_14 rfl rfl ?_
    refine x_dup C dX9_undo_15 rfl ?_
    refine gf9_54 C dX9_undo_16 ?_
    refine x_iconst (v := 1) C dX9_undo_19 (by decide) ?_
    refine x_isub C dX9_undo_20 ?_
    refine pf9_54 C dX9_undo_21 ?_
    refine x_iconst (v := 0) C dX9_undo_24 (by decide) ?_
    refine x_istore_n (i := 1) (ls' := [(1, .int (0)), (0, .ref (G.2.1 0 0))]) C dX9_undo_25 rfl (Nat.le_of_ble_eq_true rfl) rfl ?_
    refine x_sub (ls' := [(0, .ref (G.2.1 0 0)), (1, .int (0))]) [1, 0] rfl ?_
    exact t9_undo_l26 (N := N) C R N _ _ _ _ h
  · rw [if_pos c9] at h
    refine x_iconst (v := 0) C dX9_undo_12 (by decide) ?_
    cases h
    exact x_iret C dX9_undo_13
theorem c9_undo (l : Launch) (G : xG) {N : Nat}  {s : mS} {r : Int32} {s1 : mS} (h : f9_undo N s = some (r, s1)) : xMet l yX9_undo (x_ws yX9_undo cX9_undo 3 (some .int)) (xrm 3 66) G mdom [.ref (G.2.1 0 0)] (encM G s) (some (.int r)) (encM G s1) := by
  refine xMet.of (by decide +kernel) (Nat.le_of_ble_eq_true rfl) ?_
  rintro ⟨M, G', dom', n'⟩ e1 R e3 e4 e5 C
  change G' = G at e3; change dom' = mdom at e4; change n' = 3 at e5
  subst e3; subst e4; subst e5
  exact t9_undo C R h
set_option maxRecDepth 100000 in
theorem t9_isNumber {M : xM} {G : xG} {N : Nat} {p1 : Int32} (C : xC (M, G, mdom, 2) RX9 cX9_isNumber (some .boolean)) (R : xR (M, G, mdom, 2) = xrm 1 23) {s : mS} {r : Int32} {s1 : mS} (h : f9_isNumber N p1 s = some (r, s1)) : X (M, G, mdom, 2) (some (.int r)) (encM G s1) (encM G s) 0 [(0, .ref (G.2.1 0 0)), (1, .int (p1))] [] := by
  unfold f9_isNumber at h
  refine x_aload_n (j := 0) C dX9_isNumber_0 rfl rfl ?_
  refine x_iload_n (j := 1) C dX9_isNumber_1 rfl rfl ?_
  refine x_iconst (v := 0) C dX9_isNumber_2 (by decide) ?_
  refine x_aload_n (j := 0) C dX9_isNumber_3 rfl rfl ?_
  refine gf9_7 C dX9_isNumber_4 ?_
  refine x_iconst (v := 0) C dX9_isNumber_7 (by decide) ?_
  refine mld1 C dX9_isNumber_8 (by decide) ?_
  obtain ⟨⟨r9, s9⟩, e9, h⟩ := Option.bind_eq_some_iff.mp h
  try dsimp only at h
  refine k9_64 C dX9_isNumber_9 e9 (x_room R rfl) (Nat.le_of_ble_eq_true rfl) ?_
  by_cases g : r9 = 0 ∨ r9 = 1
  · rw [if_pos g] at h; cases h; exact x_zret C dX9_isNumber_12 (nar01 g)
  · rw [if_neg g] at h; cases h
theorem c9_isNumber (l : Launch) (G : xG) {N : Nat} {p1 : Int32} {s : mS} {r : Int32} {s1 : mS} (h : f9_isNumber N p1 s = some (r, s1)) : xMet l yX9_isNumber (x_ws yX9_isNumber cX9_isNumber 2 (some .boolean)) (xrm 1 23) G mdom [.ref (G.2.1 0 0), .int (p1)] (encM G s) (some (.int r)) (encM G s1) := by
  refine xMet.of (by decide +kernel) (Nat.le_of_ble_eq_true rfl) ?_
  rintro ⟨M, G', dom', n'⟩ e1 R e3 e4 e5 C
  change G' = G at e3; change dom' = mdom at e4; change n' = 2 at e5
  subst e3; subst e4; subst e5
  exact t9_isNumber C R h
set_option maxRecDepth 100000 in
theorem t9_at {M : xM} {G : xG} {N : Nat} {p1 : Int32} {p2 : Int32} (C : xC (M, G, mdom, 3) RX9 cX9_at (some .int)) (R : xR (M, G, mdom, 3) = xrm 0 0) {s : mS} {r : Int32} {s1 : mS} (h : f9_at N p1 p2 s = some (r, s1)) : X (M, G, mdom, 3) (some (.int r)) (encM G s1) (encM G s) 0 [(0, .ref (G.2.1 0 0)), (1, .int (p1)), (2, .int (p2))] [] := by
  unfold f9_at at h
  refine x_bipush (v := 18) C dX9_at_0 (by decide) ?_
  refine x_iconst (v := 4) C dX9_at_2 (by decide) ?_
  refine x_bipush (v := 16) C dX9_at_3 (by decide) ?_
  refine x_iload_n (j := 1) C dX9_at_5 rfl rfl ?_
  refine x_imul C dX9_at_6 ?_
  refine x_iload_n (j := 2) C dX9_at_7 rfl rfl ?_
  refine x_iadd C dX9_at_8 ?_
  refine x_imul C dX9_at_9 ?_
  refine x_iadd C dX9_at_10 ?_
  cases h
  exact x_iret C dX9_at_11
theorem c9_at (l : Launch) (G : xG) {N : Nat} {p1 : Int32} {p2 : Int32} {s : mS} {r : Int32} {s1 : mS} (h : f9_at N p1 p2 s = some (r, s1)) : xMet l yX9_at (x_ws yX9_at cX9_at 3 (some .int)) (xrm 0 0) G mdom [.ref (G.2.1 0 0), .int (p1), .int (p2)] (encM G s) (some (.int r)) (encM G s1) := by
  refine xMet.of (by decide +kernel) (Nat.le_of_ble_eq_true rfl) ?_
  rintro ⟨M, G', dom', n'⟩ e1 R e3 e4 e5 C
  change G' = G at e3; change dom' = mdom at e4; change n' = 3 at e5
  subst e3; subst e4; subst e5
  exact t9_at C R h
theorem k9_75 {M : xM} {G : xG} {n : Nat} {rv : Option Value} {E' : xE} {cc : ByteArray} {ret : Option FieldType} {pc : Nat} {ls : List (Nat × Value)} {st : List Value} {N : Nat} {s s1 : mS} (C : xC (M, G, mdom, n) RX9 cc ret) (d : decode cc pc = .ok (.invokevirtual 75, 3)) (h : f9_act N s = some s1) (hR : (xrm 0 0).frames + 1 ≤ (xR (M, G, mdom, n)).frames ∧ 8 + (2 + 11) + (xrm 0 0).locals ≤ (xR (M, G, mdom, n)).locals) (hw : (st.map fun v => v.category).sum ≤ 8) (k : X (M, G, mdom, n) rv E' (encM G s1) (pc + 3) ls (st)) : X (M, G, mdom, n) rv E' (encM G s) pc ls (.ref (G.2.1 0 0) :: st) :=
  x_callV (As := []) (n := 0) C d (c9_act (xl (M, G, mdom, n)) G h) lk823 lk825 lk60 lk87 lk826 ⟨rfl, rfl⟩ ⟨by decide +kernel, by decide +kernel, by decide +kernel⟩ rfl hR rfl rfl rfl rfl hw k
theorem k9_72 {M : xM} {G : xG} {n : Nat} {rv : Option Value} {E' : xE} {cc : ByteArray} {ret : Option FieldType} {pc : Nat} {ls : List (Nat × Value)} {st : List Value} {N : Nat} {p1 : Int32} {s s1 : mS} {r : Int32} (C : xC (M, G, mdom, n) RX9 cc ret) (d : decode cc pc = .ok (.invokevirtual 72, 3)) (h : f9_not N p1 s = some (r, s1)) (hR : (xrm 0 0).frames + 1 ≤ (xR (M, G, mdom, n)).frames ∧ 8 + (2 + 11) + (xrm 0 0).locals ≤ (xR (M, G, mdom, n)).locals) (hw : (st.map fun v => v.category).sum ≤ 8) (k : X (M, G, mdom, n) rv E' (encM G s1) (pc + 3) ls (.int r :: st)) : X (M, G, mdom, n) rv E' (encM G s) pc ls (.int (p1) :: .ref (G.2.1 0 0) :: st) :=
  x_callV (As := [.int (p1)]) (n := 1) C d (c9_not (xl (M, G, mdom, n)) G h) lk819 lk821 lk59 lk87 lk822 ⟨rfl, rfl⟩ ⟨by decide +kernel, by decide +kernel, by decide +kernel⟩ rfl hR rfl rfl rfl rfl hw k
set_option maxRecDepth 100000 in
theorem t9_range {M : xM} {G : xG} {N : Nat} {p1 : Int32} (C : xC (M, G, mdom, 2) RX9 cX9_range (some .boolean)) (R : xR (M, G, mdom, 2) = xrm 1 23) {s : mS} {r : Int32} {s1 : mS} (h : f9_range N p1 s = some (r, s1)) : X (M, G, mdom, 2) (some (.int r)) (encM G s1) (encM G s) 0 [(0, .ref (G.2.1 0 0)), (1, .int (p1))] [] := by
  unfold f9_range at h
  refine x_aload_n (j := 0) C dX9_range_0 rfl rfl ?_
  refine x_iconst (v := 0) C dX9_range_1 (by decide) ?_
  refine pf9_47 C dX9_range_2 ?_
  refine x_aload_n (j := 0) C dX9_range_5 rfl rfl ?_
  refine x_iload_n (j := 1) C dX9_range_6 rfl rfl ?_
  refine x_iconst (v := 1) C dX9_range_7 (by decide) ?_
  refine x_sipush (v := 4095) C dX9_range_8 (by decide) ?_
  obtain ⟨⟨r11, s11⟩, e11, h⟩ := Option.bind_eq_some_iff.mp h
  try dsimp only at h
  refine k9_64 C dX9_range_11 e11 (x_room R rfl) (Nat.le_of_ble_eq_true rfl) ?_
  refine x_if_ne (tgt := 23) C dX9_range_14 (by decide) (fun c14 => ?_) (fun c14 => ?_)
  · rw [if_neg c14] at h
    refine x_aload_n (j := 0) C dX9_range_23 rfl rfl ?_
    obtain ⟨s24, e24, h⟩ := Option.bind_eq_some_iff.mp h
    try dsimp only at h
    refine k9_75 C dX9_range_24 e24 (x_room R rfl) (Nat.le_of_ble_eq_true rfl) ?_
    refine x_aload_n (j := 0) C dX9_range_27 rfl rfl ?_
    refine gf9_7 C dX9_range_28 ?_
    refine x_iconst (v := 0) C dX9_range_31 (by decide) ?_
    refine x_iload_n (j := 1) C dX9_range_32 rfl rfl ?_
    refine mst1 C dX9_range_33 (by decide) ?_
    refine x_iconst (v := 1) C dX9_range_34 (by decide) ?_
    cases h
    exact x_zret C dX9_range_35 rfl
  · rw [if_pos c14] at h
    refine x_aload_n (j := 0) C dX9_range_17 rfl rfl ?_
    refine x_iconst (v := 1) C dX9_range_18 (by decide) ?_
    obtain ⟨⟨r19, s19⟩, e19, h⟩ := Option.bind_eq_some_iff.mp h
    try dsimp only at h
    refine k9_72 C dX9_range_19 e19 (x_room R rfl) (Nat.le_of_ble_eq_true rfl) ?_
    by_cases g : r19 = 0 ∨ r19 = 1
    · rw [if_pos g] at h; cases h; exact x_zret C dX9_range_22 (nar01 g)
    · rw [if_neg g] at h; cases h
theorem c9_range (l : Launch) (G : xG) {N : Nat} {p1 : Int32} {s : mS} {r : Int32} {s1 : mS} (h : f9_range N p1 s = some (r, s1)) : xMet l yX9_range (x_ws yX9_range cX9_range 2 (some .boolean)) (xrm 1 23) G mdom [.ref (G.2.1 0 0), .int (p1)] (encM G s) (some (.int r)) (encM G s1) := by
  refine xMet.of (by decide +kernel) (Nat.le_of_ble_eq_true rfl) ?_
  rintro ⟨M, G', dom', n'⟩ e1 R e3 e4 e5 C
  change G' = G at e3; change dom' = mdom at e4; change n' = 2 at e5
  subst e3; subst e4; subst e5
  exact t9_range C R h
theorem k9_78 {M : xM} {G : xG} {n : Nat} {rv : Option Value} {E' : xE} {cc : ByteArray} {ret : Option FieldType} {pc : Nat} {ls : List (Nat × Value)} {st : List Value} {N : Nat} {p1 : Int32} {s s1 : mS} {r : Int32} (C : xC (M, G, mdom, n) RX9 cc ret) (d : decode cc pc = .ok (.invokevirtual 78, 3)) (h : f9_no N p1 s = some (r, s1)) (hR : (xrm 0 0).frames + 1 ≤ (xR (M, G, mdom, n)).frames ∧ 8 + (2 + 11) + (xrm 0 0).locals ≤ (xR (M, G, mdom, n)).locals) (hw : (st.map fun v => v.category).sum ≤ 8) (k : X (M, G, mdom, n) rv E' (encM G s1) (pc + 3) ls (.int r :: st)) : X (M, G, mdom, n) rv E' (encM G s) pc ls (.int (p1) :: .ref (G.2.1 0 0) :: st) :=
  x_callV (As := [.int (p1)]) (n := 1) C d (c9_no (xl (M, G, mdom, n)) G h) lk831 lk833 lk61 lk87 lk834 ⟨rfl, rfl⟩ ⟨by decide +kernel, by decide +kernel, by decide +kernel⟩ rfl hR rfl rfl rfl rfl hw k
set_option maxRecDepth 100000 in
theorem t9_meter {M : xM} {G : xG} {N : Nat} {p1 : Int32} (C : xC (M, G, mdom, 2) RX9 cX9_meter (some .int)) (R : xR (M, G, mdom, 2) = xrm 1 23) {s : mS} {r : Int32} {s1 : mS} (h : f9_meter N p1 s = some (r, s1)) : X (M, G, mdom, 2) (some (.int r)) (encM G s1) (encM G s) 0 [(0, .ref (G.2.1 0 0)), (1, .int (p1))] [] := by
  unfold f9_meter at h
  refine x_aload_n (j := 0) C dX9_meter_0 rfl rfl ?_
  refine x_iconst (v := 0) C dX9_meter_1 (by decide) ?_
  refine pf9_47 C dX9_meter_2 ?_
  refine x_aload_n (j := 0) C dX9_meter_5 rfl rfl ?_
  refine x_iload_n (j := 1) C dX9_meter_6 rfl rfl ?_
  refine x_iconst (v := 0) C dX9_meter_7 (by decide) ?_
  refine x_iconst (v := 4) C dX9_meter_8 (by decide) ?_
  obtain ⟨⟨r9, s9⟩, e9, h⟩ := Option.bind_eq_some_iff.mp h
  try dsimp only at h
  refine k9_64 C dX9_meter_9 e9 (x_room R rfl) (Nat.le_of_ble_eq_true rfl) ?_
  refine x_if_ne (tgt := 21) C dX9_meter_12 (by decide) (fun c12 => ?_) (fun c12 => ?_)
  · rw [if_neg c12] at h
    refine x_aload_n (j := 0) C dX9_meter_21 rfl rfl ?_
    refine gf9_7 C dX9_meter_22 ?_
    refine x_iconst (v := 1) C dX9_meter_25 (by decide) ?_
    refine mld1 C dX9_meter_26 (by decide) ?_
    refine x_bipush (v := 8) C dX9_meter_27 (by decide) ?_
    refine x_icmp_ne (tgt := 38) C dX9_meter_29 (by decide) (fun c29 => ?_) (fun c29 => ?_)
    · rw [if_neg c29] at h
      refine x_aload_n (j := 0) C dX9_meter_38 rfl rfl ?_
      obtain ⟨s39, e39, h⟩ := Option.bind_eq_some_iff.mp h
      try dsimp only at h
      refine k9_75 C dX9_meter_39 e39 (x_room R rfl) (Nat.le_of_ble_eq_true rfl) ?_
      refine x_aload_n (j := 0) C dX9_meter_42 rfl rfl ?_
      refine gf9_7 C dX9_meter_43 ?_
      refine x_iconst (v := 2) C dX9_meter_46 (by decide) ?_
      refine x_aload_n (j := 0) C dX9_meter_47 rfl rfl ?_
      refine gf9_7 C dX9_meter_48 ?_
      refine x_iconst (v := 1) C dX9_meter_51 (by decide) ?_
      refine mld1 C dX9_meter_52 (by decide) ?_
      refine x_iadd C dX9_meter_53 ?_
      refine x_iload_n (j := 1) C dX9_meter_54 rfl rfl ?_
      by_cases g55_1 : inB (2 + (s39 0 ((1 : Int32).toNatClampNeg))) 530 = true
      case neg => rw [if_neg g55_1] at h; cases h
      rw [if_pos g55_1] at h
      refine mst1 C dX9_meter_55 g55_1 ?_
      refine x_aload_n (j := 0) C dX9_meter_56 rfl rfl ?_
      refine gf9_7 C dX9_meter_57 ?_
      refine x_bipush (v := 10) C dX9_meter_60 (by decide) ?_
      refine x_aload_n (j := 0) C dX9_meter_62 rfl rfl ?_
      refine gf9_7 C dX9_meter_63 ?_
      refine x_iconst (v := 1) C dX9_meter_66 (by decide) ?_
      refine mld1 C dX9_meter_67 (by decide) ?_
      refine x_iadd C dX9_meter_68 ?_
      refine x_iconst (v := 0) C dX9_meter_69 (by decide) ?_
      by_cases g70_2 : inB (10 + ((mu s39 0 ((2 + (s39 0 ((1 : Int32).toNatClampNeg))).toNatClampNeg) p1) 0 ((1 : Int32).toNatClampNeg))) 530 = true
      case neg => rw [if_neg g70_2] at h; cases h
      rw [if_pos g70_2] at h
      refine mst1 C dX9_meter_70 g70_2 ?_
      refine x_aload_n (j := 0) C dX9_meter_71 rfl rfl ?_
      refine gf9_7 C dX9_meter_72 ?_
      refine x_iconst (v := 1) C dX9_meter_75 (by decide) ?_
      refine x_dup2 C dX9_meter_76 rfl rfl ?_
      refine mld1 C dX9_meter_77 (by decide) ?_
      refine x_iconst (v := 1) C dX9_meter_78 (by decide) ?_
      refine x_iadd C dX9_meter_79 ?_
      refine mst1 C dX9_meter_80 (by decide) ?_
      refine x_aload_n (j := 0) C dX9_meter_81 rfl rfl ?_
      refine gf9_7 C dX9_meter_82 ?_
      refine x_iconst (v := 1) C dX9_meter_85 (by decide) ?_
      refine mld1 C dX9_meter_86 (by decide) ?_
      refine x_iconst (v := 1) C dX9_meter_87 (by decide) ?_
      refine x_isub C dX9_meter_88 ?_
      cases h
      exact x_iret C dX9_meter_89
    · rw [if_pos c29] at h
      refine x_aload_n (j := 0) C dX9_meter_32 rfl rfl ?_
      refine x_iconst (v := 3) C dX9_meter_33 (by decide) ?_
      obtain ⟨⟨r34, s34⟩, e34, h⟩ := Option.bind_eq_some_iff.mp h
      try dsimp only at h
      refine k9_78 C dX9_meter_34 e34 (x_room R rfl) (Nat.le_of_ble_eq_true rfl) ?_
      cases h
      exact x_iret C dX9_meter_37
  · rw [if_pos c12] at h
    refine x_aload_n (j := 0) C dX9_meter_15 rfl rfl ?_
    refine x_iconst (v := 1) C dX9_meter_16 (by decide) ?_
    obtain ⟨⟨r17, s17⟩, e17, h⟩ := Option.bind_eq_some_iff.mp h
    try dsimp only at h
    refine k9_78 C dX9_meter_17 e17 (x_room R rfl) (Nat.le_of_ble_eq_true rfl) ?_
    cases h
    exact x_iret C dX9_meter_20
theorem c9_meter (l : Launch) (G : xG) {N : Nat} {p1 : Int32} {s : mS} {r : Int32} {s1 : mS} (h : f9_meter N p1 s = some (r, s1)) : xMet l yX9_meter (x_ws yX9_meter cX9_meter 2 (some .int)) (xrm 1 23) G mdom [.ref (G.2.1 0 0), .int (p1)] (encM G s) (some (.int r)) (encM G s1) := by
  refine xMet.of (by decide +kernel) (Nat.le_of_ble_eq_true rfl) ?_
  rintro ⟨M, G', dom', n'⟩ e1 R e3 e4 e5 C
  change G' = G at e3; change dom' = mdom at e4; change n' = 2 at e5
  subst e3; subst e4; subst e5
  exact t9_meter C R h
set_option maxRecDepth 100000 in
theorem t9_isStaged {M : xM} {G : xG} {N : Nat} {p1 : Int32} (C : xC (M, G, mdom, 2) RX9 cX9_isStaged (some .boolean)) (R : xR (M, G, mdom, 2) = xrm 0 0) {s : mS} {r : Int32} {s1 : mS} (h : f9_isStaged N p1 s = some (r, s1)) : X (M, G, mdom, 2) (some (.int r)) (encM G s1) (encM G s) 0 [(0, .ref (G.2.1 0 0)), (1, .int (p1))] [] := by
  unfold f9_isStaged at h
  refine x_aload_n (j := 0) C dX9_isStaged_0 rfl rfl ?_
  refine gf9_7 C dX9_isStaged_1 ?_
  refine x_iconst (v := 2) C dX9_isStaged_4 (by decide) ?_
  refine x_iload_n (j := 1) C dX9_isStaged_5 rfl rfl ?_
  refine x_iadd C dX9_isStaged_6 ?_
  by_cases g7_1 : inB (2 + p1) 530 = true
  case neg => rw [if_neg g7_1] at h; cases h
  rw [if_pos g7_1] at h
  refine mld1 C dX9_isStaged_7 g7_1 ?_
  refine x_iconst (v := 2) C dX9_isStaged_8 (by decide) ?_
  refine x_icmp_le (tgt := 16) C dX9_isStaged_9 (by decide) (fun c9 => ?_) (fun c9 => ?_)
  · rw [if_pos c9] at h
    refine x_iconst (v := 0) C dX9_isStaged_16 (by decide) ?_
    cases h
    exact x_zret C dX9_isStaged_17 rfl
  · rw [if_neg c9] at h
    refine x_iconst (v := 1) C dX9_isStaged_12 (by decide) ?_
    refine x_goto (tgt := 17) C dX9_isStaged_13 (by decide) ?_
    cases h
    exact x_zret C dX9_isStaged_17 rfl
theorem c9_isStaged (l : Launch) (G : xG) {N : Nat} {p1 : Int32} {s : mS} {r : Int32} {s1 : mS} (h : f9_isStaged N p1 s = some (r, s1)) : xMet l yX9_isStaged (x_ws yX9_isStaged cX9_isStaged 2 (some .boolean)) (xrm 0 0) G mdom [.ref (G.2.1 0 0), .int (p1)] (encM G s) (some (.int r)) (encM G s1) := by
  refine xMet.of (by decide +kernel) (Nat.le_of_ble_eq_true rfl) ?_
  rintro ⟨M, G', dom', n'⟩ e1 R e3 e4 e5 C
  change G' = G at e3; change dom' = mdom at e4; change n' = 2 at e5
  subst e3; subst e4; subst e5
  exact t9_isStaged C R h
theorem k9_85 {M : xM} {G : xG} {n : Nat} {rv : Option Value} {E' : xE} {cc : ByteArray} {ret : Option FieldType} {pc : Nat} {ls : List (Nat × Value)} {st : List Value} {N : Nat} {p1 : Int32} {p2 : Int32} {s s1 : mS} {r : Int32} (C : xC (M, G, mdom, n) RX9 cc ret) (d : decode cc pc = .ok (.invokevirtual 85, 3)) (h : f9_at N p1 p2 s = some (r, s1)) (hR : (xrm 0 0).frames + 1 ≤ (xR (M, G, mdom, n)).frames ∧ 8 + (3 + 11) + (xrm 0 0).locals ≤ (xR (M, G, mdom, n)).locals) (hw : (st.map fun v => v.category).sum ≤ 8) (k : X (M, G, mdom, n) rv E' (encM G s1) (pc + 3) ls (.int r :: st)) : X (M, G, mdom, n) rv E' (encM G s) pc ls (.int (p2) :: .int (p1) :: .ref (G.2.1 0 0) :: st) :=
  x_callV (As := [.int (p1), .int (p2)]) (n := 2) C d (c9_at (xl (M, G, mdom, n)) G h) lk843 lk845 lk63 lk87 lk846 ⟨rfl, rfl⟩ ⟨by decide +kernel, by decide +kernel, by decide +kernel⟩ rfl hR rfl rfl rfl rfl hw k
theorem k9_82 {M : xM} {G : xG} {n : Nat} {rv : Option Value} {E' : xE} {cc : ByteArray} {ret : Option FieldType} {pc : Nat} {ls : List (Nat × Value)} {st : List Value} {N : Nat} {p1 : Int32} {s s1 : mS} {r : Int32} (C : xC (M, G, mdom, n) RX9 cc ret) (d : decode cc pc = .ok (.invokevirtual 82, 3)) (h : f9_isStaged N p1 s = some (r, s1)) (hR : (xrm 0 0).frames + 1 ≤ (xR (M, G, mdom, n)).frames ∧ 8 + (2 + 11) + (xrm 0 0).locals ≤ (xR (M, G, mdom, n)).locals) (hw : (st.map fun v => v.category).sum ≤ 8) (k : X (M, G, mdom, n) rv E' (encM G s1) (pc + 3) ls (.int r :: st)) : X (M, G, mdom, n) rv E' (encM G s) pc ls (.int (p1) :: .ref (G.2.1 0 0) :: st) :=
  x_callV (As := [.int (p1)]) (n := 1) C d (c9_isStaged (xl (M, G, mdom, n)) G h) lk839 lk841 lk62 lk87 lk842 ⟨rfl, rfl⟩ ⟨by decide +kernel, by decide +kernel, by decide +kernel⟩ rfl hR rfl rfl rfl rfl hw k
set_option maxRecDepth 100000 in
theorem t9_part_l188b {M : xM} {G : xG} {N : Nat} {p1 : Int32} {p2 : Int32} {p3 : Int32} (C : xC (M, G, mdom, 7) RX9 cX9_part (some .int)) (R : xR (M, G, mdom, 7) = xrm 2 44) {k188 : Int32 → Int32 → mS → Option (Int32 × mS)} (hk188 : ∀ (a4 : Int32) (a6 : Int32) (s : mS) (r : Int32) (s1 : mS), k188 a4 a6 s = some (r, s1) → X (M, G, mdom, 7) (some (.int r)) (encM G s1) (encM G s) 188 [(0, .ref (G.2.1 0 0)), (1, .int (p1)), (4, .int (a4)), (6, .int (a6))] []) {a4 : Int32} {a6 : Int32} {s : mS} {r : Int32} {s1 : mS} (h : f9_part_l188b N p1 p2 p3 k188 a4 a6 s = some (r, s1)) : X (M, G, mdom, 7) (some (.int r)) (encM G s1) (encM G s) 188 [(0, .ref (G.2.1 0 0)), (1, .int (p1)), (4, .int (a4)), (6, .int (a6))] [] := by
  unfold f9_part_l188b at h
  refine x_iload (j := 3) C dX9_part_188 rfl ?_
  refine x_iload (j := 2) C dX9_part_190 rfl ?_
  refine x_icmp_gt (tgt := 238) C dX9_part_192 (by decide) (fun c192 => ?_) (fun c192 => ?_)
  · rw [if_pos c192] at h
    refine x_iload (j := 2) C dX9_part_238 rfl ?_
    refine x_iconst (v := 1) C dX9_part_240 (by decide) ?_
    refine x_iadd C dX9_part_241 ?_
    cases h
    exact x_iret C dX9_part_242
  · rw [if_neg c192] at h
    refine x_aload_n (j := 0) C dX9_part_195 rfl rfl ?_
    refine gf9_7 C dX9_part_196 ?_
    refine x_aload_n (j := 0) C dX9_part_199 rfl rfl ?_
    refine x_iload_n (j := 1) C dX9_part_200 rfl rfl ?_
    refine x_iload (j := 3) C dX9_part_201 rfl ?_
    obtain ⟨⟨r203, s203⟩, e203, h⟩ := Option.bind_eq_some_iff.mp h
    try dsimp only at h
    refine k9_85 C dX9_part_203 e203 (x_room R rfl) (Nat.le_of_ble_eq_true rfl) ?_
    refine x_iconst (v := 2) C dX9_part_206 (by decide) ?_
    refine x_iadd C dX9_part_207 ?_
    refine x_iload (j := 2) C dX9_part_208 rfl ?_
    refine x_iload (j := 3) C dX9_part_210 rfl ?_
    refine x_isub C dX9_part_212 ?_
    refine x_bipush (v := 12) C dX9_part_213 (by decide) ?_
    refine x_icmp_le (tgt := 224) C dX9_part_215 (by decide) (fun c215 => ?_) (fun c215 => ?_)
    · rw [if_pos c215] at h
      refine x_iconst (v := 1) C dX9_part_224 (by decide) ?_
      refine x_iload (j := 2) C dX9_part_225 rfl ?_
      refine x_iload (j := 3) C dX9_part_227 rfl ?_
      refine x_isub C dX9_part_229 ?_
      refine x_ishl C dX9_part_230 ?_
      by_cases g231_1 : inB (r203 + 2) 530 = true
      case neg => rw [if_neg g231_1] at h; cases h
      rw [if_pos g231_1] at h
      refine mst1 C dX9_part_231 g231_1 ?_
      refine x_iinc (j := 3) (v := (a6 + 1)) (ls' := [(6, .int ((a6 + 1))), (0, .ref (G.2.1 0 0)), (1, .int (p1)), (4, .int (a4))]) C dX9_part_232 rfl rfl (Nat.le_of_ble_eq_true rfl) rfl ?_
      refine x_goto (tgt := 188) C dX9_part_235 (by decide) ?_
      refine x_sub (ls' := [(0, .ref (G.2.1 0 0)), (1, .int (p1)), (4, .int (a4)), (6, .int ((a6 + 1)))]) [1, 2, 3, 0] rfl ?_
      exact hk188 _ _ _ _ _ h
    · rw [if_neg c215] at h
      refine x_sipush (v := 8000) C dX9_part_218 (by decide) ?_
      refine x_goto (tgt := 231) C dX9_part_221 (by decide) ?_
      by_cases g231_2 : inB (r203 + 2) 530 = true
      case neg => rw [if_neg g231_2] at h; cases h
      rw [if_pos g231_2] at h
      refine mst1 C dX9_part_231 g231_2 ?_
      refine x_iinc (j := 3) (v := (a6 + 1)) (ls' := [(6, .int ((a6 + 1))), (0, .ref (G.2.1 0 0)), (1, .int (p1)), (4, .int (a4))]) C dX9_part_232 rfl rfl (Nat.le_of_ble_eq_true rfl) rfl ?_
      refine x_goto (tgt := 188) C dX9_part_235 (by decide) ?_
      refine x_sub (ls' := [(0, .ref (G.2.1 0 0)), (1, .int (p1)), (4, .int (a4)), (6, .int ((a6 + 1)))]) [1, 2, 3, 0] rfl ?_
      exact hk188 _ _ _ _ _ h
theorem t9_part_l188 {M : xM} {G : xG} {N : Nat} {p1 : Int32} {p2 : Int32} {p3 : Int32} (C : xC (M, G, mdom, 7) RX9 cX9_part (some .int)) (R : xR (M, G, mdom, 7) = xrm 2 44) (n : Nat) : ∀ (a4 : Int32) (a6 : Int32) (s : mS) (r : Int32) (s1 : mS), f9_part_l188 N p1 p2 p3 n a4 a6 s = some (r, s1) → X (M, G, mdom, 7) (some (.int r)) (encM G s1) (encM G s) 188 [(0, .ref (G.2.1 0 0)), (1, .int (p1)), (4, .int (a4)), (6, .int (a6))] [] := by
  induction n with
  | zero => intro a4 a6 s r s1 h; exact (Option.some_ne_none _ (Eq.symm h)).elim
  | succ n ih => intro a4 a6 s r s1 h; exact t9_part_l188b (N := N) (p1 := p1) (p2 := p2) (p3 := p3) C R (k188 := f9_part_l188 N p1 p2 p3 n) ih h
set_option maxRecDepth 100000 in
theorem t9_part_b163 {M : xM} {G : xG} {N : Nat} {p1 : Int32} {p2 : Int32} {p3 : Int32} (C : xC (M, G, mdom, 7) RX9 cX9_part (some .int)) (R : xR (M, G, mdom, 7) = xrm 2 44) {a4 : Int32} {b0 : Int32} {b1 : Int32} {s : mS} {r : Int32} {s1 : mS} (h : f9_part_b163 N p1 p2 p3 a4 b0 b1 s = some (r, s1)) : X (M, G, mdom, 7) (some (.int r)) (encM G s1) (encM G s) 163 [(0, .ref (G.2.1 0 0)), (1, .int (p1)), (4, .int (a4))] [.int (b0), .int (b1), .ref (G.2.1 1 0)] := by
  unfold f9_part_b163 at h
  by_cases g163_1 : inB b1 530 = true
  case neg => rw [if_neg g163_1] at h; cases h
  rw [if_pos g163_1] at h
  refine mst1 C dX9_part_163 g163_1 ?_
  refine x_aload_n (j := 0) C dX9_part_164 rfl rfl ?_
  refine gf9_7 C dX9_part_165 ?_
  refine x_bipush (v := 10) C dX9_part_168 (by decide) ?_
  refine x_iload_n (j := 1) C dX9_part_170 rfl rfl ?_
  refine x_iadd C dX9_part_171 ?_
  refine x_dup2 C dX9_part_172 rfl rfl ?_
  by_cases g173_2 : inB (10 + p1) 530 = true
  case neg => rw [if_neg g173_2] at h; cases h
  rw [if_pos g173_2] at h
  refine mld1 C dX9_part_173 g173_2 ?_
  refine x_iconst (v := 1) C dX9_part_174 (by decide) ?_
  refine x_iadd C dX9_part_175 ?_
  refine mst1 C dX9_part_176 g173_2 ?_
  refine x_aload_n (j := 0) C dX9_part_177 rfl rfl ?_
  refine x_iload_n (j := 1) C dX9_part_178 rfl rfl ?_
  obtain ⟨⟨r179, s179⟩, e179, h⟩ := Option.bind_eq_some_iff.mp h
  try dsimp only at h
  refine k9_82 C dX9_part_179 e179 (x_room R rfl) (Nat.le_of_ble_eq_true rfl) ?_
  refine x_if_eq (tgt := 238) C dX9_part_182 (by decide) (fun c182 => ?_) (fun c182 => ?_)
  · rw [if_pos c182] at h
    refine x_iload (j := 2) C dX9_part_238 rfl ?_
    refine x_iconst (v := 1) C dX9_part_240 (by decide) ?_
    refine x_iadd C dX9_part_241 ?_
    cases h
    exact x_iret C dX9_part_242
  · rw [if_neg c182] at h
    refine x_iconst (v := 0) C dX9_part_185 (by decide) ?_
    refine x_istore (i := 6) (ls' := [(6, .int (0)), (0, .ref (G.2.1 0 0)), (1, .int (p1)), (4, .int (a4))]) C dX9_part_186 (Nat.le_of_ble_eq_true rfl) rfl ?_
    refine x_sub (ls' := [(0, .ref (G.2.1 0 0)), (1, .int (p1)), (4, .int (a4)), (6, .int (0))]) [1, 2, 3, 0] rfl ?_
    exact t9_part_l188 (N := N) (p1 := p1) (p2 := p2) (p3 := p3) C R N _ _ _ _ _ h
set_option maxRecDepth 100000 in
theorem t9_part_b141 {M : xM} {G : xG} {N : Nat} {p1 : Int32} {p2 : Int32} {p3 : Int32} (C : xC (M, G, mdom, 7) RX9 cX9_part (some .int)) (R : xR (M, G, mdom, 7) = xrm 2 44) {a4 : Int32} {a5 : Int32} {b0 : Int32} {b1 : Int32} {s : mS} {r : Int32} {s1 : mS} (h : f9_part_b141 N p1 p2 p3 a4 a5 b0 b1 s = some (r, s1)) : X (M, G, mdom, 7) (some (.int r)) (encM G s1) (encM G s) 141 [(0, .ref (G.2.1 0 0)), (1, .int (p1)), (3, .int (p3)), (4, .int (a4)), (5, .int (a5))] [.int (b0), .int (b1), .ref (G.2.1 1 0)] := by
  unfold f9_part_b141 at h
  by_cases g141_1 : inB b1 530 = true
  case neg => rw [if_neg g141_1] at h; cases h
  rw [if_pos g141_1] at h
  refine mst1 C dX9_part_141 g141_1 ?_
  refine x_aload_n (j := 0) C dX9_part_142 rfl rfl ?_
  refine gf9_7 C dX9_part_143 ?_
  refine x_iload (j := 4) C dX9_part_146 rfl ?_
  refine x_iconst (v := 3) C dX9_part_148 (by decide) ?_
  refine x_iadd C dX9_part_149 ?_
  refine x_aload_n (j := 0) C dX9_part_150 rfl rfl ?_
  refine x_iload_n (j := 1) C dX9_part_151 rfl rfl ?_
  obtain ⟨⟨r152, s152⟩, e152, h⟩ := Option.bind_eq_some_iff.mp h
  try dsimp only at h
  refine k9_82 C dX9_part_152 e152 (x_room R rfl) (Nat.le_of_ble_eq_true rfl) ?_
  refine x_if_eq (tgt := 162) C dX9_part_155 (by decide) (fun c155 => ?_) (fun c155 => ?_)
  · rw [if_pos c155] at h
    refine x_iconst (v := 0) C dX9_part_162 (by decide) ?_
    refine x_sub (ls' := [(0, .ref (G.2.1 0 0)), (1, .int (p1)), (4, .int (a4))]) [0, 1, 3] rfl ?_
    exact t9_part_b163 (N := N) (p1 := p1) (p2 := p2) (p3 := p3) C R h
  · rw [if_neg c155] at h
    refine x_iload_n (j := 2) C dX9_part_158 rfl rfl ?_
    refine x_goto (tgt := 163) C dX9_part_159 (by decide) ?_
    refine x_sub (ls' := [(0, .ref (G.2.1 0 0)), (1, .int (p1)), (4, .int (a4))]) [0, 1, 3] rfl ?_
    exact t9_part_b163 (N := N) (p1 := p1) (p2 := p2) (p3 := p3) C R h
set_option maxRecDepth 100000 in
theorem t9_part_b61 {M : xM} {G : xG} {N : Nat} {p1 : Int32} {p2 : Int32} {p3 : Int32} (C : xC (M, G, mdom, 7) RX9 cX9_part (some .int)) (R : xR (M, G, mdom, 7) = xrm 2 44) {s : mS} {r : Int32} {s1 : mS} (h : f9_part_b61 N p1 p2 p3 s = some (r, s1)) : X (M, G, mdom, 7) (some (.int r)) (encM G s1) (encM G s) 61 [(0, .ref (G.2.1 0 0)), (1, .int (p1)), (2, .int (p2)), (3, .int (p3))] [] := by
  unfold f9_part_b61 at h
  refine x_aload_n (j := 0) C dX9_part_61 rfl rfl ?_
  refine gf9_7 C dX9_part_62 ?_
  refine x_bipush (v := 10) C dX9_part_65 (by decide) ?_
  refine x_iload_n (j := 1) C dX9_part_67 rfl rfl ?_
  refine x_iadd C dX9_part_68 ?_
  by_cases g69_1 : inB (10 + p1) 530 = true
  case neg => rw [if_neg g69_1] at h; cases h
  rw [if_pos g69_1] at h
  refine mld1 C dX9_part_69 g69_1 ?_
  refine x_istore (i := 4) (ls' := [(4, .int ((s 0 ((10 + p1).toNatClampNeg)))), (0, .ref (G.2.1 0 0)), (1, .int (p1)), (2, .int (p2)), (3, .int (p3))]) C dX9_part_70 (Nat.le_of_ble_eq_true rfl) rfl ?_
  refine x_iload (j := 0) C dX9_part_72 rfl ?_
  refine x_bipush (v := 16) C dX9_part_74 (by decide) ?_
  refine x_icmp_ne (tgt := 85) C dX9_part_76 (by decide) (fun c76 => ?_) (fun c76 => ?_)
  · rw [if_neg c76] at h
    refine x_aload_n (j := 1) C dX9_part_85 rfl rfl ?_
    obtain ⟨s86, e86, h⟩ := Option.bind_eq_some_iff.mp h
    try dsimp only at h
    refine k9_75 C dX9_part_86 e86 (x_room R rfl) (Nat.le_of_ble_eq_true rfl) ?_
    refine x_aload_n (j := 1) C dX9_part_89 rfl rfl ?_
    refine x_iload_n (j := 2) C dX9_part_90 rfl rfl ?_
    refine x_iload (j := 0) C dX9_part_91 rfl ?_
    obtain ⟨⟨r93, s93⟩, e93, h⟩ := Option.bind_eq_some_iff.mp h
    try dsimp only at h
    refine k9_85 C dX9_part_93 e93 (x_room R rfl) (Nat.le_of_ble_eq_true rfl) ?_
    refine x_istore (i := 5) (ls' := [(5, .int (r93)), (4, .int ((s 0 ((10 + p1).toNatClampNeg)))), (0, .ref (G.2.1 0 0)), (1, .int (p1)), (2, .int (p2)), (3, .int (p3))]) C dX9_part_96 (Nat.le_of_ble_eq_true rfl) rfl ?_
    refine x_aload_n (j := 2) C dX9_part_98 rfl rfl ?_
    refine gf9_7 C dX9_part_99 ?_
    refine x_iload (j := 0) C dX9_part_102 rfl ?_
    refine x_iload_n (j := 4) C dX9_part_104 rfl rfl ?_
    by_cases g105_2 : inB r93 530 = true
    case neg => rw [if_neg g105_2] at h; cases h
    rw [if_pos g105_2] at h
    refine mst1 C dX9_part_105 g105_2 ?_
    refine x_aload_n (j := 2) C dX9_part_106 rfl rfl ?_
    refine gf9_7 C dX9_part_107 ?_
    refine x_iload (j := 0) C dX9_part_110 rfl ?_
    refine x_iconst (v := 1) C dX9_part_112 (by decide) ?_
    refine x_iadd C dX9_part_113 ?_
    refine x_iconst (v := 0) C dX9_part_114 (by decide) ?_
    by_cases g115_3 : inB (r93 + 1) 530 = true
    case neg => rw [if_neg g115_3] at h; cases h
    rw [if_pos g115_3] at h
    refine mst1 C dX9_part_115 g115_3 ?_
    refine x_aload_n (j := 2) C dX9_part_116 rfl rfl ?_
    refine gf9_7 C dX9_part_117 ?_
    refine x_iload (j := 0) C dX9_part_120 rfl ?_
    refine x_iconst (v := 2) C dX9_part_122 (by decide) ?_
    refine x_iadd C dX9_part_123 ?_
    refine x_aload_n (j := 2) C dX9_part_124 rfl rfl ?_
    refine gf9_7 C dX9_part_125 ?_
    refine x_iconst (v := 2) C dX9_part_128 (by decide) ?_
    refine x_iload_n (j := 3) C dX9_part_129 rfl rfl ?_
    refine x_iadd C dX9_part_130 ?_
    by_cases g131_4 : inB (2 + p1) 530 = true
    case neg => rw [if_neg g131_4] at h; cases h
    rw [if_pos g131_4] at h
    refine mld1 C dX9_part_131 g131_4 ?_
    refine x_iconst (v := 2) C dX9_part_132 (by decide) ?_
    refine x_icmp_ne (tgt := 140) C dX9_part_133 (by decide) (fun c133 => ?_) (fun c133 => ?_)
    · rw [if_neg c133] at h
      refine x_iconst (v := 1) C dX9_part_140 (by decide) ?_
      refine x_sub (ls' := [(0, .ref (G.2.1 0 0)), (1, .int (p1)), (3, .int (p3)), (4, .int ((s 0 ((10 + p1).toNatClampNeg)))), (5, .int (r93))]) [2, 3, 5, 1, 0] rfl ?_
      exact t9_part_b141 (N := N) (p1 := p1) (p2 := p2) (p3 := p3) C R h
    · rw [if_pos c133] at h
      refine x_iload_n (j := 4) C dX9_part_136 rfl rfl ?_
      refine x_goto (tgt := 141) C dX9_part_137 (by decide) ?_
      refine x_sub (ls' := [(0, .ref (G.2.1 0 0)), (1, .int (p1)), (3, .int (p3)), (4, .int ((s 0 ((10 + p1).toNatClampNeg)))), (5, .int (r93))]) [2, 3, 5, 1, 0] rfl ?_
      exact t9_part_b141 (N := N) (p1 := p1) (p2 := p2) (p3 := p3) C R h
  · rw [if_pos c76] at h
    refine x_aload_n (j := 1) C dX9_part_79 rfl rfl ?_
    refine x_iconst (v := 3) C dX9_part_80 (by decide) ?_
    obtain ⟨⟨r81, s81⟩, e81, h⟩ := Option.bind_eq_some_iff.mp h
    try dsimp only at h
    refine k9_78 C dX9_part_81 e81 (x_room R rfl) (Nat.le_of_ble_eq_true rfl) ?_
    cases h
    exact x_iret C dX9_part_84
set_option maxRecDepth 100000 in
theorem t9_part_b55 {M : xM} {G : xG} {N : Nat} {p1 : Int32} {p2 : Int32} {p3 : Int32} (C : xC (M, G, mdom, 7) RX9 cX9_part (some .int)) (R : xR (M, G, mdom, 7) = xrm 2 44) {s : mS} {r : Int32} {s1 : mS} (h : f9_part_b55 N p1 p2 p3 s = some (r, s1)) : X (M, G, mdom, 7) (some (.int r)) (encM G s1) (encM G s) 55 [(0, .ref (G.2.1 0 0))] [] := by
  unfold f9_part_b55 at h
  refine x_aload_n (j := 0) C dX9_part_55 rfl rfl ?_
  refine x_iconst (v := 1) C dX9_part_56 (by decide) ?_
  obtain ⟨⟨r57, s57⟩, e57, h⟩ := Option.bind_eq_some_iff.mp h
  try dsimp only at h
  refine k9_78 C dX9_part_57 e57 (x_room R rfl) (Nat.le_of_ble_eq_true rfl) ?_
  cases h
  exact x_iret C dX9_part_60
set_option maxRecDepth 100000 in
theorem t9_part {M : xM} {G : xG} {N : Nat} {p1 : Int32} {p2 : Int32} {p3 : Int32} (C : xC (M, G, mdom, 7) RX9 cX9_part (some .int)) (R : xR (M, G, mdom, 7) = xrm 2 44) {s : mS} {r : Int32} {s1 : mS} (h : f9_part N p1 p2 p3 s = some (r, s1)) : X (M, G, mdom, 7) (some (.int r)) (encM G s1) (encM G s) 0 [(0, .ref (G.2.1 0 0)), (1, .int (p1)), (2, .int (p2)), (3, .int (p3))] [] := by
  unfold f9_part at h
  refine x_aload_n (j := 0) C dX9_part_0 rfl rfl ?_
  refine x_iconst (v := 0) C dX9_part_1 (by decide) ?_
  refine pf9_47 C dX9_part_2 ?_
  refine x_aload_n (j := 0) C dX9_part_5 rfl rfl ?_
  refine x_iload_n (j := 1) C dX9_part_6 rfl rfl ?_
  obtain ⟨⟨r7, s7⟩, e7, h⟩ := Option.bind_eq_some_iff.mp h
  try dsimp only at h
  refine k9_68 C dX9_part_7 e7 (x_room R rfl) (Nat.le_of_ble_eq_true rfl) ?_
  refine x_if_ne (tgt := 19) C dX9_part_10 (by decide) (fun c10 => ?_) (fun c10 => ?_)
  · rw [if_neg c10] at h
    refine x_aload_n (j := 0) C dX9_part_19 rfl rfl ?_
    refine x_iload_n (j := 2) C dX9_part_20 rfl rfl ?_
    refine x_sipush (v := (-8000)) C dX9_part_21 (by decide) ?_
    refine x_sipush (v := 8000) C dX9_part_24 (by decide) ?_
    obtain ⟨⟨r27, s27⟩, e27, h⟩ := Option.bind_eq_some_iff.mp h
    try dsimp only at h
    refine k9_64 C dX9_part_27 e27 (x_room R rfl) (Nat.le_of_ble_eq_true rfl) ?_
    refine x_if_eq (tgt := 55) C dX9_part_30 (by decide) (fun c30 => ?_) (fun c30 => ?_)
    · rw [if_pos c30] at h
      refine x_sub (ls' := [(0, .ref (G.2.1 0 0))]) [0] rfl ?_
      exact t9_part_b55 (N := N) (p1 := p1) (p2 := p2) (p3 := p3) C R h
    · rw [if_neg c30] at h
      refine x_aload_n (j := 0) C dX9_part_33 rfl rfl ?_
      refine x_iload_n (j := 1) C dX9_part_34 rfl rfl ?_
      obtain ⟨⟨r35, s35⟩, e35, h⟩ := Option.bind_eq_some_iff.mp h
      try dsimp only at h
      refine k9_82 C dX9_part_35 e35 (x_room R rfl) (Nat.le_of_ble_eq_true rfl) ?_
      refine x_if_eq (tgt := 61) C dX9_part_38 (by decide) (fun c38 => ?_) (fun c38 => ?_)
      · rw [if_pos c38] at h
        exact t9_part_b61 (N := N) (p1 := p1) (p2 := p2) (p3 := p3) C R h
      · rw [if_neg c38] at h
        refine x_aload_n (j := 0) C dX9_part_41 rfl rfl ?_
        refine x_iload_n (j := 3) C dX9_part_42 rfl rfl ?_
        refine x_sipush (v := (-8000)) C dX9_part_43 (by decide) ?_
        refine x_sipush (v := 8000) C dX9_part_46 (by decide) ?_
        obtain ⟨⟨r49, s49⟩, e49, h⟩ := Option.bind_eq_some_iff.mp h
        try dsimp only at h
        refine k9_64 C dX9_part_49 e49 (x_room R rfl) (Nat.le_of_ble_eq_true rfl) ?_
        refine x_if_ne (tgt := 61) C dX9_part_52 (by decide) (fun c52 => ?_) (fun c52 => ?_)
        · rw [if_neg c52] at h
          exact t9_part_b61 (N := N) (p1 := p1) (p2 := p2) (p3 := p3) C R h
        · rw [if_pos c52] at h
          refine x_sub (ls' := [(0, .ref (G.2.1 0 0))]) [0] rfl ?_
          exact t9_part_b55 (N := N) (p1 := p1) (p2 := p2) (p3 := p3) C R h
  · rw [if_pos c10] at h
    refine x_aload_n (j := 0) C dX9_part_13 rfl rfl ?_
    refine x_iconst (v := 2) C dX9_part_14 (by decide) ?_
    obtain ⟨⟨r15, s15⟩, e15, h⟩ := Option.bind_eq_some_iff.mp h
    try dsimp only at h
    refine k9_78 C dX9_part_15 e15 (x_room R rfl) (Nat.le_of_ble_eq_true rfl) ?_
    cases h
    exact x_iret C dX9_part_18
theorem c9_part (l : Launch) (G : xG) {N : Nat} {p1 : Int32} {p2 : Int32} {p3 : Int32} {s : mS} {r : Int32} {s1 : mS} (h : f9_part N p1 p2 p3 s = some (r, s1)) : xMet l yX9_part (x_ws yX9_part cX9_part 7 (some .int)) (xrm 2 44) G mdom [.ref (G.2.1 0 0), .int (p1), .int (p2), .int (p3)] (encM G s) (some (.int r)) (encM G s1) := by
  refine xMet.of (by decide +kernel) (Nat.le_of_ble_eq_true rfl) ?_
  rintro ⟨M, G', dom', n'⟩ e1 R e3 e4 e5 C
  change G' = G at e3; change dom' = mdom at e4; change n' = 7 at e5
  subst e3; subst e4; subst e5
  exact t9_part C R h
set_option maxRecDepth 100000 in
theorem t9_miss {M : xM} {G : xG} {N : Nat} {p1 : Int32} {p2 : Int32} {p3 : Int32} (C : xC (M, G, mdom, 4) RX9 cX9_miss (some .boolean)) (R : xR (M, G, mdom, 4) = xrm 3 66) {s : mS} {r : Int32} {s1 : mS} (h : f9_miss N p1 p2 p3 s = some (r, s1)) : X (M, G, mdom, 4) (some (.int r)) (encM G s1) (encM G s) 0 [(0, .ref (G.2.1 0 0)), (1, .int (p1)), (2, .int (p2)), (3, .int (p3))] [] := by
  unfold f9_miss at h
  refine x_aload_n (j := 0) C dX9_miss_0 rfl rfl ?_
  refine x_iconst (v := 0) C dX9_miss_1 (by decide) ?_
  refine pf9_47 C dX9_miss_2 ?_
  refine x_aload_n (j := 0) C dX9_miss_5 rfl rfl ?_
  refine x_iload_n (j := 1) C dX9_miss_6 rfl rfl ?_
  refine x_iload_n (j := 2) C dX9_miss_7 rfl rfl ?_
  obtain ⟨⟨r8, s8⟩, e8, h⟩ := Option.bind_eq_some_iff.mp h
  try dsimp only at h
  refine k9_60 C dX9_miss_8 e8 (x_room R rfl) (Nat.le_of_ble_eq_true rfl) ?_
  refine x_if_ne (tgt := 20) C dX9_miss_11 (by decide) (fun c11 => ?_) (fun c11 => ?_)
  · rw [if_neg c11] at h
    refine x_aload_n (j := 0) C dX9_miss_20 rfl rfl ?_
    refine x_iload_n (j := 3) C dX9_miss_21 rfl rfl ?_
    refine x_sipush (v := (-500)) C dX9_miss_22 (by decide) ?_
    refine x_sipush (v := 500) C dX9_miss_25 (by decide) ?_
    obtain ⟨⟨r28, s28⟩, e28, h⟩ := Option.bind_eq_some_iff.mp h
    try dsimp only at h
    refine k9_64 C dX9_miss_28 e28 (x_room R rfl) (Nat.le_of_ble_eq_true rfl) ?_
    refine x_if_ne (tgt := 40) C dX9_miss_31 (by decide) (fun c31 => ?_) (fun c31 => ?_)
    · rw [if_neg c31] at h
      refine x_aload_n (j := 0) C dX9_miss_40 rfl rfl ?_
      obtain ⟨s41, e41, h⟩ := Option.bind_eq_some_iff.mp h
      try dsimp only at h
      refine k9_75 C dX9_miss_41 e41 (x_room R rfl) (Nat.le_of_ble_eq_true rfl) ?_
      refine x_aload_n (j := 0) C dX9_miss_44 rfl rfl ?_
      refine gf9_7 C dX9_miss_45 ?_
      refine x_aload_n (j := 0) C dX9_miss_48 rfl rfl ?_
      refine x_iload_n (j := 1) C dX9_miss_49 rfl rfl ?_
      refine x_iload_n (j := 2) C dX9_miss_50 rfl rfl ?_
      obtain ⟨⟨r51, s51⟩, e51, h⟩ := Option.bind_eq_some_iff.mp h
      try dsimp only at h
      refine k9_85 C dX9_miss_51 e51 (x_room R rfl) (Nat.le_of_ble_eq_true rfl) ?_
      refine x_iconst (v := 1) C dX9_miss_54 (by decide) ?_
      refine x_iadd C dX9_miss_55 ?_
      refine x_iload_n (j := 3) C dX9_miss_56 rfl rfl ?_
      by_cases g57_1 : inB (r51 + 1) 530 = true
      case neg => rw [if_neg g57_1] at h; cases h
      rw [if_pos g57_1] at h
      refine mst1 C dX9_miss_57 g57_1 ?_
      refine x_iconst (v := 1) C dX9_miss_58 (by decide) ?_
      cases h
      exact x_zret C dX9_miss_59 rfl
    · rw [if_pos c31] at h
      refine x_aload_n (j := 0) C dX9_miss_34 rfl rfl ?_
      refine x_iconst (v := 1) C dX9_miss_35 (by decide) ?_
      obtain ⟨⟨r36, s36⟩, e36, h⟩ := Option.bind_eq_some_iff.mp h
      try dsimp only at h
      refine k9_72 C dX9_miss_36 e36 (x_room R rfl) (Nat.le_of_ble_eq_true rfl) ?_
      by_cases g : r36 = 0 ∨ r36 = 1
      · rw [if_pos g] at h; cases h; exact x_zret C dX9_miss_39 (nar01 g)
      · rw [if_neg g] at h; cases h
  · rw [if_pos c11] at h
    refine x_aload_n (j := 0) C dX9_miss_14 rfl rfl ?_
    refine x_iconst (v := 2) C dX9_miss_15 (by decide) ?_
    obtain ⟨⟨r16, s16⟩, e16, h⟩ := Option.bind_eq_some_iff.mp h
    try dsimp only at h
    refine k9_72 C dX9_miss_16 e16 (x_room R rfl) (Nat.le_of_ble_eq_true rfl) ?_
    by_cases g : r16 = 0 ∨ r16 = 1
    · rw [if_pos g] at h; cases h; exact x_zret C dX9_miss_19 (nar01 g)
    · rw [if_neg g] at h; cases h
theorem c9_miss (l : Launch) (G : xG) {N : Nat} {p1 : Int32} {p2 : Int32} {p3 : Int32} {s : mS} {r : Int32} {s1 : mS} (h : f9_miss N p1 p2 p3 s = some (r, s1)) : xMet l yX9_miss (x_ws yX9_miss cX9_miss 4 (some .boolean)) (xrm 3 66) G mdom [.ref (G.2.1 0 0), .int (p1), .int (p2), .int (p3)] (encM G s) (some (.int r)) (encM G s1) := by
  refine xMet.of (by decide +kernel) (Nat.le_of_ble_eq_true rfl) ?_
  rintro ⟨M, G', dom', n'⟩ e1 R e3 e4 e5 C
  change G' = G at e3; change dom' = mdom at e4; change n' = 4 at e5
  subst e3; subst e4; subst e5
  exact t9_miss C R h
set_option maxRecDepth 100000 in
theorem t9_worth {M : xM} {G : xG} {N : Nat} {p1 : Int32} {p2 : Int32} {p3 : Int32} (C : xC (M, G, mdom, 4) RX9 cX9_worth (some .boolean)) (R : xR (M, G, mdom, 4) = xrm 3 66) {s : mS} {r : Int32} {s1 : mS} (h : f9_worth N p1 p2 p3 s = some (r, s1)) : X (M, G, mdom, 4) (some (.int r)) (encM G s1) (encM G s) 0 [(0, .ref (G.2.1 0 0)), (1, .int (p1)), (2, .int (p2)), (3, .int (p3))] [] := by
  unfold f9_worth at h
  refine x_aload_n (j := 0) C dX9_worth_0 rfl rfl ?_
  refine x_iconst (v := 0) C dX9_worth_1 (by decide) ?_
  refine pf9_47 C dX9_worth_2 ?_
  refine x_aload_n (j := 0) C dX9_worth_5 rfl rfl ?_
  refine x_iload_n (j := 1) C dX9_worth_6 rfl rfl ?_
  refine x_iload_n (j := 2) C dX9_worth_7 rfl rfl ?_
  obtain ⟨⟨r8, s8⟩, e8, h⟩ := Option.bind_eq_some_iff.mp h
  try dsimp only at h
  refine k9_60 C dX9_worth_8 e8 (x_room R rfl) (Nat.le_of_ble_eq_true rfl) ?_
  refine x_if_ne (tgt := 20) C dX9_worth_11 (by decide) (fun c11 => ?_) (fun c11 => ?_)
  · rw [if_neg c11] at h
    refine x_aload_n (j := 0) C dX9_worth_20 rfl rfl ?_
    refine gf9_7 C dX9_worth_21 ?_
    refine x_iconst (v := 2) C dX9_worth_24 (by decide) ?_
    refine x_iload_n (j := 1) C dX9_worth_25 rfl rfl ?_
    refine x_iadd C dX9_worth_26 ?_
    by_cases g27_1 : inB (2 + p1) 530 = true
    case neg => rw [if_neg g27_1] at h; cases h
    rw [if_pos g27_1] at h
    refine mld1 C dX9_worth_27 g27_1 ?_
    refine x_iconst (v := 2) C dX9_worth_28 (by decide) ?_
    refine x_icmp_ge (tgt := 38) C dX9_worth_29 (by decide) (fun c29 => ?_) (fun c29 => ?_)
    · rw [if_pos c29] at h
      refine x_aload_n (j := 0) C dX9_worth_38 rfl rfl ?_
      refine x_iload_n (j := 3) C dX9_worth_39 rfl rfl ?_
      refine x_sipush (v := (-8000)) C dX9_worth_40 (by decide) ?_
      refine x_sipush (v := 8000) C dX9_worth_43 (by decide) ?_
      obtain ⟨⟨r46, s46⟩, e46, h⟩ := Option.bind_eq_some_iff.mp h
      try dsimp only at h
      refine k9_64 C dX9_worth_46 e46 (x_room R rfl) (Nat.le_of_ble_eq_true rfl) ?_
      refine x_if_ne (tgt := 58) C dX9_worth_49 (by decide) (fun c49 => ?_) (fun c49 => ?_)
      · rw [if_neg c49] at h
        refine x_aload_n (j := 0) C dX9_worth_58 rfl rfl ?_
        obtain ⟨s59, e59, h⟩ := Option.bind_eq_some_iff.mp h
        try dsimp only at h
        refine k9_75 C dX9_worth_59 e59 (x_room R rfl) (Nat.le_of_ble_eq_true rfl) ?_
        refine x_aload_n (j := 0) C dX9_worth_62 rfl rfl ?_
        refine gf9_7 C dX9_worth_63 ?_
        refine x_aload_n (j := 0) C dX9_worth_66 rfl rfl ?_
        refine x_iload_n (j := 1) C dX9_worth_67 rfl rfl ?_
        refine x_iload_n (j := 2) C dX9_worth_68 rfl rfl ?_
        obtain ⟨⟨r69, s69⟩, e69, h⟩ := Option.bind_eq_some_iff.mp h
        try dsimp only at h
        refine k9_85 C dX9_worth_69 e69 (x_room R rfl) (Nat.le_of_ble_eq_true rfl) ?_
        refine x_iconst (v := 2) C dX9_worth_72 (by decide) ?_
        refine x_iadd C dX9_worth_73 ?_
        refine x_iload_n (j := 3) C dX9_worth_74 rfl rfl ?_
        by_cases g75_2 : inB (r69 + 2) 530 = true
        case neg => rw [if_neg g75_2] at h; cases h
        rw [if_pos g75_2] at h
        refine mst1 C dX9_worth_75 g75_2 ?_
        refine x_iconst (v := 1) C dX9_worth_76 (by decide) ?_
        cases h
        exact x_zret C dX9_worth_77 rfl
      · rw [if_pos c49] at h
        refine x_aload_n (j := 0) C dX9_worth_52 rfl rfl ?_
        refine x_iconst (v := 1) C dX9_worth_53 (by decide) ?_
        obtain ⟨⟨r54, s54⟩, e54, h⟩ := Option.bind_eq_some_iff.mp h
        try dsimp only at h
        refine k9_72 C dX9_worth_54 e54 (x_room R rfl) (Nat.le_of_ble_eq_true rfl) ?_
        by_cases g : r54 = 0 ∨ r54 = 1
        · rw [if_pos g] at h; cases h; exact x_zret C dX9_worth_57 (nar01 g)
        · rw [if_neg g] at h; cases h
    · rw [if_neg c29] at h
      refine x_aload_n (j := 0) C dX9_worth_32 rfl rfl ?_
      refine x_iconst (v := 4) C dX9_worth_33 (by decide) ?_
      obtain ⟨⟨r34, s34⟩, e34, h⟩ := Option.bind_eq_some_iff.mp h
      try dsimp only at h
      refine k9_72 C dX9_worth_34 e34 (x_room R rfl) (Nat.le_of_ble_eq_true rfl) ?_
      by_cases g : r34 = 0 ∨ r34 = 1
      · rw [if_pos g] at h; cases h; exact x_zret C dX9_worth_37 (nar01 g)
      · rw [if_neg g] at h; cases h
  · rw [if_pos c11] at h
    refine x_aload_n (j := 0) C dX9_worth_14 rfl rfl ?_
    refine x_iconst (v := 2) C dX9_worth_15 (by decide) ?_
    obtain ⟨⟨r16, s16⟩, e16, h⟩ := Option.bind_eq_some_iff.mp h
    try dsimp only at h
    refine k9_72 C dX9_worth_16 e16 (x_room R rfl) (Nat.le_of_ble_eq_true rfl) ?_
    by_cases g : r16 = 0 ∨ r16 = 1
    · rw [if_pos g] at h; cases h; exact x_zret C dX9_worth_19 (nar01 g)
    · rw [if_neg g] at h; cases h
theorem c9_worth (l : Launch) (G : xG) {N : Nat} {p1 : Int32} {p2 : Int32} {p3 : Int32} {s : mS} {r : Int32} {s1 : mS} (h : f9_worth N p1 p2 p3 s = some (r, s1)) : xMet l yX9_worth (x_ws yX9_worth cX9_worth 4 (some .boolean)) (xrm 3 66) G mdom [.ref (G.2.1 0 0), .int (p1), .int (p2), .int (p3)] (encM G s) (some (.int r)) (encM G s1) := by
  refine xMet.of (by decide +kernel) (Nat.le_of_ble_eq_true rfl) ?_
  rintro ⟨M, G', dom', n'⟩ e1 R e3 e4 e5 C
  change G' = G at e3; change dom' = mdom at e4; change n' = 4 at e5
  subst e3; subst e4; subst e5
  exact t9_worth C R h
set_option maxRecDepth 100000 in
theorem t9_partOf {M : xM} {G : xG} {N : Nat} {p1 : Int32} {p2 : Int32} {p3 : Int32} (C : xC (M, G, mdom, 4) RX9 cX9_partOf (some .int)) (R : xR (M, G, mdom, 4) = xrm 3 66) {s : mS} {r : Int32} {s1 : mS} (h : f9_partOf N p1 p2 p3 s = some (r, s1)) : X (M, G, mdom, 4) (some (.int r)) (encM G s1) (encM G s) 0 [(0, .ref (G.2.1 0 0)), (1, .int (p1)), (2, .int (p2)), (3, .int (p3))] [] := by
  unfold f9_partOf at h
  refine x_aload_n (j := 0) C dX9_partOf_0 rfl rfl ?_
  refine x_iconst (v := 0) C dX9_partOf_1 (by decide) ?_
  refine pf9_47 C dX9_partOf_2 ?_
  refine x_aload_n (j := 0) C dX9_partOf_5 rfl rfl ?_
  refine x_iload_n (j := 1) C dX9_partOf_6 rfl rfl ?_
  refine x_iload_n (j := 2) C dX9_partOf_7 rfl rfl ?_
  obtain ⟨⟨r8, s8⟩, e8, h⟩ := Option.bind_eq_some_iff.mp h
  try dsimp only at h
  refine k9_60 C dX9_partOf_8 e8 (x_room R rfl) (Nat.le_of_ble_eq_true rfl) ?_
  refine x_if_eq (tgt := 40) C dX9_partOf_11 (by decide) (fun c11 => ?_) (fun c11 => ?_)
  · rw [if_pos c11] at h
    refine x_sipush (v := (-10000)) C dX9_partOf_40 (by decide) ?_
    cases h
    exact x_iret C dX9_partOf_43
  · rw [if_neg c11] at h
    refine x_aload_n (j := 0) C dX9_partOf_14 rfl rfl ?_
    refine x_iload_n (j := 3) C dX9_partOf_15 rfl rfl ?_
    refine x_iconst (v := 0) C dX9_partOf_16 (by decide) ?_
    refine x_iconst (v := 3) C dX9_partOf_17 (by decide) ?_
    obtain ⟨⟨r18, s18⟩, e18, h⟩ := Option.bind_eq_some_iff.mp h
    try dsimp only at h
    refine k9_64 C dX9_partOf_18 e18 (x_room R rfl) (Nat.le_of_ble_eq_true rfl) ?_
    refine x_if_eq (tgt := 40) C dX9_partOf_21 (by decide) (fun c21 => ?_) (fun c21 => ?_)
    · rw [if_pos c21] at h
      refine x_sipush (v := (-10000)) C dX9_partOf_40 (by decide) ?_
      cases h
      exact x_iret C dX9_partOf_43
    · rw [if_neg c21] at h
      refine x_aload_n (j := 0) C dX9_partOf_24 rfl rfl ?_
      refine gf9_7 C dX9_partOf_25 ?_
      refine x_aload_n (j := 0) C dX9_partOf_28 rfl rfl ?_
      refine x_iload_n (j := 1) C dX9_partOf_29 rfl rfl ?_
      refine x_iload_n (j := 2) C dX9_partOf_30 rfl rfl ?_
      obtain ⟨⟨r31, s31⟩, e31, h⟩ := Option.bind_eq_some_iff.mp h
      try dsimp only at h
      refine k9_85 C dX9_partOf_31 e31 (x_room R rfl) (Nat.le_of_ble_eq_true rfl) ?_
      refine x_iload_n (j := 3) C dX9_partOf_34 rfl rfl ?_
      refine x_iadd C dX9_partOf_35 ?_
      by_cases g36_1 : inB (r31 + p3) 530 = true
      case neg => rw [if_neg g36_1] at h; cases h
      rw [if_pos g36_1] at h
      refine mld1 C dX9_partOf_36 g36_1 ?_
      refine x_goto (tgt := 43) C dX9_partOf_37 (by decide) ?_
      cases h
      exact x_iret C dX9_partOf_43
theorem c9_partOf (l : Launch) (G : xG) {N : Nat} {p1 : Int32} {p2 : Int32} {p3 : Int32} {s : mS} {r : Int32} {s1 : mS} (h : f9_partOf N p1 p2 p3 s = some (r, s1)) : xMet l yX9_partOf (x_ws yX9_partOf cX9_partOf 4 (some .int)) (xrm 3 66) G mdom [.ref (G.2.1 0 0), .int (p1), .int (p2), .int (p3)] (encM G s) (some (.int r)) (encM G s1) := by
  refine xMet.of (by decide +kernel) (Nat.le_of_ble_eq_true rfl) ?_
  rintro ⟨M, G', dom', n'⟩ e1 R e3 e4 e5 C
  change G' = G at e3; change dom' = mdom at e4; change n' = 4 at e5
  subst e3; subst e4; subst e5
  exact t9_partOf C R h
set_option maxRecDepth 100000 in
theorem t9_kind {M : xM} {G : xG} {N : Nat} {p1 : Int32} {p2 : Int32} (C : xC (M, G, mdom, 3) RX9 cX9_kind (some .int)) (R : xR (M, G, mdom, 3) = xrm 2 44) {s : mS} {r : Int32} {s1 : mS} (h : f9_kind N p1 p2 s = some (r, s1)) : X (M, G, mdom, 3) (some (.int r)) (encM G s1) (encM G s) 0 [(0, .ref (G.2.1 0 0)), (1, .int (p1)), (2, .int (p2))] [] := by
  unfold f9_kind at h
  refine x_aload_n (j := 0) C dX9_kind_0 rfl rfl ?_
  refine x_iconst (v := 0) C dX9_kind_1 (by decide) ?_
  refine pf9_47 C dX9_kind_2 ?_
  refine x_aload_n (j := 0) C dX9_kind_5 rfl rfl ?_
  refine x_iload_n (j := 1) C dX9_kind_6 rfl rfl ?_
  obtain ⟨⟨r7, s7⟩, e7, h⟩ := Option.bind_eq_some_iff.mp h
  try dsimp only at h
  refine k9_68 C dX9_kind_7 e7 (x_room R rfl) (Nat.le_of_ble_eq_true rfl) ?_
  refine x_if_ne (tgt := 17) C dX9_kind_10 (by decide) (fun c10 => ?_) (fun c10 => ?_)
  · rw [if_neg c10] at h
    refine x_iload_n (j := 2) C dX9_kind_17 rfl rfl ?_
    refine x_if_ne (tgt := 32) C dX9_kind_18 (by decide) (fun c18 => ?_) (fun c18 => ?_)
    · rw [if_neg c18] at h
      refine x_iload_n (j := 2) C dX9_kind_32 rfl rfl ?_
      refine x_iconst (v := 1) C dX9_kind_33 (by decide) ?_
      refine x_icmp_ne (tgt := 49) C dX9_kind_34 (by decide) (fun c34 => ?_) (fun c34 => ?_)
      · rw [if_neg c34] at h
        refine x_iconst (v := (-1)) C dX9_kind_49 (by decide) ?_
        cases h
        exact x_iret C dX9_kind_50
      · rw [if_pos c34] at h
        refine x_aload_n (j := 0) C dX9_kind_37 rfl rfl ?_
        refine gf9_7 C dX9_kind_38 ?_
        refine x_bipush (v := 10) C dX9_kind_41 (by decide) ?_
        refine x_iload_n (j := 1) C dX9_kind_43 rfl rfl ?_
        refine x_iadd C dX9_kind_44 ?_
        by_cases g45_1 : inB (10 + p1) 530 = true
        case neg => rw [if_neg g45_1] at h; cases h
        rw [if_pos g45_1] at h
        refine mld1 C dX9_kind_45 g45_1 ?_
        refine x_goto (tgt := 50) C dX9_kind_46 (by decide) ?_
        cases h
        exact x_iret C dX9_kind_50
    · rw [if_pos c18] at h
      refine x_aload_n (j := 0) C dX9_kind_21 rfl rfl ?_
      refine gf9_7 C dX9_kind_22 ?_
      refine x_iconst (v := 2) C dX9_kind_25 (by decide) ?_
      refine x_iload_n (j := 1) C dX9_kind_26 rfl rfl ?_
      refine x_iadd C dX9_kind_27 ?_
      by_cases g28_2 : inB (2 + p1) 530 = true
      case neg => rw [if_neg g28_2] at h; cases h
      rw [if_pos g28_2] at h
      refine mld1 C dX9_kind_28 g28_2 ?_
      refine x_goto (tgt := 50) C dX9_kind_29 (by decide) ?_
      cases h
      exact x_iret C dX9_kind_50
  · rw [if_pos c10] at h
    refine x_iconst (v := (-1)) C dX9_kind_13 (by decide) ?_
    refine x_goto (tgt := 50) C dX9_kind_14 (by decide) ?_
    cases h
    exact x_iret C dX9_kind_50
theorem c9_kind (l : Launch) (G : xG) {N : Nat} {p1 : Int32} {p2 : Int32} {s : mS} {r : Int32} {s1 : mS} (h : f9_kind N p1 p2 s = some (r, s1)) : xMet l yX9_kind (x_ws yX9_kind cX9_kind 3 (some .int)) (xrm 2 44) G mdom [.ref (G.2.1 0 0), .int (p1), .int (p2)] (encM G s) (some (.int r)) (encM G s1) := by
  refine xMet.of (by decide +kernel) (Nat.le_of_ble_eq_true rfl) ?_
  rintro ⟨M, G', dom', n'⟩ e1 R e3 e4 e5 C
  change G' = G at e3; change dom' = mdom at e4; change n' = 3 at e5
  subst e3; subst e4; subst e5
  exact t9_kind C R h
set_option maxRecDepth 100000 in
theorem t9_held {M : xM} {G : xG} {N : Nat} {p1 : Int32} (C : xC (M, G, mdom, 2) RX9 cX9_held (some .int)) (R : xR (M, G, mdom, 2) = xrm 0 0) {s : mS} {r : Int32} {s1 : mS} (h : f9_held N p1 s = some (r, s1)) : X (M, G, mdom, 2) (some (.int r)) (encM G s1) (encM G s) 0 [(0, .ref (G.2.1 0 0)), (1, .int (p1))] [] := by
  unfold f9_held at h
  refine x_iload_n (j := 1) C dX9_held_0 rfl rfl ?_
  refine x_ldc (v := 1000000) C dX9_held_1 lk883 ?_
  refine x_icmp_le (tgt := 11) C dX9_held_3 (by decide) (fun c3 => ?_) (fun c3 => ?_)
  · rw [if_pos c3] at h
    refine x_iload_n (j := 1) C dX9_held_11 rfl rfl ?_
    refine x_ldc (v := (-1000000)) C dX9_held_12 lk884 ?_
    refine x_icmp_ge (tgt := 22) C dX9_held_14 (by decide) (fun c14 => ?_) (fun c14 => ?_)
    · rw [if_pos c14] at h
      refine x_iload_n (j := 1) C dX9_held_22 rfl rfl ?_
      cases h
      exact x_iret C dX9_held_23
    · rw [if_neg c14] at h
      refine x_ldc (v := (-1000000)) C dX9_held_17 lk884 ?_
      refine x_goto (tgt := 23) C dX9_held_19 (by decide) ?_
      cases h
      exact x_iret C dX9_held_23
  · rw [if_neg c3] at h
    refine x_ldc (v := 1000000) C dX9_held_6 lk883 ?_
    refine x_goto (tgt := 23) C dX9_held_8 (by decide) ?_
    cases h
    exact x_iret C dX9_held_23
theorem c9_held (l : Launch) (G : xG) {N : Nat} {p1 : Int32} {s : mS} {r : Int32} {s1 : mS} (h : f9_held N p1 s = some (r, s1)) : xMet l yX9_held (x_ws yX9_held cX9_held 2 (some .int)) (xrm 0 0) G mdom [.ref (G.2.1 0 0), .int (p1)] (encM G s) (some (.int r)) (encM G s1) := by
  refine xMet.of (by decide +kernel) (Nat.le_of_ble_eq_true rfl) ?_
  rintro ⟨M, G', dom', n'⟩ e1 R e3 e4 e5 C
  change G' = G at e3; change dom' = mdom at e4; change n' = 2 at e5
  subst e3; subst e4; subst e5
  exact t9_held C R h
theorem k9_100 {M : xM} {G : xG} {n : Nat} {rv : Option Value} {E' : xE} {cc : ByteArray} {ret : Option FieldType} {pc : Nat} {ls : List (Nat × Value)} {st : List Value} {N : Nat} {p1 : Int32} {s s1 : mS} {r : Int32} (C : xC (M, G, mdom, n) RX9 cc ret) (d : decode cc pc = .ok (.invokevirtual 100, 3)) (h : f9_held N p1 s = some (r, s1)) (hR : (xrm 0 0).frames + 1 ≤ (xR (M, G, mdom, n)).frames ∧ 8 + (2 + 11) + (xrm 0 0).locals ≤ (xR (M, G, mdom, n)).locals) (hw : (st.map fun v => v.category).sum ≤ 8) (k : X (M, G, mdom, n) rv E' (encM G s1) (pc + 3) ls (.int r :: st)) : X (M, G, mdom, n) rv E' (encM G s) pc ls (.int (p1) :: .ref (G.2.1 0 0) :: st) :=
  x_callV (As := [.int (p1)]) (n := 1) C d (c9_held (xl (M, G, mdom, n)) G h) lk879 lk881 lk67 lk87 lk882 ⟨rfl, rfl⟩ ⟨by decide +kernel, by decide +kernel, by decide +kernel⟩ rfl hR rfl rfl rfl rfl hw k
set_option maxRecDepth 100000 in
theorem t9_reads_b370 {M : xM} {G : xG} {N : Nat} {p1 : Int32} {p2 : Int32} (C : xC (M, G, mdom, 12) RX9 cX9_reads none) (R : xR (M, G, mdom, 12) = xrm 1 22) {k44 : Int32 → Int32 → Int32 → Int32 → Int32 → mS → Option (mS)} (hk44 : ∀ (a3 : Int32) (a4 : Int32) (a5 : Int32) (a6 : Int32) (a7 : Int32) (s : mS) (s1 : mS), k44 a3 a4 a5 a6 a7 s = some s1 → X (M, G, mdom, 12) none (encM G s1) (encM G s) 44 [(0, .ref (G.2.1 0 0)), (1, .int (p1)), (2, .int (p2)), (3, .int (a3)), (4, .int (a4)), (5, .int (a5)), (6, .int (a6)), (7, .int (a7))] []) {a3 : Int32} {a4 : Int32} {a5 : Int32} {a6 : Int32} {a7 : Int32} {a11 : Int32} {s : mS} {s1 : mS} (h : f9_reads_b370 N p1 p2 k44 a3 a4 a5 a6 a7 a11 s = some s1) : X (M, G, mdom, 12) none (encM G s1) (encM G s) 370 [(0, .ref (G.2.1 0 0)), (1, .int (p1)), (2, .int (p2)), (3, .int (a3)), (4, .int (a4)), (5, .int (a5)), (6, .int (a6)), (7, .int (a7)), (11, .int (a11))] [] := by
  unfold f9_reads_b370 at h
  refine x_aload_n (j := 0) C dX9_reads_370 rfl rfl ?_
  refine x_dup C dX9_reads_371 rfl ?_
  refine gf9_94 C dX9_reads_372 ?_
  refine x_iload (j := 8) C dX9_reads_375 rfl ?_
  refine x_if_eq (tgt := 387) C dX9_reads_377 (by decide) (fun c377 => ?_) (fun c377 => ?_)
  · rw [if_pos c377] at h
    refine x_iconst (v := 0) C dX9_reads_387 (by decide) ?_
    refine x_ior C dX9_reads_388 ?_
    refine pf9_94 C dX9_reads_389 ?_
    refine x_iinc (j := 7) (v := (a7 + 1)) (ls' := [(7, .int ((a7 + 1))), (0, .ref (G.2.1 0 0)), (1, .int (p1)), (2, .int (p2)), (3, .int (a3)), (4, .int (a4)), (5, .int (a5)), (6, .int (a6)), (11, .int (a11))]) C dX9_reads_392 rfl rfl (Nat.le_of_ble_eq_true rfl) rfl ?_
    refine x_goto (tgt := 44) C dX9_reads_395 (by decide) ?_
    refine x_sub (ls' := [(0, .ref (G.2.1 0 0)), (1, .int (p1)), (2, .int (p2)), (3, .int (a3)), (4, .int (a4)), (5, .int (a5)), (6, .int (a6)), (7, .int ((a7 + 1)))]) [1, 2, 3, 4, 5, 6, 7, 0] rfl ?_
    exact hk44 _ _ _ _ _ _ _ h
  · rw [if_neg c377] at h
    refine x_iconst (v := 1) C dX9_reads_380 (by decide) ?_
    refine x_iload (j := 7) C dX9_reads_381 rfl ?_
    refine x_ishl C dX9_reads_383 ?_
    refine x_goto (tgt := 388) C dX9_reads_384 (by decide) ?_
    refine x_ior C dX9_reads_388 ?_
    refine pf9_94 C dX9_reads_389 ?_
    refine x_iinc (j := 7) (v := (a7 + 1)) (ls' := [(7, .int ((a7 + 1))), (0, .ref (G.2.1 0 0)), (1, .int (p1)), (2, .int (p2)), (3, .int (a3)), (4, .int (a4)), (5, .int (a5)), (6, .int (a6)), (11, .int (a11))]) C dX9_reads_392 rfl rfl (Nat.le_of_ble_eq_true rfl) rfl ?_
    refine x_goto (tgt := 44) C dX9_reads_395 (by decide) ?_
    refine x_sub (ls' := [(0, .ref (G.2.1 0 0)), (1, .int (p1)), (2, .int (p2)), (3, .int (a3)), (4, .int (a4)), (5, .int (a5)), (6, .int (a6)), (7, .int ((a7 + 1)))]) [1, 2, 3, 4, 5, 6, 7, 0] rfl ?_
    exact hk44 _ _ _ _ _ _ _ h
set_option maxRecDepth 100000 in
theorem t9_reads_b322 {M : xM} {G : xG} {N : Nat} {p1 : Int32} {p2 : Int32} (C : xC (M, G, mdom, 12) RX9 cX9_reads none) (R : xR (M, G, mdom, 12) = xrm 1 22) {k44 : Int32 → Int32 → Int32 → Int32 → Int32 → mS → Option (mS)} (hk44 : ∀ (a3 : Int32) (a4 : Int32) (a5 : Int32) (a6 : Int32) (a7 : Int32) (s : mS) (s1 : mS), k44 a3 a4 a5 a6 a7 s = some s1 → X (M, G, mdom, 12) none (encM G s1) (encM G s) 44 [(0, .ref (G.2.1 0 0)), (1, .int (p1)), (2, .int (p2)), (3, .int (a3)), (4, .int (a4)), (5, .int (a5)), (6, .int (a6)), (7, .int (a7))] []) {a3 : Int32} {a4 : Int32} {a5 : Int32} {a6 : Int32} {a7 : Int32} {a10 : Int32} {a11 : Int32} {s : mS} {s1 : mS} (h : f9_reads_b322 N p1 p2 k44 a3 a4 a5 a6 a7 a10 a11 s = some s1) : X (M, G, mdom, 12) none (encM G s1) (encM G s) 322 [(0, .ref (G.2.1 0 0)), (1, .int (p1)), (2, .int (p2)), (3, .int (a3)), (4, .int (a4)), (5, .int (a5)), (6, .int (a6)), (7, .int (a7)), (10, .int (a10)), (11, .int (a11))] [] := by
  unfold f9_reads_b322 at h
  refine x_aload_n (j := 0) C dX9_reads_322 rfl rfl ?_
  refine x_aload_n (j := 0) C dX9_reads_323 rfl rfl ?_
  refine x_iconst (v := 2) C dX9_reads_324 (by decide) ?_
  refine x_aload_n (j := 0) C dX9_reads_325 rfl rfl ?_
  refine gf9_97 C dX9_reads_326 ?_
  refine x_imul C dX9_reads_329 ?_
  obtain ⟨⟨r330, s330⟩, e330, h⟩ := Option.bind_eq_some_iff.mp h
  try dsimp only at h
  refine k9_100 C dX9_reads_330 e330 (x_room R rfl) (Nat.le_of_ble_eq_true rfl) ?_
  refine pf9_97 C dX9_reads_333 ?_
  refine x_aload_n (j := 0) C dX9_reads_336 rfl rfl ?_
  refine x_dup C dX9_reads_337 rfl ?_
  refine gf9_91 C dX9_reads_338 ?_
  refine x_iload (j := 4) C dX9_reads_341 rfl ?_
  refine x_iconst (v := 3) C dX9_reads_343 (by decide) ?_
  refine x_icmp_ne (tgt := 355) C dX9_reads_344 (by decide) (fun c344 => ?_) (fun c344 => ?_)
  · rw [if_neg c344] at h
    refine x_iload (j := 6) C dX9_reads_355 rfl ?_
    refine x_if_eq (tgt := 365) C dX9_reads_357 (by decide) (fun c357 => ?_) (fun c357 => ?_)
    · rw [if_pos c357] at h
      refine x_iconst (v := 0) C dX9_reads_365 (by decide) ?_
      refine x_iadd C dX9_reads_366 ?_
      refine pf9_91 C dX9_reads_367 ?_
      refine x_sub (ls' := [(0, .ref (G.2.1 0 0)), (1, .int (p1)), (2, .int (p2)), (3, .int (a3)), (4, .int (a4)), (5, .int (a5)), (6, .int (a6)), (7, .int (a7)), (11, .int (a11))]) [0, 1, 2, 3, 4, 5, 6, 7, 9] rfl ?_
      exact t9_reads_b370 (N := N) (p1 := p1) (p2 := p2) C R hk44 h
    · rw [if_neg c357] at h
      refine x_iload (j := 8) C dX9_reads_360 rfl ?_
      refine x_goto (tgt := 366) C dX9_reads_362 (by decide) ?_
      refine x_iadd C dX9_reads_366 ?_
      refine pf9_91 C dX9_reads_367 ?_
      refine x_sub (ls' := [(0, .ref (G.2.1 0 0)), (1, .int (p1)), (2, .int (p2)), (3, .int (a3)), (4, .int (a4)), (5, .int (a5)), (6, .int (a6)), (7, .int (a7)), (11, .int (a11))]) [0, 1, 2, 3, 4, 5, 6, 7, 9] rfl ?_
      exact t9_reads_b370 (N := N) (p1 := p1) (p2 := p2) C R hk44 h
  · rw [if_pos c344] at h
    refine x_iload (j := 9) C dX9_reads_347 rfl ?_
    refine x_if_eq (tgt := 365) C dX9_reads_349 (by decide) (fun c349 => ?_) (fun c349 => ?_)
    · rw [if_pos c349] at h
      refine x_iconst (v := 0) C dX9_reads_365 (by decide) ?_
      refine x_iadd C dX9_reads_366 ?_
      refine pf9_91 C dX9_reads_367 ?_
      refine x_sub (ls' := [(0, .ref (G.2.1 0 0)), (1, .int (p1)), (2, .int (p2)), (3, .int (a3)), (4, .int (a4)), (5, .int (a5)), (6, .int (a6)), (7, .int (a7)), (11, .int (a11))]) [0, 1, 2, 3, 4, 5, 6, 7, 9] rfl ?_
      exact t9_reads_b370 (N := N) (p1 := p1) (p2 := p2) C R hk44 h
    · rw [if_neg c349] at h
      refine x_goto (tgt := 360) C dX9_reads_352 (by decide) ?_
      refine x_iload (j := 8) C dX9_reads_360 rfl ?_
      refine x_goto (tgt := 366) C dX9_reads_362 (by decide) ?_
      refine x_iadd C dX9_reads_366 ?_
      refine pf9_91 C dX9_reads_367 ?_
      refine x_sub (ls' := [(0, .ref (G.2.1 0 0)), (1, .int (p1)), (2, .int (p2)), (3, .int (a3)), (4, .int (a4)), (5, .int (a5)), (6, .int (a6)), (7, .int (a7)), (11, .int (a11))]) [0, 1, 2, 3, 4, 5, 6, 7, 9] rfl ?_
      exact t9_reads_b370 (N := N) (p1 := p1) (p2 := p2) C R hk44 h
set_option maxRecDepth 100000 in
theorem t9_reads_b288 {M : xM} {G : xG} {N : Nat} {p1 : Int32} {p2 : Int32} (C : xC (M, G, mdom, 12) RX9 cX9_reads none) (R : xR (M, G, mdom, 12) = xrm 1 22) {k44 : Int32 → Int32 → Int32 → Int32 → Int32 → mS → Option (mS)} (hk44 : ∀ (a3 : Int32) (a4 : Int32) (a5 : Int32) (a6 : Int32) (a7 : Int32) (s : mS) (s1 : mS), k44 a3 a4 a5 a6 a7 s = some s1 → X (M, G, mdom, 12) none (encM G s1) (encM G s) 44 [(0, .ref (G.2.1 0 0)), (1, .int (p1)), (2, .int (p2)), (3, .int (a3)), (4, .int (a4)), (5, .int (a5)), (6, .int (a6)), (7, .int (a7))] []) {a3 : Int32} {a4 : Int32} {a5 : Int32} {a7 : Int32} {a9 : Int32} {a10 : Int32} {a11 : Int32} {b0 : Int32} {s : mS} {s1 : mS} (h : f9_reads_b288 N p1 p2 k44 a3 a4 a5 a7 a9 a10 a11 b0 s = some s1) : X (M, G, mdom, 12) none (encM G s1) (encM G s) 288 [(0, .ref (G.2.1 0 0)), (1, .int (p1)), (2, .int (p2)), (3, .int (a3)), (4, .int (a4)), (5, .int (a5)), (7, .int (a7)), (9, .int (a9)), (10, .int (a10)), (11, .int (a11))] [.int (b0)] := by
  unfold f9_reads_b288 at h
  refine x_istore (i := 6) (ls' := [(6, .int (b0)), (0, .ref (G.2.1 0 0)), (1, .int (p1)), (2, .int (p2)), (3, .int (a3)), (4, .int (a4)), (5, .int (a5)), (7, .int (a7)), (9, .int (a9)), (10, .int (a10)), (11, .int (a11))]) C dX9_reads_288 (Nat.le_of_ble_eq_true rfl) rfl ?_
  refine x_iload (j := 10) C dX9_reads_290 rfl ?_
  refine x_if_eq (tgt := 322) C dX9_reads_292 (by decide) (fun c292 => ?_) (fun c292 => ?_)
  · rw [if_pos c292] at h
    refine x_sub (ls' := [(0, .ref (G.2.1 0 0)), (1, .int (p1)), (2, .int (p2)), (3, .int (a3)), (4, .int (a4)), (5, .int (a5)), (6, .int (b0)), (7, .int (a7)), (10, .int (a10)), (11, .int (a11))]) [1, 2, 3, 4, 5, 6, 0, 7, 9, 10] rfl ?_
    exact t9_reads_b322 (N := N) (p1 := p1) (p2 := p2) C R hk44 h
  · rw [if_neg c292] at h
    refine x_aload_n (j := 1) C dX9_reads_295 rfl rfl ?_
    refine x_iload (j := 5) C dX9_reads_296 rfl ?_
    refine x_iconst (v := 3) C dX9_reads_298 (by decide) ?_
    refine x_icmp_ne (tgt := 312) C dX9_reads_299 (by decide) (fun c299 => ?_) (fun c299 => ?_)
    · rw [if_neg c299] at h
      refine x_iload (j := 8) C dX9_reads_312 rfl ?_
      refine x_aload_n (j := 1) C dX9_reads_314 rfl rfl ?_
      refine gf9_97 C dX9_reads_315 ?_
      refine x_isub C dX9_reads_318 ?_
      refine pf9_97 C dX9_reads_319 ?_
      refine x_sub (ls' := [(0, .ref (G.2.1 0 0)), (1, .int (p1)), (2, .int (p2)), (3, .int (a3)), (4, .int (a4)), (5, .int (a5)), (6, .int (b0)), (7, .int (a7)), (10, .int (a10)), (11, .int (a11))]) [1, 2, 3, 4, 5, 6, 0, 7, 9, 10] rfl ?_
      exact t9_reads_b322 (N := N) (p1 := p1) (p2 := p2) C R hk44 h
    · rw [if_pos c299] at h
      refine x_aload_n (j := 1) C dX9_reads_302 rfl rfl ?_
      refine gf9_97 C dX9_reads_303 ?_
      refine x_iload (j := 8) C dX9_reads_306 rfl ?_
      refine x_isub C dX9_reads_308 ?_
      refine x_goto (tgt := 319) C dX9_reads_309 (by decide) ?_
      refine pf9_97 C dX9_reads_319 ?_
      refine x_sub (ls' := [(0, .ref (G.2.1 0 0)), (1, .int (p1)), (2, .int (p2)), (3, .int (a3)), (4, .int (a4)), (5, .int (a5)), (6, .int (b0)), (7, .int (a7)), (10, .int (a10)), (11, .int (a11))]) [1, 2, 3, 4, 5, 6, 0, 7, 9, 10] rfl ?_
      exact t9_reads_b322 (N := N) (p1 := p1) (p2 := p2) C R hk44 h
set_option maxRecDepth 100000 in
theorem t9_reads_b274 {M : xM} {G : xG} {N : Nat} {p1 : Int32} {p2 : Int32} (C : xC (M, G, mdom, 12) RX9 cX9_reads none) (R : xR (M, G, mdom, 12) = xrm 1 22) {k44 : Int32 → Int32 → Int32 → Int32 → Int32 → mS → Option (mS)} (hk44 : ∀ (a3 : Int32) (a4 : Int32) (a5 : Int32) (a6 : Int32) (a7 : Int32) (s : mS) (s1 : mS), k44 a3 a4 a5 a6 a7 s = some s1 → X (M, G, mdom, 12) none (encM G s1) (encM G s) 44 [(0, .ref (G.2.1 0 0)), (1, .int (p1)), (2, .int (p2)), (3, .int (a3)), (4, .int (a4)), (5, .int (a5)), (6, .int (a6)), (7, .int (a7))] []) {a3 : Int32} {a4 : Int32} {a5 : Int32} {a6 : Int32} {a7 : Int32} {a9 : Int32} {a10 : Int32} {b0 : Int32} {s : mS} {s1 : mS} (h : f9_reads_b274 N p1 p2 k44 a3 a4 a5 a6 a7 a9 a10 b0 s = some s1) : X (M, G, mdom, 12) none (encM G s1) (encM G s) 274 [(0, .ref (G.2.1 0 0)), (1, .int (p1)), (2, .int (p2)), (3, .int (a3)), (4, .int (a4)), (5, .int (a5)), (6, .int (a6)), (7, .int (a7)), (9, .int (a9)), (10, .int (a10))] [.int (b0)] := by
  unfold f9_reads_b274 at h
  refine x_istore (i := 11) (ls' := [(11, .int (b0)), (0, .ref (G.2.1 0 0)), (1, .int (p1)), (2, .int (p2)), (3, .int (a3)), (4, .int (a4)), (5, .int (a5)), (6, .int (a6)), (7, .int (a7)), (9, .int (a9)), (10, .int (a10))]) C dX9_reads_274 (Nat.le_of_ble_eq_true rfl) rfl ?_
  refine x_iload (j := 7) C dX9_reads_276 rfl ?_
  refine x_iload (j := 0) C dX9_reads_278 rfl ?_
  refine x_icmp_eq (tgt := 287) C dX9_reads_280 (by decide) (fun c280 => ?_) (fun c280 => ?_)
  · rw [if_pos c280] at h
    refine x_iconst (v := 0) C dX9_reads_287 (by decide) ?_
    refine x_sub (ls' := [(0, .ref (G.2.1 0 0)), (1, .int (p1)), (2, .int (p2)), (3, .int (a3)), (4, .int (a4)), (5, .int (a5)), (7, .int (a7)), (9, .int (a9)), (10, .int (a10)), (11, .int (b0))]) [1, 2, 3, 4, 5, 6, 8, 9, 10, 0] rfl ?_
    exact t9_reads_b288 (N := N) (p1 := p1) (p2 := p2) C R hk44 h
  · rw [if_neg c280] at h
    refine x_iconst (v := 1) C dX9_reads_283 (by decide) ?_
    refine x_goto (tgt := 288) C dX9_reads_284 (by decide) ?_
    refine x_sub (ls' := [(0, .ref (G.2.1 0 0)), (1, .int (p1)), (2, .int (p2)), (3, .int (a3)), (4, .int (a4)), (5, .int (a5)), (7, .int (a7)), (9, .int (a9)), (10, .int (a10)), (11, .int (b0))]) [1, 2, 3, 4, 5, 6, 8, 9, 10, 0] rfl ?_
    exact t9_reads_b288 (N := N) (p1 := p1) (p2 := p2) C R hk44 h
set_option maxRecDepth 100000 in
theorem t9_reads_b217 {M : xM} {G : xG} {N : Nat} {p1 : Int32} {p2 : Int32} (C : xC (M, G, mdom, 12) RX9 cX9_reads none) (R : xR (M, G, mdom, 12) = xrm 1 22) {k44 : Int32 → Int32 → Int32 → Int32 → Int32 → mS → Option (mS)} (hk44 : ∀ (a3 : Int32) (a4 : Int32) (a5 : Int32) (a6 : Int32) (a7 : Int32) (s : mS) (s1 : mS), k44 a3 a4 a5 a6 a7 s = some s1 → X (M, G, mdom, 12) none (encM G s1) (encM G s) 44 [(0, .ref (G.2.1 0 0)), (1, .int (p1)), (2, .int (p2)), (3, .int (a3)), (4, .int (a4)), (5, .int (a5)), (6, .int (a6)), (7, .int (a7))] []) {a3 : Int32} {a4 : Int32} {a5 : Int32} {a6 : Int32} {a7 : Int32} {a9 : Int32} {a10 : Int32} {b0 : Int32} {s : mS} {s1 : mS} (h : f9_reads_b217 N p1 p2 k44 a3 a4 a5 a6 a7 a9 a10 b0 s = some s1) : X (M, G, mdom, 12) none (encM G s1) (encM G s) 217 [(0, .ref (G.2.1 0 0)), (1, .int (p1)), (2, .int (p2)), (3, .int (a3)), (4, .int (a4)), (5, .int (a5)), (6, .int (a6)), (7, .int (a7)), (9, .int (a9)), (10, .int (a10))] [.int (b0)] := by
  unfold f9_reads_b217 at h
  refine x_istore (i := 11) (ls' := [(11, .int (b0)), (0, .ref (G.2.1 0 0)), (1, .int (p1)), (2, .int (p2)), (3, .int (a3)), (4, .int (a4)), (5, .int (a5)), (6, .int (a6)), (7, .int (a7)), (9, .int (a9)), (10, .int (a10))]) C dX9_reads_217 (Nat.le_of_ble_eq_true rfl) rfl ?_
  refine x_iload (j := 0) C dX9_reads_219 rfl ?_
  refine x_if_eq (tgt := 370) C dX9_reads_221 (by decide) (fun c221 => ?_) (fun c221 => ?_)
  · rw [if_pos c221] at h
    refine x_sub (ls' := [(0, .ref (G.2.1 0 0)), (1, .int (p1)), (2, .int (p2)), (3, .int (a3)), (4, .int (a4)), (5, .int (a5)), (6, .int (a6)), (7, .int (a7)), (11, .int (b0))]) [1, 2, 3, 4, 5, 6, 7, 8, 0] rfl ?_
    exact t9_reads_b370 (N := N) (p1 := p1) (p2 := p2) C R hk44 h
  · rw [if_neg c221] at h
    refine x_iload (j := 6) C dX9_reads_224 rfl ?_
    refine x_iload (j := 9) C dX9_reads_226 rfl ?_
    refine x_iadd C dX9_reads_228 ?_
    refine x_istore (i := 5) (ls' := [(5, .int ((a5 + a9))), (11, .int (b0)), (0, .ref (G.2.1 0 0)), (1, .int (p1)), (2, .int (p2)), (3, .int (a3)), (4, .int (a4)), (6, .int (a6)), (7, .int (a7)), (9, .int (a9)), (10, .int (a10))]) C dX9_reads_229 (Nat.le_of_ble_eq_true rfl) rfl ?_
    refine x_aload_n (j := 2) C dX9_reads_231 rfl rfl ?_
    refine x_dup C dX9_reads_232 rfl ?_
    refine gf9_91 C dX9_reads_233 ?_
    refine x_iload (j := 10) C dX9_reads_236 rfl ?_
    refine x_iadd C dX9_reads_238 ?_
    refine pf9_91 C dX9_reads_239 ?_
    refine x_aload_n (j := 2) C dX9_reads_242 rfl rfl ?_
    refine x_iload_n (j := 4) C dX9_reads_243 rfl rfl ?_
    refine x_iload (j := 0) C dX9_reads_244 rfl ?_
    refine x_isub C dX9_reads_246 ?_
    refine pf9_97 C dX9_reads_247 ?_
    refine x_goto (tgt := 370) C dX9_reads_250 (by decide) ?_
    refine x_sub (ls' := [(0, .ref (G.2.1 0 0)), (1, .int (p1)), (2, .int (p2)), (3, .int (a3)), (4, .int (a4)), (5, .int ((a5 + a9))), (6, .int (a6)), (7, .int (a7)), (11, .int (b0))]) [2, 3, 4, 5, 6, 0, 7, 8, 1] rfl ?_
    exact t9_reads_b370 (N := N) (p1 := p1) (p2 := p2) C R hk44 h
set_option maxRecDepth 100000 in
theorem t9_reads_b192 {M : xM} {G : xG} {N : Nat} {p1 : Int32} {p2 : Int32} (C : xC (M, G, mdom, 12) RX9 cX9_reads none) (R : xR (M, G, mdom, 12) = xrm 1 22) {k44 : Int32 → Int32 → Int32 → Int32 → Int32 → mS → Option (mS)} (hk44 : ∀ (a3 : Int32) (a4 : Int32) (a5 : Int32) (a6 : Int32) (a7 : Int32) (s : mS) (s1 : mS), k44 a3 a4 a5 a6 a7 s = some s1 → X (M, G, mdom, 12) none (encM G s1) (encM G s) 44 [(0, .ref (G.2.1 0 0)), (1, .int (p1)), (2, .int (p2)), (3, .int (a3)), (4, .int (a4)), (5, .int (a5)), (6, .int (a6)), (7, .int (a7))] []) {a3 : Int32} {a4 : Int32} {a5 : Int32} {a6 : Int32} {a7 : Int32} {a11 : Int32} {s : mS} {s1 : mS} (h : f9_reads_b192 N p1 p2 k44 a3 a4 a5 a6 a7 a11 s = some s1) : X (M, G, mdom, 12) none (encM G s1) (encM G s) 192 [(0, .ref (G.2.1 0 0)), (1, .int (p1)), (2, .int (p2)), (3, .int (a3)), (4, .int (a4)), (5, .int (a5)), (6, .int (a6)), (7, .int (a7)), (11, .int (a11))] [] := by
  unfold f9_reads_b192 at h
  refine x_aload_n (j := 0) C dX9_reads_192 rfl rfl ?_
  refine x_iload_n (j := 2) C dX9_reads_193 rfl rfl ?_
  refine x_iload (j := 5) C dX9_reads_194 rfl ?_
  refine x_isub C dX9_reads_196 ?_
  refine pf9_97 C dX9_reads_197 ?_
  refine x_goto (tgt := 370) C dX9_reads_200 (by decide) ?_
  exact t9_reads_b370 (N := N) (p1 := p1) (p2 := p2) C R hk44 h
set_option maxRecDepth 100000 in
theorem t9_reads_b165 {M : xM} {G : xG} {N : Nat} {p1 : Int32} {p2 : Int32} (C : xC (M, G, mdom, 12) RX9 cX9_reads none) (R : xR (M, G, mdom, 12) = xrm 1 22) {k44 : Int32 → Int32 → Int32 → Int32 → Int32 → mS → Option (mS)} (hk44 : ∀ (a3 : Int32) (a4 : Int32) (a5 : Int32) (a6 : Int32) (a7 : Int32) (s : mS) (s1 : mS), k44 a3 a4 a5 a6 a7 s = some s1 → X (M, G, mdom, 12) none (encM G s1) (encM G s) 44 [(0, .ref (G.2.1 0 0)), (1, .int (p1)), (2, .int (p2)), (3, .int (a3)), (4, .int (a4)), (5, .int (a5)), (6, .int (a6)), (7, .int (a7))] []) {a3 : Int32} {a4 : Int32} {a5 : Int32} {a6 : Int32} {a7 : Int32} {a11 : Int32} {b0 : Int32} {b1 : Int32} {s : mS} {s1 : mS} (h : f9_reads_b165 N p1 p2 k44 a3 a4 a5 a6 a7 a11 b0 b1 s = some s1) : X (M, G, mdom, 12) none (encM G s1) (encM G s) 165 [(0, .ref (G.2.1 0 0)), (1, .int (p1)), (2, .int (p2)), (3, .int (a3)), (4, .int (a4)), (5, .int (a5)), (6, .int (a6)), (7, .int (a7)), (11, .int (a11))] [.int (b0), .int (b1), .ref (G.2.1 0 0)] := by
  unfold f9_reads_b165 at h
  refine x_iadd C dX9_reads_165 ?_
  refine pf9_91 C dX9_reads_166 ?_
  refine x_iload (j := 8) C dX9_reads_169 rfl ?_
  refine x_if_eq (tgt := 370) C dX9_reads_171 (by decide) (fun c171 => ?_) (fun c171 => ?_)
  · rw [if_pos c171] at h
    exact t9_reads_b370 (N := N) (p1 := p1) (p2 := p2) C R hk44 h
  · rw [if_neg c171] at h
    refine x_aload_n (j := 0) C dX9_reads_174 rfl rfl ?_
    refine gf9_94 C dX9_reads_175 ?_
    refine x_if_eq (tgt := 192) C dX9_reads_178 (by decide) (fun c178 => ?_) (fun c178 => ?_)
    · rw [if_pos c178] at h
      exact t9_reads_b192 (N := N) (p1 := p1) (p2 := p2) C R hk44 h
    · rw [if_neg c178] at h
      refine x_iload_n (j := 2) C dX9_reads_181 rfl rfl ?_
      refine x_iload (j := 5) C dX9_reads_182 rfl ?_
      refine x_isub C dX9_reads_184 ?_
      refine x_aload_n (j := 0) C dX9_reads_185 rfl rfl ?_
      refine gf9_97 C dX9_reads_186 ?_
      refine x_icmp_ge (tgt := 370) C dX9_reads_189 (by decide) (fun c189 => ?_) (fun c189 => ?_)
      · rw [if_pos c189] at h
        exact t9_reads_b370 (N := N) (p1 := p1) (p2 := p2) C R hk44 h
      · rw [if_neg c189] at h
        exact t9_reads_b192 (N := N) (p1 := p1) (p2 := p2) C R hk44 h
set_option maxRecDepth 100000 in
theorem t9_reads_b148 {M : xM} {G : xG} {N : Nat} {p1 : Int32} {p2 : Int32} (C : xC (M, G, mdom, 12) RX9 cX9_reads none) (R : xR (M, G, mdom, 12) = xrm 1 22) {k44 : Int32 → Int32 → Int32 → Int32 → Int32 → mS → Option (mS)} (hk44 : ∀ (a3 : Int32) (a4 : Int32) (a5 : Int32) (a6 : Int32) (a7 : Int32) (s : mS) (s1 : mS), k44 a3 a4 a5 a6 a7 s = some s1 → X (M, G, mdom, 12) none (encM G s1) (encM G s) 44 [(0, .ref (G.2.1 0 0)), (1, .int (p1)), (2, .int (p2)), (3, .int (a3)), (4, .int (a4)), (5, .int (a5)), (6, .int (a6)), (7, .int (a7))] []) {a3 : Int32} {a4 : Int32} {a5 : Int32} {a6 : Int32} {a7 : Int32} {b0 : Int32} {s : mS} {s1 : mS} (h : f9_reads_b148 N p1 p2 k44 a3 a4 a5 a6 a7 b0 s = some s1) : X (M, G, mdom, 12) none (encM G s1) (encM G s) 148 [(0, .ref (G.2.1 0 0)), (1, .int (p1)), (2, .int (p2)), (3, .int (a3)), (4, .int (a4)), (5, .int (a5)), (6, .int (a6)), (7, .int (a7))] [.int (b0)] := by
  unfold f9_reads_b148 at h
  refine x_istore (i := 11) (ls' := [(11, .int (b0)), (0, .ref (G.2.1 0 0)), (1, .int (p1)), (2, .int (p2)), (3, .int (a3)), (4, .int (a4)), (5, .int (a5)), (6, .int (a6)), (7, .int (a7))]) C dX9_reads_148 (Nat.le_of_ble_eq_true rfl) rfl ?_
  refine x_aload_n (j := 1) C dX9_reads_150 rfl rfl ?_
  refine x_dup C dX9_reads_151 rfl ?_
  refine gf9_91 C dX9_reads_152 ?_
  refine x_iload (j := 0) C dX9_reads_155 rfl ?_
  refine x_if_eq (tgt := 164) C dX9_reads_157 (by decide) (fun c157 => ?_) (fun c157 => ?_)
  · rw [if_pos c157] at h
    refine x_iconst (v := 0) C dX9_reads_164 (by decide) ?_
    refine x_sub (ls' := [(0, .ref (G.2.1 0 0)), (1, .int (p1)), (2, .int (p2)), (3, .int (a3)), (4, .int (a4)), (5, .int (a5)), (6, .int (a6)), (7, .int (a7)), (11, .int (b0))]) [1, 2, 3, 4, 5, 6, 7, 8, 0] rfl ?_
    exact t9_reads_b165 (N := N) (p1 := p1) (p2 := p2) C R hk44 h
  · rw [if_neg c157] at h
    refine x_iconst (v := 1) C dX9_reads_160 (by decide) ?_
    refine x_goto (tgt := 165) C dX9_reads_161 (by decide) ?_
    refine x_sub (ls' := [(0, .ref (G.2.1 0 0)), (1, .int (p1)), (2, .int (p2)), (3, .int (a3)), (4, .int (a4)), (5, .int (a5)), (6, .int (a6)), (7, .int (a7)), (11, .int (b0))]) [1, 2, 3, 4, 5, 6, 7, 8, 0] rfl ?_
    exact t9_reads_b165 (N := N) (p1 := p1) (p2 := p2) C R hk44 h
set_option maxRecDepth 100000 in
theorem t9_reads_b135 {M : xM} {G : xG} {N : Nat} {p1 : Int32} {p2 : Int32} (C : xC (M, G, mdom, 12) RX9 cX9_reads none) (R : xR (M, G, mdom, 12) = xrm 1 22) {k44 : Int32 → Int32 → Int32 → Int32 → Int32 → mS → Option (mS)} (hk44 : ∀ (a3 : Int32) (a4 : Int32) (a5 : Int32) (a6 : Int32) (a7 : Int32) (s : mS) (s1 : mS), k44 a3 a4 a5 a6 a7 s = some s1 → X (M, G, mdom, 12) none (encM G s1) (encM G s) 44 [(0, .ref (G.2.1 0 0)), (1, .int (p1)), (2, .int (p2)), (3, .int (a3)), (4, .int (a4)), (5, .int (a5)), (6, .int (a6)), (7, .int (a7))] []) {a3 : Int32} {a4 : Int32} {a6 : Int32} {a7 : Int32} {b0 : Int32} {s : mS} {s1 : mS} (h : f9_reads_b135 N p1 p2 k44 a3 a4 a6 a7 b0 s = some s1) : X (M, G, mdom, 12) none (encM G s1) (encM G s) 135 [(0, .ref (G.2.1 0 0)), (1, .int (p1)), (2, .int (p2)), (3, .int (a3)), (4, .int (a4)), (6, .int (a6)), (7, .int (a7))] [.int (b0)] := by
  unfold f9_reads_b135 at h
  refine x_istore (i := 5) (ls' := [(5, .int (b0)), (0, .ref (G.2.1 0 0)), (1, .int (p1)), (2, .int (p2)), (3, .int (a3)), (4, .int (a4)), (6, .int (a6)), (7, .int (a7))]) C dX9_reads_135 (Nat.le_of_ble_eq_true rfl) rfl ?_
  refine x_iload (j := 0) C dX9_reads_137 rfl ?_
  refine x_iload_n (j := 3) C dX9_reads_139 rfl rfl ?_
  refine x_icmp_gt (tgt := 147) C dX9_reads_140 (by decide) (fun c140 => ?_) (fun c140 => ?_)
  · rw [if_pos c140] at h
    refine x_iconst (v := 0) C dX9_reads_147 (by decide) ?_
    refine x_sub (ls' := [(0, .ref (G.2.1 0 0)), (1, .int (p1)), (2, .int (p2)), (3, .int (a3)), (4, .int (a4)), (5, .int (b0)), (6, .int (a6)), (7, .int (a7))]) [1, 2, 3, 4, 5, 0, 6, 7] rfl ?_
    exact t9_reads_b148 (N := N) (p1 := p1) (p2 := p2) C R hk44 h
  · rw [if_neg c140] at h
    refine x_iconst (v := 1) C dX9_reads_143 (by decide) ?_
    refine x_goto (tgt := 148) C dX9_reads_144 (by decide) ?_
    refine x_sub (ls' := [(0, .ref (G.2.1 0 0)), (1, .int (p1)), (2, .int (p2)), (3, .int (a3)), (4, .int (a4)), (5, .int (b0)), (6, .int (a6)), (7, .int (a7))]) [1, 2, 3, 4, 5, 0, 6, 7] rfl ?_
    exact t9_reads_b148 (N := N) (p1 := p1) (p2 := p2) C R hk44 h
set_option maxRecDepth 100000 in
theorem t9_reads_b120 {M : xM} {G : xG} {N : Nat} {p1 : Int32} {p2 : Int32} (C : xC (M, G, mdom, 12) RX9 cX9_reads none) (R : xR (M, G, mdom, 12) = xrm 1 22) {k44 : Int32 → Int32 → Int32 → Int32 → Int32 → mS → Option (mS)} (hk44 : ∀ (a3 : Int32) (a4 : Int32) (a5 : Int32) (a6 : Int32) (a7 : Int32) (s : mS) (s1 : mS), k44 a3 a4 a5 a6 a7 s = some s1 → X (M, G, mdom, 12) none (encM G s1) (encM G s) 44 [(0, .ref (G.2.1 0 0)), (1, .int (p1)), (2, .int (p2)), (3, .int (a3)), (4, .int (a4)), (5, .int (a5)), (6, .int (a6)), (7, .int (a7))] []) {a3 : Int32} {a4 : Int32} {a5 : Int32} {a6 : Int32} {a7 : Int32} {a9 : Int32} {s : mS} {s1 : mS} (h : f9_reads_b120 N p1 p2 k44 a3 a4 a5 a6 a7 a9 s = some s1) : X (M, G, mdom, 12) none (encM G s1) (encM G s) 120 [(0, .ref (G.2.1 0 0)), (1, .int (p1)), (2, .int (p2)), (3, .int (a3)), (4, .int (a4)), (5, .int (a5)), (6, .int (a6)), (7, .int (a7)), (9, .int (a9))] [] := by
  unfold f9_reads_b120 at h
  refine x_iload (j := 4) C dX9_reads_120 rfl ?_
  refine x_if_ne (tgt := 130) C dX9_reads_122 (by decide) (fun c122 => ?_) (fun c122 => ?_)
  · rw [if_neg c122] at h
    refine x_iload (j := 5) C dX9_reads_130 rfl ?_
    refine x_iload (j := 8) C dX9_reads_132 rfl ?_
    refine x_iadd C dX9_reads_134 ?_
    refine x_sub (ls' := [(0, .ref (G.2.1 0 0)), (1, .int (p1)), (2, .int (p2)), (3, .int (a3)), (4, .int (a4)), (6, .int (a6)), (7, .int (a7))]) [0, 1, 2, 3, 4, 6, 7] rfl ?_
    exact t9_reads_b135 (N := N) (p1 := p1) (p2 := p2) C R hk44 h
  · rw [if_pos c122] at h
    refine x_iload (j := 8) C dX9_reads_125 rfl ?_
    refine x_goto (tgt := 135) C dX9_reads_127 (by decide) ?_
    refine x_sub (ls' := [(0, .ref (G.2.1 0 0)), (1, .int (p1)), (2, .int (p2)), (3, .int (a3)), (4, .int (a4)), (6, .int (a6)), (7, .int (a7))]) [0, 1, 2, 3, 4, 6, 7] rfl ?_
    exact t9_reads_b135 (N := N) (p1 := p1) (p2 := p2) C R hk44 h
set_option maxRecDepth 100000 in
theorem t9_reads_l44b {M : xM} {G : xG} {N : Nat} {p1 : Int32} {p2 : Int32} (C : xC (M, G, mdom, 12) RX9 cX9_reads none) (R : xR (M, G, mdom, 12) = xrm 1 22) {k44 : Int32 → Int32 → Int32 → Int32 → Int32 → mS → Option (mS)} (hk44 : ∀ (a3 : Int32) (a4 : Int32) (a5 : Int32) (a6 : Int32) (a7 : Int32) (s : mS) (s1 : mS), k44 a3 a4 a5 a6 a7 s = some s1 → X (M, G, mdom, 12) none (encM G s1) (encM G s) 44 [(0, .ref (G.2.1 0 0)), (1, .int (p1)), (2, .int (p2)), (3, .int (a3)), (4, .int (a4)), (5, .int (a5)), (6, .int (a6)), (7, .int (a7))] []) {a3 : Int32} {a4 : Int32} {a5 : Int32} {a6 : Int32} {a7 : Int32} {s : mS} {s1 : mS} (h : f9_reads_l44b N p1 p2 k44 a3 a4 a5 a6 a7 s = some s1) : X (M, G, mdom, 12) none (encM G s1) (encM G s) 44 [(0, .ref (G.2.1 0 0)), (1, .int (p1)), (2, .int (p2)), (3, .int (a3)), (4, .int (a4)), (5, .int (a5)), (6, .int (a6)), (7, .int (a7))] [] := by
  unfold f9_reads_l44b at h
  refine x_iload (j := 7) C dX9_reads_44 rfl ?_
  refine x_iload_n (j := 3) C dX9_reads_46 rfl rfl ?_
  refine x_icmp_ge (tgt := 398) C dX9_reads_47 (by decide) (fun c47 => ?_) (fun c47 => ?_)
  · rw [if_pos c47] at h
    cases h
    exact x_vret C dX9_reads_398
  · rw [if_neg c47] at h
    refine x_aload_n (j := 0) C dX9_reads_50 rfl rfl ?_
    refine x_iload_n (j := 1) C dX9_reads_51 rfl rfl ?_
    refine x_iload (j := 7) C dX9_reads_52 rfl ?_
    obtain ⟨⟨r54, s54⟩, e54, h⟩ := Option.bind_eq_some_iff.mp h
    try dsimp only at h
    refine k9_85 C dX9_reads_54 e54 (x_room R rfl) (Nat.le_of_ble_eq_true rfl) ?_
    refine x_istore (i := 8) (ls' := [(8, .int (r54)), (0, .ref (G.2.1 0 0)), (1, .int (p1)), (2, .int (p2)), (3, .int (a3)), (4, .int (a4)), (5, .int (a5)), (6, .int (a6)), (7, .int (a7))]) C dX9_reads_57 (Nat.le_of_ble_eq_true rfl) rfl ?_
    refine x_aload_n (j := 1) C dX9_reads_59 rfl rfl ?_
    refine gf9_7 C dX9_reads_60 ?_
    refine x_iload (j := 0) C dX9_reads_63 rfl ?_
    by_cases g65_1 : inB r54 530 = true
    case neg => rw [if_neg g65_1] at h; cases h
    rw [if_pos g65_1] at h
    refine mld1 C dX9_reads_65 g65_1 ?_
    refine x_aload_n (j := 1) C dX9_reads_66 rfl rfl ?_
    refine gf9_7 C dX9_reads_67 ?_
    refine x_iload (j := 0) C dX9_reads_70 rfl ?_
    refine x_iconst (v := 1) C dX9_reads_72 (by decide) ?_
    refine x_iadd C dX9_reads_73 ?_
    by_cases g74_2 : inB (r54 + 1) 530 = true
    case neg => rw [if_neg g74_2] at h; cases h
    rw [if_pos g74_2] at h
    refine mld1 C dX9_reads_74 g74_2 ?_
    refine x_iadd C dX9_reads_75 ?_
    refine x_istore (i := 9) (ls' := [(9, .int (((s54 0 r54.toNatClampNeg) + (s54 0 ((r54 + 1).toNatClampNeg))))), (8, .int (r54)), (0, .ref (G.2.1 0 0)), (1, .int (p1)), (2, .int (p2)), (3, .int (a3)), (4, .int (a4)), (5, .int (a5)), (6, .int (a6)), (7, .int (a7))]) C dX9_reads_76 (Nat.le_of_ble_eq_true rfl) rfl ?_
    refine x_aload_n (j := 2) C dX9_reads_78 rfl rfl ?_
    refine gf9_7 C dX9_reads_79 ?_
    refine x_iload (j := 1) C dX9_reads_82 rfl ?_
    refine x_iconst (v := 2) C dX9_reads_84 (by decide) ?_
    refine x_iadd C dX9_reads_85 ?_
    by_cases g86_3 : inB (r54 + 2) 530 = true
    case neg => rw [if_neg g86_3] at h; cases h
    rw [if_pos g86_3] at h
    refine mld1 C dX9_reads_86 g86_3 ?_
    refine x_istore (i := 10) (ls' := [(10, .int ((s54 0 ((r54 + 2).toNatClampNeg)))), (9, .int (((s54 0 r54.toNatClampNeg) + (s54 0 ((r54 + 1).toNatClampNeg))))), (8, .int (r54)), (0, .ref (G.2.1 0 0)), (1, .int (p1)), (2, .int (p2)), (3, .int (a3)), (4, .int (a4)), (5, .int (a5)), (6, .int (a6)), (7, .int (a7))]) C dX9_reads_87 (Nat.le_of_ble_eq_true rfl) rfl ?_
    refine x_iconst (v := 0) C dX9_reads_89 (by decide) ?_
    refine x_istore (i := 11) (ls' := [(11, .int (0)), (10, .int ((s54 0 ((r54 + 2).toNatClampNeg)))), (9, .int (((s54 0 r54.toNatClampNeg) + (s54 0 ((r54 + 1).toNatClampNeg))))), (8, .int (r54)), (0, .ref (G.2.1 0 0)), (1, .int (p1)), (2, .int (p2)), (3, .int (a3)), (4, .int (a4)), (5, .int (a5)), (6, .int (a6)), (7, .int (a7))]) C dX9_reads_90 (Nat.le_of_ble_eq_true rfl) rfl ?_
    refine x_iload (j := 8) C dX9_reads_92 rfl ?_
    by_cases c94_0 : a4 = 0
    · rw [if_pos c94_0] at h
      refine x_tableIn (off := 26) (tgt := 120) C dX9_reads_94 (by rw [c94_0]; decide) (by rw [c94_0]; decide) (by rw [c94_0]; rfl) (by decide) ?_
      refine x_sub (ls' := [(0, .ref (G.2.1 0 0)), (1, .int (p1)), (2, .int (p2)), (3, .int (a3)), (4, .int (a4)), (5, .int (a5)), (6, .int (a6)), (7, .int (a7)), (9, .int (((s54 0 r54.toNatClampNeg) + (s54 0 ((r54 + 1).toNatClampNeg)))))]) [4, 5, 6, 7, 8, 9, 10, 11, 2] rfl ?_
      exact t9_reads_b120 (N := N) (p1 := p1) (p2 := p2) C R hk44 h
    rw [if_neg c94_0] at h
    by_cases c94_1 : a4 = 1
    · rw [if_pos c94_1] at h
      refine x_tableIn (off := 26) (tgt := 120) C dX9_reads_94 (by rw [c94_1]; decide) (by rw [c94_1]; decide) (by rw [c94_1]; rfl) (by decide) ?_
      refine x_sub (ls' := [(0, .ref (G.2.1 0 0)), (1, .int (p1)), (2, .int (p2)), (3, .int (a3)), (4, .int (a4)), (5, .int (a5)), (6, .int (a6)), (7, .int (a7)), (9, .int (((s54 0 r54.toNatClampNeg) + (s54 0 ((r54 + 1).toNatClampNeg)))))]) [4, 5, 6, 7, 8, 9, 10, 11, 2] rfl ?_
      exact t9_reads_b120 (N := N) (p1 := p1) (p2 := p2) C R hk44 h
    rw [if_neg c94_1] at h
    by_cases c94_2 : a4 = 2
    · rw [if_pos c94_2] at h
      refine x_tableIn (off := 109) (tgt := 203) C dX9_reads_94 (by rw [c94_2]; decide) (by rw [c94_2]; decide) (by rw [c94_2]; rfl) (by decide) ?_
      refine x_iload (j := 9) C dX9_reads_203 rfl ?_
      refine x_iload (j := 2) C dX9_reads_205 rfl ?_
      refine x_iadd C dX9_reads_207 ?_
      refine x_iload_n (j := 6) C dX9_reads_208 rfl rfl ?_
      refine x_icmp_gt (tgt := 216) C dX9_reads_209 (by decide) (fun c209 => ?_) (fun c209 => ?_)
      · rw [if_pos c209] at h
        refine x_iconst (v := 0) C dX9_reads_216 (by decide) ?_
        refine x_sub (ls' := [(0, .ref (G.2.1 0 0)), (1, .int (p1)), (2, .int (p2)), (3, .int (a3)), (4, .int (a4)), (5, .int (a5)), (6, .int (a6)), (7, .int (a7)), (9, .int (((s54 0 r54.toNatClampNeg) + (s54 0 ((r54 + 1).toNatClampNeg))))), (10, .int ((s54 0 ((r54 + 2).toNatClampNeg))))]) [4, 5, 6, 7, 8, 9, 10, 11, 2, 1] rfl ?_
        exact t9_reads_b217 (N := N) (p1 := p1) (p2 := p2) C R hk44 h
      · rw [if_neg c209] at h
        refine x_iconst (v := 1) C dX9_reads_212 (by decide) ?_
        refine x_goto (tgt := 217) C dX9_reads_213 (by decide) ?_
        refine x_sub (ls' := [(0, .ref (G.2.1 0 0)), (1, .int (p1)), (2, .int (p2)), (3, .int (a3)), (4, .int (a4)), (5, .int (a5)), (6, .int (a6)), (7, .int (a7)), (9, .int (((s54 0 r54.toNatClampNeg) + (s54 0 ((r54 + 1).toNatClampNeg))))), (10, .int ((s54 0 ((r54 + 2).toNatClampNeg))))]) [4, 5, 6, 7, 8, 9, 10, 11, 2, 1] rfl ?_
        exact t9_reads_b217 (N := N) (p1 := p1) (p2 := p2) C R hk44 h
    rw [if_neg c94_2] at h
    refine x_tableOut (tgt := 253) C dX9_reads_94 (by have qc94_0 := lv_neT c94_0 (a := 0) (by decide); have qc94_1 := lv_neT c94_1 (a := 1) (by decide); have qc94_2 := lv_neT c94_2 (a := 2) (by decide); omega) (by decide) ?_
    refine x_aload_n (j := 4) C dX9_reads_253 rfl rfl ?_
    refine gf9_97 C dX9_reads_254 ?_
    refine x_aload_n (j := 4) C dX9_reads_257 rfl rfl ?_
    refine gf9_7 C dX9_reads_258 ?_
    refine x_iload (j := 3) C dX9_reads_261 rfl ?_
    refine x_iconst (v := 3) C dX9_reads_263 (by decide) ?_
    refine x_iadd C dX9_reads_264 ?_
    by_cases g265_4 : inB (r54 + 3) 530 = true
    case neg => rw [if_neg g265_4] at h; cases h
    rw [if_pos g265_4] at h
    refine mld1 C dX9_reads_265 g265_4 ?_
    refine x_icmp_lt (tgt := 273) C dX9_reads_266 (by decide) (fun c266 => ?_) (fun c266 => ?_)
    · rw [if_pos c266] at h
      refine x_iconst (v := 0) C dX9_reads_273 (by decide) ?_
      refine x_sub (ls' := [(0, .ref (G.2.1 0 0)), (1, .int (p1)), (2, .int (p2)), (3, .int (a3)), (4, .int (a4)), (5, .int (a5)), (6, .int (a6)), (7, .int (a7)), (9, .int (((s54 0 r54.toNatClampNeg) + (s54 0 ((r54 + 1).toNatClampNeg))))), (10, .int ((s54 0 ((r54 + 2).toNatClampNeg))))]) [4, 5, 6, 7, 8, 9, 10, 11, 2, 1] rfl ?_
      exact t9_reads_b274 (N := N) (p1 := p1) (p2 := p2) C R hk44 h
    · rw [if_neg c266] at h
      refine x_iconst (v := 1) C dX9_reads_269 (by decide) ?_
      refine x_goto (tgt := 274) C dX9_reads_270 (by decide) ?_
      refine x_sub (ls' := [(0, .ref (G.2.1 0 0)), (1, .int (p1)), (2, .int (p2)), (3, .int (a3)), (4, .int (a4)), (5, .int (a5)), (6, .int (a6)), (7, .int (a7)), (9, .int (((s54 0 r54.toNatClampNeg) + (s54 0 ((r54 + 1).toNatClampNeg))))), (10, .int ((s54 0 ((r54 + 2).toNatClampNeg))))]) [4, 5, 6, 7, 8, 9, 10, 11, 2, 1] rfl ?_
      exact t9_reads_b274 (N := N) (p1 := p1) (p2 := p2) C R hk44 h
theorem t9_reads_l44 {M : xM} {G : xG} {N : Nat} {p1 : Int32} {p2 : Int32} (C : xC (M, G, mdom, 12) RX9 cX9_reads none) (R : xR (M, G, mdom, 12) = xrm 1 22) (n : Nat) : ∀ (a3 : Int32) (a4 : Int32) (a5 : Int32) (a6 : Int32) (a7 : Int32) (s : mS) (s1 : mS), f9_reads_l44 N p1 p2 n a3 a4 a5 a6 a7 s = some s1 → X (M, G, mdom, 12) none (encM G s1) (encM G s) 44 [(0, .ref (G.2.1 0 0)), (1, .int (p1)), (2, .int (p2)), (3, .int (a3)), (4, .int (a4)), (5, .int (a5)), (6, .int (a6)), (7, .int (a7))] [] := by
  induction n with
  | zero => intro a3 a4 a5 a6 a7 s s1 h; exact (Option.some_ne_none _ (Eq.symm h)).elim
  | succ n ih => intro a3 a4 a5 a6 a7 s s1 h; exact t9_reads_l44b (N := N) (p1 := p1) (p2 := p2) C R (k44 := f9_reads_l44 N p1 p2 n) ih h
set_option maxRecDepth 100000 in
theorem t9_reads {M : xM} {G : xG} {N : Nat} {p1 : Int32} {p2 : Int32} (C : xC (M, G, mdom, 12) RX9 cX9_reads none) (R : xR (M, G, mdom, 12) = xrm 1 22) {s : mS} {s1 : mS} (h : f9_reads N p1 p2 s = some s1) : X (M, G, mdom, 12) none (encM G s1) (encM G s) 0 [(0, .ref (G.2.1 0 0)), (1, .int (p1)), (2, .int (p2))] [] := by
  unfold f9_reads at h
  refine x_aload_n (j := 0) C dX9_reads_0 rfl rfl ?_
  refine gf9_7 C dX9_reads_1 ?_
  refine x_bipush (v := 10) C dX9_reads_4 (by decide) ?_
  refine x_iload_n (j := 1) C dX9_reads_6 rfl rfl ?_
  refine x_iadd C dX9_reads_7 ?_
  by_cases g8_1 : inB (10 + p1) 530 = true
  case neg => rw [if_neg g8_1] at h; cases h
  rw [if_pos g8_1] at h
  refine mld1 C dX9_reads_8 g8_1 ?_
  refine x_istore_n (i := 3) (ls' := [(3, .int ((s 0 ((10 + p1).toNatClampNeg)))), (0, .ref (G.2.1 0 0)), (1, .int (p1)), (2, .int (p2))]) C dX9_reads_9 rfl (Nat.le_of_ble_eq_true rfl) rfl ?_
  refine x_aload_n (j := 1) C dX9_reads_10 rfl rfl ?_
  refine gf9_7 C dX9_reads_11 ?_
  refine x_iconst (v := 2) C dX9_reads_14 (by decide) ?_
  refine x_iload_n (j := 2) C dX9_reads_15 rfl rfl ?_
  refine x_iadd C dX9_reads_16 ?_
  by_cases g17_2 : inB (2 + p1) 530 = true
  case neg => rw [if_neg g17_2] at h; cases h
  rw [if_pos g17_2] at h
  refine mld1 C dX9_reads_17 g17_2 ?_
  refine x_istore (i := 4) (ls' := [(4, .int ((s 0 ((2 + p1).toNatClampNeg)))), (3, .int ((s 0 ((10 + p1).toNatClampNeg)))), (0, .ref (G.2.1 0 0)), (1, .int (p1)), (2, .int (p2))]) C dX9_reads_18 (Nat.le_of_ble_eq_true rfl) rfl ?_
  refine x_aload_n (j := 2) C dX9_reads_20 rfl rfl ?_
  refine x_iconst (v := 0) C dX9_reads_21 (by decide) ?_
  refine pf9_91 C dX9_reads_22 ?_
  refine x_aload_n (j := 2) C dX9_reads_25 rfl rfl ?_
  refine x_iconst (v := 0) C dX9_reads_26 (by decide) ?_
  refine pf9_94 C dX9_reads_27 ?_
  refine x_aload_n (j := 2) C dX9_reads_30 rfl rfl ?_
  refine x_iload_n (j := 4) C dX9_reads_31 rfl rfl ?_
  refine pf9_97 C dX9_reads_32 ?_
  refine x_iconst (v := 0) C dX9_reads_35 (by decide) ?_
  refine x_istore (i := 5) (ls' := [(5, .int (0)), (4, .int ((s 0 ((2 + p1).toNatClampNeg)))), (3, .int ((s 0 ((10 + p1).toNatClampNeg)))), (0, .ref (G.2.1 0 0)), (1, .int (p1)), (2, .int (p2))]) C dX9_reads_36 (Nat.le_of_ble_eq_true rfl) rfl ?_
  refine x_iconst (v := 0) C dX9_reads_38 (by decide) ?_
  refine x_istore (i := 6) (ls' := [(6, .int (0)), (5, .int (0)), (4, .int ((s 0 ((2 + p1).toNatClampNeg)))), (3, .int ((s 0 ((10 + p1).toNatClampNeg)))), (0, .ref (G.2.1 0 0)), (1, .int (p1)), (2, .int (p2))]) C dX9_reads_39 (Nat.le_of_ble_eq_true rfl) rfl ?_
  refine x_iconst (v := 0) C dX9_reads_41 (by decide) ?_
  refine x_istore (i := 7) (ls' := [(7, .int (0)), (6, .int (0)), (5, .int (0)), (4, .int ((s 0 ((2 + p1).toNatClampNeg)))), (3, .int ((s 0 ((10 + p1).toNatClampNeg)))), (0, .ref (G.2.1 0 0)), (1, .int (p1)), (2, .int (p2))]) C dX9_reads_42 (Nat.le_of_ble_eq_true rfl) rfl ?_
  refine x_sub (ls' := [(0, .ref (G.2.1 0 0)), (1, .int (p1)), (2, .int (p2)), (3, .int ((s 0 ((10 + p1).toNatClampNeg)))), (4, .int ((s 0 ((2 + p1).toNatClampNeg)))), (5, .int (0)), (6, .int (0)), (7, .int (0))]) [5, 6, 7, 4, 3, 2, 1, 0] rfl ?_
  exact t9_reads_l44 (N := N) (p1 := p1) (p2 := p2) C R N _ _ _ _ _ _ _ h
theorem c9_reads (l : Launch) (G : xG) {N : Nat} {p1 : Int32} {p2 : Int32} {s : mS} {s1 : mS} (h : f9_reads N p1 p2 s = some s1) : xMet l yX9_reads (x_ws yX9_reads cX9_reads 12 none) (xrm 1 22) G mdom [.ref (G.2.1 0 0), .int (p1), .int (p2)] (encM G s) none (encM G s1) := by
  refine xMet.of (by decide +kernel) (Nat.le_of_ble_eq_true rfl) ?_
  rintro ⟨M, G', dom', n'⟩ e1 R e3 e4 e5 C
  change G' = G at e3; change dom' = mdom at e4; change n' = 12 at e5
  subst e3; subst e4; subst e5
  exact t9_reads C R h
