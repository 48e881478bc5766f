set_option maxRecDepth 100000 in
theorem t8_still {M : xM} {G : xG} {N : Nat}  (C : xC (M, G, cdom, 2) RX8 cX8_still (some .int)) (R : xR (M, G, cdom, 2) = xrm 0 0) {s : cS} {r : Int32} {s1 : cS} (h : f8_still N s = some (r, s1)) : X (M, G, cdom, 2) (some (.int r)) (encC G s1) (encC G s) 0 [(0, .ref (G.2.1 0 0))] [] := by
  unfold f8_still at h
  refine x_aload_n (j := 0) C dX8_still_0 rfl rfl ?_
  refine gf8_25 C dX8_still_1 ?_
  refine gf8_210 C dX8_still_4 ?_
  refine x_istore_n (i := 1) (ls' := [(1, .int ((s.1 16 0))), (0, .ref (G.2.1 0 0))]) C dX8_still_7 rfl (Nat.le_of_ble_eq_true rfl) rfl ?_
  refine x_aload_n (j := 1) C dX8_still_8 rfl rfl ?_
  refine gf8_25 C dX8_still_9 ?_
  refine x_iconst (v := 0) C dX8_still_12 (by decide) ?_
  refine pf8_210 C dX8_still_13 ?_
  refine x_iload_n (j := 0) C dX8_still_16 rfl rfl ?_
  cases h
  exact x_iret C dX8_still_17
theorem c8_still (l : Launch) (G : xG) {N : Nat}  {s : cS} {r : Int32} {s1 : cS} (h : f8_still N s = some (r, s1)) : xMet l yX8_still (x_ws yX8_still cX8_still 2 (some .int)) (xrm 0 0) G cdom [.ref (G.2.1 0 0)] (encC G s) (some (.int r)) (encC G s1) := by
  refine xMet.of (by decide +kernel) (Nat.le_of_ble_eq_true rfl) ?_
  rintro ⟨M, G', dom', n'⟩ e1 R e3 e4 e5 C
  change G' = G at e3; change dom' = cdom at e4; change n' = 2 at e5
  subst e3; subst e4; subst e5
  exact t8_still C R h
theorem k4_31 {M : xM} {G : xG} {n : Nat} {rv : Option Value} {E' : xE} {cc : ByteArray} {ret : Option FieldType} {pc : Nat} {ls : List (Nat × Value)} {st : List Value} {N : Nat} {o : Nat} {p1 : Int32} {s s1 : cS} {r : Int32} (C : xC (M, G, cdom, n) RX4 cc ret) (d : decode cc pc = .ok (.invokevirtual 31, 3)) (h : f3_codeOf N o p1 s = some (r, s1)) (ho : o < 8) (hR : (xrm 2 45).frames + 1 ≤ (xR (M, G, cdom, n)).frames ∧ 8 + (2 + 11) + (xrm 2 45).locals ≤ (xR (M, G, cdom, n)).locals) (hw : (st.map fun v => v.category).sum ≤ 8) (k : X (M, G, cdom, n) rv E' (encC G s1) (pc + 3) ls (.int r :: st)) : X (M, G, cdom, n) rv E' (encC G s) pc ls (.int (p1) :: .ref (G.2.1 2 o) :: st) :=
  x_callVN (As := [.int (p1)]) (n := 1) C d (c3_codeOf (xl (M, G, cdom, n)) G ho h) lk602 lk410 lk12 lk84 lk411 ⟨rfl, rfl⟩ ⟨by decide +kernel, by decide +kernel, by decide +kernel⟩ rfl hR (decide_eq_true ho) rfl rfl rfl hw k
set_option maxRecDepth 100000 in
theorem t4_weighedCodes_l6b {M : xM} {G : xG} {N : Nat} {p1 : Nat} {p2 : Int32} {p3 : Int32} (C : xC (M, G, cdom, 7) RX4 cX4_weighedCodes (some .int)) (R : xR (M, G, cdom, 7) = xrm 3 66) {k6 : Int32 → Int32 → cS → Option (Int32 × cS)} (hk6 : ∀ (a4 : Int32) (a5 : Int32) (s : cS) (r : Int32) (s1 : cS), k6 a4 a5 s = some (r, s1) → X (M, G, cdom, 7) (some (.int r)) (encC G s1) (encC G s) 6 [(0, .ref (G.2.1 8 0)), (1, .ref (G.2.1 2 p1)), (2, .int (p2)), (3, .int (p3)), (4, .int (a4)), (5, .int (a5))] []) {a4 : Int32} {a5 : Int32} {s : cS} {r : Int32} {s1 : cS} (h : f4_weighedCodes_l6b N p1 p2 p3 k6 a4 a5 s = some (r, s1)) : X (M, G, cdom, 7) (some (.int r)) (encC G s1) (encC G s) 6 [(0, .ref (G.2.1 8 0)), (1, .ref (G.2.1 2 p1)), (2, .int (p2)), (3, .int (p3)), (4, .int (a4)), (5, .int (a5))] [] := by
  unfold f4_weighedCodes_l6b at h
  refine x_iload (j := 5) C dX4_weighedCodes_6 rfl ?_
  refine x_aload_n (j := 0) C dX4_weighedCodes_8 rfl rfl ?_
  refine gf4_18 C dX4_weighedCodes_9 ?_
  refine x_icmp_ge (tgt := 79) C dX4_weighedCodes_12 (by decide) (fun c12 => ?_) (fun c12 => ?_)
  · rw [if_pos c12] at h
    refine x_iload (j := 4) C dX4_weighedCodes_79 rfl ?_
    cases h
    exact x_iret C dX4_weighedCodes_81
  · rw [if_neg c12] at h
    refine x_iload (j := 5) C dX4_weighedCodes_15 rfl ?_
    refine x_aload_n (j := 0) C dX4_weighedCodes_17 rfl rfl ?_
    refine gf4_9 C dX4_weighedCodes_18 ?_
    refine cal9 C dX4_weighedCodes_21 ?_
    refine x_icmp_ge (tgt := 79) C dX4_weighedCodes_22 (by decide) (fun c22 => ?_) (fun c22 => ?_)
    · rw [if_pos c22] at h
      refine x_iload (j := 4) C dX4_weighedCodes_79 rfl ?_
      cases h
      exact x_iret C dX4_weighedCodes_81
    · rw [if_neg c22] at h
      refine x_iload (j := 5) C dX4_weighedCodes_25 rfl ?_
      refine x_aload_n (j := 0) C dX4_weighedCodes_27 rfl rfl ?_
      refine gf4_15 C dX4_weighedCodes_28 ?_
      refine cal10 C dX4_weighedCodes_31 ?_
      refine x_icmp_ge (tgt := 79) C dX4_weighedCodes_32 (by decide) (fun c32 => ?_) (fun c32 => ?_)
      · rw [if_pos c32] at h
        refine x_iload (j := 4) C dX4_weighedCodes_79 rfl ?_
        cases h
        exact x_iret C dX4_weighedCodes_81
      · rw [if_neg c32] at h
        refine x_iconst (v := 0) C dX4_weighedCodes_35 (by decide) ?_
        refine x_iload_n (j := 3) C dX4_weighedCodes_36 rfl rfl ?_
        refine x_iload_n (j := 2) C dX4_weighedCodes_37 rfl rfl ?_
        refine x_aload_n (j := 0) C dX4_weighedCodes_38 rfl rfl ?_
        refine gf4_9 C dX4_weighedCodes_39 ?_
        refine x_iload (j := 5) C dX4_weighedCodes_42 rfl ?_
        by_cases g44_1 : inB a5 8 = true
        case neg => rw [if_neg g44_1] at h; cases h
        rw [if_pos g44_1] at h
        refine cld9 C dX4_weighedCodes_44 g44_1 ?_
        refine x_iadd C dX4_weighedCodes_45 ?_
        refine x_min C dX4_weighedCodes_46 lk600 lk332 lk88 lk333 (x_rf R rfl) (x_rl R rfl) ?_
        refine x_max C dX4_weighedCodes_49 lk601 lk427 lk88 lk428 (x_rf R rfl) (x_rl R rfl) ?_
        refine x_istore (i := 6) (ls' := [(6, .int ((jmax 0 (jmin p3 (p2 + (s.1 17 a5.toNatClampNeg)))))), (0, .ref (G.2.1 8 0)), (1, .ref (G.2.1 2 p1)), (2, .int (p2)), (3, .int (p3)), (4, .int (a4)), (5, .int (a5))]) C dX4_weighedCodes_52 (Nat.le_of_ble_eq_true rfl) rfl ?_
        refine x_iload (j := 5) C dX4_weighedCodes_54 rfl ?_
        refine x_aload_n (j := 1) C dX4_weighedCodes_56 rfl rfl ?_
        refine gf4_15 C dX4_weighedCodes_57 ?_
        refine x_iload (j := 6) C dX4_weighedCodes_60 rfl ?_
        refine cld10 C dX4_weighedCodes_62 g44_1 ?_
        refine x_aload_n (j := 2) C dX4_weighedCodes_63 rfl rfl ?_
        refine x_iload (j := 0) C dX4_weighedCodes_64 rfl ?_
        by_cases g66_2 : p1 < 8
        case neg => rw [if_neg g66_2] at h; cases h
        rw [if_pos g66_2] at h
        obtain ⟨⟨r66, s66⟩, e66, h⟩ := Option.bind_eq_some_iff.mp h
        try dsimp only at h
        refine k4_31 C dX4_weighedCodes_66 e66 g66_2 (x_room R rfl) (Nat.le_of_ble_eq_true rfl) ?_
        refine x_imul C dX4_weighedCodes_69 ?_
        refine x_iadd C dX4_weighedCodes_70 ?_
        refine x_istore (i := 4) (ls' := [(4, .int ((a4 + ((s.1 18 a5.toNatClampNeg) * r66)))), (6, .int ((jmax 0 (jmin p3 (p2 + (s.1 17 a5.toNatClampNeg)))))), (0, .ref (G.2.1 8 0)), (1, .ref (G.2.1 2 p1)), (2, .int (p2)), (3, .int (p3)), (5, .int (a5))]) C dX4_weighedCodes_71 (Nat.le_of_ble_eq_true rfl) rfl ?_
        refine x_iinc (j := 6) (v := (a5 + 1)) (ls' := [(5, .int ((a5 + 1))), (4, .int ((a4 + ((s.1 18 a5.toNatClampNeg) * r66)))), (6, .int ((jmax 0 (jmin p3 (p2 + (s.1 17 a5.toNatClampNeg)))))), (0, .ref (G.2.1 8 0)), (1, .ref (G.2.1 2 p1)), (2, .int (p2)), (3, .int (p3))]) C dX4_weighedCodes_73 rfl rfl (Nat.le_of_ble_eq_true rfl) rfl ?_
        refine x_goto (tgt := 6) C dX4_weighedCodes_76 (by decide) ?_
        refine x_sub (ls' := [(0, .ref (G.2.1 8 0)), (1, .ref (G.2.1 2 p1)), (2, .int (p2)), (3, .int (p3)), (4, .int ((a4 + ((s.1 18 a5.toNatClampNeg) * r66)))), (5, .int ((a5 + 1)))]) [3, 4, 5, 6, 1, 0] rfl ?_
        exact hk6 _ _ _ _ _ h
theorem t4_weighedCodes_l6 {M : xM} {G : xG} {N : Nat} {p1 : Nat} {p2 : Int32} {p3 : Int32} (C : xC (M, G, cdom, 7) RX4 cX4_weighedCodes (some .int)) (R : xR (M, G, cdom, 7) = xrm 3 66) (n : Nat) : ∀ (a4 : Int32) (a5 : Int32) (s : cS) (r : Int32) (s1 : cS), f4_weighedCodes_l6 N p1 p2 p3 n a4 a5 s = some (r, s1) → X (M, G, cdom, 7) (some (.int r)) (encC G s1) (encC G s) 6 [(0, .ref (G.2.1 8 0)), (1, .ref (G.2.1 2 p1)), (2, .int (p2)), (3, .int (p3)), (4, .int (a4)), (5, .int (a5))] [] := by
  induction n with
  | zero => intro a4 a5 s r s1 h; exact (Option.some_ne_none _ (Eq.symm h)).elim
  | succ n ih => intro a4 a5 s r s1 h; exact t4_weighedCodes_l6b (N := N) (p1 := p1) (p2 := p2) (p3 := p3) C R (k6 := f4_weighedCodes_l6 N p1 p2 p3 n) ih h
set_option maxRecDepth 100000 in
theorem t4_weighedCodes {M : xM} {G : xG} {N : Nat} {p1 : Nat} {p2 : Int32} {p3 : Int32} (C : xC (M, G, cdom, 7) RX4 cX4_weighedCodes (some .int)) (R : xR (M, G, cdom, 7) = xrm 3 66) {s : cS} {r : Int32} {s1 : cS} (h : f4_weighedCodes N p1 p2 p3 s = some (r, s1)) : X (M, G, cdom, 7) (some (.int r)) (encC G s1) (encC G s) 0 [(0, .ref (G.2.1 8 0)), (1, .ref (G.2.1 2 p1)), (2, .int (p2)), (3, .int (p3))] [] := by
  unfold f4_weighedCodes at h
  refine x_iconst (v := 0) C dX4_weighedCodes_0 (by decide) ?_
  refine x_istore (i := 4) (ls' := [(4, .int (0)), (0, .ref (G.2.1 8 0)), (1, .ref (G.2.1 2 p1)), (2, .int (p2)), (3, .int (p3))]) C dX4_weighedCodes_1 (Nat.le_of_ble_eq_true rfl) rfl ?_
  refine x_iconst (v := 0) C dX4_weighedCodes_3 (by decide) ?_
  refine x_istore (i := 5) (ls' := [(5, .int (0)), (4, .int (0)), (0, .ref (G.2.1 8 0)), (1, .ref (G.2.1 2 p1)), (2, .int (p2)), (3, .int (p3))]) C dX4_weighedCodes_4 (Nat.le_of_ble_eq_true rfl) rfl ?_
  refine x_sub (ls' := [(0, .ref (G.2.1 8 0)), (1, .ref (G.2.1 2 p1)), (2, .int (p2)), (3, .int (p3)), (4, .int (0)), (5, .int (0))]) [2, 3, 4, 5, 1, 0] rfl ?_
  exact t4_weighedCodes_l6 (N := N) (p1 := p1) (p2 := p2) (p3 := p3) C R N _ _ _ _ _ h
theorem c4_weighedCodes (l : Launch) (G : xG) {N : Nat} {p1 : Nat} {p2 : Int32} {p3 : Int32} {s : cS} {r : Int32} {s1 : cS} (h : f4_weighedCodes N p1 p2 p3 s = some (r, s1)) : xMet l yX4_weighedCodes (x_ws yX4_weighedCodes cX4_weighedCodes 7 (some .int)) (xrm 3 66) G cdom [.ref (G.2.1 8 0), .ref (G.2.1 2 p1), .int (p2), .int (p3)] (encC G s) (some (.int r)) (encC G s1) := by
  refine xMet.of (by decide +kernel) (Nat.le_of_ble_eq_true rfl) ?_
  rintro ⟨M, G', dom', n'⟩ e1 R e3 e4 e5 C
  change G' = G at e3; change dom' = cdom at e4; change n' = 7 at e5
  subst e3; subst e4; subst e5
  exact t4_weighedCodes C R h
set_option maxRecDepth 100000 in
theorem t4_timesTogether_l4b {M : xM} {G : xG} {N : Nat}  (C : xC (M, G, cdom, 3) RX4 cX4_timesTogether (some .int)) (R : xR (M, G, cdom, 3) = xrm 0 0) {k4 : Int32 → Int32 → cS → Option (Int32 × cS)} (hk4 : ∀ (a1 : Int32) (a2 : Int32) (s : cS) (r : Int32) (s1 : cS), k4 a1 a2 s = some (r, s1) → X (M, G, cdom, 3) (some (.int r)) (encC G s1) (encC G s) 4 [(0, .ref (G.2.1 8 0)), (1, .int (a1)), (2, .int (a2))] []) {a1 : Int32} {a2 : Int32} {s : cS} {r : Int32} {s1 : cS} (h : f4_timesTogether_l4b N k4 a1 a2 s = some (r, s1)) : X (M, G, cdom, 3) (some (.int r)) (encC G s1) (encC G s) 4 [(0, .ref (G.2.1 8 0)), (1, .int (a1)), (2, .int (a2))] [] := by
  unfold f4_timesTogether_l4b at h
  refine x_iload_n (j := 2) C dX4_timesTogether_4 rfl rfl ?_
  refine x_aload_n (j := 0) C dX4_timesTogether_5 rfl rfl ?_
  refine gf4_18 C dX4_timesTogether_6 ?_
  refine x_icmp_ge (tgt := 36) C dX4_timesTogether_9 (by decide) (fun c9 => ?_) (fun c9 => ?_)
  · rw [if_pos c9] at h
    refine x_iload_n (j := 1) C dX4_timesTogether_36 rfl rfl ?_
    cases h
    exact x_iret C dX4_timesTogether_37
  · rw [if_neg c9] at h
    refine x_iload_n (j := 2) C dX4_timesTogether_12 rfl rfl ?_
    refine x_aload_n (j := 0) C dX4_timesTogether_13 rfl rfl ?_
    refine gf4_15 C dX4_timesTogether_14 ?_
    refine cal10 C dX4_timesTogether_17 ?_
    refine x_icmp_ge (tgt := 36) C dX4_timesTogether_18 (by decide) (fun c18 => ?_) (fun c18 => ?_)
    · rw [if_pos c18] at h
      refine x_iload_n (j := 1) C dX4_timesTogether_36 rfl rfl ?_
      cases h
      exact x_iret C dX4_timesTogether_37
    · rw [if_neg c18] at h
      refine x_iload_n (j := 1) C dX4_timesTogether_21 rfl rfl ?_
      refine x_aload_n (j := 0) C dX4_timesTogether_22 rfl rfl ?_
      refine gf4_15 C dX4_timesTogether_23 ?_
      refine x_iload_n (j := 2) C dX4_timesTogether_26 rfl rfl ?_
      by_cases g27_1 : inB a2 8 = true
      case neg => rw [if_neg g27_1] at h; cases h
      rw [if_pos g27_1] at h
      refine cld10 C dX4_timesTogether_27 g27_1 ?_
      refine x_iadd C dX4_timesTogether_28 ?_
      refine x_istore_n (i := 1) (ls' := [(1, .int ((a1 + (s.1 18 a2.toNatClampNeg)))), (0, .ref (G.2.1 8 0)), (2, .int (a2))]) C dX4_timesTogether_29 rfl (Nat.le_of_ble_eq_true rfl) rfl ?_
      refine x_iinc (j := 2) (v := (a2 + 1)) (ls' := [(2, .int ((a2 + 1))), (1, .int ((a1 + (s.1 18 a2.toNatClampNeg)))), (0, .ref (G.2.1 8 0))]) C dX4_timesTogether_30 rfl rfl (Nat.le_of_ble_eq_true rfl) rfl ?_
      refine x_goto (tgt := 4) C dX4_timesTogether_33 (by decide) ?_
      refine x_sub (ls' := [(0, .ref (G.2.1 8 0)), (1, .int ((a1 + (s.1 18 a2.toNatClampNeg)))), (2, .int ((a2 + 1)))]) [2, 1, 0] rfl ?_
      exact hk4 _ _ _ _ _ h
theorem t4_timesTogether_l4 {M : xM} {G : xG} {N : Nat}  (C : xC (M, G, cdom, 3) RX4 cX4_timesTogether (some .int)) (R : xR (M, G, cdom, 3) = xrm 0 0) (n : Nat) : ∀ (a1 : Int32) (a2 : Int32) (s : cS) (r : Int32) (s1 : cS), f4_timesTogether_l4 N n a1 a2 s = some (r, s1) → X (M, G, cdom, 3) (some (.int r)) (encC G s1) (encC G s) 4 [(0, .ref (G.2.1 8 0)), (1, .int (a1)), (2, .int (a2))] [] := by
  induction n with
  | zero => intro a1 a2 s r s1 h; exact (Option.some_ne_none _ (Eq.symm h)).elim
  | succ n ih => intro a1 a2 s r s1 h; exact t4_timesTogether_l4b (N := N) C R (k4 := f4_timesTogether_l4 N n) ih h
set_option maxRecDepth 100000 in
theorem t4_timesTogether {M : xM} {G : xG} {N : Nat}  (C : xC (M, G, cdom, 3) RX4 cX4_timesTogether (some .int)) (R : xR (M, G, cdom, 3) = xrm 0 0) {s : cS} {r : Int32} {s1 : cS} (h : f4_timesTogether N s = some (r, s1)) : X (M, G, cdom, 3) (some (.int r)) (encC G s1) (encC G s) 0 [(0, .ref (G.2.1 8 0))] [] := by
  unfold f4_timesTogether at h
  refine x_iconst (v := 0) C dX4_timesTogether_0 (by decide) ?_
  refine x_istore_n (i := 1) (ls' := [(1, .int (0)), (0, .ref (G.2.1 8 0))]) C dX4_timesTogether_1 rfl (Nat.le_of_ble_eq_true rfl) rfl ?_
  refine x_iconst (v := 0) C dX4_timesTogether_2 (by decide) ?_
  refine x_istore_n (i := 2) (ls' := [(2, .int (0)), (1, .int (0)), (0, .ref (G.2.1 8 0))]) C dX4_timesTogether_3 rfl (Nat.le_of_ble_eq_true rfl) rfl ?_
  refine x_sub (ls' := [(0, .ref (G.2.1 8 0)), (1, .int (0)), (2, .int (0))]) [2, 1, 0] rfl ?_
  exact t4_timesTogether_l4 (N := N) C R N _ _ _ _ _ h
theorem c4_timesTogether (l : Launch) (G : xG) {N : Nat}  {s : cS} {r : Int32} {s1 : cS} (h : f4_timesTogether N s = some (r, s1)) : xMet l yX4_timesTogether (x_ws yX4_timesTogether cX4_timesTogether 3 (some .int)) (xrm 0 0) G cdom [.ref (G.2.1 8 0)] (encC G s) (some (.int r)) (encC G s1) := by
  refine xMet.of (by decide +kernel) (Nat.le_of_ble_eq_true rfl) ?_
  rintro ⟨M, G', dom', n'⟩ e1 R e3 e4 e5 C
  change G' = G at e3; change dom' = cdom at e4; change n' = 3 at e5
  subst e3; subst e4; subst e5
  exact t4_timesTogether C R h
set_option maxRecDepth 100000 in
theorem t8_commonDivisor_l13b {M : xM} {G : xG} {N : Nat} {p0 : Int32} {p1 : Int32} (C : xC (M, G, cdom, 6) RX8 cX8_commonDivisor (some .int)) (R : xR (M, G, cdom, 6) = xrm 1 21) {k13 : Int32 → Int32 → Int32 → cS → Option (Int32 × cS)} (hk13 : ∀ (a2 : Int32) (a3 : Int32) (a4 : Int32) (s : cS) (r : Int32) (s1 : cS), k13 a2 a3 a4 s = some (r, s1) → X (M, G, cdom, 6) (some (.int r)) (encC G s1) (encC G s) 13 [(2, .int (a2)), (3, .int (a3)), (4, .int (a4))] []) {a2 : Int32} {a3 : Int32} {a4 : Int32} {s : cS} {r : Int32} {s1 : cS} (h : f8_commonDivisor_l13b N p0 p1 k13 a2 a3 a4 s = some (r, s1)) : X (M, G, cdom, 6) (some (.int r)) (encC G s1) (encC G s) 13 [(2, .int (a2)), (3, .int (a3)), (4, .int (a4))] [] := by
  unfold f8_commonDivisor_l13b at h
  refine x_iload (j := 2) C dX8_commonDivisor_13 rfl ?_
  refine x_bipush (v := 100) C dX8_commonDivisor_15 (by decide) ?_
  refine x_icmp_ge (tgt := 40) C dX8_commonDivisor_17 (by decide) (fun c17 => ?_) (fun c17 => ?_)
  · rw [if_pos c17] at h
    refine x_iload_n (j := 0) C dX8_commonDivisor_40 rfl rfl ?_
    cases h
    exact x_iret C dX8_commonDivisor_41
  · rw [if_neg c17] at h
    refine x_iload_n (j := 1) C dX8_commonDivisor_20 rfl rfl ?_
    refine x_if_eq (tgt := 40) C dX8_commonDivisor_21 (by decide) (fun c21 => ?_) (fun c21 => ?_)
    · rw [if_pos c21] at h
      refine x_iload_n (j := 0) C dX8_commonDivisor_40 rfl rfl ?_
      cases h
      exact x_iret C dX8_commonDivisor_41
    · rw [if_neg c21] at h
      refine x_iload_n (j := 0) C dX8_commonDivisor_24 rfl rfl ?_
      refine x_iload_n (j := 1) C dX8_commonDivisor_25 rfl rfl ?_
      by_cases g26 : a3 = 0
      · rw [if_pos g26] at h; cases h
      rw [if_neg g26] at h
      refine x_irem C dX8_commonDivisor_26 g26 ?_
      refine x_istore (i := 5) (ls' := [(5, .int ((a2 - a2 / a3 * a3))), (2, .int (a2)), (3, .int (a3)), (4, .int (a4))]) C dX8_commonDivisor_27 (Nat.le_of_ble_eq_true rfl) rfl ?_
      refine x_iload_n (j := 2) C dX8_commonDivisor_29 rfl rfl ?_
      refine x_istore_n (i := 2) (ls' := [(2, .int (a3)), (5, .int ((a2 - a2 / a3 * a3))), (3, .int (a3)), (4, .int (a4))]) C dX8_commonDivisor_30 rfl (Nat.le_of_ble_eq_true rfl) rfl ?_
      refine x_iload (j := 1) C dX8_commonDivisor_31 rfl ?_
      refine x_istore_n (i := 3) (ls' := [(3, .int ((a2 - a2 / a3 * a3))), (2, .int (a3)), (5, .int ((a2 - a2 / a3 * a3))), (4, .int (a4))]) C dX8_commonDivisor_33 rfl (Nat.le_of_ble_eq_true rfl) rfl ?_
      refine x_iinc (j := 3) (v := (a4 + 1)) (ls' := [(4, .int ((a4 + 1))), (3, .int ((a2 - a2 / a3 * a3))), (2, .int (a3)), (5, .int ((a2 - a2 / a3 * a3)))]) C dX8_commonDivisor_34 rfl rfl (Nat.le_of_ble_eq_true rfl) rfl ?_
      refine x_goto (tgt := 13) C dX8_commonDivisor_37 (by decide) ?_
      refine x_sub (ls' := [(2, .int (a3)), (3, .int ((a2 - a2 / a3 * a3))), (4, .int ((a4 + 1)))]) [2, 1, 0] rfl ?_
      exact hk13 _ _ _ _ _ _ h
theorem t8_commonDivisor_l13 {M : xM} {G : xG} {N : Nat} {p0 : Int32} {p1 : Int32} (C : xC (M, G, cdom, 6) RX8 cX8_commonDivisor (some .int)) (R : xR (M, G, cdom, 6) = xrm 1 21) (n : Nat) : ∀ (a2 : Int32) (a3 : Int32) (a4 : Int32) (s : cS) (r : Int32) (s1 : cS), f8_commonDivisor_l13 N p0 p1 n a2 a3 a4 s = some (r, s1) → X (M, G, cdom, 6) (some (.int r)) (encC G s1) (encC G s) 13 [(2, .int (a2)), (3, .int (a3)), (4, .int (a4))] [] := by
  induction n with
  | zero => intro a2 a3 a4 s r s1 h; exact (Option.some_ne_none _ (Eq.symm h)).elim
  | succ n ih => intro a2 a3 a4 s r s1 h; exact t8_commonDivisor_l13b (N := N) (p0 := p0) (p1 := p1) C R (k13 := f8_commonDivisor_l13 N p0 p1 n) ih h
set_option maxRecDepth 100000 in
theorem t8_commonDivisor {M : xM} {G : xG} {N : Nat} {p0 : Int32} {p1 : Int32} (C : xC (M, G, cdom, 6) RX8 cX8_commonDivisor (some .int)) (R : xR (M, G, cdom, 6) = xrm 1 21) {s : cS} {r : Int32} {s1 : cS} (h : f8_commonDivisor N p0 p1 s = some (r, s1)) : X (M, G, cdom, 6) (some (.int r)) (encC G s1) (encC G s) 0 [(0, .int (p0)), (1, .int (p1))] [] := by
  unfold f8_commonDivisor at h
  refine x_iload_n (j := 0) C dX8_commonDivisor_0 rfl rfl ?_
  refine x_abs C dX8_commonDivisor_1 lk610 lk545 lk88 lk546 (x_rf R rfl) (x_rl R rfl) ?_
  refine x_istore_n (i := 2) (ls' := [(2, .int ((jabs p0))), (0, .int (p0)), (1, .int (p1))]) C dX8_commonDivisor_4 rfl (Nat.le_of_ble_eq_true rfl) rfl ?_
  refine x_iload_n (j := 2) C dX8_commonDivisor_5 rfl rfl ?_
  refine x_abs C dX8_commonDivisor_6 lk610 lk545 lk88 lk546 (x_rf R rfl) (x_rl R rfl) ?_
  refine x_istore_n (i := 3) (ls' := [(3, .int ((jabs p1))), (2, .int ((jabs p0))), (0, .int (p0)), (1, .int (p1))]) C dX8_commonDivisor_9 rfl (Nat.le_of_ble_eq_true rfl) rfl ?_
  refine x_iconst (v := 0) C dX8_commonDivisor_10 (by decide) ?_
  refine x_istore (i := 4) (ls' := [(4, .int (0)), (3, .int ((jabs p1))), (2, .int ((jabs p0))), (0, .int (p0)), (1, .int (p1))]) C dX8_commonDivisor_11 (Nat.le_of_ble_eq_true rfl) rfl ?_
  refine x_sub (ls' := [(2, .int ((jabs p0))), (3, .int ((jabs p1))), (4, .int (0))]) [2, 1, 0] rfl ?_
  exact t8_commonDivisor_l13 (N := N) (p0 := p0) (p1 := p1) C R N _ _ _ _ _ _ h
theorem c8_commonDivisor (l : Launch) (G : xG) {N : Nat} {p0 : Int32} {p1 : Int32} {s : cS} {r : Int32} {s1 : cS} (h : f8_commonDivisor N p0 p1 s = some (r, s1)) : xMet l yX8_commonDivisor (x_ws yX8_commonDivisor cX8_commonDivisor 6 (some .int)) (xrm 1 21) G cdom [.int (p0), .int (p1)] (encC G s) (some (.int r)) (encC G s1) := by
  refine xMet.of (by decide +kernel) (Nat.le_of_ble_eq_true rfl) ?_
  rintro ⟨M, G', dom', n'⟩ e1 R e3 e4 e5 C
  change G' = G at e3; change dom' = cdom at e4; change n' = 6 at e5
  subst e3; subst e4; subst e5
  exact t8_commonDivisor C R h
theorem k8_216 {M : xM} {G : xG} {n : Nat} {rv : Option Value} {E' : xE} {cc : ByteArray} {ret : Option FieldType} {pc : Nat} {ls : List (Nat × Value)} {st : List Value} {N : Nat} {p1 : Nat} {p2 : Int32} {p3 : Int32} {s s1 : cS} {r : Int32} (C : xC (M, G, cdom, n) RX8 cc ret) (d : decode cc pc = .ok (.invokevirtual 216, 3)) (h : f4_weighedCodes N p1 p2 p3 s = some (r, s1)) (hR : (xrm 3 66).frames + 1 ≤ (xR (M, G, cdom, n)).frames ∧ 8 + (7 + 11) + (xrm 3 66).locals ≤ (xR (M, G, cdom, n)).locals) (hw : (st.map fun v => v.category).sum ≤ 8) (k : X (M, G, cdom, n) rv E' (encC G s1) (pc + 3) ls (.int r :: st)) : X (M, G, cdom, n) rv E' (encC G s) pc ls (.int (p3) :: .int (p2) :: .ref (G.2.1 2 p1) :: .ref (G.2.1 8 0) :: st) :=
  x_callVN (As := [.ref (G.2.1 2 p1), .int (p2), .int (p3)]) (n := 3) C d (c4_weighedCodes (xl (M, G, cdom, n)) G h) lk596 lk598 lk36 lk80 lk599 ⟨rfl, rfl⟩ ⟨by decide +kernel, by decide +kernel, by decide +kernel⟩ rfl hR rfl rfl rfl rfl hw k
theorem k8_219 {M : xM} {G : xG} {n : Nat} {rv : Option Value} {E' : xE} {cc : ByteArray} {ret : Option FieldType} {pc : Nat} {ls : List (Nat × Value)} {st : List Value} {N : Nat} {s s1 : cS} {r : Int32} (C : xC (M, G, cdom, n) RX8 cc ret) (d : decode cc pc = .ok (.invokevirtual 219, 3)) (h : f4_timesTogether N s = some (r, s1)) (hR : (xrm 0 0).frames + 1 ≤ (xR (M, G, cdom, n)).frames ∧ 8 + (3 + 11) + (xrm 0 0).locals ≤ (xR (M, G, cdom, n)).locals) (hw : (st.map fun v => v.category).sum ≤ 8) (k : X (M, G, cdom, n) rv E' (encC G s1) (pc + 3) ls (.int r :: st)) : X (M, G, cdom, n) rv E' (encC G s) pc ls (.ref (G.2.1 8 0) :: st) :=
  x_callVN (As := []) (n := 0) C d (c4_timesTogether (xl (M, G, cdom, n)) G h) lk603 lk605 lk37 lk80 lk606 ⟨rfl, rfl⟩ ⟨by decide +kernel, by decide +kernel, by decide +kernel⟩ rfl hR rfl rfl rfl rfl hw k
theorem k8_222 {M : xM} {G : xG} {n : Nat} {rv : Option Value} {E' : xE} {cc : ByteArray} {ret : Option FieldType} {pc : Nat} {ls : List (Nat × Value)} {st : List Value} {N : Nat} {p0 : Int32} {p1 : Int32} {s s1 : cS} {r : Int32} (C : xC (M, G, cdom, n) RX8 cc ret) (d : decode cc pc = .ok (.invokestatic 222, 3)) (h : f8_commonDivisor N p0 p1 s = some (r, s1)) (hR : (xrm 1 21).frames + 1 ≤ (xR (M, G, cdom, n)).frames ∧ 8 + (6 + 11) + (xrm 1 21).locals ≤ (xR (M, G, cdom, n)).locals) (hw : (st.map fun v => v.category).sum ≤ 8) (k : X (M, G, cdom, n) rv E' (encC G s1) (pc + 3) ls (.int r :: st)) : X (M, G, cdom, n) rv E' (encC G s) pc ls (.int (p1) :: .int (p0) :: st) :=
  x_callS (As := [.int (p0), .int (p1)]) (n := 2) C d (c8_commonDivisor (xl (M, G, cdom, n)) G h) lk607 lk608 lk78 lk609 ⟨rfl, rfl⟩ ⟨by decide +kernel, by decide +kernel, by decide +kernel⟩ rfl hR rfl hw k
set_option maxRecDepth 100000 in
theorem t8_mean_b26 {M : xM} {G : xG} {N : Nat} {p1 : Int32} {p2 : Int32} {p3 : Int32} (C : xC (M, G, cdom, 8) RX8 cX8_mean (some .int)) (R : xR (M, G, cdom, 8) = xrm 4 92) {a4 : Option Nat} {b0 : Int32} {s : cS} {r : Int32} {s1 : cS} (h : f8_mean_b26 N p1 p2 p3 a4 b0 s = some (r, s1)) : X (M, G, cdom, 8) (some (.int r)) (encC G s1) (encC G s) 26 [(0, .ref (G.2.1 0 0)), (2, .int (p2)), (3, .int (p3)), (4, va_rf (Option.map (G.2.1 2) a4))] [.int (b0), .ref (G.2.1 0 0)] := by
  unfold f8_mean_b26 at h
  refine pf8_66 C dX8_mean_26 ?_
  refine x_aloadq (j := 3) C (Option.map (G.2.1 2) a4) dX8_mean_29 rfl ?_
  cases a4 with
  | none =>
    try dsimp only at h
    change X (M, G, cdom, 8) _ _ _ 31 [(0, .ref (G.2.1 0 0)), (2, .int (p2)), (3, .int (p3)), (4, .null)] [.null]
    refine x_ifnullN (tgt := 41) C dX8_mean_31 (by decide) ?_
    refine x_iconst (v := (-1)) C dX8_mean_41 (by decide) ?_
    cases h
    exact x_iret C dX8_mean_42
  | some w31 =>
    try dsimp only at h
    change X (M, G, cdom, 8) _ _ _ 31 [(0, .ref (G.2.1 0 0)), (2, .int (p2)), (3, .int (p3)), (4, .ref (G.2.1 2 w31))] [.ref (G.2.1 2 w31)]
    refine x_ifnull C dX8_mean_31 ?_
    refine x_aload_n (j := 0) C dX8_mean_34 rfl rfl ?_
    refine gf8_66 C dX8_mean_35 ?_
    refine x_if_eq (tgt := 43) C dX8_mean_38 (by decide) (fun c38 => ?_) (fun c38 => ?_)
    · rw [if_pos c38] at h
      refine x_aload_n (j := 0) C dX8_mean_43 rfl rfl ?_
      refine gf8_25 C dX8_mean_44 ?_
      refine gf8_210 C dX8_mean_47 ?_
      refine x_if_ne (tgt := 68) C dX8_mean_50 (by decide) (fun c50 => ?_) (fun c50 => ?_)
      · rw [if_neg c50] at h
        refine x_aload_n (j := 0) C dX8_mean_68 rfl rfl ?_
        refine gf8_25 C dX8_mean_69 ?_
        refine x_aload (j := 3) C dX8_mean_72 rfl ?_
        refine x_iload_n (j := 1) C dX8_mean_74 rfl rfl ?_
        refine x_aload_n (j := 0) C dX8_mean_75 rfl rfl ?_
        refine gf8_56 C dX8_mean_76 ?_
        obtain ⟨⟨r79, s79⟩, e79, h⟩ := Option.bind_eq_some_iff.mp h
        try dsimp only at h
        refine k8_216 C dX8_mean_79 e79 (x_room R rfl) (Nat.le_of_ble_eq_true rfl) ?_
        refine x_istore (i := 5) (ls' := [(5, .int (r79)), (0, .ref (G.2.1 0 0)), (2, .int (p2)), (3, .int (p3)), (4, .ref (G.2.1 2 w31))]) C dX8_mean_82 (Nat.le_of_ble_eq_true rfl) rfl ?_
        refine x_aload_n (j := 1) C dX8_mean_84 rfl rfl ?_
        refine gf8_25 C dX8_mean_85 ?_
        obtain ⟨⟨r88, s88⟩, e88, h⟩ := Option.bind_eq_some_iff.mp h
        try dsimp only at h
        refine k8_219 C dX8_mean_88 e88 (x_room R rfl) (Nat.le_of_ble_eq_true rfl) ?_
        refine x_istore (i := 6) (ls' := [(6, .int (r88)), (5, .int (r79)), (0, .ref (G.2.1 0 0)), (2, .int (p2)), (3, .int (p3)), (4, .ref (G.2.1 2 w31))]) C dX8_mean_91 (Nat.le_of_ble_eq_true rfl) rfl ?_
        refine x_iconst (v := 1) C dX8_mean_93 (by decide) ?_
        refine x_iload (j := 1) C dX8_mean_94 rfl ?_
        refine x_iload (j := 0) C dX8_mean_96 rfl ?_
        obtain ⟨⟨r98, s98⟩, e98, h⟩ := Option.bind_eq_some_iff.mp h
        try dsimp only at h
        refine k8_222 C dX8_mean_98 e98 (x_room R rfl) (Nat.le_of_ble_eq_true rfl) ?_
        refine x_max C dX8_mean_101 lk510 lk427 lk88 lk428 (x_rf R rfl) (x_rl R rfl) ?_
        refine x_istore (i := 7) (ls' := [(7, .int ((jmax 1 r98))), (6, .int (r88)), (5, .int (r79)), (0, .ref (G.2.1 0 0)), (2, .int (p2)), (3, .int (p3)), (4, .ref (G.2.1 2 w31))]) C dX8_mean_104 (Nat.le_of_ble_eq_true rfl) rfl ?_
        refine x_iload_n (j := 5) C dX8_mean_106 rfl rfl ?_
        refine x_if_eq (tgt := 115) C dX8_mean_107 (by decide) (fun c107 => ?_) (fun c107 => ?_)
        · rw [if_pos c107] at h
          refine x_iload (j := 2) C dX8_mean_115 rfl ?_
          refine x_iload (j := 0) C dX8_mean_117 rfl ?_
          by_cases g119 : (jmax 1 r98) = 0
          · rw [if_pos g119] at h; cases h
          rw [if_neg g119] at h
          refine x_idiv C dX8_mean_119 g119 ?_
          cases h
          exact x_iret C dX8_mean_120
        · rw [if_neg c107] at h
          refine x_iload (j := 1) C dX8_mean_110 rfl ?_
          refine x_goto (tgt := 117) C dX8_mean_112 (by decide) ?_
          refine x_iload (j := 0) C dX8_mean_117 rfl ?_
          by_cases g119 : (jmax 1 r98) = 0
          · rw [if_pos g119] at h; cases h
          rw [if_neg g119] at h
          refine x_idiv C dX8_mean_119 g119 ?_
          cases h
          exact x_iret C dX8_mean_120
      · rw [if_pos c50] at h
        refine x_iload_n (j := 2) C dX8_mean_53 rfl rfl ?_
        refine x_if_eq (tgt := 61) C dX8_mean_54 (by decide) (fun c54 => ?_) (fun c54 => ?_)
        · rw [if_pos c54] at h
          refine x_aload (j := 3) C dX8_mean_61 rfl ?_
          refine x_iload_n (j := 1) C dX8_mean_63 rfl rfl ?_
          by_cases g64_1 : w31 < 8
          case neg => rw [if_neg g64_1] at h; cases h
          rw [if_pos g64_1] at h
          obtain ⟨⟨r64, s64⟩, e64, h⟩ := Option.bind_eq_some_iff.mp h
          try dsimp only at h
          refine k8_139 C dX8_mean_64 e64 g64_1 (x_room R rfl) (Nat.le_of_ble_eq_true rfl) ?_
          cases h
          exact x_iret C dX8_mean_67
        · rw [if_neg c54] at h
          refine x_iconst (v := 1) C dX8_mean_57 (by decide) ?_
          refine x_goto (tgt := 67) C dX8_mean_58 (by decide) ?_
          cases h
          exact x_iret C dX8_mean_67
    · rw [if_neg c38] at h
      refine x_iconst (v := (-1)) C dX8_mean_41 (by decide) ?_
      cases h
      exact x_iret C dX8_mean_42
set_option maxRecDepth 100000 in
theorem t8_mean {M : xM} {G : xG} {N : Nat} {p1 : Int32} {p2 : Int32} {p3 : Int32} (C : xC (M, G, cdom, 8) RX8 cX8_mean (some .int)) (R : xR (M, G, cdom, 8) = xrm 4 92) {s : cS} {r : Int32} {s1 : cS} (h : f8_mean N p1 p2 p3 s = some (r, s1)) : X (M, G, cdom, 8) (some (.int r)) (encC G s1) (encC G s) 0 [(0, .ref (G.2.1 0 0)), (1, .int (p1)), (2, .int (p2)), (3, .int (p3))] [] := by
  unfold f8_mean at h
  refine x_aload_n (j := 0) C dX8_mean_0 rfl rfl ?_
  refine x_iload_n (j := 1) C dX8_mean_1 rfl rfl ?_
  obtain ⟨⟨r2, s2⟩, e2, h⟩ := Option.bind_eq_some_iff.mp h
  try dsimp only at h
  refine k8_83 C dX8_mean_2 e2 (x_room R rfl) (Nat.le_of_ble_eq_true rfl) ?_
  refine x_astoreq (i := 4) (ls' := [(4, va_rf (Option.map (G.2.1 2) r2)), (0, .ref (G.2.1 0 0)), (1, .int (p1)), (2, .int (p2)), (3, .int (p3))]) C (Option.map (G.2.1 2) r2) dX8_mean_5 (Nat.le_of_ble_eq_true rfl) rfl ?_
  refine x_aload_n (j := 1) C dX8_mean_7 rfl rfl ?_
  refine x_aloadq (j := 0) C (Option.map (G.2.1 2) r2) dX8_mean_8 rfl ?_
  cases r2 with
  | none =>
    try dsimp only at h
    change X (M, G, cdom, 8) _ _ _ 10 [(4, .null), (0, .ref (G.2.1 0 0)), (1, .int (p1)), (2, .int (p2)), (3, .int (p3))] [.null, .ref (G.2.1 0 0)]
    refine x_ifnullN (tgt := 21) C dX8_mean_10 (by decide) ?_
    refine x_iconst (v := 2) C dX8_mean_21 (by decide) ?_
    refine x_goto (tgt := 26) C dX8_mean_22 (by decide) ?_
    refine x_sub (ls' := [(0, .ref (G.2.1 0 0)), (2, .int (p2)), (3, .int (p3)), (4, .null)]) [1, 3, 4, 0] rfl ?_
    exact t8_mean_b26 (N := N) (p1 := p1) (p2 := p2) (p3 := p3) C R (a4 := none) h
  | some w10 =>
    try dsimp only at h
    change X (M, G, cdom, 8) _ _ _ 10 [(4, .ref (G.2.1 2 w10)), (0, .ref (G.2.1 0 0)), (1, .int (p1)), (2, .int (p2)), (3, .int (p3))] [.ref (G.2.1 2 w10), .ref (G.2.1 0 0)]
    refine x_ifnull C dX8_mean_10 ?_
    refine x_aload_n (j := 1) C dX8_mean_13 rfl rfl ?_
    refine x_iload_n (j := 3) C dX8_mean_14 rfl rfl ?_
    obtain ⟨⟨r15, s15⟩, e15, h⟩ := Option.bind_eq_some_iff.mp h
    try dsimp only at h
    refine k8_134 C dX8_mean_15 e15 (x_room R rfl) (Nat.le_of_ble_eq_true rfl) ?_
    refine x_if_ne (tgt := 25) C dX8_mean_18 (by decide) (fun c18 => ?_) (fun c18 => ?_)
    · rw [if_neg c18] at h
      refine x_iconst (v := 0) C dX8_mean_25 (by decide) ?_
      refine x_sub (ls' := [(0, .ref (G.2.1 0 0)), (2, .int (p2)), (3, .int (p3)), (4, .ref (G.2.1 2 w10))]) [1, 3, 4, 0] rfl ?_
      exact t8_mean_b26 (N := N) (p1 := p1) (p2 := p2) (p3 := p3) C R (a4 := (some w10)) h
    · rw [if_pos c18] at h
      refine x_iconst (v := 2) C dX8_mean_21 (by decide) ?_
      refine x_goto (tgt := 26) C dX8_mean_22 (by decide) ?_
      refine x_sub (ls' := [(0, .ref (G.2.1 0 0)), (2, .int (p2)), (3, .int (p3)), (4, .ref (G.2.1 2 w10))]) [1, 3, 4, 0] rfl ?_
      exact t8_mean_b26 (N := N) (p1 := p1) (p2 := p2) (p3 := p3) C R (a4 := (some w10)) h
theorem c8_mean (l : Launch) (G : xG) {N : Nat} {p1 : Int32} {p2 : Int32} {p3 : Int32} {s : cS} {r : Int32} {s1 : cS} (h : f8_mean N p1 p2 p3 s = some (r, s1)) : xMet l yX8_mean (x_ws yX8_mean cX8_mean 8 (some .int)) (xrm 4 92) G cdom [.ref (G.2.1 0 0), .int (p1), .int (p2), .int (p3)] (encC G s) (some (.int r)) (encC G s1) := by
  refine xMet.of (by decide +kernel) (Nat.le_of_ble_eq_true rfl) ?_
  rintro ⟨M, G', dom', n'⟩ e1 R e3 e4 e5 C
  change G' = G at e3; change dom' = cdom at e4; change n' = 8 at e5
  subst e3; subst e4; subst e5
  exact t8_mean C R h
set_option maxRecDepth 100000 in
theorem t8_faultAt {M : xM} {G : xG} {N : Nat} {p1 : Int32} (C : xC (M, G, cdom, 2) RX8 cX8_faultAt (Option.some (.object "StepMeters$Fault"))) (R : xR (M, G, cdom, 2) = xrm 0 0) {s : cS} {r : Option Nat} {s1 : cS} (h : f8_faultAt N p1 s = some (r, s1)) : X (M, G, cdom, 2) (some (va_rf (r.map (G.2.1 12)))) (encC G s1) (encC G s) 0 [(0, .ref (G.2.1 0 0)), (1, .int (p1))] [] := by
  unfold f8_faultAt at h
  refine x_iload_n (j := 1) C dX8_faultAt_0 rfl rfl ?_
  refine x_if_lt (tgt := 30) C dX8_faultAt_1 (by decide) (fun c1 => ?_) (fun c1 => ?_)
  · rw [if_pos c1] at h
    refine x_null C dX8_faultAt_30 ?_
    cases h
    exact x_aret C _ dX8_faultAt_31
  · rw [if_neg c1] at h
    refine x_iload_n (j := 1) C dX8_faultAt_4 rfl rfl ?_
    refine x_aload_n (j := 0) C dX8_faultAt_5 rfl rfl ?_
    refine gf8_63 C dX8_faultAt_6 ?_
    refine x_icmp_ge (tgt := 30) C dX8_faultAt_9 (by decide) (fun c9 => ?_) (fun c9 => ?_)
    · rw [if_pos c9] at h
      refine x_null C dX8_faultAt_30 ?_
      cases h
      exact x_aret C _ dX8_faultAt_31
    · rw [if_neg c9] at h
      refine x_iload_n (j := 1) C dX8_faultAt_12 rfl rfl ?_
      refine x_aload_n (j := 0) C dX8_faultAt_13 rfl rfl ?_
      refine gf8_31 C dX8_faultAt_14 ?_
      refine cal11 C dX8_faultAt_17 ?_
      refine x_icmp_ge (tgt := 30) C dX8_faultAt_18 (by decide) (fun c18 => ?_) (fun c18 => ?_)
      · rw [if_pos c18] at h
        refine x_null C dX8_faultAt_30 ?_
        cases h
        exact x_aret C _ dX8_faultAt_31
      · rw [if_neg c18] at h
        refine x_aload_n (j := 0) C dX8_faultAt_21 rfl rfl ?_
        refine gf8_31 C dX8_faultAt_22 ?_
        refine x_iload_n (j := 1) C dX8_faultAt_25 rfl rfl ?_
        by_cases g26_1 : inB p1 10 = true
        case neg => rw [if_neg g26_1] at h; cases h
        rw [if_pos g26_1] at h
        refine cld11 C dX8_faultAt_26 g26_1 ?_
        refine x_goto (tgt := 31) C dX8_faultAt_27 (by decide) ?_
        cases h
        exact x_aret C _ dX8_faultAt_31
theorem c8_faultAt (l : Launch) (G : xG) {N : Nat} {p1 : Int32} {s : cS} {r : Option Nat} {s1 : cS} (h : f8_faultAt N p1 s = some (r, s1)) : xMet l yX8_faultAt (x_ws yX8_faultAt cX8_faultAt 2 (Option.some (.object "StepMeters$Fault"))) (xrm 0 0) G cdom [.ref (G.2.1 0 0), .int (p1)] (encC G s) (some (va_rf (r.map (G.2.1 12)))) (encC G s1) := by
  refine xMet.of (by decide +kernel) (Nat.le_of_ble_eq_true rfl) ?_
  rintro ⟨M, G', dom', n'⟩ e1 R e3 e4 e5 C
  change G' = G at e3; change dom' = cdom at e4; change n' = 2 at e5
  subst e3; subst e4; subst e5
  exact t8_faultAt C R h
set_option maxRecDepth 100000 in
theorem t2_become {M : xM} {G : xG} {N : Nat} {o : Nat} {p1 : Int32} {p2 : Int32} {p3 : Int32} (C : xC (M, G, cdom, 4) RX2 cX2_become none) (R : xR (M, G, cdom, 4) = xrm 0 0) (ho : o < 10) {s : cS} {s1 : cS} (h : f2_become N o p1 p2 p3 s = some s1) : X (M, G, cdom, 4) none (encC G s1) (encC G s) 0 [(0, .ref (G.2.1 12 o)), (1, .int (p1)), (2, .int (p2)), (3, .int (p3))] [] := by
  unfold f2_become at h
  refine x_aload_n (j := 0) C dX2_become_0 rfl rfl ?_
  refine x_iload_n (j := 1) C dX2_become_1 rfl rfl ?_
  refine pf2_7 C dX2_become_2 ho ?_
  refine x_aload_n (j := 0) C dX2_become_5 rfl rfl ?_
  refine x_iload_n (j := 2) C dX2_become_6 rfl rfl ?_
  refine pf2_13 C dX2_become_7 ho ?_
  refine x_aload_n (j := 0) C dX2_become_10 rfl rfl ?_
  refine x_iload_n (j := 3) C dX2_become_11 rfl rfl ?_
  refine pf2_16 C dX2_become_12 ho ?_
  cases h
  exact x_vret C dX2_become_15
theorem c2_become (l : Launch) (G : xG) {N : Nat} {o : Nat} {p1 : Int32} {p2 : Int32} {p3 : Int32} {s : cS} {s1 : cS} (ho : o < 10) (h : f2_become N o p1 p2 p3 s = some s1) : xMet l yX2_become (x_ws yX2_become cX2_become 4 none) (xrm 0 0) G cdom [.ref (G.2.1 12 o), .int (p1), .int (p2), .int (p3)] (encC G s) none (encC G s1) := by
  refine xMet.of (by decide +kernel) (Nat.le_of_ble_eq_true rfl) ?_
  rintro ⟨M, G', dom', n'⟩ e1 R e3 e4 e5 C
  change G' = G at e3; change dom' = cdom at e4; change n' = 4 at e5
  subst e3; subst e4; subst e5
  exact t2_become C R ho h
theorem k8_225 {M : xM} {G : xG} {n : Nat} {rv : Option Value} {E' : xE} {cc : ByteArray} {ret : Option FieldType} {pc : Nat} {ls : List (Nat × Value)} {st : List Value} {N : Nat} {p1 : Int32} {s s1 : cS} {r : Option Nat} (C : xC (M, G, cdom, n) RX8 cc ret) (d : decode cc pc = .ok (.invokevirtual 225, 3)) (h : f8_faultAt N p1 s = some (r, s1)) (hR : (xrm 0 0).frames + 1 ≤ (xR (M, G, cdom, n)).frames ∧ 8 + (2 + 11) + (xrm 0 0).locals ≤ (xR (M, G, cdom, n)).locals) (hw : (st.map fun v => v.category).sum ≤ 8) (k : X (M, G, cdom, n) rv E' (encC G s1) (pc + 3) ls (va_rf (Option.map (G.2.1 12) r) :: st)) : X (M, G, cdom, n) rv E' (encC G s) pc ls (.int (p1) :: .ref (G.2.1 0 0) :: st) :=
  x_callV (As := [.int (p1)]) (n := 1) C d (c8_faultAt (xl (M, G, cdom, n)) G h) lk615 lk617 lk38 lk78 lk618 ⟨rfl, rfl⟩ ⟨by decide +kernel, by decide +kernel, by decide +kernel⟩ rfl hR rfl rfl rfl rfl hw k
theorem k8_229 {M : xM} {G : xG} {n : Nat} {rv : Option Value} {E' : xE} {cc : ByteArray} {ret : Option FieldType} {pc : Nat} {ls : List (Nat × Value)} {st : List Value} {N : Nat} {o : Nat} {p1 : Int32} {p2 : Int32} {p3 : Int32} {s s1 : cS} (C : xC (M, G, cdom, n) RX8 cc ret) (d : decode cc pc = .ok (.invokevirtual 229, 3)) (h : f2_become N o p1 p2 p3 s = some s1) (ho : o < 10) (hR : (xrm 0 0).frames + 1 ≤ (xR (M, G, cdom, n)).frames ∧ 8 + (4 + 11) + (xrm 0 0).locals ≤ (xR (M, G, cdom, n)).locals) (hw : (st.map fun v => v.category).sum ≤ 8) (k : X (M, G, cdom, n) rv E' (encC G s1) (pc + 3) ls (st)) : X (M, G, cdom, n) rv E' (encC G s) pc ls (.int (p3) :: .int (p2) :: .int (p1) :: .ref (G.2.1 12 o) :: st) :=
  x_callVN (As := [.int (p1), .int (p2), .int (p3)]) (n := 3) C d (c2_become (xl (M, G, cdom, n)) G ho h) lk619 lk621 lk39 lk86 lk622 ⟨rfl, rfl⟩ ⟨by decide +kernel, by decide +kernel, by decide +kernel⟩ rfl hR (decide_eq_true ho) rfl rfl rfl hw k
set_option maxRecDepth 100000 in
theorem t8_fault_b42 {M : xM} {G : xG} {N : Nat} {p1 : Int32} {p2 : Int32} {p3 : Int32} (C : xC (M, G, cdom, 5) RX8 cX8_fault (some .int)) (R : xR (M, G, cdom, 5) = xrm 2 44) {b0 : Int32} {s : cS} {r : Int32} {s1 : cS} (h : f8_fault_b42 N p1 p2 p3 b0 s = some (r, s1)) : X (M, G, cdom, 5) (some (.int r)) (encC G s1) (encC G s) 42 [(0, .ref (G.2.1 0 0)), (1, .int (p1)), (2, .int (p2)), (3, .int (p3))] [.int (b0), .ref (G.2.1 0 0)] := by
  unfold f8_fault_b42 at h
  refine pf8_66 C dX8_fault_42 ?_
  refine x_aload_n (j := 0) C dX8_fault_45 rfl rfl ?_
  refine gf8_66 C dX8_fault_46 ?_
  refine x_if_eq (tgt := 54) C dX8_fault_49 (by decide) (fun c49 => ?_) (fun c49 => ?_)
  · rw [if_pos c49] at h
    refine x_aload_n (j := 0) C dX8_fault_54 rfl rfl ?_
    refine x_dup C dX8_fault_55 rfl ?_
    refine gf8_63 C dX8_fault_56 ?_
    refine x_iconst (v := 1) C dX8_fault_59 (by decide) ?_
    refine x_iadd C dX8_fault_60 ?_
    refine pf8_63 C dX8_fault_61 ?_
    refine x_aload_n (j := 0) C dX8_fault_64 rfl rfl ?_
    refine x_aload_n (j := 0) C dX8_fault_65 rfl rfl ?_
    refine gf8_63 C dX8_fault_66 ?_
    refine x_iconst (v := 1) C dX8_fault_69 (by decide) ?_
    refine x_isub C dX8_fault_70 ?_
    obtain ⟨⟨r71, s71⟩, e71, h⟩ := Option.bind_eq_some_iff.mp h
    try dsimp only at h
    refine k8_225 C dX8_fault_71 e71 (x_room R rfl) (Nat.le_of_ble_eq_true rfl) ?_
    refine x_astoreq (i := 4) (ls' := [(4, va_rf (Option.map (G.2.1 12) r71)), (0, .ref (G.2.1 0 0)), (1, .int (p1)), (2, .int (p2)), (3, .int (p3))]) C (Option.map (G.2.1 12) r71) dX8_fault_74 (Nat.le_of_ble_eq_true rfl) rfl ?_
    refine x_aloadq (j := 0) C (Option.map (G.2.1 12) r71) dX8_fault_76 rfl ?_
    cases r71 with
    | none =>
      try dsimp only at h
      change X (M, G, cdom, 5) _ _ _ 78 [(4, .null), (0, .ref (G.2.1 0 0)), (1, .int (p1)), (2, .int (p2)), (3, .int (p3))] [.null]
      refine x_ifnullN (tgt := 89) C dX8_fault_78 (by decide) ?_
      refine x_aload_n (j := 1) C dX8_fault_89 rfl rfl ?_
      refine gf8_63 C dX8_fault_90 ?_
      cases h
      exact x_iret C dX8_fault_93
    | some w78 =>
      try dsimp only at h
      change X (M, G, cdom, 5) _ _ _ 78 [(4, .ref (G.2.1 12 w78)), (0, .ref (G.2.1 0 0)), (1, .int (p1)), (2, .int (p2)), (3, .int (p3))] [.ref (G.2.1 12 w78)]
      refine x_ifnull C dX8_fault_78 ?_
      refine x_aload (j := 0) C dX8_fault_81 rfl ?_
      refine x_iload_n (j := 2) C dX8_fault_83 rfl rfl ?_
      refine x_iload_n (j := 3) C dX8_fault_84 rfl rfl ?_
      refine x_iload_n (j := 4) C dX8_fault_85 rfl rfl ?_
      by_cases g86_1 : w78 < 10
      case neg => rw [if_neg g86_1] at h; cases h
      rw [if_pos g86_1] at h
      obtain ⟨s86, e86, h⟩ := Option.bind_eq_some_iff.mp h
      try dsimp only at h
      refine k8_229 C dX8_fault_86 e86 g86_1 (x_room R rfl) (Nat.le_of_ble_eq_true rfl) ?_
      refine x_aload_n (j := 1) C dX8_fault_89 rfl rfl ?_
      refine gf8_63 C dX8_fault_90 ?_
      cases h
      exact x_iret C dX8_fault_93
  · rw [if_neg c49] at h
    refine x_iconst (v := (-1)) C dX8_fault_52 (by decide) ?_
    cases h
    exact x_iret C dX8_fault_53
set_option maxRecDepth 100000 in
theorem t8_fault {M : xM} {G : xG} {N : Nat} {p1 : Int32} {p2 : Int32} {p3 : Int32} (C : xC (M, G, cdom, 5) RX8 cX8_fault (some .int)) (R : xR (M, G, cdom, 5) = xrm 2 44) {s : cS} {r : Int32} {s1 : cS} (h : f8_fault N p1 p2 p3 s = some (r, s1)) : X (M, G, cdom, 5) (some (.int r)) (encC G s1) (encC G s) 0 [(0, .ref (G.2.1 0 0)), (1, .int (p1)), (2, .int (p2)), (3, .int (p3))] [] := by
  unfold f8_fault at h
  refine x_aload_n (j := 0) C dX8_fault_0 rfl rfl ?_
  refine x_aload_n (j := 0) C dX8_fault_1 rfl rfl ?_
  refine x_iload_n (j := 1) C dX8_fault_2 rfl rfl ?_
  refine x_iload_n (j := 2) C dX8_fault_3 rfl rfl ?_
  obtain ⟨⟨r4, s4⟩, e4, h⟩ := Option.bind_eq_some_iff.mp h
  try dsimp only at h
  refine k8_109 C dX8_fault_4 e4 (x_room R rfl) (Nat.le_of_ble_eq_true rfl) ?_
  cases r4 with
  | none =>
    try dsimp only at h
    change X (M, G, cdom, 5) _ _ _ 7 [(0, .ref (G.2.1 0 0)), (1, .int (p1)), (2, .int (p2)), (3, .int (p3))] [.null, .ref (G.2.1 0 0)]
    refine x_ifnonnullN C dX8_fault_7 ?_
    refine x_iconst (v := 2) C dX8_fault_10 (by decide) ?_
    refine x_goto (tgt := 42) C dX8_fault_11 (by decide) ?_
    exact t8_fault_b42 (N := N) (p1 := p1) (p2 := p2) (p3 := p3) C R h
  | some w7 =>
    try dsimp only at h
    change X (M, G, cdom, 5) _ _ _ 7 [(0, .ref (G.2.1 0 0)), (1, .int (p1)), (2, .int (p2)), (3, .int (p3))] [.ref (G.2.1 4 w7), .ref (G.2.1 0 0)]
    refine x_ifnonnull (tgt := 14) C dX8_fault_7 (by decide) ?_
    refine x_iload_n (j := 3) C dX8_fault_14 rfl rfl ?_
    refine x_sipush (v := 500) C dX8_fault_15 (by decide) ?_
    obtain ⟨⟨r18, s18⟩, e18, h⟩ := Option.bind_eq_some_iff.mp h
    try dsimp only at h
    refine k8_113 C dX8_fault_18 e18 (x_room R rfl) (Nat.le_of_ble_eq_true rfl) ?_
    refine x_if_ne (tgt := 28) C dX8_fault_21 (by decide) (fun c21 => ?_) (fun c21 => ?_)
    · rw [if_neg c21] at h
      refine x_aload_n (j := 0) C dX8_fault_28 rfl rfl ?_
      refine gf8_63 C dX8_fault_29 ?_
      refine x_bipush (v := 10) C dX8_fault_32 (by decide) ?_
      refine x_icmp_lt (tgt := 41) C dX8_fault_34 (by decide) (fun c34 => ?_) (fun c34 => ?_)
      · rw [if_pos c34] at h
        refine x_iconst (v := 0) C dX8_fault_41 (by decide) ?_
        exact t8_fault_b42 (N := N) (p1 := p1) (p2 := p2) (p3 := p3) C R h
      · rw [if_neg c34] at h
        refine x_iconst (v := 3) C dX8_fault_37 (by decide) ?_
        refine x_goto (tgt := 42) C dX8_fault_38 (by decide) ?_
        exact t8_fault_b42 (N := N) (p1 := p1) (p2 := p2) (p3 := p3) C R h
    · rw [if_pos c21] at h
      refine x_iconst (v := 1) C dX8_fault_24 (by decide) ?_
      refine x_goto (tgt := 42) C dX8_fault_25 (by decide) ?_
      exact t8_fault_b42 (N := N) (p1 := p1) (p2 := p2) (p3 := p3) C R h
theorem c8_fault (l : Launch) (G : xG) {N : Nat} {p1 : Int32} {p2 : Int32} {p3 : Int32} {s : cS} {r : Int32} {s1 : cS} (h : f8_fault N p1 p2 p3 s = some (r, s1)) : xMet l yX8_fault (x_ws yX8_fault cX8_fault 5 (some .int)) (xrm 2 44) G cdom [.ref (G.2.1 0 0), .int (p1), .int (p2), .int (p3)] (encC G s) (some (.int r)) (encC G s1) := by
  refine xMet.of (by decide +kernel) (Nat.le_of_ble_eq_true rfl) ?_
  rintro ⟨M, G', dom', n'⟩ e1 R e3 e4 e5 C
  change G' = G at e3; change dom' = cdom at e4; change n' = 5 at e5
  subst e3; subst e4; subst e5
  exact t8_fault C R h
set_option maxRecDepth 100000 in
theorem t8_clear {M : xM} {G : xG} {N : Nat}  (C : xC (M, G, cdom, 2) RX8 cX8_clear (some .int)) (R : xR (M, G, cdom, 2) = xrm 0 0) {s : cS} {r : Int32} {s1 : cS} (h : f8_clear N s = some (r, s1)) : X (M, G, cdom, 2) (some (.int r)) (encC G s1) (encC G s) 0 [(0, .ref (G.2.1 0 0))] [] := by
  unfold f8_clear at h
  refine x_aload_n (j := 0) C dX8_clear_0 rfl rfl ?_
  refine gf8_63 C dX8_clear_1 ?_
  refine x_istore_n (i := 1) (ls' := [(1, .int ((s.1 2 0))), (0, .ref (G.2.1 0 0))]) C dX8_clear_4 rfl (Nat.le_of_ble_eq_true rfl) rfl ?_
  refine x_aload_n (j := 1) C dX8_clear_5 rfl rfl ?_
  refine x_iconst (v := 0) C dX8_clear_6 (by decide) ?_
  refine pf8_63 C dX8_clear_7 ?_
  refine x_iload_n (j := 0) C dX8_clear_10 rfl rfl ?_
  cases h
  exact x_iret C dX8_clear_11
theorem c8_clear (l : Launch) (G : xG) {N : Nat}  {s : cS} {r : Int32} {s1 : cS} (h : f8_clear N s = some (r, s1)) : xMet l yX8_clear (x_ws yX8_clear cX8_clear 2 (some .int)) (xrm 0 0) G cdom [.ref (G.2.1 0 0)] (encC G s) (some (.int r)) (encC G s1) := by
  refine xMet.of (by decide +kernel) (Nat.le_of_ble_eq_true rfl) ?_
  rintro ⟨M, G', dom', n'⟩ e1 R e3 e4 e5 C
  change G' = G at e3; change dom' = cdom at e4; change n' = 2 at e5
  subst e3; subst e4; subst e5
  exact t8_clear C R h
set_option maxRecDepth 100000 in
theorem t8_codeWith {M : xM} {G : xG} {N : Nat} {p1 : Nat} {p2 : Int32} (C : xC (M, G, cdom, 7) RX8 cX8_codeWith (some .int)) (R : xR (M, G, cdom, 7) = xrm 3 66) {s : cS} {r : Int32} {s1 : cS} (h : f8_codeWith N p1 p2 s = some (r, s1)) : X (M, G, cdom, 7) (some (.int r)) (encC G s1) (encC G s) 0 [(0, .ref (G.2.1 0 0)), (1, .ref (G.2.1 12 p1)), (2, .int (p2))] [] := by
  unfold f8_codeWith at h
  refine x_aload_n (j := 0) C dX8_codeWith_0 rfl rfl ?_
  refine x_aload_n (j := 1) C dX8_codeWith_1 rfl rfl ?_
  by_cases g2_1 : p1 < 10
  case neg => rw [if_neg g2_1] at h; cases h
  rw [if_pos g2_1] at h
  refine gf8_289 C dX8_codeWith_2 g2_1 ?_
  obtain ⟨⟨r5, s5⟩, e5, h⟩ := Option.bind_eq_some_iff.mp h
  try dsimp only at h
  refine k8_83 C dX8_codeWith_5 e5 (x_room R rfl) (Nat.le_of_ble_eq_true rfl) ?_
  refine x_astore_nq (i := 3) (ls' := [(3, va_rf (Option.map (G.2.1 2) r5)), (0, .ref (G.2.1 0 0)), (1, .ref (G.2.1 12 p1)), (2, .int (p2))]) C (Option.map (G.2.1 2) r5) dX8_codeWith_8 rfl (Nat.le_of_ble_eq_true rfl) rfl ?_
  refine x_aload_n (j := 1) C dX8_codeWith_9 rfl rfl ?_
  refine x_aload_n (j := 2) C dX8_codeWith_10 rfl rfl ?_
  refine gf8_289 C dX8_codeWith_11 g2_1 ?_
  refine x_aload_n (j := 2) C dX8_codeWith_14 rfl rfl ?_
  refine gf8_296 C dX8_codeWith_15 g2_1 ?_
  obtain ⟨⟨r18, s18⟩, e18, h⟩ := Option.bind_eq_some_iff.mp h
  try dsimp only at h
  refine k8_109 C dX8_codeWith_18 e18 (x_room R rfl) (Nat.le_of_ble_eq_true rfl) ?_
  refine x_astoreq (i := 4) (ls' := [(4, va_rf (Option.map (G.2.1 4) r18)), (3, va_rf (Option.map (G.2.1 2) r5)), (0, .ref (G.2.1 0 0)), (1, .ref (G.2.1 12 p1)), (2, .int (p2))]) C (Option.map (G.2.1 4) r18) dX8_codeWith_21 (Nat.le_of_ble_eq_true rfl) (by first | (simp [va_cat]; done) | (simp [va_cat, Value.category]; done)) ?_
  refine x_aload_nq (j := 1) C (Option.map (G.2.1 2) r5) dX8_codeWith_23 rfl rfl ?_
  cases r5 with
  | none =>
    try dsimp only at h
    change X (M, G, cdom, 7) _ _ _ 24 [(4, va_rf (Option.map (G.2.1 4) r18)), (3, .null), (0, .ref (G.2.1 0 0)), (1, .ref (G.2.1 12 p1)), (2, .int (p2))] [.null]
    refine x_ifnullN (tgt := 32) C dX8_codeWith_24 (by decide) ?_
    refine x_iconst (v := 0) C dX8_codeWith_32 (by decide) ?_
    cases h
    exact x_iret C dX8_codeWith_33
  | some w24 =>
    try dsimp only at h
    change X (M, G, cdom, 7) _ _ _ 24 [(4, va_rf (Option.map (G.2.1 4) r18)), (3, .ref (G.2.1 2 w24)), (0, .ref (G.2.1 0 0)), (1, .ref (G.2.1 12 p1)), (2, .int (p2))] [.ref (G.2.1 2 w24)]
    refine x_ifnull C dX8_codeWith_24 ?_
    refine x_aloadq (j := 0) C (Option.map (G.2.1 4) r18) dX8_codeWith_27 rfl ?_
    cases r18 with
    | none =>
      try dsimp only at h
      change X (M, G, cdom, 7) _ _ _ 29 [(4, .null), (3, .ref (G.2.1 2 w24)), (0, .ref (G.2.1 0 0)), (1, .ref (G.2.1 12 p1)), (2, .int (p2))] [.null]
      refine x_ifnonnullN C dX8_codeWith_29 ?_
      refine x_iconst (v := 0) C dX8_codeWith_32 (by decide) ?_
      cases h
      exact x_iret C dX8_codeWith_33
    | some w29 =>
      try dsimp only at h
      change X (M, G, cdom, 7) _ _ _ 29 [(4, .ref (G.2.1 4 w29)), (3, .ref (G.2.1 2 w24)), (0, .ref (G.2.1 0 0)), (1, .ref (G.2.1 12 p1)), (2, .int (p2))] [.ref (G.2.1 4 w29)]
      refine x_ifnonnull (tgt := 34) C dX8_codeWith_29 (by decide) ?_
      refine x_aload (j := 0) C dX8_codeWith_34 rfl ?_
      by_cases g36_2 : w29 < 128
      case neg => rw [if_neg g36_2] at h; cases h
      rw [if_pos g36_2] at h
      refine gf8_117 C dX8_codeWith_36 g36_2 ?_
      refine x_istore (i := 5) (ls' := [(5, .int ((s18.1 11 w29))), (4, .ref (G.2.1 4 w29)), (3, .ref (G.2.1 2 w24)), (0, .ref (G.2.1 0 0)), (1, .ref (G.2.1 12 p1)), (2, .int (p2))]) C dX8_codeWith_39 (Nat.le_of_ble_eq_true rfl) rfl ?_
      refine x_aload (j := 1) C dX8_codeWith_41 rfl ?_
      refine x_aload_n (j := 4) C dX8_codeWith_43 rfl rfl ?_
      refine gf8_299 C dX8_codeWith_44 g2_1 ?_
      refine pf8_117 C dX8_codeWith_47 g36_2 ?_
      refine x_aload_n (j := 2) C dX8_codeWith_50 rfl rfl ?_
      refine x_iload_n (j := 5) C dX8_codeWith_51 rfl rfl ?_
      by_cases g52_3 : w24 < 8
      case neg => rw [if_neg g52_3] at h; cases h
      rw [if_pos g52_3] at h
      obtain ⟨⟨r52, s52⟩, e52, h⟩ := Option.bind_eq_some_iff.mp h
      try dsimp only at h
      refine k8_139 C dX8_codeWith_52 e52 g52_3 (x_room R rfl) (Nat.le_of_ble_eq_true rfl) ?_
      refine x_istore (i := 6) (ls' := [(6, .int (r52)), (5, .int ((s18.1 11 w29))), (4, .ref (G.2.1 4 w29)), (3, .ref (G.2.1 2 w24)), (0, .ref (G.2.1 0 0)), (1, .ref (G.2.1 12 p1)), (2, .int (p2))]) C dX8_codeWith_55 (Nat.le_of_ble_eq_true rfl) rfl ?_
      refine x_aload (j := 2) C dX8_codeWith_57 rfl ?_
      refine x_iload (j := 1) C dX8_codeWith_59 rfl ?_
      refine pf8_117 C dX8_codeWith_61 g36_2 ?_
      refine x_iload (j := 0) C dX8_codeWith_64 rfl ?_
      cases h
      exact x_iret C dX8_codeWith_66
theorem c8_codeWith (l : Launch) (G : xG) {N : Nat} {p1 : Nat} {p2 : Int32} {s : cS} {r : Int32} {s1 : cS} (h : f8_codeWith N p1 p2 s = some (r, s1)) : xMet l yX8_codeWith (x_ws yX8_codeWith cX8_codeWith 7 (some .int)) (xrm 3 66) G cdom [.ref (G.2.1 0 0), .ref (G.2.1 12 p1), .int (p2)] (encC G s) (some (.int r)) (encC G s1) := by
  refine xMet.of (by decide +kernel) (Nat.le_of_ble_eq_true rfl) ?_
  rintro ⟨M, G', dom', n'⟩ e1 R e3 e4 e5 C
  change G' = G at e3; change dom' = cdom at e4; change n' = 7 at e5
  subst e3; subst e4; subst e5
  exact t8_codeWith C R h
theorem k8_292 {M : xM} {G : xG} {n : Nat} {rv : Option Value} {E' : xE} {cc : ByteArray} {ret : Option FieldType} {pc : Nat} {ls : List (Nat × Value)} {st : List Value} {N : Nat} {p1 : Nat} {p2 : Int32} {s s1 : cS} {r : Int32} (C : xC (M, G, cdom, n) RX8 cc ret) (d : decode cc pc = .ok (.invokevirtual 292, 3)) (h : f8_codeWith N p1 p2 s = some (r, s1)) (hR : (xrm 3 66).frames + 1 ≤ (xR (M, G, cdom, n)).frames ∧ 8 + (7 + 11) + (xrm 3 66).locals ≤ (xR (M, G, cdom, n)).locals) (hw : (st.map fun v => v.category).sum ≤ 8) (k : X (M, G, cdom, n) rv E' (encC G s1) (pc + 3) ls (.int r :: st)) : X (M, G, cdom, n) rv E' (encC G s) pc ls (.int (p2) :: .ref (G.2.1 12 p1) :: .ref (G.2.1 0 0) :: st) :=
  x_callV (As := [.ref (G.2.1 12 p1), .int (p2)]) (n := 2) C d (c8_codeWith (xl (M, G, cdom, n)) G h) lk635 lk637 lk41 lk78 lk638 ⟨rfl, rfl⟩ ⟨by decide +kernel, by decide +kernel, by decide +kernel⟩ rfl hR rfl rfl rfl rfl hw k
set_option maxRecDepth 100000 in
theorem t8_isShownBy {M : xM} {G : xG} {N : Nat} {p1 : Nat} {p2 : Int32} (C : xC (M, G, cdom, 4) RX8 cX8_isShownBy (some .boolean)) (R : xR (M, G, cdom, 4) = xrm 4 92) {s : cS} {r : Int32} {s1 : cS} (h : f8_isShownBy N p1 p2 s = some (r, s1)) : X (M, G, cdom, 4) (some (.int r)) (encC G s1) (encC G s) 0 [(0, .ref (G.2.1 0 0)), (1, .ref (G.2.1 12 p1)), (2, .int (p2))] [] := by
  unfold f8_isShownBy at h
  refine x_aload_n (j := 0) C dX8_isShownBy_0 rfl rfl ?_
  refine x_aload_n (j := 1) C dX8_isShownBy_1 rfl rfl ?_
  by_cases g2_1 : p1 < 10
  case neg => rw [if_neg g2_1] at h; cases h
  rw [if_pos g2_1] at h
  refine gf8_289 C dX8_isShownBy_2 g2_1 ?_
  obtain ⟨⟨r5, s5⟩, e5, h⟩ := Option.bind_eq_some_iff.mp h
  try dsimp only at h
  refine k8_83 C dX8_isShownBy_5 e5 (x_room R rfl) (Nat.le_of_ble_eq_true rfl) ?_
  refine x_astore_nq (i := 3) (ls' := [(3, va_rf (Option.map (G.2.1 2) r5)), (0, .ref (G.2.1 0 0)), (1, .ref (G.2.1 12 p1)), (2, .int (p2))]) C (Option.map (G.2.1 2) r5) dX8_isShownBy_8 rfl (Nat.le_of_ble_eq_true rfl) rfl ?_
  refine x_aload_nq (j := 0) C (Option.map (G.2.1 2) r5) dX8_isShownBy_9 rfl rfl ?_
  cases r5 with
  | none =>
    try dsimp only at h
    change X (M, G, cdom, 4) _ _ _ 10 [(3, .null), (0, .ref (G.2.1 0 0)), (1, .ref (G.2.1 12 p1)), (2, .int (p2))] [.null]
    refine x_ifnullN (tgt := 31) C dX8_isShownBy_10 (by decide) ?_
    refine x_iconst (v := 0) C dX8_isShownBy_31 (by decide) ?_
    cases h
    exact x_zret C dX8_isShownBy_32 rfl
  | some w10 =>
    try dsimp only at h
    change X (M, G, cdom, 4) _ _ _ 10 [(3, .ref (G.2.1 2 w10)), (0, .ref (G.2.1 0 0)), (1, .ref (G.2.1 12 p1)), (2, .int (p2))] [.ref (G.2.1 2 w10)]
    refine x_ifnull C dX8_isShownBy_10 ?_
    refine x_aload_n (j := 1) C dX8_isShownBy_13 rfl rfl ?_
    refine x_aload_n (j := 2) C dX8_isShownBy_14 rfl rfl ?_
    refine x_iload_n (j := 3) C dX8_isShownBy_15 rfl rfl ?_
    obtain ⟨⟨r16, s16⟩, e16, h⟩ := Option.bind_eq_some_iff.mp h
    try dsimp only at h
    refine k8_292 C dX8_isShownBy_16 e16 (x_room R rfl) (Nat.le_of_ble_eq_true rfl) ?_
    refine x_aload_n (j := 0) C dX8_isShownBy_19 rfl rfl ?_
    refine x_iload_n (j := 3) C dX8_isShownBy_20 rfl rfl ?_
    by_cases g21_2 : w10 < 8
    case neg => rw [if_neg g21_2] at h; cases h
    rw [if_pos g21_2] at h
    obtain ⟨⟨r21, s21⟩, e21, h⟩ := Option.bind_eq_some_iff.mp h
    try dsimp only at h
    refine k8_139 C dX8_isShownBy_21 e21 g21_2 (x_room R rfl) (Nat.le_of_ble_eq_true rfl) ?_
    refine x_icmp_eq (tgt := 31) C dX8_isShownBy_24 (by decide) (fun c24 => ?_) (fun c24 => ?_)
    · rw [if_pos c24] at h
      refine x_iconst (v := 0) C dX8_isShownBy_31 (by decide) ?_
      cases h
      exact x_zret C dX8_isShownBy_32 rfl
    · rw [if_neg c24] at h
      refine x_iconst (v := 1) C dX8_isShownBy_27 (by decide) ?_
      refine x_goto (tgt := 32) C dX8_isShownBy_28 (by decide) ?_
      cases h
      exact x_zret C dX8_isShownBy_32 rfl
theorem c8_isShownBy (l : Launch) (G : xG) {N : Nat} {p1 : Nat} {p2 : Int32} {s : cS} {r : Int32} {s1 : cS} (h : f8_isShownBy N p1 p2 s = some (r, s1)) : xMet l yX8_isShownBy (x_ws yX8_isShownBy cX8_isShownBy 4 (some .boolean)) (xrm 4 92) G cdom [.ref (G.2.1 0 0), .ref (G.2.1 12 p1), .int (p2)] (encC G s) (some (.int r)) (encC G s1) := by
  refine xMet.of (by decide +kernel) (Nat.le_of_ble_eq_true rfl) ?_
  rintro ⟨M, G', dom', n'⟩ e1 R e3 e4 e5 C
  change G' = G at e3; change dom' = cdom at e4; change n' = 4 at e5
  subst e3; subst e4; subst e5
  exact t8_isShownBy C R h
theorem k8_233 {M : xM} {G : xG} {n : Nat} {rv : Option Value} {E' : xE} {cc : ByteArray} {ret : Option FieldType} {pc : Nat} {ls : List (Nat × Value)} {st : List Value} {N : Nat} {p1 : Nat} {p2 : Int32} {s s1 : cS} {r : Int32} (C : xC (M, G, cdom, n) RX8 cc ret) (d : decode cc pc = .ok (.invokevirtual 233, 3)) (h : f8_isShownBy N p1 p2 s = some (r, s1)) (hR : (xrm 4 92).frames + 1 ≤ (xR (M, G, cdom, n)).frames ∧ 8 + (4 + 11) + (xrm 4 92).locals ≤ (xR (M, G, cdom, n)).locals) (hw : (st.map fun v => v.category).sum ≤ 8) (k : X (M, G, cdom, n) rv E' (encC G s1) (pc + 3) ls (.int r :: st)) : X (M, G, cdom, n) rv E' (encC G s) pc ls (.int (p2) :: .ref (G.2.1 12 p1) :: .ref (G.2.1 0 0) :: st) :=
  x_callV (As := [.ref (G.2.1 12 p1), .int (p2)]) (n := 2) C d (c8_isShownBy (xl (M, G, cdom, n)) G h) lk631 lk633 lk40 lk78 lk634 ⟨rfl, rfl⟩ ⟨by decide +kernel, by decide +kernel, by decide +kernel⟩ rfl hR rfl rfl rfl rfl hw k
set_option maxRecDepth 100000 in
theorem t8_shown_l27b {M : xM} {G : xG} {N : Nat} {p1 : Int32} (C : xC (M, G, cdom, 4) RX8 cX8_shown (some .int)) (R : xR (M, G, cdom, 4) = xrm 5 115) {k27 : Nat → Int32 → cS → Option (Int32 × cS)} (hk27 : ∀ (a2 : Nat) (a3 : Int32) (s : cS) (r : Int32) (s1 : cS), k27 a2 a3 s = some (r, s1) → X (M, G, cdom, 4) (some (.int r)) (encC G s1) (encC G s) 27 [(0, .ref (G.2.1 0 0)), (2, .ref (G.2.1 12 a2)), (3, .int (a3))] []) {a2 : Nat} {a3 : Int32} {s : cS} {r : Int32} {s1 : cS} (h : f8_shown_l27b N p1 k27 a2 a3 s = some (r, s1)) : X (M, G, cdom, 4) (some (.int r)) (encC G s1) (encC G s) 27 [(0, .ref (G.2.1 0 0)), (2, .ref (G.2.1 12 a2)), (3, .int (a3))] [] := by
  unfold f8_shown_l27b at h
  refine x_iload_n (j := 2) C dX8_shown_27 rfl rfl ?_
  refine x_aload_n (j := 0) C dX8_shown_28 rfl rfl ?_
  refine gf8_56 C dX8_shown_29 ?_
  refine x_icmp_gt (tgt := 52) C dX8_shown_32 (by decide) (fun c32 => ?_) (fun c32 => ?_)
  · rw [if_pos c32] at h
    refine x_bipush (v := (-2)) C dX8_shown_52 (by decide) ?_
    cases h
    exact x_iret C dX8_shown_54
  · rw [if_neg c32] at h
    refine x_aload_n (j := 0) C dX8_shown_35 rfl rfl ?_
    refine x_aload_n (j := 1) C dX8_shown_36 rfl rfl ?_
    refine x_iload_n (j := 2) C dX8_shown_37 rfl rfl ?_
    obtain ⟨⟨r38, s38⟩, e38, h⟩ := Option.bind_eq_some_iff.mp h
    try dsimp only at h
    refine k8_233 C dX8_shown_38 e38 (x_room R rfl) (Nat.le_of_ble_eq_true rfl) ?_
    refine x_if_eq (tgt := 46) C dX8_shown_41 (by decide) (fun c41 => ?_) (fun c41 => ?_)
    · rw [if_pos c41] at h
      refine x_iinc (j := 2) (v := (a3 + 1)) (ls' := [(3, .int ((a3 + 1))), (0, .ref (G.2.1 0 0)), (2, .ref (G.2.1 12 a2))]) C dX8_shown_46 rfl rfl (Nat.le_of_ble_eq_true rfl) rfl ?_
      refine x_goto (tgt := 27) C dX8_shown_49 (by decide) ?_
      refine x_sub (ls' := [(0, .ref (G.2.1 0 0)), (2, .ref (G.2.1 12 a2)), (3, .int ((a3 + 1)))]) [1, 2, 0] rfl ?_
      exact hk27 _ _ _ _ _ h
    · rw [if_neg c41] at h
      refine x_iload_n (j := 2) C dX8_shown_44 rfl rfl ?_
      cases h
      exact x_iret C dX8_shown_45
theorem t8_shown_l27 {M : xM} {G : xG} {N : Nat} {p1 : Int32} (C : xC (M, G, cdom, 4) RX8 cX8_shown (some .int)) (R : xR (M, G, cdom, 4) = xrm 5 115) (n : Nat) : ∀ (a2 : Nat) (a3 : Int32) (s : cS) (r : Int32) (s1 : cS), f8_shown_l27 N p1 n a2 a3 s = some (r, s1) → X (M, G, cdom, 4) (some (.int r)) (encC G s1) (encC G s) 27 [(0, .ref (G.2.1 0 0)), (2, .ref (G.2.1 12 a2)), (3, .int (a3))] [] := by
  induction n with
  | zero => intro a2 a3 s r s1 h; exact (Option.some_ne_none _ (Eq.symm h)).elim
  | succ n ih => intro a2 a3 s r s1 h; exact t8_shown_l27b (N := N) (p1 := p1) C R (k27 := f8_shown_l27 N p1 n) ih h
set_option maxRecDepth 100000 in
theorem t8_shown_b16 {M : xM} {G : xG} {N : Nat} {p1 : Int32} (C : xC (M, G, cdom, 4) RX8 cX8_shown (some .int)) (R : xR (M, G, cdom, 4) = xrm 5 115) {a2 : Option Nat} {b0 : Int32} {s : cS} {r : Int32} {s1 : cS} (h : f8_shown_b16 N p1 a2 b0 s = some (r, s1)) : X (M, G, cdom, 4) (some (.int r)) (encC G s1) (encC G s) 16 [(0, .ref (G.2.1 0 0)), (2, va_rf (Option.map (G.2.1 12) a2))] [.int (b0), .ref (G.2.1 0 0)] := by
  unfold f8_shown_b16 at h
  refine pf8_66 C dX8_shown_16 ?_
  refine x_aload_nq (j := 1) C (Option.map (G.2.1 12) a2) dX8_shown_19 rfl rfl ?_
  cases a2 with
  | none =>
    try dsimp only at h
    change X (M, G, cdom, 4) _ _ _ 20 [(0, .ref (G.2.1 0 0)), (2, .null)] [.null]
    refine x_ifnonnullN C dX8_shown_20 ?_
    refine x_iconst (v := (-1)) C dX8_shown_23 (by decide) ?_
    cases h
    exact x_iret C dX8_shown_24
  | some w20 =>
    try dsimp only at h
    change X (M, G, cdom, 4) _ _ _ 20 [(0, .ref (G.2.1 0 0)), (2, .ref (G.2.1 12 w20))] [.ref (G.2.1 12 w20)]
    refine x_ifnonnull (tgt := 25) C dX8_shown_20 (by decide) ?_
    refine x_iconst (v := 0) C dX8_shown_25 (by decide) ?_
    refine x_istore_n (i := 3) (ls' := [(3, .int (0)), (0, .ref (G.2.1 0 0)), (2, .ref (G.2.1 12 w20))]) C dX8_shown_26 rfl (Nat.le_of_ble_eq_true rfl) rfl ?_
    refine x_sub (ls' := [(0, .ref (G.2.1 0 0)), (2, .ref (G.2.1 12 w20)), (3, .int (0))]) [1, 2, 0] rfl ?_
    exact t8_shown_l27 (N := N) (p1 := p1) C R N _ _ _ _ _ h
set_option maxRecDepth 100000 in
theorem t8_shown {M : xM} {G : xG} {N : Nat} {p1 : Int32} (C : xC (M, G, cdom, 4) RX8 cX8_shown (some .int)) (R : xR (M, G, cdom, 4) = xrm 5 115) {s : cS} {r : Int32} {s1 : cS} (h : f8_shown N p1 s = some (r, s1)) : X (M, G, cdom, 4) (some (.int r)) (encC G s1) (encC G s) 0 [(0, .ref (G.2.1 0 0)), (1, .int (p1))] [] := by
  unfold f8_shown at h
  refine x_aload_n (j := 0) C dX8_shown_0 rfl rfl ?_
  refine x_iload_n (j := 1) C dX8_shown_1 rfl rfl ?_
  obtain ⟨⟨r2, s2⟩, e2, h⟩ := Option.bind_eq_some_iff.mp h
  try dsimp only at h
  refine k8_225 C dX8_shown_2 e2 (x_room R rfl) (Nat.le_of_ble_eq_true rfl) ?_
  refine x_astore_nq (i := 2) (ls' := [(2, va_rf (Option.map (G.2.1 12) r2)), (0, .ref (G.2.1 0 0)), (1, .int (p1))]) C (Option.map (G.2.1 12) r2) dX8_shown_5 rfl (Nat.le_of_ble_eq_true rfl) rfl ?_
  refine x_aload_n (j := 1) C dX8_shown_6 rfl rfl ?_
  refine x_aload_nq (j := 0) C (Option.map (G.2.1 12) r2) dX8_shown_7 rfl rfl ?_
  cases r2 with
  | none =>
    try dsimp only at h
    change X (M, G, cdom, 4) _ _ _ 8 [(2, .null), (0, .ref (G.2.1 0 0)), (1, .int (p1))] [.null, .ref (G.2.1 0 0)]
    refine x_ifnonnullN C dX8_shown_8 ?_
    refine x_iconst (v := 2) C dX8_shown_11 (by decide) ?_
    refine x_goto (tgt := 16) C dX8_shown_12 (by decide) ?_
    refine x_sub (ls' := [(0, .ref (G.2.1 0 0)), (2, .null)]) [1, 0] rfl ?_
    exact t8_shown_b16 (N := N) (p1 := p1) C R (a2 := none) h
  | some w8 =>
    try dsimp only at h
    change X (M, G, cdom, 4) _ _ _ 8 [(2, .ref (G.2.1 12 w8)), (0, .ref (G.2.1 0 0)), (1, .int (p1))] [.ref (G.2.1 12 w8), .ref (G.2.1 0 0)]
    refine x_ifnonnull (tgt := 15) C dX8_shown_8 (by decide) ?_
    refine x_iconst (v := 0) C dX8_shown_15 (by decide) ?_
    refine x_sub (ls' := [(0, .ref (G.2.1 0 0)), (2, .ref (G.2.1 12 w8))]) [1, 0] rfl ?_
    exact t8_shown_b16 (N := N) (p1 := p1) C R (a2 := (some w8)) h
theorem c8_shown (l : Launch) (G : xG) {N : Nat} {p1 : Int32} {s : cS} {r : Int32} {s1 : cS} (h : f8_shown N p1 s = some (r, s1)) : xMet l yX8_shown (x_ws yX8_shown cX8_shown 4 (some .int)) (xrm 5 115) G cdom [.ref (G.2.1 0 0), .int (p1)] (encC G s) (some (.int r)) (encC G s1) := by
  refine xMet.of (by decide +kernel) (Nat.le_of_ble_eq_true rfl) ?_
  rintro ⟨M, G', dom', n'⟩ e1 R e3 e4 e5 C
  change G' = G at e3; change dom' = cdom at e4; change n' = 4 at e5
  subst e3; subst e4; subst e5
  exact t8_shown C R h
theorem k1_21_16 {M : xM} {G : xG} {n : Nat} {rv : Option Value} {E' : xE} {cc : ByteArray} {ret : Option FieldType} {pc : Nat} {ls : List (Nat × Value)} {st : List Value} {s : cS} {v : Int32} (C : xC (M, G, cdom, n) RX1 cc ret) (d : decode cc pc = .ok (.invokestatic 21, 3)) (hR : (xrm 0 0).frames + 1 ≤ (xR (M, G, cdom, n)).frames ∧ 8 + (4 + 11) + (xrm 0 0).locals ≤ (xR (M, G, cdom, n)).locals) (hw : (st.map fun v => v.category).sum ≤ 8) (k : X (M, G, cdom, n) rv E' (encC G (cfi s 26 1024 v)) (pc + 3) ls st) : X (M, G, cdom, n) rv E' (encC G s) pc ls (.int v :: .ref (G.2.1 16 0) :: st) :=
  x_callS (As := [.ref (G.2.1 16 0), .int v]) (n := 2) C d (fill_16 (xl (M, G, cdom, n)) G s v) lk647 lk648 lk89 lk649 ⟨rfl, rfl⟩ ⟨by decide +kernel, by decide +kernel, by decide +kernel⟩ rfl hR rfl hw k
theorem k1_21_18 {M : xM} {G : xG} {n : Nat} {rv : Option Value} {E' : xE} {cc : ByteArray} {ret : Option FieldType} {pc : Nat} {ls : List (Nat × Value)} {st : List Value} {s : cS} {v : Int32} (C : xC (M, G, cdom, n) RX1 cc ret) (d : decode cc pc = .ok (.invokestatic 21, 3)) (hR : (xrm 0 0).frames + 1 ≤ (xR (M, G, cdom, n)).frames ∧ 8 + (4 + 11) + (xrm 0 0).locals ≤ (xR (M, G, cdom, n)).locals) (hw : (st.map fun v => v.category).sum ≤ 8) (k : X (M, G, cdom, n) rv E' (encC G (cfi s 28 1024 v)) (pc + 3) ls st) : X (M, G, cdom, n) rv E' (encC G s) pc ls (.int v :: .ref (G.2.1 18 0) :: st) :=
  x_callS (As := [.ref (G.2.1 18 0), .int v]) (n := 2) C d (fill_18 (xl (M, G, cdom, n)) G s v) lk647 lk648 lk89 lk649 ⟨rfl, rfl⟩ ⟨by decide +kernel, by decide +kernel, by decide +kernel⟩ rfl hR rfl hw k
set_option maxRecDepth 100000 in
theorem t1_begin {M : xM} {G : xG} {N : Nat}  (C : xC (M, G, cdom, 1) RX1 cX1_begin none) (R : xR (M, G, cdom, 1) = xrm 1 23) {s : cS} {s1 : cS} (h : f1_begin N s = some s1) : X (M, G, cdom, 1) none (encC G s1) (encC G s) 0 [(0, .ref (G.2.1 15 0))] [] := by
  unfold f1_begin at h
  refine x_aload_n (j := 0) C dX1_begin_0 rfl rfl ?_
  refine gf1_11 C dX1_begin_1 ?_
  refine x_sipush (v := 1000) C dX1_begin_4 (by decide) ?_
  refine k1_21_16 C dX1_begin_7 (x_room R rfl) (Nat.le_of_ble_eq_true rfl) ?_
  refine x_aload_n (j := 0) C dX1_begin_10 rfl rfl ?_
  refine gf1_18 C dX1_begin_11 ?_
  refine x_iconst (v := 0) C dX1_begin_14 (by decide) ?_
  refine k1_21_18 C dX1_begin_15 (x_room R rfl) (Nat.le_of_ble_eq_true rfl) ?_
  refine x_aload_n (j := 0) C dX1_begin_18 rfl rfl ?_
  refine gf1_11 C dX1_begin_19 ?_
  refine x_iconst (v := 0) C dX1_begin_22 (by decide) ?_
  refine x_iconst (v := 0) C dX1_begin_23 (by decide) ?_
  refine cst16 C dX1_begin_24 (by decide) ?_
  refine x_aload_n (j := 0) C dX1_begin_25 rfl rfl ?_
  refine x_iconst (v := 0) C dX1_begin_26 (by decide) ?_
  refine pf1_27 C dX1_begin_27 ?_
  refine x_aload_n (j := 0) C dX1_begin_30 rfl rfl ?_
  refine x_iconst (v := 0) C dX1_begin_31 (by decide) ?_
  refine pf1_31 C dX1_begin_32 ?_
  cases h
  exact x_vret C dX1_begin_35
theorem c1_begin (l : Launch) (G : xG) {N : Nat}  {s : cS} {s1 : cS} (h : f1_begin N s = some s1) : xMet l yX1_begin (x_ws yX1_begin cX1_begin 1 none) (xrm 1 23) G cdom [.ref (G.2.1 15 0)] (encC G s) none (encC G s1) := by
  refine xMet.of (by decide +kernel) (Nat.le_of_ble_eq_true rfl) ?_
  rintro ⟨M, G', dom', n'⟩ e1 R e3 e4 e5 C
  change G' = G at e3; change dom' = cdom at e4; change n' = 1 at e5
  subst e3; subst e4; subst e5
  exact t1_begin C R h
set_option maxRecDepth 100000 in
theorem t8_faultsShownBy_l4b {M : xM} {G : xG} {N : Nat} {p1 : Int32} (C : xC (M, G, cdom, 5) RX8 cX8_faultsShownBy (some .int)) (R : xR (M, G, cdom, 5) = xrm 5 115) {k4 : Int32 → Int32 → cS → Option (Int32 × cS)} (hk4 : ∀ (a2 : Int32) (a3 : Int32) (s : cS) (r : Int32) (s1 : cS), k4 a2 a3 s = some (r, s1) → X (M, G, cdom, 5) (some (.int r)) (encC G s1) (encC G s) 4 [(0, .ref (G.2.1 0 0)), (1, .int (p1)), (2, .int (a2)), (3, .int (a3))] []) {a2 : Int32} {a3 : Int32} {s : cS} {r : Int32} {s1 : cS} (h : f8_faultsShownBy_l4b N p1 k4 a2 a3 s = some (r, s1)) : X (M, G, cdom, 5) (some (.int r)) (encC G s1) (encC G s) 4 [(0, .ref (G.2.1 0 0)), (1, .int (p1)), (2, .int (a2)), (3, .int (a3))] [] := by
  unfold f8_faultsShownBy_l4b at h
  refine x_iload_n (j := 3) C dX8_faultsShownBy_4 rfl rfl ?_
  refine x_aload_n (j := 0) C dX8_faultsShownBy_5 rfl rfl ?_
  refine gf8_63 C dX8_faultsShownBy_6 ?_
  refine x_icmp_ge (tgt := 46) C dX8_faultsShownBy_9 (by decide) (fun c9 => ?_) (fun c9 => ?_)
  · rw [if_pos c9] at h
    refine x_iload_n (j := 2) C dX8_faultsShownBy_46 rfl rfl ?_
    cases h
    exact x_iret C dX8_faultsShownBy_47
  · rw [if_neg c9] at h
    refine x_aload_n (j := 0) C dX8_faultsShownBy_12 rfl rfl ?_
    refine x_iload_n (j := 3) C dX8_faultsShownBy_13 rfl rfl ?_
    obtain ⟨⟨r14, s14⟩, e14, h⟩ := Option.bind_eq_some_iff.mp h
    try dsimp only at h
    refine k8_225 C dX8_faultsShownBy_14 e14 (x_room R rfl) (Nat.le_of_ble_eq_true rfl) ?_
    refine x_astoreq (i := 4) (ls' := [(4, va_rf (Option.map (G.2.1 12) r14)), (0, .ref (G.2.1 0 0)), (1, .int (p1)), (2, .int (a2)), (3, .int (a3))]) C (Option.map (G.2.1 12) r14) dX8_faultsShownBy_17 (Nat.le_of_ble_eq_true rfl) rfl ?_
    refine x_aloadq (j := 0) C (Option.map (G.2.1 12) r14) dX8_faultsShownBy_19 rfl ?_
    cases r14 with
    | none =>
      try dsimp only at h
      change X (M, G, cdom, 5) _ _ _ 21 [(4, .null), (0, .ref (G.2.1 0 0)), (1, .int (p1)), (2, .int (a2)), (3, .int (a3))] [.null]
      refine x_ifnullN (tgt := 40) C dX8_faultsShownBy_21 (by decide) ?_
      refine x_iinc (j := 4) (v := (a3 + 1)) (ls' := [(3, .int ((a3 + 1))), (4, .null), (0, .ref (G.2.1 0 0)), (1, .int (p1)), (2, .int (a2))]) C dX8_faultsShownBy_40 rfl rfl (Nat.le_of_ble_eq_true rfl) rfl ?_
      refine x_goto (tgt := 4) C dX8_faultsShownBy_43 (by decide) ?_
      refine x_sub (ls' := [(0, .ref (G.2.1 0 0)), (1, .int (p1)), (2, .int (a2)), (3, .int ((a3 + 1)))]) [2, 3, 4, 0] rfl ?_
      exact hk4 _ _ _ _ _ h
    | some w21 =>
      try dsimp only at h
      change X (M, G, cdom, 5) _ _ _ 21 [(4, .ref (G.2.1 12 w21)), (0, .ref (G.2.1 0 0)), (1, .int (p1)), (2, .int (a2)), (3, .int (a3))] [.ref (G.2.1 12 w21)]
      refine x_ifnull C dX8_faultsShownBy_21 ?_
      refine x_aload_n (j := 1) C dX8_faultsShownBy_24 rfl rfl ?_
      refine x_aload (j := 0) C dX8_faultsShownBy_25 rfl ?_
      refine x_iload_n (j := 2) C dX8_faultsShownBy_27 rfl rfl ?_
      obtain ⟨⟨r28, s28⟩, e28, h⟩ := Option.bind_eq_some_iff.mp h
      try dsimp only at h
      refine k8_233 C dX8_faultsShownBy_28 e28 (x_room R rfl) (Nat.le_of_ble_eq_true rfl) ?_
      refine x_if_eq (tgt := 40) C dX8_faultsShownBy_31 (by decide) (fun c31 => ?_) (fun c31 => ?_)
      · rw [if_pos c31] at h
        refine x_iinc (j := 4) (v := (a3 + 1)) (ls' := [(3, .int ((a3 + 1))), (4, .ref (G.2.1 12 w21)), (0, .ref (G.2.1 0 0)), (1, .int (p1)), (2, .int (a2))]) C dX8_faultsShownBy_40 rfl rfl (Nat.le_of_ble_eq_true rfl) rfl ?_
        refine x_goto (tgt := 4) C dX8_faultsShownBy_43 (by decide) ?_
        refine x_sub (ls' := [(0, .ref (G.2.1 0 0)), (1, .int (p1)), (2, .int (a2)), (3, .int ((a3 + 1)))]) [2, 3, 4, 0] rfl ?_
        exact hk4 _ _ _ _ _ h
      · rw [if_neg c31] at h
        refine x_iload_n (j := 3) C dX8_faultsShownBy_34 rfl rfl ?_
        refine x_iconst (v := 1) C dX8_faultsShownBy_35 (by decide) ?_
        refine x_iload_n (j := 4) C dX8_faultsShownBy_36 rfl rfl ?_
        refine x_ishl C dX8_faultsShownBy_37 ?_
        refine x_ior C dX8_faultsShownBy_38 ?_
        refine x_istore_n (i := 2) (ls' := [(2, .int ((a2 ||| (1 <<< (a3 &&& 31))))), (4, .ref (G.2.1 12 w21)), (0, .ref (G.2.1 0 0)), (1, .int (p1)), (3, .int (a3))]) C dX8_faultsShownBy_39 rfl (Nat.le_of_ble_eq_true rfl) rfl ?_
        refine x_iinc (j := 4) (v := (a3 + 1)) (ls' := [(3, .int ((a3 + 1))), (2, .int ((a2 ||| (1 <<< (a3 &&& 31))))), (4, .ref (G.2.1 12 w21)), (0, .ref (G.2.1 0 0)), (1, .int (p1))]) C dX8_faultsShownBy_40 rfl rfl (Nat.le_of_ble_eq_true rfl) rfl ?_
        refine x_goto (tgt := 4) C dX8_faultsShownBy_43 (by decide) ?_
        refine x_sub (ls' := [(0, .ref (G.2.1 0 0)), (1, .int (p1)), (2, .int ((a2 ||| (1 <<< (a3 &&& 31))))), (3, .int ((a3 + 1)))]) [3, 4, 1, 0] rfl ?_
        exact hk4 _ _ _ _ _ h
theorem t8_faultsShownBy_l4 {M : xM} {G : xG} {N : Nat} {p1 : Int32} (C : xC (M, G, cdom, 5) RX8 cX8_faultsShownBy (some .int)) (R : xR (M, G, cdom, 5) = xrm 5 115) (n : Nat) : ∀ (a2 : Int32) (a3 : Int32) (s : cS) (r : Int32) (s1 : cS), f8_faultsShownBy_l4 N p1 n a2 a3 s = some (r, s1) → X (M, G, cdom, 5) (some (.int r)) (encC G s1) (encC G s) 4 [(0, .ref (G.2.1 0 0)), (1, .int (p1)), (2, .int (a2)), (3, .int (a3))] [] := by
  induction n with
  | zero => intro a2 a3 s r s1 h; exact (Option.some_ne_none _ (Eq.symm h)).elim
  | succ n ih => intro a2 a3 s r s1 h; exact t8_faultsShownBy_l4b (N := N) (p1 := p1) C R (k4 := f8_faultsShownBy_l4 N p1 n) ih h
set_option maxRecDepth 100000 in
theorem t8_faultsShownBy {M : xM} {G : xG} {N : Nat} {p1 : Int32} (C : xC (M, G, cdom, 5) RX8 cX8_faultsShownBy (some .int)) (R : xR (M, G, cdom, 5) = xrm 5 115) {s : cS} {r : Int32} {s1 : cS} (h : f8_faultsShownBy N p1 s = some (r, s1)) : X (M, G, cdom, 5) (some (.int r)) (encC G s1) (encC G s) 0 [(0, .ref (G.2.1 0 0)), (1, .int (p1))] [] := by
  unfold f8_faultsShownBy at h
  refine x_iconst (v := 0) C dX8_faultsShownBy_0 (by decide) ?_
  refine x_istore_n (i := 2) (ls' := [(2, .int (0)), (0, .ref (G.2.1 0 0)), (1, .int (p1))]) C dX8_faultsShownBy_1 rfl (Nat.le_of_ble_eq_true rfl) rfl ?_
  refine x_iconst (v := 0) C dX8_faultsShownBy_2 (by decide) ?_
  refine x_istore_n (i := 3) (ls' := [(3, .int (0)), (2, .int (0)), (0, .ref (G.2.1 0 0)), (1, .int (p1))]) C dX8_faultsShownBy_3 rfl (Nat.le_of_ble_eq_true rfl) rfl ?_
  refine x_sub (ls' := [(0, .ref (G.2.1 0 0)), (1, .int (p1)), (2, .int (0)), (3, .int (0))]) [2, 3, 1, 0] rfl ?_
  exact t8_faultsShownBy_l4 (N := N) (p1 := p1) C R N _ _ _ _ _ h
theorem c8_faultsShownBy (l : Launch) (G : xG) {N : Nat} {p1 : Int32} {s : cS} {r : Int32} {s1 : cS} (h : f8_faultsShownBy N p1 s = some (r, s1)) : xMet l yX8_faultsShownBy (x_ws yX8_faultsShownBy cX8_faultsShownBy 5 (some .int)) (xrm 5 115) G cdom [.ref (G.2.1 0 0), .int (p1)] (encC G s) (some (.int r)) (encC G s1) := by
  refine xMet.of (by decide +kernel) (Nat.le_of_ble_eq_true rfl) ?_
  rintro ⟨M, G', dom', n'⟩ e1 R e3 e4 e5 C
  change G' = G at e3; change dom' = cdom at e4; change n' = 5 at e5
  subst e3; subst e4; subst e5
  exact t8_faultsShownBy C R h
set_option maxRecDepth 100000 in
theorem t1_addMask {M : xM} {G : xG} {N : Nat} {p1 : Int32} (C : xC (M, G, cdom, 2) RX1 cX1_addMask none) (R : xR (M, G, cdom, 2) = xrm 0 0) {s : cS} {s1 : cS} (h : f1_addMask N p1 s = some s1) : X (M, G, cdom, 2) none (encC G s1) (encC G s) 0 [(0, .ref (G.2.1 15 0)), (1, .int (p1))] [] := by
  unfold f1_addMask at h
  refine x_iload_n (j := 1) C dX1_addMask_0 rfl rfl ?_
  refine x_if_le (tgt := 22) C dX1_addMask_1 (by decide) (fun c1 => ?_) (fun c1 => ?_)
  · rw [if_pos c1] at h
    cases h
    exact x_vret C dX1_addMask_22
  · rw [if_neg c1] at h
    refine x_iload_n (j := 1) C dX1_addMask_4 rfl rfl ?_
    refine x_aload_n (j := 0) C dX1_addMask_5 rfl rfl ?_
    refine gf1_18 C dX1_addMask_6 ?_
    refine cal18 C dX1_addMask_9 ?_
    refine x_icmp_ge (tgt := 22) C dX1_addMask_10 (by decide) (fun c10 => ?_) (fun c10 => ?_)
    · rw [if_pos c10] at h
      cases h
      exact x_vret C dX1_addMask_22
    · rw [if_neg c10] at h
      refine x_aload_n (j := 0) C dX1_addMask_13 rfl rfl ?_
      refine gf1_18 C dX1_addMask_14 ?_
      refine x_iload_n (j := 1) C dX1_addMask_17 rfl rfl ?_
      by_cases g18_1 : inB p1 1024 = true
      case neg => rw [if_neg g18_1] at h; cases h
      rw [if_pos g18_1] at h
      refine cld18 C dX1_addMask_18 g18_1 ?_
      refine x_if_eq (tgt := 23) C dX1_addMask_19 (by decide) (fun c19 => ?_) (fun c19 => ?_)
      · rw [if_pos c19] at h
        refine x_aload_n (j := 0) C dX1_addMask_23 rfl rfl ?_
        refine gf1_27 C dX1_addMask_24 ?_
        refine x_if_lt (tgt := 42) C dX1_addMask_27 (by decide) (fun c27 => ?_) (fun c27 => ?_)
        · rw [if_pos c27] at h
          cases h
          exact x_vret C dX1_addMask_42
        · rw [if_neg c27] at h
          refine x_aload_n (j := 0) C dX1_addMask_30 rfl rfl ?_
          refine gf1_27 C dX1_addMask_31 ?_
          refine x_aload_n (j := 0) C dX1_addMask_34 rfl rfl ?_
          refine gf1_15 C dX1_addMask_35 ?_
          refine cal17 C dX1_addMask_38 ?_
          refine x_icmp_lt (tgt := 43) C dX1_addMask_39 (by decide) (fun c39 => ?_) (fun c39 => ?_)
          · rw [if_pos c39] at h
            refine x_aload_n (j := 0) C dX1_addMask_43 rfl rfl ?_
            refine gf1_18 C dX1_addMask_44 ?_
            refine x_iload_n (j := 1) C dX1_addMask_47 rfl rfl ?_
            refine x_iconst (v := 1) C dX1_addMask_48 (by decide) ?_
            refine cst18 C dX1_addMask_49 g18_1 ?_
            refine x_aload_n (j := 0) C dX1_addMask_50 rfl rfl ?_
            refine gf1_15 C dX1_addMask_51 ?_
            refine x_aload_n (j := 0) C dX1_addMask_54 rfl rfl ?_
            refine gf1_27 C dX1_addMask_55 ?_
            refine x_iload_n (j := 1) C dX1_addMask_58 rfl rfl ?_
            by_cases g59_2 : inB ((cu s 28 (p1.toNatClampNeg) 1).1 24 0) 1024 = true
            case neg => rw [if_neg g59_2] at h; cases h
            rw [if_pos g59_2] at h
            refine cst17 C dX1_addMask_59 g59_2 ?_
            refine x_aload_n (j := 0) C dX1_addMask_60 rfl rfl ?_
            refine x_dup C dX1_addMask_61 rfl ?_
            refine gf1_27 C dX1_addMask_62 ?_
            refine x_iconst (v := 1) C dX1_addMask_65 (by decide) ?_
            refine x_iadd C dX1_addMask_66 ?_
            refine pf1_27 C dX1_addMask_67 ?_
            refine x_aload_n (j := 0) C dX1_addMask_70 rfl rfl ?_
            refine x_dup C dX1_addMask_71 rfl ?_
            refine gf1_31 C dX1_addMask_72 ?_
            refine x_iload_n (j := 1) C dX1_addMask_75 rfl rfl ?_
            refine x_ior C dX1_addMask_76 ?_
            refine pf1_31 C dX1_addMask_77 ?_
            cases h
            exact x_vret C dX1_addMask_80
          · rw [if_neg c39] at h
            cases h
            exact x_vret C dX1_addMask_42
      · rw [if_neg c19] at h
        cases h
        exact x_vret C dX1_addMask_22
theorem c1_addMask (l : Launch) (G : xG) {N : Nat} {p1 : Int32} {s : cS} {s1 : cS} (h : f1_addMask N p1 s = some s1) : xMet l yX1_addMask (x_ws yX1_addMask cX1_addMask 2 none) (xrm 0 0) G cdom [.ref (G.2.1 15 0), .int (p1)] (encC G s) none (encC G s1) := by
  refine xMet.of (by decide +kernel) (Nat.le_of_ble_eq_true rfl) ?_
  rintro ⟨M, G', dom', n'⟩ e1 R e3 e4 e5 C
  change G' = G at e3; change dom' = cdom at e4; change n' = 2 at e5
  subst e3; subst e4; subst e5
  exact t1_addMask C R h
set_option maxRecDepth 100000 in
theorem t1_growFrom_l25b {M : xM} {G : xG} {N : Nat} {p1 : Int32} (C : xC (M, G, cdom, 5) RX1 cX1_growFrom none) (R : xR (M, G, cdom, 5) = xrm 0 0) {k25 : Int32 → Int32 → cS → Option (cS)} (hk25 : ∀ (a2 : Int32) (a3 : Int32) (s : cS) (s1 : cS), k25 a2 a3 s = some s1 → X (M, G, cdom, 5) none (encC G s1) (encC G s) 25 [(0, .ref (G.2.1 15 0)), (1, .int (p1)), (2, .int (a2)), (3, .int (a3))] []) {a2 : Int32} {a3 : Int32} {s : cS} {s1 : cS} (h : f1_growFrom_l25b N p1 k25 a2 a3 s = some s1) : X (M, G, cdom, 5) none (encC G s1) (encC G s) 25 [(0, .ref (G.2.1 15 0)), (1, .int (p1)), (2, .int (a2)), (3, .int (a3))] [] := by
  unfold f1_growFrom_l25b at h
  refine x_iload_n (j := 3) C dX1_growFrom_25 rfl rfl ?_
  refine x_aload_n (j := 0) C dX1_growFrom_26 rfl rfl ?_
  refine gf1_27 C dX1_growFrom_27 ?_
  refine x_icmp_ge (tgt := 92) C dX1_growFrom_30 (by decide) (fun c30 => ?_) (fun c30 => ?_)
  · rw [if_pos c30] at h
    cases h
    exact x_vret C dX1_growFrom_92
  · rw [if_neg c30] at h
    refine x_iload_n (j := 3) C dX1_growFrom_33 rfl rfl ?_
    refine x_aload_n (j := 0) C dX1_growFrom_34 rfl rfl ?_
    refine gf1_15 C dX1_growFrom_35 ?_
    refine cal17 C dX1_growFrom_38 ?_
    refine x_icmp_ge (tgt := 92) C dX1_growFrom_39 (by decide) (fun c39 => ?_) (fun c39 => ?_)
    · rw [if_pos c39] at h
      cases h
      exact x_vret C dX1_growFrom_92
    · rw [if_neg c39] at h
      refine x_iload_n (j := 1) C dX1_growFrom_42 rfl rfl ?_
      refine x_aload_n (j := 0) C dX1_growFrom_43 rfl rfl ?_
      refine gf1_15 C dX1_growFrom_44 ?_
      refine x_iload_n (j := 3) C dX1_growFrom_47 rfl rfl ?_
      by_cases g48_1 : inB a3 1024 = true
      case neg => rw [if_neg g48_1] at h; cases h
      rw [if_pos g48_1] at h
      refine cld17 C dX1_growFrom_48 g48_1 ?_
      refine x_ior C dX1_growFrom_49 ?_
      refine x_istore (i := 4) (ls' := [(4, .int ((p1 ||| (s.1 27 a3.toNatClampNeg)))), (0, .ref (G.2.1 15 0)), (1, .int (p1)), (2, .int (a2)), (3, .int (a3))]) C dX1_growFrom_50 (Nat.le_of_ble_eq_true rfl) rfl ?_
      refine x_iload (j := 0) C dX1_growFrom_52 rfl ?_
      refine x_if_lt (tgt := 86) C dX1_growFrom_54 (by decide) (fun c54 => ?_) (fun c54 => ?_)
      · rw [if_pos c54] at h
        refine x_iinc (j := 4) (v := (a3 + 1)) (ls' := [(3, .int ((a3 + 1))), (4, .int ((p1 ||| (s.1 27 a3.toNatClampNeg)))), (0, .ref (G.2.1 15 0)), (1, .int (p1)), (2, .int (a2))]) C dX1_growFrom_86 rfl rfl (Nat.le_of_ble_eq_true rfl) rfl ?_
        refine x_goto (tgt := 25) C dX1_growFrom_89 (by decide) ?_
        refine x_sub (ls' := [(0, .ref (G.2.1 15 0)), (1, .int (p1)), (2, .int (a2)), (3, .int ((a3 + 1)))]) [2, 3, 4, 0] rfl ?_
        exact hk25 _ _ _ _ h
      · rw [if_neg c54] at h
        refine x_iload (j := 0) C dX1_growFrom_57 rfl ?_
        refine x_aload_n (j := 1) C dX1_growFrom_59 rfl rfl ?_
        refine gf1_11 C dX1_growFrom_60 ?_
        refine cal16 C dX1_growFrom_63 ?_
        refine x_icmp_ge (tgt := 86) C dX1_growFrom_64 (by decide) (fun c64 => ?_) (fun c64 => ?_)
        · rw [if_pos c64] at h
          refine x_iinc (j := 4) (v := (a3 + 1)) (ls' := [(3, .int ((a3 + 1))), (4, .int ((p1 ||| (s.1 27 a3.toNatClampNeg)))), (0, .ref (G.2.1 15 0)), (1, .int (p1)), (2, .int (a2))]) C dX1_growFrom_86 rfl rfl (Nat.le_of_ble_eq_true rfl) rfl ?_
          refine x_goto (tgt := 25) C dX1_growFrom_89 (by decide) ?_
          refine x_sub (ls' := [(0, .ref (G.2.1 15 0)), (1, .int (p1)), (2, .int (a2)), (3, .int ((a3 + 1)))]) [2, 3, 4, 0] rfl ?_
          exact hk25 _ _ _ _ h
        · rw [if_neg c64] at h
          refine x_iload_n (j := 3) C dX1_growFrom_67 rfl rfl ?_
          refine x_aload_n (j := 1) C dX1_growFrom_68 rfl rfl ?_
          refine gf1_11 C dX1_growFrom_69 ?_
          refine x_iload (j := 0) C dX1_growFrom_72 rfl ?_
          by_cases g74_2 : inB (p1 ||| (s.1 27 a3.toNatClampNeg)) 1024 = true
          case neg => rw [if_neg g74_2] at h; cases h
          rw [if_pos g74_2] at h
          refine cld16 C dX1_growFrom_74 g74_2 ?_
          refine x_icmp_ge (tgt := 86) C dX1_growFrom_75 (by decide) (fun c75 => ?_) (fun c75 => ?_)
          · rw [if_pos c75] at h
            refine x_iinc (j := 4) (v := (a3 + 1)) (ls' := [(3, .int ((a3 + 1))), (4, .int ((p1 ||| (s.1 27 a3.toNatClampNeg)))), (0, .ref (G.2.1 15 0)), (1, .int (p1)), (2, .int (a2))]) C dX1_growFrom_86 rfl rfl (Nat.le_of_ble_eq_true rfl) rfl ?_
            refine x_goto (tgt := 25) C dX1_growFrom_89 (by decide) ?_
            refine x_sub (ls' := [(0, .ref (G.2.1 15 0)), (1, .int (p1)), (2, .int (a2)), (3, .int ((a3 + 1)))]) [2, 3, 4, 0] rfl ?_
            exact hk25 _ _ _ _ h
          · rw [if_neg c75] at h
            refine x_aload_n (j := 1) C dX1_growFrom_78 rfl rfl ?_
            refine gf1_11 C dX1_growFrom_79 ?_
            refine x_iload (j := 0) C dX1_growFrom_82 rfl ?_
            refine x_iload_n (j := 3) C dX1_growFrom_84 rfl rfl ?_
            refine cst16 C dX1_growFrom_85 g74_2 ?_
            refine x_iinc (j := 4) (v := (a3 + 1)) (ls' := [(3, .int ((a3 + 1))), (4, .int ((p1 ||| (s.1 27 a3.toNatClampNeg)))), (0, .ref (G.2.1 15 0)), (1, .int (p1)), (2, .int (a2))]) C dX1_growFrom_86 rfl rfl (Nat.le_of_ble_eq_true rfl) rfl ?_
            refine x_goto (tgt := 25) C dX1_growFrom_89 (by decide) ?_
            refine x_sub (ls' := [(0, .ref (G.2.1 15 0)), (1, .int (p1)), (2, .int (a2)), (3, .int ((a3 + 1)))]) [2, 3, 4, 0] rfl ?_
            exact hk25 _ _ _ _ h
theorem t1_growFrom_l25 {M : xM} {G : xG} {N : Nat} {p1 : Int32} (C : xC (M, G, cdom, 5) RX1 cX1_growFrom none) (R : xR (M, G, cdom, 5) = xrm 0 0) (n : Nat) : ∀ (a2 : Int32) (a3 : Int32) (s : cS) (s1 : cS), f1_growFrom_l25 N p1 n a2 a3 s = some s1 → X (M, G, cdom, 5) none (encC G s1) (encC G s) 25 [(0, .ref (G.2.1 15 0)), (1, .int (p1)), (2, .int (a2)), (3, .int (a3))] [] := by
  induction n with
  | zero => intro a2 a3 s s1 h; exact (Option.some_ne_none _ (Eq.symm h)).elim
  | succ n ih => intro a2 a3 s s1 h; exact t1_growFrom_l25b (N := N) (p1 := p1) C R (k25 := f1_growFrom_l25 N p1 n) ih h
set_option maxRecDepth 100000 in
theorem t1_growFrom {M : xM} {G : xG} {N : Nat} {p1 : Int32} (C : xC (M, G, cdom, 5) RX1 cX1_growFrom none) (R : xR (M, G, cdom, 5) = xrm 0 0) {s : cS} {s1 : cS} (h : f1_growFrom N p1 s = some s1) : X (M, G, cdom, 5) none (encC G s1) (encC G s) 0 [(0, .ref (G.2.1 15 0)), (1, .int (p1))] [] := by
  unfold f1_growFrom at h
  refine x_iload_n (j := 1) C dX1_growFrom_0 rfl rfl ?_
  refine x_if_lt (tgt := 13) C dX1_growFrom_1 (by decide) (fun c1 => ?_) (fun c1 => ?_)
  · rw [if_pos c1] at h
    cases h
    exact x_vret C dX1_growFrom_13
  · rw [if_neg c1] at h
    refine x_iload_n (j := 1) C dX1_growFrom_4 rfl rfl ?_
    refine x_aload_n (j := 0) C dX1_growFrom_5 rfl rfl ?_
    refine gf1_11 C dX1_growFrom_6 ?_
    refine cal16 C dX1_growFrom_9 ?_
    refine x_icmp_lt (tgt := 14) C dX1_growFrom_10 (by decide) (fun c10 => ?_) (fun c10 => ?_)
    · rw [if_pos c10] at h
      refine x_aload_n (j := 0) C dX1_growFrom_14 rfl rfl ?_
      refine gf1_11 C dX1_growFrom_15 ?_
      refine x_iload_n (j := 1) C dX1_growFrom_18 rfl rfl ?_
      by_cases g19_1 : inB p1 1024 = true
      case neg => rw [if_neg g19_1] at h; cases h
      rw [if_pos g19_1] at h
      refine cld16 C dX1_growFrom_19 g19_1 ?_
      refine x_iconst (v := 1) C dX1_growFrom_20 (by decide) ?_
      refine x_iadd C dX1_growFrom_21 ?_
      refine x_istore_n (i := 2) (ls' := [(2, .int (((s.1 26 p1.toNatClampNeg) + 1))), (0, .ref (G.2.1 15 0)), (1, .int (p1))]) C dX1_growFrom_22 rfl (Nat.le_of_ble_eq_true rfl) rfl ?_
      refine x_iconst (v := 0) C dX1_growFrom_23 (by decide) ?_
      refine x_istore_n (i := 3) (ls' := [(3, .int (0)), (2, .int (((s.1 26 p1.toNatClampNeg) + 1))), (0, .ref (G.2.1 15 0)), (1, .int (p1))]) C dX1_growFrom_24 rfl (Nat.le_of_ble_eq_true rfl) rfl ?_
      refine x_sub (ls' := [(0, .ref (G.2.1 15 0)), (1, .int (p1)), (2, .int (((s.1 26 p1.toNatClampNeg) + 1))), (3, .int (0))]) [2, 3, 1, 0] rfl ?_
      exact t1_growFrom_l25 (N := N) (p1 := p1) C R N _ _ _ _ h
    · rw [if_neg c10] at h
      cases h
      exact x_vret C dX1_growFrom_13
theorem c1_growFrom (l : Launch) (G : xG) {N : Nat} {p1 : Int32} {s : cS} {s1 : cS} (h : f1_growFrom N p1 s = some s1) : xMet l yX1_growFrom (x_ws yX1_growFrom cX1_growFrom 5 none) (xrm 0 0) G cdom [.ref (G.2.1 15 0), .int (p1)] (encC G s) none (encC G s1) := by
  refine xMet.of (by decide +kernel) (Nat.le_of_ble_eq_true rfl) ?_
  rintro ⟨M, G', dom', n'⟩ e1 R e3 e4 e5 C
  change G' = G at e3; change dom' = cdom at e4; change n' = 5 at e5
  subst e3; subst e4; subst e5
  exact t1_growFrom C R h
theorem k1_34 {M : xM} {G : xG} {n : Nat} {rv : Option Value} {E' : xE} {cc : ByteArray} {ret : Option FieldType} {pc : Nat} {ls : List (Nat × Value)} {st : List Value} {N : Nat} {p1 : Int32} {s s1 : cS} (C : xC (M, G, cdom, n) RX1 cc ret) (d : decode cc pc = .ok (.invokevirtual 34, 3)) (h : f1_growFrom N p1 s = some s1) (hR : (xrm 0 0).frames + 1 ≤ (xR (M, G, cdom, n)).frames ∧ 8 + (5 + 11) + (xrm 0 0).locals ≤ (xR (M, G, cdom, n)).locals) (hw : (st.map fun v => v.category).sum ≤ 8) (k : X (M, G, cdom, n) rv E' (encC G s1) (pc + 3) ls (st)) : X (M, G, cdom, n) rv E' (encC G s) pc ls (.int (p1) :: .ref (G.2.1 15 0) :: st) :=
  x_callV (As := [.int (p1)]) (n := 1) C d (c1_growFrom (xl (M, G, cdom, n)) G h) lk662 lk664 lk46 lk81 lk665 ⟨rfl, rfl⟩ ⟨by decide +kernel, by decide +kernel, by decide +kernel⟩ rfl hR rfl rfl rfl rfl hw k
set_option maxRecDepth 100000 in
theorem t1_fewest_b42 {M : xM} {G : xG} {N : Nat}  (C : xC (M, G, cdom, 2) RX1 cX1_fewest (some .int)) (R : xR (M, G, cdom, 2) = xrm 1 24) {s : cS} {r : Int32} {s1 : cS} (h : f1_fewest_b42 N s = some (r, s1)) : X (M, G, cdom, 2) (some (.int r)) (encC G s1) (encC G s) 42 [(0, .ref (G.2.1 15 0))] [] := by
  unfold f1_fewest_b42 at h
  refine x_aload_n (j := 0) C dX1_fewest_42 rfl rfl ?_
  refine gf1_31 C dX1_fewest_43 ?_
  refine x_if_lt (tgt := 73) C dX1_fewest_46 (by decide) (fun c46 => ?_) (fun c46 => ?_)
  · rw [if_pos c46] at h
    refine x_iconst (v := 0) C dX1_fewest_73 (by decide) ?_
    cases h
    exact x_iret C dX1_fewest_74
  · rw [if_neg c46] at h
    refine x_aload_n (j := 0) C dX1_fewest_49 rfl rfl ?_
    refine gf1_31 C dX1_fewest_50 ?_
    refine x_aload_n (j := 0) C dX1_fewest_53 rfl rfl ?_
    refine gf1_11 C dX1_fewest_54 ?_
    refine cal16 C dX1_fewest_57 ?_
    refine x_icmp_ge (tgt := 73) C dX1_fewest_58 (by decide) (fun c58 => ?_) (fun c58 => ?_)
    · rw [if_pos c58] at h
      refine x_iconst (v := 0) C dX1_fewest_73 (by decide) ?_
      cases h
      exact x_iret C dX1_fewest_74
    · rw [if_neg c58] at h
      refine x_aload_n (j := 0) C dX1_fewest_61 rfl rfl ?_
      refine gf1_11 C dX1_fewest_62 ?_
      refine x_aload_n (j := 0) C dX1_fewest_65 rfl rfl ?_
      refine gf1_31 C dX1_fewest_66 ?_
      by_cases g69_1 : inB (s.1 25 0) 1024 = true
      case neg => rw [if_neg g69_1] at h; cases h
      rw [if_pos g69_1] at h
      refine cld16 C dX1_fewest_69 g69_1 ?_
      refine x_goto (tgt := 74) C dX1_fewest_70 (by decide) ?_
      cases h
      exact x_iret C dX1_fewest_74
set_option maxRecDepth 100000 in
theorem t1_fewest_l2b {M : xM} {G : xG} {N : Nat}  (C : xC (M, G, cdom, 2) RX1 cX1_fewest (some .int)) (R : xR (M, G, cdom, 2) = xrm 1 24) {k2 : Int32 → cS → Option (Int32 × cS)} (hk2 : ∀ (a1 : Int32) (s : cS) (r : Int32) (s1 : cS), k2 a1 s = some (r, s1) → X (M, G, cdom, 2) (some (.int r)) (encC G s1) (encC G s) 2 [(0, .ref (G.2.1 15 0)), (1, .int (a1))] []) {a1 : Int32} {s : cS} {r : Int32} {s1 : cS} (h : f1_fewest_l2b N k2 a1 s = some (r, s1)) : X (M, G, cdom, 2) (some (.int r)) (encC G s1) (encC G s) 2 [(0, .ref (G.2.1 15 0)), (1, .int (a1))] [] := by
  unfold f1_fewest_l2b at h
  refine x_iload_n (j := 1) C dX1_fewest_2 rfl rfl ?_
  refine x_aload_n (j := 0) C dX1_fewest_3 rfl rfl ?_
  refine gf1_31 C dX1_fewest_4 ?_
  refine x_icmp_ge (tgt := 42) C dX1_fewest_7 (by decide) (fun c7 => ?_) (fun c7 => ?_)
  · rw [if_pos c7] at h
    refine x_sub (ls' := [(0, .ref (G.2.1 15 0))]) [0] rfl ?_
    exact t1_fewest_b42 (N := N) C R h
  · rw [if_neg c7] at h
    refine x_iload_n (j := 1) C dX1_fewest_10 rfl rfl ?_
    refine x_aload_n (j := 0) C dX1_fewest_11 rfl rfl ?_
    refine gf1_11 C dX1_fewest_12 ?_
    refine cal16 C dX1_fewest_15 ?_
    refine x_icmp_ge (tgt := 42) C dX1_fewest_16 (by decide) (fun c16 => ?_) (fun c16 => ?_)
    · rw [if_pos c16] at h
      refine x_sub (ls' := [(0, .ref (G.2.1 15 0))]) [0] rfl ?_
      exact t1_fewest_b42 (N := N) C R h
    · rw [if_neg c16] at h
      refine x_aload_n (j := 0) C dX1_fewest_19 rfl rfl ?_
      refine gf1_11 C dX1_fewest_20 ?_
      refine x_iload_n (j := 1) C dX1_fewest_23 rfl rfl ?_
      by_cases g24_1 : inB a1 1024 = true
      case neg => rw [if_neg g24_1] at h; cases h
      rw [if_pos g24_1] at h
      refine cld16 C dX1_fewest_24 g24_1 ?_
      refine x_sipush (v := 1000) C dX1_fewest_25 (by decide) ?_
      refine x_icmp_ge (tgt := 36) C dX1_fewest_28 (by decide) (fun c28 => ?_) (fun c28 => ?_)
      · rw [if_pos c28] at h
        refine x_iinc (j := 1) (v := (a1 + 1)) (ls' := [(1, .int ((a1 + 1))), (0, .ref (G.2.1 15 0))]) C dX1_fewest_36 rfl rfl (Nat.le_of_ble_eq_true rfl) rfl ?_
        refine x_goto (tgt := 2) C dX1_fewest_39 (by decide) ?_
        refine x_sub (ls' := [(0, .ref (G.2.1 15 0)), (1, .int ((a1 + 1)))]) [1, 0] rfl ?_
        exact hk2 _ _ _ _ h
      · rw [if_neg c28] at h
        refine x_aload_n (j := 0) C dX1_fewest_31 rfl rfl ?_
        refine x_iload_n (j := 1) C dX1_fewest_32 rfl rfl ?_
        obtain ⟨s33, e33, h⟩ := Option.bind_eq_some_iff.mp h
        try dsimp only at h
        refine k1_34 C dX1_fewest_33 e33 (x_room R rfl) (Nat.le_of_ble_eq_true rfl) ?_
        refine x_iinc (j := 1) (v := (a1 + 1)) (ls' := [(1, .int ((a1 + 1))), (0, .ref (G.2.1 15 0))]) C dX1_fewest_36 rfl rfl (Nat.le_of_ble_eq_true rfl) rfl ?_
        refine x_goto (tgt := 2) C dX1_fewest_39 (by decide) ?_
        refine x_sub (ls' := [(0, .ref (G.2.1 15 0)), (1, .int ((a1 + 1)))]) [1, 0] rfl ?_
        exact hk2 _ _ _ _ h
theorem t1_fewest_l2 {M : xM} {G : xG} {N : Nat}  (C : xC (M, G, cdom, 2) RX1 cX1_fewest (some .int)) (R : xR (M, G, cdom, 2) = xrm 1 24) (n : Nat) : ∀ (a1 : Int32) (s : cS) (r : Int32) (s1 : cS), f1_fewest_l2 N n a1 s = some (r, s1) → X (M, G, cdom, 2) (some (.int r)) (encC G s1) (encC G s) 2 [(0, .ref (G.2.1 15 0)), (1, .int (a1))] [] := by
  induction n with
  | zero => intro a1 s r s1 h; exact (Option.some_ne_none _ (Eq.symm h)).elim
  | succ n ih => intro a1 s r s1 h; exact t1_fewest_l2b (N := N) C R (k2 := f1_fewest_l2 N n) ih h
set_option maxRecDepth 100000 in
theorem t1_fewest {M : xM} {G : xG} {N : Nat}  (C : xC (M, G, cdom, 2) RX1 cX1_fewest (some .int)) (R : xR (M, G, cdom, 2) = xrm 1 24) {s : cS} {r : Int32} {s1 : cS} (h : f1_fewest N s = some (r, s1)) : X (M, G, cdom, 2) (some (.int r)) (encC G s1) (encC G s) 0 [(0, .ref (G.2.1 15 0))] [] := by
  unfold f1_fewest at h
  refine x_iconst (v := 0) C dX1_fewest_0 (by decide) ?_
  refine x_istore_n (i := 1) (ls' := [(1, .int (0)), (0, .ref (G.2.1 15 0))]) C dX1_fewest_1 rfl (Nat.le_of_ble_eq_true rfl) rfl ?_
  refine x_sub (ls' := [(0, .ref (G.2.1 15 0)), (1, .int (0))]) [1, 0] rfl ?_
  exact t1_fewest_l2 (N := N) C R N _ _ _ _ h
theorem c1_fewest (l : Launch) (G : xG) {N : Nat}  {s : cS} {r : Int32} {s1 : cS} (h : f1_fewest N s = some (r, s1)) : xMet l yX1_fewest (x_ws yX1_fewest cX1_fewest 2 (some .int)) (xrm 1 24) G cdom [.ref (G.2.1 15 0)] (encC G s) (some (.int r)) (encC G s1) := by
  refine xMet.of (by decide +kernel) (Nat.le_of_ble_eq_true rfl) ?_
  rintro ⟨M, G', dom', n'⟩ e1 R e3 e4 e5 C
  change G' = G at e3; change dom' = cdom at e4; change n' = 2 at e5
  subst e3; subst e4; subst e5
  exact t1_fewest C R h
theorem k8_245 {M : xM} {G : xG} {n : Nat} {rv : Option Value} {E' : xE} {cc : ByteArray} {ret : Option FieldType} {pc : Nat} {ls : List (Nat × Value)} {st : List Value} {N : Nat} {s s1 : cS} {r : Int32} (C : xC (M, G, cdom, n) RX8 cc ret) (d : decode cc pc = .ok (.invokevirtual 245, 3)) (h : f1_fewest N s = some (r, s1)) (hR : (xrm 1 24).frames + 1 ≤ (xR (M, G, cdom, n)).frames ∧ 8 + (2 + 11) + (xrm 1 24).locals ≤ (xR (M, G, cdom, n)).locals) (hw : (st.map fun v => v.category).sum ≤ 8) (k : X (M, G, cdom, n) rv E' (encC G s1) (pc + 3) ls (.int r :: st)) : X (M, G, cdom, n) rv E' (encC G s) pc ls (.ref (G.2.1 15 0) :: st) :=
  x_callVN (As := []) (n := 0) C d (c1_fewest (xl (M, G, cdom, n)) G h) lk658 lk660 lk45 lk81 lk661 ⟨rfl, rfl⟩ ⟨by decide +kernel, by decide +kernel, by decide +kernel⟩ rfl hR rfl rfl rfl rfl hw k
theorem k8_239 {M : xM} {G : xG} {n : Nat} {rv : Option Value} {E' : xE} {cc : ByteArray} {ret : Option FieldType} {pc : Nat} {ls : List (Nat × Value)} {st : List Value} {N : Nat} {p1 : Int32} {s s1 : cS} {r : Int32} (C : xC (M, G, cdom, n) RX8 cc ret) (d : decode cc pc = .ok (.invokevirtual 239, 3)) (h : f8_faultsShownBy N p1 s = some (r, s1)) (hR : (xrm 5 115).frames + 1 ≤ (xR (M, G, cdom, n)).frames ∧ 8 + (5 + 11) + (xrm 5 115).locals ≤ (xR (M, G, cdom, n)).locals) (hw : (st.map fun v => v.category).sum ≤ 8) (k : X (M, G, cdom, n) rv E' (encC G s1) (pc + 3) ls (.int r :: st)) : X (M, G, cdom, n) rv E' (encC G s) pc ls (.int (p1) :: .ref (G.2.1 0 0) :: st) :=
  x_callV (As := [.int (p1)]) (n := 1) C d (c8_faultsShownBy (xl (M, G, cdom, n)) G h) lk650 lk652 lk43 lk78 lk653 ⟨rfl, rfl⟩ ⟨by decide +kernel, by decide +kernel, by decide +kernel⟩ rfl hR rfl rfl rfl rfl hw k
theorem k8_242 {M : xM} {G : xG} {n : Nat} {rv : Option Value} {E' : xE} {cc : ByteArray} {ret : Option FieldType} {pc : Nat} {ls : List (Nat × Value)} {st : List Value} {N : Nat} {p1 : Int32} {s s1 : cS} (C : xC (M, G, cdom, n) RX8 cc ret) (d : decode cc pc = .ok (.invokevirtual 242, 3)) (h : f1_addMask N p1 s = some s1) (hR : (xrm 0 0).frames + 1 ≤ (xR (M, G, cdom, n)).frames ∧ 8 + (2 + 11) + (xrm 0 0).locals ≤ (xR (M, G, cdom, n)).locals) (hw : (st.map fun v => v.category).sum ≤ 8) (k : X (M, G, cdom, n) rv E' (encC G s1) (pc + 3) ls (st)) : X (M, G, cdom, n) rv E' (encC G s) pc ls (.int (p1) :: .ref (G.2.1 15 0) :: st) :=
  x_callVN (As := [.int (p1)]) (n := 1) C d (c1_addMask (xl (M, G, cdom, n)) G h) lk654 lk656 lk44 lk81 lk657 ⟨rfl, rfl⟩ ⟨by decide +kernel, by decide +kernel, by decide +kernel⟩ rfl hR rfl rfl rfl rfl hw k
theorem k8_237 {M : xM} {G : xG} {n : Nat} {rv : Option Value} {E' : xE} {cc : ByteArray} {ret : Option FieldType} {pc : Nat} {ls : List (Nat × Value)} {st : List Value} {N : Nat} {s s1 : cS} (C : xC (M, G, cdom, n) RX8 cc ret) (d : decode cc pc = .ok (.invokevirtual 237, 3)) (h : f1_begin N s = some s1) (hR : (xrm 1 23).frames + 1 ≤ (xR (M, G, cdom, n)).frames ∧ 8 + (1 + 11) + (xrm 1 23).locals ≤ (xR (M, G, cdom, n)).locals) (hw : (st.map fun v => v.category).sum ≤ 8) (k : X (M, G, cdom, n) rv E' (encC G s1) (pc + 3) ls (st)) : X (M, G, cdom, n) rv E' (encC G s) pc ls (.ref (G.2.1 15 0) :: st) :=
  x_callVN (As := []) (n := 0) C d (c1_begin (xl (M, G, cdom, n)) G h) lk643 lk645 lk42 lk81 lk646 ⟨rfl, rfl⟩ ⟨by decide +kernel, by decide +kernel, by decide +kernel⟩ rfl hR rfl rfl rfl rfl hw k
set_option maxRecDepth 100000 in
theorem t8_shows_l18b {M : xM} {G : xG} {N : Nat}  (C : xC (M, G, cdom, 2) RX8 cX8_shows (some .int)) (R : xR (M, G, cdom, 2) = xrm 6 139) {k18 : Int32 → cS → Option (Int32 × cS)} (hk18 : ∀ (a1 : Int32) (s : cS) (r : Int32) (s1 : cS), k18 a1 s = some (r, s1) → X (M, G, cdom, 2) (some (.int r)) (encC G s1) (encC G s) 18 [(0, .ref (G.2.1 0 0)), (1, .int (a1))] []) {a1 : Int32} {s : cS} {r : Int32} {s1 : cS} (h : f8_shows_l18b N k18 a1 s = some (r, s1)) : X (M, G, cdom, 2) (some (.int r)) (encC G s1) (encC G s) 18 [(0, .ref (G.2.1 0 0)), (1, .int (a1))] [] := by
  unfold f8_shows_l18b at h
  refine x_iload_n (j := 1) C dX8_shows_18 rfl rfl ?_
  refine x_aload_n (j := 0) C dX8_shows_19 rfl rfl ?_
  refine gf8_56 C dX8_shows_20 ?_
  refine x_icmp_gt (tgt := 44) C dX8_shows_23 (by decide) (fun c23 => ?_) (fun c23 => ?_)
  · rw [if_pos c23] at h
    refine x_aload_n (j := 0) C dX8_shows_44 rfl rfl ?_
    refine gf8_45 C dX8_shows_45 ?_
    obtain ⟨⟨r48, s48⟩, e48, h⟩ := Option.bind_eq_some_iff.mp h
    try dsimp only at h
    refine k8_245 C dX8_shows_48 e48 (x_room R rfl) (Nat.le_of_ble_eq_true rfl) ?_
    cases h
    exact x_iret C dX8_shows_51
  · rw [if_neg c23] at h
    refine x_aload_n (j := 0) C dX8_shows_26 rfl rfl ?_
    refine gf8_45 C dX8_shows_27 ?_
    refine x_aload_n (j := 0) C dX8_shows_30 rfl rfl ?_
    refine x_iload_n (j := 1) C dX8_shows_31 rfl rfl ?_
    obtain ⟨⟨r32, s32⟩, e32, h⟩ := Option.bind_eq_some_iff.mp h
    try dsimp only at h
    refine k8_239 C dX8_shows_32 e32 (x_room R rfl) (Nat.le_of_ble_eq_true rfl) ?_
    obtain ⟨s35, e35, h⟩ := Option.bind_eq_some_iff.mp h
    try dsimp only at h
    refine k8_242 C dX8_shows_35 e35 (x_room R rfl) (Nat.le_of_ble_eq_true rfl) ?_
    refine x_iinc (j := 1) (v := (a1 + 1)) (ls' := [(1, .int ((a1 + 1))), (0, .ref (G.2.1 0 0))]) C dX8_shows_38 rfl rfl (Nat.le_of_ble_eq_true rfl) rfl ?_
    refine x_goto (tgt := 18) C dX8_shows_41 (by decide) ?_
    refine x_sub (ls' := [(0, .ref (G.2.1 0 0)), (1, .int ((a1 + 1)))]) [1, 0] rfl ?_
    exact hk18 _ _ _ _ h
theorem t8_shows_l18 {M : xM} {G : xG} {N : Nat}  (C : xC (M, G, cdom, 2) RX8 cX8_shows (some .int)) (R : xR (M, G, cdom, 2) = xrm 6 139) (n : Nat) : ∀ (a1 : Int32) (s : cS) (r : Int32) (s1 : cS), f8_shows_l18 N n a1 s = some (r, s1) → X (M, G, cdom, 2) (some (.int r)) (encC G s1) (encC G s) 18 [(0, .ref (G.2.1 0 0)), (1, .int (a1))] [] := by
  induction n with
  | zero => intro a1 s r s1 h; exact (Option.some_ne_none _ (Eq.symm h)).elim
  | succ n ih => intro a1 s r s1 h; exact t8_shows_l18b (N := N) C R (k18 := f8_shows_l18 N n) ih h
set_option maxRecDepth 100000 in
theorem t8_shows {M : xM} {G : xG} {N : Nat}  (C : xC (M, G, cdom, 2) RX8 cX8_shows (some .int)) (R : xR (M, G, cdom, 2) = xrm 6 139) {s : cS} {r : Int32} {s1 : cS} (h : f8_shows N s = some (r, s1)) : X (M, G, cdom, 2) (some (.int r)) (encC G s1) (encC G s) 0 [(0, .ref (G.2.1 0 0))] [] := by
  unfold f8_shows at h
  refine x_aload_n (j := 0) C dX8_shows_0 rfl rfl ?_
  refine gf8_63 C dX8_shows_1 ?_
  refine x_if_ne (tgt := 9) C dX8_shows_4 (by decide) (fun c4 => ?_) (fun c4 => ?_)
  · rw [if_neg c4] at h
    refine x_aload_n (j := 0) C dX8_shows_9 rfl rfl ?_
    refine gf8_45 C dX8_shows_10 ?_
    obtain ⟨s13, e13, h⟩ := Option.bind_eq_some_iff.mp h
    try dsimp only at h
    refine k8_237 C dX8_shows_13 e13 (x_room R rfl) (Nat.le_of_ble_eq_true rfl) ?_
    refine x_iconst (v := 0) C dX8_shows_16 (by decide) ?_
    refine x_istore_n (i := 1) (ls' := [(1, .int (0)), (0, .ref (G.2.1 0 0))]) C dX8_shows_17 rfl (Nat.le_of_ble_eq_true rfl) rfl ?_
    refine x_sub (ls' := [(0, .ref (G.2.1 0 0)), (1, .int (0))]) [1, 0] rfl ?_
    exact t8_shows_l18 (N := N) C R N _ _ _ _ h
  · rw [if_pos c4] at h
    refine x_iconst (v := 0) C dX8_shows_7 (by decide) ?_
    cases h
    exact x_iret C dX8_shows_8
theorem c8_shows (l : Launch) (G : xG) {N : Nat}  {s : cS} {r : Int32} {s1 : cS} (h : f8_shows N s = some (r, s1)) : xMet l yX8_shows (x_ws yX8_shows cX8_shows 2 (some .int)) (xrm 6 139) G cdom [.ref (G.2.1 0 0)] (encC G s) (some (.int r)) (encC G s1) := by
  refine xMet.of (by decide +kernel) (Nat.le_of_ble_eq_true rfl) ?_
  rintro ⟨M, G', dom', n'⟩ e1 R e3 e4 e5 C
  change G' = G at e3; change dom' = cdom at e4; change n' = 2 at e5
  subst e3; subst e4; subst e5
  exact t8_shows C R h
set_option maxRecDepth 100000 in
theorem t8_showing {M : xM} {G : xG} {N : Nat} {p1 : Int32} (C : xC (M, G, cdom, 2) RX8 cX8_showing (some .int)) (R : xR (M, G, cdom, 2) = xrm 6 139) {s : cS} {r : Int32} {s1 : cS} (h : f8_showing N p1 s = some (r, s1)) : X (M, G, cdom, 2) (some (.int r)) (encC G s1) (encC G s) 0 [(0, .ref (G.2.1 0 0)), (1, .int (p1))] [] := by
  unfold f8_showing at h
  refine x_aload_n (j := 0) C dX8_showing_0 rfl rfl ?_
  refine x_iload_n (j := 1) C dX8_showing_1 rfl rfl ?_
  obtain ⟨⟨r2, s2⟩, e2, h⟩ := Option.bind_eq_some_iff.mp h
  try dsimp only at h
  refine k8_134 C dX8_showing_2 e2 (x_room R rfl) (Nat.le_of_ble_eq_true rfl) ?_
  refine x_if_eq (tgt := 16) C dX8_showing_5 (by decide) (fun c5 => ?_) (fun c5 => ?_)
  · rw [if_pos c5] at h
    refine x_iconst (v := (-1)) C dX8_showing_16 (by decide) ?_
    cases h
    exact x_iret C dX8_showing_17
  · rw [if_neg c5] at h
    refine x_aload_n (j := 0) C dX8_showing_8 rfl rfl ?_
    refine x_iload_n (j := 1) C dX8_showing_9 rfl rfl ?_
    obtain ⟨⟨r10, s10⟩, e10, h⟩ := Option.bind_eq_some_iff.mp h
    try dsimp only at h
    refine k8_239 C dX8_showing_10 e10 (x_room R rfl) (Nat.le_of_ble_eq_true rfl) ?_
    refine x_goto (tgt := 17) C dX8_showing_13 (by decide) ?_
    cases h
    exact x_iret C dX8_showing_17
theorem c8_showing (l : Launch) (G : xG) {N : Nat} {p1 : Int32} {s : cS} {r : Int32} {s1 : cS} (h : f8_showing N p1 s = some (r, s1)) : xMet l yX8_showing (x_ws yX8_showing cX8_showing 2 (some .int)) (xrm 6 139) G cdom [.ref (G.2.1 0 0), .int (p1)] (encC G s) (some (.int r)) (encC G s1) := by
  refine xMet.of (by decide +kernel) (Nat.le_of_ble_eq_true rfl) ?_
  rintro ⟨M, G', dom', n'⟩ e1 R e3 e4 e5 C
  change G' = G at e3; change dom' = cdom at e4; change n' = 2 at e5
  subst e3; subst e4; subst e5
  exact t8_showing C R h
set_option maxRecDepth 100000 in
theorem t8_tellApart_l83b {M : xM} {G : xG} {N : Nat} {p1 : Int32} (C : xC (M, G, cdom, 4) RX8 cX8_tellApart none) (R : xR (M, G, cdom, 4) = xrm 4 92) {k53 : Int32 → cS → Option (cS)} (hk53 : ∀ (a2 : Int32) (s : cS) (s1 : cS), k53 a2 s = some s1 → X (M, G, cdom, 4) none (encC G s1) (encC G s) 53 [(0, .ref (G.2.1 0 0)), (2, .int (a2))] []) {k83 : Int32 → Int32 → cS → Option (cS)} (hk83 : ∀ (a2 : Int32) (a3 : Int32) (s : cS) (s1 : cS), k83 a2 a3 s = some s1 → X (M, G, cdom, 4) none (encC G s1) (encC G s) 83 [(0, .ref (G.2.1 0 0)), (2, .int (a2)), (3, .int (a3))] []) {a2 : Int32} {a3 : Int32} {s : cS} {s1 : cS} (h : f8_tellApart_l83b N p1 k53 k83 a2 a3 s = some s1) : X (M, G, cdom, 4) none (encC G s1) (encC G s) 83 [(0, .ref (G.2.1 0 0)), (2, .int (a2)), (3, .int (a3))] [] := by
  unfold f8_tellApart_l83b at h
  refine x_iload_n (j := 2) C dX8_tellApart_83 rfl rfl ?_
  refine x_aload_n (j := 0) C dX8_tellApart_84 rfl rfl ?_
  refine gf8_63 C dX8_tellApart_85 ?_
  refine x_icmp_ge (tgt := 133) C dX8_tellApart_88 (by decide) (fun c88 => ?_) (fun c88 => ?_)
  · rw [if_pos c88] at h
    refine x_iinc (j := 1) (v := (a2 + 1)) (ls' := [(2, .int ((a2 + 1))), (0, .ref (G.2.1 0 0)), (3, .int (a3))]) C dX8_tellApart_133 rfl rfl (Nat.le_of_ble_eq_true rfl) rfl ?_
    refine x_goto (tgt := 53) C dX8_tellApart_136 (by decide) ?_
    refine x_sub (ls' := [(0, .ref (G.2.1 0 0)), (2, .int ((a2 + 1)))]) [1, 0] rfl ?_
    exact hk53 _ _ _ h
  · rw [if_neg c88] at h
    refine x_iload_n (j := 2) C dX8_tellApart_91 rfl rfl ?_
    refine x_aload_n (j := 0) C dX8_tellApart_92 rfl rfl ?_
    refine gf8_35 C dX8_tellApart_93 ?_
    refine cal13 C dX8_tellApart_96 ?_
    refine x_icmp_ge (tgt := 133) C dX8_tellApart_97 (by decide) (fun c97 => ?_) (fun c97 => ?_)
    · rw [if_pos c97] at h
      refine x_iinc (j := 1) (v := (a2 + 1)) (ls' := [(2, .int ((a2 + 1))), (0, .ref (G.2.1 0 0)), (3, .int (a3))]) C dX8_tellApart_133 rfl rfl (Nat.le_of_ble_eq_true rfl) rfl ?_
      refine x_goto (tgt := 53) C dX8_tellApart_136 (by decide) ?_
      refine x_sub (ls' := [(0, .ref (G.2.1 0 0)), (2, .int ((a2 + 1)))]) [1, 0] rfl ?_
      exact hk53 _ _ _ h
    · rw [if_neg c97] at h
      refine x_aload_n (j := 0) C dX8_tellApart_100 rfl rfl ?_
      refine gf8_35 C dX8_tellApart_101 ?_
      refine x_iload_n (j := 1) C dX8_tellApart_104 rfl rfl ?_
      by_cases g105_1 : inB a2 10 = true
      case neg => rw [if_neg g105_1] at h; cases h
      rw [if_pos g105_1] at h
      refine cld13 C dX8_tellApart_105 g105_1 ?_
      refine x_aload_n (j := 0) C dX8_tellApart_106 rfl rfl ?_
      refine gf8_35 C dX8_tellApart_107 ?_
      refine x_iload_n (j := 2) C dX8_tellApart_110 rfl rfl ?_
      by_cases g111_2 : inB a3 10 = true
      case neg => rw [if_neg g111_2] at h; cases h
      rw [if_pos g111_2] at h
      refine cld13 C dX8_tellApart_111 g111_2 ?_
      refine x_icmp_eq (tgt := 127) C dX8_tellApart_112 (by decide) (fun c112 => ?_) (fun c112 => ?_)
      · rw [if_pos c112] at h
        refine x_iinc (j := 2) (v := (a3 + 1)) (ls' := [(3, .int ((a3 + 1))), (0, .ref (G.2.1 0 0)), (2, .int (a2))]) C dX8_tellApart_127 rfl rfl (Nat.le_of_ble_eq_true rfl) rfl ?_
        refine x_goto (tgt := 83) C dX8_tellApart_130 (by decide) ?_
        refine x_sub (ls' := [(0, .ref (G.2.1 0 0)), (2, .int (a2)), (3, .int ((a3 + 1)))]) [1, 2, 0] rfl ?_
        exact hk83 _ _ _ _ h
      · rw [if_neg c112] at h
        refine x_aload_n (j := 0) C dX8_tellApart_115 rfl rfl ?_
        refine gf8_39 C dX8_tellApart_116 ?_
        refine x_iload_n (j := 1) C dX8_tellApart_119 rfl rfl ?_
        refine x_dup2 C dX8_tellApart_120 rfl rfl ?_
        refine cld14 C dX8_tellApart_121 g105_1 ?_
        refine x_iconst (v := 1) C dX8_tellApart_122 (by decide) ?_
        refine x_iload_n (j := 2) C dX8_tellApart_123 rfl rfl ?_
        refine x_ishl C dX8_tellApart_124 ?_
        refine x_ior C dX8_tellApart_125 ?_
        refine cst14 C dX8_tellApart_126 g105_1 ?_
        refine x_iinc (j := 2) (v := (a3 + 1)) (ls' := [(3, .int ((a3 + 1))), (0, .ref (G.2.1 0 0)), (2, .int (a2))]) C dX8_tellApart_127 rfl rfl (Nat.le_of_ble_eq_true rfl) rfl ?_
        refine x_goto (tgt := 83) C dX8_tellApart_130 (by decide) ?_
        refine x_sub (ls' := [(0, .ref (G.2.1 0 0)), (2, .int (a2)), (3, .int ((a3 + 1)))]) [1, 2, 0] rfl ?_
        exact hk83 _ _ _ _ h
theorem t8_tellApart_l83 {M : xM} {G : xG} {N : Nat} {p1 : Int32} (C : xC (M, G, cdom, 4) RX8 cX8_tellApart none) (R : xR (M, G, cdom, 4) = xrm 4 92) {k53 : Int32 → cS → Option (cS)} (hk53 : ∀ (a2 : Int32) (s : cS) (s1 : cS), k53 a2 s = some s1 → X (M, G, cdom, 4) none (encC G s1) (encC G s) 53 [(0, .ref (G.2.1 0 0)), (2, .int (a2))] []) (n : Nat) : ∀ (a2 : Int32) (a3 : Int32) (s : cS) (s1 : cS), f8_tellApart_l83 N p1 k53 n a2 a3 s = some s1 → X (M, G, cdom, 4) none (encC G s1) (encC G s) 83 [(0, .ref (G.2.1 0 0)), (2, .int (a2)), (3, .int (a3))] [] := by
  induction n with
  | zero => intro a2 a3 s s1 h; exact (Option.some_ne_none _ (Eq.symm h)).elim
  | succ n ih => intro a2 a3 s s1 h; exact t8_tellApart_l83b (N := N) (p1 := p1) C R hk53 (k83 := f8_tellApart_l83 N p1 k53 n) ih h
set_option maxRecDepth 100000 in
theorem t8_tellApart_l53b {M : xM} {G : xG} {N : Nat} {p1 : Int32} (C : xC (M, G, cdom, 4) RX8 cX8_tellApart none) (R : xR (M, G, cdom, 4) = xrm 4 92) {k53 : Int32 → cS → Option (cS)} (hk53 : ∀ (a2 : Int32) (s : cS) (s1 : cS), k53 a2 s = some s1 → X (M, G, cdom, 4) none (encC G s1) (encC G s) 53 [(0, .ref (G.2.1 0 0)), (2, .int (a2))] []) {a2 : Int32} {s : cS} {s1 : cS} (h : f8_tellApart_l53b N p1 k53 a2 s = some s1) : X (M, G, cdom, 4) none (encC G s1) (encC G s) 53 [(0, .ref (G.2.1 0 0)), (2, .int (a2))] [] := by
  unfold f8_tellApart_l53b at h
  refine x_iload_n (j := 1) C dX8_tellApart_53 rfl rfl ?_
  refine x_aload_n (j := 0) C dX8_tellApart_54 rfl rfl ?_
  refine gf8_63 C dX8_tellApart_55 ?_
  refine x_icmp_ge (tgt := 139) C dX8_tellApart_58 (by decide) (fun c58 => ?_) (fun c58 => ?_)
  · rw [if_pos c58] at h
    cases h
    exact x_vret C dX8_tellApart_139
  · rw [if_neg c58] at h
    refine x_iload_n (j := 1) C dX8_tellApart_61 rfl rfl ?_
    refine x_aload_n (j := 0) C dX8_tellApart_62 rfl rfl ?_
    refine gf8_35 C dX8_tellApart_63 ?_
    refine cal13 C dX8_tellApart_66 ?_
    refine x_icmp_ge (tgt := 139) C dX8_tellApart_67 (by decide) (fun c67 => ?_) (fun c67 => ?_)
    · rw [if_pos c67] at h
      cases h
      exact x_vret C dX8_tellApart_139
    · rw [if_neg c67] at h
      refine x_iload_n (j := 1) C dX8_tellApart_70 rfl rfl ?_
      refine x_aload_n (j := 0) C dX8_tellApart_71 rfl rfl ?_
      refine gf8_39 C dX8_tellApart_72 ?_
      refine cal14 C dX8_tellApart_75 ?_
      refine x_icmp_ge (tgt := 139) C dX8_tellApart_76 (by decide) (fun c76 => ?_) (fun c76 => ?_)
      · rw [if_pos c76] at h
        cases h
        exact x_vret C dX8_tellApart_139
      · rw [if_neg c76] at h
        refine x_iload_n (j := 1) C dX8_tellApart_79 rfl rfl ?_
        refine x_iconst (v := 1) C dX8_tellApart_80 (by decide) ?_
        refine x_iadd C dX8_tellApart_81 ?_
        refine x_istore_n (i := 3) (ls' := [(3, .int ((a2 + 1))), (0, .ref (G.2.1 0 0)), (2, .int (a2))]) C dX8_tellApart_82 rfl (Nat.le_of_ble_eq_true rfl) rfl ?_
        refine x_sub (ls' := [(0, .ref (G.2.1 0 0)), (2, .int (a2)), (3, .int ((a2 + 1)))]) [1, 2, 0] rfl ?_
        exact t8_tellApart_l83 (N := N) (p1 := p1) C R hk53 N _ _ _ _ h
theorem t8_tellApart_l53 {M : xM} {G : xG} {N : Nat} {p1 : Int32} (C : xC (M, G, cdom, 4) RX8 cX8_tellApart none) (R : xR (M, G, cdom, 4) = xrm 4 92) (n : Nat) : ∀ (a2 : Int32) (s : cS) (s1 : cS), f8_tellApart_l53 N p1 n a2 s = some s1 → X (M, G, cdom, 4) none (encC G s1) (encC G s) 53 [(0, .ref (G.2.1 0 0)), (2, .int (a2))] [] := by
  induction n with
  | zero => intro a2 s s1 h; exact (Option.some_ne_none _ (Eq.symm h)).elim
  | succ n ih => intro a2 s s1 h; exact t8_tellApart_l53b (N := N) (p1 := p1) C R (k53 := f8_tellApart_l53 N p1 n) ih h
set_option maxRecDepth 100000 in
theorem t8_tellApart_l2b {M : xM} {G : xG} {N : Nat} {p1 : Int32} (C : xC (M, G, cdom, 4) RX8 cX8_tellApart none) (R : xR (M, G, cdom, 4) = xrm 4 92) {k2 : Int32 → cS → Option (cS)} (hk2 : ∀ (a2 : Int32) (s : cS) (s1 : cS), k2 a2 s = some s1 → X (M, G, cdom, 4) none (encC G s1) (encC G s) 2 [(0, .ref (G.2.1 0 0)), (1, .int (p1)), (2, .int (a2))] []) {a2 : Int32} {s : cS} {s1 : cS} (h : f8_tellApart_l2b N p1 k2 a2 s = some s1) : X (M, G, cdom, 4) none (encC G s1) (encC G s) 2 [(0, .ref (G.2.1 0 0)), (1, .int (p1)), (2, .int (a2))] [] := by
  unfold f8_tellApart_l2b at h
  refine x_iload_n (j := 2) C dX8_tellApart_2 rfl rfl ?_
  refine x_aload_n (j := 0) C dX8_tellApart_3 rfl rfl ?_
  refine gf8_63 C dX8_tellApart_4 ?_
  refine x_icmp_ge (tgt := 51) C dX8_tellApart_7 (by decide) (fun c7 => ?_) (fun c7 => ?_)
  · rw [if_pos c7] at h
    refine x_iconst (v := 0) C dX8_tellApart_51 (by decide) ?_
    refine x_istore_n (i := 2) (ls' := [(2, .int (0)), (0, .ref (G.2.1 0 0)), (1, .int (p1))]) C dX8_tellApart_52 rfl (Nat.le_of_ble_eq_true rfl) rfl ?_
    refine x_sub (ls' := [(0, .ref (G.2.1 0 0)), (2, .int (0))]) [1, 0] rfl ?_
    exact t8_tellApart_l53 (N := N) (p1 := p1) C R N _ _ _ h
  · rw [if_neg c7] at h
    refine x_iload_n (j := 2) C dX8_tellApart_10 rfl rfl ?_
    refine x_aload_n (j := 0) C dX8_tellApart_11 rfl rfl ?_
    refine gf8_35 C dX8_tellApart_12 ?_
    refine cal13 C dX8_tellApart_15 ?_
    refine x_icmp_ge (tgt := 51) C dX8_tellApart_16 (by decide) (fun c16 => ?_) (fun c16 => ?_)
    · rw [if_pos c16] at h
      refine x_iconst (v := 0) C dX8_tellApart_51 (by decide) ?_
      refine x_istore_n (i := 2) (ls' := [(2, .int (0)), (0, .ref (G.2.1 0 0)), (1, .int (p1))]) C dX8_tellApart_52 rfl (Nat.le_of_ble_eq_true rfl) rfl ?_
      refine x_sub (ls' := [(0, .ref (G.2.1 0 0)), (2, .int (0))]) [1, 0] rfl ?_
      exact t8_tellApart_l53 (N := N) (p1 := p1) C R N _ _ _ h
    · rw [if_neg c16] at h
      refine x_aload_n (j := 0) C dX8_tellApart_19 rfl rfl ?_
      refine x_iload_n (j := 2) C dX8_tellApart_20 rfl rfl ?_
      obtain ⟨⟨r21, s21⟩, e21, h⟩ := Option.bind_eq_some_iff.mp h
      try dsimp only at h
      refine k8_225 C dX8_tellApart_21 e21 (x_room R rfl) (Nat.le_of_ble_eq_true rfl) ?_
      refine x_astore_nq (i := 3) (ls' := [(3, va_rf (Option.map (G.2.1 12) r21)), (0, .ref (G.2.1 0 0)), (1, .int (p1)), (2, .int (a2))]) C (Option.map (G.2.1 12) r21) dX8_tellApart_24 rfl (Nat.le_of_ble_eq_true rfl) rfl ?_
      refine x_aload_n (j := 1) C dX8_tellApart_25 rfl rfl ?_
      refine gf8_35 C dX8_tellApart_26 ?_
      refine x_iload_n (j := 3) C dX8_tellApart_29 rfl rfl ?_
      refine x_aload_nq (j := 0) C (Option.map (G.2.1 12) r21) dX8_tellApart_30 rfl rfl ?_
      cases r21 with
      | none =>
        try dsimp only at h
        change X (M, G, cdom, 4) _ _ _ 31 [(3, .null), (0, .ref (G.2.1 0 0)), (1, .int (p1)), (2, .int (a2))] [.null, .int (a2), .ref (G.2.1 13 0)]
        refine x_ifnonnullN C dX8_tellApart_31 ?_
        refine x_iconst (v := 0) C dX8_tellApart_34 (by decide) ?_
        refine x_goto (tgt := 44) C dX8_tellApart_35 (by decide) ?_
        by_cases g44_1 : inB a2 10 = true
        case neg => rw [if_neg g44_1] at h; cases h
        rw [if_pos g44_1] at h
        refine cst13 C dX8_tellApart_44 g44_1 ?_
        refine x_iinc (j := 3) (v := (a2 + 1)) (ls' := [(2, .int ((a2 + 1))), (3, .null), (0, .ref (G.2.1 0 0)), (1, .int (p1))]) C dX8_tellApart_45 rfl rfl (Nat.le_of_ble_eq_true rfl) rfl ?_
        refine x_goto (tgt := 2) C dX8_tellApart_48 (by decide) ?_
        refine x_sub (ls' := [(0, .ref (G.2.1 0 0)), (1, .int (p1)), (2, .int ((a2 + 1)))]) [2, 3, 0] rfl ?_
        exact hk2 _ _ _ h
      | some w31 =>
        try dsimp only at h
        change X (M, G, cdom, 4) _ _ _ 31 [(3, .ref (G.2.1 12 w31)), (0, .ref (G.2.1 0 0)), (1, .int (p1)), (2, .int (a2))] [.ref (G.2.1 12 w31), .int (a2), .ref (G.2.1 13 0)]
        refine x_ifnonnull (tgt := 38) C dX8_tellApart_31 (by decide) ?_
        refine x_aload_n (j := 1) C dX8_tellApart_38 rfl rfl ?_
        refine x_aload_n (j := 0) C dX8_tellApart_39 rfl rfl ?_
        refine x_iload_n (j := 2) C dX8_tellApart_40 rfl rfl ?_
        obtain ⟨⟨r41, s41⟩, e41, h⟩ := Option.bind_eq_some_iff.mp h
        try dsimp only at h
        refine k8_292 C dX8_tellApart_41 e41 (x_room R rfl) (Nat.le_of_ble_eq_true rfl) ?_
        by_cases g44_2 : inB a2 10 = true
        case neg => rw [if_neg g44_2] at h; cases h
        rw [if_pos g44_2] at h
        refine cst13 C dX8_tellApart_44 g44_2 ?_
        refine x_iinc (j := 3) (v := (a2 + 1)) (ls' := [(2, .int ((a2 + 1))), (3, .ref (G.2.1 12 w31)), (0, .ref (G.2.1 0 0)), (1, .int (p1))]) C dX8_tellApart_45 rfl rfl (Nat.le_of_ble_eq_true rfl) rfl ?_
        refine x_goto (tgt := 2) C dX8_tellApart_48 (by decide) ?_
        refine x_sub (ls' := [(0, .ref (G.2.1 0 0)), (1, .int (p1)), (2, .int ((a2 + 1)))]) [2, 3, 0] rfl ?_
        exact hk2 _ _ _ h
theorem t8_tellApart_l2 {M : xM} {G : xG} {N : Nat} {p1 : Int32} (C : xC (M, G, cdom, 4) RX8 cX8_tellApart none) (R : xR (M, G, cdom, 4) = xrm 4 92) (n : Nat) : ∀ (a2 : Int32) (s : cS) (s1 : cS), f8_tellApart_l2 N p1 n a2 s = some s1 → X (M, G, cdom, 4) none (encC G s1) (encC G s) 2 [(0, .ref (G.2.1 0 0)), (1, .int (p1)), (2, .int (a2))] [] := by
  induction n with
  | zero => intro a2 s s1 h; exact (Option.some_ne_none _ (Eq.symm h)).elim
  | succ n ih => intro a2 s s1 h; exact t8_tellApart_l2b (N := N) (p1 := p1) C R (k2 := f8_tellApart_l2 N p1 n) ih h
set_option maxRecDepth 100000 in
theorem t8_tellApart {M : xM} {G : xG} {N : Nat} {p1 : Int32} (C : xC (M, G, cdom, 4) RX8 cX8_tellApart none) (R : xR (M, G, cdom, 4) = xrm 4 92) {s : cS} {s1 : cS} (h : f8_tellApart N p1 s = some s1) : X (M, G, cdom, 4) none (encC G s1) (encC G s) 0 [(0, .ref (G.2.1 0 0)), (1, .int (p1))] [] := by
  unfold f8_tellApart at h
  refine x_iconst (v := 0) C dX8_tellApart_0 (by decide) ?_
  refine x_istore_n (i := 2) (ls' := [(2, .int (0)), (0, .ref (G.2.1 0 0)), (1, .int (p1))]) C dX8_tellApart_1 rfl (Nat.le_of_ble_eq_true rfl) rfl ?_
  refine x_sub (ls' := [(0, .ref (G.2.1 0 0)), (1, .int (p1)), (2, .int (0))]) [1, 2, 0] rfl ?_
  exact t8_tellApart_l2 (N := N) (p1 := p1) C R N _ _ _ h
theorem c8_tellApart (l : Launch) (G : xG) {N : Nat} {p1 : Int32} {s : cS} {s1 : cS} (h : f8_tellApart N p1 s = some s1) : xMet l yX8_tellApart (x_ws yX8_tellApart cX8_tellApart 4 none) (xrm 4 92) G cdom [.ref (G.2.1 0 0), .int (p1)] (encC G s) none (encC G s1) := by
  refine xMet.of (by decide +kernel) (Nat.le_of_ble_eq_true rfl) ?_
  rintro ⟨M, G', dom', n'⟩ e1 R e3 e4 e5 C
  change G' = G at e3; change dom' = cdom at e4; change n' = 4 at e5
  subst e3; subst e4; subst e5
  exact t8_tellApart C R h
