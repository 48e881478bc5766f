set_option maxRecDepth 100000 in
theorem t6_slotAt {M : xM} {G : xG} {N : Nat} {p1 : Int32} (C : xC (M, G, cdom, 2) RX6 cX6_slotAt (Option.some (.object "StepMeters$Act"))) (R : xR (M, G, cdom, 2) = xrm 0 0) {s : cS} {r : Option Nat} {s1 : cS} (h : f6_slotAt N p1 s = some (r, s1)) : X (M, G, cdom, 2) (some (va_rf (r.map (G.2.1 21)))) (encC G s1) (encC G s) 0 [(0, .ref (G.2.1 19 0)), (1, .int (p1))] [] := by
  unfold f6_slotAt at h
  refine x_iload_n (j := 1) C dX6_slotAt_0 rfl rfl ?_
  refine x_if_lt (tgt := 22) C dX6_slotAt_1 (by decide) (fun c1 => ?_) (fun c1 => ?_)
  · rw [if_pos c1] at h
    refine x_null C dX6_slotAt_22 ?_
    cases h
    exact x_aret C _ dX6_slotAt_23
  · rw [if_neg c1] at h
    refine x_iload_n (j := 1) C dX6_slotAt_4 rfl rfl ?_
    refine x_aload_n (j := 0) C dX6_slotAt_5 rfl rfl ?_
    refine gf6_11 C dX6_slotAt_6 ?_
    refine cal20 C dX6_slotAt_9 ?_
    refine x_icmp_ge (tgt := 22) C dX6_slotAt_10 (by decide) (fun c10 => ?_) (fun c10 => ?_)
    · rw [if_pos c10] at h
      refine x_null C dX6_slotAt_22 ?_
      cases h
      exact x_aret C _ dX6_slotAt_23
    · rw [if_neg c10] at h
      refine x_aload_n (j := 0) C dX6_slotAt_13 rfl rfl ?_
      refine gf6_11 C dX6_slotAt_14 ?_
      refine x_iload_n (j := 1) C dX6_slotAt_17 rfl rfl ?_
      by_cases g18_1 : inB p1 60 = true
      case neg => rw [if_neg g18_1] at h; cases h
      rw [if_pos g18_1] at h
      refine cld20 C dX6_slotAt_18 g18_1 ?_
      refine x_goto (tgt := 23) C dX6_slotAt_19 (by decide) ?_
      cases h
      exact x_aret C _ dX6_slotAt_23
theorem c6_slotAt (l : Launch) (G : xG) {N : Nat} {p1 : Int32} {s : cS} {r : Option Nat} {s1 : cS} (h : f6_slotAt N p1 s = some (r, s1)) : xMet l yX6_slotAt (x_ws yX6_slotAt cX6_slotAt 2 (Option.some (.object "StepMeters$Act"))) (xrm 0 0) G cdom [.ref (G.2.1 19 0), .int (p1)] (encC G s) (some (va_rf (r.map (G.2.1 21)))) (encC G s1) := by
  refine xMet.of (by decide +kernel) (Nat.le_of_ble_eq_true rfl) ?_
  rintro ⟨M, G', dom', n'⟩ e1 R e3 e4 e5 C
  change G' = G at e3; change dom' = cdom at e4; change n' = 2 at e5
  subst e3; subst e4; subst e5
  exact t6_slotAt C R h
theorem k6_22 {M : xM} {G : xG} {n : Nat} {rv : Option Value} {E' : xE} {cc : ByteArray} {ret : Option FieldType} {pc : Nat} {ls : List (Nat × Value)} {st : List Value} {N : Nat} {p1 : Int32} {s s1 : cS} {r : Option Nat} (C : xC (M, G, cdom, n) RX6 cc ret) (d : decode cc pc = .ok (.invokevirtual 22, 3)) (h : f6_slotAt N p1 s = some (r, s1)) (hR : (xrm 0 0).frames + 1 ≤ (xR (M, G, cdom, n)).frames ∧ 8 + (2 + 11) + (xrm 0 0).locals ≤ (xR (M, G, cdom, n)).locals) (hw : (st.map fun v => v.category).sum ≤ 8) (k : X (M, G, cdom, n) rv E' (encC G s1) (pc + 3) ls (va_rf (Option.map (G.2.1 21) r) :: st)) : X (M, G, cdom, n) rv E' (encC G s) pc ls (.int (p1) :: .ref (G.2.1 19 0) :: st) :=
  x_callV (As := [.int (p1)]) (n := 1) C d (c6_slotAt (xl (M, G, cdom, n)) G h) lk327 lk329 lk2 lk82 lk330 ⟨rfl, rfl⟩ ⟨by decide +kernel, by decide +kernel, by decide +kernel⟩ rfl hR rfl rfl rfl rfl hw k
set_option maxRecDepth 100000 in
theorem t6_addAct {M : xM} {G : xG} {N : Nat} {p1 : Int32} {p2 : Int32} {p3 : Int32} (C : xC (M, G, cdom, 5) RX6 cX6_addAct (Option.some (.object "StepMeters$Act"))) (R : xR (M, G, cdom, 5) = xrm 1 21) {s : cS} {r : Option Nat} {s1 : cS} (h : f6_addAct N p1 p2 p3 s = some (r, s1)) : X (M, G, cdom, 5) (some (va_rf (r.map (G.2.1 21)))) (encC G s1) (encC G s) 0 [(0, .ref (G.2.1 19 0)), (1, .int (p1)), (2, .int (p2)), (3, .int (p3))] [] := by
  unfold f6_addAct at h
  refine x_aload_n (j := 0) C dX6_addAct_0 rfl rfl ?_
  refine x_aload_n (j := 0) C dX6_addAct_1 rfl rfl ?_
  refine gf6_18 C dX6_addAct_2 ?_
  obtain ⟨⟨r5, s5⟩, e5, h⟩ := Option.bind_eq_some_iff.mp h
  try dsimp only at h
  refine k6_22 C dX6_addAct_5 e5 (x_room R rfl) (Nat.le_of_ble_eq_true rfl) ?_
  refine x_astoreq (i := 4) (ls' := [(4, va_rf (Option.map (G.2.1 21) r5)), (0, .ref (G.2.1 19 0)), (1, .int (p1)), (2, .int (p2)), (3, .int (p3))]) C (Option.map (G.2.1 21) r5) dX6_addAct_8 (Nat.le_of_ble_eq_true rfl) rfl ?_
  refine x_aloadq (j := 0) C (Option.map (G.2.1 21) r5) dX6_addAct_10 rfl ?_
  cases r5 with
  | none =>
    try dsimp only at h
    change X (M, G, cdom, 5) _ _ _ 12 [(4, .null), (0, .ref (G.2.1 19 0)), (1, .int (p1)), (2, .int (p2)), (3, .int (p3))] [.null]
    refine x_ifnonnullN C dX6_addAct_12 ?_
    refine x_null C dX6_addAct_15 ?_
    cases h
    exact x_aret C _ dX6_addAct_16
  | some w12 =>
    try dsimp only at h
    change X (M, G, cdom, 5) _ _ _ 12 [(4, .ref (G.2.1 21 w12)), (0, .ref (G.2.1 19 0)), (1, .int (p1)), (2, .int (p2)), (3, .int (p3))] [.ref (G.2.1 21 w12)]
    refine x_ifnonnull (tgt := 17) C dX6_addAct_12 (by decide) ?_
    refine x_aload (j := 0) C dX6_addAct_17 rfl ?_
    refine x_iload_n (j := 2) C dX6_addAct_19 rfl rfl ?_
    by_cases g20_1 : w12 < 60
    case neg => rw [if_neg g20_1] at h; cases h
    rw [if_pos g20_1] at h
    refine pf6_26 C dX6_addAct_20 g20_1 ?_
    refine x_aload (j := 0) C dX6_addAct_23 rfl ?_
    refine x_iload_n (j := 3) C dX6_addAct_25 rfl rfl ?_
    refine pf6_29 C dX6_addAct_26 g20_1 ?_
    refine x_aload (j := 0) C dX6_addAct_29 rfl ?_
    refine x_iload_n (j := 4) C dX6_addAct_31 rfl rfl ?_
    refine pf6_32 C dX6_addAct_32 g20_1 ?_
    refine x_aload_n (j := 1) C dX6_addAct_35 rfl rfl ?_
    refine x_aload_n (j := 1) C dX6_addAct_36 rfl rfl ?_
    refine gf6_18 C dX6_addAct_37 ?_
    refine x_iconst (v := 1) C dX6_addAct_40 (by decide) ?_
    refine x_iadd C dX6_addAct_41 ?_
    refine x_bipush (v := 60) C dX6_addAct_42 (by decide) ?_
    refine x_irem C dX6_addAct_44 (by decide) ?_
    refine pf6_18 C dX6_addAct_45 ?_
    refine x_aload_n (j := 1) C dX6_addAct_48 rfl rfl ?_
    refine x_bipush (v := 60) C dX6_addAct_49 (by decide) ?_
    refine x_aload_n (j := 1) C dX6_addAct_51 rfl rfl ?_
    refine gf6_35 C dX6_addAct_52 ?_
    refine x_iconst (v := 1) C dX6_addAct_55 (by decide) ?_
    refine x_iadd C dX6_addAct_56 ?_
    refine x_min C dX6_addAct_57 lk331 lk332 lk88 lk333 (x_rf R rfl) (x_rl R rfl) ?_
    refine pf6_35 C dX6_addAct_60 ?_
    refine x_aload (j := 0) C dX6_addAct_63 rfl ?_
    cases h
    exact x_aret C _ dX6_addAct_65
theorem c6_addAct (l : Launch) (G : xG) {N : Nat} {p1 : Int32} {p2 : Int32} {p3 : Int32} {s : cS} {r : Option Nat} {s1 : cS} (h : f6_addAct N p1 p2 p3 s = some (r, s1)) : xMet l yX6_addAct (x_ws yX6_addAct cX6_addAct 5 (Option.some (.object "StepMeters$Act"))) (xrm 1 21) G cdom [.ref (G.2.1 19 0), .int (p1), .int (p2), .int (p3)] (encC G s) (some (va_rf (r.map (G.2.1 21)))) (encC G s1) := by
  refine xMet.of (by decide +kernel) (Nat.le_of_ble_eq_true rfl) ?_
  rintro ⟨M, G', dom', n'⟩ e1 R e3 e4 e5 C
  change G' = G at e3; change dom' = cdom at e4; change n' = 5 at e5
  subst e3; subst e4; subst e5
  exact t6_addAct C R h
theorem k8_300 {M : xM} {G : xG} {n : Nat} {rv : Option Value} {E' : xE} {cc : ByteArray} {ret : Option FieldType} {pc : Nat} {ls : List (Nat × Value)} {st : List Value} {N : Nat} {p1 : Int32} {p2 : Int32} {p3 : Int32} {s s1 : cS} {r : Option Nat} (C : xC (M, G, cdom, n) RX8 cc ret) (d : decode cc pc = .ok (.invokevirtual 300, 3)) (h : f6_addAct N p1 p2 p3 s = some (r, s1)) (hR : (xrm 1 21).frames + 1 ≤ (xR (M, G, cdom, n)).frames ∧ 8 + (5 + 11) + (xrm 1 21).locals ≤ (xR (M, G, cdom, n)).locals) (hw : (st.map fun v => v.category).sum ≤ 8) (k : X (M, G, cdom, n) rv E' (encC G s1) (pc + 3) ls (va_rf (Option.map (G.2.1 21) r) :: st)) : X (M, G, cdom, n) rv E' (encC G s) pc ls (.int (p3) :: .int (p2) :: .int (p1) :: .ref (G.2.1 19 0) :: st) :=
  x_callVN (As := [.int (p1), .int (p2), .int (p3)]) (n := 3) C d (c6_addAct (xl (M, G, cdom, n)) G h) lk323 lk325 lk1 lk82 lk326 ⟨rfl, rfl⟩ ⟨by decide +kernel, by decide +kernel, by decide +kernel⟩ rfl hR rfl rfl rfl rfl hw k
set_option maxRecDepth 100000 in
theorem t8_newAct {M : xM} {G : xG} {N : Nat} {p1 : Int32} {p2 : Int32} {p3 : Int32} (C : xC (M, G, cdom, 4) RX8 cX8_newAct (Option.some (.object "StepMeters$Act"))) (R : xR (M, G, cdom, 4) = xrm 2 45) {s : cS} {r : Option Nat} {s1 : cS} (h : f8_newAct N p1 p2 p3 s = some (r, s1)) : X (M, G, cdom, 4) (some (va_rf (r.map (G.2.1 21)))) (encC G s1) (encC G s) 0 [(0, .ref (G.2.1 0 0)), (1, .int (p1)), (2, .int (p2)), (3, .int (p3))] [] := by
  unfold f8_newAct at h
  refine x_aload_n (j := 0) C dX8_newAct_0 rfl rfl ?_
  refine x_iconst (v := (-1)) C dX8_newAct_1 (by decide) ?_
  refine pf8_69 C dX8_newAct_2 ?_
  refine x_aload_n (j := 0) C dX8_newAct_5 rfl rfl ?_
  refine gf8_52 C dX8_newAct_6 ?_
  refine x_iload_n (j := 1) C dX8_newAct_9 rfl rfl ?_
  refine x_iload_n (j := 2) C dX8_newAct_10 rfl rfl ?_
  refine x_iload_n (j := 3) C dX8_newAct_11 rfl rfl ?_
  obtain ⟨⟨r12, s12⟩, e12, h⟩ := Option.bind_eq_some_iff.mp h
  try dsimp only at h
  refine k8_300 C dX8_newAct_12 e12 (x_room R rfl) (Nat.le_of_ble_eq_true rfl) ?_
  cases h
  exact x_aret C _ dX8_newAct_15
theorem c8_newAct (l : Launch) (G : xG) {N : Nat} {p1 : Int32} {p2 : Int32} {p3 : Int32} {s : cS} {r : Option Nat} {s1 : cS} (h : f8_newAct N p1 p2 p3 s = some (r, s1)) : xMet l yX8_newAct (x_ws yX8_newAct cX8_newAct 4 (Option.some (.object "StepMeters$Act"))) (xrm 2 45) G cdom [.ref (G.2.1 0 0), .int (p1), .int (p2), .int (p3)] (encC G s) (some (va_rf (r.map (G.2.1 21)))) (encC G s1) := by
  refine xMet.of (by decide +kernel) (Nat.le_of_ble_eq_true rfl) ?_
  rintro ⟨M, G', dom', n'⟩ e1 R e3 e4 e5 C
  change G' = G at e3; change dom' = cdom at e4; change n' = 4 at e5
  subst e3; subst e4; subst e5
  exact t8_newAct C R h
theorem k8_74 {M : xM} {G : xG} {n : Nat} {rv : Option Value} {E' : xE} {cc : ByteArray} {ret : Option FieldType} {pc : Nat} {ls : List (Nat × Value)} {st : List Value} {N : Nat} {p1 : Int32} {p2 : Int32} {p3 : Int32} {s s1 : cS} {r : Option Nat} (C : xC (M, G, cdom, n) RX8 cc ret) (d : decode cc pc = .ok (.invokevirtual 74, 3)) (h : f8_newAct N p1 p2 p3 s = some (r, s1)) (hR : (xrm 2 45).frames + 1 ≤ (xR (M, G, cdom, n)).frames ∧ 8 + (4 + 11) + (xrm 2 45).locals ≤ (xR (M, G, cdom, n)).locals) (hw : (st.map fun v => v.category).sum ≤ 8) (k : X (M, G, cdom, n) rv E' (encC G s1) (pc + 3) ls (va_rf (Option.map (G.2.1 21) r) :: st)) : X (M, G, cdom, n) rv E' (encC G s) pc ls (.int (p3) :: .int (p2) :: .int (p1) :: .ref (G.2.1 0 0) :: st) :=
  x_callV (As := [.int (p1), .int (p2), .int (p3)]) (n := 3) C d (c8_newAct (xl (M, G, cdom, n)) G h) lk319 lk321 lk0 lk78 lk322 ⟨rfl, rfl⟩ ⟨by decide +kernel, by decide +kernel, by decide +kernel⟩ rfl hR rfl rfl rfl rfl hw k
set_option maxRecDepth 100000 in
theorem t8_range_b18 {M : xM} {G : xG} {N : Nat} {p1 : Int32} (C : xC (M, G, cdom, 3) RX8 cX8_range (some .boolean)) (R : xR (M, G, cdom, 3) = xrm 3 68) {b0 : Int32} {s : cS} {r : Int32} {s1 : cS} (h : f8_range_b18 N p1 b0 s = some (r, s1)) : X (M, G, cdom, 3) (some (.int r)) (encC G s1) (encC G s) 18 [(0, .ref (G.2.1 0 0)), (1, .int (p1))] [.int (b0), .ref (G.2.1 0 0)] := by
  unfold f8_range_b18 at h
  refine pf8_66 C dX8_range_18 ?_
  refine x_aload_n (j := 0) C dX8_range_21 rfl rfl ?_
  refine gf8_66 C dX8_range_22 ?_
  refine x_if_eq (tgt := 30) C dX8_range_25 (by decide) (fun c25 => ?_) (fun c25 => ?_)
  · rw [if_pos c25] at h
    refine x_aload_n (j := 0) C dX8_range_30 rfl rfl ?_
    refine x_iconst (v := 0) C dX8_range_31 (by decide) ?_
    refine x_iconst (v := (-1)) C dX8_range_32 (by decide) ?_
    refine x_iconst (v := (-1)) C dX8_range_33 (by decide) ?_
    obtain ⟨⟨r34, s34⟩, e34, h⟩ := Option.bind_eq_some_iff.mp h
    try dsimp only at h
    refine k8_74 C dX8_range_34 e34 (x_room R rfl) (Nat.le_of_ble_eq_true rfl) ?_
    refine x_astore_nq (i := 2) (ls' := [(2, va_rf (Option.map (G.2.1 21) r34)), (0, .ref (G.2.1 0 0)), (1, .int (p1))]) C (Option.map (G.2.1 21) r34) dX8_range_37 rfl (Nat.le_of_ble_eq_true rfl) rfl ?_
    refine x_aload_nq (j := 0) C (Option.map (G.2.1 21) r34) dX8_range_38 rfl rfl ?_
    cases r34 with
    | none =>
      try dsimp only at h
      change X (M, G, cdom, 3) _ _ _ 39 [(2, .null), (0, .ref (G.2.1 0 0)), (1, .int (p1))] [.null]
      refine x_ifnullN (tgt := 50) C dX8_range_39 (by decide) ?_
      refine x_aload_n (j := 1) C dX8_range_50 rfl rfl ?_
      refine x_iload_n (j := 2) C dX8_range_51 rfl rfl ?_
      refine pf8_56 C dX8_range_52 ?_
      refine x_iconst (v := 1) C dX8_range_55 (by decide) ?_
      cases h
      exact x_zret C dX8_range_56 rfl
    | some w39 =>
      try dsimp only at h
      change X (M, G, cdom, 3) _ _ _ 39 [(2, .ref (G.2.1 21 w39)), (0, .ref (G.2.1 0 0)), (1, .int (p1))] [.ref (G.2.1 21 w39)]
      refine x_ifnull C dX8_range_39 ?_
      refine x_aload_n (j := 0) C dX8_range_42 rfl rfl ?_
      refine x_aload_n (j := 1) C dX8_range_43 rfl rfl ?_
      refine gf8_56 C dX8_range_44 ?_
      by_cases g47_1 : w39 < 60
      case neg => rw [if_neg g47_1] at h; cases h
      rw [if_pos g47_1] at h
      refine pf8_78 C dX8_range_47 g47_1 ?_
      refine x_aload_n (j := 1) C dX8_range_50 rfl rfl ?_
      refine x_iload_n (j := 2) C dX8_range_51 rfl rfl ?_
      refine pf8_56 C dX8_range_52 ?_
      refine x_iconst (v := 1) C dX8_range_55 (by decide) ?_
      cases h
      exact x_zret C dX8_range_56 rfl
  · rw [if_neg c25] at h
    refine x_iconst (v := 0) C dX8_range_28 (by decide) ?_
    cases h
    exact x_zret C dX8_range_29 rfl
set_option maxRecDepth 100000 in
theorem t8_range {M : xM} {G : xG} {N : Nat} {p1 : Int32} (C : xC (M, G, cdom, 3) RX8 cX8_range (some .boolean)) (R : xR (M, G, cdom, 3) = xrm 3 68) {s : cS} {r : Int32} {s1 : cS} (h : f8_range N p1 s = some (r, s1)) : X (M, G, cdom, 3) (some (.int r)) (encC G s1) (encC G s) 0 [(0, .ref (G.2.1 0 0)), (1, .int (p1))] [] := by
  unfold f8_range at h
  refine x_aload_n (j := 0) C dX8_range_0 rfl rfl ?_
  refine x_iload_n (j := 1) C dX8_range_1 rfl rfl ?_
  refine x_iconst (v := 1) C dX8_range_2 (by decide) ?_
  refine x_icmp_lt (tgt := 13) C dX8_range_3 (by decide) (fun c3 => ?_) (fun c3 => ?_)
  · rw [if_pos c3] at h
    refine x_iconst (v := 1) C dX8_range_13 (by decide) ?_
    refine x_goto (tgt := 18) C dX8_range_14 (by decide) ?_
    exact t8_range_b18 (N := N) (p1 := p1) C R h
  · rw [if_neg c3] at h
    refine x_iload_n (j := 1) C dX8_range_6 rfl rfl ?_
    refine x_sipush (v := 4095) C dX8_range_7 (by decide) ?_
    refine x_icmp_le (tgt := 17) C dX8_range_10 (by decide) (fun c10 => ?_) (fun c10 => ?_)
    · rw [if_pos c10] at h
      refine x_iconst (v := 0) C dX8_range_17 (by decide) ?_
      exact t8_range_b18 (N := N) (p1 := p1) C R h
    · rw [if_neg c10] at h
      refine x_iconst (v := 1) C dX8_range_13 (by decide) ?_
      refine x_goto (tgt := 18) C dX8_range_14 (by decide) ?_
      exact t8_range_b18 (N := N) (p1 := p1) C R h
theorem c8_range (l : Launch) (G : xG) {N : Nat} {p1 : Int32} {s : cS} {r : Int32} {s1 : cS} (h : f8_range N p1 s = some (r, s1)) : xMet l yX8_range (x_ws yX8_range cX8_range 3 (some .boolean)) (xrm 3 68) G cdom [.ref (G.2.1 0 0), .int (p1)] (encC G s) (some (.int r)) (encC G s1) := by
  refine xMet.of (by decide +kernel) (Nat.le_of_ble_eq_true rfl) ?_
  rintro ⟨M, G', dom', n'⟩ e1 R e3 e4 e5 C
  change G' = G at e3; change dom' = cdom at e4; change n' = 3 at e5
  subst e3; subst e4; subst e5
  exact t8_range C R h
set_option maxRecDepth 100000 in
theorem t8_meterAt {M : xM} {G : xG} {N : Nat} {p1 : Int32} (C : xC (M, G, cdom, 2) RX8 cX8_meterAt (Option.some (.object "StepMeters$Meter"))) (R : xR (M, G, cdom, 2) = xrm 0 0) {s : cS} {r : Option Nat} {s1 : cS} (h : f8_meterAt N p1 s = some (r, s1)) : X (M, G, cdom, 2) (some (va_rf (r.map (G.2.1 2)))) (encC G s1) (encC G s) 0 [(0, .ref (G.2.1 0 0)), (1, .int (p1))] [] := by
  unfold f8_meterAt at h
  refine x_iload_n (j := 1) C dX8_meterAt_0 rfl rfl ?_
  refine x_if_lt (tgt := 30) C dX8_meterAt_1 (by decide) (fun c1 => ?_) (fun c1 => ?_)
  · rw [if_pos c1] at h
    refine x_null C dX8_meterAt_30 ?_
    cases h
    exact x_aret C _ dX8_meterAt_31
  · rw [if_neg c1] at h
    refine x_iload_n (j := 1) C dX8_meterAt_4 rfl rfl ?_
    refine x_aload_n (j := 0) C dX8_meterAt_5 rfl rfl ?_
    refine gf8_60 C dX8_meterAt_6 ?_
    refine x_icmp_ge (tgt := 30) C dX8_meterAt_9 (by decide) (fun c9 => ?_) (fun c9 => ?_)
    · rw [if_pos c9] at h
      refine x_null C dX8_meterAt_30 ?_
      cases h
      exact x_aret C _ dX8_meterAt_31
    · rw [if_neg c9] at h
      refine x_iload_n (j := 1) C dX8_meterAt_12 rfl rfl ?_
      refine x_aload_n (j := 0) C dX8_meterAt_13 rfl rfl ?_
      refine gf8_11 C dX8_meterAt_14 ?_
      refine cal1 C dX8_meterAt_17 ?_
      refine x_icmp_ge (tgt := 30) C dX8_meterAt_18 (by decide) (fun c18 => ?_) (fun c18 => ?_)
      · rw [if_pos c18] at h
        refine x_null C dX8_meterAt_30 ?_
        cases h
        exact x_aret C _ dX8_meterAt_31
      · rw [if_neg c18] at h
        refine x_aload_n (j := 0) C dX8_meterAt_21 rfl rfl ?_
        refine gf8_11 C dX8_meterAt_22 ?_
        refine x_iload_n (j := 1) C dX8_meterAt_25 rfl rfl ?_
        by_cases g26_1 : inB p1 8 = true
        case neg => rw [if_neg g26_1] at h; cases h
        rw [if_pos g26_1] at h
        refine cld1 C dX8_meterAt_26 g26_1 ?_
        refine x_goto (tgt := 31) C dX8_meterAt_27 (by decide) ?_
        cases h
        exact x_aret C _ dX8_meterAt_31
theorem c8_meterAt (l : Launch) (G : xG) {N : Nat} {p1 : Int32} {s : cS} {r : Option Nat} {s1 : cS} (h : f8_meterAt N p1 s = some (r, s1)) : xMet l yX8_meterAt (x_ws yX8_meterAt cX8_meterAt 2 (Option.some (.object "StepMeters$Meter"))) (xrm 0 0) G cdom [.ref (G.2.1 0 0), .int (p1)] (encC G s) (some (va_rf (r.map (G.2.1 2)))) (encC G s1) := by
  refine xMet.of (by decide +kernel) (Nat.le_of_ble_eq_true rfl) ?_
  rintro ⟨M, G', dom', n'⟩ e1 R e3 e4 e5 C
  change G' = G at e3; change dom' = cdom at e4; change n' = 2 at e5
  subst e3; subst e4; subst e5
  exact t8_meterAt C R h
set_option maxRecDepth 100000 in
theorem t3_begin {M : xM} {G : xG} {N : Nat} {o : Nat} {p1 : Int32} (C : xC (M, G, cdom, 2) RX3 cX3_begin none) (R : xR (M, G, cdom, 2) = xrm 0 0) (ho : o < 8) {s : cS} {s1 : cS} (h : f3_begin N o p1 s = some s1) : X (M, G, cdom, 2) none (encC G s1) (encC G s) 0 [(0, .ref (G.2.1 2 o)), (1, .int (p1))] [] := by
  unfold f3_begin at h
  refine x_aload_n (j := 0) C dX3_begin_0 rfl rfl ?_
  refine x_iload_n (j := 1) C dX3_begin_1 rfl rfl ?_
  refine pf3_18 C dX3_begin_2 ho ?_
  refine x_aload_n (j := 0) C dX3_begin_5 rfl rfl ?_
  refine x_iconst (v := 0) C dX3_begin_6 (by decide) ?_
  refine pf3_22 C dX3_begin_7 ho ?_
  cases h
  exact x_vret C dX3_begin_10
theorem c3_begin (l : Launch) (G : xG) {N : Nat} {o : Nat} {p1 : Int32} {s : cS} {s1 : cS} (ho : o < 8) (h : f3_begin N o p1 s = some s1) : xMet l yX3_begin (x_ws yX3_begin cX3_begin 2 none) (xrm 0 0) G cdom [.ref (G.2.1 2 o), .int (p1)] (encC G s) none (encC G s1) := by
  refine xMet.of (by decide +kernel) (Nat.le_of_ble_eq_true rfl) ?_
  rintro ⟨M, G', dom', n'⟩ e1 R e3 e4 e5 C
  change G' = G at e3; change dom' = cdom at e4; change n' = 2 at e5
  subst e3; subst e4; subst e5
  exact t3_begin C R ho h
theorem k8_83 {M : xM} {G : xG} {n : Nat} {rv : Option Value} {E' : xE} {cc : ByteArray} {ret : Option FieldType} {pc : Nat} {ls : List (Nat × Value)} {st : List Value} {N : Nat} {p1 : Int32} {s s1 : cS} {r : Option Nat} (C : xC (M, G, cdom, n) RX8 cc ret) (d : decode cc pc = .ok (.invokevirtual 83, 3)) (h : f8_meterAt N p1 s = some (r, s1)) (hR : (xrm 0 0).frames + 1 ≤ (xR (M, G, cdom, n)).frames ∧ 8 + (2 + 11) + (xrm 0 0).locals ≤ (xR (M, G, cdom, n)).locals) (hw : (st.map fun v => v.category).sum ≤ 8) (k : X (M, G, cdom, n) rv E' (encC G s1) (pc + 3) ls (va_rf (Option.map (G.2.1 2) r) :: st)) : X (M, G, cdom, n) rv E' (encC G s) pc ls (.int (p1) :: .ref (G.2.1 0 0) :: st) :=
  x_callV (As := [.int (p1)]) (n := 1) C d (c8_meterAt (xl (M, G, cdom, n)) G h) lk338 lk340 lk3 lk78 lk341 ⟨rfl, rfl⟩ ⟨by decide +kernel, by decide +kernel, by decide +kernel⟩ rfl hR rfl rfl rfl rfl hw k
theorem k8_87 {M : xM} {G : xG} {n : Nat} {rv : Option Value} {E' : xE} {cc : ByteArray} {ret : Option FieldType} {pc : Nat} {ls : List (Nat × Value)} {st : List Value} {N : Nat} {o : Nat} {p1 : Int32} {s s1 : cS} (C : xC (M, G, cdom, n) RX8 cc ret) (d : decode cc pc = .ok (.invokevirtual 87, 3)) (h : f3_begin N o p1 s = some s1) (ho : o < 8) (hR : (xrm 0 0).frames + 1 ≤ (xR (M, G, cdom, n)).frames ∧ 8 + (2 + 11) + (xrm 0 0).locals ≤ (xR (M, G, cdom, n)).locals) (hw : (st.map fun v => v.category).sum ≤ 8) (k : X (M, G, cdom, n) rv E' (encC G s1) (pc + 3) ls (st)) : X (M, G, cdom, n) rv E' (encC G s) pc ls (.int (p1) :: .ref (G.2.1 2 o) :: st) :=
  x_callVN (As := [.int (p1)]) (n := 1) C d (c3_begin (xl (M, G, cdom, n)) G ho h) lk342 lk344 lk4 lk84 lk345 ⟨rfl, rfl⟩ ⟨by decide +kernel, by decide +kernel, by decide +kernel⟩ rfl hR (decide_eq_true ho) rfl rfl rfl hw k
set_option maxRecDepth 100000 in
theorem t8_meter_b28 {M : xM} {G : xG} {N : Nat} {p1 : Int32} (C : xC (M, G, cdom, 3) RX8 cX8_meter (some .int)) (R : xR (M, G, cdom, 3) = xrm 3 68) {b0 : Int32} {s : cS} {r : Int32} {s1 : cS} (h : f8_meter_b28 N p1 b0 s = some (r, s1)) : X (M, G, cdom, 3) (some (.int r)) (encC G s1) (encC G s) 28 [(0, .ref (G.2.1 0 0)), (1, .int (p1))] [.int (b0), .ref (G.2.1 0 0)] := by
  unfold f8_meter_b28 at h
  refine pf8_66 C dX8_meter_28 ?_
  refine x_aload_n (j := 0) C dX8_meter_31 rfl rfl ?_
  refine gf8_66 C dX8_meter_32 ?_
  refine x_if_eq (tgt := 40) C dX8_meter_35 (by decide) (fun c35 => ?_) (fun c35 => ?_)
  · rw [if_pos c35] at h
    refine x_aload_n (j := 0) C dX8_meter_40 rfl rfl ?_
    refine x_iconst (v := 1) C dX8_meter_41 (by decide) ?_
    refine x_aload_n (j := 0) C dX8_meter_42 rfl rfl ?_
    refine gf8_60 C dX8_meter_43 ?_
    refine x_iconst (v := (-1)) C dX8_meter_46 (by decide) ?_
    obtain ⟨⟨r47, s47⟩, e47, h⟩ := Option.bind_eq_some_iff.mp h
    try dsimp only at h
    refine k8_74 C dX8_meter_47 e47 (x_room R rfl) (Nat.le_of_ble_eq_true rfl) ?_
    refine x_pop C dX8_meter_50 (va_cat _) ?_
    refine x_aload_n (j := 0) C dX8_meter_51 rfl rfl ?_
    refine x_dup C dX8_meter_52 rfl ?_
    refine gf8_60 C dX8_meter_53 ?_
    refine x_iconst (v := 1) C dX8_meter_56 (by decide) ?_
    refine x_iadd C dX8_meter_57 ?_
    refine pf8_60 C dX8_meter_58 ?_
    refine x_aload_n (j := 0) C dX8_meter_61 rfl rfl ?_
    refine x_aload_n (j := 0) C dX8_meter_62 rfl rfl ?_
    refine gf8_60 C dX8_meter_63 ?_
    refine x_iconst (v := 1) C dX8_meter_66 (by decide) ?_
    refine x_isub C dX8_meter_67 ?_
    obtain ⟨⟨r68, s68⟩, e68, h⟩ := Option.bind_eq_some_iff.mp h
    try dsimp only at h
    refine k8_83 C dX8_meter_68 e68 (x_room R rfl) (Nat.le_of_ble_eq_true rfl) ?_
    refine x_astore_nq (i := 2) (ls' := [(2, va_rf (Option.map (G.2.1 2) r68)), (0, .ref (G.2.1 0 0)), (1, .int (p1))]) C (Option.map (G.2.1 2) r68) dX8_meter_71 rfl (Nat.le_of_ble_eq_true rfl) rfl ?_
    refine x_aload_nq (j := 0) C (Option.map (G.2.1 2) r68) dX8_meter_72 rfl rfl ?_
    cases r68 with
    | none =>
      try dsimp only at h
      change X (M, G, cdom, 3) _ _ _ 73 [(2, .null), (0, .ref (G.2.1 0 0)), (1, .int (p1))] [.null]
      refine x_ifnullN (tgt := 81) C dX8_meter_73 (by decide) ?_
      refine x_aload_n (j := 1) C dX8_meter_81 rfl rfl ?_
      refine gf8_60 C dX8_meter_82 ?_
      refine x_iconst (v := 1) C dX8_meter_85 (by decide) ?_
      refine x_isub C dX8_meter_86 ?_
      cases h
      exact x_iret C dX8_meter_87
    | some w73 =>
      try dsimp only at h
      change X (M, G, cdom, 3) _ _ _ 73 [(2, .ref (G.2.1 2 w73)), (0, .ref (G.2.1 0 0)), (1, .int (p1))] [.ref (G.2.1 2 w73)]
      refine x_ifnull C dX8_meter_73 ?_
      refine x_aload_n (j := 0) C dX8_meter_76 rfl rfl ?_
      refine x_iload_n (j := 2) C dX8_meter_77 rfl rfl ?_
      by_cases g78_1 : w73 < 8
      case neg => rw [if_neg g78_1] at h; cases h
      rw [if_pos g78_1] at h
      obtain ⟨s78, e78, h⟩ := Option.bind_eq_some_iff.mp h
      try dsimp only at h
      refine k8_87 C dX8_meter_78 e78 g78_1 (x_room R rfl) (Nat.le_of_ble_eq_true rfl) ?_
      refine x_aload_n (j := 1) C dX8_meter_81 rfl rfl ?_
      refine gf8_60 C dX8_meter_82 ?_
      refine x_iconst (v := 1) C dX8_meter_85 (by decide) ?_
      refine x_isub C dX8_meter_86 ?_
      cases h
      exact x_iret C dX8_meter_87
  · rw [if_neg c35] at h
    refine x_iconst (v := (-1)) C dX8_meter_38 (by decide) ?_
    cases h
    exact x_iret C dX8_meter_39
set_option maxRecDepth 100000 in
theorem t8_meter {M : xM} {G : xG} {N : Nat} {p1 : Int32} (C : xC (M, G, cdom, 3) RX8 cX8_meter (some .int)) (R : xR (M, G, cdom, 3) = xrm 3 68) {s : cS} {r : Int32} {s1 : cS} (h : f8_meter N p1 s = some (r, s1)) : X (M, G, cdom, 3) (some (.int r)) (encC G s1) (encC G s) 0 [(0, .ref (G.2.1 0 0)), (1, .int (p1))] [] := by
  unfold f8_meter at h
  refine x_aload_n (j := 0) C dX8_meter_0 rfl rfl ?_
  refine x_iload_n (j := 1) C dX8_meter_1 rfl rfl ?_
  refine x_if_lt (tgt := 10) C dX8_meter_2 (by decide) (fun c2 => ?_) (fun c2 => ?_)
  · rw [if_pos c2] at h
    refine x_iconst (v := 1) C dX8_meter_10 (by decide) ?_
    refine x_goto (tgt := 28) C dX8_meter_11 (by decide) ?_
    exact t8_meter_b28 (N := N) (p1 := p1) C R h
  · rw [if_neg c2] at h
    refine x_iload_n (j := 1) C dX8_meter_5 rfl rfl ?_
    refine x_iconst (v := 4) C dX8_meter_6 (by decide) ?_
    refine x_icmp_le (tgt := 14) C dX8_meter_7 (by decide) (fun c7 => ?_) (fun c7 => ?_)
    · rw [if_pos c7] at h
      refine x_aload_n (j := 0) C dX8_meter_14 rfl rfl ?_
      refine gf8_60 C dX8_meter_15 ?_
      refine x_bipush (v := 8) C dX8_meter_18 (by decide) ?_
      refine x_icmp_lt (tgt := 27) C dX8_meter_20 (by decide) (fun c20 => ?_) (fun c20 => ?_)
      · rw [if_pos c20] at h
        refine x_iconst (v := 0) C dX8_meter_27 (by decide) ?_
        exact t8_meter_b28 (N := N) (p1 := p1) C R h
      · rw [if_neg c20] at h
        refine x_iconst (v := 3) C dX8_meter_23 (by decide) ?_
        refine x_goto (tgt := 28) C dX8_meter_24 (by decide) ?_
        exact t8_meter_b28 (N := N) (p1 := p1) C R h
    · rw [if_neg c7] at h
      refine x_iconst (v := 1) C dX8_meter_10 (by decide) ?_
      refine x_goto (tgt := 28) C dX8_meter_11 (by decide) ?_
      exact t8_meter_b28 (N := N) (p1 := p1) C R h
theorem c8_meter (l : Launch) (G : xG) {N : Nat} {p1 : Int32} {s : cS} {r : Int32} {s1 : cS} (h : f8_meter N p1 s = some (r, s1)) : xMet l yX8_meter (x_ws yX8_meter cX8_meter 3 (some .int)) (xrm 3 68) G cdom [.ref (G.2.1 0 0), .int (p1)] (encC G s) (some (.int r)) (encC G s1) := by
  refine xMet.of (by decide +kernel) (Nat.le_of_ble_eq_true rfl) ?_
  rintro ⟨M, G', dom', n'⟩ e1 R e3 e4 e5 C
  change G' = G at e3; change dom' = cdom at e4; change n' = 3 at e5
  subst e3; subst e4; subst e5
  exact t8_meter C R h
set_option maxRecDepth 100000 in
theorem t8_isWithin {M : xM} {G : xG} {N : Nat} {p0 : Int32} {p1 : Int32} (C : xC (M, G, cdom, 2) RX8 cX8_isWithin (some .boolean)) (R : xR (M, G, cdom, 2) = xrm 0 0) {s : cS} {r : Int32} {s1 : cS} (h : f8_isWithin N p0 p1 s = some (r, s1)) : X (M, G, cdom, 2) (some (.int r)) (encC G s1) (encC G s) 0 [(0, .int (p0)), (1, .int (p1))] [] := by
  unfold f8_isWithin at h
  refine x_iload_n (j := 0) C dX8_isWithin_0 rfl rfl ?_
  refine x_iload_n (j := 1) C dX8_isWithin_1 rfl rfl ?_
  refine x_ineg C dX8_isWithin_2 ?_
  refine x_icmp_lt (tgt := 15) C dX8_isWithin_3 (by decide) (fun c3 => ?_) (fun c3 => ?_)
  · rw [if_pos c3] at h
    refine x_iconst (v := 0) C dX8_isWithin_15 (by decide) ?_
    cases h
    exact x_zret C dX8_isWithin_16 rfl
  · rw [if_neg c3] at h
    refine x_iload_n (j := 0) C dX8_isWithin_6 rfl rfl ?_
    refine x_iload_n (j := 1) C dX8_isWithin_7 rfl rfl ?_
    refine x_icmp_gt (tgt := 15) C dX8_isWithin_8 (by decide) (fun c8 => ?_) (fun c8 => ?_)
    · rw [if_pos c8] at h
      refine x_iconst (v := 0) C dX8_isWithin_15 (by decide) ?_
      cases h
      exact x_zret C dX8_isWithin_16 rfl
    · rw [if_neg c8] at h
      refine x_iconst (v := 1) C dX8_isWithin_11 (by decide) ?_
      refine x_goto (tgt := 16) C dX8_isWithin_12 (by decide) ?_
      cases h
      exact x_zret C dX8_isWithin_16 rfl
theorem c8_isWithin (l : Launch) (G : xG) {N : Nat} {p0 : Int32} {p1 : Int32} {s : cS} {r : Int32} {s1 : cS} (h : f8_isWithin N p0 p1 s = some (r, s1)) : xMet l yX8_isWithin (x_ws yX8_isWithin cX8_isWithin 2 (some .boolean)) (xrm 0 0) G cdom [.int (p0), .int (p1)] (encC G s) (some (.int r)) (encC G s1) := by
  refine xMet.of (by decide +kernel) (Nat.le_of_ble_eq_true rfl) ?_
  rintro ⟨M, G', dom', n'⟩ e1 R e3 e4 e5 C
  change G' = G at e3; change dom' = cdom at e4; change n' = 2 at e5
  subst e3; subst e4; subst e5
  exact t8_isWithin C R h
set_option maxRecDepth 100000 in
theorem t3_isStaged {M : xM} {G : xG} {N : Nat} {o : Nat} (C : xC (M, G, cdom, 1) RX3 cX3_isStaged (some .boolean)) (R : xR (M, G, cdom, 1) = xrm 0 0) (ho : o < 8) {s : cS} {r : Int32} {s1 : cS} (h : f3_isStaged N o s = some (r, s1)) : X (M, G, cdom, 1) (some (.int r)) (encC G s1) (encC G s) 0 [(0, .ref (G.2.1 2 o))] [] := by
  unfold f3_isStaged at h
  refine x_aload_n (j := 0) C dX3_isStaged_0 rfl rfl ?_
  refine gf3_18 C dX3_isStaged_1 ho ?_
  refine x_iconst (v := 3) C dX3_isStaged_4 (by decide) ?_
  refine x_icmp_eq (tgt := 16) C dX3_isStaged_5 (by decide) (fun c5 => ?_) (fun c5 => ?_)
  · rw [if_pos c5] at h
    refine x_iconst (v := 1) C dX3_isStaged_16 (by decide) ?_
    refine x_goto (tgt := 21) C dX3_isStaged_17 (by decide) ?_
    cases h
    exact x_zret C dX3_isStaged_21 rfl
  · rw [if_neg c5] at h
    refine x_aload_n (j := 0) C dX3_isStaged_8 rfl rfl ?_
    refine gf3_18 C dX3_isStaged_9 ho ?_
    refine x_iconst (v := 4) C dX3_isStaged_12 (by decide) ?_
    refine x_icmp_ne (tgt := 20) C dX3_isStaged_13 (by decide) (fun c13 => ?_) (fun c13 => ?_)
    · rw [if_neg c13] at h
      refine x_iconst (v := 0) C dX3_isStaged_20 (by decide) ?_
      cases h
      exact x_zret C dX3_isStaged_21 rfl
    · rw [if_pos c13] at h
      refine x_iconst (v := 1) C dX3_isStaged_16 (by decide) ?_
      refine x_goto (tgt := 21) C dX3_isStaged_17 (by decide) ?_
      cases h
      exact x_zret C dX3_isStaged_21 rfl
theorem c3_isStaged (l : Launch) (G : xG) {N : Nat} {o : Nat} {s : cS} {r : Int32} {s1 : cS} (ho : o < 8) (h : f3_isStaged N o s = some (r, s1)) : xMet l yX3_isStaged (x_ws yX3_isStaged cX3_isStaged 1 (some .boolean)) (xrm 0 0) G cdom [.ref (G.2.1 2 o)] (encC G s) (some (.int r)) (encC G s1) := by
  refine xMet.of (by decide +kernel) (Nat.le_of_ble_eq_true rfl) ?_
  rintro ⟨M, G', dom', n'⟩ e1 R e3 e4 e5 C
  change G' = G at e3; change dom' = cdom at e4; change n' = 1 at e5
  subst e3; subst e4; subst e5
  exact t3_isStaged C R ho h
theorem k8_113 {M : xM} {G : xG} {n : Nat} {rv : Option Value} {E' : xE} {cc : ByteArray} {ret : Option FieldType} {pc : Nat} {ls : List (Nat × Value)} {st : List Value} {N : Nat} {p0 : Int32} {p1 : Int32} {s s1 : cS} {r : Int32} (C : xC (M, G, cdom, n) RX8 cc ret) (d : decode cc pc = .ok (.invokestatic 113, 3)) (h : f8_isWithin N p0 p1 s = some (r, s1)) (hR : (xrm 0 0).frames + 1 ≤ (xR (M, G, cdom, n)).frames ∧ 8 + (2 + 11) + (xrm 0 0).locals ≤ (xR (M, G, cdom, n)).locals) (hw : (st.map fun v => v.category).sum ≤ 8) (k : X (M, G, cdom, n) rv E' (encC G s1) (pc + 3) ls (.int r :: st)) : X (M, G, cdom, n) rv E' (encC G s) pc ls (.int (p1) :: .int (p0) :: st) :=
  x_callS (As := [.int (p0), .int (p1)]) (n := 2) C d (c8_isWithin (xl (M, G, cdom, n)) G h) lk353 lk354 lk78 lk355 ⟨rfl, rfl⟩ ⟨by decide +kernel, by decide +kernel, by decide +kernel⟩ rfl hR rfl hw k
theorem k8_278 {M : xM} {G : xG} {n : Nat} {rv : Option Value} {E' : xE} {cc : ByteArray} {ret : Option FieldType} {pc : Nat} {ls : List (Nat × Value)} {st : List Value} {N : Nat} {o : Nat} {s s1 : cS} {r : Int32} (C : xC (M, G, cdom, n) RX8 cc ret) (d : decode cc pc = .ok (.invokevirtual 278, 3)) (h : f3_isStaged N o s = some (r, s1)) (ho : o < 8) (hR : (xrm 0 0).frames + 1 ≤ (xR (M, G, cdom, n)).frames ∧ 8 + (1 + 11) + (xrm 0 0).locals ≤ (xR (M, G, cdom, n)).locals) (hw : (st.map fun v => v.category).sum ≤ 8) (k : X (M, G, cdom, n) rv E' (encC G s1) (pc + 3) ls (.int r :: st)) : X (M, G, cdom, n) rv E' (encC G s) pc ls (.ref (G.2.1 2 o) :: st) :=
  x_callVN (As := []) (n := 0) C d (c3_isStaged (xl (M, G, cdom, n)) G ho h) lk356 lk358 lk5 lk84 lk359 ⟨rfl, rfl⟩ ⟨by decide +kernel, by decide +kernel, by decide +kernel⟩ rfl hR (decide_eq_true ho) rfl rfl rfl hw k
set_option maxRecDepth 100000 in
theorem t8_whyNoPart_b35 {M : xM} {G : xG} {N : Nat} {p0 : Option Nat} {p1 : Int32} {p2 : Int32} (C : xC (M, G, cdom, 3) RX8 cX8_whyNoPart (some .int)) (R : xR (M, G, cdom, 3) = xrm 1 21) {a0 : Nat} {s : cS} {r : Int32} {s1 : cS} (h : f8_whyNoPart_b35 N p0 p1 p2 a0 s = some (r, s1)) : X (M, G, cdom, 3) (some (.int r)) (encC G s1) (encC G s) 35 [(0, .ref (G.2.1 2 a0))] [] := by
  unfold f8_whyNoPart_b35 at h
  refine x_aload_n (j := 0) C dX8_whyNoPart_35 rfl rfl ?_
  by_cases g36_1 : a0 < 8
  case neg => rw [if_neg g36_1] at h; cases h
  rw [if_pos g36_1] at h
  refine gf8_95 C dX8_whyNoPart_36 g36_1 ?_
  refine x_bipush (v := 16) C dX8_whyNoPart_39 (by decide) ?_
  refine x_icmp_lt (tgt := 48) C dX8_whyNoPart_41 (by decide) (fun c41 => ?_) (fun c41 => ?_)
  · rw [if_pos c41] at h
    refine x_iconst (v := 0) C dX8_whyNoPart_48 (by decide) ?_
    cases h
    exact x_iret C dX8_whyNoPart_49
  · rw [if_neg c41] at h
    refine x_iconst (v := 3) C dX8_whyNoPart_44 (by decide) ?_
    refine x_goto (tgt := 49) C dX8_whyNoPart_45 (by decide) ?_
    cases h
    exact x_iret C dX8_whyNoPart_49
set_option maxRecDepth 100000 in
theorem t8_whyNoPart {M : xM} {G : xG} {N : Nat} {p0 : Option Nat} {p1 : Int32} {p2 : Int32} (C : xC (M, G, cdom, 3) RX8 cX8_whyNoPart (some .int)) (R : xR (M, G, cdom, 3) = xrm 1 21) {s : cS} {r : Int32} {s1 : cS} (h : f8_whyNoPart N p0 p1 p2 s = some (r, s1)) : X (M, G, cdom, 3) (some (.int r)) (encC G s1) (encC G s) 0 [(0, va_rf (Option.map (G.2.1 2) p0)), (1, .int (p1)), (2, .int (p2))] [] := by
  unfold f8_whyNoPart at h
  refine x_aload_nq (j := 0) C (Option.map (G.2.1 2) p0) dX8_whyNoPart_0 rfl rfl ?_
  cases p0 with
  | none =>
    try dsimp only at h
    change X (M, G, cdom, 3) _ _ _ 1 [(0, .null), (1, .int (p1)), (2, .int (p2))] [.null]
    refine x_ifnonnullN C dX8_whyNoPart_1 ?_
    refine x_iconst (v := 2) C dX8_whyNoPart_4 (by decide) ?_
    cases h
    exact x_iret C dX8_whyNoPart_5
  | some w1 =>
    try dsimp only at h
    change X (M, G, cdom, 3) _ _ _ 1 [(0, .ref (G.2.1 2 w1)), (1, .int (p1)), (2, .int (p2))] [.ref (G.2.1 2 w1)]
    refine x_ifnonnull (tgt := 6) C dX8_whyNoPart_1 (by decide) ?_
    refine x_iload_n (j := 1) C dX8_whyNoPart_6 rfl rfl ?_
    refine x_sipush (v := 8000) C dX8_whyNoPart_7 (by decide) ?_
    obtain ⟨⟨r10, s10⟩, e10, h⟩ := Option.bind_eq_some_iff.mp h
    try dsimp only at h
    refine k8_113 C dX8_whyNoPart_10 e10 (x_room R rfl) (Nat.le_of_ble_eq_true rfl) ?_
    refine x_if_eq (tgt := 33) C dX8_whyNoPart_13 (by decide) (fun c13 => ?_) (fun c13 => ?_)
    · rw [if_pos c13] at h
      refine x_iconst (v := 1) C dX8_whyNoPart_33 (by decide) ?_
      cases h
      exact x_iret C dX8_whyNoPart_34
    · rw [if_neg c13] at h
      refine x_aload_n (j := 0) C dX8_whyNoPart_16 rfl rfl ?_
      by_cases g17_1 : w1 < 8
      case neg => rw [if_neg g17_1] at h; cases h
      rw [if_pos g17_1] at h
      obtain ⟨⟨r17, s17⟩, e17, h⟩ := Option.bind_eq_some_iff.mp h
      try dsimp only at h
      refine k8_278 C dX8_whyNoPart_17 e17 g17_1 (x_room R rfl) (Nat.le_of_ble_eq_true rfl) ?_
      refine x_if_eq (tgt := 35) C dX8_whyNoPart_20 (by decide) (fun c20 => ?_) (fun c20 => ?_)
      · rw [if_pos c20] at h
        refine x_sub (ls' := [(0, .ref (G.2.1 2 w1))]) [0] rfl ?_
        exact t8_whyNoPart_b35 (N := N) (p1 := p1) (p2 := p2) C R h
      · rw [if_neg c20] at h
        refine x_iload_n (j := 2) C dX8_whyNoPart_23 rfl rfl ?_
        refine x_sipush (v := 8000) C dX8_whyNoPart_24 (by decide) ?_
        obtain ⟨⟨r27, s27⟩, e27, h⟩ := Option.bind_eq_some_iff.mp h
        try dsimp only at h
        refine k8_113 C dX8_whyNoPart_27 e27 (x_room R rfl) (Nat.le_of_ble_eq_true rfl) ?_
        refine x_if_ne (tgt := 35) C dX8_whyNoPart_30 (by decide) (fun c30 => ?_) (fun c30 => ?_)
        · rw [if_neg c30] at h
          refine x_sub (ls' := [(0, .ref (G.2.1 2 w1))]) [0] rfl ?_
          exact t8_whyNoPart_b35 (N := N) (p1 := p1) (p2 := p2) C R h
        · rw [if_pos c30] at h
          refine x_iconst (v := 1) C dX8_whyNoPart_33 (by decide) ?_
          cases h
          exact x_iret C dX8_whyNoPart_34
theorem c8_whyNoPart (l : Launch) (G : xG) {N : Nat} {p0 : Option Nat} {p1 : Int32} {p2 : Int32} {s : cS} {r : Int32} {s1 : cS} (h : f8_whyNoPart N p0 p1 p2 s = some (r, s1)) : xMet l yX8_whyNoPart (x_ws yX8_whyNoPart cX8_whyNoPart 3 (some .int)) (xrm 1 21) G cdom [va_rf (Option.map (G.2.1 2) p0), .int (p1), .int (p2)] (encC G s) (some (.int r)) (encC G s1) := by
  refine xMet.of (by decide +kernel) (by cases p0 <;> exact Nat.le_of_ble_eq_true rfl) ?_
  rintro ⟨M, G', dom', n'⟩ e1 R e3 e4 e5 C
  change G' = G at e3; change dom' = cdom at e4; change n' = 3 at e5
  subst e3; subst e4; subst e5
  cases p0 <;> exact t8_whyNoPart C R h
set_option maxRecDepth 100000 in
theorem t3_partAt {M : xM} {G : xG} {N : Nat} {o : Nat} {p1 : Int32} (C : xC (M, G, cdom, 2) RX3 cX3_partAt (Option.some (.object "StepMeters$Part"))) (R : xR (M, G, cdom, 2) = xrm 0 0) (ho : o < 8) {s : cS} {r : Option Nat} {s1 : cS} (h : f3_partAt N o p1 s = some (r, s1)) : X (M, G, cdom, 2) (some (va_rf (r.map (G.2.1 4)))) (encC G s1) (encC G s) 0 [(0, .ref (G.2.1 2 o)), (1, .int (p1))] [] := by
  unfold f3_partAt at h
  refine x_iload_n (j := 1) C dX3_partAt_0 rfl rfl ?_
  refine x_if_lt (tgt := 30) C dX3_partAt_1 (by decide) (fun c1 => ?_) (fun c1 => ?_)
  · rw [if_pos c1] at h
    refine x_null C dX3_partAt_30 ?_
    cases h
    exact x_aret C _ dX3_partAt_31
  · rw [if_neg c1] at h
    refine x_iload_n (j := 1) C dX3_partAt_4 rfl rfl ?_
    refine x_aload_n (j := 0) C dX3_partAt_5 rfl rfl ?_
    refine gf3_22 C dX3_partAt_6 ho ?_
    refine x_icmp_ge (tgt := 30) C dX3_partAt_9 (by decide) (fun c9 => ?_) (fun c9 => ?_)
    · rw [if_pos c9] at h
      refine x_null C dX3_partAt_30 ?_
      cases h
      exact x_aret C _ dX3_partAt_31
    · rw [if_neg c9] at h
      refine x_iload_n (j := 1) C dX3_partAt_12 rfl rfl ?_
      refine x_aload_n (j := 0) C dX3_partAt_13 rfl rfl ?_
      refine gf3_11 C dX3_partAt_14 ho ?_
      refine cal3 C dX3_partAt_17 ho ?_
      refine x_icmp_ge (tgt := 30) C dX3_partAt_18 (by decide) (fun c18 => ?_) (fun c18 => ?_)
      · rw [if_pos c18] at h
        refine x_null C dX3_partAt_30 ?_
        cases h
        exact x_aret C _ dX3_partAt_31
      · rw [if_neg c18] at h
        refine x_aload_n (j := 0) C dX3_partAt_21 rfl rfl ?_
        refine gf3_11 C dX3_partAt_22 ho ?_
        refine x_iload_n (j := 1) C dX3_partAt_25 rfl rfl ?_
        by_cases g26_1 : inB p1 16 = true
        case neg => rw [if_neg g26_1] at h; cases h
        rw [if_pos g26_1] at h
        refine cld3 C dX3_partAt_26 ho g26_1 ?_
        refine x_goto (tgt := 31) C dX3_partAt_27 (by decide) ?_
        cases h
        exact x_aret C _ dX3_partAt_31
theorem c3_partAt (l : Launch) (G : xG) {N : Nat} {o : Nat} {p1 : Int32} {s : cS} {r : Option Nat} {s1 : cS} (ho : o < 8) (h : f3_partAt N o p1 s = some (r, s1)) : xMet l yX3_partAt (x_ws yX3_partAt cX3_partAt 2 (Option.some (.object "StepMeters$Part"))) (xrm 0 0) G cdom [.ref (G.2.1 2 o), .int (p1)] (encC G s) (some (va_rf (r.map (G.2.1 4)))) (encC G s1) := by
  refine xMet.of (by decide +kernel) (Nat.le_of_ble_eq_true rfl) ?_
  rintro ⟨M, G', dom', n'⟩ e1 R e3 e4 e5 C
  change G' = G at e3; change dom' = cdom at e4; change n' = 2 at e5
  subst e3; subst e4; subst e5
  exact t3_partAt C R ho h
theorem k3_25 {M : xM} {G : xG} {n : Nat} {rv : Option Value} {E' : xE} {cc : ByteArray} {ret : Option FieldType} {pc : Nat} {ls : List (Nat × Value)} {st : List Value} {N : Nat} {o : Nat} {p1 : Int32} {s s1 : cS} {r : Option Nat} (C : xC (M, G, cdom, n) RX3 cc ret) (d : decode cc pc = .ok (.invokevirtual 25, 3)) (h : f3_partAt N o p1 s = some (r, s1)) (ho : o < 8) (hR : (xrm 0 0).frames + 1 ≤ (xR (M, G, cdom, n)).frames ∧ 8 + (2 + 11) + (xrm 0 0).locals ≤ (xR (M, G, cdom, n)).locals) (hw : (st.map fun v => v.category).sum ≤ 8) (k : X (M, G, cdom, n) rv E' (encC G s1) (pc + 3) ls (va_rf (Option.map (G.2.1 4) r) :: st)) : X (M, G, cdom, n) rv E' (encC G s) pc ls (.int (p1) :: .ref (G.2.1 2 o) :: st) :=
  x_callV (As := [.int (p1)]) (n := 1) C d (c3_partAt (xl (M, G, cdom, n)) G ho h) lk364 lk366 lk7 lk84 lk367 ⟨rfl, rfl⟩ ⟨by decide +kernel, by decide +kernel, by decide +kernel⟩ rfl hR (decide_eq_true ho) rfl rfl rfl hw k
set_option maxRecDepth 100000 in
theorem t3_keepWorths_l2b {M : xM} {G : xG} {N : Nat} {o : Nat} {p1 : Nat} (C : xC (M, G, cdom, 4) RX3 cX3_keepWorths none) (R : xR (M, G, cdom, 4) = xrm 1 21) (ho : o < 8) {k2 : Int32 → cS → Option (cS)} (hk2 : ∀ (a2 : Int32) (s : cS) (s1 : cS), k2 a2 s = some s1 → X (M, G, cdom, 4) none (encC G s1) (encC G s) 2 [(0, .ref (G.2.1 2 o)), (1, .ref (G.2.1 22 p1)), (2, .int (a2))] []) {a2 : Int32} {s : cS} {s1 : cS} (h : f3_keepWorths_l2b N o p1 k2 a2 s = some s1) : X (M, G, cdom, 4) none (encC G s1) (encC G s) 2 [(0, .ref (G.2.1 2 o)), (1, .ref (G.2.1 22 p1)), (2, .int (a2))] [] := by
  unfold f3_keepWorths_l2b at h
  refine x_iload_n (j := 2) C dX3_keepWorths_2 rfl rfl ?_
  refine x_aload_n (j := 0) C dX3_keepWorths_3 rfl rfl ?_
  refine gf3_22 C dX3_keepWorths_4 ho ?_
  refine x_icmp_ge (tgt := 43) C dX3_keepWorths_7 (by decide) (fun c7 => ?_) (fun c7 => ?_)
  · rw [if_pos c7] at h
    cases h
    exact x_vret C dX3_keepWorths_43
  · rw [if_neg c7] at h
    refine x_iload_n (j := 2) C dX3_keepWorths_10 rfl rfl ?_
    refine x_aload_n (j := 1) C dX3_keepWorths_11 rfl rfl ?_
    by_cases g12_1 : p1 < 60
    case neg => rw [if_neg g12_1] at h; cases h
    rw [if_pos g12_1] at h
    refine cal22 C dX3_keepWorths_12 g12_1 ?_
    refine x_icmp_ge (tgt := 43) C dX3_keepWorths_13 (by decide) (fun c13 => ?_) (fun c13 => ?_)
    · rw [if_pos c13] at h
      cases h
      exact x_vret C dX3_keepWorths_43
    · rw [if_neg c13] at h
      refine x_aload_n (j := 0) C dX3_keepWorths_16 rfl rfl ?_
      refine x_iload_n (j := 2) C dX3_keepWorths_17 rfl rfl ?_
      obtain ⟨⟨r18, s18⟩, e18, h⟩ := Option.bind_eq_some_iff.mp h
      try dsimp only at h
      refine k3_25 C dX3_keepWorths_18 e18 ho (x_room R rfl) (Nat.le_of_ble_eq_true rfl) ?_
      refine x_astore_nq (i := 3) (ls' := [(3, va_rf (Option.map (G.2.1 4) r18)), (0, .ref (G.2.1 2 o)), (1, .ref (G.2.1 22 p1)), (2, .int (a2))]) C (Option.map (G.2.1 4) r18) dX3_keepWorths_21 rfl (Nat.le_of_ble_eq_true rfl) rfl ?_
      refine x_aload_n (j := 2) C dX3_keepWorths_22 rfl rfl ?_
      refine x_iload_n (j := 3) C dX3_keepWorths_23 rfl rfl ?_
      refine x_aload_nq (j := 0) C (Option.map (G.2.1 4) r18) dX3_keepWorths_24 rfl rfl ?_
      cases r18 with
      | none =>
        try dsimp only at h
        change X (M, G, cdom, 4) _ _ _ 25 [(3, .null), (0, .ref (G.2.1 2 o)), (1, .ref (G.2.1 22 p1)), (2, .int (a2))] [.null, .int (a2), .ref (G.2.1 22 p1)]
        refine x_ifnonnullN C dX3_keepWorths_25 ?_
        refine x_iconst (v := 0) C dX3_keepWorths_28 (by decide) ?_
        refine x_goto (tgt := 36) C dX3_keepWorths_29 (by decide) ?_
        by_cases g36_2 : inB a2 16 = true
        case neg => rw [if_neg g36_2] at h; cases h
        rw [if_pos g36_2] at h
        refine cst22 C dX3_keepWorths_36 g12_1 g36_2 ?_
        refine x_iinc (j := 3) (v := (a2 + 1)) (ls' := [(2, .int ((a2 + 1))), (3, .null), (0, .ref (G.2.1 2 o)), (1, .ref (G.2.1 22 p1))]) C dX3_keepWorths_37 rfl rfl (Nat.le_of_ble_eq_true rfl) rfl ?_
        refine x_goto (tgt := 2) C dX3_keepWorths_40 (by decide) ?_
        refine x_sub (ls' := [(0, .ref (G.2.1 2 o)), (1, .ref (G.2.1 22 p1)), (2, .int ((a2 + 1)))]) [2, 3, 0] rfl ?_
        exact hk2 _ _ _ h
      | some w25 =>
        try dsimp only at h
        change X (M, G, cdom, 4) _ _ _ 25 [(3, .ref (G.2.1 4 w25)), (0, .ref (G.2.1 2 o)), (1, .ref (G.2.1 22 p1)), (2, .int (a2))] [.ref (G.2.1 4 w25), .int (a2), .ref (G.2.1 22 p1)]
        refine x_ifnonnull (tgt := 32) C dX3_keepWorths_25 (by decide) ?_
        refine x_aload_n (j := 0) C dX3_keepWorths_32 rfl rfl ?_
        by_cases g33_3 : w25 < 128
        case neg => rw [if_neg g33_3] at h; cases h
        rw [if_pos g33_3] at h
        refine gf3_35 C dX3_keepWorths_33 g33_3 ?_
        by_cases g36_4 : inB a2 16 = true
        case neg => rw [if_neg g36_4] at h; cases h
        rw [if_pos g36_4] at h
        refine cst22 C dX3_keepWorths_36 g12_1 g36_4 ?_
        refine x_iinc (j := 3) (v := (a2 + 1)) (ls' := [(2, .int ((a2 + 1))), (3, .ref (G.2.1 4 w25)), (0, .ref (G.2.1 2 o)), (1, .ref (G.2.1 22 p1))]) C dX3_keepWorths_37 rfl rfl (Nat.le_of_ble_eq_true rfl) rfl ?_
        refine x_goto (tgt := 2) C dX3_keepWorths_40 (by decide) ?_
        refine x_sub (ls' := [(0, .ref (G.2.1 2 o)), (1, .ref (G.2.1 22 p1)), (2, .int ((a2 + 1)))]) [2, 3, 0] rfl ?_
        exact hk2 _ _ _ h
theorem t3_keepWorths_l2 {M : xM} {G : xG} {N : Nat} {o : Nat} {p1 : Nat} (C : xC (M, G, cdom, 4) RX3 cX3_keepWorths none) (R : xR (M, G, cdom, 4) = xrm 1 21) (ho : o < 8) (n : Nat) : ∀ (a2 : Int32) (s : cS) (s1 : cS), f3_keepWorths_l2 N o p1 n a2 s = some s1 → X (M, G, cdom, 4) none (encC G s1) (encC G s) 2 [(0, .ref (G.2.1 2 o)), (1, .ref (G.2.1 22 p1)), (2, .int (a2))] [] := by
  induction n with
  | zero => intro a2 s s1 h; exact (Option.some_ne_none _ (Eq.symm h)).elim
  | succ n ih => intro a2 s s1 h; exact t3_keepWorths_l2b (N := N) (o := o) (p1 := p1) C R ho (k2 := f3_keepWorths_l2 N o p1 n) ih h
set_option maxRecDepth 100000 in
theorem t3_keepWorths {M : xM} {G : xG} {N : Nat} {o : Nat} {p1 : Nat} (C : xC (M, G, cdom, 4) RX3 cX3_keepWorths none) (R : xR (M, G, cdom, 4) = xrm 1 21) (ho : o < 8) {s : cS} {s1 : cS} (h : f3_keepWorths N o p1 s = some s1) : X (M, G, cdom, 4) none (encC G s1) (encC G s) 0 [(0, .ref (G.2.1 2 o)), (1, .ref (G.2.1 22 p1))] [] := by
  unfold f3_keepWorths at h
  refine x_iconst (v := 0) C dX3_keepWorths_0 (by decide) ?_
  refine x_istore_n (i := 2) (ls' := [(2, .int (0)), (0, .ref (G.2.1 2 o)), (1, .ref (G.2.1 22 p1))]) C dX3_keepWorths_1 rfl (Nat.le_of_ble_eq_true rfl) rfl ?_
  refine x_sub (ls' := [(0, .ref (G.2.1 2 o)), (1, .ref (G.2.1 22 p1)), (2, .int (0))]) [1, 2, 0] rfl ?_
  exact t3_keepWorths_l2 (N := N) (o := o) (p1 := p1) C R ho N _ _ _ h
theorem c3_keepWorths (l : Launch) (G : xG) {N : Nat} {o : Nat} {p1 : Nat} {s : cS} {s1 : cS} (ho : o < 8) (h : f3_keepWorths N o p1 s = some s1) : xMet l yX3_keepWorths (x_ws yX3_keepWorths cX3_keepWorths 4 none) (xrm 1 21) G cdom [.ref (G.2.1 2 o), .ref (G.2.1 22 p1)] (encC G s) none (encC G s1) := by
  refine xMet.of (by decide +kernel) (Nat.le_of_ble_eq_true rfl) ?_
  rintro ⟨M, G', dom', n'⟩ e1 R e3 e4 e5 C
  change G' = G at e3; change dom' = cdom at e4; change n' = 4 at e5
  subst e3; subst e4; subst e5
  exact t3_keepWorths C R ho h
set_option maxRecDepth 100000 in
theorem t3_doubleWorths_b28 {M : xM} {G : xG} {N : Nat} {o : Nat} (C : xC (M, G, cdom, 4) RX3 cX3_doubleWorths none) (R : xR (M, G, cdom, 4) = xrm 1 21) (ho : o < 8) {k9 : Int32 → Int32 → cS → Option (cS)} (hk9 : ∀ (a1 : Int32) (a2 : Int32) (s : cS) (s1 : cS), k9 a1 a2 s = some s1 → X (M, G, cdom, 4) none (encC G s1) (encC G s) 9 [(0, .ref (G.2.1 2 o)), (1, .int (a1)), (2, .int (a2))] []) {a1 : Int32} {a2 : Int32} {s : cS} {s1 : cS} (h : f3_doubleWorths_b28 N o k9 a1 a2 s = some s1) : X (M, G, cdom, 4) none (encC G s1) (encC G s) 28 [(0, .ref (G.2.1 2 o)), (1, .int (a1)), (2, .int (a2))] [] := by
  unfold f3_doubleWorths_b28 at h
  refine x_sipush (v := 8000) C dX3_doubleWorths_28 (by decide) ?_
  refine x_iload_n (j := 1) C dX3_doubleWorths_31 rfl rfl ?_
  refine x_iconst (v := 2) C dX3_doubleWorths_32 (by decide) ?_
  refine x_imul C dX3_doubleWorths_33 ?_
  refine x_min C dX3_doubleWorths_34 lk377 lk332 lk88 lk333 (x_rf R rfl) (x_rl R rfl) ?_
  refine x_istore_n (i := 1) (ls' := [(1, .int ((jmin 8000 (a1 * 2)))), (0, .ref (G.2.1 2 o)), (2, .int (a2))]) C dX3_doubleWorths_37 rfl (Nat.le_of_ble_eq_true rfl) rfl ?_
  refine x_iinc (j := 2) (v := (a2 + (-1))) (ls' := [(2, .int ((a2 + (-1)))), (1, .int ((jmin 8000 (a1 * 2)))), (0, .ref (G.2.1 2 o))]) C dX3_doubleWorths_38 rfl rfl (Nat.le_of_ble_eq_true rfl) rfl ?_
  refine x_goto (tgt := 9) C dX3_doubleWorths_41 (by decide) ?_
  refine x_sub (ls' := [(0, .ref (G.2.1 2 o)), (1, .int ((jmin 8000 (a1 * 2)))), (2, .int ((a2 + (-1))))]) [2, 1, 0] rfl ?_
  exact hk9 _ _ _ _ h
set_option maxRecDepth 100000 in
theorem t3_doubleWorths_l9b {M : xM} {G : xG} {N : Nat} {o : Nat} (C : xC (M, G, cdom, 4) RX3 cX3_doubleWorths none) (R : xR (M, G, cdom, 4) = xrm 1 21) (ho : o < 8) {k9 : Int32 → Int32 → cS → Option (cS)} (hk9 : ∀ (a1 : Int32) (a2 : Int32) (s : cS) (s1 : cS), k9 a1 a2 s = some s1 → X (M, G, cdom, 4) none (encC G s1) (encC G s) 9 [(0, .ref (G.2.1 2 o)), (1, .int (a1)), (2, .int (a2))] []) {a1 : Int32} {a2 : Int32} {s : cS} {s1 : cS} (h : f3_doubleWorths_l9b N o k9 a1 a2 s = some s1) : X (M, G, cdom, 4) none (encC G s1) (encC G s) 9 [(0, .ref (G.2.1 2 o)), (1, .int (a1)), (2, .int (a2))] [] := by
  unfold f3_doubleWorths_l9b at h
  refine x_iload_n (j := 2) C dX3_doubleWorths_9 rfl rfl ?_
  refine x_if_lt (tgt := 44) C dX3_doubleWorths_10 (by decide) (fun c10 => ?_) (fun c10 => ?_)
  · rw [if_pos c10] at h
    cases h
    exact x_vret C dX3_doubleWorths_44
  · rw [if_neg c10] at h
    refine x_aload_n (j := 0) C dX3_doubleWorths_13 rfl rfl ?_
    refine x_iload_n (j := 2) C dX3_doubleWorths_14 rfl rfl ?_
    obtain ⟨⟨r15, s15⟩, e15, h⟩ := Option.bind_eq_some_iff.mp h
    try dsimp only at h
    refine k3_25 C dX3_doubleWorths_15 e15 ho (x_room R rfl) (Nat.le_of_ble_eq_true rfl) ?_
    refine x_astore_nq (i := 3) (ls' := [(3, va_rf (Option.map (G.2.1 4) r15)), (0, .ref (G.2.1 2 o)), (1, .int (a1)), (2, .int (a2))]) C (Option.map (G.2.1 4) r15) dX3_doubleWorths_18 rfl (Nat.le_of_ble_eq_true rfl) rfl ?_
    refine x_aload_nq (j := 0) C (Option.map (G.2.1 4) r15) dX3_doubleWorths_19 rfl rfl ?_
    cases r15 with
    | none =>
      try dsimp only at h
      change X (M, G, cdom, 4) _ _ _ 20 [(3, .null), (0, .ref (G.2.1 2 o)), (1, .int (a1)), (2, .int (a2))] [.null]
      refine x_ifnullN (tgt := 28) C dX3_doubleWorths_20 (by decide) ?_
      refine x_sub (ls' := [(0, .ref (G.2.1 2 o)), (1, .int (a1)), (2, .int (a2))]) [1, 2, 3] rfl ?_
      exact t3_doubleWorths_b28 (N := N) (o := o) C R ho hk9 h
    | some w20 =>
      try dsimp only at h
      change X (M, G, cdom, 4) _ _ _ 20 [(3, .ref (G.2.1 4 w20)), (0, .ref (G.2.1 2 o)), (1, .int (a1)), (2, .int (a2))] [.ref (G.2.1 4 w20)]
      refine x_ifnull C dX3_doubleWorths_20 ?_
      refine x_aload_n (j := 0) C dX3_doubleWorths_23 rfl rfl ?_
      refine x_iload_n (j := 2) C dX3_doubleWorths_24 rfl rfl ?_
      by_cases g25_1 : w20 < 128
      case neg => rw [if_neg g25_1] at h; cases h
      rw [if_pos g25_1] at h
      refine pf3_35 C dX3_doubleWorths_25 g25_1 ?_
      refine x_sub (ls' := [(0, .ref (G.2.1 2 o)), (1, .int (a1)), (2, .int (a2))]) [1, 2, 3] rfl ?_
      exact t3_doubleWorths_b28 (N := N) (o := o) C R ho hk9 h
theorem t3_doubleWorths_l9 {M : xM} {G : xG} {N : Nat} {o : Nat} (C : xC (M, G, cdom, 4) RX3 cX3_doubleWorths none) (R : xR (M, G, cdom, 4) = xrm 1 21) (ho : o < 8) (n : Nat) : ∀ (a1 : Int32) (a2 : Int32) (s : cS) (s1 : cS), f3_doubleWorths_l9 N o n a1 a2 s = some s1 → X (M, G, cdom, 4) none (encC G s1) (encC G s) 9 [(0, .ref (G.2.1 2 o)), (1, .int (a1)), (2, .int (a2))] [] := by
  induction n with
  | zero => intro a1 a2 s s1 h; exact (Option.some_ne_none _ (Eq.symm h)).elim
  | succ n ih => intro a1 a2 s s1 h; exact t3_doubleWorths_l9b (N := N) (o := o) C R ho (k9 := f3_doubleWorths_l9 N o n) ih h
set_option maxRecDepth 100000 in
theorem t3_doubleWorths {M : xM} {G : xG} {N : Nat} {o : Nat} (C : xC (M, G, cdom, 4) RX3 cX3_doubleWorths none) (R : xR (M, G, cdom, 4) = xrm 1 21) (ho : o < 8) {s : cS} {s1 : cS} (h : f3_doubleWorths N o s = some s1) : X (M, G, cdom, 4) none (encC G s1) (encC G s) 0 [(0, .ref (G.2.1 2 o))] [] := by
  unfold f3_doubleWorths at h
  refine x_iconst (v := 1) C dX3_doubleWorths_0 (by decide) ?_
  refine x_istore_n (i := 1) (ls' := [(1, .int (1)), (0, .ref (G.2.1 2 o))]) C dX3_doubleWorths_1 rfl (Nat.le_of_ble_eq_true rfl) rfl ?_
  refine x_aload_n (j := 1) C dX3_doubleWorths_2 rfl rfl ?_
  refine gf3_22 C dX3_doubleWorths_3 ho ?_
  refine x_iconst (v := 1) C dX3_doubleWorths_6 (by decide) ?_
  refine x_isub C dX3_doubleWorths_7 ?_
  refine x_istore_n (i := 2) (ls' := [(2, .int (((s.1 6 o) - 1))), (1, .int (1)), (0, .ref (G.2.1 2 o))]) C dX3_doubleWorths_8 rfl (Nat.le_of_ble_eq_true rfl) rfl ?_
  refine x_sub (ls' := [(0, .ref (G.2.1 2 o)), (1, .int (1)), (2, .int (((s.1 6 o) - 1)))]) [2, 1, 0] rfl ?_
  exact t3_doubleWorths_l9 (N := N) (o := o) C R ho N _ _ _ _ h
theorem c3_doubleWorths (l : Launch) (G : xG) {N : Nat} {o : Nat} {s : cS} {s1 : cS} (ho : o < 8) (h : f3_doubleWorths N o s = some s1) : xMet l yX3_doubleWorths (x_ws yX3_doubleWorths cX3_doubleWorths 4 none) (xrm 1 21) G cdom [.ref (G.2.1 2 o)] (encC G s) none (encC G s1) := by
  refine xMet.of (by decide +kernel) (Nat.le_of_ble_eq_true rfl) ?_
  rintro ⟨M, G', dom', n'⟩ e1 R e3 e4 e5 C
  change G' = G at e3; change dom' = cdom at e4; change n' = 4 at e5
  subst e3; subst e4; subst e5
  exact t3_doubleWorths C R ho h
theorem k3_38 {M : xM} {G : xG} {n : Nat} {rv : Option Value} {E' : xE} {cc : ByteArray} {ret : Option FieldType} {pc : Nat} {ls : List (Nat × Value)} {st : List Value} {N : Nat} {o : Nat} {s s1 : cS} {r : Int32} (C : xC (M, G, cdom, n) RX3 cc ret) (d : decode cc pc = .ok (.invokevirtual 38, 3)) (h : f3_isStaged N o s = some (r, s1)) (ho : o < 8) (hR : (xrm 0 0).frames + 1 ≤ (xR (M, G, cdom, n)).frames ∧ 8 + (1 + 11) + (xrm 0 0).locals ≤ (xR (M, G, cdom, n)).locals) (hw : (st.map fun v => v.category).sum ≤ 8) (k : X (M, G, cdom, n) rv E' (encC G s1) (pc + 3) ls (.int r :: st)) : X (M, G, cdom, n) rv E' (encC G s) pc ls (.ref (G.2.1 2 o) :: st) :=
  x_callV (As := []) (n := 0) C d (c3_isStaged (xl (M, G, cdom, n)) G ho h) lk372 lk358 lk5 lk84 lk359 ⟨rfl, rfl⟩ ⟨by decide +kernel, by decide +kernel, by decide +kernel⟩ rfl hR (decide_eq_true ho) rfl rfl rfl hw k
theorem k3_45 {M : xM} {G : xG} {n : Nat} {rv : Option Value} {E' : xE} {cc : ByteArray} {ret : Option FieldType} {pc : Nat} {ls : List (Nat × Value)} {st : List Value} {N : Nat} {o : Nat} {s s1 : cS} (C : xC (M, G, cdom, n) RX3 cc ret) (d : decode cc pc = .ok (.invokevirtual 45, 3)) (h : f3_doubleWorths N o s = some s1) (ho : o < 8) (hR : (xrm 1 21).frames + 1 ≤ (xR (M, G, cdom, n)).frames ∧ 8 + (4 + 11) + (xrm 1 21).locals ≤ (xR (M, G, cdom, n)).locals) (hw : (st.map fun v => v.category).sum ≤ 8) (k : X (M, G, cdom, n) rv E' (encC G s1) (pc + 3) ls (st)) : X (M, G, cdom, n) rv E' (encC G s) pc ls (.ref (G.2.1 2 o) :: st) :=
  x_callV (As := []) (n := 0) C d (c3_doubleWorths (xl (M, G, cdom, n)) G ho h) lk373 lk375 lk9 lk84 lk376 ⟨rfl, rfl⟩ ⟨by decide +kernel, by decide +kernel, by decide +kernel⟩ rfl hR (decide_eq_true ho) rfl rfl rfl hw k
set_option maxRecDepth 100000 in
theorem t3_addPart_b79 {M : xM} {G : xG} {N : Nat} {o : Nat} {p1 : Int32} {p2 : Int32} (C : xC (M, G, cdom, 4) RX3 cX3_addPart none) (R : xR (M, G, cdom, 4) = xrm 2 44) (ho : o < 8) {b0 : Int32} {b1 : Nat} {s : cS} {s1 : cS} (h : f3_addPart_b79 N o p1 p2 b0 b1 s = some s1) : X (M, G, cdom, 4) none (encC G s1) (encC G s) 79 [(0, .ref (G.2.1 2 o))] [.int (b0), .ref (G.2.1 4 b1)] := by
  unfold f3_addPart_b79 at h
  by_cases g79_1 : b1 < 128
  case neg => rw [if_neg g79_1] at h; cases h
  rw [if_pos g79_1] at h
  refine pf3_42 C dX3_addPart_79 g79_1 ?_
  refine x_aload_n (j := 0) C dX3_addPart_82 rfl rfl ?_
  obtain ⟨⟨r83, s83⟩, e83, h⟩ := Option.bind_eq_some_iff.mp h
  try dsimp only at h
  refine k3_38 C dX3_addPart_83 e83 ho (x_room R rfl) (Nat.le_of_ble_eq_true rfl) ?_
  refine x_if_eq (tgt := 93) C dX3_addPart_86 (by decide) (fun c86 => ?_) (fun c86 => ?_)
  · rw [if_pos c86] at h
    cases h
    exact x_vret C dX3_addPart_93
  · rw [if_neg c86] at h
    refine x_aload_n (j := 0) C dX3_addPart_89 rfl rfl ?_
    obtain ⟨s90, e90, h⟩ := Option.bind_eq_some_iff.mp h
    try dsimp only at h
    refine k3_45 C dX3_addPart_90 e90 ho (x_room R rfl) (Nat.le_of_ble_eq_true rfl) ?_
    cases h
    exact x_vret C dX3_addPart_93
set_option maxRecDepth 100000 in
theorem t3_addPart_b63 {M : xM} {G : xG} {N : Nat} {o : Nat} {p1 : Int32} {p2 : Int32} (C : xC (M, G, cdom, 4) RX3 cX3_addPart none) (R : xR (M, G, cdom, 4) = xrm 2 44) (ho : o < 8) {a3 : Nat} {b0 : Int32} {b1 : Nat} {s : cS} {s1 : cS} (h : f3_addPart_b63 N o p1 p2 a3 b0 b1 s = some s1) : X (M, G, cdom, 4) none (encC G s1) (encC G s) 63 [(0, .ref (G.2.1 2 o)), (2, .int (p2)), (3, .ref (G.2.1 4 a3))] [.int (b0), .ref (G.2.1 4 b1)] := by
  unfold f3_addPart_b63 at h
  by_cases g63_1 : b1 < 128
  case neg => rw [if_neg g63_1] at h; cases h
  rw [if_pos g63_1] at h
  refine pf3_35 C dX3_addPart_63 g63_1 ?_
  refine x_aload_n (j := 2) C dX3_addPart_66 rfl rfl ?_
  refine x_aload_n (j := 0) C dX3_addPart_67 rfl rfl ?_
  obtain ⟨⟨r68, s68⟩, e68, h⟩ := Option.bind_eq_some_iff.mp h
  try dsimp only at h
  refine k3_38 C dX3_addPart_68 e68 ho (x_room R rfl) (Nat.le_of_ble_eq_true rfl) ?_
  refine x_if_eq (tgt := 78) C dX3_addPart_71 (by decide) (fun c71 => ?_) (fun c71 => ?_)
  · rw [if_pos c71] at h
    refine x_iconst (v := 0) C dX3_addPart_78 (by decide) ?_
    refine x_sub (ls' := [(0, .ref (G.2.1 2 o))]) [0] rfl ?_
    exact t3_addPart_b79 (N := N) (o := o) (p1 := p1) (p2 := p2) C R ho h
  · rw [if_neg c71] at h
    refine x_iload_n (j := 1) C dX3_addPart_74 rfl rfl ?_
    refine x_goto (tgt := 79) C dX3_addPart_75 (by decide) ?_
    refine x_sub (ls' := [(0, .ref (G.2.1 2 o))]) [0] rfl ?_
    exact t3_addPart_b79 (N := N) (o := o) (p1 := p1) (p2 := p2) C R ho h
set_option maxRecDepth 100000 in
theorem t3_addPart {M : xM} {G : xG} {N : Nat} {o : Nat} {p1 : Int32} {p2 : Int32} (C : xC (M, G, cdom, 4) RX3 cX3_addPart none) (R : xR (M, G, cdom, 4) = xrm 2 44) (ho : o < 8) {s : cS} {s1 : cS} (h : f3_addPart N o p1 p2 s = some s1) : X (M, G, cdom, 4) none (encC G s1) (encC G s) 0 [(0, .ref (G.2.1 2 o)), (1, .int (p1)), (2, .int (p2))] [] := by
  unfold f3_addPart at h
  refine x_aload_n (j := 0) C dX3_addPart_0 rfl rfl ?_
  refine gf3_22 C dX3_addPart_1 ho ?_
  refine x_aload_n (j := 0) C dX3_addPart_4 rfl rfl ?_
  refine gf3_11 C dX3_addPart_5 ho ?_
  refine cal3 C dX3_addPart_8 ho ?_
  refine x_icmp_lt (tgt := 13) C dX3_addPart_9 (by decide) (fun c9 => ?_) (fun c9 => ?_)
  · rw [if_pos c9] at h
    refine x_aload_n (j := 0) C dX3_addPart_13 rfl rfl ?_
    refine x_dup C dX3_addPart_14 rfl ?_
    refine gf3_22 C dX3_addPart_15 ho ?_
    refine x_iconst (v := 1) C dX3_addPart_18 (by decide) ?_
    refine x_iadd C dX3_addPart_19 ?_
    refine pf3_22 C dX3_addPart_20 ho ?_
    refine x_aload_n (j := 0) C dX3_addPart_23 rfl rfl ?_
    refine x_aload_n (j := 0) C dX3_addPart_24 rfl rfl ?_
    refine gf3_22 C dX3_addPart_25 ho ?_
    refine x_iconst (v := 1) C dX3_addPart_28 (by decide) ?_
    refine x_isub C dX3_addPart_29 ?_
    obtain ⟨⟨r30, s30⟩, e30, h⟩ := Option.bind_eq_some_iff.mp h
    try dsimp only at h
    refine k3_25 C dX3_addPart_30 e30 ho (x_room R rfl) (Nat.le_of_ble_eq_true rfl) ?_
    refine x_astore_nq (i := 3) (ls' := [(3, va_rf (Option.map (G.2.1 4) r30)), (0, .ref (G.2.1 2 o)), (1, .int (p1)), (2, .int (p2))]) C (Option.map (G.2.1 4) r30) dX3_addPart_33 rfl (Nat.le_of_ble_eq_true rfl) rfl ?_
    refine x_aload_nq (j := 0) C (Option.map (G.2.1 4) r30) dX3_addPart_34 rfl rfl ?_
    cases r30 with
    | none =>
      try dsimp only at h
      change X (M, G, cdom, 4) _ _ _ 35 [(3, .null), (0, .ref (G.2.1 2 o)), (1, .int (p1)), (2, .int (p2))] [.null]
      refine x_ifnonnullN C dX3_addPart_35 ?_
      cases h
      exact x_vret C dX3_addPart_38
    | some w35 =>
      try dsimp only at h
      change X (M, G, cdom, 4) _ _ _ 35 [(3, .ref (G.2.1 4 w35)), (0, .ref (G.2.1 2 o)), (1, .int (p1)), (2, .int (p2))] [.ref (G.2.1 4 w35)]
      refine x_ifnonnull (tgt := 39) C dX3_addPart_35 (by decide) ?_
      refine x_aload_n (j := 0) C dX3_addPart_39 rfl rfl ?_
      refine x_iload_n (j := 2) C dX3_addPart_40 rfl rfl ?_
      by_cases g41_1 : w35 < 128
      case neg => rw [if_neg g41_1] at h; cases h
      rw [if_pos g41_1] at h
      refine pf3_29 C dX3_addPart_41 g41_1 ?_
      refine x_aload_n (j := 0) C dX3_addPart_44 rfl rfl ?_
      refine x_iconst (v := 0) C dX3_addPart_45 (by decide) ?_
      refine pf3_32 C dX3_addPart_46 g41_1 ?_
      refine x_aload_n (j := 0) C dX3_addPart_49 rfl rfl ?_
      refine x_aload_n (j := 1) C dX3_addPart_50 rfl rfl ?_
      refine gf3_18 C dX3_addPart_51 ho ?_
      refine x_iconst (v := 2) C dX3_addPart_54 (by decide) ?_
      refine x_icmp_ne (tgt := 62) C dX3_addPart_55 (by decide) (fun c55 => ?_) (fun c55 => ?_)
      · rw [if_neg c55] at h
        refine x_iconst (v := 1) C dX3_addPart_62 (by decide) ?_
        refine x_sub (ls' := [(0, .ref (G.2.1 2 o)), (2, .int (p2)), (3, .ref (G.2.1 4 w35))]) [1, 3, 0] rfl ?_
        exact t3_addPart_b63 (N := N) (o := o) (p1 := p1) (p2 := p2) C R ho h
      · rw [if_pos c55] at h
        refine x_iload_n (j := 2) C dX3_addPart_58 rfl rfl ?_
        refine x_goto (tgt := 63) C dX3_addPart_59 (by decide) ?_
        refine x_sub (ls' := [(0, .ref (G.2.1 2 o)), (2, .int (p2)), (3, .ref (G.2.1 4 w35))]) [1, 3, 0] rfl ?_
        exact t3_addPart_b63 (N := N) (o := o) (p1 := p1) (p2 := p2) C R ho h
  · rw [if_neg c9] at h
    cases h
    exact x_vret C dX3_addPart_12
theorem c3_addPart (l : Launch) (G : xG) {N : Nat} {o : Nat} {p1 : Int32} {p2 : Int32} {s : cS} {s1 : cS} (ho : o < 8) (h : f3_addPart N o p1 p2 s = some s1) : xMet l yX3_addPart (x_ws yX3_addPart cX3_addPart 4 none) (xrm 2 44) G cdom [.ref (G.2.1 2 o), .int (p1), .int (p2)] (encC G s) none (encC G s1) := by
  refine xMet.of (by decide +kernel) (Nat.le_of_ble_eq_true rfl) ?_
  rintro ⟨M, G', dom', n'⟩ e1 R e3 e4 e5 C
  change G' = G at e3; change dom' = cdom at e4; change n' = 4 at e5
  subst e3; subst e4; subst e5
  exact t3_addPart C R ho h
theorem k8_105 {M : xM} {G : xG} {n : Nat} {rv : Option Value} {E' : xE} {cc : ByteArray} {ret : Option FieldType} {pc : Nat} {ls : List (Nat × Value)} {st : List Value} {N : Nat} {o : Nat} {p1 : Int32} {p2 : Int32} {s s1 : cS} (C : xC (M, G, cdom, n) RX8 cc ret) (d : decode cc pc = .ok (.invokevirtual 105, 3)) (h : f3_addPart N o p1 p2 s = some s1) (ho : o < 8) (hR : (xrm 2 44).frames + 1 ≤ (xR (M, G, cdom, n)).frames ∧ 8 + (4 + 11) + (xrm 2 44).locals ≤ (xR (M, G, cdom, n)).locals) (hw : (st.map fun v => v.category).sum ≤ 8) (k : X (M, G, cdom, n) rv E' (encC G s1) (pc + 3) ls (st)) : X (M, G, cdom, n) rv E' (encC G s) pc ls (.int (p2) :: .int (p1) :: .ref (G.2.1 2 o) :: st) :=
  x_callVN (As := [.int (p1), .int (p2)]) (n := 2) C d (c3_addPart (xl (M, G, cdom, n)) G ho h) lk368 lk370 lk8 lk84 lk371 ⟨rfl, rfl⟩ ⟨by decide +kernel, by decide +kernel, by decide +kernel⟩ rfl hR (decide_eq_true ho) rfl rfl rfl hw k
theorem k8_91 {M : xM} {G : xG} {n : Nat} {rv : Option Value} {E' : xE} {cc : ByteArray} {ret : Option FieldType} {pc : Nat} {ls : List (Nat × Value)} {st : List Value} {N : Nat} {p0 : Option Nat} {p1 : Int32} {p2 : Int32} {s s1 : cS} {r : Int32} (C : xC (M, G, cdom, n) RX8 cc ret) (d : decode cc pc = .ok (.invokestatic 91, 3)) (h : f8_whyNoPart N p0 p1 p2 s = some (r, s1)) (hR : (xrm 1 21).frames + 1 ≤ (xR (M, G, cdom, n)).frames ∧ 8 + (3 + 11) + (xrm 1 21).locals ≤ (xR (M, G, cdom, n)).locals) (hw : (st.map fun v => v.category).sum ≤ 8) (k : X (M, G, cdom, n) rv E' (encC G s1) (pc + 3) ls (.int r :: st)) : X (M, G, cdom, n) rv E' (encC G s) pc ls (.int (p2) :: .int (p1) :: va_rf (Option.map (G.2.1 2) p0) :: st) :=
  x_callS (As := [va_rf (Option.map (G.2.1 2) p0), .int (p1), .int (p2)]) (n := 3) C d (c8_whyNoPart (xl (M, G, cdom, n)) G h) lk350 lk351 lk78 lk352 ⟨rfl, rfl⟩ ⟨by decide +kernel, by decide +kernel, by decide +kernel⟩ rfl hR rfl hw k
theorem k8_101 {M : xM} {G : xG} {n : Nat} {rv : Option Value} {E' : xE} {cc : ByteArray} {ret : Option FieldType} {pc : Nat} {ls : List (Nat × Value)} {st : List Value} {N : Nat} {o : Nat} {p1 : Nat} {s s1 : cS} (C : xC (M, G, cdom, n) RX8 cc ret) (d : decode cc pc = .ok (.invokevirtual 101, 3)) (h : f3_keepWorths N o p1 s = some s1) (ho : o < 8) (hR : (xrm 1 21).frames + 1 ≤ (xR (M, G, cdom, n)).frames ∧ 8 + (4 + 11) + (xrm 1 21).locals ≤ (xR (M, G, cdom, n)).locals) (hw : (st.map fun v => v.category).sum ≤ 8) (k : X (M, G, cdom, n) rv E' (encC G s1) (pc + 3) ls (st)) : X (M, G, cdom, n) rv E' (encC G s) pc ls (.ref (G.2.1 22 p1) :: .ref (G.2.1 2 o) :: st) :=
  x_callVN (As := [.ref (G.2.1 22 p1)]) (n := 1) C d (c3_keepWorths (xl (M, G, cdom, n)) G ho h) lk360 lk362 lk6 lk84 lk363 ⟨rfl, rfl⟩ ⟨by decide +kernel, by decide +kernel, by decide +kernel⟩ rfl hR (decide_eq_true ho) rfl rfl rfl hw k
set_option maxRecDepth 100000 in
theorem t8_part_b60 {M : xM} {G : xG} {N : Nat} {p1 : Int32} {p2 : Int32} {p3 : Int32} (C : xC (M, G, cdom, 6) RX8 cX8_part (some .int)) (R : xR (M, G, cdom, 6) = xrm 3 68) {a4 : Nat} {s : cS} {r : Int32} {s1 : cS} (h : f8_part_b60 N p1 p2 p3 a4 s = some (r, s1)) : X (M, G, cdom, 6) (some (.int r)) (encC G s1) (encC G s) 60 [(2, .int (p2)), (3, .int (p3)), (4, .ref (G.2.1 2 a4))] [] := by
  unfold f8_part_b60 at h
  refine x_aload (j := 2) C dX8_part_60 rfl ?_
  refine x_iload_n (j := 0) C dX8_part_62 rfl rfl ?_
  refine x_iload_n (j := 1) C dX8_part_63 rfl rfl ?_
  by_cases g64_1 : a4 < 8
  case neg => rw [if_neg g64_1] at h; cases h
  rw [if_pos g64_1] at h
  obtain ⟨s64, e64, h⟩ := Option.bind_eq_some_iff.mp h
  try dsimp only at h
  refine k8_105 C dX8_part_64 e64 g64_1 (x_room R rfl) (Nat.le_of_ble_eq_true rfl) ?_
  refine x_aload (j := 2) C dX8_part_67 rfl ?_
  refine gf8_95 C dX8_part_69 g64_1 ?_
  cases h
  exact x_iret C dX8_part_72
set_option maxRecDepth 100000 in
theorem t8_part {M : xM} {G : xG} {N : Nat} {p1 : Int32} {p2 : Int32} {p3 : Int32} (C : xC (M, G, cdom, 6) RX8 cX8_part (some .int)) (R : xR (M, G, cdom, 6) = xrm 3 68) {s : cS} {r : Int32} {s1 : cS} (h : f8_part N p1 p2 p3 s = some (r, s1)) : X (M, G, cdom, 6) (some (.int r)) (encC G s1) (encC G s) 0 [(0, .ref (G.2.1 0 0)), (1, .int (p1)), (2, .int (p2)), (3, .int (p3))] [] := by
  unfold f8_part at h
  refine x_aload_n (j := 0) C dX8_part_0 rfl rfl ?_
  refine x_iload_n (j := 1) C dX8_part_1 rfl rfl ?_
  obtain ⟨⟨r2, s2⟩, e2, h⟩ := Option.bind_eq_some_iff.mp h
  try dsimp only at h
  refine k8_83 C dX8_part_2 e2 (x_room R rfl) (Nat.le_of_ble_eq_true rfl) ?_
  refine x_astoreq (i := 4) (ls' := [(4, va_rf (Option.map (G.2.1 2) r2)), (0, .ref (G.2.1 0 0)), (1, .int (p1)), (2, .int (p2)), (3, .int (p3))]) C (Option.map (G.2.1 2) r2) dX8_part_5 (Nat.le_of_ble_eq_true rfl) rfl ?_
  refine x_aload_n (j := 1) C dX8_part_7 rfl rfl ?_
  refine x_aloadq (j := 0) C (Option.map (G.2.1 2) r2) dX8_part_8 rfl ?_
  refine x_iload_n (j := 3) C dX8_part_10 rfl rfl ?_
  refine x_iload_n (j := 4) C dX8_part_11 rfl rfl ?_
  obtain ⟨⟨r12, s12⟩, e12, h⟩ := Option.bind_eq_some_iff.mp h
  try dsimp only at h
  refine k8_91 C dX8_part_12 e12 (x_room R rfl) (Nat.le_of_ble_eq_true rfl) ?_
  refine pf8_66 C dX8_part_15 ?_
  refine x_aloadq (j := 0) C (Option.map (G.2.1 2) r2) dX8_part_18 rfl ?_
  cases r2 with
  | none =>
    try dsimp only at h
    change X (M, G, cdom, 6) _ _ _ 20 [(4, .null), (0, .ref (G.2.1 0 0)), (1, .int (p1)), (2, .int (p2)), (3, .int (p3))] [.null]
    refine x_ifnullN (tgt := 30) C dX8_part_20 (by decide) ?_
    refine x_iconst (v := (-1)) C dX8_part_30 (by decide) ?_
    cases h
    exact x_iret C dX8_part_31
  | some w20 =>
    try dsimp only at h
    change X (M, G, cdom, 6) _ _ _ 20 [(4, .ref (G.2.1 2 w20)), (0, .ref (G.2.1 0 0)), (1, .int (p1)), (2, .int (p2)), (3, .int (p3))] [.ref (G.2.1 2 w20)]
    refine x_ifnull C dX8_part_20 ?_
    refine x_aload_n (j := 1) C dX8_part_23 rfl rfl ?_
    refine gf8_66 C dX8_part_24 ?_
    refine x_if_eq (tgt := 32) C dX8_part_27 (by decide) (fun c27 => ?_) (fun c27 => ?_)
    · rw [if_pos c27] at h
      refine x_aload_n (j := 1) C dX8_part_32 rfl rfl ?_
      refine x_iconst (v := 2) C dX8_part_33 (by decide) ?_
      refine x_iload_n (j := 2) C dX8_part_34 rfl rfl ?_
      refine x_aload (j := 0) C dX8_part_35 rfl ?_
      by_cases g37_1 : w20 < 8
      case neg => rw [if_neg g37_1] at h; cases h
      rw [if_pos g37_1] at h
      refine gf8_95 C dX8_part_37 g37_1 ?_
      obtain ⟨⟨r40, s40⟩, e40, h⟩ := Option.bind_eq_some_iff.mp h
      try dsimp only at h
      refine k8_74 C dX8_part_40 e40 (x_room R rfl) (Nat.le_of_ble_eq_true rfl) ?_
      refine x_astoreq (i := 5) (ls' := [(5, va_rf (Option.map (G.2.1 21) r40)), (4, .ref (G.2.1 2 w20)), (0, .ref (G.2.1 0 0)), (1, .int (p1)), (2, .int (p2)), (3, .int (p3))]) C (Option.map (G.2.1 21) r40) dX8_part_43 (Nat.le_of_ble_eq_true rfl) rfl ?_
      refine x_aloadq (j := 0) C (Option.map (G.2.1 21) r40) dX8_part_45 rfl ?_
      cases r40 with
      | none =>
        try dsimp only at h
        change X (M, G, cdom, 6) _ _ _ 47 [(5, .null), (4, .ref (G.2.1 2 w20)), (0, .ref (G.2.1 0 0)), (1, .int (p1)), (2, .int (p2)), (3, .int (p3))] [.null]
        refine x_ifnullN (tgt := 60) C dX8_part_47 (by decide) ?_
        refine x_sub (ls' := [(2, .int (p2)), (3, .int (p3)), (4, .ref (G.2.1 2 w20))]) [4, 5, 1] rfl ?_
        exact t8_part_b60 (N := N) (p1 := p1) (p2 := p2) (p3 := p3) C R h
      | some w47 =>
        try dsimp only at h
        change X (M, G, cdom, 6) _ _ _ 47 [(5, .ref (G.2.1 21 w47)), (4, .ref (G.2.1 2 w20)), (0, .ref (G.2.1 0 0)), (1, .int (p1)), (2, .int (p2)), (3, .int (p3))] [.ref (G.2.1 21 w47)]
        refine x_ifnull C dX8_part_47 ?_
        refine x_aload (j := 1) C dX8_part_50 rfl ?_
        refine x_aload (j := 0) C dX8_part_52 rfl ?_
        by_cases g54_2 : w47 < 60
        case neg => rw [if_neg g54_2] at h; cases h
        rw [if_pos g54_2] at h
        refine gf8_98 C dX8_part_54 g54_2 ?_
        obtain ⟨s57, e57, h⟩ := Option.bind_eq_some_iff.mp h
        try dsimp only at h
        refine k8_101 C dX8_part_57 e57 g37_1 (x_room R rfl) (Nat.le_of_ble_eq_true rfl) ?_
        refine x_sub (ls' := [(2, .int (p2)), (3, .int (p3)), (4, .ref (G.2.1 2 w20))]) [4, 5, 1] rfl ?_
        exact t8_part_b60 (N := N) (p1 := p1) (p2 := p2) (p3 := p3) C R h
    · rw [if_neg c27] at h
      refine x_iconst (v := (-1)) C dX8_part_30 (by decide) ?_
      cases h
      exact x_iret C dX8_part_31
theorem c8_part (l : Launch) (G : xG) {N : Nat} {p1 : Int32} {p2 : Int32} {p3 : Int32} {s : cS} {r : Int32} {s1 : cS} (h : f8_part N p1 p2 p3 s = some (r, s1)) : xMet l yX8_part (x_ws yX8_part cX8_part 6 (some .int)) (xrm 3 68) G cdom [.ref (G.2.1 0 0), .int (p1), .int (p2), .int (p3)] (encC G s) (some (.int r)) (encC G s1) := by
  refine xMet.of (by decide +kernel) (Nat.le_of_ble_eq_true rfl) ?_
  rintro ⟨M, G', dom', n'⟩ e1 R e3 e4 e5 C
  change G' = G at e3; change dom' = cdom at e4; change n' = 6 at e5
  subst e3; subst e4; subst e5
  exact t8_part C R h
theorem k8_275 {M : xM} {G : xG} {n : Nat} {rv : Option Value} {E' : xE} {cc : ByteArray} {ret : Option FieldType} {pc : Nat} {ls : List (Nat × Value)} {st : List Value} {N : Nat} {o : Nat} {p1 : Int32} {s s1 : cS} {r : Option Nat} (C : xC (M, G, cdom, n) RX8 cc ret) (d : decode cc pc = .ok (.invokevirtual 275, 3)) (h : f3_partAt N o p1 s = some (r, s1)) (ho : o < 8) (hR : (xrm 0 0).frames + 1 ≤ (xR (M, G, cdom, n)).frames ∧ 8 + (2 + 11) + (xrm 0 0).locals ≤ (xR (M, G, cdom, n)).locals) (hw : (st.map fun v => v.category).sum ≤ 8) (k : X (M, G, cdom, n) rv E' (encC G s1) (pc + 3) ls (va_rf (Option.map (G.2.1 4) r) :: st)) : X (M, G, cdom, n) rv E' (encC G s) pc ls (.int (p1) :: .ref (G.2.1 2 o) :: st) :=
  x_callVN (As := [.int (p1)]) (n := 1) C d (c3_partAt (xl (M, G, cdom, n)) G ho h) lk386 lk366 lk7 lk84 lk367 ⟨rfl, rfl⟩ ⟨by decide +kernel, by decide +kernel, by decide +kernel⟩ rfl hR (decide_eq_true ho) rfl rfl rfl hw k
set_option maxRecDepth 100000 in
theorem t8_partAt {M : xM} {G : xG} {N : Nat} {p1 : Int32} {p2 : Int32} (C : xC (M, G, cdom, 4) RX8 cX8_partAt (Option.some (.object "StepMeters$Part"))) (R : xR (M, G, cdom, 4) = xrm 1 21) {s : cS} {r : Option Nat} {s1 : cS} (h : f8_partAt N p1 p2 s = some (r, s1)) : X (M, G, cdom, 4) (some (va_rf (r.map (G.2.1 4)))) (encC G s1) (encC G s) 0 [(0, .ref (G.2.1 0 0)), (1, .int (p1)), (2, .int (p2))] [] := by
  unfold f8_partAt at h
  refine x_aload_n (j := 0) C dX8_partAt_0 rfl rfl ?_
  refine x_iload_n (j := 1) C dX8_partAt_1 rfl rfl ?_
  obtain ⟨⟨r2, s2⟩, e2, h⟩ := Option.bind_eq_some_iff.mp h
  try dsimp only at h
  refine k8_83 C dX8_partAt_2 e2 (x_room R rfl) (Nat.le_of_ble_eq_true rfl) ?_
  refine x_astore_nq (i := 3) (ls' := [(3, va_rf (Option.map (G.2.1 2) r2)), (0, .ref (G.2.1 0 0)), (1, .int (p1)), (2, .int (p2))]) C (Option.map (G.2.1 2) r2) dX8_partAt_5 rfl (Nat.le_of_ble_eq_true rfl) rfl ?_
  refine x_aload_nq (j := 0) C (Option.map (G.2.1 2) r2) dX8_partAt_6 rfl rfl ?_
  cases r2 with
  | none =>
    try dsimp only at h
    change X (M, G, cdom, 4) _ _ _ 7 [(3, .null), (0, .ref (G.2.1 0 0)), (1, .int (p1)), (2, .int (p2))] [.null]
    refine x_ifnonnullN C dX8_partAt_7 ?_
    refine x_null C dX8_partAt_10 ?_
    refine x_goto (tgt := 19) C dX8_partAt_11 (by decide) ?_
    cases h
    exact x_aret C _ dX8_partAt_19
  | some w7 =>
    try dsimp only at h
    change X (M, G, cdom, 4) _ _ _ 7 [(3, .ref (G.2.1 2 w7)), (0, .ref (G.2.1 0 0)), (1, .int (p1)), (2, .int (p2))] [.ref (G.2.1 2 w7)]
    refine x_ifnonnull (tgt := 14) C dX8_partAt_7 (by decide) ?_
    refine x_aload_n (j := 0) C dX8_partAt_14 rfl rfl ?_
    refine x_iload_n (j := 3) C dX8_partAt_15 rfl rfl ?_
    by_cases g16_1 : w7 < 8
    case neg => rw [if_neg g16_1] at h; cases h
    rw [if_pos g16_1] at h
    obtain ⟨⟨r16, s16⟩, e16, h⟩ := Option.bind_eq_some_iff.mp h
    try dsimp only at h
    refine k8_275 C dX8_partAt_16 e16 g16_1 (x_room R rfl) (Nat.le_of_ble_eq_true rfl) ?_
    cases h
    exact x_aret C _ dX8_partAt_19
theorem c8_partAt (l : Launch) (G : xG) {N : Nat} {p1 : Int32} {p2 : Int32} {s : cS} {r : Option Nat} {s1 : cS} (h : f8_partAt N p1 p2 s = some (r, s1)) : xMet l yX8_partAt (x_ws yX8_partAt cX8_partAt 4 (Option.some (.object "StepMeters$Part"))) (xrm 1 21) G cdom [.ref (G.2.1 0 0), .int (p1), .int (p2)] (encC G s) (some (va_rf (r.map (G.2.1 4)))) (encC G s1) := by
  refine xMet.of (by decide +kernel) (Nat.le_of_ble_eq_true rfl) ?_
  rintro ⟨M, G', dom', n'⟩ e1 R e3 e4 e5 C
  change G' = G at e3; change dom' = cdom at e4; change n' = 4 at e5
  subst e3; subst e4; subst e5
  exact t8_partAt C R h
theorem k8_109 {M : xM} {G : xG} {n : Nat} {rv : Option Value} {E' : xE} {cc : ByteArray} {ret : Option FieldType} {pc : Nat} {ls : List (Nat × Value)} {st : List Value} {N : Nat} {p1 : Int32} {p2 : Int32} {s s1 : cS} {r : Option Nat} (C : xC (M, G, cdom, n) RX8 cc ret) (d : decode cc pc = .ok (.invokevirtual 109, 3)) (h : f8_partAt N p1 p2 s = some (r, s1)) (hR : (xrm 1 21).frames + 1 ≤ (xR (M, G, cdom, n)).frames ∧ 8 + (4 + 11) + (xrm 1 21).locals ≤ (xR (M, G, cdom, n)).locals) (hw : (st.map fun v => v.category).sum ≤ 8) (k : X (M, G, cdom, n) rv E' (encC G s1) (pc + 3) ls (va_rf (Option.map (G.2.1 4) r) :: st)) : X (M, G, cdom, n) rv E' (encC G s) pc ls (.int (p2) :: .int (p1) :: .ref (G.2.1 0 0) :: st) :=
  x_callV (As := [.int (p1), .int (p2)]) (n := 2) C d (c8_partAt (xl (M, G, cdom, n)) G h) lk382 lk384 lk10 lk78 lk385 ⟨rfl, rfl⟩ ⟨by decide +kernel, by decide +kernel, by decide +kernel⟩ rfl hR rfl rfl rfl rfl hw k
set_option maxRecDepth 100000 in
theorem t8_miss_b33 {M : xM} {G : xG} {N : Nat} {p1 : Int32} {p2 : Int32} {p3 : Int32} (C : xC (M, G, cdom, 6) RX8 cX8_miss (some .boolean)) (R : xR (M, G, cdom, 6) = xrm 3 68) {a4 : Option Nat} {b0 : Int32} {s : cS} {r : Int32} {s1 : cS} (h : f8_miss_b33 N p1 p2 p3 a4 b0 s = some (r, s1)) : X (M, G, cdom, 6) (some (.int r)) (encC G s1) (encC G s) 33 [(0, .ref (G.2.1 0 0)), (1, .int (p1)), (2, .int (p2)), (3, .int (p3)), (4, va_rf (Option.map (G.2.1 4) a4))] [.int (b0), .ref (G.2.1 0 0)] := by
  unfold f8_miss_b33 at h
  refine pf8_66 C dX8_miss_33 ?_
  refine x_aloadq (j := 4) C (Option.map (G.2.1 4) a4) dX8_miss_36 rfl ?_
  cases a4 with
  | none =>
    try dsimp only at h
    change X (M, G, cdom, 6) _ _ _ 38 [(0, .ref (G.2.1 0 0)), (1, .int (p1)), (2, .int (p2)), (3, .int (p3)), (4, .null)] [.null]
    refine x_ifnullN (tgt := 48) C dX8_miss_38 (by decide) ?_
    refine x_iconst (v := 0) C dX8_miss_48 (by decide) ?_
    cases h
    exact x_zret C dX8_miss_49 rfl
  | some w38 =>
    try dsimp only at h
    change X (M, G, cdom, 6) _ _ _ 38 [(0, .ref (G.2.1 0 0)), (1, .int (p1)), (2, .int (p2)), (3, .int (p3)), (4, .ref (G.2.1 4 w38))] [.ref (G.2.1 4 w38)]
    refine x_ifnull C dX8_miss_38 ?_
    refine x_aload_n (j := 0) C dX8_miss_41 rfl rfl ?_
    refine gf8_66 C dX8_miss_42 ?_
    refine x_if_eq (tgt := 50) C dX8_miss_45 (by decide) (fun c45 => ?_) (fun c45 => ?_)
    · rw [if_pos c45] at h
      refine x_aload_n (j := 0) C dX8_miss_50 rfl rfl ?_
      refine x_iconst (v := 3) C dX8_miss_51 (by decide) ?_
      refine x_iload_n (j := 1) C dX8_miss_52 rfl rfl ?_
      refine x_iload_n (j := 2) C dX8_miss_53 rfl rfl ?_
      obtain ⟨⟨r54, s54⟩, e54, h⟩ := Option.bind_eq_some_iff.mp h
      try dsimp only at h
      refine k8_74 C dX8_miss_54 e54 (x_room R rfl) (Nat.le_of_ble_eq_true rfl) ?_
      refine x_astoreq (i := 5) (ls' := [(5, va_rf (Option.map (G.2.1 21) r54)), (0, .ref (G.2.1 0 0)), (1, .int (p1)), (2, .int (p2)), (3, .int (p3)), (4, .ref (G.2.1 4 w38))]) C (Option.map (G.2.1 21) r54) dX8_miss_57 (Nat.le_of_ble_eq_true rfl) rfl ?_
      refine x_aloadq (j := 0) C (Option.map (G.2.1 21) r54) dX8_miss_59 rfl ?_
      cases r54 with
      | none =>
        try dsimp only at h
        change X (M, G, cdom, 6) _ _ _ 61 [(5, .null), (0, .ref (G.2.1 0 0)), (1, .int (p1)), (2, .int (p2)), (3, .int (p3)), (4, .ref (G.2.1 4 w38))] [.null]
        refine x_ifnullN (tgt := 74) C dX8_miss_61 (by decide) ?_
        refine x_aload (j := 5) C dX8_miss_74 rfl ?_
        refine x_iload_n (j := 4) C dX8_miss_76 rfl rfl ?_
        by_cases g77_1 : w38 < 128
        case neg => rw [if_neg g77_1] at h; cases h
        rw [if_pos g77_1] at h
        refine pf8_117 C dX8_miss_77 g77_1 ?_
        refine x_iconst (v := 1) C dX8_miss_80 (by decide) ?_
        cases h
        exact x_zret C dX8_miss_81 rfl
      | some w61 =>
        try dsimp only at h
        change X (M, G, cdom, 6) _ _ _ 61 [(5, .ref (G.2.1 21 w61)), (0, .ref (G.2.1 0 0)), (1, .int (p1)), (2, .int (p2)), (3, .int (p3)), (4, .ref (G.2.1 4 w38))] [.ref (G.2.1 21 w61)]
        refine x_ifnull C dX8_miss_61 ?_
        refine x_aload (j := 0) C dX8_miss_64 rfl ?_
        refine x_aload (j := 5) C dX8_miss_66 rfl ?_
        by_cases g68_2 : w38 < 128
        case neg => rw [if_neg g68_2] at h; cases h
        rw [if_pos g68_2] at h
        refine gf8_117 C dX8_miss_68 g68_2 ?_
        by_cases g71_3 : w61 < 60
        case neg => rw [if_neg g71_3] at h; cases h
        rw [if_pos g71_3] at h
        refine pf8_78 C dX8_miss_71 g71_3 ?_
        refine x_aload (j := 5) C dX8_miss_74 rfl ?_
        refine x_iload_n (j := 4) C dX8_miss_76 rfl rfl ?_
        refine pf8_117 C dX8_miss_77 g68_2 ?_
        refine x_iconst (v := 1) C dX8_miss_80 (by decide) ?_
        cases h
        exact x_zret C dX8_miss_81 rfl
    · rw [if_neg c45] at h
      refine x_iconst (v := 0) C dX8_miss_48 (by decide) ?_
      cases h
      exact x_zret C dX8_miss_49 rfl
set_option maxRecDepth 100000 in
theorem t8_miss {M : xM} {G : xG} {N : Nat} {p1 : Int32} {p2 : Int32} {p3 : Int32} (C : xC (M, G, cdom, 6) RX8 cX8_miss (some .boolean)) (R : xR (M, G, cdom, 6) = xrm 3 68) {s : cS} {r : Int32} {s1 : cS} (h : f8_miss N p1 p2 p3 s = some (r, s1)) : X (M, G, cdom, 6) (some (.int r)) (encC G s1) (encC G s) 0 [(0, .ref (G.2.1 0 0)), (1, .int (p1)), (2, .int (p2)), (3, .int (p3))] [] := by
  unfold f8_miss at h
  refine x_aload_n (j := 0) C dX8_miss_0 rfl rfl ?_
  refine x_iload_n (j := 1) C dX8_miss_1 rfl rfl ?_
  refine x_iload_n (j := 2) C dX8_miss_2 rfl rfl ?_
  obtain ⟨⟨r3, s3⟩, e3, h⟩ := Option.bind_eq_some_iff.mp h
  try dsimp only at h
  refine k8_109 C dX8_miss_3 e3 (x_room R rfl) (Nat.le_of_ble_eq_true rfl) ?_
  refine x_astoreq (i := 4) (ls' := [(4, va_rf (Option.map (G.2.1 4) r3)), (0, .ref (G.2.1 0 0)), (1, .int (p1)), (2, .int (p2)), (3, .int (p3))]) C (Option.map (G.2.1 4) r3) dX8_miss_6 (Nat.le_of_ble_eq_true rfl) rfl ?_
  refine x_aload_n (j := 1) C dX8_miss_8 rfl rfl ?_
  refine x_aloadq (j := 0) C (Option.map (G.2.1 4) r3) dX8_miss_9 rfl ?_
  cases r3 with
  | none =>
    try dsimp only at h
    change X (M, G, cdom, 6) _ _ _ 11 [(4, .null), (0, .ref (G.2.1 0 0)), (1, .int (p1)), (2, .int (p2)), (3, .int (p3))] [.null, .ref (G.2.1 0 0)]
    refine x_ifnonnullN C dX8_miss_11 ?_
    refine x_iconst (v := 2) C dX8_miss_14 (by decide) ?_
    refine x_goto (tgt := 33) C dX8_miss_15 (by decide) ?_
    refine x_sub (ls' := [(0, .ref (G.2.1 0 0)), (1, .int (p1)), (2, .int (p2)), (3, .int (p3)), (4, .null)]) [1, 2, 3, 4, 0] rfl ?_
    exact t8_miss_b33 (N := N) (p1 := p1) (p2 := p2) (p3 := p3) C R (a4 := none) h
  | some w11 =>
    try dsimp only at h
    change X (M, G, cdom, 6) _ _ _ 11 [(4, .ref (G.2.1 4 w11)), (0, .ref (G.2.1 0 0)), (1, .int (p1)), (2, .int (p2)), (3, .int (p3))] [.ref (G.2.1 4 w11), .ref (G.2.1 0 0)]
    refine x_ifnonnull (tgt := 18) C dX8_miss_11 (by decide) ?_
    refine x_iload_n (j := 4) C dX8_miss_18 rfl rfl ?_
    refine x_sipush (v := 500) C dX8_miss_19 (by decide) ?_
    obtain ⟨⟨r22, s22⟩, e22, h⟩ := Option.bind_eq_some_iff.mp h
    try dsimp only at h
    refine k8_113 C dX8_miss_22 e22 (x_room R rfl) (Nat.le_of_ble_eq_true rfl) ?_
    refine x_if_eq (tgt := 32) C dX8_miss_25 (by decide) (fun c25 => ?_) (fun c25 => ?_)
    · rw [if_pos c25] at h
      refine x_iconst (v := 1) C dX8_miss_32 (by decide) ?_
      refine x_sub (ls' := [(0, .ref (G.2.1 0 0)), (1, .int (p1)), (2, .int (p2)), (3, .int (p3)), (4, .ref (G.2.1 4 w11))]) [1, 2, 3, 4, 0] rfl ?_
      exact t8_miss_b33 (N := N) (p1 := p1) (p2 := p2) (p3 := p3) C R (a4 := (some w11)) h
    · rw [if_neg c25] at h
      refine x_iconst (v := 0) C dX8_miss_28 (by decide) ?_
      refine x_goto (tgt := 33) C dX8_miss_29 (by decide) ?_
      refine x_sub (ls' := [(0, .ref (G.2.1 0 0)), (1, .int (p1)), (2, .int (p2)), (3, .int (p3)), (4, .ref (G.2.1 4 w11))]) [1, 2, 3, 4, 0] rfl ?_
      exact t8_miss_b33 (N := N) (p1 := p1) (p2 := p2) (p3 := p3) C R (a4 := (some w11)) h
theorem c8_miss (l : Launch) (G : xG) {N : Nat} {p1 : Int32} {p2 : Int32} {p3 : Int32} {s : cS} {r : Int32} {s1 : cS} (h : f8_miss N p1 p2 p3 s = some (r, s1)) : xMet l yX8_miss (x_ws yX8_miss cX8_miss 6 (some .boolean)) (xrm 3 68) G cdom [.ref (G.2.1 0 0), .int (p1), .int (p2), .int (p3)] (encC G s) (some (.int r)) (encC G s1) := by
  refine xMet.of (by decide +kernel) (Nat.le_of_ble_eq_true rfl) ?_
  rintro ⟨M, G', dom', n'⟩ e1 R e3 e4 e5 C
  change G' = G at e3; change dom' = cdom at e4; change n' = 6 at e5
  subst e3; subst e4; subst e5
  exact t8_miss C R h
set_option maxRecDepth 100000 in
theorem t8_worth_b66 {M : xM} {G : xG} {N : Nat} {p1 : Int32} {p2 : Int32} {p3 : Int32} (C : xC (M, G, cdom, 7) RX8 cX8_worth (some .boolean)) (R : xR (M, G, cdom, 7) = xrm 3 68) {a5 : Option Nat} {b0 : Int32} {s : cS} {r : Int32} {s1 : cS} (h : f8_worth_b66 N p1 p2 p3 a5 b0 s = some (r, s1)) : X (M, G, cdom, 7) (some (.int r)) (encC G s1) (encC G s) 66 [(0, .ref (G.2.1 0 0)), (1, .int (p1)), (2, .int (p2)), (3, .int (p3)), (5, va_rf (Option.map (G.2.1 4) a5))] [.int (b0), .ref (G.2.1 0 0)] := by
  unfold f8_worth_b66 at h
  refine pf8_66 C dX8_worth_66 ?_
  refine x_aloadq (j := 4) C (Option.map (G.2.1 4) a5) dX8_worth_69 rfl ?_
  cases a5 with
  | none =>
    try dsimp only at h
    change X (M, G, cdom, 7) _ _ _ 71 [(0, .ref (G.2.1 0 0)), (1, .int (p1)), (2, .int (p2)), (3, .int (p3)), (5, .null)] [.null]
    refine x_ifnullN (tgt := 81) C dX8_worth_71 (by decide) ?_
    refine x_iconst (v := 0) C dX8_worth_81 (by decide) ?_
    cases h
    exact x_zret C dX8_worth_82 rfl
  | some w71 =>
    try dsimp only at h
    change X (M, G, cdom, 7) _ _ _ 71 [(0, .ref (G.2.1 0 0)), (1, .int (p1)), (2, .int (p2)), (3, .int (p3)), (5, .ref (G.2.1 4 w71))] [.ref (G.2.1 4 w71)]
    refine x_ifnull C dX8_worth_71 ?_
    refine x_aload_n (j := 0) C dX8_worth_74 rfl rfl ?_
    refine gf8_66 C dX8_worth_75 ?_
    refine x_if_eq (tgt := 83) C dX8_worth_78 (by decide) (fun c78 => ?_) (fun c78 => ?_)
    · rw [if_pos c78] at h
      refine x_aload_n (j := 0) C dX8_worth_83 rfl rfl ?_
      refine x_iconst (v := 4) C dX8_worth_84 (by decide) ?_
      refine x_iload_n (j := 1) C dX8_worth_85 rfl rfl ?_
      refine x_iload_n (j := 2) C dX8_worth_86 rfl rfl ?_
      obtain ⟨⟨r87, s87⟩, e87, h⟩ := Option.bind_eq_some_iff.mp h
      try dsimp only at h
      refine k8_74 C dX8_worth_87 e87 (x_room R rfl) (Nat.le_of_ble_eq_true rfl) ?_
      refine x_astoreq (i := 6) (ls' := [(6, va_rf (Option.map (G.2.1 21) r87)), (0, .ref (G.2.1 0 0)), (1, .int (p1)), (2, .int (p2)), (3, .int (p3)), (5, .ref (G.2.1 4 w71))]) C (Option.map (G.2.1 21) r87) dX8_worth_90 (Nat.le_of_ble_eq_true rfl) rfl ?_
      refine x_aloadq (j := 0) C (Option.map (G.2.1 21) r87) dX8_worth_92 rfl ?_
      cases r87 with
      | none =>
        try dsimp only at h
        change X (M, G, cdom, 7) _ _ _ 94 [(6, .null), (0, .ref (G.2.1 0 0)), (1, .int (p1)), (2, .int (p2)), (3, .int (p3)), (5, .ref (G.2.1 4 w71))] [.null]
        refine x_ifnullN (tgt := 107) C dX8_worth_94 (by decide) ?_
        refine x_aload (j := 5) C dX8_worth_107 rfl ?_
        refine x_iload_n (j := 4) C dX8_worth_109 rfl rfl ?_
        by_cases g110_1 : w71 < 128
        case neg => rw [if_neg g110_1] at h; cases h
        rw [if_pos g110_1] at h
        refine pf8_125 C dX8_worth_110 g110_1 ?_
        refine x_iconst (v := 1) C dX8_worth_113 (by decide) ?_
        cases h
        exact x_zret C dX8_worth_114 rfl
      | some w94 =>
        try dsimp only at h
        change X (M, G, cdom, 7) _ _ _ 94 [(6, .ref (G.2.1 21 w94)), (0, .ref (G.2.1 0 0)), (1, .int (p1)), (2, .int (p2)), (3, .int (p3)), (5, .ref (G.2.1 4 w71))] [.ref (G.2.1 21 w94)]
        refine x_ifnull C dX8_worth_94 ?_
        refine x_aload (j := 0) C dX8_worth_97 rfl ?_
        refine x_aload (j := 5) C dX8_worth_99 rfl ?_
        by_cases g101_2 : w71 < 128
        case neg => rw [if_neg g101_2] at h; cases h
        rw [if_pos g101_2] at h
        refine gf8_125 C dX8_worth_101 g101_2 ?_
        by_cases g104_3 : w94 < 60
        case neg => rw [if_neg g104_3] at h; cases h
        rw [if_pos g104_3] at h
        refine pf8_78 C dX8_worth_104 g104_3 ?_
        refine x_aload (j := 5) C dX8_worth_107 rfl ?_
        refine x_iload_n (j := 4) C dX8_worth_109 rfl rfl ?_
        refine pf8_125 C dX8_worth_110 g101_2 ?_
        refine x_iconst (v := 1) C dX8_worth_113 (by decide) ?_
        cases h
        exact x_zret C dX8_worth_114 rfl
    · rw [if_neg c78] at h
      refine x_iconst (v := 0) C dX8_worth_81 (by decide) ?_
      cases h
      exact x_zret C dX8_worth_82 rfl
set_option maxRecDepth 100000 in
theorem t8_worth {M : xM} {G : xG} {N : Nat} {p1 : Int32} {p2 : Int32} {p3 : Int32} (C : xC (M, G, cdom, 7) RX8 cX8_worth (some .boolean)) (R : xR (M, G, cdom, 7) = xrm 3 68) {s : cS} {r : Int32} {s1 : cS} (h : f8_worth N p1 p2 p3 s = some (r, s1)) : X (M, G, cdom, 7) (some (.int r)) (encC G s1) (encC G s) 0 [(0, .ref (G.2.1 0 0)), (1, .int (p1)), (2, .int (p2)), (3, .int (p3))] [] := by
  unfold f8_worth at h
  refine x_aload_n (j := 0) C dX8_worth_0 rfl rfl ?_
  refine x_iload_n (j := 1) C dX8_worth_1 rfl rfl ?_
  obtain ⟨⟨r2, s2⟩, e2, h⟩ := Option.bind_eq_some_iff.mp h
  try dsimp only at h
  refine k8_83 C dX8_worth_2 e2 (x_room R rfl) (Nat.le_of_ble_eq_true rfl) ?_
  refine x_astoreq (i := 4) (ls' := [(4, va_rf (Option.map (G.2.1 2) r2)), (0, .ref (G.2.1 0 0)), (1, .int (p1)), (2, .int (p2)), (3, .int (p3))]) C (Option.map (G.2.1 2) r2) dX8_worth_5 (Nat.le_of_ble_eq_true rfl) rfl ?_
  refine x_aload_n (j := 1) C dX8_worth_7 rfl rfl ?_
  refine x_iload_n (j := 2) C dX8_worth_8 rfl rfl ?_
  refine x_iload_n (j := 3) C dX8_worth_9 rfl rfl ?_
  obtain ⟨⟨r10, s10⟩, e10, h⟩ := Option.bind_eq_some_iff.mp h
  try dsimp only at h
  refine k8_109 C dX8_worth_10 e10 (x_room R rfl) (Nat.le_of_ble_eq_true rfl) ?_
  refine x_astoreq (i := 5) (ls' := [(5, va_rf (Option.map (G.2.1 4) r10)), (4, va_rf (Option.map (G.2.1 2) r2)), (0, .ref (G.2.1 0 0)), (1, .int (p1)), (2, .int (p2)), (3, .int (p3))]) C (Option.map (G.2.1 4) r10) dX8_worth_13 (Nat.le_of_ble_eq_true rfl) (by first | (simp [va_cat]; done) | (simp [va_cat, Value.category]; done)) ?_
  refine x_aload_n (j := 2) C dX8_worth_15 rfl rfl ?_
  refine x_aloadq (j := 1) C (Option.map (G.2.1 2) r2) dX8_worth_16 rfl ?_
  cases r2 with
  | none =>
    try dsimp only at h
    change X (M, G, cdom, 7) _ _ _ 18 [(5, va_rf (Option.map (G.2.1 4) r10)), (4, .null), (0, .ref (G.2.1 0 0)), (1, .int (p1)), (2, .int (p2)), (3, .int (p3))] [.null, .ref (G.2.1 0 0)]
    refine x_ifnullN (tgt := 26) C dX8_worth_18 (by decide) ?_
    refine x_iconst (v := 2) C dX8_worth_26 (by decide) ?_
    refine x_goto (tgt := 66) C dX8_worth_27 (by decide) ?_
    refine x_sub (ls' := [(0, .ref (G.2.1 0 0)), (1, .int (p1)), (2, .int (p2)), (3, .int (p3)), (5, va_rf (Option.map (G.2.1 4) r10))]) [2, 3, 4, 5, 0] rfl ?_
    exact t8_worth_b66 (N := N) (p1 := p1) (p2 := p2) (p3 := p3) C R (a5 := r10) h
  | some w18 =>
    try dsimp only at h
    change X (M, G, cdom, 7) _ _ _ 18 [(5, va_rf (Option.map (G.2.1 4) r10)), (4, .ref (G.2.1 2 w18)), (0, .ref (G.2.1 0 0)), (1, .int (p1)), (2, .int (p2)), (3, .int (p3))] [.ref (G.2.1 2 w18), .ref (G.2.1 0 0)]
    refine x_ifnull C dX8_worth_18 ?_
    refine x_aloadq (j := 0) C (Option.map (G.2.1 4) r10) dX8_worth_21 rfl ?_
    cases r10 with
    | none =>
      try dsimp only at h
      change X (M, G, cdom, 7) _ _ _ 23 [(5, .null), (4, .ref (G.2.1 2 w18)), (0, .ref (G.2.1 0 0)), (1, .int (p1)), (2, .int (p2)), (3, .int (p3))] [.null, .ref (G.2.1 0 0)]
      refine x_ifnonnullN C dX8_worth_23 ?_
      refine x_iconst (v := 2) C dX8_worth_26 (by decide) ?_
      refine x_goto (tgt := 66) C dX8_worth_27 (by decide) ?_
      refine x_sub (ls' := [(0, .ref (G.2.1 0 0)), (1, .int (p1)), (2, .int (p2)), (3, .int (p3)), (5, .null)]) [2, 3, 4, 5, 0] rfl ?_
      exact t8_worth_b66 (N := N) (p1 := p1) (p2 := p2) (p3 := p3) C R (a5 := none) h
    | some w23 =>
      try dsimp only at h
      change X (M, G, cdom, 7) _ _ _ 23 [(5, .ref (G.2.1 4 w23)), (4, .ref (G.2.1 2 w18)), (0, .ref (G.2.1 0 0)), (1, .int (p1)), (2, .int (p2)), (3, .int (p3))] [.ref (G.2.1 4 w23), .ref (G.2.1 0 0)]
      refine x_ifnonnull (tgt := 30) C dX8_worth_23 (by decide) ?_
      refine x_aload (j := 1) C dX8_worth_30 rfl ?_
      by_cases g32_1 : w18 < 8
      case neg => rw [if_neg g32_1] at h; cases h
      rw [if_pos g32_1] at h
      refine gf8_122 C dX8_worth_32 g32_1 ?_
      refine x_if_eq (tgt := 47) C dX8_worth_35 (by decide) (fun c35 => ?_) (fun c35 => ?_)
      · rw [if_pos c35] at h
        refine x_iconst (v := 4) C dX8_worth_47 (by decide) ?_
        refine x_goto (tgt := 66) C dX8_worth_48 (by decide) ?_
        refine x_sub (ls' := [(0, .ref (G.2.1 0 0)), (1, .int (p1)), (2, .int (p2)), (3, .int (p3)), (5, .ref (G.2.1 4 w23))]) [2, 3, 4, 5, 0] rfl ?_
        exact t8_worth_b66 (N := N) (p1 := p1) (p2 := p2) (p3 := p3) C R (a5 := (some w23)) h
      · rw [if_neg c35] at h
        refine x_aload (j := 1) C dX8_worth_38 rfl ?_
        refine gf8_122 C dX8_worth_40 g32_1 ?_
        refine x_iconst (v := 1) C dX8_worth_43 (by decide) ?_
        refine x_icmp_ne (tgt := 51) C dX8_worth_44 (by decide) (fun c44 => ?_) (fun c44 => ?_)
        · rw [if_neg c44] at h
          refine x_iload_n (j := 5) C dX8_worth_51 rfl rfl ?_
          refine x_sipush (v := 8000) C dX8_worth_52 (by decide) ?_
          obtain ⟨⟨r55, s55⟩, e55, h⟩ := Option.bind_eq_some_iff.mp h
          try dsimp only at h
          refine k8_113 C dX8_worth_55 e55 (x_room R rfl) (Nat.le_of_ble_eq_true rfl) ?_
          refine x_if_eq (tgt := 65) C dX8_worth_58 (by decide) (fun c58 => ?_) (fun c58 => ?_)
          · rw [if_pos c58] at h
            refine x_iconst (v := 1) C dX8_worth_65 (by decide) ?_
            refine x_sub (ls' := [(0, .ref (G.2.1 0 0)), (1, .int (p1)), (2, .int (p2)), (3, .int (p3)), (5, .ref (G.2.1 4 w23))]) [2, 3, 4, 5, 0] rfl ?_
            exact t8_worth_b66 (N := N) (p1 := p1) (p2 := p2) (p3 := p3) C R (a5 := (some w23)) h
          · rw [if_neg c58] at h
            refine x_iconst (v := 0) C dX8_worth_61 (by decide) ?_
            refine x_goto (tgt := 66) C dX8_worth_62 (by decide) ?_
            refine x_sub (ls' := [(0, .ref (G.2.1 0 0)), (1, .int (p1)), (2, .int (p2)), (3, .int (p3)), (5, .ref (G.2.1 4 w23))]) [2, 3, 4, 5, 0] rfl ?_
            exact t8_worth_b66 (N := N) (p1 := p1) (p2 := p2) (p3 := p3) C R (a5 := (some w23)) h
        · rw [if_pos c44] at h
          refine x_iconst (v := 4) C dX8_worth_47 (by decide) ?_
          refine x_goto (tgt := 66) C dX8_worth_48 (by decide) ?_
          refine x_sub (ls' := [(0, .ref (G.2.1 0 0)), (1, .int (p1)), (2, .int (p2)), (3, .int (p3)), (5, .ref (G.2.1 4 w23))]) [2, 3, 4, 5, 0] rfl ?_
          exact t8_worth_b66 (N := N) (p1 := p1) (p2 := p2) (p3 := p3) C R (a5 := (some w23)) h
theorem c8_worth (l : Launch) (G : xG) {N : Nat} {p1 : Int32} {p2 : Int32} {p3 : Int32} {s : cS} {r : Int32} {s1 : cS} (h : f8_worth N p1 p2 p3 s = some (r, s1)) : xMet l yX8_worth (x_ws yX8_worth cX8_worth 7 (some .boolean)) (xrm 3 68) G cdom [.ref (G.2.1 0 0), .int (p1), .int (p2), .int (p3)] (encC G s) (some (.int r)) (encC G s1) := by
  refine xMet.of (by decide +kernel) (Nat.le_of_ble_eq_true rfl) ?_
  rintro ⟨M, G', dom', n'⟩ e1 R e3 e4 e5 C
  change G' = G at e3; change dom' = cdom at e4; change n' = 7 at e5
  subst e3; subst e4; subst e5
  exact t8_worth C R h
set_option maxRecDepth 100000 in
theorem t8_partOf {M : xM} {G : xG} {N : Nat} {p1 : Int32} {p2 : Int32} {p3 : Int32} (C : xC (M, G, cdom, 5) RX8 cX8_partOf (some .int)) (R : xR (M, G, cdom, 5) = xrm 2 44) {s : cS} {r : Int32} {s1 : cS} (h : f8_partOf N p1 p2 p3 s = some (r, s1)) : X (M, G, cdom, 5) (some (.int r)) (encC G s1) (encC G s) 0 [(0, .ref (G.2.1 0 0)), (1, .int (p1)), (2, .int (p2)), (3, .int (p3))] [] := by
  unfold f8_partOf at h
  refine x_aload_n (j := 0) C dX8_partOf_0 rfl rfl ?_
  refine x_iload_n (j := 1) C dX8_partOf_1 rfl rfl ?_
  refine x_iload_n (j := 2) C dX8_partOf_2 rfl rfl ?_
  obtain ⟨⟨r3, s3⟩, e3, h⟩ := Option.bind_eq_some_iff.mp h
  try dsimp only at h
  refine k8_109 C dX8_partOf_3 e3 (x_room R rfl) (Nat.le_of_ble_eq_true rfl) ?_
  refine x_astoreq (i := 4) (ls' := [(4, va_rf (Option.map (G.2.1 4) r3)), (0, .ref (G.2.1 0 0)), (1, .int (p1)), (2, .int (p2)), (3, .int (p3))]) C (Option.map (G.2.1 4) r3) dX8_partOf_6 (Nat.le_of_ble_eq_true rfl) rfl ?_
  refine x_aloadq (j := 0) C (Option.map (G.2.1 4) r3) dX8_partOf_8 rfl ?_
  cases r3 with
  | none =>
    try dsimp only at h
    change X (M, G, cdom, 5) _ _ _ 10 [(4, .null), (0, .ref (G.2.1 0 0)), (1, .int (p1)), (2, .int (p2)), (3, .int (p3))] [.null]
    refine x_ifnonnullN C dX8_partOf_10 ?_
    refine x_sipush (v := (-10000)) C dX8_partOf_13 (by decide) ?_
    cases h
    exact x_iret C dX8_partOf_16
  | some w10 =>
    try dsimp only at h
    change X (M, G, cdom, 5) _ _ _ 10 [(4, .ref (G.2.1 4 w10)), (0, .ref (G.2.1 0 0)), (1, .int (p1)), (2, .int (p2)), (3, .int (p3))] [.ref (G.2.1 4 w10)]
    refine x_ifnonnull (tgt := 17) C dX8_partOf_10 (by decide) ?_
    refine x_iload_n (j := 4) C dX8_partOf_17 rfl rfl ?_
    by_cases c18_0 : p3 = 0
    · rw [if_pos c18_0] at h
      refine x_tableIn (off := 30) (tgt := 48) C dX8_partOf_18 (by rw [c18_0]; decide) (by rw [c18_0]; decide) (by rw [c18_0]; rfl) (by decide) ?_
      refine x_aload (j := 0) C dX8_partOf_48 rfl ?_
      by_cases g50_1 : w10 < 128
      case neg => rw [if_neg g50_1] at h; cases h
      rw [if_pos g50_1] at h
      refine gf8_128 C dX8_partOf_50 g50_1 ?_
      cases h
      exact x_iret C dX8_partOf_53
    rw [if_neg c18_0] at h
    by_cases c18_1 : p3 = 1
    · rw [if_pos c18_1] at h
      refine x_tableIn (off := 36) (tgt := 54) C dX8_partOf_18 (by rw [c18_1]; decide) (by rw [c18_1]; decide) (by rw [c18_1]; rfl) (by decide) ?_
      refine x_aload (j := 0) C dX8_partOf_54 rfl ?_
      by_cases g56_2 : w10 < 128
      case neg => rw [if_neg g56_2] at h; cases h
      rw [if_pos g56_2] at h
      refine gf8_117 C dX8_partOf_56 g56_2 ?_
      cases h
      exact x_iret C dX8_partOf_59
    rw [if_neg c18_1] at h
    by_cases c18_2 : p3 = 2
    · rw [if_pos c18_2] at h
      refine x_tableIn (off := 42) (tgt := 60) C dX8_partOf_18 (by rw [c18_2]; decide) (by rw [c18_2]; decide) (by rw [c18_2]; rfl) (by decide) ?_
      refine x_aload (j := 0) C dX8_partOf_60 rfl ?_
      by_cases g62_3 : w10 < 128
      case neg => rw [if_neg g62_3] at h; cases h
      rw [if_pos g62_3] at h
      refine gf8_125 C dX8_partOf_62 g62_3 ?_
      cases h
      exact x_iret C dX8_partOf_65
    rw [if_neg c18_2] at h
    by_cases c18_3 : p3 = 3
    · rw [if_pos c18_3] at h
      refine x_tableIn (off := 48) (tgt := 66) C dX8_partOf_18 (by rw [c18_3]; decide) (by rw [c18_3]; decide) (by rw [c18_3]; rfl) (by decide) ?_
      refine x_aload (j := 0) C dX8_partOf_66 rfl ?_
      by_cases g68_4 : w10 < 128
      case neg => rw [if_neg g68_4] at h; cases h
      rw [if_pos g68_4] at h
      refine gf8_131 C dX8_partOf_68 g68_4 ?_
      cases h
      exact x_iret C dX8_partOf_71
    rw [if_neg c18_3] at h
    refine x_tableOut (tgt := 72) C dX8_partOf_18 (by have qc18_0 := lv_neT c18_0 (a := 0) (by decide); have qc18_1 := lv_neT c18_1 (a := 1) (by decide); have qc18_2 := lv_neT c18_2 (a := 2) (by decide); have qc18_3 := lv_neT c18_3 (a := 3) (by decide); omega) (by decide) ?_
    refine x_sipush (v := (-10000)) C dX8_partOf_72 (by decide) ?_
    cases h
    exact x_iret C dX8_partOf_75
theorem c8_partOf (l : Launch) (G : xG) {N : Nat} {p1 : Int32} {p2 : Int32} {p3 : Int32} {s : cS} {r : Int32} {s1 : cS} (h : f8_partOf N p1 p2 p3 s = some (r, s1)) : xMet l yX8_partOf (x_ws yX8_partOf cX8_partOf 5 (some .int)) (xrm 2 44) G cdom [.ref (G.2.1 0 0), .int (p1), .int (p2), .int (p3)] (encC G s) (some (.int r)) (encC G s1) := by
  refine xMet.of (by decide +kernel) (Nat.le_of_ble_eq_true rfl) ?_
  rintro ⟨M, G', dom', n'⟩ e1 R e3 e4 e5 C
  change G' = G at e3; change dom' = cdom at e4; change n' = 5 at e5
  subst e3; subst e4; subst e5
  exact t8_partOf C R h
set_option maxRecDepth 100000 in
theorem t8_kind {M : xM} {G : xG} {N : Nat} {p1 : Int32} {p2 : Int32} (C : xC (M, G, cdom, 4) RX8 cX8_kind (some .int)) (R : xR (M, G, cdom, 4) = xrm 1 21) {s : cS} {r : Int32} {s1 : cS} (h : f8_kind N p1 p2 s = some (r, s1)) : X (M, G, cdom, 4) (some (.int r)) (encC G s1) (encC G s) 0 [(0, .ref (G.2.1 0 0)), (1, .int (p1)), (2, .int (p2))] [] := by
  unfold f8_kind at h
  refine x_aload_n (j := 0) C dX8_kind_0 rfl rfl ?_
  refine x_iload_n (j := 1) C dX8_kind_1 rfl rfl ?_
  obtain ⟨⟨r2, s2⟩, e2, h⟩ := Option.bind_eq_some_iff.mp h
  try dsimp only at h
  refine k8_83 C dX8_kind_2 e2 (x_room R rfl) (Nat.le_of_ble_eq_true rfl) ?_
  refine x_astore_nq (i := 3) (ls' := [(3, va_rf (Option.map (G.2.1 2) r2)), (0, .ref (G.2.1 0 0)), (1, .int (p1)), (2, .int (p2))]) C (Option.map (G.2.1 2) r2) dX8_kind_5 rfl (Nat.le_of_ble_eq_true rfl) rfl ?_
  refine x_aload_nq (j := 0) C (Option.map (G.2.1 2) r2) dX8_kind_6 rfl rfl ?_
  cases r2 with
  | none =>
    try dsimp only at h
    change X (M, G, cdom, 4) _ _ _ 7 [(3, .null), (0, .ref (G.2.1 0 0)), (1, .int (p1)), (2, .int (p2))] [.null]
    refine x_ifnullN (tgt := 19) C dX8_kind_7 (by decide) ?_
    refine x_iconst (v := (-1)) C dX8_kind_19 (by decide) ?_
    cases h
    exact x_iret C dX8_kind_20
  | some w7 =>
    try dsimp only at h
    change X (M, G, cdom, 4) _ _ _ 7 [(3, .ref (G.2.1 2 w7)), (0, .ref (G.2.1 0 0)), (1, .int (p1)), (2, .int (p2))] [.ref (G.2.1 2 w7)]
    refine x_ifnull C dX8_kind_7 ?_
    refine x_iload_n (j := 3) C dX8_kind_10 rfl rfl ?_
    refine x_if_lt (tgt := 19) C dX8_kind_11 (by decide) (fun c11 => ?_) (fun c11 => ?_)
    · rw [if_pos c11] at h
      refine x_iconst (v := (-1)) C dX8_kind_19 (by decide) ?_
      cases h
      exact x_iret C dX8_kind_20
    · rw [if_neg c11] at h
      refine x_iload_n (j := 3) C dX8_kind_14 rfl rfl ?_
      refine x_iconst (v := 1) C dX8_kind_15 (by decide) ?_
      refine x_icmp_le (tgt := 21) C dX8_kind_16 (by decide) (fun c16 => ?_) (fun c16 => ?_)
      · rw [if_pos c16] at h
        refine x_iload_n (j := 3) C dX8_kind_21 rfl rfl ?_
        refine x_if_ne (tgt := 32) C dX8_kind_22 (by decide) (fun c22 => ?_) (fun c22 => ?_)
        · rw [if_neg c22] at h
          refine x_aload_n (j := 0) C dX8_kind_32 rfl rfl ?_
          by_cases g33_1 : w7 < 8
          case neg => rw [if_neg g33_1] at h; cases h
          rw [if_pos g33_1] at h
          refine gf8_95 C dX8_kind_33 g33_1 ?_
          cases h
          exact x_iret C dX8_kind_36
        · rw [if_pos c22] at h
          refine x_aload_n (j := 0) C dX8_kind_25 rfl rfl ?_
          by_cases g26_2 : w7 < 8
          case neg => rw [if_neg g26_2] at h; cases h
          rw [if_pos g26_2] at h
          refine gf8_122 C dX8_kind_26 g26_2 ?_
          refine x_goto (tgt := 36) C dX8_kind_29 (by decide) ?_
          cases h
          exact x_iret C dX8_kind_36
      · rw [if_neg c16] at h
        refine x_iconst (v := (-1)) C dX8_kind_19 (by decide) ?_
        cases h
        exact x_iret C dX8_kind_20
theorem c8_kind (l : Launch) (G : xG) {N : Nat} {p1 : Int32} {p2 : Int32} {s : cS} {r : Int32} {s1 : cS} (h : f8_kind N p1 p2 s = some (r, s1)) : xMet l yX8_kind (x_ws yX8_kind cX8_kind 4 (some .int)) (xrm 1 21) G cdom [.ref (G.2.1 0 0), .int (p1), .int (p2)] (encC G s) (some (.int r)) (encC G s1) := by
  refine xMet.of (by decide +kernel) (Nat.le_of_ble_eq_true rfl) ?_
  rintro ⟨M, G', dom', n'⟩ e1 R e3 e4 e5 C
  change G' = G at e3; change dom' = cdom at e4; change n' = 4 at e5
  subst e3; subst e4; subst e5
  exact t8_kind C R h
set_option maxRecDepth 100000 in
theorem t8_isNumber {M : xM} {G : xG} {N : Nat} {p1 : Int32} (C : xC (M, G, cdom, 2) RX8 cX8_isNumber (some .boolean)) (R : xR (M, G, cdom, 2) = xrm 0 0) {s : cS} {r : Int32} {s1 : cS} (h : f8_isNumber N p1 s = some (r, s1)) : X (M, G, cdom, 2) (some (.int r)) (encC G s1) (encC G s) 0 [(0, .ref (G.2.1 0 0)), (1, .int (p1))] [] := by
  unfold f8_isNumber at h
  refine x_iload_n (j := 1) C dX8_isNumber_0 rfl rfl ?_
  refine x_if_lt (tgt := 16) C dX8_isNumber_1 (by decide) (fun c1 => ?_) (fun c1 => ?_)
  · rw [if_pos c1] at h
    refine x_iconst (v := 0) C dX8_isNumber_16 (by decide) ?_
    cases h
    exact x_zret C dX8_isNumber_17 rfl
  · rw [if_neg c1] at h
    refine x_iload_n (j := 1) C dX8_isNumber_4 rfl rfl ?_
    refine x_aload_n (j := 0) C dX8_isNumber_5 rfl rfl ?_
    refine gf8_56 C dX8_isNumber_6 ?_
    refine x_icmp_gt (tgt := 16) C dX8_isNumber_9 (by decide) (fun c9 => ?_) (fun c9 => ?_)
    · rw [if_pos c9] at h
      refine x_iconst (v := 0) C dX8_isNumber_16 (by decide) ?_
      cases h
      exact x_zret C dX8_isNumber_17 rfl
    · rw [if_neg c9] at h
      refine x_iconst (v := 1) C dX8_isNumber_12 (by decide) ?_
      refine x_goto (tgt := 17) C dX8_isNumber_13 (by decide) ?_
      cases h
      exact x_zret C dX8_isNumber_17 rfl
theorem c8_isNumber (l : Launch) (G : xG) {N : Nat} {p1 : Int32} {s : cS} {r : Int32} {s1 : cS} (h : f8_isNumber N p1 s = some (r, s1)) : xMet l yX8_isNumber (x_ws yX8_isNumber cX8_isNumber 2 (some .boolean)) (xrm 0 0) G cdom [.ref (G.2.1 0 0), .int (p1)] (encC G s) (some (.int r)) (encC G s1) := by
  refine xMet.of (by decide +kernel) (Nat.le_of_ble_eq_true rfl) ?_
  rintro ⟨M, G', dom', n'⟩ e1 R e3 e4 e5 C
  change G' = G at e3; change dom' = cdom at e4; change n' = 2 at e5
  subst e3; subst e4; subst e5
  exact t8_isNumber C R h
set_option maxRecDepth 100000 in
theorem t5_asItIs {M : xM} {G : xG} {N : Nat} {o : Nat} (C : xC (M, G, cdom, 1) RX5 cX5_asItIs (some .int)) (R : xR (M, G, cdom, 1) = xrm 0 0) (ho : o < 128) {s : cS} {r : Int32} {s1 : cS} (h : f5_asItIs N o s = some (r, s1)) : X (M, G, cdom, 1) (some (.int r)) (encC G s1) (encC G s) 0 [(0, .ref (G.2.1 4 o))] [] := by
  unfold f5_asItIs at h
  refine x_aload_n (j := 0) C dX5_asItIs_0 rfl rfl ?_
  refine gf5_7 C dX5_asItIs_1 ho ?_
  refine x_aload_n (j := 0) C dX5_asItIs_4 rfl rfl ?_
  refine gf5_13 C dX5_asItIs_5 ho ?_
  refine x_iadd C dX5_asItIs_8 ?_
  cases h
  exact x_iret C dX5_asItIs_9
theorem c5_asItIs (l : Launch) (G : xG) {N : Nat} {o : Nat} {s : cS} {r : Int32} {s1 : cS} (ho : o < 128) (h : f5_asItIs N o s = some (r, s1)) : xMet l yX5_asItIs (x_ws yX5_asItIs cX5_asItIs 1 (some .int)) (xrm 0 0) G cdom [.ref (G.2.1 4 o)] (encC G s) (some (.int r)) (encC G s1) := by
  refine xMet.of (by decide +kernel) (Nat.le_of_ble_eq_true rfl) ?_
  rintro ⟨M, G', dom', n'⟩ e1 R e3 e4 e5 C
  change G' = G at e3; change dom' = cdom at e4; change n' = 1 at e5
  subst e3; subst e4; subst e5
  exact t5_asItIs C R ho h
theorem k3_54 {M : xM} {G : xG} {n : Nat} {rv : Option Value} {E' : xE} {cc : ByteArray} {ret : Option FieldType} {pc : Nat} {ls : List (Nat × Value)} {st : List Value} {N : Nat} {o : Nat} {s s1 : cS} {r : Int32} (C : xC (M, G, cdom, n) RX3 cc ret) (d : decode cc pc = .ok (.invokevirtual 54, 3)) (h : f5_asItIs N o s = some (r, s1)) (ho : o < 128) (hR : (xrm 0 0).frames + 1 ≤ (xR (M, G, cdom, n)).frames ∧ 8 + (1 + 11) + (xrm 0 0).locals ≤ (xR (M, G, cdom, n)).locals) (hw : (st.map fun v => v.category).sum ≤ 8) (k : X (M, G, cdom, n) rv E' (encC G s1) (pc + 3) ls (.int r :: st)) : X (M, G, cdom, n) rv E' (encC G s) pc ls (.ref (G.2.1 4 o) :: st) :=
  x_callVN (As := []) (n := 0) C d (c5_asItIs (xl (M, G, cdom, n)) G ho h) lk416 lk418 lk14 lk85 lk419 ⟨rfl, rfl⟩ ⟨by decide +kernel, by decide +kernel, by decide +kernel⟩ rfl hR (decide_eq_true ho) rfl rfl rfl hw k
set_option maxRecDepth 100000 in
theorem t3_weigh_l2b {M : xM} {G : xG} {N : Nat} {o : Nat} (C : xC (M, G, cdom, 3) RX3 cX3_weigh none) (R : xR (M, G, cdom, 3) = xrm 1 21) (ho : o < 8) {k2 : Int32 → cS → Option (cS)} (hk2 : ∀ (a1 : Int32) (s : cS) (s1 : cS), k2 a1 s = some s1 → X (M, G, cdom, 3) none (encC G s1) (encC G s) 2 [(0, .ref (G.2.1 2 o)), (1, .int (a1))] []) {a1 : Int32} {s : cS} {s1 : cS} (h : f3_weigh_l2b N o k2 a1 s = some s1) : X (M, G, cdom, 3) none (encC G s1) (encC G s) 2 [(0, .ref (G.2.1 2 o)), (1, .int (a1))] [] := by
  unfold f3_weigh_l2b at h
  refine x_iload_n (j := 1) C dX3_weigh_2 rfl rfl ?_
  refine x_aload_n (j := 0) C dX3_weigh_3 rfl rfl ?_
  refine gf3_22 C dX3_weigh_4 ho ?_
  refine x_icmp_ge (tgt := 75) C dX3_weigh_7 (by decide) (fun c7 => ?_) (fun c7 => ?_)
  · rw [if_pos c7] at h
    cases h
    exact x_vret C dX3_weigh_75
  · rw [if_neg c7] at h
    refine x_aload_n (j := 0) C dX3_weigh_10 rfl rfl ?_
    refine x_iload_n (j := 1) C dX3_weigh_11 rfl rfl ?_
    obtain ⟨⟨r12, s12⟩, e12, h⟩ := Option.bind_eq_some_iff.mp h
    try dsimp only at h
    refine k3_25 C dX3_weigh_12 e12 ho (x_room R rfl) (Nat.le_of_ble_eq_true rfl) ?_
    refine x_astore_nq (i := 2) (ls' := [(2, va_rf (Option.map (G.2.1 4) r12)), (0, .ref (G.2.1 2 o)), (1, .int (a1))]) C (Option.map (G.2.1 4) r12) dX3_weigh_15 rfl (Nat.le_of_ble_eq_true rfl) rfl ?_
    refine x_aload_nq (j := 0) C (Option.map (G.2.1 4) r12) dX3_weigh_16 rfl rfl ?_
    cases r12 with
    | none =>
      try dsimp only at h
      change X (M, G, cdom, 3) _ _ _ 17 [(2, .null), (0, .ref (G.2.1 2 o)), (1, .int (a1))] [.null]
      refine x_ifnullN (tgt := 69) C dX3_weigh_17 (by decide) ?_
      refine x_iinc (j := 2) (v := (a1 + 1)) (ls' := [(1, .int ((a1 + 1))), (2, .null), (0, .ref (G.2.1 2 o))]) C dX3_weigh_69 rfl rfl (Nat.le_of_ble_eq_true rfl) rfl ?_
      refine x_goto (tgt := 2) C dX3_weigh_72 (by decide) ?_
      refine x_sub (ls' := [(0, .ref (G.2.1 2 o)), (1, .int ((a1 + 1)))]) [2, 0] rfl ?_
      exact hk2 _ _ _ h
    | some w17 =>
      try dsimp only at h
      change X (M, G, cdom, 3) _ _ _ 17 [(2, .ref (G.2.1 4 w17)), (0, .ref (G.2.1 2 o)), (1, .int (a1))] [.ref (G.2.1 4 w17)]
      refine x_ifnull C dX3_weigh_17 ?_
      refine x_aload_n (j := 0) C dX3_weigh_20 rfl rfl ?_
      by_cases g21_1 : w17 < 128
      case neg => rw [if_neg g21_1] at h; cases h
      rw [if_pos g21_1] at h
      obtain ⟨⟨r21, s21⟩, e21, h⟩ := Option.bind_eq_some_iff.mp h
      try dsimp only at h
      refine k3_54 C dX3_weigh_21 e21 g21_1 (x_room R rfl) (Nat.le_of_ble_eq_true rfl) ?_
      refine x_aload_n (j := 1) C dX3_weigh_24 rfl rfl ?_
      refine gf3_64 C dX3_weigh_25 ho ?_
      refine x_icmp_gt (tgt := 69) C dX3_weigh_28 (by decide) (fun c28 => ?_) (fun c28 => ?_)
      · rw [if_pos c28] at h
        refine x_iinc (j := 2) (v := (a1 + 1)) (ls' := [(1, .int ((a1 + 1))), (2, .ref (G.2.1 4 w17)), (0, .ref (G.2.1 2 o))]) C dX3_weigh_69 rfl rfl (Nat.le_of_ble_eq_true rfl) rfl ?_
        refine x_goto (tgt := 2) C dX3_weigh_72 (by decide) ?_
        refine x_sub (ls' := [(0, .ref (G.2.1 2 o)), (1, .int ((a1 + 1)))]) [2, 0] rfl ?_
        exact hk2 _ _ _ h
      · rw [if_neg c28] at h
        refine x_aload_n (j := 1) C dX3_weigh_31 rfl rfl ?_
        refine x_dup C dX3_weigh_32 rfl ?_
        refine gf3_64 C dX3_weigh_33 ho ?_
        refine x_aload_n (j := 0) C dX3_weigh_36 rfl rfl ?_
        obtain ⟨⟨r37, s37⟩, e37, h⟩ := Option.bind_eq_some_iff.mp h
        try dsimp only at h
        refine k3_54 C dX3_weigh_37 e37 g21_1 (x_room R rfl) (Nat.le_of_ble_eq_true rfl) ?_
        refine x_isub C dX3_weigh_40 ?_
        refine pf3_64 C dX3_weigh_41 ho ?_
        refine x_aload_n (j := 1) C dX3_weigh_44 rfl rfl ?_
        refine x_dup C dX3_weigh_45 rfl ?_
        refine gf3_58 C dX3_weigh_46 ho ?_
        refine x_aload_n (j := 0) C dX3_weigh_49 rfl rfl ?_
        refine gf3_35 C dX3_weigh_50 g21_1 ?_
        refine x_iadd C dX3_weigh_53 ?_
        refine pf3_58 C dX3_weigh_54 ho ?_
        refine x_aload_n (j := 1) C dX3_weigh_57 rfl rfl ?_
        refine x_dup C dX3_weigh_58 rfl ?_
        refine gf3_61 C dX3_weigh_59 ho ?_
        refine x_iconst (v := 1) C dX3_weigh_62 (by decide) ?_
        refine x_iload_n (j := 2) C dX3_weigh_63 rfl rfl ?_
        refine x_ishl C dX3_weigh_64 ?_
        refine x_ior C dX3_weigh_65 ?_
        refine pf3_61 C dX3_weigh_66 ho ?_
        refine x_iinc (j := 2) (v := (a1 + 1)) (ls' := [(1, .int ((a1 + 1))), (2, .ref (G.2.1 4 w17)), (0, .ref (G.2.1 2 o))]) C dX3_weigh_69 rfl rfl (Nat.le_of_ble_eq_true rfl) rfl ?_
        refine x_goto (tgt := 2) C dX3_weigh_72 (by decide) ?_
        refine x_sub (ls' := [(0, .ref (G.2.1 2 o)), (1, .int ((a1 + 1)))]) [2, 0] rfl ?_
        exact hk2 _ _ _ h
theorem t3_weigh_l2 {M : xM} {G : xG} {N : Nat} {o : Nat} (C : xC (M, G, cdom, 3) RX3 cX3_weigh none) (R : xR (M, G, cdom, 3) = xrm 1 21) (ho : o < 8) (n : Nat) : ∀ (a1 : Int32) (s : cS) (s1 : cS), f3_weigh_l2 N o n a1 s = some s1 → X (M, G, cdom, 3) none (encC G s1) (encC G s) 2 [(0, .ref (G.2.1 2 o)), (1, .int (a1))] [] := by
  induction n with
  | zero => intro a1 s s1 h; exact (Option.some_ne_none _ (Eq.symm h)).elim
  | succ n ih => intro a1 s s1 h; exact t3_weigh_l2b (N := N) (o := o) C R ho (k2 := f3_weigh_l2 N o n) ih h
set_option maxRecDepth 100000 in
theorem t3_weigh {M : xM} {G : xG} {N : Nat} {o : Nat} (C : xC (M, G, cdom, 3) RX3 cX3_weigh none) (R : xR (M, G, cdom, 3) = xrm 1 21) (ho : o < 8) {s : cS} {s1 : cS} (h : f3_weigh N o s = some s1) : X (M, G, cdom, 3) none (encC G s1) (encC G s) 0 [(0, .ref (G.2.1 2 o))] [] := by
  unfold f3_weigh at h
  refine x_iconst (v := 0) C dX3_weigh_0 (by decide) ?_
  refine x_istore_n (i := 1) (ls' := [(1, .int (0)), (0, .ref (G.2.1 2 o))]) C dX3_weigh_1 rfl (Nat.le_of_ble_eq_true rfl) rfl ?_
  refine x_sub (ls' := [(0, .ref (G.2.1 2 o)), (1, .int (0))]) [1, 0] rfl ?_
  exact t3_weigh_l2 (N := N) (o := o) C R ho N _ _ _ h
theorem c3_weigh (l : Launch) (G : xG) {N : Nat} {o : Nat} {s : cS} {s1 : cS} (ho : o < 8) (h : f3_weigh N o s = some s1) : xMet l yX3_weigh (x_ws yX3_weigh cX3_weigh 3 none) (xrm 1 21) G cdom [.ref (G.2.1 2 o)] (encC G s) none (encC G s1) := by
  refine xMet.of (by decide +kernel) (Nat.le_of_ble_eq_true rfl) ?_
  rintro ⟨M, G', dom', n'⟩ e1 R e3 e4 e5 C
  change G' = G at e3; change dom' = cdom at e4; change n' = 3 at e5
  subst e3; subst e4; subst e5
  exact t3_weigh C R ho h
