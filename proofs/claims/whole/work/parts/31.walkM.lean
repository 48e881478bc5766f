theorem k9_103 {M : xM} {G : xG} {n : Nat} {rv : Option Value} {E' : xE} {cc : ByteArray} {ret : Option FieldType} {pc : Nat} {ls : List (Nat × Value)} {st : List Value} {N : Nat} {p1 : Int32} {p2 : Int32} {s s1 : mS} (C : xC (M, G, mdom, n) RX9 cc ret) (d : decode cc pc = .ok (.invokevirtual 103, 3)) (h : f9_reads N p1 p2 s = some s1) (hR : (xrm 1 22).frames + 1 ≤ (xR (M, G, mdom, n)).frames ∧ 8 + (12 + 11) + (xrm 1 22).locals ≤ (xR (M, G, mdom, n)).locals) (hw : (st.map fun v => v.category).sum ≤ 8) (k : X (M, G, mdom, n) rv E' (encM G s1) (pc + 3) ls (st)) : X (M, G, mdom, n) rv E' (encM G s) pc ls (.int (p2) :: .int (p1) :: .ref (G.2.1 0 0) :: st) :=
  x_callV (As := [.int (p1), .int (p2)]) (n := 2) C d (c9_reads (xl (M, G, mdom, n)) G h) lk875 lk877 lk66 lk87 lk878 ⟨rfl, rfl⟩ ⟨by decide +kernel, by decide +kernel, by decide +kernel⟩ rfl hR rfl rfl rfl rfl hw k
set_option maxRecDepth 100000 in
theorem t9_codeOf {M : xM} {G : xG} {N : Nat} {p1 : Int32} {p2 : Int32} (C : xC (M, G, mdom, 3) RX9 cX9_codeOf (some .int)) (R : xR (M, G, mdom, 3) = xrm 2 53) {s : mS} {r : Int32} {s1 : mS} (h : f9_codeOf N p1 p2 s = some (r, s1)) : X (M, G, mdom, 3) (some (.int r)) (encM G s1) (encM G s) 0 [(0, .ref (G.2.1 0 0)), (1, .int (p1)), (2, .int (p2))] [] := by
  unfold f9_codeOf at h
  refine x_aload_n (j := 0) C dX9_codeOf_0 rfl rfl ?_
  refine x_iload_n (j := 1) C dX9_codeOf_1 rfl rfl ?_
  refine x_iload_n (j := 2) C dX9_codeOf_2 rfl rfl ?_
  obtain ⟨s3, e3, h⟩ := Option.bind_eq_some_iff.mp h
  try dsimp only at h
  refine k9_103 C dX9_codeOf_3 e3 (x_room R rfl) (Nat.le_of_ble_eq_true rfl) ?_
  refine x_aload_n (j := 0) C dX9_codeOf_6 rfl rfl ?_
  refine gf9_91 C dX9_codeOf_7 ?_
  cases h
  exact x_iret C dX9_codeOf_10
theorem c9_codeOf (l : Launch) (G : xG) {N : Nat} {p1 : Int32} {p2 : Int32} {s : mS} {r : Int32} {s1 : mS} (h : f9_codeOf N p1 p2 s = some (r, s1)) : xMet l yX9_codeOf (x_ws yX9_codeOf cX9_codeOf 3 (some .int)) (xrm 2 53) G mdom [.ref (G.2.1 0 0), .int (p1), .int (p2)] (encM G s) (some (.int r)) (encM G s1) := by
  refine xMet.of (by decide +kernel) (Nat.le_of_ble_eq_true rfl) ?_
  rintro ⟨M, G', dom', n'⟩ e1 R e3 e4 e5 C
  change G' = G at e3; change dom' = mdom at e4; change n' = 3 at e5
  subst e3; subst e4; subst e5
  exact t9_codeOf C R h
theorem k9_107 {M : xM} {G : xG} {n : Nat} {rv : Option Value} {E' : xE} {cc : ByteArray} {ret : Option FieldType} {pc : Nat} {ls : List (Nat × Value)} {st : List Value} {N : Nat} {p1 : Int32} {s s1 : mS} {r : Int32} (C : xC (M, G, mdom, n) RX9 cc ret) (d : decode cc pc = .ok (.invokevirtual 107, 3)) (h : f9_isNumber N p1 s = some (r, s1)) (hR : (xrm 1 23).frames + 1 ≤ (xR (M, G, mdom, n)).frames ∧ 8 + (2 + 11) + (xrm 1 23).locals ≤ (xR (M, G, mdom, n)).locals) (hw : (st.map fun v => v.category).sum ≤ 8) (k : X (M, G, mdom, n) rv E' (encM G s1) (pc + 3) ls (.int r :: st)) : X (M, G, mdom, n) rv E' (encM G s) pc ls (.int (p1) :: .ref (G.2.1 0 0) :: st) :=
  x_callV (As := [.int (p1)]) (n := 1) C d (c9_isNumber (xl (M, G, mdom, n)) G h) lk867 lk869 lk64 lk87 lk870 ⟨rfl, rfl⟩ ⟨by decide +kernel, by decide +kernel, by decide +kernel⟩ rfl hR rfl rfl rfl rfl hw k
theorem k9_110 {M : xM} {G : xG} {n : Nat} {rv : Option Value} {E' : xE} {cc : ByteArray} {ret : Option FieldType} {pc : Nat} {ls : List (Nat × Value)} {st : List Value} {N : Nat} {p1 : Int32} {p2 : Int32} {s s1 : mS} {r : Int32} (C : xC (M, G, mdom, n) RX9 cc ret) (d : decode cc pc = .ok (.invokevirtual 110, 3)) (h : f9_codeOf N p1 p2 s = some (r, s1)) (hR : (xrm 2 53).frames + 1 ≤ (xR (M, G, mdom, n)).frames ∧ 8 + (3 + 11) + (xrm 2 53).locals ≤ (xR (M, G, mdom, n)).locals) (hw : (st.map fun v => v.category).sum ≤ 8) (k : X (M, G, mdom, n) rv E' (encM G s1) (pc + 3) ls (.int r :: st)) : X (M, G, mdom, n) rv E' (encM G s) pc ls (.int (p2) :: .int (p1) :: .ref (G.2.1 0 0) :: st) :=
  x_callV (As := [.int (p1), .int (p2)]) (n := 2) C d (c9_codeOf (xl (M, G, mdom, n)) G h) lk871 lk873 lk65 lk87 lk874 ⟨rfl, rfl⟩ ⟨by decide +kernel, by decide +kernel, by decide +kernel⟩ rfl hR rfl rfl rfl rfl hw k
set_option maxRecDepth 100000 in
theorem t9_read {M : xM} {G : xG} {N : Nat} {p1 : Int32} {p2 : Int32} (C : xC (M, G, mdom, 3) RX9 cX9_read (some .int)) (R : xR (M, G, mdom, 3) = xrm 3 75) {s : mS} {r : Int32} {s1 : mS} (h : f9_read N p1 p2 s = some (r, s1)) : X (M, G, mdom, 3) (some (.int r)) (encM G s1) (encM G s) 0 [(0, .ref (G.2.1 0 0)), (1, .int (p1)), (2, .int (p2))] [] := by
  unfold f9_read at h
  refine x_aload_n (j := 0) C dX9_read_0 rfl rfl ?_
  refine x_iconst (v := 0) C dX9_read_1 (by decide) ?_
  refine pf9_47 C dX9_read_2 ?_
  refine x_aload_n (j := 0) C dX9_read_5 rfl rfl ?_
  refine x_iload_n (j := 1) C dX9_read_6 rfl rfl ?_
  obtain ⟨⟨r7, s7⟩, e7, h⟩ := Option.bind_eq_some_iff.mp h
  try dsimp only at h
  refine k9_68 C dX9_read_7 e7 (x_room R rfl) (Nat.le_of_ble_eq_true rfl) ?_
  refine x_if_eq (tgt := 30) C dX9_read_10 (by decide) (fun c10 => ?_) (fun c10 => ?_)
  · rw [if_pos c10] at h
    refine x_ldc (v := (-2147483648)) C dX9_read_30 lk885 ?_
    cases h
    exact x_iret C dX9_read_32
  · rw [if_neg c10] at h
    refine x_aload_n (j := 0) C dX9_read_13 rfl rfl ?_
    refine x_iload_n (j := 2) C dX9_read_14 rfl rfl ?_
    obtain ⟨⟨r15, s15⟩, e15, h⟩ := Option.bind_eq_some_iff.mp h
    try dsimp only at h
    refine k9_107 C dX9_read_15 e15 (x_room R rfl) (Nat.le_of_ble_eq_true rfl) ?_
    refine x_if_eq (tgt := 30) C dX9_read_18 (by decide) (fun c18 => ?_) (fun c18 => ?_)
    · rw [if_pos c18] at h
      refine x_ldc (v := (-2147483648)) C dX9_read_30 lk885 ?_
      cases h
      exact x_iret C dX9_read_32
    · rw [if_neg c18] at h
      refine x_aload_n (j := 0) C dX9_read_21 rfl rfl ?_
      refine x_iload_n (j := 1) C dX9_read_22 rfl rfl ?_
      refine x_iload_n (j := 2) C dX9_read_23 rfl rfl ?_
      obtain ⟨⟨r24, s24⟩, e24, h⟩ := Option.bind_eq_some_iff.mp h
      try dsimp only at h
      refine k9_110 C dX9_read_24 e24 (x_room R rfl) (Nat.le_of_ble_eq_true rfl) ?_
      refine x_goto (tgt := 32) C dX9_read_27 (by decide) ?_
      cases h
      exact x_iret C dX9_read_32
theorem c9_read (l : Launch) (G : xG) {N : Nat} {p1 : Int32} {p2 : Int32} {s : mS} {r : Int32} {s1 : mS} (h : f9_read N p1 p2 s = some (r, s1)) : xMet l yX9_read (x_ws yX9_read cX9_read 3 (some .int)) (xrm 3 75) G mdom [.ref (G.2.1 0 0), .int (p1), .int (p2)] (encM G s) (some (.int r)) (encM G s1) := by
  refine xMet.of (by decide +kernel) (Nat.le_of_ble_eq_true rfl) ?_
  rintro ⟨M, G', dom', n'⟩ e1 R e3 e4 e5 C
  change G' = G at e3; change dom' = mdom at e4; change n' = 3 at e5
  subst e3; subst e4; subst e5
  exact t9_read C R h
set_option maxRecDepth 100000 in
theorem t9_trail {M : xM} {G : xG} {N : Nat} {p1 : Int32} {p2 : Int32} (C : xC (M, G, mdom, 3) RX9 cX9_trail (some .int)) (R : xR (M, G, mdom, 3) = xrm 2 53) {s : mS} {r : Int32} {s1 : mS} (h : f9_trail N p1 p2 s = some (r, s1)) : X (M, G, mdom, 3) (some (.int r)) (encM G s1) (encM G s) 0 [(0, .ref (G.2.1 0 0)), (1, .int (p1)), (2, .int (p2))] [] := by
  unfold f9_trail at h
  refine x_aload_n (j := 0) C dX9_trail_0 rfl rfl ?_
  refine x_iconst (v := 0) C dX9_trail_1 (by decide) ?_
  refine pf9_47 C dX9_trail_2 ?_
  refine x_aload_n (j := 0) C dX9_trail_5 rfl rfl ?_
  refine x_iload_n (j := 1) C dX9_trail_6 rfl rfl ?_
  obtain ⟨⟨r7, s7⟩, e7, h⟩ := Option.bind_eq_some_iff.mp h
  try dsimp only at h
  refine k9_68 C dX9_trail_7 e7 (x_room R rfl) (Nat.le_of_ble_eq_true rfl) ?_
  refine x_if_eq (tgt := 21) C dX9_trail_10 (by decide) (fun c10 => ?_) (fun c10 => ?_)
  · rw [if_pos c10] at h
    refine x_iconst (v := (-1)) C dX9_trail_21 (by decide) ?_
    cases h
    exact x_iret C dX9_trail_22
  · rw [if_neg c10] at h
    refine x_aload_n (j := 0) C dX9_trail_13 rfl rfl ?_
    refine x_iload_n (j := 2) C dX9_trail_14 rfl rfl ?_
    obtain ⟨⟨r15, s15⟩, e15, h⟩ := Option.bind_eq_some_iff.mp h
    try dsimp only at h
    refine k9_107 C dX9_trail_15 e15 (x_room R rfl) (Nat.le_of_ble_eq_true rfl) ?_
    refine x_if_ne (tgt := 23) C dX9_trail_18 (by decide) (fun c18 => ?_) (fun c18 => ?_)
    · rw [if_neg c18] at h
      refine x_aload_n (j := 0) C dX9_trail_23 rfl rfl ?_
      refine x_iload_n (j := 1) C dX9_trail_24 rfl rfl ?_
      refine x_iload_n (j := 2) C dX9_trail_25 rfl rfl ?_
      obtain ⟨s26, e26, h⟩ := Option.bind_eq_some_iff.mp h
      try dsimp only at h
      refine k9_103 C dX9_trail_26 e26 (x_room R rfl) (Nat.le_of_ble_eq_true rfl) ?_
      refine x_aload_n (j := 0) C dX9_trail_29 rfl rfl ?_
      refine gf9_94 C dX9_trail_30 ?_
      cases h
      exact x_iret C dX9_trail_33
    · rw [if_pos c18] at h
      refine x_iconst (v := (-1)) C dX9_trail_21 (by decide) ?_
      cases h
      exact x_iret C dX9_trail_22
theorem c9_trail (l : Launch) (G : xG) {N : Nat} {p1 : Int32} {p2 : Int32} {s : mS} {r : Int32} {s1 : mS} (h : f9_trail N p1 p2 s = some (r, s1)) : xMet l yX9_trail (x_ws yX9_trail cX9_trail 3 (some .int)) (xrm 2 53) G mdom [.ref (G.2.1 0 0), .int (p1), .int (p2)] (encM G s) (some (.int r)) (encM G s1) := by
  refine xMet.of (by decide +kernel) (Nat.le_of_ble_eq_true rfl) ?_
  rintro ⟨M, G', dom', n'⟩ e1 R e3 e4 e5 C
  change G' = G at e3; change dom' = mdom at e4; change n' = 3 at e5
  subst e3; subst e4; subst e5
  exact t9_trail C R h
set_option maxRecDepth 100000 in
theorem t9_rest {M : xM} {G : xG} {N : Nat} {p1 : Int32} {p2 : Int32} (C : xC (M, G, mdom, 3) RX9 cX9_rest (some .int)) (R : xR (M, G, mdom, 3) = xrm 2 53) {s : mS} {r : Int32} {s1 : mS} (h : f9_rest N p1 p2 s = some (r, s1)) : X (M, G, mdom, 3) (some (.int r)) (encM G s1) (encM G s) 0 [(0, .ref (G.2.1 0 0)), (1, .int (p1)), (2, .int (p2))] [] := by
  unfold f9_rest at h
  refine x_aload_n (j := 0) C dX9_rest_0 rfl rfl ?_
  refine x_iconst (v := 0) C dX9_rest_1 (by decide) ?_
  refine pf9_47 C dX9_rest_2 ?_
  refine x_aload_n (j := 0) C dX9_rest_5 rfl rfl ?_
  refine x_iload_n (j := 1) C dX9_rest_6 rfl rfl ?_
  obtain ⟨⟨r7, s7⟩, e7, h⟩ := Option.bind_eq_some_iff.mp h
  try dsimp only at h
  refine k9_68 C dX9_rest_7 e7 (x_room R rfl) (Nat.le_of_ble_eq_true rfl) ?_
  refine x_if_eq (tgt := 21) C dX9_rest_10 (by decide) (fun c10 => ?_) (fun c10 => ?_)
  · rw [if_pos c10] at h
    refine x_ldc (v := (-2147483648)) C dX9_rest_21 lk885 ?_
    cases h
    exact x_iret C dX9_rest_23
  · rw [if_neg c10] at h
    refine x_aload_n (j := 0) C dX9_rest_13 rfl rfl ?_
    refine x_iload_n (j := 2) C dX9_rest_14 rfl rfl ?_
    obtain ⟨⟨r15, s15⟩, e15, h⟩ := Option.bind_eq_some_iff.mp h
    try dsimp only at h
    refine k9_107 C dX9_rest_15 e15 (x_room R rfl) (Nat.le_of_ble_eq_true rfl) ?_
    refine x_if_ne (tgt := 24) C dX9_rest_18 (by decide) (fun c18 => ?_) (fun c18 => ?_)
    · rw [if_neg c18] at h
      refine x_aload_n (j := 0) C dX9_rest_24 rfl rfl ?_
      refine x_iload_n (j := 1) C dX9_rest_25 rfl rfl ?_
      refine x_iload_n (j := 2) C dX9_rest_26 rfl rfl ?_
      obtain ⟨s27, e27, h⟩ := Option.bind_eq_some_iff.mp h
      try dsimp only at h
      refine k9_103 C dX9_rest_27 e27 (x_room R rfl) (Nat.le_of_ble_eq_true rfl) ?_
      refine x_aload_n (j := 0) C dX9_rest_30 rfl rfl ?_
      refine gf9_97 C dX9_rest_31 ?_
      cases h
      exact x_iret C dX9_rest_34
    · rw [if_pos c18] at h
      refine x_ldc (v := (-2147483648)) C dX9_rest_21 lk885 ?_
      cases h
      exact x_iret C dX9_rest_23
theorem c9_rest (l : Launch) (G : xG) {N : Nat} {p1 : Int32} {p2 : Int32} {s : mS} {r : Int32} {s1 : mS} (h : f9_rest N p1 p2 s = some (r, s1)) : xMet l yX9_rest (x_ws yX9_rest cX9_rest 3 (some .int)) (xrm 2 53) G mdom [.ref (G.2.1 0 0), .int (p1), .int (p2)] (encM G s) (some (.int r)) (encM G s1) := by
  refine xMet.of (by decide +kernel) (Nat.le_of_ble_eq_true rfl) ?_
  rintro ⟨M, G', dom', n'⟩ e1 R e3 e4 e5 C
  change G' = G at e3; change dom' = mdom at e4; change n' = 3 at e5
  subst e3; subst e4; subst e5
  exact t9_rest C R h
set_option maxRecDepth 100000 in
theorem t9_readAll_l2b {M : xM} {G : xG} {N : Nat} {p1 : Int32} (C : xC (M, G, mdom, 3) RX9 cX9_readAll none) (R : xR (M, G, mdom, 3) = xrm 3 75) {k2 : Int32 → mS → Option (mS)} (hk2 : ∀ (a2 : Int32) (s : mS) (s1 : mS), k2 a2 s = some s1 → X (M, G, mdom, 3) none (encM G s1) (encM G s) 2 [(0, .ref (G.2.1 0 0)), (1, .int (p1)), (2, .int (a2))] []) {a2 : Int32} {s : mS} {s1 : mS} (h : f9_readAll_l2b N p1 k2 a2 s = some s1) : X (M, G, mdom, 3) none (encM G s1) (encM G s) 2 [(0, .ref (G.2.1 0 0)), (1, .int (p1)), (2, .int (a2))] [] := by
  unfold f9_readAll_l2b at h
  refine x_iload_n (j := 2) C dX9_readAll_2 rfl rfl ?_
  refine x_aload_n (j := 0) C dX9_readAll_3 rfl rfl ?_
  refine gf9_7 C dX9_readAll_4 ?_
  refine x_iconst (v := 0) C dX9_readAll_7 (by decide) ?_
  refine mld1 C dX9_readAll_8 (by decide) ?_
  refine x_icmp_gt (tgt := 30) C dX9_readAll_9 (by decide) (fun c9 => ?_) (fun c9 => ?_)
  · rw [if_pos c9] at h
    cases h
    exact x_vret C dX9_readAll_30
  · rw [if_neg c9] at h
    refine x_aload_n (j := 0) C dX9_readAll_12 rfl rfl ?_
    refine gf9_31 C dX9_readAll_13 ?_
    refine x_iload_n (j := 2) C dX9_readAll_16 rfl rfl ?_
    refine x_aload_n (j := 0) C dX9_readAll_17 rfl rfl ?_
    refine x_iload_n (j := 1) C dX9_readAll_18 rfl rfl ?_
    refine x_iload_n (j := 2) C dX9_readAll_19 rfl rfl ?_
    obtain ⟨⟨r20, s20⟩, e20, h⟩ := Option.bind_eq_some_iff.mp h
    try dsimp only at h
    refine k9_110 C dX9_readAll_20 e20 (x_room R rfl) (Nat.le_of_ble_eq_true rfl) ?_
    by_cases g23_1 : inB a2 4096 = true
    case neg => rw [if_neg g23_1] at h; cases h
    rw [if_pos g23_1] at h
    refine mst8 C dX9_readAll_23 g23_1 ?_
    refine x_iinc (j := 2) (v := (a2 + 1)) (ls' := [(2, .int ((a2 + 1))), (0, .ref (G.2.1 0 0)), (1, .int (p1))]) C dX9_readAll_24 rfl rfl (Nat.le_of_ble_eq_true rfl) rfl ?_
    refine x_goto (tgt := 2) C dX9_readAll_27 (by decide) ?_
    refine x_sub (ls' := [(0, .ref (G.2.1 0 0)), (1, .int (p1)), (2, .int ((a2 + 1)))]) [1, 2, 0] rfl ?_
    exact hk2 _ _ _ h
theorem t9_readAll_l2 {M : xM} {G : xG} {N : Nat} {p1 : Int32} (C : xC (M, G, mdom, 3) RX9 cX9_readAll none) (R : xR (M, G, mdom, 3) = xrm 3 75) (n : Nat) : ∀ (a2 : Int32) (s : mS) (s1 : mS), f9_readAll_l2 N p1 n a2 s = some s1 → X (M, G, mdom, 3) none (encM G s1) (encM G s) 2 [(0, .ref (G.2.1 0 0)), (1, .int (p1)), (2, .int (a2))] [] := by
  induction n with
  | zero => intro a2 s s1 h; exact (Option.some_ne_none _ (Eq.symm h)).elim
  | succ n ih => intro a2 s s1 h; exact t9_readAll_l2b (N := N) (p1 := p1) C R (k2 := f9_readAll_l2 N p1 n) ih h
set_option maxRecDepth 100000 in
theorem t9_readAll {M : xM} {G : xG} {N : Nat} {p1 : Int32} (C : xC (M, G, mdom, 3) RX9 cX9_readAll none) (R : xR (M, G, mdom, 3) = xrm 3 75) {s : mS} {s1 : mS} (h : f9_readAll N p1 s = some s1) : X (M, G, mdom, 3) none (encM G s1) (encM G s) 0 [(0, .ref (G.2.1 0 0)), (1, .int (p1))] [] := by
  unfold f9_readAll at h
  refine x_iconst (v := 0) C dX9_readAll_0 (by decide) ?_
  refine x_istore_n (i := 2) (ls' := [(2, .int (0)), (0, .ref (G.2.1 0 0)), (1, .int (p1))]) C dX9_readAll_1 rfl (Nat.le_of_ble_eq_true rfl) rfl ?_
  refine x_sub (ls' := [(0, .ref (G.2.1 0 0)), (1, .int (p1)), (2, .int (0))]) [1, 2, 0] rfl ?_
  exact t9_readAll_l2 (N := N) (p1 := p1) C R N _ _ _ h
theorem c9_readAll (l : Launch) (G : xG) {N : Nat} {p1 : Int32} {s : mS} {s1 : mS} (h : f9_readAll N p1 s = some s1) : xMet l yX9_readAll (x_ws yX9_readAll cX9_readAll 3 none) (xrm 3 75) G mdom [.ref (G.2.1 0 0), .int (p1)] (encM G s) none (encM G s1) := by
  refine xMet.of (by decide +kernel) (Nat.le_of_ble_eq_true rfl) ?_
  rintro ⟨M, G', dom', n'⟩ e1 R e3 e4 e5 C
  change G' = G at e3; change dom' = mdom at e4; change n' = 3 at e5
  subst e3; subst e4; subst e5
  exact t9_readAll C R h
theorem k9_114 {M : xM} {G : xG} {n : Nat} {rv : Option Value} {E' : xE} {cc : ByteArray} {ret : Option FieldType} {pc : Nat} {ls : List (Nat × Value)} {st : List Value} {N : Nat} {p1 : Int32} {s s1 : mS} (C : xC (M, G, mdom, n) RX9 cc ret) (d : decode cc pc = .ok (.invokevirtual 114, 3)) (h : f9_readAll N p1 s = some s1) (hR : (xrm 3 75).frames + 1 ≤ (xR (M, G, mdom, n)).frames ∧ 8 + (3 + 11) + (xrm 3 75).locals ≤ (xR (M, G, mdom, n)).locals) (hw : (st.map fun v => v.category).sum ≤ 8) (k : X (M, G, mdom, n) rv E' (encM G s1) (pc + 3) ls (st)) : X (M, G, mdom, n) rv E' (encM G s) pc ls (.int (p1) :: .ref (G.2.1 0 0) :: st) :=
  x_callV (As := [.int (p1)]) (n := 1) C d (c9_readAll (xl (M, G, mdom, n)) G h) lk898 lk900 lk68 lk87 lk901 ⟨rfl, rfl⟩ ⟨by decide +kernel, by decide +kernel, by decide +kernel⟩ rfl hR rfl rfl rfl rfl hw k
set_option maxRecDepth 100000 in
theorem t9_spans_l33b {M : xM} {G : xG} {N : Nat} {p1 : Int32} (C : xC (M, G, mdom, 4) RX9 cX9_spans (some .int)) (R : xR (M, G, mdom, 4) = xrm 4 97) {k33 : Int32 → Int32 → mS → Option (Int32 × mS)} (hk33 : ∀ (a2 : Int32) (a3 : Int32) (s : mS) (r : Int32) (s1 : mS), k33 a2 a3 s = some (r, s1) → X (M, G, mdom, 4) (some (.int r)) (encM G s1) (encM G s) 33 [(0, .ref (G.2.1 0 0)), (2, .int (a2)), (3, .int (a3))] []) {a2 : Int32} {a3 : Int32} {s : mS} {r : Int32} {s1 : mS} (h : f9_spans_l33b N p1 k33 a2 a3 s = some (r, s1)) : X (M, G, mdom, 4) (some (.int r)) (encM G s1) (encM G s) 33 [(0, .ref (G.2.1 0 0)), (2, .int (a2)), (3, .int (a3))] [] := by
  unfold f9_spans_l33b at h
  refine x_iload_n (j := 2) C dX9_spans_33 rfl rfl ?_
  refine x_aload_n (j := 0) C dX9_spans_34 rfl rfl ?_
  refine gf9_7 C dX9_spans_35 ?_
  refine x_iconst (v := 0) C dX9_spans_38 (by decide) ?_
  refine mld1 C dX9_spans_39 (by decide) ?_
  refine x_icmp_gt (tgt := 74) C dX9_spans_40 (by decide) (fun c40 => ?_) (fun c40 => ?_)
  · rw [if_pos c40] at h
    refine x_iload_n (j := 1) C dX9_spans_74 rfl rfl ?_
    cases h
    exact x_iret C dX9_spans_75
  · rw [if_neg c40] at h
    refine x_iload_n (j := 1) C dX9_spans_43 rfl rfl ?_
    refine x_aload_n (j := 0) C dX9_spans_44 rfl rfl ?_
    refine gf9_31 C dX9_spans_45 ?_
    refine x_iload_n (j := 2) C dX9_spans_48 rfl rfl ?_
    by_cases g49_1 : inB a3 4096 = true
    case neg => rw [if_neg g49_1] at h; cases h
    rw [if_pos g49_1] at h
    refine mld8 C dX9_spans_49 g49_1 ?_
    refine x_aload_n (j := 0) C dX9_spans_50 rfl rfl ?_
    refine gf9_31 C dX9_spans_51 ?_
    refine x_iload_n (j := 2) C dX9_spans_54 rfl rfl ?_
    refine x_iconst (v := 1) C dX9_spans_55 (by decide) ?_
    refine x_isub C dX9_spans_56 ?_
    by_cases g57_2 : inB (a3 - 1) 4096 = true
    case neg => rw [if_neg g57_2] at h; cases h
    rw [if_pos g57_2] at h
    refine mld8 C dX9_spans_57 g57_2 ?_
    refine x_icmp_eq (tgt := 65) C dX9_spans_58 (by decide) (fun c58 => ?_) (fun c58 => ?_)
    · rw [if_pos c58] at h
      refine x_iconst (v := 0) C dX9_spans_65 (by decide) ?_
      refine x_iadd C dX9_spans_66 ?_
      refine x_istore_n (i := 2) (ls' := [(2, .int ((a2 + 0))), (0, .ref (G.2.1 0 0)), (3, .int (a3))]) C dX9_spans_67 rfl (Nat.le_of_ble_eq_true rfl) rfl ?_
      refine x_iinc (j := 2) (v := (a3 + 1)) (ls' := [(3, .int ((a3 + 1))), (2, .int ((a2 + 0))), (0, .ref (G.2.1 0 0))]) C dX9_spans_68 rfl rfl (Nat.le_of_ble_eq_true rfl) rfl ?_
      refine x_goto (tgt := 33) C dX9_spans_71 (by decide) ?_
      refine x_sub (ls' := [(0, .ref (G.2.1 0 0)), (2, .int ((a2 + 0))), (3, .int ((a3 + 1)))]) [2, 1, 0] rfl ?_
      exact hk33 _ _ _ _ _ h
    · rw [if_neg c58] at h
      refine x_iconst (v := 1) C dX9_spans_61 (by decide) ?_
      refine x_goto (tgt := 66) C dX9_spans_62 (by decide) ?_
      refine x_iadd C dX9_spans_66 ?_
      refine x_istore_n (i := 2) (ls' := [(2, .int ((a2 + 1))), (0, .ref (G.2.1 0 0)), (3, .int (a3))]) C dX9_spans_67 rfl (Nat.le_of_ble_eq_true rfl) rfl ?_
      refine x_iinc (j := 2) (v := (a3 + 1)) (ls' := [(3, .int ((a3 + 1))), (2, .int ((a2 + 1))), (0, .ref (G.2.1 0 0))]) C dX9_spans_68 rfl rfl (Nat.le_of_ble_eq_true rfl) rfl ?_
      refine x_goto (tgt := 33) C dX9_spans_71 (by decide) ?_
      refine x_sub (ls' := [(0, .ref (G.2.1 0 0)), (2, .int ((a2 + 1))), (3, .int ((a3 + 1)))]) [2, 1, 0] rfl ?_
      exact hk33 _ _ _ _ _ h
theorem t9_spans_l33 {M : xM} {G : xG} {N : Nat} {p1 : Int32} (C : xC (M, G, mdom, 4) RX9 cX9_spans (some .int)) (R : xR (M, G, mdom, 4) = xrm 4 97) (n : Nat) : ∀ (a2 : Int32) (a3 : Int32) (s : mS) (r : Int32) (s1 : mS), f9_spans_l33 N p1 n a2 a3 s = some (r, s1) → X (M, G, mdom, 4) (some (.int r)) (encM G s1) (encM G s) 33 [(0, .ref (G.2.1 0 0)), (2, .int (a2)), (3, .int (a3))] [] := by
  induction n with
  | zero => intro a2 a3 s r s1 h; exact (Option.some_ne_none _ (Eq.symm h)).elim
  | succ n ih => intro a2 a3 s r s1 h; exact t9_spans_l33b (N := N) (p1 := p1) C R (k33 := f9_spans_l33 N p1 n) ih h
set_option maxRecDepth 100000 in
theorem t9_spans {M : xM} {G : xG} {N : Nat} {p1 : Int32} (C : xC (M, G, mdom, 4) RX9 cX9_spans (some .int)) (R : xR (M, G, mdom, 4) = xrm 4 97) {s : mS} {r : Int32} {s1 : mS} (h : f9_spans N p1 s = some (r, s1)) : X (M, G, mdom, 4) (some (.int r)) (encM G s1) (encM G s) 0 [(0, .ref (G.2.1 0 0)), (1, .int (p1))] [] := by
  unfold f9_spans at h
  refine x_aload_n (j := 0) C dX9_spans_0 rfl rfl ?_
  refine x_iconst (v := 0) C dX9_spans_1 (by decide) ?_
  refine pf9_47 C dX9_spans_2 ?_
  refine x_aload_n (j := 0) C dX9_spans_5 rfl rfl ?_
  refine x_iload_n (j := 1) C dX9_spans_6 rfl rfl ?_
  obtain ⟨⟨r7, s7⟩, e7, h⟩ := Option.bind_eq_some_iff.mp h
  try dsimp only at h
  refine k9_68 C dX9_spans_7 e7 (x_room R rfl) (Nat.le_of_ble_eq_true rfl) ?_
  refine x_if_ne (tgt := 19) C dX9_spans_10 (by decide) (fun c10 => ?_) (fun c10 => ?_)
  · rw [if_neg c10] at h
    refine x_aload_n (j := 0) C dX9_spans_19 rfl rfl ?_
    refine x_iconst (v := 0) C dX9_spans_20 (by decide) ?_
    refine pf9_51 C dX9_spans_21 ?_
    refine x_aload_n (j := 0) C dX9_spans_24 rfl rfl ?_
    refine x_iload_n (j := 1) C dX9_spans_25 rfl rfl ?_
    obtain ⟨s26, e26, h⟩ := Option.bind_eq_some_iff.mp h
    try dsimp only at h
    refine k9_114 C dX9_spans_26 e26 (x_room R rfl) (Nat.le_of_ble_eq_true rfl) ?_
    refine x_iconst (v := 1) C dX9_spans_29 (by decide) ?_
    refine x_istore_n (i := 2) (ls' := [(2, .int (1)), (0, .ref (G.2.1 0 0)), (1, .int (p1))]) C dX9_spans_30 rfl (Nat.le_of_ble_eq_true rfl) rfl ?_
    refine x_iconst (v := 1) C dX9_spans_31 (by decide) ?_
    refine x_istore_n (i := 3) (ls' := [(3, .int (1)), (2, .int (1)), (0, .ref (G.2.1 0 0)), (1, .int (p1))]) C dX9_spans_32 rfl (Nat.le_of_ble_eq_true rfl) rfl ?_
    refine x_sub (ls' := [(0, .ref (G.2.1 0 0)), (2, .int (1)), (3, .int (1))]) [2, 1, 0] rfl ?_
    exact t9_spans_l33 (N := N) (p1 := p1) C R N _ _ _ _ _ h
  · rw [if_pos c10] at h
    refine x_aload_n (j := 0) C dX9_spans_13 rfl rfl ?_
    refine x_iconst (v := 2) C dX9_spans_14 (by decide) ?_
    obtain ⟨⟨r15, s15⟩, e15, h⟩ := Option.bind_eq_some_iff.mp h
    try dsimp only at h
    refine k9_78 C dX9_spans_15 e15 (x_room R rfl) (Nat.le_of_ble_eq_true rfl) ?_
    cases h
    exact x_iret C dX9_spans_18
theorem c9_spans (l : Launch) (G : xG) {N : Nat} {p1 : Int32} {s : mS} {r : Int32} {s1 : mS} (h : f9_spans N p1 s = some (r, s1)) : xMet l yX9_spans (x_ws yX9_spans cX9_spans 4 (some .int)) (xrm 4 97) G mdom [.ref (G.2.1 0 0), .int (p1)] (encM G s) (some (.int r)) (encM G s1) := by
  refine xMet.of (by decide +kernel) (Nat.le_of_ble_eq_true rfl) ?_
  rintro ⟨M, G', dom', n'⟩ e1 R e3 e4 e5 C
  change G' = G at e3; change dom' = mdom at e4; change n' = 4 at e5
  subst e3; subst e4; subst e5
  exact t9_spans C R h
set_option maxRecDepth 100000 in
theorem t9_span_b90 {M : xM} {G : xG} {N : Nat} {p1 : Int32} {p2 : Int32} {p3 : Int32} (C : xC (M, G, mdom, 7) RX9 cX9_span (some .int)) (R : xR (M, G, mdom, 7) = xrm 4 97) {k44 : Int32 → Int32 → Int32 → mS → Option (Int32 × mS)} (hk44 : ∀ (a4 : Int32) (a5 : Int32) (a6 : Int32) (s : mS) (r : Int32) (s1 : mS), k44 a4 a5 a6 s = some (r, s1) → X (M, G, mdom, 7) (some (.int r)) (encM G s1) (encM G s) 44 [(0, .ref (G.2.1 0 0)), (3, .int (p3)), (4, .int (a4)), (5, .int (a5)), (6, .int (a6))] []) {a4 : Int32} {a5 : Int32} {a6 : Int32} {s : mS} {r : Int32} {s1 : mS} (h : f9_span_b90 N p1 p2 p3 k44 a4 a5 a6 s = some (r, s1)) : X (M, G, mdom, 7) (some (.int r)) (encM G s1) (encM G s) 90 [(0, .ref (G.2.1 0 0)), (3, .int (p3)), (4, .int (a4)), (5, .int (a5)), (6, .int (a6))] [] := by
  unfold f9_span_b90 at h
  refine x_iload (j := 2) C dX9_span_90 rfl ?_
  refine x_if_ne (tgt := 124) C dX9_span_92 (by decide) (fun c92 => ?_) (fun c92 => ?_)
  · rw [if_neg c92] at h
    refine x_iinc (j := 2) (v := (a4 + (-1))) (ls' := [(4, .int ((a4 + (-1)))), (0, .ref (G.2.1 0 0)), (3, .int (p3)), (5, .int (a5)), (6, .int (a6))]) C dX9_span_124 rfl rfl (Nat.le_of_ble_eq_true rfl) rfl ?_
    refine x_iload (j := 4) C dX9_span_127 rfl ?_
    refine x_istore (i := 5) (ls' := [(5, .int (a6)), (4, .int ((a4 + (-1)))), (0, .ref (G.2.1 0 0)), (3, .int (p3)), (6, .int (a6))]) C dX9_span_129 (Nat.le_of_ble_eq_true rfl) rfl ?_
    refine x_iinc (j := 4) (v := (a6 + 1)) (ls' := [(6, .int ((a6 + 1))), (5, .int (a6)), (4, .int ((a4 + (-1)))), (0, .ref (G.2.1 0 0)), (3, .int (p3))]) C dX9_span_131 rfl rfl (Nat.le_of_ble_eq_true rfl) rfl ?_
    refine x_goto (tgt := 44) C dX9_span_134 (by decide) ?_
    refine x_sub (ls' := [(0, .ref (G.2.1 0 0)), (3, .int (p3)), (4, .int ((a4 + (-1)))), (5, .int (a6)), (6, .int ((a6 + 1)))]) [3, 4, 2, 1, 0] rfl ?_
    exact hk44 _ _ _ _ _ _ h
  · rw [if_pos c92] at h
    refine x_iload_n (j := 1) C dX9_span_95 rfl rfl ?_
    refine x_if_ne (tgt := 104) C dX9_span_96 (by decide) (fun c96 => ?_) (fun c96 => ?_)
    · rw [if_neg c96] at h
      refine x_iload_n (j := 1) C dX9_span_104 rfl rfl ?_
      refine x_iconst (v := 1) C dX9_span_105 (by decide) ?_
      refine x_icmp_ne (tgt := 116) C dX9_span_106 (by decide) (fun c106 => ?_) (fun c106 => ?_)
      · rw [if_neg c106] at h
        refine x_aload_n (j := 0) C dX9_span_116 rfl rfl ?_
        refine gf9_31 C dX9_span_117 ?_
        refine x_iload (j := 3) C dX9_span_120 rfl ?_
        by_cases g122_1 : inB a5 4096 = true
        case neg => rw [if_neg g122_1] at h; cases h
        rw [if_pos g122_1] at h
        refine mld8 C dX9_span_122 g122_1 ?_
        cases h
        exact x_iret C dX9_span_123
      · rw [if_pos c106] at h
        refine x_iload (j := 4) C dX9_span_109 rfl ?_
        refine x_iconst (v := 1) C dX9_span_111 (by decide) ?_
        refine x_isub C dX9_span_112 ?_
        refine x_goto (tgt := 123) C dX9_span_113 (by decide) ?_
        cases h
        exact x_iret C dX9_span_123
    · rw [if_pos c96] at h
      refine x_iload (j := 3) C dX9_span_99 rfl ?_
      refine x_goto (tgt := 123) C dX9_span_101 (by decide) ?_
      cases h
      exact x_iret C dX9_span_123
set_option maxRecDepth 100000 in
theorem t9_span_l44b {M : xM} {G : xG} {N : Nat} {p1 : Int32} {p2 : Int32} {p3 : Int32} (C : xC (M, G, mdom, 7) RX9 cX9_span (some .int)) (R : xR (M, G, mdom, 7) = xrm 4 97) {k44 : Int32 → Int32 → Int32 → mS → Option (Int32 × mS)} (hk44 : ∀ (a4 : Int32) (a5 : Int32) (a6 : Int32) (s : mS) (r : Int32) (s1 : mS), k44 a4 a5 a6 s = some (r, s1) → X (M, G, mdom, 7) (some (.int r)) (encM G s1) (encM G s) 44 [(0, .ref (G.2.1 0 0)), (3, .int (p3)), (4, .int (a4)), (5, .int (a5)), (6, .int (a6))] []) {a4 : Int32} {a5 : Int32} {a6 : Int32} {s : mS} {r : Int32} {s1 : mS} (h : f9_span_l44b N p1 p2 p3 k44 a4 a5 a6 s = some (r, s1)) : X (M, G, mdom, 7) (some (.int r)) (encM G s1) (encM G s) 44 [(0, .ref (G.2.1 0 0)), (3, .int (p3)), (4, .int (a4)), (5, .int (a5)), (6, .int (a6))] [] := by
  unfold f9_span_l44b at h
  refine x_iload (j := 4) C dX9_span_44 rfl ?_
  refine x_aload_n (j := 0) C dX9_span_46 rfl rfl ?_
  refine gf9_7 C dX9_span_47 ?_
  refine x_iconst (v := 0) C dX9_span_50 (by decide) ?_
  refine mld1 C dX9_span_51 (by decide) ?_
  refine x_iconst (v := 1) C dX9_span_52 (by decide) ?_
  refine x_iadd C dX9_span_53 ?_
  refine x_icmp_gt (tgt := 137) C dX9_span_54 (by decide) (fun c54 => ?_) (fun c54 => ?_)
  · rw [if_pos c54] at h
    refine x_ldc (v := (-2147483648)) C dX9_span_137 lk885 ?_
    cases h
    exact x_iret C dX9_span_139
  · rw [if_neg c54] at h
    refine x_iload (j := 4) C dX9_span_57 rfl ?_
    refine x_aload_n (j := 0) C dX9_span_59 rfl rfl ?_
    refine gf9_7 C dX9_span_60 ?_
    refine x_iconst (v := 0) C dX9_span_63 (by decide) ?_
    refine mld1 C dX9_span_64 (by decide) ?_
    refine x_icmp_gt (tgt := 90) C dX9_span_65 (by decide) (fun c65 => ?_) (fun c65 => ?_)
    · rw [if_pos c65] at h
      exact t9_span_b90 (N := N) (p1 := p1) (p2 := p2) (p3 := p3) C R hk44 h
    · rw [if_neg c65] at h
      refine x_aload_n (j := 0) C dX9_span_68 rfl rfl ?_
      refine gf9_31 C dX9_span_69 ?_
      refine x_iload (j := 4) C dX9_span_72 rfl ?_
      by_cases g74_1 : inB a6 4096 = true
      case neg => rw [if_neg g74_1] at h; cases h
      rw [if_pos g74_1] at h
      refine mld8 C dX9_span_74 g74_1 ?_
      refine x_aload_n (j := 0) C dX9_span_75 rfl rfl ?_
      refine gf9_31 C dX9_span_76 ?_
      refine x_iload (j := 4) C dX9_span_79 rfl ?_
      refine x_iconst (v := 1) C dX9_span_81 (by decide) ?_
      refine x_isub C dX9_span_82 ?_
      by_cases g83_2 : inB (a6 - 1) 4096 = true
      case neg => rw [if_neg g83_2] at h; cases h
      rw [if_pos g83_2] at h
      refine mld8 C dX9_span_83 g83_2 ?_
      refine x_icmp_ne (tgt := 90) C dX9_span_84 (by decide) (fun c84 => ?_) (fun c84 => ?_)
      · rw [if_neg c84] at h
        exact t9_span_b90 (N := N) (p1 := p1) (p2 := p2) (p3 := p3) C R hk44 h
      · rw [if_pos c84] at h
        refine x_goto (tgt := 131) C dX9_span_87 (by decide) ?_
        refine x_iinc (j := 4) (v := (a6 + 1)) (ls' := [(6, .int ((a6 + 1))), (0, .ref (G.2.1 0 0)), (3, .int (p3)), (4, .int (a4)), (5, .int (a5))]) C dX9_span_131 rfl rfl (Nat.le_of_ble_eq_true rfl) rfl ?_
        refine x_goto (tgt := 44) C dX9_span_134 (by decide) ?_
        refine x_sub (ls' := [(0, .ref (G.2.1 0 0)), (3, .int (p3)), (4, .int (a4)), (5, .int (a5)), (6, .int ((a6 + 1)))]) [1, 2, 3, 4, 0] rfl ?_
        exact hk44 _ _ _ _ _ _ h
theorem t9_span_l44 {M : xM} {G : xG} {N : Nat} {p1 : Int32} {p2 : Int32} {p3 : Int32} (C : xC (M, G, mdom, 7) RX9 cX9_span (some .int)) (R : xR (M, G, mdom, 7) = xrm 4 97) (n : Nat) : ∀ (a4 : Int32) (a5 : Int32) (a6 : Int32) (s : mS) (r : Int32) (s1 : mS), f9_span_l44 N p1 p2 p3 n a4 a5 a6 s = some (r, s1) → X (M, G, mdom, 7) (some (.int r)) (encM G s1) (encM G s) 44 [(0, .ref (G.2.1 0 0)), (3, .int (p3)), (4, .int (a4)), (5, .int (a5)), (6, .int (a6))] [] := by
  induction n with
  | zero => intro a4 a5 a6 s r s1 h; exact (Option.some_ne_none _ (Eq.symm h)).elim
  | succ n ih => intro a4 a5 a6 s r s1 h; exact t9_span_l44b (N := N) (p1 := p1) (p2 := p2) (p3 := p3) C R (k44 := f9_span_l44 N p1 p2 p3 n) ih h
set_option maxRecDepth 100000 in
theorem t9_span {M : xM} {G : xG} {N : Nat} {p1 : Int32} {p2 : Int32} {p3 : Int32} (C : xC (M, G, mdom, 7) RX9 cX9_span (some .int)) (R : xR (M, G, mdom, 7) = xrm 4 97) {s : mS} {r : Int32} {s1 : mS} (h : f9_span N p1 p2 p3 s = some (r, s1)) : X (M, G, mdom, 7) (some (.int r)) (encM G s1) (encM G s) 0 [(0, .ref (G.2.1 0 0)), (1, .int (p1)), (2, .int (p2)), (3, .int (p3))] [] := by
  unfold f9_span at h
  refine x_aload_n (j := 0) C dX9_span_0 rfl rfl ?_
  refine x_iconst (v := 0) C dX9_span_1 (by decide) ?_
  refine pf9_47 C dX9_span_2 ?_
  refine x_aload_n (j := 0) C dX9_span_5 rfl rfl ?_
  refine x_iload_n (j := 1) C dX9_span_6 rfl rfl ?_
  obtain ⟨⟨r7, s7⟩, e7, h⟩ := Option.bind_eq_some_iff.mp h
  try dsimp only at h
  refine k9_68 C dX9_span_7 e7 (x_room R rfl) (Nat.le_of_ble_eq_true rfl) ?_
  refine x_if_eq (tgt := 27) C dX9_span_10 (by decide) (fun c10 => ?_) (fun c10 => ?_)
  · rw [if_pos c10] at h
    refine x_ldc (v := (-2147483648)) C dX9_span_27 lk885 ?_
    cases h
    exact x_iret C dX9_span_29
  · rw [if_neg c10] at h
    refine x_aload_n (j := 0) C dX9_span_13 rfl rfl ?_
    refine x_iload_n (j := 3) C dX9_span_14 rfl rfl ?_
    refine x_iconst (v := 0) C dX9_span_15 (by decide) ?_
    refine x_iconst (v := 2) C dX9_span_16 (by decide) ?_
    obtain ⟨⟨r17, s17⟩, e17, h⟩ := Option.bind_eq_some_iff.mp h
    try dsimp only at h
    refine k9_64 C dX9_span_17 e17 (x_room R rfl) (Nat.le_of_ble_eq_true rfl) ?_
    refine x_if_eq (tgt := 27) C dX9_span_20 (by decide) (fun c20 => ?_) (fun c20 => ?_)
    · rw [if_pos c20] at h
      refine x_ldc (v := (-2147483648)) C dX9_span_27 lk885 ?_
      cases h
      exact x_iret C dX9_span_29
    · rw [if_neg c20] at h
      refine x_iload_n (j := 2) C dX9_span_23 rfl rfl ?_
      refine x_if_ge (tgt := 30) C dX9_span_24 (by decide) (fun c24 => ?_) (fun c24 => ?_)
      · rw [if_pos c24] at h
        refine x_aload_n (j := 0) C dX9_span_30 rfl rfl ?_
        refine x_iload_n (j := 1) C dX9_span_31 rfl rfl ?_
        obtain ⟨s32, e32, h⟩ := Option.bind_eq_some_iff.mp h
        try dsimp only at h
        refine k9_114 C dX9_span_32 e32 (x_room R rfl) (Nat.le_of_ble_eq_true rfl) ?_
        refine x_iload_n (j := 2) C dX9_span_35 rfl rfl ?_
        refine x_istore (i := 4) (ls' := [(4, .int (p2)), (0, .ref (G.2.1 0 0)), (1, .int (p1)), (2, .int (p2)), (3, .int (p3))]) C dX9_span_36 (Nat.le_of_ble_eq_true rfl) rfl ?_
        refine x_iconst (v := 0) C dX9_span_38 (by decide) ?_
        refine x_istore (i := 5) (ls' := [(5, .int (0)), (4, .int (p2)), (0, .ref (G.2.1 0 0)), (1, .int (p1)), (2, .int (p2)), (3, .int (p3))]) C dX9_span_39 (Nat.le_of_ble_eq_true rfl) rfl ?_
        refine x_iconst (v := 1) C dX9_span_41 (by decide) ?_
        refine x_istore (i := 6) (ls' := [(6, .int (1)), (5, .int (0)), (4, .int (p2)), (0, .ref (G.2.1 0 0)), (1, .int (p1)), (2, .int (p2)), (3, .int (p3))]) C dX9_span_42 (Nat.le_of_ble_eq_true rfl) rfl ?_
        refine x_sub (ls' := [(0, .ref (G.2.1 0 0)), (3, .int (p3)), (4, .int (p2)), (5, .int (0)), (6, .int (1))]) [3, 6, 2, 1, 0] rfl ?_
        exact t9_span_l44 (N := N) (p1 := p1) (p2 := p2) (p3 := p3) C R N _ _ _ _ _ _ h
      · rw [if_neg c24] at h
        refine x_ldc (v := (-2147483648)) C dX9_span_27 lk885 ?_
        cases h
        exact x_iret C dX9_span_29
theorem c9_span (l : Launch) (G : xG) {N : Nat} {p1 : Int32} {p2 : Int32} {p3 : Int32} {s : mS} {r : Int32} {s1 : mS} (h : f9_span N p1 p2 p3 s = some (r, s1)) : xMet l yX9_span (x_ws yX9_span cX9_span 7 (some .int)) (xrm 4 97) G mdom [.ref (G.2.1 0 0), .int (p1), .int (p2), .int (p3)] (encM G s) (some (.int r)) (encM G s1) := by
  refine xMet.of (by decide +kernel) (Nat.le_of_ble_eq_true rfl) ?_
  rintro ⟨M, G', dom', n'⟩ e1 R e3 e4 e5 C
  change G' = G at e3; change dom' = mdom at e4; change n' = 7 at e5
  subst e3; subst e4; subst e5
  exact t9_span C R h
set_option maxRecDepth 100000 in
theorem t9_sortAll_l198b {M : xM} {G : xG} {N : Nat}  (C : xC (M, G, mdom, 10) RX9 cX9_sortAll none) (R : xR (M, G, mdom, 10) = xrm 0 0) {k36 : Int32 → Int32 → mS → Option (mS)} (hk36 : ∀ (a1 : Int32) (a2 : Int32) (s : mS) (s1 : mS), k36 a1 a2 s = some s1 → X (M, G, mdom, 10) none (encM G s1) (encM G s) 36 [(0, .ref (G.2.1 0 0)), (1, .int (a1)), (2, .int (a2))] []) {k198 : Int32 → Int32 → Int32 → mS → Option (mS)} (hk198 : ∀ (a1 : Int32) (a2 : Int32) (a3 : Int32) (s : mS) (s1 : mS), k198 a1 a2 a3 s = some s1 → X (M, G, mdom, 10) none (encM G s1) (encM G s) 198 [(0, .ref (G.2.1 0 0)), (1, .int (a1)), (2, .int (a2)), (3, .int (a3))] []) {a1 : Int32} {a2 : Int32} {a3 : Int32} {s : mS} {s1 : mS} (h : f9_sortAll_l198b N k36 k198 a1 a2 a3 s = some s1) : X (M, G, mdom, 10) none (encM G s1) (encM G s) 198 [(0, .ref (G.2.1 0 0)), (1, .int (a1)), (2, .int (a2)), (3, .int (a3))] [] := by
  unfold f9_sortAll_l198b at h
  refine x_iload_n (j := 3) C dX9_sortAll_198 rfl rfl ?_
  refine x_iload_n (j := 1) C dX9_sortAll_199 rfl rfl ?_
  refine x_icmp_ge (tgt := 221) C dX9_sortAll_200 (by decide) (fun c200 => ?_) (fun c200 => ?_)
  · rw [if_pos c200] at h
    refine x_iload_n (j := 2) C dX9_sortAll_221 rfl rfl ?_
    refine x_iconst (v := 2) C dX9_sortAll_222 (by decide) ?_
    refine x_imul C dX9_sortAll_223 ?_
    refine x_istore_n (i := 2) (ls' := [(2, .int ((a2 * 2))), (0, .ref (G.2.1 0 0)), (1, .int (a1)), (3, .int (a3))]) C dX9_sortAll_224 rfl (Nat.le_of_ble_eq_true rfl) rfl ?_
    refine x_goto (tgt := 36) C dX9_sortAll_225 (by decide) ?_
    refine x_sub (ls' := [(0, .ref (G.2.1 0 0)), (1, .int (a1)), (2, .int ((a2 * 2)))]) [1, 2, 0] rfl ?_
    exact hk36 _ _ _ _ h
  · rw [if_neg c200] at h
    refine x_aload_n (j := 0) C dX9_sortAll_203 rfl rfl ?_
    refine gf9_34 C dX9_sortAll_204 ?_
    refine x_iload_n (j := 3) C dX9_sortAll_207 rfl rfl ?_
    refine x_aload_n (j := 0) C dX9_sortAll_208 rfl rfl ?_
    refine gf9_37 C dX9_sortAll_209 ?_
    refine x_iload_n (j := 3) C dX9_sortAll_212 rfl rfl ?_
    by_cases g213_1 : inB a3 4096 = true
    case neg => rw [if_neg g213_1] at h; cases h
    rw [if_pos g213_1] at h
    refine mld10 C dX9_sortAll_213 g213_1 ?_
    refine mst9 C dX9_sortAll_214 g213_1 ?_
    refine x_iinc (j := 3) (v := (a3 + 1)) (ls' := [(3, .int ((a3 + 1))), (0, .ref (G.2.1 0 0)), (1, .int (a1)), (2, .int (a2))]) C dX9_sortAll_215 rfl rfl (Nat.le_of_ble_eq_true rfl) rfl ?_
    refine x_goto (tgt := 198) C dX9_sortAll_218 (by decide) ?_
    refine x_sub (ls' := [(0, .ref (G.2.1 0 0)), (1, .int (a1)), (2, .int (a2)), (3, .int ((a3 + 1)))]) [1, 2, 3, 0] rfl ?_
    exact hk198 _ _ _ _ _ h
theorem t9_sortAll_l198 {M : xM} {G : xG} {N : Nat}  (C : xC (M, G, mdom, 10) RX9 cX9_sortAll none) (R : xR (M, G, mdom, 10) = xrm 0 0) {k36 : Int32 → Int32 → mS → Option (mS)} (hk36 : ∀ (a1 : Int32) (a2 : Int32) (s : mS) (s1 : mS), k36 a1 a2 s = some s1 → X (M, G, mdom, 10) none (encM G s1) (encM G s) 36 [(0, .ref (G.2.1 0 0)), (1, .int (a1)), (2, .int (a2))] []) (n : Nat) : ∀ (a1 : Int32) (a2 : Int32) (a3 : Int32) (s : mS) (s1 : mS), f9_sortAll_l198 N k36 n a1 a2 a3 s = some s1 → X (M, G, mdom, 10) none (encM G s1) (encM G s) 198 [(0, .ref (G.2.1 0 0)), (1, .int (a1)), (2, .int (a2)), (3, .int (a3))] [] := by
  induction n with
  | zero => intro a1 a2 a3 s s1 h; exact (Option.some_ne_none _ (Eq.symm h)).elim
  | succ n ih => intro a1 a2 a3 s s1 h; exact t9_sortAll_l198b (N := N) C R hk36 (k198 := f9_sortAll_l198 N k36 n) ih h
set_option maxRecDepth 100000 in
theorem t9_sortAll_b166 {M : xM} {G : xG} {N : Nat}  (C : xC (M, G, mdom, 10) RX9 cX9_sortAll none) (R : xR (M, G, mdom, 10) = xrm 0 0) {k36 : Int32 → Int32 → mS → Option (mS)} (hk36 : ∀ (a1 : Int32) (a2 : Int32) (s : mS) (s1 : mS), k36 a1 a2 s = some s1 → X (M, G, mdom, 10) none (encM G s1) (encM G s) 36 [(0, .ref (G.2.1 0 0)), (1, .int (a1)), (2, .int (a2))] []) {k43 : Int32 → Int32 → Int32 → mS → Option (mS)} (hk43 : ∀ (a1 : Int32) (a2 : Int32) (a3 : Int32) (s : mS) (s1 : mS), k43 a1 a2 a3 s = some s1 → X (M, G, mdom, 10) none (encM G s1) (encM G s) 43 [(0, .ref (G.2.1 0 0)), (1, .int (a1)), (2, .int (a2)), (3, .int (a3))] []) {k93 : Int32 → Int32 → Int32 → Int32 → Int32 → Int32 → Int32 → Int32 → mS → Option (mS)} (hk93 : ∀ (a1 : Int32) (a2 : Int32) (a3 : Int32) (a4 : Int32) (a5 : Int32) (a6 : Int32) (a7 : Int32) (a8 : Int32) (s : mS) (s1 : mS), k93 a1 a2 a3 a4 a5 a6 a7 a8 s = some s1 → X (M, G, mdom, 10) none (encM G s1) (encM G s) 93 [(0, .ref (G.2.1 0 0)), (1, .int (a1)), (2, .int (a2)), (3, .int (a3)), (4, .int (a4)), (5, .int (a5)), (6, .int (a6)), (7, .int (a7)), (8, .int (a8))] []) {a1 : Int32} {a2 : Int32} {a3 : Int32} {a4 : Int32} {a5 : Int32} {a6 : Int32} {a7 : Int32} {a8 : Int32} {a9 : Int32} {b0 : Int32} {b1 : Int32} {s : mS} {s1 : mS} (h : f9_sortAll_b166 N k36 k43 k93 a1 a2 a3 a4 a5 a6 a7 a8 a9 b0 b1 s = some s1) : X (M, G, mdom, 10) none (encM G s1) (encM G s) 166 [(0, .ref (G.2.1 0 0)), (1, .int (a1)), (2, .int (a2)), (3, .int (a3)), (4, .int (a4)), (5, .int (a5)), (6, .int (a6)), (7, .int (a7)), (8, .int (a8)), (9, .int (a9))] [.int (b0), .int (b1), .ref (G.2.1 10 0)] := by
  unfold f9_sortAll_b166 at h
  by_cases g166_1 : inB b1 4096 = true
  case neg => rw [if_neg g166_1] at h; cases h
  rw [if_pos g166_1] at h
  refine mst10 C dX9_sortAll_166 g166_1 ?_
  refine x_iload (j := 9) C dX9_sortAll_167 rfl ?_
  refine x_if_eq (tgt := 178) C dX9_sortAll_169 (by decide) (fun c169 => ?_) (fun c169 => ?_)
  · rw [if_pos c169] at h
    refine x_iinc (j := 5) (v := (a5 + 1)) (ls' := [(5, .int ((a5 + 1))), (0, .ref (G.2.1 0 0)), (1, .int (a1)), (2, .int (a2)), (3, .int (a3)), (4, .int (a4)), (6, .int (a6)), (7, .int (a7)), (8, .int (a8)), (9, .int (a9))]) C dX9_sortAll_178 rfl rfl (Nat.le_of_ble_eq_true rfl) rfl ?_
    refine x_iinc (j := 8) (v := (a8 + 1)) (ls' := [(8, .int ((a8 + 1))), (5, .int ((a5 + 1))), (0, .ref (G.2.1 0 0)), (1, .int (a1)), (2, .int (a2)), (3, .int (a3)), (4, .int (a4)), (6, .int (a6)), (7, .int (a7)), (9, .int (a9))]) C dX9_sortAll_181 rfl rfl (Nat.le_of_ble_eq_true rfl) rfl ?_
    refine x_goto (tgt := 93) C dX9_sortAll_184 (by decide) ?_
    refine x_sub (ls' := [(0, .ref (G.2.1 0 0)), (1, .int (a1)), (2, .int (a2)), (3, .int (a3)), (4, .int (a4)), (5, .int ((a5 + 1))), (6, .int (a6)), (7, .int (a7)), (8, .int ((a8 + 1)))]) [2, 3, 4, 5, 6, 1, 7, 8, 0] rfl ?_
    exact hk93 _ _ _ _ _ _ _ _ _ _ h
  · rw [if_neg c169] at h
    refine x_iinc (j := 4) (v := (a4 + 1)) (ls' := [(4, .int ((a4 + 1))), (0, .ref (G.2.1 0 0)), (1, .int (a1)), (2, .int (a2)), (3, .int (a3)), (5, .int (a5)), (6, .int (a6)), (7, .int (a7)), (8, .int (a8)), (9, .int (a9))]) C dX9_sortAll_172 rfl rfl (Nat.le_of_ble_eq_true rfl) rfl ?_
    refine x_goto (tgt := 181) C dX9_sortAll_175 (by decide) ?_
    refine x_iinc (j := 8) (v := (a8 + 1)) (ls' := [(8, .int ((a8 + 1))), (4, .int ((a4 + 1))), (0, .ref (G.2.1 0 0)), (1, .int (a1)), (2, .int (a2)), (3, .int (a3)), (5, .int (a5)), (6, .int (a6)), (7, .int (a7)), (9, .int (a9))]) C dX9_sortAll_181 rfl rfl (Nat.le_of_ble_eq_true rfl) rfl ?_
    refine x_goto (tgt := 93) C dX9_sortAll_184 (by decide) ?_
    refine x_sub (ls' := [(0, .ref (G.2.1 0 0)), (1, .int (a1)), (2, .int (a2)), (3, .int (a3)), (4, .int ((a4 + 1))), (5, .int (a5)), (6, .int (a6)), (7, .int (a7)), (8, .int ((a8 + 1)))]) [2, 3, 4, 5, 1, 6, 7, 8, 0] rfl ?_
    exact hk93 _ _ _ _ _ _ _ _ _ _ h
set_option maxRecDepth 100000 in
theorem t9_sortAll_b136 {M : xM} {G : xG} {N : Nat}  (C : xC (M, G, mdom, 10) RX9 cX9_sortAll none) (R : xR (M, G, mdom, 10) = xrm 0 0) {k36 : Int32 → Int32 → mS → Option (mS)} (hk36 : ∀ (a1 : Int32) (a2 : Int32) (s : mS) (s1 : mS), k36 a1 a2 s = some s1 → X (M, G, mdom, 10) none (encM G s1) (encM G s) 36 [(0, .ref (G.2.1 0 0)), (1, .int (a1)), (2, .int (a2))] []) {k43 : Int32 → Int32 → Int32 → mS → Option (mS)} (hk43 : ∀ (a1 : Int32) (a2 : Int32) (a3 : Int32) (s : mS) (s1 : mS), k43 a1 a2 a3 s = some s1 → X (M, G, mdom, 10) none (encM G s1) (encM G s) 43 [(0, .ref (G.2.1 0 0)), (1, .int (a1)), (2, .int (a2)), (3, .int (a3))] []) {k93 : Int32 → Int32 → Int32 → Int32 → Int32 → Int32 → Int32 → Int32 → mS → Option (mS)} (hk93 : ∀ (a1 : Int32) (a2 : Int32) (a3 : Int32) (a4 : Int32) (a5 : Int32) (a6 : Int32) (a7 : Int32) (a8 : Int32) (s : mS) (s1 : mS), k93 a1 a2 a3 a4 a5 a6 a7 a8 s = some s1 → X (M, G, mdom, 10) none (encM G s1) (encM G s) 93 [(0, .ref (G.2.1 0 0)), (1, .int (a1)), (2, .int (a2)), (3, .int (a3)), (4, .int (a4)), (5, .int (a5)), (6, .int (a6)), (7, .int (a7)), (8, .int (a8))] []) {a1 : Int32} {a2 : Int32} {a3 : Int32} {a4 : Int32} {a5 : Int32} {a6 : Int32} {a7 : Int32} {a8 : Int32} {b0 : Int32} {s : mS} {s1 : mS} (h : f9_sortAll_b136 N k36 k43 k93 a1 a2 a3 a4 a5 a6 a7 a8 b0 s = some s1) : X (M, G, mdom, 10) none (encM G s1) (encM G s) 136 [(0, .ref (G.2.1 0 0)), (1, .int (a1)), (2, .int (a2)), (3, .int (a3)), (4, .int (a4)), (5, .int (a5)), (6, .int (a6)), (7, .int (a7)), (8, .int (a8))] [.int (b0)] := by
  unfold f9_sortAll_b136 at h
  refine x_istore (i := 9) (ls' := [(9, .int (b0)), (0, .ref (G.2.1 0 0)), (1, .int (a1)), (2, .int (a2)), (3, .int (a3)), (4, .int (a4)), (5, .int (a5)), (6, .int (a6)), (7, .int (a7)), (8, .int (a8))]) C dX9_sortAll_136 (Nat.le_of_ble_eq_true rfl) rfl ?_
  refine x_aload_n (j := 1) C dX9_sortAll_138 rfl rfl ?_
  refine gf9_37 C dX9_sortAll_139 ?_
  refine x_iload (j := 9) C dX9_sortAll_142 rfl ?_
  refine x_iload (j := 0) C dX9_sortAll_144 rfl ?_
  refine x_if_eq (tgt := 159) C dX9_sortAll_146 (by decide) (fun c146 => ?_) (fun c146 => ?_)
  · rw [if_pos c146] at h
    refine x_aload_n (j := 1) C dX9_sortAll_159 rfl rfl ?_
    refine gf9_34 C dX9_sortAll_160 ?_
    refine x_iload (j := 6) C dX9_sortAll_163 rfl ?_
    by_cases g165_1 : inB a5 4096 = true
    case neg => rw [if_neg g165_1] at h; cases h
    rw [if_pos g165_1] at h
    refine mld9 C dX9_sortAll_165 g165_1 ?_
    refine x_sub (ls' := [(0, .ref (G.2.1 0 0)), (1, .int (a1)), (2, .int (a2)), (3, .int (a3)), (4, .int (a4)), (5, .int (a5)), (6, .int (a6)), (7, .int (a7)), (8, .int (a8)), (9, .int (b0))]) [1, 2, 3, 4, 5, 6, 7, 8, 9, 0] rfl ?_
    exact t9_sortAll_b166 (N := N) C R hk36 hk43 hk93 h
  · rw [if_neg c146] at h
    refine x_aload_n (j := 1) C dX9_sortAll_149 rfl rfl ?_
    refine gf9_34 C dX9_sortAll_150 ?_
    refine x_iload (j := 5) C dX9_sortAll_153 rfl ?_
    by_cases g155_2 : inB a4 4096 = true
    case neg => rw [if_neg g155_2] at h; cases h
    rw [if_pos g155_2] at h
    refine mld9 C dX9_sortAll_155 g155_2 ?_
    refine x_goto (tgt := 166) C dX9_sortAll_156 (by decide) ?_
    refine x_sub (ls' := [(0, .ref (G.2.1 0 0)), (1, .int (a1)), (2, .int (a2)), (3, .int (a3)), (4, .int (a4)), (5, .int (a5)), (6, .int (a6)), (7, .int (a7)), (8, .int (a8)), (9, .int (b0))]) [1, 2, 3, 4, 5, 6, 7, 8, 9, 0] rfl ?_
    exact t9_sortAll_b166 (N := N) C R hk36 hk43 hk93 h
set_option maxRecDepth 100000 in
theorem t9_sortAll_l93b {M : xM} {G : xG} {N : Nat}  (C : xC (M, G, mdom, 10) RX9 cX9_sortAll none) (R : xR (M, G, mdom, 10) = xrm 0 0) {k36 : Int32 → Int32 → mS → Option (mS)} (hk36 : ∀ (a1 : Int32) (a2 : Int32) (s : mS) (s1 : mS), k36 a1 a2 s = some s1 → X (M, G, mdom, 10) none (encM G s1) (encM G s) 36 [(0, .ref (G.2.1 0 0)), (1, .int (a1)), (2, .int (a2))] []) {k43 : Int32 → Int32 → Int32 → mS → Option (mS)} (hk43 : ∀ (a1 : Int32) (a2 : Int32) (a3 : Int32) (s : mS) (s1 : mS), k43 a1 a2 a3 s = some s1 → X (M, G, mdom, 10) none (encM G s1) (encM G s) 43 [(0, .ref (G.2.1 0 0)), (1, .int (a1)), (2, .int (a2)), (3, .int (a3))] []) {k93 : Int32 → Int32 → Int32 → Int32 → Int32 → Int32 → Int32 → Int32 → mS → Option (mS)} (hk93 : ∀ (a1 : Int32) (a2 : Int32) (a3 : Int32) (a4 : Int32) (a5 : Int32) (a6 : Int32) (a7 : Int32) (a8 : Int32) (s : mS) (s1 : mS), k93 a1 a2 a3 a4 a5 a6 a7 a8 s = some s1 → X (M, G, mdom, 10) none (encM G s1) (encM G s) 93 [(0, .ref (G.2.1 0 0)), (1, .int (a1)), (2, .int (a2)), (3, .int (a3)), (4, .int (a4)), (5, .int (a5)), (6, .int (a6)), (7, .int (a7)), (8, .int (a8))] []) {a1 : Int32} {a2 : Int32} {a3 : Int32} {a4 : Int32} {a5 : Int32} {a6 : Int32} {a7 : Int32} {a8 : Int32} {s : mS} {s1 : mS} (h : f9_sortAll_l93b N k36 k43 k93 a1 a2 a3 a4 a5 a6 a7 a8 s = some s1) : X (M, G, mdom, 10) none (encM G s1) (encM G s) 93 [(0, .ref (G.2.1 0 0)), (1, .int (a1)), (2, .int (a2)), (3, .int (a3)), (4, .int (a4)), (5, .int (a5)), (6, .int (a6)), (7, .int (a7)), (8, .int (a8))] [] := by
  unfold f9_sortAll_l93b at h
  refine x_iload (j := 8) C dX9_sortAll_93 rfl ?_
  refine x_iload (j := 7) C dX9_sortAll_95 rfl ?_
  refine x_icmp_ge (tgt := 187) C dX9_sortAll_97 (by decide) (fun c97 => ?_) (fun c97 => ?_)
  · rw [if_pos c97] at h
    refine x_iload_n (j := 3) C dX9_sortAll_187 rfl rfl ?_
    refine x_iconst (v := 2) C dX9_sortAll_188 (by decide) ?_
    refine x_iload_n (j := 2) C dX9_sortAll_189 rfl rfl ?_
    refine x_imul C dX9_sortAll_190 ?_
    refine x_iadd C dX9_sortAll_191 ?_
    refine x_istore_n (i := 3) (ls' := [(3, .int ((a3 + (2 * a2)))), (0, .ref (G.2.1 0 0)), (1, .int (a1)), (2, .int (a2)), (4, .int (a4)), (5, .int (a5)), (6, .int (a6)), (7, .int (a7)), (8, .int (a8))]) C dX9_sortAll_192 rfl (Nat.le_of_ble_eq_true rfl) rfl ?_
    refine x_goto (tgt := 43) C dX9_sortAll_193 (by decide) ?_
    refine x_sub (ls' := [(0, .ref (G.2.1 0 0)), (1, .int (a1)), (2, .int (a2)), (3, .int ((a3 + (2 * a2))))]) [1, 2, 3, 0] rfl ?_
    exact hk43 _ _ _ _ _ h
  · rw [if_neg c97] at h
    refine x_iload (j := 4) C dX9_sortAll_100 rfl ?_
    refine x_iload (j := 6) C dX9_sortAll_102 rfl ?_
    refine x_icmp_ge (tgt := 135) C dX9_sortAll_104 (by decide) (fun c104 => ?_) (fun c104 => ?_)
    · rw [if_pos c104] at h
      refine x_iconst (v := 0) C dX9_sortAll_135 (by decide) ?_
      exact t9_sortAll_b136 (N := N) C R hk36 hk43 hk93 h
    · rw [if_neg c104] at h
      refine x_iload (j := 5) C dX9_sortAll_107 rfl ?_
      refine x_iload (j := 7) C dX9_sortAll_109 rfl ?_
      refine x_icmp_ge (tgt := 131) C dX9_sortAll_111 (by decide) (fun c111 => ?_) (fun c111 => ?_)
      · rw [if_pos c111] at h
        refine x_iconst (v := 1) C dX9_sortAll_131 (by decide) ?_
        refine x_goto (tgt := 136) C dX9_sortAll_132 (by decide) ?_
        exact t9_sortAll_b136 (N := N) C R hk36 hk43 hk93 h
      · rw [if_neg c111] at h
        refine x_aload_n (j := 0) C dX9_sortAll_114 rfl rfl ?_
        refine gf9_34 C dX9_sortAll_115 ?_
        refine x_iload (j := 4) C dX9_sortAll_118 rfl ?_
        by_cases g120_1 : inB a4 4096 = true
        case neg => rw [if_neg g120_1] at h; cases h
        rw [if_pos g120_1] at h
        refine mld9 C dX9_sortAll_120 g120_1 ?_
        refine x_aload_n (j := 0) C dX9_sortAll_121 rfl rfl ?_
        refine gf9_34 C dX9_sortAll_122 ?_
        refine x_iload (j := 5) C dX9_sortAll_125 rfl ?_
        by_cases g127_2 : inB a5 4096 = true
        case neg => rw [if_neg g127_2] at h; cases h
        rw [if_pos g127_2] at h
        refine mld9 C dX9_sortAll_127 g127_2 ?_
        refine x_icmp_gt (tgt := 135) C dX9_sortAll_128 (by decide) (fun c128 => ?_) (fun c128 => ?_)
        · rw [if_pos c128] at h
          refine x_iconst (v := 0) C dX9_sortAll_135 (by decide) ?_
          exact t9_sortAll_b136 (N := N) C R hk36 hk43 hk93 h
        · rw [if_neg c128] at h
          refine x_iconst (v := 1) C dX9_sortAll_131 (by decide) ?_
          refine x_goto (tgt := 136) C dX9_sortAll_132 (by decide) ?_
          exact t9_sortAll_b136 (N := N) C R hk36 hk43 hk93 h
theorem t9_sortAll_l93 {M : xM} {G : xG} {N : Nat}  (C : xC (M, G, mdom, 10) RX9 cX9_sortAll none) (R : xR (M, G, mdom, 10) = xrm 0 0) {k36 : Int32 → Int32 → mS → Option (mS)} (hk36 : ∀ (a1 : Int32) (a2 : Int32) (s : mS) (s1 : mS), k36 a1 a2 s = some s1 → X (M, G, mdom, 10) none (encM G s1) (encM G s) 36 [(0, .ref (G.2.1 0 0)), (1, .int (a1)), (2, .int (a2))] []) {k43 : Int32 → Int32 → Int32 → mS → Option (mS)} (hk43 : ∀ (a1 : Int32) (a2 : Int32) (a3 : Int32) (s : mS) (s1 : mS), k43 a1 a2 a3 s = some s1 → X (M, G, mdom, 10) none (encM G s1) (encM G s) 43 [(0, .ref (G.2.1 0 0)), (1, .int (a1)), (2, .int (a2)), (3, .int (a3))] []) (n : Nat) : ∀ (a1 : Int32) (a2 : Int32) (a3 : Int32) (a4 : Int32) (a5 : Int32) (a6 : Int32) (a7 : Int32) (a8 : Int32) (s : mS) (s1 : mS), f9_sortAll_l93 N k36 k43 n a1 a2 a3 a4 a5 a6 a7 a8 s = some s1 → X (M, G, mdom, 10) none (encM G s1) (encM G s) 93 [(0, .ref (G.2.1 0 0)), (1, .int (a1)), (2, .int (a2)), (3, .int (a3)), (4, .int (a4)), (5, .int (a5)), (6, .int (a6)), (7, .int (a7)), (8, .int (a8))] [] := by
  induction n with
  | zero => intro a1 a2 a3 a4 a5 a6 a7 a8 s s1 h; exact (Option.some_ne_none _ (Eq.symm h)).elim
  | succ n ih => intro a1 a2 a3 a4 a5 a6 a7 a8 s s1 h; exact t9_sortAll_l93b (N := N) C R hk36 hk43 (k93 := f9_sortAll_l93 N k36 k43 n) ih h
set_option maxRecDepth 100000 in
theorem t9_sortAll_b68 {M : xM} {G : xG} {N : Nat}  (C : xC (M, G, mdom, 10) RX9 cX9_sortAll none) (R : xR (M, G, mdom, 10) = xrm 0 0) {k36 : Int32 → Int32 → mS → Option (mS)} (hk36 : ∀ (a1 : Int32) (a2 : Int32) (s : mS) (s1 : mS), k36 a1 a2 s = some s1 → X (M, G, mdom, 10) none (encM G s1) (encM G s) 36 [(0, .ref (G.2.1 0 0)), (1, .int (a1)), (2, .int (a2))] []) {k43 : Int32 → Int32 → Int32 → mS → Option (mS)} (hk43 : ∀ (a1 : Int32) (a2 : Int32) (a3 : Int32) (s : mS) (s1 : mS), k43 a1 a2 a3 s = some s1 → X (M, G, mdom, 10) none (encM G s1) (encM G s) 43 [(0, .ref (G.2.1 0 0)), (1, .int (a1)), (2, .int (a2)), (3, .int (a3))] []) {a1 : Int32} {a2 : Int32} {a3 : Int32} {a4 : Int32} {a5 : Int32} {b0 : Int32} {s : mS} {s1 : mS} (h : f9_sortAll_b68 N k36 k43 a1 a2 a3 a4 a5 b0 s = some s1) : X (M, G, mdom, 10) none (encM G s1) (encM G s) 68 [(0, .ref (G.2.1 0 0)), (1, .int (a1)), (2, .int (a2)), (3, .int (a3)), (4, .int (a4)), (5, .int (a5))] [.int (b0)] := by
  unfold f9_sortAll_b68 at h
  refine x_istore (i := 6) (ls' := [(6, .int (b0)), (0, .ref (G.2.1 0 0)), (1, .int (a1)), (2, .int (a2)), (3, .int (a3)), (4, .int (a4)), (5, .int (a5))]) C dX9_sortAll_68 (Nat.le_of_ble_eq_true rfl) rfl ?_
  refine x_iload_n (j := 4) C dX9_sortAll_70 rfl rfl ?_
  refine x_iconst (v := 2) C dX9_sortAll_71 (by decide) ?_
  refine x_iload_n (j := 3) C dX9_sortAll_72 rfl rfl ?_
  refine x_imul C dX9_sortAll_73 ?_
  refine x_iadd C dX9_sortAll_74 ?_
  refine x_iload_n (j := 2) C dX9_sortAll_75 rfl rfl ?_
  refine x_icmp_ge (tgt := 87) C dX9_sortAll_76 (by decide) (fun c76 => ?_) (fun c76 => ?_)
  · rw [if_pos c76] at h
    refine x_iload_n (j := 2) C dX9_sortAll_87 rfl rfl ?_
    refine x_istore (i := 7) (ls' := [(7, .int (a1)), (6, .int (b0)), (0, .ref (G.2.1 0 0)), (1, .int (a1)), (2, .int (a2)), (3, .int (a3)), (4, .int (a4)), (5, .int (a5))]) C dX9_sortAll_88 (Nat.le_of_ble_eq_true rfl) rfl ?_
    refine x_iload_n (j := 5) C dX9_sortAll_90 rfl rfl ?_
    refine x_istore (i := 8) (ls' := [(8, .int (a3)), (7, .int (a1)), (6, .int (b0)), (0, .ref (G.2.1 0 0)), (1, .int (a1)), (2, .int (a2)), (3, .int (a3)), (4, .int (a4)), (5, .int (a5))]) C dX9_sortAll_91 (Nat.le_of_ble_eq_true rfl) rfl ?_
    refine x_sub (ls' := [(0, .ref (G.2.1 0 0)), (1, .int (a1)), (2, .int (a2)), (3, .int (a3)), (4, .int (a4)), (5, .int (a5)), (6, .int (b0)), (7, .int (a1)), (8, .int (a3))]) [3, 4, 5, 6, 7, 8, 2, 1, 0] rfl ?_
    exact t9_sortAll_l93 (N := N) C R hk36 hk43 N _ _ _ _ _ _ _ _ _ _ h
  · rw [if_neg c76] at h
    refine x_iload_n (j := 4) C dX9_sortAll_79 rfl rfl ?_
    refine x_iconst (v := 2) C dX9_sortAll_80 (by decide) ?_
    refine x_iload_n (j := 3) C dX9_sortAll_81 rfl rfl ?_
    refine x_imul C dX9_sortAll_82 ?_
    refine x_iadd C dX9_sortAll_83 ?_
    refine x_goto (tgt := 88) C dX9_sortAll_84 (by decide) ?_
    refine x_istore (i := 7) (ls' := [(7, .int ((a3 + (2 * a2)))), (6, .int (b0)), (0, .ref (G.2.1 0 0)), (1, .int (a1)), (2, .int (a2)), (3, .int (a3)), (4, .int (a4)), (5, .int (a5))]) C dX9_sortAll_88 (Nat.le_of_ble_eq_true rfl) rfl ?_
    refine x_iload_n (j := 5) C dX9_sortAll_90 rfl rfl ?_
    refine x_istore (i := 8) (ls' := [(8, .int (a3)), (7, .int ((a3 + (2 * a2)))), (6, .int (b0)), (0, .ref (G.2.1 0 0)), (1, .int (a1)), (2, .int (a2)), (3, .int (a3)), (4, .int (a4)), (5, .int (a5))]) C dX9_sortAll_91 (Nat.le_of_ble_eq_true rfl) rfl ?_
    refine x_sub (ls' := [(0, .ref (G.2.1 0 0)), (1, .int (a1)), (2, .int (a2)), (3, .int (a3)), (4, .int (a4)), (5, .int (a5)), (6, .int (b0)), (7, .int ((a3 + (2 * a2)))), (8, .int (a3))]) [3, 4, 5, 6, 7, 8, 2, 1, 0] rfl ?_
    exact t9_sortAll_l93 (N := N) C R hk36 hk43 N _ _ _ _ _ _ _ _ _ _ h
set_option maxRecDepth 100000 in
theorem t9_sortAll_l43b {M : xM} {G : xG} {N : Nat}  (C : xC (M, G, mdom, 10) RX9 cX9_sortAll none) (R : xR (M, G, mdom, 10) = xrm 0 0) {k36 : Int32 → Int32 → mS → Option (mS)} (hk36 : ∀ (a1 : Int32) (a2 : Int32) (s : mS) (s1 : mS), k36 a1 a2 s = some s1 → X (M, G, mdom, 10) none (encM G s1) (encM G s) 36 [(0, .ref (G.2.1 0 0)), (1, .int (a1)), (2, .int (a2))] []) {k43 : Int32 → Int32 → Int32 → mS → Option (mS)} (hk43 : ∀ (a1 : Int32) (a2 : Int32) (a3 : Int32) (s : mS) (s1 : mS), k43 a1 a2 a3 s = some s1 → X (M, G, mdom, 10) none (encM G s1) (encM G s) 43 [(0, .ref (G.2.1 0 0)), (1, .int (a1)), (2, .int (a2)), (3, .int (a3))] []) {a1 : Int32} {a2 : Int32} {a3 : Int32} {s : mS} {s1 : mS} (h : f9_sortAll_l43b N k36 k43 a1 a2 a3 s = some s1) : X (M, G, mdom, 10) none (encM G s1) (encM G s) 43 [(0, .ref (G.2.1 0 0)), (1, .int (a1)), (2, .int (a2)), (3, .int (a3))] [] := by
  unfold f9_sortAll_l43b at h
  refine x_iload_n (j := 3) C dX9_sortAll_43 rfl rfl ?_
  refine x_iload_n (j := 1) C dX9_sortAll_44 rfl rfl ?_
  refine x_icmp_ge (tgt := 196) C dX9_sortAll_45 (by decide) (fun c45 => ?_) (fun c45 => ?_)
  · rw [if_pos c45] at h
    refine x_iconst (v := 0) C dX9_sortAll_196 (by decide) ?_
    refine x_istore_n (i := 3) (ls' := [(3, .int (0)), (0, .ref (G.2.1 0 0)), (1, .int (a1)), (2, .int (a2))]) C dX9_sortAll_197 rfl (Nat.le_of_ble_eq_true rfl) rfl ?_
    refine x_sub (ls' := [(0, .ref (G.2.1 0 0)), (1, .int (a1)), (2, .int (a2)), (3, .int (0))]) [1, 2, 3, 0] rfl ?_
    exact t9_sortAll_l198 (N := N) C R hk36 N _ _ _ _ _ h
  · rw [if_neg c45] at h
    refine x_iload_n (j := 3) C dX9_sortAll_48 rfl rfl ?_
    refine x_istore (i := 4) (ls' := [(4, .int (a3)), (0, .ref (G.2.1 0 0)), (1, .int (a1)), (2, .int (a2)), (3, .int (a3))]) C dX9_sortAll_49 (Nat.le_of_ble_eq_true rfl) rfl ?_
    refine x_iload_n (j := 4) C dX9_sortAll_51 rfl rfl ?_
    refine x_iload_n (j := 3) C dX9_sortAll_52 rfl rfl ?_
    refine x_iadd C dX9_sortAll_53 ?_
    refine x_istore (i := 5) (ls' := [(5, .int ((a3 + a2))), (4, .int (a3)), (0, .ref (G.2.1 0 0)), (1, .int (a1)), (2, .int (a2)), (3, .int (a3))]) C dX9_sortAll_54 (Nat.le_of_ble_eq_true rfl) rfl ?_
    refine x_iload (j := 0) C dX9_sortAll_56 rfl ?_
    refine x_iload_n (j := 3) C dX9_sortAll_58 rfl rfl ?_
    refine x_icmp_ge (tgt := 67) C dX9_sortAll_59 (by decide) (fun c59 => ?_) (fun c59 => ?_)
    · rw [if_pos c59] at h
      refine x_iload_n (j := 3) C dX9_sortAll_67 rfl rfl ?_
      refine x_sub (ls' := [(0, .ref (G.2.1 0 0)), (1, .int (a1)), (2, .int (a2)), (3, .int (a3)), (4, .int (a3)), (5, .int ((a3 + a2)))]) [2, 3, 4, 5, 1, 0] rfl ?_
      exact t9_sortAll_b68 (N := N) C R hk36 hk43 h
    · rw [if_neg c59] at h
      refine x_iload (j := 0) C dX9_sortAll_62 rfl ?_
      refine x_goto (tgt := 68) C dX9_sortAll_64 (by decide) ?_
      refine x_sub (ls' := [(0, .ref (G.2.1 0 0)), (1, .int (a1)), (2, .int (a2)), (3, .int (a3)), (4, .int (a3)), (5, .int ((a3 + a2)))]) [2, 3, 4, 5, 1, 0] rfl ?_
      exact t9_sortAll_b68 (N := N) C R hk36 hk43 h
theorem t9_sortAll_l43 {M : xM} {G : xG} {N : Nat}  (C : xC (M, G, mdom, 10) RX9 cX9_sortAll none) (R : xR (M, G, mdom, 10) = xrm 0 0) {k36 : Int32 → Int32 → mS → Option (mS)} (hk36 : ∀ (a1 : Int32) (a2 : Int32) (s : mS) (s1 : mS), k36 a1 a2 s = some s1 → X (M, G, mdom, 10) none (encM G s1) (encM G s) 36 [(0, .ref (G.2.1 0 0)), (1, .int (a1)), (2, .int (a2))] []) (n : Nat) : ∀ (a1 : Int32) (a2 : Int32) (a3 : Int32) (s : mS) (s1 : mS), f9_sortAll_l43 N k36 n a1 a2 a3 s = some s1 → X (M, G, mdom, 10) none (encM G s1) (encM G s) 43 [(0, .ref (G.2.1 0 0)), (1, .int (a1)), (2, .int (a2)), (3, .int (a3))] [] := by
  induction n with
  | zero => intro a1 a2 a3 s s1 h; exact (Option.some_ne_none _ (Eq.symm h)).elim
  | succ n ih => intro a1 a2 a3 s s1 h; exact t9_sortAll_l43b (N := N) C R hk36 (k43 := f9_sortAll_l43 N k36 n) ih h
set_option maxRecDepth 100000 in
theorem t9_sortAll_l36b {M : xM} {G : xG} {N : Nat}  (C : xC (M, G, mdom, 10) RX9 cX9_sortAll none) (R : xR (M, G, mdom, 10) = xrm 0 0) {k36 : Int32 → Int32 → mS → Option (mS)} (hk36 : ∀ (a1 : Int32) (a2 : Int32) (s : mS) (s1 : mS), k36 a1 a2 s = some s1 → X (M, G, mdom, 10) none (encM G s1) (encM G s) 36 [(0, .ref (G.2.1 0 0)), (1, .int (a1)), (2, .int (a2))] []) {a1 : Int32} {a2 : Int32} {s : mS} {s1 : mS} (h : f9_sortAll_l36b N k36 a1 a2 s = some s1) : X (M, G, mdom, 10) none (encM G s1) (encM G s) 36 [(0, .ref (G.2.1 0 0)), (1, .int (a1)), (2, .int (a2))] [] := by
  unfold f9_sortAll_l36b at h
  refine x_iload_n (j := 2) C dX9_sortAll_36 rfl rfl ?_
  refine x_iload_n (j := 1) C dX9_sortAll_37 rfl rfl ?_
  refine x_icmp_ge (tgt := 228) C dX9_sortAll_38 (by decide) (fun c38 => ?_) (fun c38 => ?_)
  · rw [if_pos c38] at h
    cases h
    exact x_vret C dX9_sortAll_228
  · rw [if_neg c38] at h
    refine x_iconst (v := 0) C dX9_sortAll_41 (by decide) ?_
    refine x_istore_n (i := 3) (ls' := [(3, .int (0)), (0, .ref (G.2.1 0 0)), (1, .int (a1)), (2, .int (a2))]) C dX9_sortAll_42 rfl (Nat.le_of_ble_eq_true rfl) rfl ?_
    refine x_sub (ls' := [(0, .ref (G.2.1 0 0)), (1, .int (a1)), (2, .int (a2)), (3, .int (0))]) [1, 2, 3, 0] rfl ?_
    exact t9_sortAll_l43 (N := N) C R hk36 N _ _ _ _ _ h
theorem t9_sortAll_l36 {M : xM} {G : xG} {N : Nat}  (C : xC (M, G, mdom, 10) RX9 cX9_sortAll none) (R : xR (M, G, mdom, 10) = xrm 0 0) (n : Nat) : ∀ (a1 : Int32) (a2 : Int32) (s : mS) (s1 : mS), f9_sortAll_l36 N n a1 a2 s = some s1 → X (M, G, mdom, 10) none (encM G s1) (encM G s) 36 [(0, .ref (G.2.1 0 0)), (1, .int (a1)), (2, .int (a2))] [] := by
  induction n with
  | zero => intro a1 a2 s s1 h; exact (Option.some_ne_none _ (Eq.symm h)).elim
  | succ n ih => intro a1 a2 s s1 h; exact t9_sortAll_l36b (N := N) C R (k36 := f9_sortAll_l36 N n) ih h
set_option maxRecDepth 100000 in
theorem t9_sortAll_l11b {M : xM} {G : xG} {N : Nat}  (C : xC (M, G, mdom, 10) RX9 cX9_sortAll none) (R : xR (M, G, mdom, 10) = xrm 0 0) {k11 : Int32 → Int32 → mS → Option (mS)} (hk11 : ∀ (a1 : Int32) (a2 : Int32) (s : mS) (s1 : mS), k11 a1 a2 s = some s1 → X (M, G, mdom, 10) none (encM G s1) (encM G s) 11 [(0, .ref (G.2.1 0 0)), (1, .int (a1)), (2, .int (a2))] []) {a1 : Int32} {a2 : Int32} {s : mS} {s1 : mS} (h : f9_sortAll_l11b N k11 a1 a2 s = some s1) : X (M, G, mdom, 10) none (encM G s1) (encM G s) 11 [(0, .ref (G.2.1 0 0)), (1, .int (a1)), (2, .int (a2))] [] := by
  unfold f9_sortAll_l11b at h
  refine x_iload_n (j := 2) C dX9_sortAll_11 rfl rfl ?_
  refine x_iload_n (j := 1) C dX9_sortAll_12 rfl rfl ?_
  refine x_icmp_ge (tgt := 34) C dX9_sortAll_13 (by decide) (fun c13 => ?_) (fun c13 => ?_)
  · rw [if_pos c13] at h
    refine x_iconst (v := 1) C dX9_sortAll_34 (by decide) ?_
    refine x_istore_n (i := 2) (ls' := [(2, .int (1)), (0, .ref (G.2.1 0 0)), (1, .int (a1))]) C dX9_sortAll_35 rfl (Nat.le_of_ble_eq_true rfl) rfl ?_
    refine x_sub (ls' := [(0, .ref (G.2.1 0 0)), (1, .int (a1)), (2, .int (1))]) [1, 2, 0] rfl ?_
    exact t9_sortAll_l36 (N := N) C R N _ _ _ _ h
  · rw [if_neg c13] at h
    refine x_aload_n (j := 0) C dX9_sortAll_16 rfl rfl ?_
    refine gf9_34 C dX9_sortAll_17 ?_
    refine x_iload_n (j := 2) C dX9_sortAll_20 rfl rfl ?_
    refine x_aload_n (j := 0) C dX9_sortAll_21 rfl rfl ?_
    refine gf9_31 C dX9_sortAll_22 ?_
    refine x_iload_n (j := 2) C dX9_sortAll_25 rfl rfl ?_
    by_cases g26_1 : inB a2 4096 = true
    case neg => rw [if_neg g26_1] at h; cases h
    rw [if_pos g26_1] at h
    refine mld8 C dX9_sortAll_26 g26_1 ?_
    refine mst9 C dX9_sortAll_27 g26_1 ?_
    refine x_iinc (j := 2) (v := (a2 + 1)) (ls' := [(2, .int ((a2 + 1))), (0, .ref (G.2.1 0 0)), (1, .int (a1))]) C dX9_sortAll_28 rfl rfl (Nat.le_of_ble_eq_true rfl) rfl ?_
    refine x_goto (tgt := 11) C dX9_sortAll_31 (by decide) ?_
    refine x_sub (ls' := [(0, .ref (G.2.1 0 0)), (1, .int (a1)), (2, .int ((a2 + 1)))]) [1, 2, 0] rfl ?_
    exact hk11 _ _ _ _ h
theorem t9_sortAll_l11 {M : xM} {G : xG} {N : Nat}  (C : xC (M, G, mdom, 10) RX9 cX9_sortAll none) (R : xR (M, G, mdom, 10) = xrm 0 0) (n : Nat) : ∀ (a1 : Int32) (a2 : Int32) (s : mS) (s1 : mS), f9_sortAll_l11 N n a1 a2 s = some s1 → X (M, G, mdom, 10) none (encM G s1) (encM G s) 11 [(0, .ref (G.2.1 0 0)), (1, .int (a1)), (2, .int (a2))] [] := by
  induction n with
  | zero => intro a1 a2 s s1 h; exact (Option.some_ne_none _ (Eq.symm h)).elim
  | succ n ih => intro a1 a2 s s1 h; exact t9_sortAll_l11b (N := N) C R (k11 := f9_sortAll_l11 N n) ih h
set_option maxRecDepth 100000 in
theorem t9_sortAll {M : xM} {G : xG} {N : Nat}  (C : xC (M, G, mdom, 10) RX9 cX9_sortAll none) (R : xR (M, G, mdom, 10) = xrm 0 0) {s : mS} {s1 : mS} (h : f9_sortAll N s = some s1) : X (M, G, mdom, 10) none (encM G s1) (encM G s) 0 [(0, .ref (G.2.1 0 0))] [] := by
  unfold f9_sortAll at h
  refine x_aload_n (j := 0) C dX9_sortAll_0 rfl rfl ?_
  refine gf9_7 C dX9_sortAll_1 ?_
  refine x_iconst (v := 0) C dX9_sortAll_4 (by decide) ?_
  refine mld1 C dX9_sortAll_5 (by decide) ?_
  refine x_iconst (v := 1) C dX9_sortAll_6 (by decide) ?_
  refine x_iadd C dX9_sortAll_7 ?_
  refine x_istore_n (i := 1) (ls' := [(1, .int (((s 0 ((0 : Int32).toNatClampNeg)) + 1))), (0, .ref (G.2.1 0 0))]) C dX9_sortAll_8 rfl (Nat.le_of_ble_eq_true rfl) rfl ?_
  refine x_iconst (v := 0) C dX9_sortAll_9 (by decide) ?_
  refine x_istore_n (i := 2) (ls' := [(2, .int (0)), (1, .int (((s 0 ((0 : Int32).toNatClampNeg)) + 1))), (0, .ref (G.2.1 0 0))]) C dX9_sortAll_10 rfl (Nat.le_of_ble_eq_true rfl) rfl ?_
  refine x_sub (ls' := [(0, .ref (G.2.1 0 0)), (1, .int (((s 0 ((0 : Int32).toNatClampNeg)) + 1))), (2, .int (0))]) [2, 1, 0] rfl ?_
  exact t9_sortAll_l11 (N := N) C R N _ _ _ _ h
theorem c9_sortAll (l : Launch) (G : xG) {N : Nat}  {s : mS} {s1 : mS} (h : f9_sortAll N s = some s1) : xMet l yX9_sortAll (x_ws yX9_sortAll cX9_sortAll 10 none) (xrm 0 0) G mdom [.ref (G.2.1 0 0)] (encM G s) none (encM G s1) := by
  refine xMet.of (by decide +kernel) (Nat.le_of_ble_eq_true rfl) ?_
  rintro ⟨M, G', dom', n'⟩ e1 R e3 e4 e5 C
  change G' = G at e3; change dom' = mdom at e4; change n' = 10 at e5
  subst e3; subst e4; subst e5
  exact t9_sortAll C R h
theorem k9_118 {M : xM} {G : xG} {n : Nat} {rv : Option Value} {E' : xE} {cc : ByteArray} {ret : Option FieldType} {pc : Nat} {ls : List (Nat × Value)} {st : List Value} {N : Nat} {s s1 : mS} (C : xC (M, G, mdom, n) RX9 cc ret) (d : decode cc pc = .ok (.invokevirtual 118, 3)) (h : f9_sortAll N s = some s1) (hR : (xrm 0 0).frames + 1 ≤ (xR (M, G, mdom, n)).frames ∧ 8 + (10 + 11) + (xrm 0 0).locals ≤ (xR (M, G, mdom, n)).locals) (hw : (st.map fun v => v.category).sum ≤ 8) (k : X (M, G, mdom, n) rv E' (encM G s1) (pc + 3) ls (st)) : X (M, G, mdom, n) rv E' (encM G s) pc ls (.ref (G.2.1 0 0) :: st) :=
  x_callV (As := []) (n := 0) C d (c9_sortAll (xl (M, G, mdom, n)) G h) lk910 lk912 lk69 lk87 lk913 ⟨rfl, rfl⟩ ⟨by decide +kernel, by decide +kernel, by decide +kernel⟩ rfl hR rfl rfl rfl rfl hw k
set_option maxRecDepth 100000 in
theorem t9_codes_l37b {M : xM} {G : xG} {N : Nat} {p1 : Int32} (C : xC (M, G, mdom, 4) RX9 cX9_codes (some .int)) (R : xR (M, G, mdom, 4) = xrm 4 97) {k37 : Int32 → Int32 → mS → Option (Int32 × mS)} (hk37 : ∀ (a2 : Int32) (a3 : Int32) (s : mS) (r : Int32) (s1 : mS), k37 a2 a3 s = some (r, s1) → X (M, G, mdom, 4) (some (.int r)) (encM G s1) (encM G s) 37 [(0, .ref (G.2.1 0 0)), (2, .int (a2)), (3, .int (a3))] []) {a2 : Int32} {a3 : Int32} {s : mS} {r : Int32} {s1 : mS} (h : f9_codes_l37b N p1 k37 a2 a3 s = some (r, s1)) : X (M, G, mdom, 4) (some (.int r)) (encM G s1) (encM G s) 37 [(0, .ref (G.2.1 0 0)), (2, .int (a2)), (3, .int (a3))] [] := by
  unfold f9_codes_l37b at h
  refine x_iload_n (j := 2) C dX9_codes_37 rfl rfl ?_
  refine x_aload_n (j := 0) C dX9_codes_38 rfl rfl ?_
  refine gf9_7 C dX9_codes_39 ?_
  refine x_iconst (v := 0) C dX9_codes_42 (by decide) ?_
  refine mld1 C dX9_codes_43 (by decide) ?_
  refine x_icmp_gt (tgt := 78) C dX9_codes_44 (by decide) (fun c44 => ?_) (fun c44 => ?_)
  · rw [if_pos c44] at h
    refine x_iload_n (j := 1) C dX9_codes_78 rfl rfl ?_
    cases h
    exact x_iret C dX9_codes_79
  · rw [if_neg c44] at h
    refine x_iload_n (j := 1) C dX9_codes_47 rfl rfl ?_
    refine x_aload_n (j := 0) C dX9_codes_48 rfl rfl ?_
    refine gf9_34 C dX9_codes_49 ?_
    refine x_iload_n (j := 2) C dX9_codes_52 rfl rfl ?_
    by_cases g53_1 : inB a3 4096 = true
    case neg => rw [if_neg g53_1] at h; cases h
    rw [if_pos g53_1] at h
    refine mld9 C dX9_codes_53 g53_1 ?_
    refine x_aload_n (j := 0) C dX9_codes_54 rfl rfl ?_
    refine gf9_34 C dX9_codes_55 ?_
    refine x_iload_n (j := 2) C dX9_codes_58 rfl rfl ?_
    refine x_iconst (v := 1) C dX9_codes_59 (by decide) ?_
    refine x_isub C dX9_codes_60 ?_
    by_cases g61_2 : inB (a3 - 1) 4096 = true
    case neg => rw [if_neg g61_2] at h; cases h
    rw [if_pos g61_2] at h
    refine mld9 C dX9_codes_61 g61_2 ?_
    refine x_icmp_eq (tgt := 69) C dX9_codes_62 (by decide) (fun c62 => ?_) (fun c62 => ?_)
    · rw [if_pos c62] at h
      refine x_iconst (v := 0) C dX9_codes_69 (by decide) ?_
      refine x_iadd C dX9_codes_70 ?_
      refine x_istore_n (i := 2) (ls' := [(2, .int ((a2 + 0))), (0, .ref (G.2.1 0 0)), (3, .int (a3))]) C dX9_codes_71 rfl (Nat.le_of_ble_eq_true rfl) rfl ?_
      refine x_iinc (j := 2) (v := (a3 + 1)) (ls' := [(3, .int ((a3 + 1))), (2, .int ((a2 + 0))), (0, .ref (G.2.1 0 0))]) C dX9_codes_72 rfl rfl (Nat.le_of_ble_eq_true rfl) rfl ?_
      refine x_goto (tgt := 37) C dX9_codes_75 (by decide) ?_
      refine x_sub (ls' := [(0, .ref (G.2.1 0 0)), (2, .int ((a2 + 0))), (3, .int ((a3 + 1)))]) [2, 1, 0] rfl ?_
      exact hk37 _ _ _ _ _ h
    · rw [if_neg c62] at h
      refine x_iconst (v := 1) C dX9_codes_65 (by decide) ?_
      refine x_goto (tgt := 70) C dX9_codes_66 (by decide) ?_
      refine x_iadd C dX9_codes_70 ?_
      refine x_istore_n (i := 2) (ls' := [(2, .int ((a2 + 1))), (0, .ref (G.2.1 0 0)), (3, .int (a3))]) C dX9_codes_71 rfl (Nat.le_of_ble_eq_true rfl) rfl ?_
      refine x_iinc (j := 2) (v := (a3 + 1)) (ls' := [(3, .int ((a3 + 1))), (2, .int ((a2 + 1))), (0, .ref (G.2.1 0 0))]) C dX9_codes_72 rfl rfl (Nat.le_of_ble_eq_true rfl) rfl ?_
      refine x_goto (tgt := 37) C dX9_codes_75 (by decide) ?_
      refine x_sub (ls' := [(0, .ref (G.2.1 0 0)), (2, .int ((a2 + 1))), (3, .int ((a3 + 1)))]) [2, 1, 0] rfl ?_
      exact hk37 _ _ _ _ _ h
theorem t9_codes_l37 {M : xM} {G : xG} {N : Nat} {p1 : Int32} (C : xC (M, G, mdom, 4) RX9 cX9_codes (some .int)) (R : xR (M, G, mdom, 4) = xrm 4 97) (n : Nat) : ∀ (a2 : Int32) (a3 : Int32) (s : mS) (r : Int32) (s1 : mS), f9_codes_l37 N p1 n a2 a3 s = some (r, s1) → X (M, G, mdom, 4) (some (.int r)) (encM G s1) (encM G s) 37 [(0, .ref (G.2.1 0 0)), (2, .int (a2)), (3, .int (a3))] [] := by
  induction n with
  | zero => intro a2 a3 s r s1 h; exact (Option.some_ne_none _ (Eq.symm h)).elim
  | succ n ih => intro a2 a3 s r s1 h; exact t9_codes_l37b (N := N) (p1 := p1) C R (k37 := f9_codes_l37 N p1 n) ih h
set_option maxRecDepth 100000 in
theorem t9_codes {M : xM} {G : xG} {N : Nat} {p1 : Int32} (C : xC (M, G, mdom, 4) RX9 cX9_codes (some .int)) (R : xR (M, G, mdom, 4) = xrm 4 97) {s : mS} {r : Int32} {s1 : mS} (h : f9_codes N p1 s = some (r, s1)) : X (M, G, mdom, 4) (some (.int r)) (encM G s1) (encM G s) 0 [(0, .ref (G.2.1 0 0)), (1, .int (p1))] [] := by
  unfold f9_codes at h
  refine x_aload_n (j := 0) C dX9_codes_0 rfl rfl ?_
  refine x_iconst (v := 0) C dX9_codes_1 (by decide) ?_
  refine pf9_47 C dX9_codes_2 ?_
  refine x_aload_n (j := 0) C dX9_codes_5 rfl rfl ?_
  refine x_iload_n (j := 1) C dX9_codes_6 rfl rfl ?_
  obtain ⟨⟨r7, s7⟩, e7, h⟩ := Option.bind_eq_some_iff.mp h
  try dsimp only at h
  refine k9_68 C dX9_codes_7 e7 (x_room R rfl) (Nat.le_of_ble_eq_true rfl) ?_
  refine x_if_ne (tgt := 19) C dX9_codes_10 (by decide) (fun c10 => ?_) (fun c10 => ?_)
  · rw [if_neg c10] at h
    refine x_aload_n (j := 0) C dX9_codes_19 rfl rfl ?_
    refine x_iconst (v := 0) C dX9_codes_20 (by decide) ?_
    refine pf9_51 C dX9_codes_21 ?_
    refine x_aload_n (j := 0) C dX9_codes_24 rfl rfl ?_
    refine x_iload_n (j := 1) C dX9_codes_25 rfl rfl ?_
    obtain ⟨s26, e26, h⟩ := Option.bind_eq_some_iff.mp h
    try dsimp only at h
    refine k9_114 C dX9_codes_26 e26 (x_room R rfl) (Nat.le_of_ble_eq_true rfl) ?_
    refine x_aload_n (j := 0) C dX9_codes_29 rfl rfl ?_
    obtain ⟨s30, e30, h⟩ := Option.bind_eq_some_iff.mp h
    try dsimp only at h
    refine k9_118 C dX9_codes_30 e30 (x_room R rfl) (Nat.le_of_ble_eq_true rfl) ?_
    refine x_iconst (v := 1) C dX9_codes_33 (by decide) ?_
    refine x_istore_n (i := 2) (ls' := [(2, .int (1)), (0, .ref (G.2.1 0 0)), (1, .int (p1))]) C dX9_codes_34 rfl (Nat.le_of_ble_eq_true rfl) rfl ?_
    refine x_iconst (v := 1) C dX9_codes_35 (by decide) ?_
    refine x_istore_n (i := 3) (ls' := [(3, .int (1)), (2, .int (1)), (0, .ref (G.2.1 0 0)), (1, .int (p1))]) C dX9_codes_36 rfl (Nat.le_of_ble_eq_true rfl) rfl ?_
    refine x_sub (ls' := [(0, .ref (G.2.1 0 0)), (2, .int (1)), (3, .int (1))]) [2, 1, 0] rfl ?_
    exact t9_codes_l37 (N := N) (p1 := p1) C R N _ _ _ _ _ h
  · rw [if_pos c10] at h
    refine x_aload_n (j := 0) C dX9_codes_13 rfl rfl ?_
    refine x_iconst (v := 2) C dX9_codes_14 (by decide) ?_
    obtain ⟨⟨r15, s15⟩, e15, h⟩ := Option.bind_eq_some_iff.mp h
    try dsimp only at h
    refine k9_78 C dX9_codes_15 e15 (x_room R rfl) (Nat.le_of_ble_eq_true rfl) ?_
    cases h
    exact x_iret C dX9_codes_18
theorem c9_codes (l : Launch) (G : xG) {N : Nat} {p1 : Int32} {s : mS} {r : Int32} {s1 : mS} (h : f9_codes N p1 s = some (r, s1)) : xMet l yX9_codes (x_ws yX9_codes cX9_codes 4 (some .int)) (xrm 4 97) G mdom [.ref (G.2.1 0 0), .int (p1)] (encM G s) (some (.int r)) (encM G s1) := by
  refine xMet.of (by decide +kernel) (Nat.le_of_ble_eq_true rfl) ?_
  rintro ⟨M, G', dom', n'⟩ e1 R e3 e4 e5 C
  change G' = G at e3; change dom' = mdom at e4; change n' = 4 at e5
  subst e3; subst e4; subst e5
  exact t9_codes C R h
set_option maxRecDepth 100000 in
theorem t9_lacks_l56b {M : xM} {G : xG} {N : Nat} {p1 : Int32} (C : xC (M, G, mdom, 5) RX9 cX9_lacks (some .int)) (R : xR (M, G, mdom, 5) = xrm 4 97) {k56 : Int32 → Int32 → Int32 → mS → Option (Int32 × mS)} (hk56 : ∀ (a2 : Int32) (a3 : Int32) (a4 : Int32) (s : mS) (r : Int32) (s1 : mS), k56 a2 a3 a4 s = some (r, s1) → X (M, G, mdom, 5) (some (.int r)) (encM G s1) (encM G s) 56 [(0, .ref (G.2.1 0 0)), (2, .int (a2)), (3, .int (a3)), (4, .int (a4))] []) {a2 : Int32} {a3 : Int32} {a4 : Int32} {s : mS} {r : Int32} {s1 : mS} (h : f9_lacks_l56b N p1 k56 a2 a3 a4 s = some (r, s1)) : X (M, G, mdom, 5) (some (.int r)) (encM G s1) (encM G s) 56 [(0, .ref (G.2.1 0 0)), (2, .int (a2)), (3, .int (a3)), (4, .int (a4))] [] := by
  unfold f9_lacks_l56b at h
  refine x_iload (j := 3) C dX9_lacks_56 rfl ?_
  refine x_aload_n (j := 0) C dX9_lacks_58 rfl rfl ?_
  refine gf9_7 C dX9_lacks_59 ?_
  refine x_iconst (v := 0) C dX9_lacks_62 (by decide) ?_
  refine mld1 C dX9_lacks_63 (by decide) ?_
  refine x_icmp_gt (tgt := 115) C dX9_lacks_64 (by decide) (fun c64 => ?_) (fun c64 => ?_)
  · rw [if_pos c64] at h
    refine x_iload_n (j := 1) C dX9_lacks_115 rfl rfl ?_
    refine x_iconst (v := 1) C dX9_lacks_116 (by decide) ?_
    refine x_iadd C dX9_lacks_117 ?_
    refine x_iload_n (j := 2) C dX9_lacks_118 rfl rfl ?_
    refine x_isub C dX9_lacks_119 ?_
    cases h
    exact x_iret C dX9_lacks_120
  · rw [if_neg c64] at h
    refine x_iload_n (j := 2) C dX9_lacks_67 rfl rfl ?_
    refine x_aload_n (j := 0) C dX9_lacks_68 rfl rfl ?_
    refine gf9_34 C dX9_lacks_69 ?_
    refine x_iload (j := 3) C dX9_lacks_72 rfl ?_
    by_cases g74_1 : inB a4 4096 = true
    case neg => rw [if_neg g74_1] at h; cases h
    rw [if_pos g74_1] at h
    refine mld9 C dX9_lacks_74 g74_1 ?_
    refine x_if_lt (tgt := 106) C dX9_lacks_75 (by decide) (fun c75 => ?_) (fun c75 => ?_)
    · rw [if_pos c75] at h
      refine x_iconst (v := 0) C dX9_lacks_106 (by decide) ?_
      refine x_iadd C dX9_lacks_107 ?_
      refine x_istore_n (i := 3) (ls' := [(3, .int ((a3 + 0))), (0, .ref (G.2.1 0 0)), (2, .int (a2)), (4, .int (a4))]) C dX9_lacks_108 rfl (Nat.le_of_ble_eq_true rfl) rfl ?_
      refine x_iinc (j := 3) (v := (a4 + 1)) (ls' := [(4, .int ((a4 + 1))), (3, .int ((a3 + 0))), (0, .ref (G.2.1 0 0)), (2, .int (a2))]) C dX9_lacks_109 rfl rfl (Nat.le_of_ble_eq_true rfl) rfl ?_
      refine x_goto (tgt := 56) C dX9_lacks_112 (by decide) ?_
      refine x_sub (ls' := [(0, .ref (G.2.1 0 0)), (2, .int (a2)), (3, .int ((a3 + 0))), (4, .int ((a4 + 1)))]) [2, 3, 1, 0] rfl ?_
      exact hk56 _ _ _ _ _ _ h
    · rw [if_neg c75] at h
      refine x_iload (j := 3) C dX9_lacks_78 rfl ?_
      refine x_if_eq (tgt := 102) C dX9_lacks_80 (by decide) (fun c80 => ?_) (fun c80 => ?_)
      · rw [if_pos c80] at h
        refine x_iconst (v := 1) C dX9_lacks_102 (by decide) ?_
        refine x_goto (tgt := 107) C dX9_lacks_103 (by decide) ?_
        refine x_iadd C dX9_lacks_107 ?_
        refine x_istore_n (i := 3) (ls' := [(3, .int ((a3 + 1))), (0, .ref (G.2.1 0 0)), (2, .int (a2)), (4, .int (a4))]) C dX9_lacks_108 rfl (Nat.le_of_ble_eq_true rfl) rfl ?_
        refine x_iinc (j := 3) (v := (a4 + 1)) (ls' := [(4, .int ((a4 + 1))), (3, .int ((a3 + 1))), (0, .ref (G.2.1 0 0)), (2, .int (a2))]) C dX9_lacks_109 rfl rfl (Nat.le_of_ble_eq_true rfl) rfl ?_
        refine x_goto (tgt := 56) C dX9_lacks_112 (by decide) ?_
        refine x_sub (ls' := [(0, .ref (G.2.1 0 0)), (2, .int (a2)), (3, .int ((a3 + 1))), (4, .int ((a4 + 1)))]) [2, 3, 1, 0] rfl ?_
        exact hk56 _ _ _ _ _ _ h
      · rw [if_neg c80] at h
        refine x_aload_n (j := 0) C dX9_lacks_83 rfl rfl ?_
        refine gf9_34 C dX9_lacks_84 ?_
        refine x_iload (j := 3) C dX9_lacks_87 rfl ?_
        refine mld9 C dX9_lacks_89 g74_1 ?_
        refine x_aload_n (j := 0) C dX9_lacks_90 rfl rfl ?_
        refine gf9_34 C dX9_lacks_91 ?_
        refine x_iload (j := 3) C dX9_lacks_94 rfl ?_
        refine x_iconst (v := 1) C dX9_lacks_96 (by decide) ?_
        refine x_isub C dX9_lacks_97 ?_
        by_cases g98_2 : inB (a4 - 1) 4096 = true
        case neg => rw [if_neg g98_2] at h; cases h
        rw [if_pos g98_2] at h
        refine mld9 C dX9_lacks_98 g98_2 ?_
        refine x_icmp_eq (tgt := 106) C dX9_lacks_99 (by decide) (fun c99 => ?_) (fun c99 => ?_)
        · rw [if_pos c99] at h
          refine x_iconst (v := 0) C dX9_lacks_106 (by decide) ?_
          refine x_iadd C dX9_lacks_107 ?_
          refine x_istore_n (i := 3) (ls' := [(3, .int ((a3 + 0))), (0, .ref (G.2.1 0 0)), (2, .int (a2)), (4, .int (a4))]) C dX9_lacks_108 rfl (Nat.le_of_ble_eq_true rfl) rfl ?_
          refine x_iinc (j := 3) (v := (a4 + 1)) (ls' := [(4, .int ((a4 + 1))), (3, .int ((a3 + 0))), (0, .ref (G.2.1 0 0)), (2, .int (a2))]) C dX9_lacks_109 rfl rfl (Nat.le_of_ble_eq_true rfl) rfl ?_
          refine x_goto (tgt := 56) C dX9_lacks_112 (by decide) ?_
          refine x_sub (ls' := [(0, .ref (G.2.1 0 0)), (2, .int (a2)), (3, .int ((a3 + 0))), (4, .int ((a4 + 1)))]) [2, 3, 1, 0] rfl ?_
          exact hk56 _ _ _ _ _ _ h
        · rw [if_neg c99] at h
          refine x_iconst (v := 1) C dX9_lacks_102 (by decide) ?_
          refine x_goto (tgt := 107) C dX9_lacks_103 (by decide) ?_
          refine x_iadd C dX9_lacks_107 ?_
          refine x_istore_n (i := 3) (ls' := [(3, .int ((a3 + 1))), (0, .ref (G.2.1 0 0)), (2, .int (a2)), (4, .int (a4))]) C dX9_lacks_108 rfl (Nat.le_of_ble_eq_true rfl) rfl ?_
          refine x_iinc (j := 3) (v := (a4 + 1)) (ls' := [(4, .int ((a4 + 1))), (3, .int ((a3 + 1))), (0, .ref (G.2.1 0 0)), (2, .int (a2))]) C dX9_lacks_109 rfl rfl (Nat.le_of_ble_eq_true rfl) rfl ?_
          refine x_goto (tgt := 56) C dX9_lacks_112 (by decide) ?_
          refine x_sub (ls' := [(0, .ref (G.2.1 0 0)), (2, .int (a2)), (3, .int ((a3 + 1))), (4, .int ((a4 + 1)))]) [2, 3, 1, 0] rfl ?_
          exact hk56 _ _ _ _ _ _ h
theorem t9_lacks_l56 {M : xM} {G : xG} {N : Nat} {p1 : Int32} (C : xC (M, G, mdom, 5) RX9 cX9_lacks (some .int)) (R : xR (M, G, mdom, 5) = xrm 4 97) (n : Nat) : ∀ (a2 : Int32) (a3 : Int32) (a4 : Int32) (s : mS) (r : Int32) (s1 : mS), f9_lacks_l56 N p1 n a2 a3 a4 s = some (r, s1) → X (M, G, mdom, 5) (some (.int r)) (encM G s1) (encM G s) 56 [(0, .ref (G.2.1 0 0)), (2, .int (a2)), (3, .int (a3)), (4, .int (a4))] [] := by
  induction n with
  | zero => intro a2 a3 a4 s r s1 h; exact (Option.some_ne_none _ (Eq.symm h)).elim
  | succ n ih => intro a2 a3 a4 s r s1 h; exact t9_lacks_l56b (N := N) (p1 := p1) C R (k56 := f9_lacks_l56 N p1 n) ih h
set_option maxRecDepth 100000 in
theorem t9_lacks {M : xM} {G : xG} {N : Nat} {p1 : Int32} (C : xC (M, G, mdom, 5) RX9 cX9_lacks (some .int)) (R : xR (M, G, mdom, 5) = xrm 4 97) {s : mS} {r : Int32} {s1 : mS} (h : f9_lacks N p1 s = some (r, s1)) : X (M, G, mdom, 5) (some (.int r)) (encM G s1) (encM G s) 0 [(0, .ref (G.2.1 0 0)), (1, .int (p1))] [] := by
  unfold f9_lacks at h
  refine x_aload_n (j := 0) C dX9_lacks_0 rfl rfl ?_
  refine x_iconst (v := 0) C dX9_lacks_1 (by decide) ?_
  refine pf9_47 C dX9_lacks_2 ?_
  refine x_aload_n (j := 0) C dX9_lacks_5 rfl rfl ?_
  refine x_iload_n (j := 1) C dX9_lacks_6 rfl rfl ?_
  obtain ⟨⟨r7, s7⟩, e7, h⟩ := Option.bind_eq_some_iff.mp h
  try dsimp only at h
  refine k9_68 C dX9_lacks_7 e7 (x_room R rfl) (Nat.le_of_ble_eq_true rfl) ?_
  refine x_if_ne (tgt := 19) C dX9_lacks_10 (by decide) (fun c10 => ?_) (fun c10 => ?_)
  · rw [if_neg c10] at h
    refine x_aload_n (j := 0) C dX9_lacks_19 rfl rfl ?_
    refine x_iconst (v := 0) C dX9_lacks_20 (by decide) ?_
    refine pf9_51 C dX9_lacks_21 ?_
    refine x_aload_n (j := 0) C dX9_lacks_24 rfl rfl ?_
    refine x_iload_n (j := 1) C dX9_lacks_25 rfl rfl ?_
    obtain ⟨s26, e26, h⟩ := Option.bind_eq_some_iff.mp h
    try dsimp only at h
    refine k9_114 C dX9_lacks_26 e26 (x_room R rfl) (Nat.le_of_ble_eq_true rfl) ?_
    refine x_aload_n (j := 0) C dX9_lacks_29 rfl rfl ?_
    obtain ⟨s30, e30, h⟩ := Option.bind_eq_some_iff.mp h
    try dsimp only at h
    refine k9_118 C dX9_lacks_30 e30 (x_room R rfl) (Nat.le_of_ble_eq_true rfl) ?_
    refine x_aload_n (j := 0) C dX9_lacks_33 rfl rfl ?_
    refine gf9_34 C dX9_lacks_34 ?_
    refine x_aload_n (j := 0) C dX9_lacks_37 rfl rfl ?_
    refine gf9_7 C dX9_lacks_38 ?_
    refine x_iconst (v := 0) C dX9_lacks_41 (by decide) ?_
    refine mld1 C dX9_lacks_42 (by decide) ?_
    by_cases g43_1 : inB (s30 0 ((0 : Int32).toNatClampNeg)) 4096 = true
    case neg => rw [if_neg g43_1] at h; cases h
    rw [if_pos g43_1] at h
    refine mld9 C dX9_lacks_43 g43_1 ?_
    refine x_istore_n (i := 2) (ls' := [(2, .int ((s30 16 ((s30 0 ((0 : Int32).toNatClampNeg)).toNatClampNeg)))), (0, .ref (G.2.1 0 0)), (1, .int (p1))]) C dX9_lacks_44 rfl (Nat.le_of_ble_eq_true rfl) rfl ?_
    refine x_iload_n (j := 0) C dX9_lacks_45 rfl rfl ?_
    refine x_if_ge (tgt := 51) C dX9_lacks_46 (by decide) (fun c46 => ?_) (fun c46 => ?_)
    · rw [if_pos c46] at h
      refine x_iconst (v := 0) C dX9_lacks_51 (by decide) ?_
      refine x_istore_n (i := 3) (ls' := [(3, .int (0)), (2, .int ((s30 16 ((s30 0 ((0 : Int32).toNatClampNeg)).toNatClampNeg)))), (0, .ref (G.2.1 0 0)), (1, .int (p1))]) C dX9_lacks_52 rfl (Nat.le_of_ble_eq_true rfl) rfl ?_
      refine x_iconst (v := 0) C dX9_lacks_53 (by decide) ?_
      refine x_istore (i := 4) (ls' := [(4, .int (0)), (3, .int (0)), (2, .int ((s30 16 ((s30 0 ((0 : Int32).toNatClampNeg)).toNatClampNeg)))), (0, .ref (G.2.1 0 0)), (1, .int (p1))]) C dX9_lacks_54 (Nat.le_of_ble_eq_true rfl) rfl ?_
      refine x_sub (ls' := [(0, .ref (G.2.1 0 0)), (2, .int ((s30 16 ((s30 0 ((0 : Int32).toNatClampNeg)).toNatClampNeg)))), (3, .int (0)), (4, .int (0))]) [3, 2, 1, 0] rfl ?_
      exact t9_lacks_l56 (N := N) (p1 := p1) C R N _ _ _ _ _ _ h
    · rw [if_neg c46] at h
      refine x_iconst (v := 0) C dX9_lacks_49 (by decide) ?_
      cases h
      exact x_iret C dX9_lacks_50
  · rw [if_pos c10] at h
    refine x_aload_n (j := 0) C dX9_lacks_13 rfl rfl ?_
    refine x_iconst (v := 2) C dX9_lacks_14 (by decide) ?_
    obtain ⟨⟨r15, s15⟩, e15, h⟩ := Option.bind_eq_some_iff.mp h
    try dsimp only at h
    refine k9_78 C dX9_lacks_15 e15 (x_room R rfl) (Nat.le_of_ble_eq_true rfl) ?_
    cases h
    exact x_iret C dX9_lacks_18
theorem c9_lacks (l : Launch) (G : xG) {N : Nat} {p1 : Int32} {s : mS} {r : Int32} {s1 : mS} (h : f9_lacks N p1 s = some (r, s1)) : xMet l yX9_lacks (x_ws yX9_lacks cX9_lacks 5 (some .int)) (xrm 4 97) G mdom [.ref (G.2.1 0 0), .int (p1)] (encM G s) (some (.int r)) (encM G s1) := by
  refine xMet.of (by decide +kernel) (Nat.le_of_ble_eq_true rfl) ?_
  rintro ⟨M, G', dom', n'⟩ e1 R e3 e4 e5 C
  change G' = G at e3; change dom' = mdom at e4; change n' = 5 at e5
  subst e3; subst e4; subst e5
  exact t9_lacks C R h
set_option maxRecDepth 100000 in
theorem t9_backOf_l2b {M : xM} {G : xG} {N : Nat}  (C : xC (M, G, mdom, 2) RX9 cX9_backOf (some .int)) (R : xR (M, G, mdom, 2) = xrm 0 0) {k2 : Int32 → mS → Option (Int32 × mS)} (hk2 : ∀ (a1 : Int32) (s : mS) (r : Int32) (s1 : mS), k2 a1 s = some (r, s1) → X (M, G, mdom, 2) (some (.int r)) (encM G s1) (encM G s) 2 [(0, .ref (G.2.1 0 0)), (1, .int (a1))] []) {a1 : Int32} {s : mS} {r : Int32} {s1 : mS} (h : f9_backOf_l2b N k2 a1 s = some (r, s1)) : X (M, G, mdom, 2) (some (.int r)) (encM G s1) (encM G s) 2 [(0, .ref (G.2.1 0 0)), (1, .int (a1))] [] := by
  unfold f9_backOf_l2b at h
  refine x_iload_n (j := 1) C dX9_backOf_2 rfl rfl ?_
  refine x_aload_n (j := 0) C dX9_backOf_3 rfl rfl ?_
  refine gf9_7 C dX9_backOf_4 ?_
  refine x_iconst (v := 0) C dX9_backOf_7 (by decide) ?_
  refine mld1 C dX9_backOf_8 (by decide) ?_
  refine x_icmp_gt (tgt := 37) C dX9_backOf_9 (by decide) (fun c9 => ?_) (fun c9 => ?_)
  · rw [if_pos c9] at h
    refine x_bipush (v := (-2)) C dX9_backOf_37 (by decide) ?_
    cases h
    exact x_iret C dX9_backOf_39
  · rw [if_neg c9] at h
    refine x_aload_n (j := 0) C dX9_backOf_12 rfl rfl ?_
    refine gf9_31 C dX9_backOf_13 ?_
    refine x_iload_n (j := 1) C dX9_backOf_16 rfl rfl ?_
    by_cases g17_1 : inB a1 4096 = true
    case neg => rw [if_neg g17_1] at h; cases h
    rw [if_pos g17_1] at h
    refine mld8 C dX9_backOf_17 g17_1 ?_
    refine x_aload_n (j := 0) C dX9_backOf_18 rfl rfl ?_
    refine gf9_31 C dX9_backOf_19 ?_
    refine x_iload_n (j := 1) C dX9_backOf_22 rfl rfl ?_
    refine x_iconst (v := 1) C dX9_backOf_23 (by decide) ?_
    refine x_isub C dX9_backOf_24 ?_
    by_cases g25_2 : inB (a1 - 1) 4096 = true
    case neg => rw [if_neg g25_2] at h; cases h
    rw [if_pos g25_2] at h
    refine mld8 C dX9_backOf_25 g25_2 ?_
    refine x_icmp_ge (tgt := 31) C dX9_backOf_26 (by decide) (fun c26 => ?_) (fun c26 => ?_)
    · rw [if_pos c26] at h
      refine x_iinc (j := 1) (v := (a1 + 1)) (ls' := [(1, .int ((a1 + 1))), (0, .ref (G.2.1 0 0))]) C dX9_backOf_31 rfl rfl (Nat.le_of_ble_eq_true rfl) rfl ?_
      refine x_goto (tgt := 2) C dX9_backOf_34 (by decide) ?_
      refine x_sub (ls' := [(0, .ref (G.2.1 0 0)), (1, .int ((a1 + 1)))]) [1, 0] rfl ?_
      exact hk2 _ _ _ _ h
    · rw [if_neg c26] at h
      refine x_iload_n (j := 1) C dX9_backOf_29 rfl rfl ?_
      cases h
      exact x_iret C dX9_backOf_30
theorem t9_backOf_l2 {M : xM} {G : xG} {N : Nat}  (C : xC (M, G, mdom, 2) RX9 cX9_backOf (some .int)) (R : xR (M, G, mdom, 2) = xrm 0 0) (n : Nat) : ∀ (a1 : Int32) (s : mS) (r : Int32) (s1 : mS), f9_backOf_l2 N n a1 s = some (r, s1) → X (M, G, mdom, 2) (some (.int r)) (encM G s1) (encM G s) 2 [(0, .ref (G.2.1 0 0)), (1, .int (a1))] [] := by
  induction n with
  | zero => intro a1 s r s1 h; exact (Option.some_ne_none _ (Eq.symm h)).elim
  | succ n ih => intro a1 s r s1 h; exact t9_backOf_l2b (N := N) C R (k2 := f9_backOf_l2 N n) ih h
set_option maxRecDepth 100000 in
theorem t9_backOf {M : xM} {G : xG} {N : Nat}  (C : xC (M, G, mdom, 2) RX9 cX9_backOf (some .int)) (R : xR (M, G, mdom, 2) = xrm 0 0) {s : mS} {r : Int32} {s1 : mS} (h : f9_backOf N s = some (r, s1)) : X (M, G, mdom, 2) (some (.int r)) (encM G s1) (encM G s) 0 [(0, .ref (G.2.1 0 0))] [] := by
  unfold f9_backOf at h
  refine x_iconst (v := 1) C dX9_backOf_0 (by decide) ?_
  refine x_istore_n (i := 1) (ls' := [(1, .int (1)), (0, .ref (G.2.1 0 0))]) C dX9_backOf_1 rfl (Nat.le_of_ble_eq_true rfl) rfl ?_
  refine x_sub (ls' := [(0, .ref (G.2.1 0 0)), (1, .int (1))]) [1, 0] rfl ?_
  exact t9_backOf_l2 (N := N) C R N _ _ _ _ h
theorem c9_backOf (l : Launch) (G : xG) {N : Nat}  {s : mS} {r : Int32} {s1 : mS} (h : f9_backOf N s = some (r, s1)) : xMet l yX9_backOf (x_ws yX9_backOf cX9_backOf 2 (some .int)) (xrm 0 0) G mdom [.ref (G.2.1 0 0)] (encM G s) (some (.int r)) (encM G s1) := by
  refine xMet.of (by decide +kernel) (Nat.le_of_ble_eq_true rfl) ?_
  rintro ⟨M, G', dom', n'⟩ e1 R e3 e4 e5 C
  change G' = G at e3; change dom' = mdom at e4; change n' = 2 at e5
  subst e3; subst e4; subst e5
  exact t9_backOf C R h
theorem k9_121 {M : xM} {G : xG} {n : Nat} {rv : Option Value} {E' : xE} {cc : ByteArray} {ret : Option FieldType} {pc : Nat} {ls : List (Nat × Value)} {st : List Value} {N : Nat} {s s1 : mS} {r : Int32} (C : xC (M, G, mdom, n) RX9 cc ret) (d : decode cc pc = .ok (.invokevirtual 121, 3)) (h : f9_backOf N s = some (r, s1)) (hR : (xrm 0 0).frames + 1 ≤ (xR (M, G, mdom, n)).frames ∧ 8 + (2 + 11) + (xrm 0 0).locals ≤ (xR (M, G, mdom, n)).locals) (hw : (st.map fun v => v.category).sum ≤ 8) (k : X (M, G, mdom, n) rv E' (encM G s1) (pc + 3) ls (.int r :: st)) : X (M, G, mdom, n) rv E' (encM G s) pc ls (.ref (G.2.1 0 0) :: st) :=
  x_callV (As := []) (n := 0) C d (c9_backOf (xl (M, G, mdom, n)) G h) lk922 lk924 lk70 lk87 lk925 ⟨rfl, rfl⟩ ⟨by decide +kernel, by decide +kernel, by decide +kernel⟩ rfl hR rfl rfl rfl rfl hw k
set_option maxRecDepth 100000 in
theorem t9_back {M : xM} {G : xG} {N : Nat} {p1 : Int32} (C : xC (M, G, mdom, 2) RX9 cX9_back (some .int)) (R : xR (M, G, mdom, 2) = xrm 4 97) {s : mS} {r : Int32} {s1 : mS} (h : f9_back N p1 s = some (r, s1)) : X (M, G, mdom, 2) (some (.int r)) (encM G s1) (encM G s) 0 [(0, .ref (G.2.1 0 0)), (1, .int (p1))] [] := by
  unfold f9_back at h
  refine x_aload_n (j := 0) C dX9_back_0 rfl rfl ?_
  refine x_iconst (v := 0) C dX9_back_1 (by decide) ?_
  refine pf9_47 C dX9_back_2 ?_
  refine x_aload_n (j := 0) C dX9_back_5 rfl rfl ?_
  refine x_iload_n (j := 1) C dX9_back_6 rfl rfl ?_
  obtain ⟨⟨r7, s7⟩, e7, h⟩ := Option.bind_eq_some_iff.mp h
  try dsimp only at h
  refine k9_68 C dX9_back_7 e7 (x_room R rfl) (Nat.le_of_ble_eq_true rfl) ?_
  refine x_if_ne (tgt := 19) C dX9_back_10 (by decide) (fun c10 => ?_) (fun c10 => ?_)
  · rw [if_neg c10] at h
    refine x_aload_n (j := 0) C dX9_back_19 rfl rfl ?_
    refine x_iconst (v := 0) C dX9_back_20 (by decide) ?_
    refine pf9_51 C dX9_back_21 ?_
    refine x_aload_n (j := 0) C dX9_back_24 rfl rfl ?_
    refine x_iload_n (j := 1) C dX9_back_25 rfl rfl ?_
    obtain ⟨s26, e26, h⟩ := Option.bind_eq_some_iff.mp h
    try dsimp only at h
    refine k9_114 C dX9_back_26 e26 (x_room R rfl) (Nat.le_of_ble_eq_true rfl) ?_
    refine x_aload_n (j := 0) C dX9_back_29 rfl rfl ?_
    obtain ⟨⟨r30, s30⟩, e30, h⟩ := Option.bind_eq_some_iff.mp h
    try dsimp only at h
    refine k9_121 C dX9_back_30 e30 (x_room R rfl) (Nat.le_of_ble_eq_true rfl) ?_
    cases h
    exact x_iret C dX9_back_33
  · rw [if_pos c10] at h
    refine x_aload_n (j := 0) C dX9_back_13 rfl rfl ?_
    refine x_iconst (v := 2) C dX9_back_14 (by decide) ?_
    obtain ⟨⟨r15, s15⟩, e15, h⟩ := Option.bind_eq_some_iff.mp h
    try dsimp only at h
    refine k9_78 C dX9_back_15 e15 (x_room R rfl) (Nat.le_of_ble_eq_true rfl) ?_
    cases h
    exact x_iret C dX9_back_18
theorem c9_back (l : Launch) (G : xG) {N : Nat} {p1 : Int32} {s : mS} {r : Int32} {s1 : mS} (h : f9_back N p1 s = some (r, s1)) : xMet l yX9_back (x_ws yX9_back cX9_back 2 (some .int)) (xrm 4 97) G mdom [.ref (G.2.1 0 0), .int (p1)] (encM G s) (some (.int r)) (encM G s1) := by
  refine xMet.of (by decide +kernel) (Nat.le_of_ble_eq_true rfl) ?_
  rintro ⟨M, G', dom', n'⟩ e1 R e3 e4 e5 C
  change G' = G at e3; change dom' = mdom at e4; change n' = 2 at e5
  subst e3; subst e4; subst e5
  exact t9_back C R h
set_option maxRecDepth 100000 in
theorem t9_widest_b88 {M : xM} {G : xG} {N : Nat} {p1 : Int32} (C : xC (M, G, mdom, 7) RX9 cX9_widest (some .int)) (R : xR (M, G, mdom, 7) = xrm 4 97) {k42 : Int32 → Int32 → Int32 → Int32 → Int32 → mS → Option (Int32 × mS)} (hk42 : ∀ (a2 : Int32) (a3 : Int32) (a4 : Int32) (a5 : Int32) (a6 : Int32) (s : mS) (r : Int32) (s1 : mS), k42 a2 a3 a4 a5 a6 s = some (r, s1) → X (M, G, mdom, 7) (some (.int r)) (encM G s1) (encM G s) 42 [(0, .ref (G.2.1 0 0)), (2, .int (a2)), (3, .int (a3)), (4, .int (a4)), (5, .int (a5)), (6, .int (a6))] []) {a2 : Int32} {a3 : Int32} {a4 : Int32} {a5 : Int32} {a6 : Int32} {s : mS} {r : Int32} {s1 : mS} (h : f9_widest_b88 N p1 k42 a2 a3 a4 a5 a6 s = some (r, s1)) : X (M, G, mdom, 7) (some (.int r)) (encM G s1) (encM G s) 88 [(0, .ref (G.2.1 0 0)), (2, .int (a2)), (3, .int (a3)), (4, .int (a4)), (5, .int (a5)), (6, .int (a6))] [] := by
  unfold f9_widest_b88 at h
  refine x_iload (j := 5) C dX9_widest_88 rfl ?_
  refine x_iload (j := 4) C dX9_widest_90 rfl ?_
  refine x_isub C dX9_widest_92 ?_
  refine x_iload_n (j := 1) C dX9_widest_93 rfl rfl ?_
  refine x_icmp_le (tgt := 106) C dX9_widest_94 (by decide) (fun c94 => ?_) (fun c94 => ?_)
  · rw [if_pos c94] at h
    refine x_iinc (j := 3) (v := (a4 + 1)) (ls' := [(4, .int ((a4 + 1))), (0, .ref (G.2.1 0 0)), (2, .int (a2)), (3, .int (a3)), (5, .int (a5)), (6, .int (a6))]) C dX9_widest_106 rfl rfl (Nat.le_of_ble_eq_true rfl) rfl ?_
    refine x_iload (j := 5) C dX9_widest_109 rfl ?_
    refine x_istore (i := 5) (ls' := [(5, .int (a6)), (4, .int ((a4 + 1))), (0, .ref (G.2.1 0 0)), (2, .int (a2)), (3, .int (a3)), (6, .int (a6))]) C dX9_widest_111 (Nat.le_of_ble_eq_true rfl) rfl ?_
    refine x_iinc (j := 5) (v := (a6 + 1)) (ls' := [(6, .int ((a6 + 1))), (5, .int (a6)), (4, .int ((a4 + 1))), (0, .ref (G.2.1 0 0)), (2, .int (a2)), (3, .int (a3))]) C dX9_widest_113 rfl rfl (Nat.le_of_ble_eq_true rfl) rfl ?_
    refine x_goto (tgt := 42) C dX9_widest_116 (by decide) ?_
    refine x_sub (ls' := [(0, .ref (G.2.1 0 0)), (2, .int (a2)), (3, .int (a3)), (4, .int ((a4 + 1))), (5, .int (a6)), (6, .int ((a6 + 1)))]) [3, 4, 5, 2, 1, 0] rfl ?_
    exact hk42 _ _ _ _ _ _ _ _ h
  · rw [if_neg c94] at h
    refine x_iload (j := 5) C dX9_widest_97 rfl ?_
    refine x_iload (j := 4) C dX9_widest_99 rfl ?_
    refine x_isub C dX9_widest_101 ?_
    refine x_istore_n (i := 2) (ls' := [(2, .int ((a6 - a5))), (0, .ref (G.2.1 0 0)), (3, .int (a3)), (4, .int (a4)), (5, .int (a5)), (6, .int (a6))]) C dX9_widest_102 rfl (Nat.le_of_ble_eq_true rfl) rfl ?_
    refine x_iload (j := 3) C dX9_widest_103 rfl ?_
    refine x_istore_n (i := 3) (ls' := [(3, .int (a4)), (2, .int ((a6 - a5))), (0, .ref (G.2.1 0 0)), (4, .int (a4)), (5, .int (a5)), (6, .int (a6))]) C dX9_widest_105 rfl (Nat.le_of_ble_eq_true rfl) rfl ?_
    refine x_iinc (j := 3) (v := (a4 + 1)) (ls' := [(4, .int ((a4 + 1))), (3, .int (a4)), (2, .int ((a6 - a5))), (0, .ref (G.2.1 0 0)), (5, .int (a5)), (6, .int (a6))]) C dX9_widest_106 rfl rfl (Nat.le_of_ble_eq_true rfl) rfl ?_
    refine x_iload (j := 5) C dX9_widest_109 rfl ?_
    refine x_istore (i := 5) (ls' := [(5, .int (a6)), (4, .int ((a4 + 1))), (3, .int (a4)), (2, .int ((a6 - a5))), (0, .ref (G.2.1 0 0)), (6, .int (a6))]) C dX9_widest_111 (Nat.le_of_ble_eq_true rfl) rfl ?_
    refine x_iinc (j := 5) (v := (a6 + 1)) (ls' := [(6, .int ((a6 + 1))), (5, .int (a6)), (4, .int ((a4 + 1))), (3, .int (a4)), (2, .int ((a6 - a5))), (0, .ref (G.2.1 0 0))]) C dX9_widest_113 rfl rfl (Nat.le_of_ble_eq_true rfl) rfl ?_
    refine x_goto (tgt := 42) C dX9_widest_116 (by decide) ?_
    refine x_sub (ls' := [(0, .ref (G.2.1 0 0)), (2, .int ((a6 - a5))), (3, .int (a4)), (4, .int ((a4 + 1))), (5, .int (a6)), (6, .int ((a6 + 1)))]) [5, 4, 3, 2, 1, 0] rfl ?_
    exact hk42 _ _ _ _ _ _ _ _ h
set_option maxRecDepth 100000 in
theorem t9_widest_l42b {M : xM} {G : xG} {N : Nat} {p1 : Int32} (C : xC (M, G, mdom, 7) RX9 cX9_widest (some .int)) (R : xR (M, G, mdom, 7) = xrm 4 97) {k42 : Int32 → Int32 → Int32 → Int32 → Int32 → mS → Option (Int32 × mS)} (hk42 : ∀ (a2 : Int32) (a3 : Int32) (a4 : Int32) (a5 : Int32) (a6 : Int32) (s : mS) (r : Int32) (s1 : mS), k42 a2 a3 a4 a5 a6 s = some (r, s1) → X (M, G, mdom, 7) (some (.int r)) (encM G s1) (encM G s) 42 [(0, .ref (G.2.1 0 0)), (2, .int (a2)), (3, .int (a3)), (4, .int (a4)), (5, .int (a5)), (6, .int (a6))] []) {a2 : Int32} {a3 : Int32} {a4 : Int32} {a5 : Int32} {a6 : Int32} {s : mS} {r : Int32} {s1 : mS} (h : f9_widest_l42b N p1 k42 a2 a3 a4 a5 a6 s = some (r, s1)) : X (M, G, mdom, 7) (some (.int r)) (encM G s1) (encM G s) 42 [(0, .ref (G.2.1 0 0)), (2, .int (a2)), (3, .int (a3)), (4, .int (a4)), (5, .int (a5)), (6, .int (a6))] [] := by
  unfold f9_widest_l42b at h
  refine x_iload (j := 5) C dX9_widest_42 rfl ?_
  refine x_aload_n (j := 0) C dX9_widest_44 rfl rfl ?_
  refine gf9_7 C dX9_widest_45 ?_
  refine x_iconst (v := 0) C dX9_widest_48 (by decide) ?_
  refine mld1 C dX9_widest_49 (by decide) ?_
  refine x_iconst (v := 1) C dX9_widest_50 (by decide) ?_
  refine x_iadd C dX9_widest_51 ?_
  refine x_icmp_gt (tgt := 119) C dX9_widest_52 (by decide) (fun c52 => ?_) (fun c52 => ?_)
  · rw [if_pos c52] at h
    refine x_sipush (v := 10000) C dX9_widest_119 (by decide) ?_
    refine x_iload_n (j := 1) C dX9_widest_122 rfl rfl ?_
    refine x_imul C dX9_widest_123 ?_
    refine x_iload_n (j := 2) C dX9_widest_124 rfl rfl ?_
    refine x_iadd C dX9_widest_125 ?_
    cases h
    exact x_iret C dX9_widest_126
  · rw [if_neg c52] at h
    refine x_iload (j := 5) C dX9_widest_55 rfl ?_
    refine x_aload_n (j := 0) C dX9_widest_57 rfl rfl ?_
    refine gf9_7 C dX9_widest_58 ?_
    refine x_iconst (v := 0) C dX9_widest_61 (by decide) ?_
    refine mld1 C dX9_widest_62 (by decide) ?_
    refine x_icmp_gt (tgt := 88) C dX9_widest_63 (by decide) (fun c63 => ?_) (fun c63 => ?_)
    · rw [if_pos c63] at h
      exact t9_widest_b88 (N := N) (p1 := p1) C R hk42 h
    · rw [if_neg c63] at h
      refine x_aload_n (j := 0) C dX9_widest_66 rfl rfl ?_
      refine gf9_31 C dX9_widest_67 ?_
      refine x_iload (j := 5) C dX9_widest_70 rfl ?_
      by_cases g72_1 : inB a6 4096 = true
      case neg => rw [if_neg g72_1] at h; cases h
      rw [if_pos g72_1] at h
      refine mld8 C dX9_widest_72 g72_1 ?_
      refine x_aload_n (j := 0) C dX9_widest_73 rfl rfl ?_
      refine gf9_31 C dX9_widest_74 ?_
      refine x_iload (j := 5) C dX9_widest_77 rfl ?_
      refine x_iconst (v := 1) C dX9_widest_79 (by decide) ?_
      refine x_isub C dX9_widest_80 ?_
      by_cases g81_2 : inB (a6 - 1) 4096 = true
      case neg => rw [if_neg g81_2] at h; cases h
      rw [if_pos g81_2] at h
      refine mld8 C dX9_widest_81 g81_2 ?_
      refine x_icmp_ne (tgt := 88) C dX9_widest_82 (by decide) (fun c82 => ?_) (fun c82 => ?_)
      · rw [if_neg c82] at h
        exact t9_widest_b88 (N := N) (p1 := p1) C R hk42 h
      · rw [if_pos c82] at h
        refine x_goto (tgt := 113) C dX9_widest_85 (by decide) ?_
        refine x_iinc (j := 5) (v := (a6 + 1)) (ls' := [(6, .int ((a6 + 1))), (0, .ref (G.2.1 0 0)), (2, .int (a2)), (3, .int (a3)), (4, .int (a4)), (5, .int (a5))]) C dX9_widest_113 rfl rfl (Nat.le_of_ble_eq_true rfl) rfl ?_
        refine x_goto (tgt := 42) C dX9_widest_116 (by decide) ?_
        refine x_sub (ls' := [(0, .ref (G.2.1 0 0)), (2, .int (a2)), (3, .int (a3)), (4, .int (a4)), (5, .int (a5)), (6, .int ((a6 + 1)))]) [1, 2, 3, 4, 5, 0] rfl ?_
        exact hk42 _ _ _ _ _ _ _ _ h
theorem t9_widest_l42 {M : xM} {G : xG} {N : Nat} {p1 : Int32} (C : xC (M, G, mdom, 7) RX9 cX9_widest (some .int)) (R : xR (M, G, mdom, 7) = xrm 4 97) (n : Nat) : ∀ (a2 : Int32) (a3 : Int32) (a4 : Int32) (a5 : Int32) (a6 : Int32) (s : mS) (r : Int32) (s1 : mS), f9_widest_l42 N p1 n a2 a3 a4 a5 a6 s = some (r, s1) → X (M, G, mdom, 7) (some (.int r)) (encM G s1) (encM G s) 42 [(0, .ref (G.2.1 0 0)), (2, .int (a2)), (3, .int (a3)), (4, .int (a4)), (5, .int (a5)), (6, .int (a6))] [] := by
  induction n with
  | zero => intro a2 a3 a4 a5 a6 s r s1 h; exact (Option.some_ne_none _ (Eq.symm h)).elim
  | succ n ih => intro a2 a3 a4 a5 a6 s r s1 h; exact t9_widest_l42b (N := N) (p1 := p1) C R (k42 := f9_widest_l42 N p1 n) ih h
set_option maxRecDepth 100000 in
theorem t9_widest {M : xM} {G : xG} {N : Nat} {p1 : Int32} (C : xC (M, G, mdom, 7) RX9 cX9_widest (some .int)) (R : xR (M, G, mdom, 7) = xrm 4 97) {s : mS} {r : Int32} {s1 : mS} (h : f9_widest N p1 s = some (r, s1)) : X (M, G, mdom, 7) (some (.int r)) (encM G s1) (encM G s) 0 [(0, .ref (G.2.1 0 0)), (1, .int (p1))] [] := by
  unfold f9_widest at h
  refine x_aload_n (j := 0) C dX9_widest_0 rfl rfl ?_
  refine x_iconst (v := 0) C dX9_widest_1 (by decide) ?_
  refine pf9_47 C dX9_widest_2 ?_
  refine x_aload_n (j := 0) C dX9_widest_5 rfl rfl ?_
  refine x_iload_n (j := 1) C dX9_widest_6 rfl rfl ?_
  obtain ⟨⟨r7, s7⟩, e7, h⟩ := Option.bind_eq_some_iff.mp h
  try dsimp only at h
  refine k9_68 C dX9_widest_7 e7 (x_room R rfl) (Nat.le_of_ble_eq_true rfl) ?_
  refine x_if_ne (tgt := 19) C dX9_widest_10 (by decide) (fun c10 => ?_) (fun c10 => ?_)
  · rw [if_neg c10] at h
    refine x_aload_n (j := 0) C dX9_widest_19 rfl rfl ?_
    refine x_iconst (v := 0) C dX9_widest_20 (by decide) ?_
    refine pf9_51 C dX9_widest_21 ?_
    refine x_aload_n (j := 0) C dX9_widest_24 rfl rfl ?_
    refine x_iload_n (j := 1) C dX9_widest_25 rfl rfl ?_
    obtain ⟨s26, e26, h⟩ := Option.bind_eq_some_iff.mp h
    try dsimp only at h
    refine k9_114 C dX9_widest_26 e26 (x_room R rfl) (Nat.le_of_ble_eq_true rfl) ?_
    refine x_iconst (v := 0) C dX9_widest_29 (by decide) ?_
    refine x_istore_n (i := 2) (ls' := [(2, .int (0)), (0, .ref (G.2.1 0 0)), (1, .int (p1))]) C dX9_widest_30 rfl (Nat.le_of_ble_eq_true rfl) rfl ?_
    refine x_iconst (v := 0) C dX9_widest_31 (by decide) ?_
    refine x_istore_n (i := 3) (ls' := [(3, .int (0)), (2, .int (0)), (0, .ref (G.2.1 0 0)), (1, .int (p1))]) C dX9_widest_32 rfl (Nat.le_of_ble_eq_true rfl) rfl ?_
    refine x_iconst (v := 0) C dX9_widest_33 (by decide) ?_
    refine x_istore (i := 4) (ls' := [(4, .int (0)), (3, .int (0)), (2, .int (0)), (0, .ref (G.2.1 0 0)), (1, .int (p1))]) C dX9_widest_34 (Nat.le_of_ble_eq_true rfl) rfl ?_
    refine x_iconst (v := 0) C dX9_widest_36 (by decide) ?_
    refine x_istore (i := 5) (ls' := [(5, .int (0)), (4, .int (0)), (3, .int (0)), (2, .int (0)), (0, .ref (G.2.1 0 0)), (1, .int (p1))]) C dX9_widest_37 (Nat.le_of_ble_eq_true rfl) rfl ?_
    refine x_iconst (v := 1) C dX9_widest_39 (by decide) ?_
    refine x_istore (i := 6) (ls' := [(6, .int (1)), (5, .int (0)), (4, .int (0)), (3, .int (0)), (2, .int (0)), (0, .ref (G.2.1 0 0)), (1, .int (p1))]) C dX9_widest_40 (Nat.le_of_ble_eq_true rfl) rfl ?_
    refine x_sub (ls' := [(0, .ref (G.2.1 0 0)), (2, .int (0)), (3, .int (0)), (4, .int (0)), (5, .int (0)), (6, .int (1))]) [5, 4, 3, 2, 1, 0] rfl ?_
    exact t9_widest_l42 (N := N) (p1 := p1) C R N _ _ _ _ _ _ _ _ h
  · rw [if_pos c10] at h
    refine x_aload_n (j := 0) C dX9_widest_13 rfl rfl ?_
    refine x_iconst (v := 2) C dX9_widest_14 (by decide) ?_
    obtain ⟨⟨r15, s15⟩, e15, h⟩ := Option.bind_eq_some_iff.mp h
    try dsimp only at h
    refine k9_78 C dX9_widest_15 e15 (x_room R rfl) (Nat.le_of_ble_eq_true rfl) ?_
    cases h
    exact x_iret C dX9_widest_18
theorem c9_widest (l : Launch) (G : xG) {N : Nat} {p1 : Int32} {s : mS} {r : Int32} {s1 : mS} (h : f9_widest N p1 s = some (r, s1)) : xMet l yX9_widest (x_ws yX9_widest cX9_widest 7 (some .int)) (xrm 4 97) G mdom [.ref (G.2.1 0 0), .int (p1)] (encM G s) (some (.int r)) (encM G s1) := by
  refine xMet.of (by decide +kernel) (Nat.le_of_ble_eq_true rfl) ?_
  rintro ⟨M, G', dom', n'⟩ e1 R e3 e4 e5 C
  change G' = G at e3; change dom' = mdom at e4; change n' = 7 at e5
  subst e3; subst e4; subst e5
  exact t9_widest C R h
set_option maxRecDepth 100000 in
theorem t9_edgeOf_l2b {M : xM} {G : xG} {N : Nat} {p1 : Int32} (C : xC (M, G, mdom, 3) RX9 cX9_edgeOf (some .int)) (R : xR (M, G, mdom, 3) = xrm 0 0) {k2 : Int32 → mS → Option (Int32 × mS)} (hk2 : ∀ (a2 : Int32) (s : mS) (r : Int32) (s1 : mS), k2 a2 s = some (r, s1) → X (M, G, mdom, 3) (some (.int r)) (encM G s1) (encM G s) 2 [(0, .ref (G.2.1 0 0)), (1, .int (p1)), (2, .int (a2))] []) {a2 : Int32} {s : mS} {r : Int32} {s1 : mS} (h : f9_edgeOf_l2b N p1 k2 a2 s = some (r, s1)) : X (M, G, mdom, 3) (some (.int r)) (encM G s1) (encM G s) 2 [(0, .ref (G.2.1 0 0)), (1, .int (p1)), (2, .int (a2))] [] := by
  unfold f9_edgeOf_l2b at h
  refine x_iload_n (j := 2) C dX9_edgeOf_2 rfl rfl ?_
  refine x_aload_n (j := 0) C dX9_edgeOf_3 rfl rfl ?_
  refine gf9_7 C dX9_edgeOf_4 ?_
  refine x_iconst (v := 0) C dX9_edgeOf_7 (by decide) ?_
  refine mld1 C dX9_edgeOf_8 (by decide) ?_
  refine x_icmp_gt (tgt := 28) C dX9_edgeOf_9 (by decide) (fun c9 => ?_) (fun c9 => ?_)
  · rw [if_pos c9] at h
    refine x_iload_n (j := 2) C dX9_edgeOf_28 rfl rfl ?_
    cases h
    exact x_iret C dX9_edgeOf_29
  · rw [if_neg c9] at h
    refine x_aload_n (j := 0) C dX9_edgeOf_12 rfl rfl ?_
    refine gf9_31 C dX9_edgeOf_13 ?_
    refine x_iload_n (j := 2) C dX9_edgeOf_16 rfl rfl ?_
    by_cases g17_1 : inB a2 4096 = true
    case neg => rw [if_neg g17_1] at h; cases h
    rw [if_pos g17_1] at h
    refine mld8 C dX9_edgeOf_17 g17_1 ?_
    refine x_iload_n (j := 1) C dX9_edgeOf_18 rfl rfl ?_
    refine x_icmp_ge (tgt := 28) C dX9_edgeOf_19 (by decide) (fun c19 => ?_) (fun c19 => ?_)
    · rw [if_pos c19] at h
      refine x_iload_n (j := 2) C dX9_edgeOf_28 rfl rfl ?_
      cases h
      exact x_iret C dX9_edgeOf_29
    · rw [if_neg c19] at h
      refine x_iinc (j := 2) (v := (a2 + 1)) (ls' := [(2, .int ((a2 + 1))), (0, .ref (G.2.1 0 0)), (1, .int (p1))]) C dX9_edgeOf_22 rfl rfl (Nat.le_of_ble_eq_true rfl) rfl ?_
      refine x_goto (tgt := 2) C dX9_edgeOf_25 (by decide) ?_
      refine x_sub (ls' := [(0, .ref (G.2.1 0 0)), (1, .int (p1)), (2, .int ((a2 + 1)))]) [1, 2, 0] rfl ?_
      exact hk2 _ _ _ _ h
theorem t9_edgeOf_l2 {M : xM} {G : xG} {N : Nat} {p1 : Int32} (C : xC (M, G, mdom, 3) RX9 cX9_edgeOf (some .int)) (R : xR (M, G, mdom, 3) = xrm 0 0) (n : Nat) : ∀ (a2 : Int32) (s : mS) (r : Int32) (s1 : mS), f9_edgeOf_l2 N p1 n a2 s = some (r, s1) → X (M, G, mdom, 3) (some (.int r)) (encM G s1) (encM G s) 2 [(0, .ref (G.2.1 0 0)), (1, .int (p1)), (2, .int (a2))] [] := by
  induction n with
  | zero => intro a2 s r s1 h; exact (Option.some_ne_none _ (Eq.symm h)).elim
  | succ n ih => intro a2 s r s1 h; exact t9_edgeOf_l2b (N := N) (p1 := p1) C R (k2 := f9_edgeOf_l2 N p1 n) ih h
set_option maxRecDepth 100000 in
theorem t9_edgeOf {M : xM} {G : xG} {N : Nat} {p1 : Int32} (C : xC (M, G, mdom, 3) RX9 cX9_edgeOf (some .int)) (R : xR (M, G, mdom, 3) = xrm 0 0) {s : mS} {r : Int32} {s1 : mS} (h : f9_edgeOf N p1 s = some (r, s1)) : X (M, G, mdom, 3) (some (.int r)) (encM G s1) (encM G s) 0 [(0, .ref (G.2.1 0 0)), (1, .int (p1))] [] := by
  unfold f9_edgeOf at h
  refine x_iconst (v := 0) C dX9_edgeOf_0 (by decide) ?_
  refine x_istore_n (i := 2) (ls' := [(2, .int (0)), (0, .ref (G.2.1 0 0)), (1, .int (p1))]) C dX9_edgeOf_1 rfl (Nat.le_of_ble_eq_true rfl) rfl ?_
  refine x_sub (ls' := [(0, .ref (G.2.1 0 0)), (1, .int (p1)), (2, .int (0))]) [1, 2, 0] rfl ?_
  exact t9_edgeOf_l2 (N := N) (p1 := p1) C R N _ _ _ _ h
theorem c9_edgeOf (l : Launch) (G : xG) {N : Nat} {p1 : Int32} {s : mS} {r : Int32} {s1 : mS} (h : f9_edgeOf N p1 s = some (r, s1)) : xMet l yX9_edgeOf (x_ws yX9_edgeOf cX9_edgeOf 3 (some .int)) (xrm 0 0) G mdom [.ref (G.2.1 0 0), .int (p1)] (encM G s) (some (.int r)) (encM G s1) := by
  refine xMet.of (by decide +kernel) (Nat.le_of_ble_eq_true rfl) ?_
  rintro ⟨M, G', dom', n'⟩ e1 R e3 e4 e5 C
  change G' = G at e3; change dom' = mdom at e4; change n' = 3 at e5
  subst e3; subst e4; subst e5
  exact t9_edgeOf C R h
theorem k9_125 {M : xM} {G : xG} {n : Nat} {rv : Option Value} {E' : xE} {cc : ByteArray} {ret : Option FieldType} {pc : Nat} {ls : List (Nat × Value)} {st : List Value} {N : Nat} {p1 : Int32} {s s1 : mS} {r : Int32} (C : xC (M, G, mdom, n) RX9 cc ret) (d : decode cc pc = .ok (.invokevirtual 125, 3)) (h : f9_edgeOf N p1 s = some (r, s1)) (hR : (xrm 0 0).frames + 1 ≤ (xR (M, G, mdom, n)).frames ∧ 8 + (3 + 11) + (xrm 0 0).locals ≤ (xR (M, G, mdom, n)).locals) (hw : (st.map fun v => v.category).sum ≤ 8) (k : X (M, G, mdom, n) rv E' (encM G s1) (pc + 3) ls (.int r :: st)) : X (M, G, mdom, n) rv E' (encM G s) pc ls (.int (p1) :: .ref (G.2.1 0 0) :: st) :=
  x_callV (As := [.int (p1)]) (n := 1) C d (c9_edgeOf (xl (M, G, mdom, n)) G h) lk934 lk936 lk71 lk87 lk937 ⟨rfl, rfl⟩ ⟨by decide +kernel, by decide +kernel, by decide +kernel⟩ rfl hR rfl rfl rfl rfl hw k
set_option maxRecDepth 100000 in
theorem t9_edge {M : xM} {G : xG} {N : Nat} {p1 : Int32} {p2 : Int32} (C : xC (M, G, mdom, 3) RX9 cX9_edge (some .int)) (R : xR (M, G, mdom, 3) = xrm 4 97) {s : mS} {r : Int32} {s1 : mS} (h : f9_edge N p1 p2 s = some (r, s1)) : X (M, G, mdom, 3) (some (.int r)) (encM G s1) (encM G s) 0 [(0, .ref (G.2.1 0 0)), (1, .int (p1)), (2, .int (p2))] [] := by
  unfold f9_edge at h
  refine x_aload_n (j := 0) C dX9_edge_0 rfl rfl ?_
  refine x_iconst (v := 0) C dX9_edge_1 (by decide) ?_
  refine pf9_47 C dX9_edge_2 ?_
  refine x_aload_n (j := 0) C dX9_edge_5 rfl rfl ?_
  refine x_iload_n (j := 1) C dX9_edge_6 rfl rfl ?_
  obtain ⟨⟨r7, s7⟩, e7, h⟩ := Option.bind_eq_some_iff.mp h
  try dsimp only at h
  refine k9_68 C dX9_edge_7 e7 (x_room R rfl) (Nat.le_of_ble_eq_true rfl) ?_
  refine x_if_ne (tgt := 19) C dX9_edge_10 (by decide) (fun c10 => ?_) (fun c10 => ?_)
  · rw [if_neg c10] at h
    refine x_aload_n (j := 0) C dX9_edge_19 rfl rfl ?_
    refine x_iconst (v := 0) C dX9_edge_20 (by decide) ?_
    refine pf9_51 C dX9_edge_21 ?_
    refine x_aload_n (j := 0) C dX9_edge_24 rfl rfl ?_
    refine x_iload_n (j := 1) C dX9_edge_25 rfl rfl ?_
    obtain ⟨s26, e26, h⟩ := Option.bind_eq_some_iff.mp h
    try dsimp only at h
    refine k9_114 C dX9_edge_26 e26 (x_room R rfl) (Nat.le_of_ble_eq_true rfl) ?_
    refine x_aload_n (j := 0) C dX9_edge_29 rfl rfl ?_
    refine x_iload_n (j := 2) C dX9_edge_30 rfl rfl ?_
    obtain ⟨⟨r31, s31⟩, e31, h⟩ := Option.bind_eq_some_iff.mp h
    try dsimp only at h
    refine k9_125 C dX9_edge_31 e31 (x_room R rfl) (Nat.le_of_ble_eq_true rfl) ?_
    cases h
    exact x_iret C dX9_edge_34
  · rw [if_pos c10] at h
    refine x_aload_n (j := 0) C dX9_edge_13 rfl rfl ?_
    refine x_iconst (v := 2) C dX9_edge_14 (by decide) ?_
    obtain ⟨⟨r15, s15⟩, e15, h⟩ := Option.bind_eq_some_iff.mp h
    try dsimp only at h
    refine k9_78 C dX9_edge_15 e15 (x_room R rfl) (Nat.le_of_ble_eq_true rfl) ?_
    cases h
    exact x_iret C dX9_edge_18
theorem c9_edge (l : Launch) (G : xG) {N : Nat} {p1 : Int32} {p2 : Int32} {s : mS} {r : Int32} {s1 : mS} (h : f9_edge N p1 p2 s = some (r, s1)) : xMet l yX9_edge (x_ws yX9_edge cX9_edge 3 (some .int)) (xrm 4 97) G mdom [.ref (G.2.1 0 0), .int (p1), .int (p2)] (encM G s) (some (.int r)) (encM G s1) := by
  refine xMet.of (by decide +kernel) (Nat.le_of_ble_eq_true rfl) ?_
  rintro ⟨M, G', dom', n'⟩ e1 R e3 e4 e5 C
  change G' = G at e3; change dom' = mdom at e4; change n' = 3 at e5
  subst e3; subst e4; subst e5
  exact t9_edge C R h
