theorem k9_140 {M : xM} {G : xG} {n : Nat} {rv : Option Value} {E' : xE} {cc : ByteArray} {ret : Option FieldType} {pc : Nat} {ls : List (Nat × Value)} {st : List Value} {N : Nat} {p1 : Int32} {p2 : Int32} {s s1 : mS} {r : Int32} (C : xC (M, G, mdom, n) RX9 cc ret) (d : decode cc pc = .ok (.invokevirtual 140, 3)) (h : f9_showsAt N p1 p2 s = some (r, s1)) (hR : (xrm 4 100).frames + 1 ≤ (xR (M, G, mdom, n)).frames ∧ 8 + (3 + 11) + (xrm 4 100).locals ≤ (xR (M, G, mdom, n)).locals) (hw : (st.map fun v => v.category).sum ≤ 8) (k : X (M, G, mdom, n) rv E' (encM G s1) (pc + 3) ls (.int r :: st)) : X (M, G, mdom, n) rv E' (encM G s) pc ls (.int (p2) :: .int (p1) :: .ref (G.2.1 0 0) :: st) :=
  x_callV (As := [.int (p1), .int (p2)]) (n := 2) C d (c9_showsAt (xl (M, G, mdom, n)) G h) lk990 lk992 lk74 lk87 lk993 ⟨rfl, rfl⟩ ⟨by decide +kernel, by decide +kernel, by decide +kernel⟩ rfl hR rfl rfl rfl rfl hw k
set_option maxRecDepth 100000 in
theorem t9_shown_l33b {M : xM} {G : xG} {N : Nat} {p1 : Int32} (C : xC (M, G, mdom, 3) RX9 cX9_shown (some .int)) (R : xR (M, G, mdom, 3) = xrm 5 122) {k33 : Int32 → mS → Option (Int32 × mS)} (hk33 : ∀ (a2 : Int32) (s : mS) (r : Int32) (s1 : mS), k33 a2 s = some (r, s1) → X (M, G, mdom, 3) (some (.int r)) (encM G s1) (encM G s) 33 [(0, .ref (G.2.1 0 0)), (1, .int (p1)), (2, .int (a2))] []) {a2 : Int32} {s : mS} {r : Int32} {s1 : mS} (h : f9_shown_l33b N p1 k33 a2 s = some (r, s1)) : X (M, G, mdom, 3) (some (.int r)) (encM G s1) (encM G s) 33 [(0, .ref (G.2.1 0 0)), (1, .int (p1)), (2, .int (a2))] [] := by
  unfold f9_shown_l33b at h
  refine x_iload_n (j := 2) C dX9_shown_33 rfl rfl ?_
  refine x_aload_n (j := 0) C dX9_shown_34 rfl rfl ?_
  refine gf9_7 C dX9_shown_35 ?_
  refine x_iconst (v := 0) C dX9_shown_38 (by decide) ?_
  refine mld1 C dX9_shown_39 (by decide) ?_
  refine x_icmp_gt (tgt := 60) C dX9_shown_40 (by decide) (fun c40 => ?_) (fun c40 => ?_)
  · rw [if_pos c40] at h
    refine x_bipush (v := (-2)) C dX9_shown_60 (by decide) ?_
    cases h
    exact x_iret C dX9_shown_62
  · rw [if_neg c40] at h
    refine x_aload_n (j := 0) C dX9_shown_43 rfl rfl ?_
    refine x_iload_n (j := 1) C dX9_shown_44 rfl rfl ?_
    refine x_iload_n (j := 2) C dX9_shown_45 rfl rfl ?_
    obtain ⟨⟨r46, s46⟩, e46, h⟩ := Option.bind_eq_some_iff.mp h
    try dsimp only at h
    refine k9_140 C dX9_shown_46 e46 (x_room R rfl) (Nat.le_of_ble_eq_true rfl) ?_
    refine x_if_eq (tgt := 54) C dX9_shown_49 (by decide) (fun c49 => ?_) (fun c49 => ?_)
    · rw [if_pos c49] at h
      refine x_iinc (j := 2) (v := (a2 + 1)) (ls' := [(2, .int ((a2 + 1))), (0, .ref (G.2.1 0 0)), (1, .int (p1))]) C dX9_shown_54 rfl rfl (Nat.le_of_ble_eq_true rfl) rfl ?_
      refine x_goto (tgt := 33) C dX9_shown_57 (by decide) ?_
      refine x_sub (ls' := [(0, .ref (G.2.1 0 0)), (1, .int (p1)), (2, .int ((a2 + 1)))]) [1, 2, 0] rfl ?_
      exact hk33 _ _ _ _ h
    · rw [if_neg c49] at h
      refine x_iload_n (j := 2) C dX9_shown_52 rfl rfl ?_
      cases h
      exact x_iret C dX9_shown_53
theorem t9_shown_l33 {M : xM} {G : xG} {N : Nat} {p1 : Int32} (C : xC (M, G, mdom, 3) RX9 cX9_shown (some .int)) (R : xR (M, G, mdom, 3) = xrm 5 122) (n : Nat) : ∀ (a2 : Int32) (s : mS) (r : Int32) (s1 : mS), f9_shown_l33 N p1 n a2 s = some (r, s1) → X (M, G, mdom, 3) (some (.int r)) (encM G s1) (encM G s) 33 [(0, .ref (G.2.1 0 0)), (1, .int (p1)), (2, .int (a2))] [] := by
  induction n with
  | zero => intro a2 s r s1 h; exact (Option.some_ne_none _ (Eq.symm h)).elim
  | succ n ih => intro a2 s r s1 h; exact t9_shown_l33b (N := N) (p1 := p1) C R (k33 := f9_shown_l33 N p1 n) ih h
set_option maxRecDepth 100000 in
theorem t9_shown {M : xM} {G : xG} {N : Nat} {p1 : Int32} (C : xC (M, G, mdom, 3) RX9 cX9_shown (some .int)) (R : xR (M, G, mdom, 3) = xrm 5 122) {s : mS} {r : Int32} {s1 : mS} (h : f9_shown N p1 s = some (r, s1)) : X (M, G, mdom, 3) (some (.int r)) (encM G s1) (encM G s) 0 [(0, .ref (G.2.1 0 0)), (1, .int (p1))] [] := by
  unfold f9_shown at h
  refine x_aload_n (j := 0) C dX9_shown_0 rfl rfl ?_
  refine x_iconst (v := 0) C dX9_shown_1 (by decide) ?_
  refine pf9_47 C dX9_shown_2 ?_
  refine x_aload_n (j := 0) C dX9_shown_5 rfl rfl ?_
  refine x_iload_n (j := 1) C dX9_shown_6 rfl rfl ?_
  refine x_iconst (v := 0) C dX9_shown_7 (by decide) ?_
  refine x_aload_n (j := 0) C dX9_shown_8 rfl rfl ?_
  refine gf9_57 C dX9_shown_9 ?_
  refine x_iconst (v := 1) C dX9_shown_12 (by decide) ?_
  refine x_isub C dX9_shown_13 ?_
  obtain ⟨⟨r14, s14⟩, e14, h⟩ := Option.bind_eq_some_iff.mp h
  try dsimp only at h
  refine k9_64 C dX9_shown_14 e14 (x_room R rfl) (Nat.le_of_ble_eq_true rfl) ?_
  refine x_if_ne (tgt := 26) C dX9_shown_17 (by decide) (fun c17 => ?_) (fun c17 => ?_)
  · rw [if_neg c17] at h
    refine x_aload_n (j := 0) C dX9_shown_26 rfl rfl ?_
    refine x_iconst (v := 0) C dX9_shown_27 (by decide) ?_
    refine pf9_51 C dX9_shown_28 ?_
    refine x_iconst (v := 0) C dX9_shown_31 (by decide) ?_
    refine x_istore_n (i := 2) (ls' := [(2, .int (0)), (0, .ref (G.2.1 0 0)), (1, .int (p1))]) C dX9_shown_32 rfl (Nat.le_of_ble_eq_true rfl) rfl ?_
    refine x_sub (ls' := [(0, .ref (G.2.1 0 0)), (1, .int (p1)), (2, .int (0))]) [1, 2, 0] rfl ?_
    exact t9_shown_l33 (N := N) (p1 := p1) C R N _ _ _ _ h
  · rw [if_pos c17] at h
    refine x_aload_n (j := 0) C dX9_shown_20 rfl rfl ?_
    refine x_iconst (v := 2) C dX9_shown_21 (by decide) ?_
    obtain ⟨⟨r22, s22⟩, e22, h⟩ := Option.bind_eq_some_iff.mp h
    try dsimp only at h
    refine k9_78 C dX9_shown_22 e22 (x_room R rfl) (Nat.le_of_ble_eq_true rfl) ?_
    cases h
    exact x_iret C dX9_shown_25
theorem c9_shown (l : Launch) (G : xG) {N : Nat} {p1 : Int32} {s : mS} {r : Int32} {s1 : mS} (h : f9_shown N p1 s = some (r, s1)) : xMet l yX9_shown (x_ws yX9_shown cX9_shown 3 (some .int)) (xrm 5 122) G mdom [.ref (G.2.1 0 0), .int (p1)] (encM G s) (some (.int r)) (encM G s1) := by
  refine xMet.of (by decide +kernel) (Nat.le_of_ble_eq_true rfl) ?_
  rintro ⟨M, G', dom', n'⟩ e1 R e3 e4 e5 C
  change G' = G at e3; change dom' = mdom at e4; change n' = 3 at e5
  subst e3; subst e4; subst e5
  exact t9_shown C R h
set_option maxRecDepth 100000 in
theorem t9_bitsAt_l4b {M : xM} {G : xG} {N : Nat} {p1 : Int32} (C : xC (M, G, mdom, 4) RX9 cX9_bitsAt (some .int)) (R : xR (M, G, mdom, 4) = xrm 5 122) {k4 : Int32 → Int32 → mS → Option (Int32 × mS)} (hk4 : ∀ (a2 : Int32) (a3 : Int32) (s : mS) (r : Int32) (s1 : mS), k4 a2 a3 s = some (r, s1) → X (M, G, mdom, 4) (some (.int r)) (encM G s1) (encM G s) 4 [(0, .ref (G.2.1 0 0)), (1, .int (p1)), (2, .int (a2)), (3, .int (a3))] []) {a2 : Int32} {a3 : Int32} {s : mS} {r : Int32} {s1 : mS} (h : f9_bitsAt_l4b N p1 k4 a2 a3 s = some (r, s1)) : X (M, G, mdom, 4) (some (.int r)) (encM G s1) (encM G s) 4 [(0, .ref (G.2.1 0 0)), (1, .int (p1)), (2, .int (a2)), (3, .int (a3))] [] := by
  unfold f9_bitsAt_l4b at h
  refine x_iload_n (j := 3) C dX9_bitsAt_4 rfl rfl ?_
  refine x_aload_n (j := 0) C dX9_bitsAt_5 rfl rfl ?_
  refine gf9_57 C dX9_bitsAt_6 ?_
  refine x_icmp_ge (tgt := 37) C dX9_bitsAt_9 (by decide) (fun c9 => ?_) (fun c9 => ?_)
  · rw [if_pos c9] at h
    refine x_iload_n (j := 2) C dX9_bitsAt_37 rfl rfl ?_
    cases h
    exact x_iret C dX9_bitsAt_38
  · rw [if_neg c9] at h
    refine x_iload_n (j := 2) C dX9_bitsAt_12 rfl rfl ?_
    refine x_aload_n (j := 0) C dX9_bitsAt_13 rfl rfl ?_
    refine x_iload_n (j := 3) C dX9_bitsAt_14 rfl rfl ?_
    refine x_iload_n (j := 1) C dX9_bitsAt_15 rfl rfl ?_
    obtain ⟨⟨r16, s16⟩, e16, h⟩ := Option.bind_eq_some_iff.mp h
    try dsimp only at h
    refine k9_140 C dX9_bitsAt_16 e16 (x_room R rfl) (Nat.le_of_ble_eq_true rfl) ?_
    refine x_if_eq (tgt := 28) C dX9_bitsAt_19 (by decide) (fun c19 => ?_) (fun c19 => ?_)
    · rw [if_pos c19] at h
      refine x_iconst (v := 0) C dX9_bitsAt_28 (by decide) ?_
      refine x_ior C dX9_bitsAt_29 ?_
      refine x_istore_n (i := 2) (ls' := [(2, .int ((a2 ||| 0))), (0, .ref (G.2.1 0 0)), (1, .int (p1)), (3, .int (a3))]) C dX9_bitsAt_30 rfl (Nat.le_of_ble_eq_true rfl) rfl ?_
      refine x_iinc (j := 3) (v := (a3 + 1)) (ls' := [(3, .int ((a3 + 1))), (2, .int ((a2 ||| 0))), (0, .ref (G.2.1 0 0)), (1, .int (p1))]) C dX9_bitsAt_31 rfl rfl (Nat.le_of_ble_eq_true rfl) rfl ?_
      refine x_goto (tgt := 4) C dX9_bitsAt_34 (by decide) ?_
      refine x_sub (ls' := [(0, .ref (G.2.1 0 0)), (1, .int (p1)), (2, .int ((a2 ||| 0))), (3, .int ((a3 + 1)))]) [2, 3, 1, 0] rfl ?_
      exact hk4 _ _ _ _ _ h
    · rw [if_neg c19] at h
      refine x_iconst (v := 1) C dX9_bitsAt_22 (by decide) ?_
      refine x_iload_n (j := 3) C dX9_bitsAt_23 rfl rfl ?_
      refine x_ishl C dX9_bitsAt_24 ?_
      refine x_goto (tgt := 29) C dX9_bitsAt_25 (by decide) ?_
      refine x_ior C dX9_bitsAt_29 ?_
      refine x_istore_n (i := 2) (ls' := [(2, .int ((a2 ||| (1 <<< (a3 &&& 31))))), (0, .ref (G.2.1 0 0)), (1, .int (p1)), (3, .int (a3))]) C dX9_bitsAt_30 rfl (Nat.le_of_ble_eq_true rfl) rfl ?_
      refine x_iinc (j := 3) (v := (a3 + 1)) (ls' := [(3, .int ((a3 + 1))), (2, .int ((a2 ||| (1 <<< (a3 &&& 31))))), (0, .ref (G.2.1 0 0)), (1, .int (p1))]) C dX9_bitsAt_31 rfl rfl (Nat.le_of_ble_eq_true rfl) rfl ?_
      refine x_goto (tgt := 4) C dX9_bitsAt_34 (by decide) ?_
      refine x_sub (ls' := [(0, .ref (G.2.1 0 0)), (1, .int (p1)), (2, .int ((a2 ||| (1 <<< (a3 &&& 31))))), (3, .int ((a3 + 1)))]) [2, 3, 1, 0] rfl ?_
      exact hk4 _ _ _ _ _ h
theorem t9_bitsAt_l4 {M : xM} {G : xG} {N : Nat} {p1 : Int32} (C : xC (M, G, mdom, 4) RX9 cX9_bitsAt (some .int)) (R : xR (M, G, mdom, 4) = xrm 5 122) (n : Nat) : ∀ (a2 : Int32) (a3 : Int32) (s : mS) (r : Int32) (s1 : mS), f9_bitsAt_l4 N p1 n a2 a3 s = some (r, s1) → X (M, G, mdom, 4) (some (.int r)) (encM G s1) (encM G s) 4 [(0, .ref (G.2.1 0 0)), (1, .int (p1)), (2, .int (a2)), (3, .int (a3))] [] := by
  induction n with
  | zero => intro a2 a3 s r s1 h; exact (Option.some_ne_none _ (Eq.symm h)).elim
  | succ n ih => intro a2 a3 s r s1 h; exact t9_bitsAt_l4b (N := N) (p1 := p1) C R (k4 := f9_bitsAt_l4 N p1 n) ih h
set_option maxRecDepth 100000 in
theorem t9_bitsAt {M : xM} {G : xG} {N : Nat} {p1 : Int32} (C : xC (M, G, mdom, 4) RX9 cX9_bitsAt (some .int)) (R : xR (M, G, mdom, 4) = xrm 5 122) {s : mS} {r : Int32} {s1 : mS} (h : f9_bitsAt N p1 s = some (r, s1)) : X (M, G, mdom, 4) (some (.int r)) (encM G s1) (encM G s) 0 [(0, .ref (G.2.1 0 0)), (1, .int (p1))] [] := by
  unfold f9_bitsAt at h
  refine x_iconst (v := 0) C dX9_bitsAt_0 (by decide) ?_
  refine x_istore_n (i := 2) (ls' := [(2, .int (0)), (0, .ref (G.2.1 0 0)), (1, .int (p1))]) C dX9_bitsAt_1 rfl (Nat.le_of_ble_eq_true rfl) rfl ?_
  refine x_iconst (v := 0) C dX9_bitsAt_2 (by decide) ?_
  refine x_istore_n (i := 3) (ls' := [(3, .int (0)), (2, .int (0)), (0, .ref (G.2.1 0 0)), (1, .int (p1))]) C dX9_bitsAt_3 rfl (Nat.le_of_ble_eq_true rfl) rfl ?_
  refine x_sub (ls' := [(0, .ref (G.2.1 0 0)), (1, .int (p1)), (2, .int (0)), (3, .int (0))]) [2, 3, 1, 0] rfl ?_
  exact t9_bitsAt_l4 (N := N) (p1 := p1) C R N _ _ _ _ _ h
theorem c9_bitsAt (l : Launch) (G : xG) {N : Nat} {p1 : Int32} {s : mS} {r : Int32} {s1 : mS} (h : f9_bitsAt N p1 s = some (r, s1)) : xMet l yX9_bitsAt (x_ws yX9_bitsAt cX9_bitsAt 4 (some .int)) (xrm 5 122) G mdom [.ref (G.2.1 0 0), .int (p1)] (encM G s) (some (.int r)) (encM G s1) := by
  refine xMet.of (by decide +kernel) (Nat.le_of_ble_eq_true rfl) ?_
  rintro ⟨M, G', dom', n'⟩ e1 R e3 e4 e5 C
  change G' = G at e3; change dom' = mdom at e4; change n' = 4 at e5
  subst e3; subst e4; subst e5
  exact t9_bitsAt C R h
theorem k9_143 {M : xM} {G : xG} {n : Nat} {rv : Option Value} {E' : xE} {cc : ByteArray} {ret : Option FieldType} {pc : Nat} {ls : List (Nat × Value)} {st : List Value} {N : Nat} {p1 : Int32} {s s1 : mS} {r : Int32} (C : xC (M, G, mdom, n) RX9 cc ret) (d : decode cc pc = .ok (.invokevirtual 143, 3)) (h : f9_bitsAt N p1 s = some (r, s1)) (hR : (xrm 5 122).frames + 1 ≤ (xR (M, G, mdom, n)).frames ∧ 8 + (4 + 11) + (xrm 5 122).locals ≤ (xR (M, G, mdom, n)).locals) (hw : (st.map fun v => v.category).sum ≤ 8) (k : X (M, G, mdom, n) rv E' (encM G s1) (pc + 3) ls (.int r :: st)) : X (M, G, mdom, n) rv E' (encM G s) pc ls (.int (p1) :: .ref (G.2.1 0 0) :: st) :=
  x_callV (As := [.int (p1)]) (n := 1) C d (c9_bitsAt (xl (M, G, mdom, n)) G h) lk1002 lk1004 lk76 lk87 lk1005 ⟨rfl, rfl⟩ ⟨by decide +kernel, by decide +kernel, by decide +kernel⟩ rfl hR rfl rfl rfl rfl hw k
set_option maxRecDepth 100000 in
theorem t9_shows_l105b {M : xM} {G : xG} {N : Nat}  (C : xC (M, G, mdom, 4) RX9 cX9_shows (some .int)) (R : xR (M, G, mdom, 4) = xrm 6 145) {k82 : Int32 → Int32 → mS → Option (Int32 × mS)} (hk82 : ∀ (a1 : Int32) (a2 : Int32) (s : mS) (r : Int32) (s1 : mS), k82 a1 a2 s = some (r, s1) → X (M, G, mdom, 4) (some (.int r)) (encM G s1) (encM G s) 82 [(0, .ref (G.2.1 0 0)), (1, .int (a1)), (2, .int (a2))] []) {k105 : Int32 → Int32 → Int32 → mS → Option (Int32 × mS)} (hk105 : ∀ (a1 : Int32) (a2 : Int32) (a3 : Int32) (s : mS) (r : Int32) (s1 : mS), k105 a1 a2 a3 s = some (r, s1) → X (M, G, mdom, 4) (some (.int r)) (encM G s1) (encM G s) 105 [(0, .ref (G.2.1 0 0)), (1, .int (a1)), (2, .int (a2)), (3, .int (a3))] []) {a1 : Int32} {a2 : Int32} {a3 : Int32} {s : mS} {r : Int32} {s1 : mS} (h : f9_shows_l105b N k82 k105 a1 a2 a3 s = some (r, s1)) : X (M, G, mdom, 4) (some (.int r)) (encM G s1) (encM G s) 105 [(0, .ref (G.2.1 0 0)), (1, .int (a1)), (2, .int (a2)), (3, .int (a3))] [] := by
  unfold f9_shows_l105b at h
  refine x_iload_n (j := 3) C dX9_shows_105 rfl rfl ?_
  refine x_sipush (v := 1024) C dX9_shows_106 (by decide) ?_
  refine x_icmp_ge (tgt := 162) C dX9_shows_109 (by decide) (fun c109 => ?_) (fun c109 => ?_)
  · rw [if_pos c109] at h
    refine x_iinc (j := 2) (v := (a2 + 1)) (ls' := [(2, .int ((a2 + 1))), (0, .ref (G.2.1 0 0)), (1, .int (a1)), (3, .int (a3))]) C dX9_shows_162 rfl rfl (Nat.le_of_ble_eq_true rfl) rfl ?_
    refine x_goto (tgt := 82) C dX9_shows_165 (by decide) ?_
    refine x_sub (ls' := [(0, .ref (G.2.1 0 0)), (1, .int (a1)), (2, .int ((a2 + 1)))]) [1, 2, 0] rfl ?_
    exact hk82 _ _ _ _ _ h
  · rw [if_neg c109] at h
    refine x_aload_n (j := 0) C dX9_shows_112 rfl rfl ?_
    refine gf9_40 C dX9_shows_113 ?_
    refine x_iload_n (j := 3) C dX9_shows_116 rfl rfl ?_
    by_cases g117_1 : inB a3 1024 = true
    case neg => rw [if_neg g117_1] at h; cases h
    rw [if_pos g117_1] at h
    refine mld11 C dX9_shows_117 g117_1 ?_
    refine x_if_eq (tgt := 156) C dX9_shows_118 (by decide) (fun c118 => ?_) (fun c118 => ?_)
    · rw [if_pos c118] at h
      refine x_iinc (j := 3) (v := (a3 + 1)) (ls' := [(3, .int ((a3 + 1))), (0, .ref (G.2.1 0 0)), (1, .int (a1)), (2, .int (a2))]) C dX9_shows_156 rfl rfl (Nat.le_of_ble_eq_true rfl) rfl ?_
      refine x_goto (tgt := 105) C dX9_shows_159 (by decide) ?_
      refine x_sub (ls' := [(0, .ref (G.2.1 0 0)), (1, .int (a1)), (2, .int (a2)), (3, .int ((a3 + 1)))]) [1, 2, 3, 0] rfl ?_
      exact hk105 _ _ _ _ _ _ h
    · rw [if_neg c118] at h
      refine x_aload_n (j := 0) C dX9_shows_121 rfl rfl ?_
      refine gf9_44 C dX9_shows_122 ?_
      refine x_iload_n (j := 2) C dX9_shows_125 rfl rfl ?_
      refine x_iload_n (j := 3) C dX9_shows_126 rfl rfl ?_
      refine x_ior C dX9_shows_127 ?_
      by_cases g128_2 : inB (a2 ||| a3) 1024 = true
      case neg => rw [if_neg g128_2] at h; cases h
      rw [if_pos g128_2] at h
      refine mld12 C dX9_shows_128 g128_2 ?_
      refine x_aload_n (j := 0) C dX9_shows_129 rfl rfl ?_
      refine gf9_44 C dX9_shows_130 ?_
      refine x_iload_n (j := 2) C dX9_shows_133 rfl rfl ?_
      by_cases g134_3 : inB a2 1024 = true
      case neg => rw [if_neg g134_3] at h; cases h
      rw [if_pos g134_3] at h
      refine mld12 C dX9_shows_134 g134_3 ?_
      refine x_iconst (v := 1) C dX9_shows_135 (by decide) ?_
      refine x_iadd C dX9_shows_136 ?_
      refine x_icmp_le (tgt := 156) C dX9_shows_137 (by decide) (fun c137 => ?_) (fun c137 => ?_)
      · rw [if_pos c137] at h
        refine x_iinc (j := 3) (v := (a3 + 1)) (ls' := [(3, .int ((a3 + 1))), (0, .ref (G.2.1 0 0)), (1, .int (a1)), (2, .int (a2))]) C dX9_shows_156 rfl rfl (Nat.le_of_ble_eq_true rfl) rfl ?_
        refine x_goto (tgt := 105) C dX9_shows_159 (by decide) ?_
        refine x_sub (ls' := [(0, .ref (G.2.1 0 0)), (1, .int (a1)), (2, .int (a2)), (3, .int ((a3 + 1)))]) [1, 2, 3, 0] rfl ?_
        exact hk105 _ _ _ _ _ _ h
      · rw [if_neg c137] at h
        refine x_aload_n (j := 0) C dX9_shows_140 rfl rfl ?_
        refine gf9_44 C dX9_shows_141 ?_
        refine x_iload_n (j := 2) C dX9_shows_144 rfl rfl ?_
        refine x_iload_n (j := 3) C dX9_shows_145 rfl rfl ?_
        refine x_ior C dX9_shows_146 ?_
        refine x_aload_n (j := 0) C dX9_shows_147 rfl rfl ?_
        refine gf9_44 C dX9_shows_148 ?_
        refine x_iload_n (j := 2) C dX9_shows_151 rfl rfl ?_
        refine mld12 C dX9_shows_152 g134_3 ?_
        refine x_iconst (v := 1) C dX9_shows_153 (by decide) ?_
        refine x_iadd C dX9_shows_154 ?_
        refine mst12 C dX9_shows_155 g128_2 ?_
        refine x_iinc (j := 3) (v := (a3 + 1)) (ls' := [(3, .int ((a3 + 1))), (0, .ref (G.2.1 0 0)), (1, .int (a1)), (2, .int (a2))]) C dX9_shows_156 rfl rfl (Nat.le_of_ble_eq_true rfl) rfl ?_
        refine x_goto (tgt := 105) C dX9_shows_159 (by decide) ?_
        refine x_sub (ls' := [(0, .ref (G.2.1 0 0)), (1, .int (a1)), (2, .int (a2)), (3, .int ((a3 + 1)))]) [1, 2, 3, 0] rfl ?_
        exact hk105 _ _ _ _ _ _ h
theorem t9_shows_l105 {M : xM} {G : xG} {N : Nat}  (C : xC (M, G, mdom, 4) RX9 cX9_shows (some .int)) (R : xR (M, G, mdom, 4) = xrm 6 145) {k82 : Int32 → Int32 → mS → Option (Int32 × mS)} (hk82 : ∀ (a1 : Int32) (a2 : Int32) (s : mS) (r : Int32) (s1 : mS), k82 a1 a2 s = some (r, s1) → X (M, G, mdom, 4) (some (.int r)) (encM G s1) (encM G s) 82 [(0, .ref (G.2.1 0 0)), (1, .int (a1)), (2, .int (a2))] []) (n : Nat) : ∀ (a1 : Int32) (a2 : Int32) (a3 : Int32) (s : mS) (r : Int32) (s1 : mS), f9_shows_l105 N k82 n a1 a2 a3 s = some (r, s1) → X (M, G, mdom, 4) (some (.int r)) (encM G s1) (encM G s) 105 [(0, .ref (G.2.1 0 0)), (1, .int (a1)), (2, .int (a2)), (3, .int (a3))] [] := by
  induction n with
  | zero => intro a1 a2 a3 s r s1 h; exact (Option.some_ne_none _ (Eq.symm h)).elim
  | succ n ih => intro a1 a2 a3 s r s1 h; exact t9_shows_l105b (N := N) C R hk82 (k105 := f9_shows_l105 N k82 n) ih h
set_option maxRecDepth 100000 in
theorem t9_shows_l82b {M : xM} {G : xG} {N : Nat}  (C : xC (M, G, mdom, 4) RX9 cX9_shows (some .int)) (R : xR (M, G, mdom, 4) = xrm 6 145) {k82 : Int32 → Int32 → mS → Option (Int32 × mS)} (hk82 : ∀ (a1 : Int32) (a2 : Int32) (s : mS) (r : Int32) (s1 : mS), k82 a1 a2 s = some (r, s1) → X (M, G, mdom, 4) (some (.int r)) (encM G s1) (encM G s) 82 [(0, .ref (G.2.1 0 0)), (1, .int (a1)), (2, .int (a2))] []) {a1 : Int32} {a2 : Int32} {s : mS} {r : Int32} {s1 : mS} (h : f9_shows_l82b N k82 a1 a2 s = some (r, s1)) : X (M, G, mdom, 4) (some (.int r)) (encM G s1) (encM G s) 82 [(0, .ref (G.2.1 0 0)), (1, .int (a1)), (2, .int (a2))] [] := by
  unfold f9_shows_l82b at h
  refine x_iload_n (j := 2) C dX9_shows_82 rfl rfl ?_
  refine x_sipush (v := 1024) C dX9_shows_83 (by decide) ?_
  refine x_icmp_ge (tgt := 168) C dX9_shows_86 (by decide) (fun c86 => ?_) (fun c86 => ?_)
  · rw [if_pos c86] at h
    refine x_aload_n (j := 0) C dX9_shows_168 rfl rfl ?_
    refine gf9_44 C dX9_shows_169 ?_
    refine x_iload_n (j := 1) C dX9_shows_172 rfl rfl ?_
    by_cases g173_1 : inB a1 1024 = true
    case neg => rw [if_neg g173_1] at h; cases h
    rw [if_pos g173_1] at h
    refine mld12 C dX9_shows_173 g173_1 ?_
    cases h
    exact x_iret C dX9_shows_174
  · rw [if_neg c86] at h
    refine x_aload_n (j := 0) C dX9_shows_89 rfl rfl ?_
    refine gf9_44 C dX9_shows_90 ?_
    refine x_iload_n (j := 2) C dX9_shows_93 rfl rfl ?_
    by_cases g94_2 : inB a2 1024 = true
    case neg => rw [if_neg g94_2] at h; cases h
    rw [if_pos g94_2] at h
    refine mld12 C dX9_shows_94 g94_2 ?_
    refine x_bipush (v := 100) C dX9_shows_95 (by decide) ?_
    refine x_icmp_ne (tgt := 103) C dX9_shows_97 (by decide) (fun c97 => ?_) (fun c97 => ?_)
    · rw [if_neg c97] at h
      refine x_iconst (v := 1) C dX9_shows_103 (by decide) ?_
      refine x_istore_n (i := 3) (ls' := [(3, .int (1)), (0, .ref (G.2.1 0 0)), (1, .int (a1)), (2, .int (a2))]) C dX9_shows_104 rfl (Nat.le_of_ble_eq_true rfl) rfl ?_
      refine x_sub (ls' := [(0, .ref (G.2.1 0 0)), (1, .int (a1)), (2, .int (a2)), (3, .int (1))]) [1, 2, 3, 0] rfl ?_
      exact t9_shows_l105 (N := N) C R hk82 N _ _ _ _ _ _ h
    · rw [if_pos c97] at h
      refine x_goto (tgt := 162) C dX9_shows_100 (by decide) ?_
      refine x_iinc (j := 2) (v := (a2 + 1)) (ls' := [(2, .int ((a2 + 1))), (0, .ref (G.2.1 0 0)), (1, .int (a1))]) C dX9_shows_162 rfl rfl (Nat.le_of_ble_eq_true rfl) rfl ?_
      refine x_goto (tgt := 82) C dX9_shows_165 (by decide) ?_
      refine x_sub (ls' := [(0, .ref (G.2.1 0 0)), (1, .int (a1)), (2, .int ((a2 + 1)))]) [1, 2, 0] rfl ?_
      exact hk82 _ _ _ _ _ h
theorem t9_shows_l82 {M : xM} {G : xG} {N : Nat}  (C : xC (M, G, mdom, 4) RX9 cX9_shows (some .int)) (R : xR (M, G, mdom, 4) = xrm 6 145) (n : Nat) : ∀ (a1 : Int32) (a2 : Int32) (s : mS) (r : Int32) (s1 : mS), f9_shows_l82 N n a1 a2 s = some (r, s1) → X (M, G, mdom, 4) (some (.int r)) (encM G s1) (encM G s) 82 [(0, .ref (G.2.1 0 0)), (1, .int (a1)), (2, .int (a2))] [] := by
  induction n with
  | zero => intro a1 a2 s r s1 h; exact (Option.some_ne_none _ (Eq.symm h)).elim
  | succ n ih => intro a1 a2 s r s1 h; exact t9_shows_l82b (N := N) C R (k82 := f9_shows_l82 N n) ih h
set_option maxRecDepth 100000 in
theorem t9_shows_l47b {M : xM} {G : xG} {N : Nat}  (C : xC (M, G, mdom, 4) RX9 cX9_shows (some .int)) (R : xR (M, G, mdom, 4) = xrm 6 145) {k47 : Int32 → Int32 → mS → Option (Int32 × mS)} (hk47 : ∀ (a1 : Int32) (a2 : Int32) (s : mS) (r : Int32) (s1 : mS), k47 a1 a2 s = some (r, s1) → X (M, G, mdom, 4) (some (.int r)) (encM G s1) (encM G s) 47 [(0, .ref (G.2.1 0 0)), (1, .int (a1)), (2, .int (a2))] []) {a1 : Int32} {a2 : Int32} {s : mS} {r : Int32} {s1 : mS} (h : f9_shows_l47b N k47 a1 a2 s = some (r, s1)) : X (M, G, mdom, 4) (some (.int r)) (encM G s1) (encM G s) 47 [(0, .ref (G.2.1 0 0)), (1, .int (a1)), (2, .int (a2))] [] := by
  unfold f9_shows_l47b at h
  refine x_iload_n (j := 2) C dX9_shows_47 rfl rfl ?_
  refine x_aload_n (j := 0) C dX9_shows_48 rfl rfl ?_
  refine gf9_7 C dX9_shows_49 ?_
  refine x_iconst (v := 0) C dX9_shows_52 (by decide) ?_
  refine mld1 C dX9_shows_53 (by decide) ?_
  refine x_icmp_gt (tgt := 80) C dX9_shows_54 (by decide) (fun c54 => ?_) (fun c54 => ?_)
  · rw [if_pos c54] at h
    refine x_iconst (v := 0) C dX9_shows_80 (by decide) ?_
    refine x_istore_n (i := 2) (ls' := [(2, .int (0)), (0, .ref (G.2.1 0 0)), (1, .int (a1))]) C dX9_shows_81 rfl (Nat.le_of_ble_eq_true rfl) rfl ?_
    refine x_sub (ls' := [(0, .ref (G.2.1 0 0)), (1, .int (a1)), (2, .int (0))]) [1, 2, 0] rfl ?_
    exact t9_shows_l82 (N := N) C R N _ _ _ _ _ h
  · rw [if_neg c54] at h
    refine x_aload_n (j := 0) C dX9_shows_57 rfl rfl ?_
    refine x_iload_n (j := 2) C dX9_shows_58 rfl rfl ?_
    obtain ⟨⟨r59, s59⟩, e59, h⟩ := Option.bind_eq_some_iff.mp h
    try dsimp only at h
    refine k9_143 C dX9_shows_59 e59 (x_room R rfl) (Nat.le_of_ble_eq_true rfl) ?_
    refine x_istore_n (i := 3) (ls' := [(3, .int (r59)), (0, .ref (G.2.1 0 0)), (1, .int (a1)), (2, .int (a2))]) C dX9_shows_62 rfl (Nat.le_of_ble_eq_true rfl) rfl ?_
    refine x_aload_n (j := 1) C dX9_shows_63 rfl rfl ?_
    refine gf9_40 C dX9_shows_64 ?_
    refine x_iload_n (j := 0) C dX9_shows_67 rfl rfl ?_
    refine x_iconst (v := 1) C dX9_shows_68 (by decide) ?_
    by_cases g69_1 : inB r59 1024 = true
    case neg => rw [if_neg g69_1] at h; cases h
    rw [if_pos g69_1] at h
    refine mst11 C dX9_shows_69 g69_1 rfl ?_
    refine x_iload_n (j := 2) C dX9_shows_70 rfl rfl ?_
    refine x_iload_n (j := 0) C dX9_shows_71 rfl rfl ?_
    refine x_ior C dX9_shows_72 ?_
    refine x_istore_n (i := 1) (ls' := [(1, .int ((a1 ||| r59))), (3, .int (r59)), (0, .ref (G.2.1 0 0)), (2, .int (a2))]) C dX9_shows_73 rfl (Nat.le_of_ble_eq_true rfl) rfl ?_
    refine x_iinc (j := 3) (v := (a2 + 1)) (ls' := [(2, .int ((a2 + 1))), (1, .int ((a1 ||| r59))), (3, .int (r59)), (0, .ref (G.2.1 0 0))]) C dX9_shows_74 rfl rfl (Nat.le_of_ble_eq_true rfl) rfl ?_
    refine x_goto (tgt := 47) C dX9_shows_77 (by decide) ?_
    refine x_sub (ls' := [(0, .ref (G.2.1 0 0)), (1, .int ((a1 ||| r59))), (2, .int ((a2 + 1)))]) [3, 1, 0] rfl ?_
    exact hk47 _ _ _ _ _ h
theorem t9_shows_l47 {M : xM} {G : xG} {N : Nat}  (C : xC (M, G, mdom, 4) RX9 cX9_shows (some .int)) (R : xR (M, G, mdom, 4) = xrm 6 145) (n : Nat) : ∀ (a1 : Int32) (a2 : Int32) (s : mS) (r : Int32) (s1 : mS), f9_shows_l47 N n a1 a2 s = some (r, s1) → X (M, G, mdom, 4) (some (.int r)) (encM G s1) (encM G s) 47 [(0, .ref (G.2.1 0 0)), (1, .int (a1)), (2, .int (a2))] [] := by
  induction n with
  | zero => intro a1 a2 s r s1 h; exact (Option.some_ne_none _ (Eq.symm h)).elim
  | succ n ih => intro a1 a2 s r s1 h; exact t9_shows_l47b (N := N) C R (k47 := f9_shows_l47 N n) ih h
set_option maxRecDepth 100000 in
theorem t9_shows_l9b {M : xM} {G : xG} {N : Nat}  (C : xC (M, G, mdom, 4) RX9 cX9_shows (some .int)) (R : xR (M, G, mdom, 4) = xrm 6 145) {k9 : Int32 → Int32 → mS → Option (Int32 × mS)} (hk9 : ∀ (a1 : Int32) (a2 : Int32) (s : mS) (r : Int32) (s1 : mS), k9 a1 a2 s = some (r, s1) → X (M, G, mdom, 4) (some (.int r)) (encM G s1) (encM G s) 9 [(0, .ref (G.2.1 0 0)), (1, .int (a1)), (2, .int (a2))] []) {a1 : Int32} {a2 : Int32} {s : mS} {r : Int32} {s1 : mS} (h : f9_shows_l9b N k9 a1 a2 s = some (r, s1)) : X (M, G, mdom, 4) (some (.int r)) (encM G s1) (encM G s) 9 [(0, .ref (G.2.1 0 0)), (1, .int (a1)), (2, .int (a2))] [] := by
  unfold f9_shows_l9b at h
  refine x_iload_n (j := 2) C dX9_shows_9 rfl rfl ?_
  refine x_sipush (v := 1024) C dX9_shows_10 (by decide) ?_
  refine x_icmp_ge (tgt := 45) C dX9_shows_13 (by decide) (fun c13 => ?_) (fun c13 => ?_)
  · rw [if_pos c13] at h
    refine x_iconst (v := 0) C dX9_shows_45 (by decide) ?_
    refine x_istore_n (i := 2) (ls' := [(2, .int (0)), (0, .ref (G.2.1 0 0)), (1, .int (a1))]) C dX9_shows_46 rfl (Nat.le_of_ble_eq_true rfl) rfl ?_
    refine x_sub (ls' := [(0, .ref (G.2.1 0 0)), (1, .int (a1)), (2, .int (0))]) [1, 2, 0] rfl ?_
    exact t9_shows_l47 (N := N) C R N _ _ _ _ _ h
  · rw [if_neg c13] at h
    refine x_aload_n (j := 0) C dX9_shows_16 rfl rfl ?_
    refine gf9_40 C dX9_shows_17 ?_
    refine x_iload_n (j := 2) C dX9_shows_20 rfl rfl ?_
    refine x_iconst (v := 0) C dX9_shows_21 (by decide) ?_
    by_cases g22_1 : inB a2 1024 = true
    case neg => rw [if_neg g22_1] at h; cases h
    rw [if_pos g22_1] at h
    refine mst11 C dX9_shows_22 g22_1 rfl ?_
    refine x_aload_n (j := 0) C dX9_shows_23 rfl rfl ?_
    refine gf9_44 C dX9_shows_24 ?_
    refine x_iload_n (j := 2) C dX9_shows_27 rfl rfl ?_
    refine x_iload_n (j := 2) C dX9_shows_28 rfl rfl ?_
    refine x_if_ne (tgt := 36) C dX9_shows_29 (by decide) (fun c29 => ?_) (fun c29 => ?_)
    · rw [if_neg c29] at h
      refine x_bipush (v := 100) C dX9_shows_36 (by decide) ?_
      refine mst12 C dX9_shows_38 g22_1 ?_
      refine x_iinc (j := 2) (v := (a2 + 1)) (ls' := [(2, .int ((a2 + 1))), (0, .ref (G.2.1 0 0)), (1, .int (a1))]) C dX9_shows_39 rfl rfl (Nat.le_of_ble_eq_true rfl) rfl ?_
      refine x_goto (tgt := 9) C dX9_shows_42 (by decide) ?_
      refine x_sub (ls' := [(0, .ref (G.2.1 0 0)), (1, .int (a1)), (2, .int ((a2 + 1)))]) [1, 2, 0] rfl ?_
      exact hk9 _ _ _ _ _ h
    · rw [if_pos c29] at h
      refine x_iconst (v := 0) C dX9_shows_32 (by decide) ?_
      refine x_goto (tgt := 38) C dX9_shows_33 (by decide) ?_
      refine mst12 C dX9_shows_38 g22_1 ?_
      refine x_iinc (j := 2) (v := (a2 + 1)) (ls' := [(2, .int ((a2 + 1))), (0, .ref (G.2.1 0 0)), (1, .int (a1))]) C dX9_shows_39 rfl rfl (Nat.le_of_ble_eq_true rfl) rfl ?_
      refine x_goto (tgt := 9) C dX9_shows_42 (by decide) ?_
      refine x_sub (ls' := [(0, .ref (G.2.1 0 0)), (1, .int (a1)), (2, .int ((a2 + 1)))]) [1, 2, 0] rfl ?_
      exact hk9 _ _ _ _ _ h
theorem t9_shows_l9 {M : xM} {G : xG} {N : Nat}  (C : xC (M, G, mdom, 4) RX9 cX9_shows (some .int)) (R : xR (M, G, mdom, 4) = xrm 6 145) (n : Nat) : ∀ (a1 : Int32) (a2 : Int32) (s : mS) (r : Int32) (s1 : mS), f9_shows_l9 N n a1 a2 s = some (r, s1) → X (M, G, mdom, 4) (some (.int r)) (encM G s1) (encM G s) 9 [(0, .ref (G.2.1 0 0)), (1, .int (a1)), (2, .int (a2))] [] := by
  induction n with
  | zero => intro a1 a2 s r s1 h; exact (Option.some_ne_none _ (Eq.symm h)).elim
  | succ n ih => intro a1 a2 s r s1 h; exact t9_shows_l9b (N := N) C R (k9 := f9_shows_l9 N n) ih h
set_option maxRecDepth 100000 in
theorem t9_shows {M : xM} {G : xG} {N : Nat}  (C : xC (M, G, mdom, 4) RX9 cX9_shows (some .int)) (R : xR (M, G, mdom, 4) = xrm 6 145) {s : mS} {r : Int32} {s1 : mS} (h : f9_shows N s = some (r, s1)) : X (M, G, mdom, 4) (some (.int r)) (encM G s1) (encM G s) 0 [(0, .ref (G.2.1 0 0))] [] := by
  unfold f9_shows at h
  refine x_aload_n (j := 0) C dX9_shows_0 rfl rfl ?_
  refine x_iconst (v := 0) C dX9_shows_1 (by decide) ?_
  refine pf9_47 C dX9_shows_2 ?_
  refine x_iconst (v := 0) C dX9_shows_5 (by decide) ?_
  refine x_istore_n (i := 1) (ls' := [(1, .int (0)), (0, .ref (G.2.1 0 0))]) C dX9_shows_6 rfl (Nat.le_of_ble_eq_true rfl) rfl ?_
  refine x_iconst (v := 0) C dX9_shows_7 (by decide) ?_
  refine x_istore_n (i := 2) (ls' := [(2, .int (0)), (1, .int (0)), (0, .ref (G.2.1 0 0))]) C dX9_shows_8 rfl (Nat.le_of_ble_eq_true rfl) rfl ?_
  refine x_sub (ls' := [(0, .ref (G.2.1 0 0)), (1, .int (0)), (2, .int (0))]) [2, 1, 0] rfl ?_
  exact t9_shows_l9 (N := N) C R N _ _ _ _ _ h
theorem c9_shows (l : Launch) (G : xG) {N : Nat}  {s : mS} {r : Int32} {s1 : mS} (h : f9_shows N s = some (r, s1)) : xMet l yX9_shows (x_ws yX9_shows cX9_shows 4 (some .int)) (xrm 6 145) G mdom [.ref (G.2.1 0 0)] (encM G s) (some (.int r)) (encM G s1) := by
  refine xMet.of (by decide +kernel) (Nat.le_of_ble_eq_true rfl) ?_
  rintro ⟨M, G', dom', n'⟩ e1 R e3 e4 e5 C
  change G' = G at e3; change dom' = mdom at e4; change n' = 4 at e5
  subst e3; subst e4; subst e5
  exact t9_shows C R h
set_option maxRecDepth 100000 in
theorem t9_showing {M : xM} {G : xG} {N : Nat} {p1 : Int32} (C : xC (M, G, mdom, 2) RX9 cX9_showing (some .int)) (R : xR (M, G, mdom, 2) = xrm 6 145) {s : mS} {r : Int32} {s1 : mS} (h : f9_showing N p1 s = some (r, s1)) : X (M, G, mdom, 2) (some (.int r)) (encM G s1) (encM G s) 0 [(0, .ref (G.2.1 0 0)), (1, .int (p1))] [] := by
  unfold f9_showing at h
  refine x_aload_n (j := 0) C dX9_showing_0 rfl rfl ?_
  refine x_iconst (v := 0) C dX9_showing_1 (by decide) ?_
  refine pf9_47 C dX9_showing_2 ?_
  refine x_aload_n (j := 0) C dX9_showing_5 rfl rfl ?_
  refine x_iload_n (j := 1) C dX9_showing_6 rfl rfl ?_
  obtain ⟨⟨r7, s7⟩, e7, h⟩ := Option.bind_eq_some_iff.mp h
  try dsimp only at h
  refine k9_107 C dX9_showing_7 e7 (x_room R rfl) (Nat.le_of_ble_eq_true rfl) ?_
  refine x_if_eq (tgt := 21) C dX9_showing_10 (by decide) (fun c10 => ?_) (fun c10 => ?_)
  · rw [if_pos c10] at h
    refine x_iconst (v := (-1)) C dX9_showing_21 (by decide) ?_
    cases h
    exact x_iret C dX9_showing_22
  · rw [if_neg c10] at h
    refine x_aload_n (j := 0) C dX9_showing_13 rfl rfl ?_
    refine x_iload_n (j := 1) C dX9_showing_14 rfl rfl ?_
    obtain ⟨⟨r15, s15⟩, e15, h⟩ := Option.bind_eq_some_iff.mp h
    try dsimp only at h
    refine k9_143 C dX9_showing_15 e15 (x_room R rfl) (Nat.le_of_ble_eq_true rfl) ?_
    refine x_goto (tgt := 22) C dX9_showing_18 (by decide) ?_
    cases h
    exact x_iret C dX9_showing_22
theorem c9_showing (l : Launch) (G : xG) {N : Nat} {p1 : Int32} {s : mS} {r : Int32} {s1 : mS} (h : f9_showing N p1 s = some (r, s1)) : xMet l yX9_showing (x_ws yX9_showing cX9_showing 2 (some .int)) (xrm 6 145) G mdom [.ref (G.2.1 0 0), .int (p1)] (encM G s) (some (.int r)) (encM G s1) := by
  refine xMet.of (by decide +kernel) (Nat.le_of_ble_eq_true rfl) ?_
  rintro ⟨M, G', dom', n'⟩ e1 R e3 e4 e5 C
  change G' = G at e3; change dom' = mdom at e4; change n' = 2 at e5
  subst e3; subst e4; subst e5
  exact t9_showing C R h
set_option maxRecDepth 100000 in
theorem t9_alike_b99 {M : xM} {G : xG} {N : Nat}  (C : xC (M, G, mdom, 6) RX9 cX9_alike (some .int)) (R : xR (M, G, mdom, 6) = xrm 4 100) {k9 : Int32 → Int32 → mS → Option (Int32 × mS)} (hk9 : ∀ (a1 : Int32) (a2 : Int32) (s : mS) (r : Int32) (s1 : mS), k9 a1 a2 s = some (r, s1) → X (M, G, mdom, 6) (some (.int r)) (encM G s1) (encM G s) 9 [(0, .ref (G.2.1 0 0)), (1, .int (a1)), (2, .int (a2))] []) {k21 : Int32 → Int32 → Int32 → mS → Option (Int32 × mS)} (hk21 : ∀ (a1 : Int32) (a2 : Int32) (a3 : Int32) (s : mS) (r : Int32) (s1 : mS), k21 a1 a2 a3 s = some (r, s1) → X (M, G, mdom, 6) (some (.int r)) (encM G s1) (encM G s) 21 [(0, .ref (G.2.1 0 0)), (1, .int (a1)), (2, .int (a2)), (3, .int (a3))] []) {a1 : Int32} {a2 : Int32} {a3 : Int32} {a4 : Int32} {s : mS} {r : Int32} {s1 : mS} (h : f9_alike_b99 N k9 k21 a1 a2 a3 a4 s = some (r, s1)) : X (M, G, mdom, 6) (some (.int r)) (encM G s1) (encM G s) 99 [(0, .ref (G.2.1 0 0)), (1, .int (a1)), (2, .int (a2)), (3, .int (a3)), (4, .int (a4))] [] := by
  unfold f9_alike_b99 at h
  refine x_iload_n (j := 1) C dX9_alike_99 rfl rfl ?_
  refine x_iload (j := 4) C dX9_alike_100 rfl ?_
  refine x_if_eq (tgt := 109) C dX9_alike_102 (by decide) (fun c102 => ?_) (fun c102 => ?_)
  · rw [if_pos c102] at h
    refine x_iconst (v := 0) C dX9_alike_109 (by decide) ?_
    refine x_iadd C dX9_alike_110 ?_
    refine x_istore_n (i := 1) (ls' := [(1, .int ((a1 + 0))), (0, .ref (G.2.1 0 0)), (2, .int (a2)), (3, .int (a3)), (4, .int (a4))]) C dX9_alike_111 rfl (Nat.le_of_ble_eq_true rfl) rfl ?_
    refine x_iinc (j := 3) (v := (a3 + 1)) (ls' := [(3, .int ((a3 + 1))), (1, .int ((a1 + 0))), (0, .ref (G.2.1 0 0)), (2, .int (a2)), (4, .int (a4))]) C dX9_alike_112 rfl rfl (Nat.le_of_ble_eq_true rfl) rfl ?_
    refine x_goto (tgt := 21) C dX9_alike_115 (by decide) ?_
    refine x_sub (ls' := [(0, .ref (G.2.1 0 0)), (1, .int ((a1 + 0))), (2, .int (a2)), (3, .int ((a3 + 1)))]) [2, 1, 3, 0] rfl ?_
    exact hk21 _ _ _ _ _ _ h
  · rw [if_neg c102] at h
    refine x_iconst (v := 1) C dX9_alike_105 (by decide) ?_
    refine x_goto (tgt := 110) C dX9_alike_106 (by decide) ?_
    refine x_iadd C dX9_alike_110 ?_
    refine x_istore_n (i := 1) (ls' := [(1, .int ((a1 + 1))), (0, .ref (G.2.1 0 0)), (2, .int (a2)), (3, .int (a3)), (4, .int (a4))]) C dX9_alike_111 rfl (Nat.le_of_ble_eq_true rfl) rfl ?_
    refine x_iinc (j := 3) (v := (a3 + 1)) (ls' := [(3, .int ((a3 + 1))), (1, .int ((a1 + 1))), (0, .ref (G.2.1 0 0)), (2, .int (a2)), (4, .int (a4))]) C dX9_alike_112 rfl rfl (Nat.le_of_ble_eq_true rfl) rfl ?_
    refine x_goto (tgt := 21) C dX9_alike_115 (by decide) ?_
    refine x_sub (ls' := [(0, .ref (G.2.1 0 0)), (1, .int ((a1 + 1))), (2, .int (a2)), (3, .int ((a3 + 1)))]) [2, 1, 3, 0] rfl ?_
    exact hk21 _ _ _ _ _ _ h
set_option maxRecDepth 100000 in
theorem t9_alike_l53b {M : xM} {G : xG} {N : Nat}  (C : xC (M, G, mdom, 6) RX9 cX9_alike (some .int)) (R : xR (M, G, mdom, 6) = xrm 4 100) {k9 : Int32 → Int32 → mS → Option (Int32 × mS)} (hk9 : ∀ (a1 : Int32) (a2 : Int32) (s : mS) (r : Int32) (s1 : mS), k9 a1 a2 s = some (r, s1) → X (M, G, mdom, 6) (some (.int r)) (encM G s1) (encM G s) 9 [(0, .ref (G.2.1 0 0)), (1, .int (a1)), (2, .int (a2))] []) {k21 : Int32 → Int32 → Int32 → mS → Option (Int32 × mS)} (hk21 : ∀ (a1 : Int32) (a2 : Int32) (a3 : Int32) (s : mS) (r : Int32) (s1 : mS), k21 a1 a2 a3 s = some (r, s1) → X (M, G, mdom, 6) (some (.int r)) (encM G s1) (encM G s) 21 [(0, .ref (G.2.1 0 0)), (1, .int (a1)), (2, .int (a2)), (3, .int (a3))] []) {k53 : Int32 → Int32 → Int32 → Int32 → Int32 → mS → Option (Int32 × mS)} (hk53 : ∀ (a1 : Int32) (a2 : Int32) (a3 : Int32) (a4 : Int32) (a5 : Int32) (s : mS) (r : Int32) (s1 : mS), k53 a1 a2 a3 a4 a5 s = some (r, s1) → X (M, G, mdom, 6) (some (.int r)) (encM G s1) (encM G s) 53 [(0, .ref (G.2.1 0 0)), (1, .int (a1)), (2, .int (a2)), (3, .int (a3)), (4, .int (a4)), (5, .int (a5))] []) {a1 : Int32} {a2 : Int32} {a3 : Int32} {a4 : Int32} {a5 : Int32} {s : mS} {r : Int32} {s1 : mS} (h : f9_alike_l53b N k9 k21 k53 a1 a2 a3 a4 a5 s = some (r, s1)) : X (M, G, mdom, 6) (some (.int r)) (encM G s1) (encM G s) 53 [(0, .ref (G.2.1 0 0)), (1, .int (a1)), (2, .int (a2)), (3, .int (a3)), (4, .int (a4)), (5, .int (a5))] [] := by
  unfold f9_alike_l53b at h
  refine x_iload (j := 5) C dX9_alike_53 rfl ?_
  refine x_aload_n (j := 0) C dX9_alike_55 rfl rfl ?_
  refine gf9_7 C dX9_alike_56 ?_
  refine x_iconst (v := 0) C dX9_alike_59 (by decide) ?_
  refine mld1 C dX9_alike_60 (by decide) ?_
  refine x_icmp_gt (tgt := 99) C dX9_alike_61 (by decide) (fun c61 => ?_) (fun c61 => ?_)
  · rw [if_pos c61] at h
    refine x_sub (ls' := [(0, .ref (G.2.1 0 0)), (1, .int (a1)), (2, .int (a2)), (3, .int (a3)), (4, .int (a4))]) [0, 1, 2, 3, 4] rfl ?_
    exact t9_alike_b99 (N := N) C R hk9 hk21 h
  · rw [if_neg c61] at h
    refine x_iload (j := 4) C dX9_alike_64 rfl ?_
    refine x_if_eq (tgt := 99) C dX9_alike_66 (by decide) (fun c66 => ?_) (fun c66 => ?_)
    · rw [if_pos c66] at h
      refine x_sub (ls' := [(0, .ref (G.2.1 0 0)), (1, .int (a1)), (2, .int (a2)), (3, .int (a3)), (4, .int (a4))]) [0, 1, 2, 3, 4] rfl ?_
      exact t9_alike_b99 (N := N) C R hk9 hk21 h
    · rw [if_neg c66] at h
      refine x_aload_n (j := 0) C dX9_alike_69 rfl rfl ?_
      refine x_iload_n (j := 2) C dX9_alike_70 rfl rfl ?_
      refine x_iload (j := 5) C dX9_alike_71 rfl ?_
      obtain ⟨⟨r73, s73⟩, e73, h⟩ := Option.bind_eq_some_iff.mp h
      try dsimp only at h
      refine k9_137 C dX9_alike_73 e73 (x_room R rfl) (Nat.le_of_ble_eq_true rfl) ?_
      refine x_aload_n (j := 0) C dX9_alike_76 rfl rfl ?_
      refine x_iload_n (j := 3) C dX9_alike_77 rfl rfl ?_
      refine x_iload (j := 5) C dX9_alike_78 rfl ?_
      obtain ⟨⟨r80, s80⟩, e80, h⟩ := Option.bind_eq_some_iff.mp h
      try dsimp only at h
      refine k9_137 C dX9_alike_80 e80 (x_room R rfl) (Nat.le_of_ble_eq_true rfl) ?_
      refine x_icmp_ne (tgt := 90) C dX9_alike_83 (by decide) (fun c83 => ?_) (fun c83 => ?_)
      · rw [if_neg c83] at h
        refine x_iconst (v := 0) C dX9_alike_90 (by decide) ?_
        refine x_istore (i := 4) (ls' := [(4, .int (0)), (0, .ref (G.2.1 0 0)), (1, .int (a1)), (2, .int (a2)), (3, .int (a3)), (5, .int (a5))]) C dX9_alike_91 (Nat.le_of_ble_eq_true rfl) rfl ?_
        refine x_iinc (j := 5) (v := (a5 + 1)) (ls' := [(5, .int ((a5 + 1))), (4, .int (0)), (0, .ref (G.2.1 0 0)), (1, .int (a1)), (2, .int (a2)), (3, .int (a3))]) C dX9_alike_93 rfl rfl (Nat.le_of_ble_eq_true rfl) rfl ?_
        refine x_goto (tgt := 53) C dX9_alike_96 (by decide) ?_
        refine x_sub (ls' := [(0, .ref (G.2.1 0 0)), (1, .int (a1)), (2, .int (a2)), (3, .int (a3)), (4, .int (0)), (5, .int ((a5 + 1)))]) [2, 3, 4, 5, 1, 0] rfl ?_
        exact hk53 _ _ _ _ _ _ _ _ h
      · rw [if_pos c83] at h
        refine x_iconst (v := 1) C dX9_alike_86 (by decide) ?_
        refine x_goto (tgt := 91) C dX9_alike_87 (by decide) ?_
        refine x_istore (i := 4) (ls' := [(4, .int (1)), (0, .ref (G.2.1 0 0)), (1, .int (a1)), (2, .int (a2)), (3, .int (a3)), (5, .int (a5))]) C dX9_alike_91 (Nat.le_of_ble_eq_true rfl) rfl ?_
        refine x_iinc (j := 5) (v := (a5 + 1)) (ls' := [(5, .int ((a5 + 1))), (4, .int (1)), (0, .ref (G.2.1 0 0)), (1, .int (a1)), (2, .int (a2)), (3, .int (a3))]) C dX9_alike_93 rfl rfl (Nat.le_of_ble_eq_true rfl) rfl ?_
        refine x_goto (tgt := 53) C dX9_alike_96 (by decide) ?_
        refine x_sub (ls' := [(0, .ref (G.2.1 0 0)), (1, .int (a1)), (2, .int (a2)), (3, .int (a3)), (4, .int (1)), (5, .int ((a5 + 1)))]) [2, 3, 4, 5, 1, 0] rfl ?_
        exact hk53 _ _ _ _ _ _ _ _ h
theorem t9_alike_l53 {M : xM} {G : xG} {N : Nat}  (C : xC (M, G, mdom, 6) RX9 cX9_alike (some .int)) (R : xR (M, G, mdom, 6) = xrm 4 100) {k9 : Int32 → Int32 → mS → Option (Int32 × mS)} (hk9 : ∀ (a1 : Int32) (a2 : Int32) (s : mS) (r : Int32) (s1 : mS), k9 a1 a2 s = some (r, s1) → X (M, G, mdom, 6) (some (.int r)) (encM G s1) (encM G s) 9 [(0, .ref (G.2.1 0 0)), (1, .int (a1)), (2, .int (a2))] []) {k21 : Int32 → Int32 → Int32 → mS → Option (Int32 × mS)} (hk21 : ∀ (a1 : Int32) (a2 : Int32) (a3 : Int32) (s : mS) (r : Int32) (s1 : mS), k21 a1 a2 a3 s = some (r, s1) → X (M, G, mdom, 6) (some (.int r)) (encM G s1) (encM G s) 21 [(0, .ref (G.2.1 0 0)), (1, .int (a1)), (2, .int (a2)), (3, .int (a3))] []) (n : Nat) : ∀ (a1 : Int32) (a2 : Int32) (a3 : Int32) (a4 : Int32) (a5 : Int32) (s : mS) (r : Int32) (s1 : mS), f9_alike_l53 N k9 k21 n a1 a2 a3 a4 a5 s = some (r, s1) → X (M, G, mdom, 6) (some (.int r)) (encM G s1) (encM G s) 53 [(0, .ref (G.2.1 0 0)), (1, .int (a1)), (2, .int (a2)), (3, .int (a3)), (4, .int (a4)), (5, .int (a5))] [] := by
  induction n with
  | zero => intro a1 a2 a3 a4 a5 s r s1 h; exact (Option.some_ne_none _ (Eq.symm h)).elim
  | succ n ih => intro a1 a2 a3 a4 a5 s r s1 h; exact t9_alike_l53b (N := N) C R hk9 hk21 (k53 := f9_alike_l53 N k9 k21 n) ih h
set_option maxRecDepth 100000 in
theorem t9_alike_l21b {M : xM} {G : xG} {N : Nat}  (C : xC (M, G, mdom, 6) RX9 cX9_alike (some .int)) (R : xR (M, G, mdom, 6) = xrm 4 100) {k9 : Int32 → Int32 → mS → Option (Int32 × mS)} (hk9 : ∀ (a1 : Int32) (a2 : Int32) (s : mS) (r : Int32) (s1 : mS), k9 a1 a2 s = some (r, s1) → X (M, G, mdom, 6) (some (.int r)) (encM G s1) (encM G s) 9 [(0, .ref (G.2.1 0 0)), (1, .int (a1)), (2, .int (a2))] []) {k21 : Int32 → Int32 → Int32 → mS → Option (Int32 × mS)} (hk21 : ∀ (a1 : Int32) (a2 : Int32) (a3 : Int32) (s : mS) (r : Int32) (s1 : mS), k21 a1 a2 a3 s = some (r, s1) → X (M, G, mdom, 6) (some (.int r)) (encM G s1) (encM G s) 21 [(0, .ref (G.2.1 0 0)), (1, .int (a1)), (2, .int (a2)), (3, .int (a3))] []) {a1 : Int32} {a2 : Int32} {a3 : Int32} {s : mS} {r : Int32} {s1 : mS} (h : f9_alike_l21b N k9 k21 a1 a2 a3 s = some (r, s1)) : X (M, G, mdom, 6) (some (.int r)) (encM G s1) (encM G s) 21 [(0, .ref (G.2.1 0 0)), (1, .int (a1)), (2, .int (a2)), (3, .int (a3))] [] := by
  unfold f9_alike_l21b at h
  refine x_iload_n (j := 3) C dX9_alike_21 rfl rfl ?_
  refine x_aload_n (j := 0) C dX9_alike_22 rfl rfl ?_
  refine gf9_57 C dX9_alike_23 ?_
  refine x_icmp_ge (tgt := 118) C dX9_alike_26 (by decide) (fun c26 => ?_) (fun c26 => ?_)
  · rw [if_pos c26] at h
    refine x_iinc (j := 2) (v := (a2 + 1)) (ls' := [(2, .int ((a2 + 1))), (0, .ref (G.2.1 0 0)), (1, .int (a1)), (3, .int (a3))]) C dX9_alike_118 rfl rfl (Nat.le_of_ble_eq_true rfl) rfl ?_
    refine x_goto (tgt := 9) C dX9_alike_121 (by decide) ?_
    refine x_sub (ls' := [(0, .ref (G.2.1 0 0)), (1, .int (a1)), (2, .int ((a2 + 1)))]) [1, 2, 0] rfl ?_
    exact hk9 _ _ _ _ _ h
  · rw [if_neg c26] at h
    refine x_aload_n (j := 0) C dX9_alike_29 rfl rfl ?_
    refine gf9_22 C dX9_alike_30 ?_
    refine x_iload_n (j := 2) C dX9_alike_33 rfl rfl ?_
    by_cases g34_1 : inB a2 10 = true
    case neg => rw [if_neg g34_1] at h; cases h
    rw [if_pos g34_1] at h
    refine mld5 C dX9_alike_34 g34_1 ?_
    refine x_aload_n (j := 0) C dX9_alike_35 rfl rfl ?_
    refine gf9_22 C dX9_alike_36 ?_
    refine x_iload_n (j := 3) C dX9_alike_39 rfl rfl ?_
    by_cases g40_2 : inB a3 10 = true
    case neg => rw [if_neg g40_2] at h; cases h
    rw [if_pos g40_2] at h
    refine mld5 C dX9_alike_40 g40_2 ?_
    refine x_icmp_eq (tgt := 47) C dX9_alike_41 (by decide) (fun c41 => ?_) (fun c41 => ?_)
    · rw [if_pos c41] at h
      refine x_iconst (v := 1) C dX9_alike_47 (by decide) ?_
      refine x_istore (i := 4) (ls' := [(4, .int (1)), (0, .ref (G.2.1 0 0)), (1, .int (a1)), (2, .int (a2)), (3, .int (a3))]) C dX9_alike_48 (Nat.le_of_ble_eq_true rfl) rfl ?_
      refine x_iconst (v := 0) C dX9_alike_50 (by decide) ?_
      refine x_istore (i := 5) (ls' := [(5, .int (0)), (4, .int (1)), (0, .ref (G.2.1 0 0)), (1, .int (a1)), (2, .int (a2)), (3, .int (a3))]) C dX9_alike_51 (Nat.le_of_ble_eq_true rfl) rfl ?_
      refine x_sub (ls' := [(0, .ref (G.2.1 0 0)), (1, .int (a1)), (2, .int (a2)), (3, .int (a3)), (4, .int (1)), (5, .int (0))]) [2, 3, 4, 5, 1, 0] rfl ?_
      exact t9_alike_l53 (N := N) C R hk9 hk21 N _ _ _ _ _ _ _ _ h
    · rw [if_neg c41] at h
      refine x_goto (tgt := 112) C dX9_alike_44 (by decide) ?_
      refine x_iinc (j := 3) (v := (a3 + 1)) (ls' := [(3, .int ((a3 + 1))), (0, .ref (G.2.1 0 0)), (1, .int (a1)), (2, .int (a2))]) C dX9_alike_112 rfl rfl (Nat.le_of_ble_eq_true rfl) rfl ?_
      refine x_goto (tgt := 21) C dX9_alike_115 (by decide) ?_
      refine x_sub (ls' := [(0, .ref (G.2.1 0 0)), (1, .int (a1)), (2, .int (a2)), (3, .int ((a3 + 1)))]) [1, 2, 3, 0] rfl ?_
      exact hk21 _ _ _ _ _ _ h
theorem t9_alike_l21 {M : xM} {G : xG} {N : Nat}  (C : xC (M, G, mdom, 6) RX9 cX9_alike (some .int)) (R : xR (M, G, mdom, 6) = xrm 4 100) {k9 : Int32 → Int32 → mS → Option (Int32 × mS)} (hk9 : ∀ (a1 : Int32) (a2 : Int32) (s : mS) (r : Int32) (s1 : mS), k9 a1 a2 s = some (r, s1) → X (M, G, mdom, 6) (some (.int r)) (encM G s1) (encM G s) 9 [(0, .ref (G.2.1 0 0)), (1, .int (a1)), (2, .int (a2))] []) (n : Nat) : ∀ (a1 : Int32) (a2 : Int32) (a3 : Int32) (s : mS) (r : Int32) (s1 : mS), f9_alike_l21 N k9 n a1 a2 a3 s = some (r, s1) → X (M, G, mdom, 6) (some (.int r)) (encM G s1) (encM G s) 21 [(0, .ref (G.2.1 0 0)), (1, .int (a1)), (2, .int (a2)), (3, .int (a3))] [] := by
  induction n with
  | zero => intro a1 a2 a3 s r s1 h; exact (Option.some_ne_none _ (Eq.symm h)).elim
  | succ n ih => intro a1 a2 a3 s r s1 h; exact t9_alike_l21b (N := N) C R hk9 (k21 := f9_alike_l21 N k9 n) ih h
set_option maxRecDepth 100000 in
theorem t9_alike_l9b {M : xM} {G : xG} {N : Nat}  (C : xC (M, G, mdom, 6) RX9 cX9_alike (some .int)) (R : xR (M, G, mdom, 6) = xrm 4 100) {k9 : Int32 → Int32 → mS → Option (Int32 × mS)} (hk9 : ∀ (a1 : Int32) (a2 : Int32) (s : mS) (r : Int32) (s1 : mS), k9 a1 a2 s = some (r, s1) → X (M, G, mdom, 6) (some (.int r)) (encM G s1) (encM G s) 9 [(0, .ref (G.2.1 0 0)), (1, .int (a1)), (2, .int (a2))] []) {a1 : Int32} {a2 : Int32} {s : mS} {r : Int32} {s1 : mS} (h : f9_alike_l9b N k9 a1 a2 s = some (r, s1)) : X (M, G, mdom, 6) (some (.int r)) (encM G s1) (encM G s) 9 [(0, .ref (G.2.1 0 0)), (1, .int (a1)), (2, .int (a2))] [] := by
  unfold f9_alike_l9b at h
  refine x_iload_n (j := 2) C dX9_alike_9 rfl rfl ?_
  refine x_aload_n (j := 0) C dX9_alike_10 rfl rfl ?_
  refine gf9_57 C dX9_alike_11 ?_
  refine x_icmp_ge (tgt := 124) C dX9_alike_14 (by decide) (fun c14 => ?_) (fun c14 => ?_)
  · rw [if_pos c14] at h
    refine x_iload_n (j := 1) C dX9_alike_124 rfl rfl ?_
    cases h
    exact x_iret C dX9_alike_125
  · rw [if_neg c14] at h
    refine x_iload_n (j := 2) C dX9_alike_17 rfl rfl ?_
    refine x_iconst (v := 1) C dX9_alike_18 (by decide) ?_
    refine x_iadd C dX9_alike_19 ?_
    refine x_istore_n (i := 3) (ls' := [(3, .int ((a2 + 1))), (0, .ref (G.2.1 0 0)), (1, .int (a1)), (2, .int (a2))]) C dX9_alike_20 rfl (Nat.le_of_ble_eq_true rfl) rfl ?_
    refine x_sub (ls' := [(0, .ref (G.2.1 0 0)), (1, .int (a1)), (2, .int (a2)), (3, .int ((a2 + 1)))]) [1, 2, 3, 0] rfl ?_
    exact t9_alike_l21 (N := N) C R hk9 N _ _ _ _ _ _ h
theorem t9_alike_l9 {M : xM} {G : xG} {N : Nat}  (C : xC (M, G, mdom, 6) RX9 cX9_alike (some .int)) (R : xR (M, G, mdom, 6) = xrm 4 100) (n : Nat) : ∀ (a1 : Int32) (a2 : Int32) (s : mS) (r : Int32) (s1 : mS), f9_alike_l9 N n a1 a2 s = some (r, s1) → X (M, G, mdom, 6) (some (.int r)) (encM G s1) (encM G s) 9 [(0, .ref (G.2.1 0 0)), (1, .int (a1)), (2, .int (a2))] [] := by
  induction n with
  | zero => intro a1 a2 s r s1 h; exact (Option.some_ne_none _ (Eq.symm h)).elim
  | succ n ih => intro a1 a2 s r s1 h; exact t9_alike_l9b (N := N) C R (k9 := f9_alike_l9 N n) ih h
set_option maxRecDepth 100000 in
theorem t9_alike {M : xM} {G : xG} {N : Nat}  (C : xC (M, G, mdom, 6) RX9 cX9_alike (some .int)) (R : xR (M, G, mdom, 6) = xrm 4 100) {s : mS} {r : Int32} {s1 : mS} (h : f9_alike N s = some (r, s1)) : X (M, G, mdom, 6) (some (.int r)) (encM G s1) (encM G s) 0 [(0, .ref (G.2.1 0 0))] [] := by
  unfold f9_alike at h
  refine x_aload_n (j := 0) C dX9_alike_0 rfl rfl ?_
  refine x_iconst (v := 0) C dX9_alike_1 (by decide) ?_
  refine pf9_47 C dX9_alike_2 ?_
  refine x_iconst (v := 0) C dX9_alike_5 (by decide) ?_
  refine x_istore_n (i := 1) (ls' := [(1, .int (0)), (0, .ref (G.2.1 0 0))]) C dX9_alike_6 rfl (Nat.le_of_ble_eq_true rfl) rfl ?_
  refine x_iconst (v := 0) C dX9_alike_7 (by decide) ?_
  refine x_istore_n (i := 2) (ls' := [(2, .int (0)), (1, .int (0)), (0, .ref (G.2.1 0 0))]) C dX9_alike_8 rfl (Nat.le_of_ble_eq_true rfl) rfl ?_
  refine x_sub (ls' := [(0, .ref (G.2.1 0 0)), (1, .int (0)), (2, .int (0))]) [2, 1, 0] rfl ?_
  exact t9_alike_l9 (N := N) C R N _ _ _ _ _ h
theorem c9_alike (l : Launch) (G : xG) {N : Nat}  {s : mS} {r : Int32} {s1 : mS} (h : f9_alike N s = some (r, s1)) : xMet l yX9_alike (x_ws yX9_alike cX9_alike 6 (some .int)) (xrm 4 100) G mdom [.ref (G.2.1 0 0)] (encM G s) (some (.int r)) (encM G s1) := by
  refine xMet.of (by decide +kernel) (Nat.le_of_ble_eq_true rfl) ?_
  rintro ⟨M, G', dom', n'⟩ e1 R e3 e4 e5 C
  change G' = G at e3; change dom' = mdom at e4; change n' = 6 at e5
  subst e3; subst e4; subst e5
  exact t9_alike C R h
set_option maxRecDepth 100000 in
theorem t9_beyond_l26b {M : xM} {G : xG} {N : Nat} {p1 : Int32} (C : xC (M, G, mdom, 3) RX9 cX9_beyond (some .int)) (R : xR (M, G, mdom, 3) = xrm 2 53) {k26 : Int32 → mS → Option (Int32 × mS)} (hk26 : ∀ (a2 : Int32) (s : mS) (r : Int32) (s1 : mS), k26 a2 s = some (r, s1) → X (M, G, mdom, 3) (some (.int r)) (encM G s1) (encM G s) 26 [(0, .ref (G.2.1 0 0)), (1, .int (p1)), (2, .int (a2))] []) {a2 : Int32} {s : mS} {r : Int32} {s1 : mS} (h : f9_beyond_l26b N p1 k26 a2 s = some (r, s1)) : X (M, G, mdom, 3) (some (.int r)) (encM G s1) (encM G s) 26 [(0, .ref (G.2.1 0 0)), (1, .int (p1)), (2, .int (a2))] [] := by
  unfold f9_beyond_l26b at h
  refine x_iload_n (j := 2) C dX9_beyond_26 rfl rfl ?_
  refine x_aload_n (j := 0) C dX9_beyond_27 rfl rfl ?_
  refine gf9_7 C dX9_beyond_28 ?_
  refine x_iconst (v := 0) C dX9_beyond_31 (by decide) ?_
  refine mld1 C dX9_beyond_32 (by decide) ?_
  refine x_icmp_gt (tgt := 61) C dX9_beyond_33 (by decide) (fun c33 => ?_) (fun c33 => ?_)
  · rw [if_pos c33] at h
    refine x_bipush (v := (-2)) C dX9_beyond_61 (by decide) ?_
    cases h
    exact x_iret C dX9_beyond_63
  · rw [if_neg c33] at h
    refine x_aload_n (j := 0) C dX9_beyond_36 rfl rfl ?_
    refine x_iload_n (j := 1) C dX9_beyond_37 rfl rfl ?_
    refine x_iload_n (j := 2) C dX9_beyond_38 rfl rfl ?_
    obtain ⟨s39, e39, h⟩ := Option.bind_eq_some_iff.mp h
    try dsimp only at h
    refine k9_103 C dX9_beyond_39 e39 (x_room R rfl) (Nat.le_of_ble_eq_true rfl) ?_
    refine x_aload_n (j := 0) C dX9_beyond_42 rfl rfl ?_
    refine x_aload_n (j := 0) C dX9_beyond_43 rfl rfl ?_
    refine gf9_97 C dX9_beyond_44 ?_
    obtain ⟨⟨r47, s47⟩, e47, h⟩ := Option.bind_eq_some_iff.mp h
    try dsimp only at h
    refine k9_107 C dX9_beyond_47 e47 (x_room R rfl) (Nat.le_of_ble_eq_true rfl) ?_
    refine x_if_ne (tgt := 55) C dX9_beyond_50 (by decide) (fun c50 => ?_) (fun c50 => ?_)
    · rw [if_neg c50] at h
      refine x_iinc (j := 2) (v := (a2 + 1)) (ls' := [(2, .int ((a2 + 1))), (0, .ref (G.2.1 0 0)), (1, .int (p1))]) C dX9_beyond_55 rfl rfl (Nat.le_of_ble_eq_true rfl) rfl ?_
      refine x_goto (tgt := 26) C dX9_beyond_58 (by decide) ?_
      refine x_sub (ls' := [(0, .ref (G.2.1 0 0)), (1, .int (p1)), (2, .int ((a2 + 1)))]) [1, 2, 0] rfl ?_
      exact hk26 _ _ _ _ h
    · rw [if_pos c50] at h
      refine x_iload_n (j := 2) C dX9_beyond_53 rfl rfl ?_
      cases h
      exact x_iret C dX9_beyond_54
theorem t9_beyond_l26 {M : xM} {G : xG} {N : Nat} {p1 : Int32} (C : xC (M, G, mdom, 3) RX9 cX9_beyond (some .int)) (R : xR (M, G, mdom, 3) = xrm 2 53) (n : Nat) : ∀ (a2 : Int32) (s : mS) (r : Int32) (s1 : mS), f9_beyond_l26 N p1 n a2 s = some (r, s1) → X (M, G, mdom, 3) (some (.int r)) (encM G s1) (encM G s) 26 [(0, .ref (G.2.1 0 0)), (1, .int (p1)), (2, .int (a2))] [] := by
  induction n with
  | zero => intro a2 s r s1 h; exact (Option.some_ne_none _ (Eq.symm h)).elim
  | succ n ih => intro a2 s r s1 h; exact t9_beyond_l26b (N := N) (p1 := p1) C R (k26 := f9_beyond_l26 N p1 n) ih h
set_option maxRecDepth 100000 in
theorem t9_beyond {M : xM} {G : xG} {N : Nat} {p1 : Int32} (C : xC (M, G, mdom, 3) RX9 cX9_beyond (some .int)) (R : xR (M, G, mdom, 3) = xrm 2 53) {s : mS} {r : Int32} {s1 : mS} (h : f9_beyond N p1 s = some (r, s1)) : X (M, G, mdom, 3) (some (.int r)) (encM G s1) (encM G s) 0 [(0, .ref (G.2.1 0 0)), (1, .int (p1))] [] := by
  unfold f9_beyond at h
  refine x_aload_n (j := 0) C dX9_beyond_0 rfl rfl ?_
  refine x_iconst (v := 0) C dX9_beyond_1 (by decide) ?_
  refine pf9_47 C dX9_beyond_2 ?_
  refine x_aload_n (j := 0) C dX9_beyond_5 rfl rfl ?_
  refine x_iload_n (j := 1) C dX9_beyond_6 rfl rfl ?_
  obtain ⟨⟨r7, s7⟩, e7, h⟩ := Option.bind_eq_some_iff.mp h
  try dsimp only at h
  refine k9_68 C dX9_beyond_7 e7 (x_room R rfl) (Nat.le_of_ble_eq_true rfl) ?_
  refine x_if_ne (tgt := 19) C dX9_beyond_10 (by decide) (fun c10 => ?_) (fun c10 => ?_)
  · rw [if_neg c10] at h
    refine x_aload_n (j := 0) C dX9_beyond_19 rfl rfl ?_
    refine x_iconst (v := 0) C dX9_beyond_20 (by decide) ?_
    refine pf9_51 C dX9_beyond_21 ?_
    refine x_iconst (v := 0) C dX9_beyond_24 (by decide) ?_
    refine x_istore_n (i := 2) (ls' := [(2, .int (0)), (0, .ref (G.2.1 0 0)), (1, .int (p1))]) C dX9_beyond_25 rfl (Nat.le_of_ble_eq_true rfl) rfl ?_
    refine x_sub (ls' := [(0, .ref (G.2.1 0 0)), (1, .int (p1)), (2, .int (0))]) [1, 2, 0] rfl ?_
    exact t9_beyond_l26 (N := N) (p1 := p1) C R N _ _ _ _ h
  · rw [if_pos c10] at h
    refine x_aload_n (j := 0) C dX9_beyond_13 rfl rfl ?_
    refine x_iconst (v := 2) C dX9_beyond_14 (by decide) ?_
    obtain ⟨⟨r15, s15⟩, e15, h⟩ := Option.bind_eq_some_iff.mp h
    try dsimp only at h
    refine k9_78 C dX9_beyond_15 e15 (x_room R rfl) (Nat.le_of_ble_eq_true rfl) ?_
    cases h
    exact x_iret C dX9_beyond_18
theorem c9_beyond (l : Launch) (G : xG) {N : Nat} {p1 : Int32} {s : mS} {r : Int32} {s1 : mS} (h : f9_beyond N p1 s = some (r, s1)) : xMet l yX9_beyond (x_ws yX9_beyond cX9_beyond 3 (some .int)) (xrm 2 53) G mdom [.ref (G.2.1 0 0), .int (p1)] (encM G s) (some (.int r)) (encM G s1) := by
  refine xMet.of (by decide +kernel) (Nat.le_of_ble_eq_true rfl) ?_
  rintro ⟨M, G', dom', n'⟩ e1 R e3 e4 e5 C
  change G' = G at e3; change dom' = mdom at e4; change n' = 3 at e5
  subst e3; subst e4; subst e5
  exact t9_beyond C R h
set_option maxRecDepth 100000 in
theorem t9_joined {M : xM} {G : xG} {N : Nat} {p1 : Int32} {p2 : Int32} {p3 : Int32} {p4 : Int32} (C : xC (M, G, mdom, 7) RX9 cX9_joined (some .int)) (R : xR (M, G, mdom, 7) = xrm 3 75) {s : mS} {r : Int32} {s1 : mS} (h : f9_joined N p1 p2 p3 p4 s = some (r, s1)) : X (M, G, mdom, 7) (some (.int r)) (encM G s1) (encM G s) 0 [(0, .ref (G.2.1 0 0)), (1, .int (p1)), (2, .int (p2)), (3, .int (p3)), (4, .int (p4))] [] := by
  unfold f9_joined at h
  refine x_aload_n (j := 0) C dX9_joined_0 rfl rfl ?_
  refine x_iconst (v := 0) C dX9_joined_1 (by decide) ?_
  refine pf9_47 C dX9_joined_2 ?_
  refine x_aload_n (j := 0) C dX9_joined_5 rfl rfl ?_
  refine x_iload_n (j := 1) C dX9_joined_6 rfl rfl ?_
  obtain ⟨⟨r7, s7⟩, e7, h⟩ := Option.bind_eq_some_iff.mp h
  try dsimp only at h
  refine k9_68 C dX9_joined_7 e7 (x_room R rfl) (Nat.le_of_ble_eq_true rfl) ?_
  refine x_if_eq (tgt := 30) C dX9_joined_10 (by decide) (fun c10 => ?_) (fun c10 => ?_)
  · rw [if_pos c10] at h
    refine x_aload_n (j := 0) C dX9_joined_30 rfl rfl ?_
    refine x_iconst (v := 2) C dX9_joined_31 (by decide) ?_
    refine pf9_51 C dX9_joined_32 ?_
    refine x_ldc (v := (-2147483648)) C dX9_joined_35 lk885 ?_
    cases h
    exact x_iret C dX9_joined_37
  · rw [if_neg c10] at h
    refine x_aload_n (j := 0) C dX9_joined_13 rfl rfl ?_
    refine x_iload_n (j := 2) C dX9_joined_14 rfl rfl ?_
    obtain ⟨⟨r15, s15⟩, e15, h⟩ := Option.bind_eq_some_iff.mp h
    try dsimp only at h
    refine k9_68 C dX9_joined_15 e15 (x_room R rfl) (Nat.le_of_ble_eq_true rfl) ?_
    refine x_if_eq (tgt := 30) C dX9_joined_18 (by decide) (fun c18 => ?_) (fun c18 => ?_)
    · rw [if_pos c18] at h
      refine x_aload_n (j := 0) C dX9_joined_30 rfl rfl ?_
      refine x_iconst (v := 2) C dX9_joined_31 (by decide) ?_
      refine pf9_51 C dX9_joined_32 ?_
      refine x_ldc (v := (-2147483648)) C dX9_joined_35 lk885 ?_
      cases h
      exact x_iret C dX9_joined_37
    · rw [if_neg c18] at h
      refine x_aload_n (j := 0) C dX9_joined_21 rfl rfl ?_
      refine x_iload (j := 4) C dX9_joined_22 rfl ?_
      obtain ⟨⟨r24, s24⟩, e24, h⟩ := Option.bind_eq_some_iff.mp h
      try dsimp only at h
      refine k9_107 C dX9_joined_24 e24 (x_room R rfl) (Nat.le_of_ble_eq_true rfl) ?_
      refine x_if_ne (tgt := 38) C dX9_joined_27 (by decide) (fun c27 => ?_) (fun c27 => ?_)
      · rw [if_neg c27] at h
        refine x_aload_n (j := 0) C dX9_joined_38 rfl rfl ?_
        refine x_iload_n (j := 1) C dX9_joined_39 rfl rfl ?_
        refine x_iload (j := 4) C dX9_joined_40 rfl ?_
        obtain ⟨s42, e42, h⟩ := Option.bind_eq_some_iff.mp h
        try dsimp only at h
        refine k9_103 C dX9_joined_42 e42 (x_room R rfl) (Nat.le_of_ble_eq_true rfl) ?_
        refine x_aload_n (j := 0) C dX9_joined_45 rfl rfl ?_
        refine gf9_91 C dX9_joined_46 ?_
        refine x_istore (i := 5) (ls' := [(5, .int ((s42 12 0))), (0, .ref (G.2.1 0 0)), (1, .int (p1)), (2, .int (p2)), (3, .int (p3)), (4, .int (p4))]) C dX9_joined_49 (Nat.le_of_ble_eq_true rfl) rfl ?_
        refine x_aload_n (j := 1) C dX9_joined_51 rfl rfl ?_
        refine gf9_97 C dX9_joined_52 ?_
        refine x_istore (i := 6) (ls' := [(6, .int ((s42 14 0))), (5, .int ((s42 12 0))), (0, .ref (G.2.1 0 0)), (1, .int (p1)), (2, .int (p2)), (3, .int (p3)), (4, .int (p4))]) C dX9_joined_55 (Nat.le_of_ble_eq_true rfl) rfl ?_
        refine x_aload_n (j := 2) C dX9_joined_57 rfl rfl ?_
        refine x_iload_n (j := 5) C dX9_joined_58 rfl rfl ?_
        refine x_sipush (v := (-1000)) C dX9_joined_59 (by decide) ?_
        refine x_sipush (v := 1000) C dX9_joined_62 (by decide) ?_
        obtain ⟨⟨r65, s65⟩, e65, h⟩ := Option.bind_eq_some_iff.mp h
        try dsimp only at h
        refine k9_64 C dX9_joined_65 e65 (x_room R rfl) (Nat.le_of_ble_eq_true rfl) ?_
        refine x_if_eq (tgt := 80) C dX9_joined_68 (by decide) (fun c68 => ?_) (fun c68 => ?_)
        · rw [if_pos c68] at h
          refine x_aload_n (j := 2) C dX9_joined_80 rfl rfl ?_
          refine x_iconst (v := 1) C dX9_joined_81 (by decide) ?_
          refine pf9_51 C dX9_joined_82 ?_
          refine x_ldc (v := (-2147483648)) C dX9_joined_85 lk885 ?_
          cases h
          exact x_iret C dX9_joined_87
        · rw [if_neg c68] at h
          refine x_aload_n (j := 2) C dX9_joined_71 rfl rfl ?_
          refine x_iload (j := 0) C dX9_joined_72 rfl ?_
          obtain ⟨⟨r74, s74⟩, e74, h⟩ := Option.bind_eq_some_iff.mp h
          try dsimp only at h
          refine k9_107 C dX9_joined_74 e74 (x_room R rfl) (Nat.le_of_ble_eq_true rfl) ?_
          refine x_if_ne (tgt := 88) C dX9_joined_77 (by decide) (fun c77 => ?_) (fun c77 => ?_)
          · rw [if_neg c77] at h
            refine x_aload_n (j := 2) C dX9_joined_88 rfl rfl ?_
            refine x_iconst (v := 0) C dX9_joined_89 (by decide) ?_
            refine pf9_51 C dX9_joined_90 ?_
            refine x_iload (j := 1) C dX9_joined_93 rfl ?_
            refine x_iload_n (j := 5) C dX9_joined_95 rfl rfl ?_
            refine x_imul C dX9_joined_96 ?_
            refine x_aload_n (j := 2) C dX9_joined_97 rfl rfl ?_
            refine x_iload_n (j := 4) C dX9_joined_98 rfl rfl ?_
            refine x_iload (j := 0) C dX9_joined_99 rfl ?_
            obtain ⟨⟨r101, s101⟩, e101, h⟩ := Option.bind_eq_some_iff.mp h
            try dsimp only at h
            refine k9_110 C dX9_joined_101 e101 (x_room R rfl) (Nat.le_of_ble_eq_true rfl) ?_
            refine x_iadd C dX9_joined_104 ?_
            cases h
            exact x_iret C dX9_joined_105
          · rw [if_pos c77] at h
            refine x_aload_n (j := 2) C dX9_joined_80 rfl rfl ?_
            refine x_iconst (v := 1) C dX9_joined_81 (by decide) ?_
            refine pf9_51 C dX9_joined_82 ?_
            refine x_ldc (v := (-2147483648)) C dX9_joined_85 lk885 ?_
            cases h
            exact x_iret C dX9_joined_87
      · rw [if_pos c27] at h
        refine x_aload_n (j := 0) C dX9_joined_30 rfl rfl ?_
        refine x_iconst (v := 2) C dX9_joined_31 (by decide) ?_
        refine pf9_51 C dX9_joined_32 ?_
        refine x_ldc (v := (-2147483648)) C dX9_joined_35 lk885 ?_
        cases h
        exact x_iret C dX9_joined_37
theorem c9_joined (l : Launch) (G : xG) {N : Nat} {p1 : Int32} {p2 : Int32} {p3 : Int32} {p4 : Int32} {s : mS} {r : Int32} {s1 : mS} (h : f9_joined N p1 p2 p3 p4 s = some (r, s1)) : xMet l yX9_joined (x_ws yX9_joined cX9_joined 7 (some .int)) (xrm 3 75) G mdom [.ref (G.2.1 0 0), .int (p1), .int (p2), .int (p3), .int (p4)] (encM G s) (some (.int r)) (encM G s1) := by
  refine xMet.of (by decide +kernel) (Nat.le_of_ble_eq_true rfl) ?_
  rintro ⟨M, G', dom', n'⟩ e1 R e3 e4 e5 C
  change G' = G at e3; change dom' = mdom at e4; change n' = 7 at e5
  subst e3; subst e4; subst e5
  exact t9_joined C R h
set_option maxRecDepth 100000 in
theorem t9_size {M : xM} {G : xG} {N : Nat} {p1 : Int32} (C : xC (M, G, mdom, 2) RX9 cX9_size (some .int)) (R : xR (M, G, mdom, 2) = xrm 0 0) {s : mS} {r : Int32} {s1 : mS} (h : f9_size N p1 s = some (r, s1)) : X (M, G, mdom, 2) (some (.int r)) (encM G s1) (encM G s) 0 [(0, .ref (G.2.1 0 0)), (1, .int (p1))] [] := by
  unfold f9_size at h
  refine x_aload_n (j := 0) C dX9_size_0 rfl rfl ?_
  refine x_iconst (v := 0) C dX9_size_1 (by decide) ?_
  refine pf9_47 C dX9_size_2 ?_
  refine x_iload_n (j := 1) C dX9_size_5 rfl rfl ?_
  refine x_if_ne (tgt := 18) C dX9_size_6 (by decide) (fun c6 => ?_) (fun c6 => ?_)
  · rw [if_neg c6] at h
    refine x_iload_n (j := 1) C dX9_size_18 rfl rfl ?_
    refine x_iconst (v := 1) C dX9_size_19 (by decide) ?_
    refine x_icmp_ne (tgt := 32) C dX9_size_20 (by decide) (fun c20 => ?_) (fun c20 => ?_)
    · rw [if_neg c20] at h
      refine x_iload_n (j := 1) C dX9_size_32 rfl rfl ?_
      refine x_iconst (v := 2) C dX9_size_33 (by decide) ?_
      refine x_icmp_ne (tgt := 44) C dX9_size_34 (by decide) (fun c34 => ?_) (fun c34 => ?_)
      · rw [if_neg c34] at h
        refine x_iload_n (j := 1) C dX9_size_44 rfl rfl ?_
        refine x_iconst (v := 3) C dX9_size_45 (by decide) ?_
        refine x_icmp_ne (tgt := 56) C dX9_size_46 (by decide) (fun c46 => ?_) (fun c46 => ?_)
        · rw [if_neg c46] at h
          refine x_iload_n (j := 1) C dX9_size_56 rfl rfl ?_
          refine x_iconst (v := 4) C dX9_size_57 (by decide) ?_
          refine x_icmp_ne (tgt := 68) C dX9_size_58 (by decide) (fun c58 => ?_) (fun c58 => ?_)
          · rw [if_neg c58] at h
            refine x_iconst (v := (-1)) C dX9_size_68 (by decide) ?_
            cases h
            exact x_iret C dX9_size_69
          · rw [if_pos c58] at h
            refine x_aload_n (j := 0) C dX9_size_61 rfl rfl ?_
            refine gf9_54 C dX9_size_62 ?_
            refine x_goto (tgt := 69) C dX9_size_65 (by decide) ?_
            cases h
            exact x_iret C dX9_size_69
        · rw [if_pos c46] at h
          refine x_aload_n (j := 0) C dX9_size_49 rfl rfl ?_
          refine gf9_57 C dX9_size_50 ?_
          refine x_goto (tgt := 69) C dX9_size_53 (by decide) ?_
          cases h
          exact x_iret C dX9_size_69
      · rw [if_pos c34] at h
        refine x_aload_n (j := 0) C dX9_size_37 rfl rfl ?_
        refine gf9_131 C dX9_size_38 ?_
        refine x_goto (tgt := 69) C dX9_size_41 (by decide) ?_
        cases h
        exact x_iret C dX9_size_69
    · rw [if_pos c20] at h
      refine x_aload_n (j := 0) C dX9_size_23 rfl rfl ?_
      refine gf9_7 C dX9_size_24 ?_
      refine x_iconst (v := 1) C dX9_size_27 (by decide) ?_
      refine mld1 C dX9_size_28 (by decide) ?_
      refine x_goto (tgt := 69) C dX9_size_29 (by decide) ?_
      cases h
      exact x_iret C dX9_size_69
  · rw [if_pos c6] at h
    refine x_aload_n (j := 0) C dX9_size_9 rfl rfl ?_
    refine gf9_7 C dX9_size_10 ?_
    refine x_iconst (v := 0) C dX9_size_13 (by decide) ?_
    refine mld1 C dX9_size_14 (by decide) ?_
    refine x_goto (tgt := 69) C dX9_size_15 (by decide) ?_
    cases h
    exact x_iret C dX9_size_69
theorem c9_size (l : Launch) (G : xG) {N : Nat} {p1 : Int32} {s : mS} {r : Int32} {s1 : mS} (h : f9_size N p1 s = some (r, s1)) : xMet l yX9_size (x_ws yX9_size cX9_size 2 (some .int)) (xrm 0 0) G mdom [.ref (G.2.1 0 0), .int (p1)] (encM G s) (some (.int r)) (encM G s1) := by
  refine xMet.of (by decide +kernel) (Nat.le_of_ble_eq_true rfl) ?_
  rintro ⟨M, G', dom', n'⟩ e1 R e3 e4 e5 C
  change G' = G at e3; change dom' = mdom at e4; change n' = 2 at e5
  subst e3; subst e4; subst e5
  exact t9_size C R h
set_option maxRecDepth 100000 in
theorem t9_trouble {M : xM} {G : xG} {N : Nat}  (C : xC (M, G, mdom, 1) RX9 cX9_trouble (some .int)) (R : xR (M, G, mdom, 1) = xrm 0 0) {s : mS} {r : Int32} {s1 : mS} (h : f9_trouble N s = some (r, s1)) : X (M, G, mdom, 1) (some (.int r)) (encM G s1) (encM G s) 0 [(0, .ref (G.2.1 0 0))] [] := by
  unfold f9_trouble at h
  refine x_aload_n (j := 0) C dX9_trouble_0 rfl rfl ?_
  refine x_iconst (v := 0) C dX9_trouble_1 (by decide) ?_
  refine pf9_47 C dX9_trouble_2 ?_
  refine x_aload_n (j := 0) C dX9_trouble_5 rfl rfl ?_
  refine gf9_51 C dX9_trouble_6 ?_
  cases h
  exact x_iret C dX9_trouble_9
theorem c9_trouble (l : Launch) (G : xG) {N : Nat}  {s : mS} {r : Int32} {s1 : mS} (h : f9_trouble N s = some (r, s1)) : xMet l yX9_trouble (x_ws yX9_trouble cX9_trouble 1 (some .int)) (xrm 0 0) G mdom [.ref (G.2.1 0 0)] (encM G s) (some (.int r)) (encM G s1) := by
  refine xMet.of (by decide +kernel) (Nat.le_of_ble_eq_true rfl) ?_
  rintro ⟨M, G', dom', n'⟩ e1 R e3 e4 e5 C
  change G' = G at e3; change dom' = mdom at e4; change n' = 1 at e5
  subst e3; subst e4; subst e5
  exact t9_trouble C R h
