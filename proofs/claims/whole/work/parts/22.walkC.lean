set_option maxRecDepth 100000 in
theorem t7_firstBack_l2b {M : xM} {G : xG} {N : Nat}  (C : xC (M, G, cdom, 2) RX7 cX7_firstBack (some .int)) (R : xR (M, G, cdom, 2) = xrm 1 21) {k2 : Int32 → cS → Option (Int32 × cS)} (hk2 : ∀ (a1 : Int32) (s : cS) (r : Int32) (s1 : cS), k2 a1 s = some (r, s1) → X (M, G, cdom, 2) (some (.int r)) (encC G s1) (encC G s) 2 [(0, .ref (G.2.1 5 0)), (1, .int (a1))] []) {a1 : Int32} {s : cS} {r : Int32} {s1 : cS} (h : f7_firstBack_l2b N k2 a1 s = some (r, s1)) : X (M, G, cdom, 2) (some (.int r)) (encC G s1) (encC G s) 2 [(0, .ref (G.2.1 5 0)), (1, .int (a1))] [] := by
  unfold f7_firstBack_l2b at h
  refine x_iload_n (j := 1) C dX7_firstBack_2 rfl rfl ?_
  refine x_aload_n (j := 0) C dX7_firstBack_3 rfl rfl ?_
  refine gf7_19 C dX7_firstBack_4 ?_
  refine x_icmp_gt (tgt := 33) C dX7_firstBack_7 (by decide) (fun c7 => ?_) (fun c7 => ?_)
  · rw [if_pos c7] at h
    refine x_bipush (v := (-2)) C dX7_firstBack_33 (by decide) ?_
    cases h
    exact x_iret C dX7_firstBack_35
  · rw [if_neg c7] at h
    refine x_aload_n (j := 0) C dX7_firstBack_10 rfl rfl ?_
    refine x_iload_n (j := 1) C dX7_firstBack_11 rfl rfl ?_
    obtain ⟨⟨r12, s12⟩, e12, h⟩ := Option.bind_eq_some_iff.mp h
    try dsimp only at h
    refine k7_35 C dX7_firstBack_12 e12 (x_room R rfl) (Nat.le_of_ble_eq_true rfl) ?_
    refine x_aload_n (j := 0) C dX7_firstBack_15 rfl rfl ?_
    refine x_iload_n (j := 1) C dX7_firstBack_16 rfl rfl ?_
    refine x_iconst (v := 1) C dX7_firstBack_17 (by decide) ?_
    refine x_isub C dX7_firstBack_18 ?_
    obtain ⟨⟨r19, s19⟩, e19, h⟩ := Option.bind_eq_some_iff.mp h
    try dsimp only at h
    refine k7_35 C dX7_firstBack_19 e19 (x_room R rfl) (Nat.le_of_ble_eq_true rfl) ?_
    refine x_icmp_ge (tgt := 27) C dX7_firstBack_22 (by decide) (fun c22 => ?_) (fun c22 => ?_)
    · rw [if_pos c22] at h
      refine x_iinc (j := 1) (v := (a1 + 1)) (ls' := [(1, .int ((a1 + 1))), (0, .ref (G.2.1 5 0))]) C dX7_firstBack_27 rfl rfl (Nat.le_of_ble_eq_true rfl) rfl ?_
      refine x_goto (tgt := 2) C dX7_firstBack_30 (by decide) ?_
      refine x_sub (ls' := [(0, .ref (G.2.1 5 0)), (1, .int ((a1 + 1)))]) [1, 0] rfl ?_
      exact hk2 _ _ _ _ h
    · rw [if_neg c22] at h
      refine x_iload_n (j := 1) C dX7_firstBack_25 rfl rfl ?_
      cases h
      exact x_iret C dX7_firstBack_26
theorem t7_firstBack_l2 {M : xM} {G : xG} {N : Nat}  (C : xC (M, G, cdom, 2) RX7 cX7_firstBack (some .int)) (R : xR (M, G, cdom, 2) = xrm 1 21) (n : Nat) : ∀ (a1 : Int32) (s : cS) (r : Int32) (s1 : cS), f7_firstBack_l2 N n a1 s = some (r, s1) → X (M, G, cdom, 2) (some (.int r)) (encC G s1) (encC G s) 2 [(0, .ref (G.2.1 5 0)), (1, .int (a1))] [] := by
  induction n with
  | zero => intro a1 s r s1 h; exact (Option.some_ne_none _ (Eq.symm h)).elim
  | succ n ih => intro a1 s r s1 h; exact t7_firstBack_l2b (N := N) C R (k2 := f7_firstBack_l2 N n) ih h
set_option maxRecDepth 100000 in
theorem t7_firstBack {M : xM} {G : xG} {N : Nat}  (C : xC (M, G, cdom, 2) RX7 cX7_firstBack (some .int)) (R : xR (M, G, cdom, 2) = xrm 1 21) {s : cS} {r : Int32} {s1 : cS} (h : f7_firstBack N s = some (r, s1)) : X (M, G, cdom, 2) (some (.int r)) (encC G s1) (encC G s) 0 [(0, .ref (G.2.1 5 0))] [] := by
  unfold f7_firstBack at h
  refine x_iconst (v := 1) C dX7_firstBack_0 (by decide) ?_
  refine x_istore_n (i := 1) (ls' := [(1, .int (1)), (0, .ref (G.2.1 5 0))]) C dX7_firstBack_1 rfl (Nat.le_of_ble_eq_true rfl) rfl ?_
  refine x_sub (ls' := [(0, .ref (G.2.1 5 0)), (1, .int (1))]) [1, 0] rfl ?_
  exact t7_firstBack_l2 (N := N) C R N _ _ _ _ h
theorem c7_firstBack (l : Launch) (G : xG) {N : Nat}  {s : cS} {r : Int32} {s1 : cS} (h : f7_firstBack N s = some (r, s1)) : xMet l yX7_firstBack (x_ws yX7_firstBack cX7_firstBack 2 (some .int)) (xrm 1 21) G cdom [.ref (G.2.1 5 0)] (encC G s) (some (.int r)) (encC G s1) := by
  refine xMet.of (by decide +kernel) (Nat.le_of_ble_eq_true rfl) ?_
  rintro ⟨M, G', dom', n'⟩ e1 R e3 e4 e5 C
  change G' = G at e3; change dom' = cdom at e4; change n' = 2 at e5
  subst e3; subst e4; subst e5
  exact t7_firstBack C R h
theorem k8_181 {M : xM} {G : xG} {n : Nat} {rv : Option Value} {E' : xE} {cc : ByteArray} {ret : Option FieldType} {pc : Nat} {ls : List (Nat × Value)} {st : List Value} {N : Nat} {s s1 : cS} {r : Int32} (C : xC (M, G, cdom, n) RX8 cc ret) (d : decode cc pc = .ok (.invokevirtual 181, 3)) (h : f7_firstBack N s = some (r, s1)) (hR : (xrm 1 21).frames + 1 ≤ (xR (M, G, cdom, n)).frames ∧ 8 + (2 + 11) + (xrm 1 21).locals ≤ (xR (M, G, cdom, n)).locals) (hw : (st.map fun v => v.category).sum ≤ 8) (k : X (M, G, cdom, n) rv E' (encC G s1) (pc + 3) ls (.int r :: st)) : X (M, G, cdom, n) rv E' (encC G s) pc ls (.ref (G.2.1 5 0) :: st) :=
  x_callVN (As := []) (n := 0) C d (c7_firstBack (xl (M, G, cdom, n)) G h) lk515 lk517 lk28 lk79 lk518 ⟨rfl, rfl⟩ ⟨by decide +kernel, by decide +kernel, by decide +kernel⟩ rfl hR rfl rfl rfl rfl hw k
set_option maxRecDepth 100000 in
theorem t8_back {M : xM} {G : xG} {N : Nat} {p1 : Int32} (C : xC (M, G, cdom, 2) RX8 cX8_back (some .int)) (R : xR (M, G, cdom, 2) = xrm 6 133) {s : cS} {r : Int32} {s1 : cS} (h : f8_back N p1 s = some (r, s1)) : X (M, G, cdom, 2) (some (.int r)) (encC G s1) (encC G s) 0 [(0, .ref (G.2.1 0 0)), (1, .int (p1))] [] := by
  unfold f8_back at h
  refine x_aload_n (j := 0) C dX8_back_0 rfl rfl ?_
  refine x_iload_n (j := 1) C dX8_back_1 rfl rfl ?_
  obtain ⟨⟨r2, s2⟩, e2, h⟩ := Option.bind_eq_some_iff.mp h
  try dsimp only at h
  refine k8_149 C dX8_back_2 e2 (x_room R rfl) (Nat.le_of_ble_eq_true rfl) ?_
  refine x_if_eq (tgt := 18) C dX8_back_5 (by decide) (fun c5 => ?_) (fun c5 => ?_)
  · rw [if_pos c5] at h
    refine x_iconst (v := (-1)) C dX8_back_18 (by decide) ?_
    cases h
    exact x_iret C dX8_back_19
  · rw [if_neg c5] at h
    refine x_aload_n (j := 0) C dX8_back_8 rfl rfl ?_
    refine gf8_18 C dX8_back_9 ?_
    obtain ⟨⟨r12, s12⟩, e12, h⟩ := Option.bind_eq_some_iff.mp h
    try dsimp only at h
    refine k8_181 C dX8_back_12 e12 (x_room R rfl) (Nat.le_of_ble_eq_true rfl) ?_
    refine x_goto (tgt := 19) C dX8_back_15 (by decide) ?_
    cases h
    exact x_iret C dX8_back_19
theorem c8_back (l : Launch) (G : xG) {N : Nat} {p1 : Int32} {s : cS} {r : Int32} {s1 : cS} (h : f8_back N p1 s = some (r, s1)) : xMet l yX8_back (x_ws yX8_back cX8_back 2 (some .int)) (xrm 6 133) G cdom [.ref (G.2.1 0 0), .int (p1)] (encC G s) (some (.int r)) (encC G s1) := by
  refine xMet.of (by decide +kernel) (Nat.le_of_ble_eq_true rfl) ?_
  rintro ⟨M, G', dom', n'⟩ e1 R e3 e4 e5 C
  change G' = G at e3; change dom' = cdom at e4; change n' = 2 at e5
  subst e3; subst e4; subst e5
  exact t8_back C R h
set_option maxRecDepth 100000 in
theorem t7_widestSpan_l12b {M : xM} {G : xG} {N : Nat}  (C : xC (M, G, cdom, 6) RX7 cX7_widestSpan (some .int)) (R : xR (M, G, cdom, 6) = xrm 2 42) {k12 : Int32 → Int32 → Int32 → Int32 → Int32 → cS → Option (Int32 × cS)} (hk12 : ∀ (a1 : Int32) (a2 : Int32) (a3 : Int32) (a4 : Int32) (a5 : Int32) (s : cS) (r : Int32) (s1 : cS), k12 a1 a2 a3 a4 a5 s = some (r, s1) → X (M, G, cdom, 6) (some (.int r)) (encC G s1) (encC G s) 12 [(0, .ref (G.2.1 5 0)), (1, .int (a1)), (2, .int (a2)), (3, .int (a3)), (4, .int (a4)), (5, .int (a5))] []) {a1 : Int32} {a2 : Int32} {a3 : Int32} {a4 : Int32} {a5 : Int32} {s : cS} {r : Int32} {s1 : cS} (h : f7_widestSpan_l12b N k12 a1 a2 a3 a4 a5 s = some (r, s1)) : X (M, G, cdom, 6) (some (.int r)) (encC G s1) (encC G s) 12 [(0, .ref (G.2.1 5 0)), (1, .int (a1)), (2, .int (a2)), (3, .int (a3)), (4, .int (a4)), (5, .int (a5))] [] := by
  unfold f7_widestSpan_l12b at h
  refine x_iload (j := 5) C dX7_widestSpan_12 rfl ?_
  refine x_aload_n (j := 0) C dX7_widestSpan_14 rfl rfl ?_
  refine gf7_19 C dX7_widestSpan_15 ?_
  refine x_icmp_gt (tgt := 56) C dX7_widestSpan_18 (by decide) (fun c18 => ?_) (fun c18 => ?_)
  · rw [if_pos c18] at h
    refine x_sipush (v := 10000) C dX7_widestSpan_56 (by decide) ?_
    refine x_iload_n (j := 1) C dX7_widestSpan_59 rfl rfl ?_
    refine x_imul C dX7_widestSpan_60 ?_
    refine x_iload_n (j := 2) C dX7_widestSpan_61 rfl rfl ?_
    refine x_iadd C dX7_widestSpan_62 ?_
    cases h
    exact x_iret C dX7_widestSpan_63
  · rw [if_neg c18] at h
    refine x_iinc (j := 4) (v := (a4 + 1)) (ls' := [(4, .int ((a4 + 1))), (0, .ref (G.2.1 5 0)), (1, .int (a1)), (2, .int (a2)), (3, .int (a3)), (5, .int (a5))]) C dX7_widestSpan_21 rfl rfl (Nat.le_of_ble_eq_true rfl) rfl ?_
    refine x_aload_n (j := 1) C dX7_widestSpan_24 rfl rfl ?_
    refine x_iload (j := 5) C dX7_widestSpan_25 rfl ?_
    obtain ⟨⟨r27, s27⟩, e27, h⟩ := Option.bind_eq_some_iff.mp h
    try dsimp only at h
    refine k7_38 C dX7_widestSpan_27 e27 (x_room R rfl) (Nat.le_of_ble_eq_true rfl) ?_
    refine x_if_eq (tgt := 50) C dX7_widestSpan_30 (by decide) (fun c30 => ?_) (fun c30 => ?_)
    · rw [if_pos c30] at h
      refine x_iinc (j := 5) (v := (a5 + 1)) (ls' := [(5, .int ((a5 + 1))), (4, .int ((a4 + 1))), (0, .ref (G.2.1 5 0)), (1, .int (a1)), (2, .int (a2)), (3, .int (a3))]) C dX7_widestSpan_50 rfl rfl (Nat.le_of_ble_eq_true rfl) rfl ?_
      refine x_goto (tgt := 12) C dX7_widestSpan_53 (by decide) ?_
      refine x_sub (ls' := [(0, .ref (G.2.1 5 0)), (1, .int (a1)), (2, .int (a2)), (3, .int (a3)), (4, .int ((a4 + 1))), (5, .int ((a5 + 1)))]) [2, 3, 4, 5, 1, 0] rfl ?_
      exact hk12 _ _ _ _ _ _ _ _ h
    · rw [if_neg c30] at h
      refine x_iload (j := 0) C dX7_widestSpan_33 rfl ?_
      refine x_iload_n (j := 2) C dX7_widestSpan_35 rfl rfl ?_
      refine x_icmp_le (tgt := 44) C dX7_widestSpan_36 (by decide) (fun c36 => ?_) (fun c36 => ?_)
      · rw [if_pos c36] at h
        refine x_iinc (j := 4) (v := (a3 + 1)) (ls' := [(3, .int ((a3 + 1))), (4, .int ((a4 + 1))), (0, .ref (G.2.1 5 0)), (1, .int (a1)), (2, .int (a2)), (5, .int (a5))]) C dX7_widestSpan_44 rfl rfl (Nat.le_of_ble_eq_true rfl) rfl ?_
        refine x_iconst (v := 0) C dX7_widestSpan_47 (by decide) ?_
        refine x_istore (i := 4) (ls' := [(4, .int (0)), (3, .int ((a3 + 1))), (0, .ref (G.2.1 5 0)), (1, .int (a1)), (2, .int (a2)), (5, .int (a5))]) C dX7_widestSpan_48 (Nat.le_of_ble_eq_true rfl) rfl ?_
        refine x_iinc (j := 5) (v := (a5 + 1)) (ls' := [(5, .int ((a5 + 1))), (4, .int (0)), (3, .int ((a3 + 1))), (0, .ref (G.2.1 5 0)), (1, .int (a1)), (2, .int (a2))]) C dX7_widestSpan_50 rfl rfl (Nat.le_of_ble_eq_true rfl) rfl ?_
        refine x_goto (tgt := 12) C dX7_widestSpan_53 (by decide) ?_
        refine x_sub (ls' := [(0, .ref (G.2.1 5 0)), (1, .int (a1)), (2, .int (a2)), (3, .int ((a3 + 1))), (4, .int (0)), (5, .int ((a5 + 1)))]) [3, 4, 5, 2, 1, 0] rfl ?_
        exact hk12 _ _ _ _ _ _ _ _ h
      · rw [if_neg c36] at h
        refine x_iload (j := 0) C dX7_widestSpan_39 rfl ?_
        refine x_istore_n (i := 1) (ls' := [(1, .int ((a4 + 1))), (4, .int ((a4 + 1))), (0, .ref (G.2.1 5 0)), (2, .int (a2)), (3, .int (a3)), (5, .int (a5))]) C dX7_widestSpan_41 rfl (Nat.le_of_ble_eq_true rfl) rfl ?_
        refine x_iload_n (j := 4) C dX7_widestSpan_42 rfl rfl ?_
        refine x_istore_n (i := 2) (ls' := [(2, .int (a3)), (1, .int ((a4 + 1))), (4, .int ((a4 + 1))), (0, .ref (G.2.1 5 0)), (3, .int (a3)), (5, .int (a5))]) C dX7_widestSpan_43 rfl (Nat.le_of_ble_eq_true rfl) rfl ?_
        refine x_iinc (j := 4) (v := (a3 + 1)) (ls' := [(3, .int ((a3 + 1))), (2, .int (a3)), (1, .int ((a4 + 1))), (4, .int ((a4 + 1))), (0, .ref (G.2.1 5 0)), (5, .int (a5))]) C dX7_widestSpan_44 rfl rfl (Nat.le_of_ble_eq_true rfl) rfl ?_
        refine x_iconst (v := 0) C dX7_widestSpan_47 (by decide) ?_
        refine x_istore (i := 4) (ls' := [(4, .int (0)), (3, .int ((a3 + 1))), (2, .int (a3)), (1, .int ((a4 + 1))), (0, .ref (G.2.1 5 0)), (5, .int (a5))]) C dX7_widestSpan_48 (Nat.le_of_ble_eq_true rfl) rfl ?_
        refine x_iinc (j := 5) (v := (a5 + 1)) (ls' := [(5, .int ((a5 + 1))), (4, .int (0)), (3, .int ((a3 + 1))), (2, .int (a3)), (1, .int ((a4 + 1))), (0, .ref (G.2.1 5 0))]) C dX7_widestSpan_50 rfl rfl (Nat.le_of_ble_eq_true rfl) rfl ?_
        refine x_goto (tgt := 12) C dX7_widestSpan_53 (by decide) ?_
        refine x_sub (ls' := [(0, .ref (G.2.1 5 0)), (1, .int ((a4 + 1))), (2, .int (a3)), (3, .int ((a3 + 1))), (4, .int (0)), (5, .int ((a5 + 1)))]) [5, 4, 3, 2, 1, 0] rfl ?_
        exact hk12 _ _ _ _ _ _ _ _ h
theorem t7_widestSpan_l12 {M : xM} {G : xG} {N : Nat}  (C : xC (M, G, cdom, 6) RX7 cX7_widestSpan (some .int)) (R : xR (M, G, cdom, 6) = xrm 2 42) (n : Nat) : ∀ (a1 : Int32) (a2 : Int32) (a3 : Int32) (a4 : Int32) (a5 : Int32) (s : cS) (r : Int32) (s1 : cS), f7_widestSpan_l12 N n a1 a2 a3 a4 a5 s = some (r, s1) → X (M, G, cdom, 6) (some (.int r)) (encC G s1) (encC G s) 12 [(0, .ref (G.2.1 5 0)), (1, .int (a1)), (2, .int (a2)), (3, .int (a3)), (4, .int (a4)), (5, .int (a5))] [] := by
  induction n with
  | zero => intro a1 a2 a3 a4 a5 s r s1 h; exact (Option.some_ne_none _ (Eq.symm h)).elim
  | succ n ih => intro a1 a2 a3 a4 a5 s r s1 h; exact t7_widestSpan_l12b (N := N) C R (k12 := f7_widestSpan_l12 N n) ih h
set_option maxRecDepth 100000 in
theorem t7_widestSpan {M : xM} {G : xG} {N : Nat}  (C : xC (M, G, cdom, 6) RX7 cX7_widestSpan (some .int)) (R : xR (M, G, cdom, 6) = xrm 2 42) {s : cS} {r : Int32} {s1 : cS} (h : f7_widestSpan N s = some (r, s1)) : X (M, G, cdom, 6) (some (.int r)) (encC G s1) (encC G s) 0 [(0, .ref (G.2.1 5 0))] [] := by
  unfold f7_widestSpan at h
  refine x_iconst (v := 0) C dX7_widestSpan_0 (by decide) ?_
  refine x_istore_n (i := 1) (ls' := [(1, .int (0)), (0, .ref (G.2.1 5 0))]) C dX7_widestSpan_1 rfl (Nat.le_of_ble_eq_true rfl) rfl ?_
  refine x_iconst (v := 0) C dX7_widestSpan_2 (by decide) ?_
  refine x_istore_n (i := 2) (ls' := [(2, .int (0)), (1, .int (0)), (0, .ref (G.2.1 5 0))]) C dX7_widestSpan_3 rfl (Nat.le_of_ble_eq_true rfl) rfl ?_
  refine x_iconst (v := 0) C dX7_widestSpan_4 (by decide) ?_
  refine x_istore_n (i := 3) (ls' := [(3, .int (0)), (2, .int (0)), (1, .int (0)), (0, .ref (G.2.1 5 0))]) C dX7_widestSpan_5 rfl (Nat.le_of_ble_eq_true rfl) rfl ?_
  refine x_iconst (v := 0) C dX7_widestSpan_6 (by decide) ?_
  refine x_istore (i := 4) (ls' := [(4, .int (0)), (3, .int (0)), (2, .int (0)), (1, .int (0)), (0, .ref (G.2.1 5 0))]) C dX7_widestSpan_7 (Nat.le_of_ble_eq_true rfl) rfl ?_
  refine x_iconst (v := 0) C dX7_widestSpan_9 (by decide) ?_
  refine x_istore (i := 5) (ls' := [(5, .int (0)), (4, .int (0)), (3, .int (0)), (2, .int (0)), (1, .int (0)), (0, .ref (G.2.1 5 0))]) C dX7_widestSpan_10 (Nat.le_of_ble_eq_true rfl) rfl ?_
  refine x_sub (ls' := [(0, .ref (G.2.1 5 0)), (1, .int (0)), (2, .int (0)), (3, .int (0)), (4, .int (0)), (5, .int (0))]) [5, 4, 3, 2, 1, 0] rfl ?_
  exact t7_widestSpan_l12 (N := N) C R N _ _ _ _ _ _ _ _ h
theorem c7_widestSpan (l : Launch) (G : xG) {N : Nat}  {s : cS} {r : Int32} {s1 : cS} (h : f7_widestSpan N s = some (r, s1)) : xMet l yX7_widestSpan (x_ws yX7_widestSpan cX7_widestSpan 6 (some .int)) (xrm 2 42) G cdom [.ref (G.2.1 5 0)] (encC G s) (some (.int r)) (encC G s1) := by
  refine xMet.of (by decide +kernel) (Nat.le_of_ble_eq_true rfl) ?_
  rintro ⟨M, G', dom', n'⟩ e1 R e3 e4 e5 C
  change G' = G at e3; change dom' = cdom at e4; change n' = 6 at e5
  subst e3; subst e4; subst e5
  exact t7_widestSpan C R h
theorem k8_184 {M : xM} {G : xG} {n : Nat} {rv : Option Value} {E' : xE} {cc : ByteArray} {ret : Option FieldType} {pc : Nat} {ls : List (Nat × Value)} {st : List Value} {N : Nat} {s s1 : cS} {r : Int32} (C : xC (M, G, cdom, n) RX8 cc ret) (d : decode cc pc = .ok (.invokevirtual 184, 3)) (h : f7_widestSpan N s = some (r, s1)) (hR : (xrm 2 42).frames + 1 ≤ (xR (M, G, cdom, n)).frames ∧ 8 + (6 + 11) + (xrm 2 42).locals ≤ (xR (M, G, cdom, n)).locals) (hw : (st.map fun v => v.category).sum ≤ 8) (k : X (M, G, cdom, n) rv E' (encC G s1) (pc + 3) ls (.int r :: st)) : X (M, G, cdom, n) rv E' (encC G s) pc ls (.ref (G.2.1 5 0) :: st) :=
  x_callVN (As := []) (n := 0) C d (c7_widestSpan (xl (M, G, cdom, n)) G h) lk523 lk525 lk29 lk79 lk526 ⟨rfl, rfl⟩ ⟨by decide +kernel, by decide +kernel, by decide +kernel⟩ rfl hR rfl rfl rfl rfl hw k
set_option maxRecDepth 100000 in
theorem t8_widest {M : xM} {G : xG} {N : Nat} {p1 : Int32} (C : xC (M, G, cdom, 2) RX8 cX8_widest (some .int)) (R : xR (M, G, cdom, 2) = xrm 6 133) {s : cS} {r : Int32} {s1 : cS} (h : f8_widest N p1 s = some (r, s1)) : X (M, G, cdom, 2) (some (.int r)) (encC G s1) (encC G s) 0 [(0, .ref (G.2.1 0 0)), (1, .int (p1))] [] := by
  unfold f8_widest at h
  refine x_aload_n (j := 0) C dX8_widest_0 rfl rfl ?_
  refine x_iload_n (j := 1) C dX8_widest_1 rfl rfl ?_
  obtain ⟨⟨r2, s2⟩, e2, h⟩ := Option.bind_eq_some_iff.mp h
  try dsimp only at h
  refine k8_149 C dX8_widest_2 e2 (x_room R rfl) (Nat.le_of_ble_eq_true rfl) ?_
  refine x_if_eq (tgt := 18) C dX8_widest_5 (by decide) (fun c5 => ?_) (fun c5 => ?_)
  · rw [if_pos c5] at h
    refine x_iconst (v := (-1)) C dX8_widest_18 (by decide) ?_
    cases h
    exact x_iret C dX8_widest_19
  · rw [if_neg c5] at h
    refine x_aload_n (j := 0) C dX8_widest_8 rfl rfl ?_
    refine gf8_18 C dX8_widest_9 ?_
    obtain ⟨⟨r12, s12⟩, e12, h⟩ := Option.bind_eq_some_iff.mp h
    try dsimp only at h
    refine k8_184 C dX8_widest_12 e12 (x_room R rfl) (Nat.le_of_ble_eq_true rfl) ?_
    refine x_goto (tgt := 19) C dX8_widest_15 (by decide) ?_
    cases h
    exact x_iret C dX8_widest_19
theorem c8_widest (l : Launch) (G : xG) {N : Nat} {p1 : Int32} {s : cS} {r : Int32} {s1 : cS} (h : f8_widest N p1 s = some (r, s1)) : xMet l yX8_widest (x_ws yX8_widest cX8_widest 2 (some .int)) (xrm 6 133) G cdom [.ref (G.2.1 0 0), .int (p1)] (encC G s) (some (.int r)) (encC G s1) := by
  refine xMet.of (by decide +kernel) (Nat.le_of_ble_eq_true rfl) ?_
  rintro ⟨M, G', dom', n'⟩ e1 R e3 e4 e5 C
  change G' = G at e3; change dom' = cdom at e4; change n' = 2 at e5
  subst e3; subst e4; subst e5
  exact t8_widest C R h
set_option maxRecDepth 100000 in
theorem t7_edgeOf_l2b {M : xM} {G : xG} {N : Nat} {p1 : Int32} (C : xC (M, G, cdom, 3) RX7 cX7_edgeOf (some .int)) (R : xR (M, G, cdom, 3) = xrm 1 21) {k2 : Int32 → cS → Option (Int32 × cS)} (hk2 : ∀ (a2 : Int32) (s : cS) (r : Int32) (s1 : cS), k2 a2 s = some (r, s1) → X (M, G, cdom, 3) (some (.int r)) (encC G s1) (encC G s) 2 [(0, .ref (G.2.1 5 0)), (1, .int (p1)), (2, .int (a2))] []) {a2 : Int32} {s : cS} {r : Int32} {s1 : cS} (h : f7_edgeOf_l2b N p1 k2 a2 s = some (r, s1)) : X (M, G, cdom, 3) (some (.int r)) (encC G s1) (encC G s) 2 [(0, .ref (G.2.1 5 0)), (1, .int (p1)), (2, .int (a2))] [] := by
  unfold f7_edgeOf_l2b at h
  refine x_iload_n (j := 2) C dX7_edgeOf_2 rfl rfl ?_
  refine x_aload_n (j := 0) C dX7_edgeOf_3 rfl rfl ?_
  refine gf7_19 C dX7_edgeOf_4 ?_
  refine x_icmp_gt (tgt := 27) C dX7_edgeOf_7 (by decide) (fun c7 => ?_) (fun c7 => ?_)
  · rw [if_pos c7] at h
    refine x_aload_n (j := 0) C dX7_edgeOf_27 rfl rfl ?_
    refine gf7_19 C dX7_edgeOf_28 ?_
    refine x_iconst (v := 1) C dX7_edgeOf_31 (by decide) ?_
    refine x_iadd C dX7_edgeOf_32 ?_
    cases h
    exact x_iret C dX7_edgeOf_33
  · rw [if_neg c7] at h
    refine x_aload_n (j := 0) C dX7_edgeOf_10 rfl rfl ?_
    refine x_iload_n (j := 2) C dX7_edgeOf_11 rfl rfl ?_
    obtain ⟨⟨r12, s12⟩, e12, h⟩ := Option.bind_eq_some_iff.mp h
    try dsimp only at h
    refine k7_35 C dX7_edgeOf_12 e12 (x_room R rfl) (Nat.le_of_ble_eq_true rfl) ?_
    refine x_iload_n (j := 1) C dX7_edgeOf_15 rfl rfl ?_
    refine x_icmp_lt (tgt := 21) C dX7_edgeOf_16 (by decide) (fun c16 => ?_) (fun c16 => ?_)
    · rw [if_pos c16] at h
      refine x_iinc (j := 2) (v := (a2 + 1)) (ls' := [(2, .int ((a2 + 1))), (0, .ref (G.2.1 5 0)), (1, .int (p1))]) C dX7_edgeOf_21 rfl rfl (Nat.le_of_ble_eq_true rfl) rfl ?_
      refine x_goto (tgt := 2) C dX7_edgeOf_24 (by decide) ?_
      refine x_sub (ls' := [(0, .ref (G.2.1 5 0)), (1, .int (p1)), (2, .int ((a2 + 1)))]) [1, 2, 0] rfl ?_
      exact hk2 _ _ _ _ h
    · rw [if_neg c16] at h
      refine x_iload_n (j := 2) C dX7_edgeOf_19 rfl rfl ?_
      cases h
      exact x_iret C dX7_edgeOf_20
theorem t7_edgeOf_l2 {M : xM} {G : xG} {N : Nat} {p1 : Int32} (C : xC (M, G, cdom, 3) RX7 cX7_edgeOf (some .int)) (R : xR (M, G, cdom, 3) = xrm 1 21) (n : Nat) : ∀ (a2 : Int32) (s : cS) (r : Int32) (s1 : cS), f7_edgeOf_l2 N p1 n a2 s = some (r, s1) → X (M, G, cdom, 3) (some (.int r)) (encC G s1) (encC G s) 2 [(0, .ref (G.2.1 5 0)), (1, .int (p1)), (2, .int (a2))] [] := by
  induction n with
  | zero => intro a2 s r s1 h; exact (Option.some_ne_none _ (Eq.symm h)).elim
  | succ n ih => intro a2 s r s1 h; exact t7_edgeOf_l2b (N := N) (p1 := p1) C R (k2 := f7_edgeOf_l2 N p1 n) ih h
set_option maxRecDepth 100000 in
theorem t7_edgeOf {M : xM} {G : xG} {N : Nat} {p1 : Int32} (C : xC (M, G, cdom, 3) RX7 cX7_edgeOf (some .int)) (R : xR (M, G, cdom, 3) = xrm 1 21) {s : cS} {r : Int32} {s1 : cS} (h : f7_edgeOf N p1 s = some (r, s1)) : X (M, G, cdom, 3) (some (.int r)) (encC G s1) (encC G s) 0 [(0, .ref (G.2.1 5 0)), (1, .int (p1))] [] := by
  unfold f7_edgeOf at h
  refine x_iconst (v := 0) C dX7_edgeOf_0 (by decide) ?_
  refine x_istore_n (i := 2) (ls' := [(2, .int (0)), (0, .ref (G.2.1 5 0)), (1, .int (p1))]) C dX7_edgeOf_1 rfl (Nat.le_of_ble_eq_true rfl) rfl ?_
  refine x_sub (ls' := [(0, .ref (G.2.1 5 0)), (1, .int (p1)), (2, .int (0))]) [1, 2, 0] rfl ?_
  exact t7_edgeOf_l2 (N := N) (p1 := p1) C R N _ _ _ _ h
theorem c7_edgeOf (l : Launch) (G : xG) {N : Nat} {p1 : Int32} {s : cS} {r : Int32} {s1 : cS} (h : f7_edgeOf N p1 s = some (r, s1)) : xMet l yX7_edgeOf (x_ws yX7_edgeOf cX7_edgeOf 3 (some .int)) (xrm 1 21) G cdom [.ref (G.2.1 5 0), .int (p1)] (encC G s) (some (.int r)) (encC G s1) := by
  refine xMet.of (by decide +kernel) (Nat.le_of_ble_eq_true rfl) ?_
  rintro ⟨M, G', dom', n'⟩ e1 R e3 e4 e5 C
  change G' = G at e3; change dom' = cdom at e4; change n' = 3 at e5
  subst e3; subst e4; subst e5
  exact t7_edgeOf C R h
theorem k8_187 {M : xM} {G : xG} {n : Nat} {rv : Option Value} {E' : xE} {cc : ByteArray} {ret : Option FieldType} {pc : Nat} {ls : List (Nat × Value)} {st : List Value} {N : Nat} {p1 : Int32} {s s1 : cS} {r : Int32} (C : xC (M, G, cdom, n) RX8 cc ret) (d : decode cc pc = .ok (.invokevirtual 187, 3)) (h : f7_edgeOf N p1 s = some (r, s1)) (hR : (xrm 1 21).frames + 1 ≤ (xR (M, G, cdom, n)).frames ∧ 8 + (3 + 11) + (xrm 1 21).locals ≤ (xR (M, G, cdom, n)).locals) (hw : (st.map fun v => v.category).sum ≤ 8) (k : X (M, G, cdom, n) rv E' (encC G s1) (pc + 3) ls (.int r :: st)) : X (M, G, cdom, n) rv E' (encC G s) pc ls (.int (p1) :: .ref (G.2.1 5 0) :: st) :=
  x_callVN (As := [.int (p1)]) (n := 1) C d (c7_edgeOf (xl (M, G, cdom, n)) G h) lk531 lk533 lk30 lk79 lk534 ⟨rfl, rfl⟩ ⟨by decide +kernel, by decide +kernel, by decide +kernel⟩ rfl hR rfl rfl rfl rfl hw k
set_option maxRecDepth 100000 in
theorem t8_edge {M : xM} {G : xG} {N : Nat} {p1 : Int32} {p2 : Int32} (C : xC (M, G, cdom, 3) RX8 cX8_edge (some .int)) (R : xR (M, G, cdom, 3) = xrm 6 133) {s : cS} {r : Int32} {s1 : cS} (h : f8_edge N p1 p2 s = some (r, s1)) : X (M, G, cdom, 3) (some (.int r)) (encC G s1) (encC G s) 0 [(0, .ref (G.2.1 0 0)), (1, .int (p1)), (2, .int (p2))] [] := by
  unfold f8_edge at h
  refine x_aload_n (j := 0) C dX8_edge_0 rfl rfl ?_
  refine x_iload_n (j := 1) C dX8_edge_1 rfl rfl ?_
  obtain ⟨⟨r2, s2⟩, e2, h⟩ := Option.bind_eq_some_iff.mp h
  try dsimp only at h
  refine k8_149 C dX8_edge_2 e2 (x_room R rfl) (Nat.le_of_ble_eq_true rfl) ?_
  refine x_if_eq (tgt := 19) C dX8_edge_5 (by decide) (fun c5 => ?_) (fun c5 => ?_)
  · rw [if_pos c5] at h
    refine x_iconst (v := (-1)) C dX8_edge_19 (by decide) ?_
    cases h
    exact x_iret C dX8_edge_20
  · rw [if_neg c5] at h
    refine x_aload_n (j := 0) C dX8_edge_8 rfl rfl ?_
    refine gf8_18 C dX8_edge_9 ?_
    refine x_iload_n (j := 2) C dX8_edge_12 rfl rfl ?_
    obtain ⟨⟨r13, s13⟩, e13, h⟩ := Option.bind_eq_some_iff.mp h
    try dsimp only at h
    refine k8_187 C dX8_edge_13 e13 (x_room R rfl) (Nat.le_of_ble_eq_true rfl) ?_
    refine x_goto (tgt := 20) C dX8_edge_16 (by decide) ?_
    cases h
    exact x_iret C dX8_edge_20
theorem c8_edge (l : Launch) (G : xG) {N : Nat} {p1 : Int32} {p2 : Int32} {s : cS} {r : Int32} {s1 : cS} (h : f8_edge N p1 p2 s = some (r, s1)) : xMet l yX8_edge (x_ws yX8_edge cX8_edge 3 (some .int)) (xrm 6 133) G cdom [.ref (G.2.1 0 0), .int (p1), .int (p2)] (encC G s) (some (.int r)) (encC G s1) := by
  refine xMet.of (by decide +kernel) (Nat.le_of_ble_eq_true rfl) ?_
  rintro ⟨M, G', dom', n'⟩ e1 R e3 e4 e5 C
  change G' = G at e3; change dom' = cdom at e4; change n' = 3 at e5
  subst e3; subst e4; subst e5
  exact t8_edge C R h
theorem k7_55 {M : xM} {G : xG} {n : Nat} {rv : Option Value} {E' : xE} {cc : ByteArray} {ret : Option FieldType} {pc : Nat} {ls : List (Nat × Value)} {st : List Value} {N : Nat} {p1 : Int32} {s s1 : cS} {r : Int32} (C : xC (M, G, cdom, n) RX7 cc ret) (d : decode cc pc = .ok (.invokevirtual 55, 3)) (h : f7_edgeOf N p1 s = some (r, s1)) (hR : (xrm 1 21).frames + 1 ≤ (xR (M, G, cdom, n)).frames ∧ 8 + (3 + 11) + (xrm 1 21).locals ≤ (xR (M, G, cdom, n)).locals) (hw : (st.map fun v => v.category).sum ≤ 8) (k : X (M, G, cdom, n) rv E' (encC G s1) (pc + 3) ls (.int r :: st)) : X (M, G, cdom, n) rv E' (encC G s) pc ls (.int (p1) :: .ref (G.2.1 5 0) :: st) :=
  x_callV (As := [.int (p1)]) (n := 1) C d (c7_edgeOf (xl (M, G, cdom, n)) G h) lk543 lk533 lk30 lk79 lk534 ⟨rfl, rfl⟩ ⟨by decide +kernel, by decide +kernel, by decide +kernel⟩ rfl hR rfl rfl rfl rfl hw k
set_option maxRecDepth 100000 in
theorem t7_worstOfLine_l36b {M : xM} {G : xG} {N : Nat} {p1 : Int32} {p2 : Int32} (C : xC (M, G, cdom, 10) RX7 cX7_worstOfLine (some .int)) (R : xR (M, G, cdom, 10) = xrm 2 43) {k27 : Int32 → Int32 → Int32 → Int32 → Int32 → Int32 → cS → Option (Int32 × cS)} (hk27 : ∀ (a3 : Int32) (a4 : Int32) (a5 : Int32) (a6 : Int32) (a7 : Int32) (a8 : Int32) (s : cS) (r : Int32) (s1 : cS), k27 a3 a4 a5 a6 a7 a8 s = some (r, s1) → X (M, G, cdom, 10) (some (.int r)) (encC G s1) (encC G s) 27 [(0, .ref (G.2.1 5 0)), (1, .int (p1)), (2, .int (p2)), (3, .int (a3)), (4, .int (a4)), (5, .int (a5)), (6, .int (a6)), (7, .int (a7)), (8, .int (a8))] []) {k36 : Int32 → Int32 → Int32 → Int32 → Int32 → Int32 → cS → Option (Int32 × cS)} (hk36 : ∀ (a3 : Int32) (a4 : Int32) (a5 : Int32) (a6 : Int32) (a7 : Int32) (a8 : Int32) (s : cS) (r : Int32) (s1 : cS), k36 a3 a4 a5 a6 a7 a8 s = some (r, s1) → X (M, G, cdom, 10) (some (.int r)) (encC G s1) (encC G s) 36 [(0, .ref (G.2.1 5 0)), (1, .int (p1)), (2, .int (p2)), (3, .int (a3)), (4, .int (a4)), (5, .int (a5)), (6, .int (a6)), (7, .int (a7)), (8, .int (a8))] []) {a3 : Int32} {a4 : Int32} {a5 : Int32} {a6 : Int32} {a7 : Int32} {a8 : Int32} {s : cS} {r : Int32} {s1 : cS} (h : f7_worstOfLine_l36b N p1 p2 k27 k36 a3 a4 a5 a6 a7 a8 s = some (r, s1)) : X (M, G, cdom, 10) (some (.int r)) (encC G s1) (encC G s) 36 [(0, .ref (G.2.1 5 0)), (1, .int (p1)), (2, .int (p2)), (3, .int (a3)), (4, .int (a4)), (5, .int (a5)), (6, .int (a6)), (7, .int (a7)), (8, .int (a8))] [] := by
  unfold f7_worstOfLine_l36b at h
  refine x_iload (j := 7) C dX7_worstOfLine_36 rfl ?_
  refine x_aload_n (j := 0) C dX7_worstOfLine_38 rfl rfl ?_
  refine x_iload (j := 8) C dX7_worstOfLine_39 rfl ?_
  obtain ⟨⟨r41, s41⟩, e41, h⟩ := Option.bind_eq_some_iff.mp h
  try dsimp only at h
  refine k7_35 C dX7_worstOfLine_41 e41 (x_room R rfl) (Nat.le_of_ble_eq_true rfl) ?_
  refine x_icmp_gt (tgt := 89) C dX7_worstOfLine_44 (by decide) (fun c44 => ?_) (fun c44 => ?_)
  · rw [if_pos c44] at h
    refine x_iinc (j := 8) (v := (a8 + 1)) (ls' := [(8, .int ((a8 + 1))), (0, .ref (G.2.1 5 0)), (1, .int (p1)), (2, .int (p2)), (3, .int (a3)), (4, .int (a4)), (5, .int (a5)), (6, .int (a6)), (7, .int (a7))]) C dX7_worstOfLine_89 rfl rfl (Nat.le_of_ble_eq_true rfl) rfl ?_
    refine x_goto (tgt := 27) C dX7_worstOfLine_92 (by decide) ?_
    refine x_sub (ls' := [(0, .ref (G.2.1 5 0)), (1, .int (p1)), (2, .int (p2)), (3, .int (a3)), (4, .int (a4)), (5, .int (a5)), (6, .int (a6)), (7, .int (a7)), (8, .int ((a8 + 1)))]) [1, 2, 3, 4, 5, 6, 7, 8, 0] rfl ?_
    exact hk27 _ _ _ _ _ _ _ _ _ h
  · rw [if_neg c44] at h
    refine x_iload_n (j := 1) C dX7_worstOfLine_47 rfl rfl ?_
    refine x_iconst (v := 1) C dX7_worstOfLine_48 (by decide) ?_
    refine x_isub C dX7_worstOfLine_49 ?_
    refine x_iload (j := 8) C dX7_worstOfLine_50 rfl ?_
    refine x_iload_n (j := 3) C dX7_worstOfLine_52 rfl rfl ?_
    refine x_isub C dX7_worstOfLine_53 ?_
    refine x_imul C dX7_worstOfLine_54 ?_
    refine x_iload (j := 7) C dX7_worstOfLine_55 rfl ?_
    refine x_iconst (v := 1) C dX7_worstOfLine_57 (by decide) ?_
    refine x_isub C dX7_worstOfLine_58 ?_
    refine x_iload (j := 4) C dX7_worstOfLine_59 rfl ?_
    refine x_imul C dX7_worstOfLine_61 ?_
    refine x_isub C dX7_worstOfLine_62 ?_
    refine x_abs C dX7_worstOfLine_63 lk544 lk545 lk88 lk546 (x_rf R rfl) (x_rl R rfl) ?_
    refine x_istore (i := 9) (ls' := [(9, .int ((jabs (((p1 - 1) * (a8 - a3)) - ((a7 - 1) * a4))))), (0, .ref (G.2.1 5 0)), (1, .int (p1)), (2, .int (p2)), (3, .int (a3)), (4, .int (a4)), (5, .int (a5)), (6, .int (a6)), (7, .int (a7)), (8, .int (a8))]) C dX7_worstOfLine_66 (Nat.le_of_ble_eq_true rfl) rfl ?_
    refine x_iload (j := 0) C dX7_worstOfLine_68 rfl ?_
    refine x_iload (j := 6) C dX7_worstOfLine_70 rfl ?_
    refine x_icmp_le (tgt := 83) C dX7_worstOfLine_72 (by decide) (fun c72 => ?_) (fun c72 => ?_)
    · rw [if_pos c72] at h
      refine x_iinc (j := 8) (v := (a7 + 1)) (ls' := [(7, .int ((a7 + 1))), (9, .int ((jabs (((p1 - 1) * (a8 - a3)) - ((a7 - 1) * a4))))), (0, .ref (G.2.1 5 0)), (1, .int (p1)), (2, .int (p2)), (3, .int (a3)), (4, .int (a4)), (5, .int (a5)), (6, .int (a6)), (8, .int (a8))]) C dX7_worstOfLine_83 rfl rfl (Nat.le_of_ble_eq_true rfl) rfl ?_
      refine x_goto (tgt := 36) C dX7_worstOfLine_86 (by decide) ?_
      refine x_sub (ls' := [(0, .ref (G.2.1 5 0)), (1, .int (p1)), (2, .int (p2)), (3, .int (a3)), (4, .int (a4)), (5, .int (a5)), (6, .int (a6)), (7, .int ((a7 + 1))), (8, .int (a8))]) [2, 3, 4, 5, 6, 7, 8, 0, 9] rfl ?_
      exact hk36 _ _ _ _ _ _ _ _ _ h
    · rw [if_neg c72] at h
      refine x_iload (j := 0) C dX7_worstOfLine_75 rfl ?_
      refine x_istore (i := 5) (ls' := [(5, .int ((jabs (((p1 - 1) * (a8 - a3)) - ((a7 - 1) * a4))))), (9, .int ((jabs (((p1 - 1) * (a8 - a3)) - ((a7 - 1) * a4))))), (0, .ref (G.2.1 5 0)), (1, .int (p1)), (2, .int (p2)), (3, .int (a3)), (4, .int (a4)), (6, .int (a6)), (7, .int (a7)), (8, .int (a8))]) C dX7_worstOfLine_77 (Nat.le_of_ble_eq_true rfl) rfl ?_
      refine x_iload (j := 8) C dX7_worstOfLine_79 rfl ?_
      refine x_istore (i := 6) (ls' := [(6, .int (a7)), (5, .int ((jabs (((p1 - 1) * (a8 - a3)) - ((a7 - 1) * a4))))), (9, .int ((jabs (((p1 - 1) * (a8 - a3)) - ((a7 - 1) * a4))))), (0, .ref (G.2.1 5 0)), (1, .int (p1)), (2, .int (p2)), (3, .int (a3)), (4, .int (a4)), (7, .int (a7)), (8, .int (a8))]) C dX7_worstOfLine_81 (Nat.le_of_ble_eq_true rfl) rfl ?_
      refine x_iinc (j := 8) (v := (a7 + 1)) (ls' := [(7, .int ((a7 + 1))), (6, .int (a7)), (5, .int ((jabs (((p1 - 1) * (a8 - a3)) - ((a7 - 1) * a4))))), (9, .int ((jabs (((p1 - 1) * (a8 - a3)) - ((a7 - 1) * a4))))), (0, .ref (G.2.1 5 0)), (1, .int (p1)), (2, .int (p2)), (3, .int (a3)), (4, .int (a4)), (8, .int (a8))]) C dX7_worstOfLine_83 rfl rfl (Nat.le_of_ble_eq_true rfl) rfl ?_
      refine x_goto (tgt := 36) C dX7_worstOfLine_86 (by decide) ?_
      refine x_sub (ls' := [(0, .ref (G.2.1 5 0)), (1, .int (p1)), (2, .int (p2)), (3, .int (a3)), (4, .int (a4)), (5, .int ((jabs (((p1 - 1) * (a8 - a3)) - ((a7 - 1) * a4))))), (6, .int (a7)), (7, .int ((a7 + 1))), (8, .int (a8))]) [4, 5, 6, 7, 8, 2, 1, 0, 9] rfl ?_
      exact hk36 _ _ _ _ _ _ _ _ _ h
theorem t7_worstOfLine_l36 {M : xM} {G : xG} {N : Nat} {p1 : Int32} {p2 : Int32} (C : xC (M, G, cdom, 10) RX7 cX7_worstOfLine (some .int)) (R : xR (M, G, cdom, 10) = xrm 2 43) {k27 : Int32 → Int32 → Int32 → Int32 → Int32 → Int32 → cS → Option (Int32 × cS)} (hk27 : ∀ (a3 : Int32) (a4 : Int32) (a5 : Int32) (a6 : Int32) (a7 : Int32) (a8 : Int32) (s : cS) (r : Int32) (s1 : cS), k27 a3 a4 a5 a6 a7 a8 s = some (r, s1) → X (M, G, cdom, 10) (some (.int r)) (encC G s1) (encC G s) 27 [(0, .ref (G.2.1 5 0)), (1, .int (p1)), (2, .int (p2)), (3, .int (a3)), (4, .int (a4)), (5, .int (a5)), (6, .int (a6)), (7, .int (a7)), (8, .int (a8))] []) (n : Nat) : ∀ (a3 : Int32) (a4 : Int32) (a5 : Int32) (a6 : Int32) (a7 : Int32) (a8 : Int32) (s : cS) (r : Int32) (s1 : cS), f7_worstOfLine_l36 N p1 p2 k27 n a3 a4 a5 a6 a7 a8 s = some (r, s1) → X (M, G, cdom, 10) (some (.int r)) (encC G s1) (encC G s) 36 [(0, .ref (G.2.1 5 0)), (1, .int (p1)), (2, .int (p2)), (3, .int (a3)), (4, .int (a4)), (5, .int (a5)), (6, .int (a6)), (7, .int (a7)), (8, .int (a8))] [] := by
  induction n with
  | zero => intro a3 a4 a5 a6 a7 a8 s r s1 h; exact (Option.some_ne_none _ (Eq.symm h)).elim
  | succ n ih => intro a3 a4 a5 a6 a7 a8 s r s1 h; exact t7_worstOfLine_l36b (N := N) (p1 := p1) (p2 := p2) C R hk27 (k36 := f7_worstOfLine_l36 N p1 p2 k27 n) ih h
set_option maxRecDepth 100000 in
theorem t7_worstOfLine_l27b {M : xM} {G : xG} {N : Nat} {p1 : Int32} {p2 : Int32} (C : xC (M, G, cdom, 10) RX7 cX7_worstOfLine (some .int)) (R : xR (M, G, cdom, 10) = xrm 2 43) {k27 : Int32 → Int32 → Int32 → Int32 → Int32 → Int32 → cS → Option (Int32 × cS)} (hk27 : ∀ (a3 : Int32) (a4 : Int32) (a5 : Int32) (a6 : Int32) (a7 : Int32) (a8 : Int32) (s : cS) (r : Int32) (s1 : cS), k27 a3 a4 a5 a6 a7 a8 s = some (r, s1) → X (M, G, cdom, 10) (some (.int r)) (encC G s1) (encC G s) 27 [(0, .ref (G.2.1 5 0)), (1, .int (p1)), (2, .int (p2)), (3, .int (a3)), (4, .int (a4)), (5, .int (a5)), (6, .int (a6)), (7, .int (a7)), (8, .int (a8))] []) {a3 : Int32} {a4 : Int32} {a5 : Int32} {a6 : Int32} {a7 : Int32} {a8 : Int32} {s : cS} {r : Int32} {s1 : cS} (h : f7_worstOfLine_l27b N p1 p2 k27 a3 a4 a5 a6 a7 a8 s = some (r, s1)) : X (M, G, cdom, 10) (some (.int r)) (encC G s1) (encC G s) 27 [(0, .ref (G.2.1 5 0)), (1, .int (p1)), (2, .int (p2)), (3, .int (a3)), (4, .int (a4)), (5, .int (a5)), (6, .int (a6)), (7, .int (a7)), (8, .int (a8))] [] := by
  unfold f7_worstOfLine_l27b at h
  refine x_iload (j := 8) C dX7_worstOfLine_27 rfl ?_
  refine x_aload_n (j := 0) C dX7_worstOfLine_29 rfl rfl ?_
  refine gf7_19 C dX7_worstOfLine_30 ?_
  refine x_icmp_gt (tgt := 95) C dX7_worstOfLine_33 (by decide) (fun c33 => ?_) (fun c33 => ?_)
  · rw [if_pos c33] at h
    refine x_iload_n (j := 2) C dX7_worstOfLine_95 rfl rfl ?_
    refine x_if_eq (tgt := 104) C dX7_worstOfLine_96 (by decide) (fun c96 => ?_) (fun c96 => ?_)
    · rw [if_pos c96] at h
      refine x_iload (j := 5) C dX7_worstOfLine_104 rfl ?_
      cases h
      exact x_iret C dX7_worstOfLine_106
    · rw [if_neg c96] at h
      refine x_iload (j := 6) C dX7_worstOfLine_99 rfl ?_
      refine x_goto (tgt := 106) C dX7_worstOfLine_101 (by decide) ?_
      cases h
      exact x_iret C dX7_worstOfLine_106
  · rw [if_neg c33] at h
    exact t7_worstOfLine_l36 (N := N) (p1 := p1) (p2 := p2) C R hk27 N _ _ _ _ _ _ _ _ _ h
theorem t7_worstOfLine_l27 {M : xM} {G : xG} {N : Nat} {p1 : Int32} {p2 : Int32} (C : xC (M, G, cdom, 10) RX7 cX7_worstOfLine (some .int)) (R : xR (M, G, cdom, 10) = xrm 2 43) (n : Nat) : ∀ (a3 : Int32) (a4 : Int32) (a5 : Int32) (a6 : Int32) (a7 : Int32) (a8 : Int32) (s : cS) (r : Int32) (s1 : cS), f7_worstOfLine_l27 N p1 p2 n a3 a4 a5 a6 a7 a8 s = some (r, s1) → X (M, G, cdom, 10) (some (.int r)) (encC G s1) (encC G s) 27 [(0, .ref (G.2.1 5 0)), (1, .int (p1)), (2, .int (p2)), (3, .int (a3)), (4, .int (a4)), (5, .int (a5)), (6, .int (a6)), (7, .int (a7)), (8, .int (a8))] [] := by
  induction n with
  | zero => intro a3 a4 a5 a6 a7 a8 s r s1 h; exact (Option.some_ne_none _ (Eq.symm h)).elim
  | succ n ih => intro a3 a4 a5 a6 a7 a8 s r s1 h; exact t7_worstOfLine_l27b (N := N) (p1 := p1) (p2 := p2) C R (k27 := f7_worstOfLine_l27 N p1 p2 n) ih h
set_option maxRecDepth 100000 in
theorem t7_worstOfLine {M : xM} {G : xG} {N : Nat} {p1 : Int32} {p2 : Int32} (C : xC (M, G, cdom, 10) RX7 cX7_worstOfLine (some .int)) (R : xR (M, G, cdom, 10) = xrm 2 43) {s : cS} {r : Int32} {s1 : cS} (h : f7_worstOfLine N p1 p2 s = some (r, s1)) : X (M, G, cdom, 10) (some (.int r)) (encC G s1) (encC G s) 0 [(0, .ref (G.2.1 5 0)), (1, .int (p1)), (2, .int (p2))] [] := by
  unfold f7_worstOfLine at h
  refine x_aload_n (j := 0) C dX7_worstOfLine_0 rfl rfl ?_
  refine x_iconst (v := 1) C dX7_worstOfLine_1 (by decide) ?_
  obtain ⟨⟨r2, s2⟩, e2, h⟩ := Option.bind_eq_some_iff.mp h
  try dsimp only at h
  refine k7_55 C dX7_worstOfLine_2 e2 (x_room R rfl) (Nat.le_of_ble_eq_true rfl) ?_
  refine x_istore_n (i := 3) (ls' := [(3, .int (r2)), (0, .ref (G.2.1 5 0)), (1, .int (p1)), (2, .int (p2))]) C dX7_worstOfLine_5 rfl (Nat.le_of_ble_eq_true rfl) rfl ?_
  refine x_aload_n (j := 1) C dX7_worstOfLine_6 rfl rfl ?_
  refine x_iload_n (j := 2) C dX7_worstOfLine_7 rfl rfl ?_
  obtain ⟨⟨r8, s8⟩, e8, h⟩ := Option.bind_eq_some_iff.mp h
  try dsimp only at h
  refine k7_55 C dX7_worstOfLine_8 e8 (x_room R rfl) (Nat.le_of_ble_eq_true rfl) ?_
  refine x_iload_n (j := 0) C dX7_worstOfLine_11 rfl rfl ?_
  refine x_isub C dX7_worstOfLine_12 ?_
  refine x_istore (i := 4) (ls' := [(4, .int ((r8 - r2))), (3, .int (r2)), (0, .ref (G.2.1 5 0)), (1, .int (p1)), (2, .int (p2))]) C dX7_worstOfLine_13 (Nat.le_of_ble_eq_true rfl) rfl ?_
  refine x_iconst (v := 0) C dX7_worstOfLine_15 (by decide) ?_
  refine x_istore (i := 5) (ls' := [(5, .int (0)), (4, .int ((r8 - r2))), (3, .int (r2)), (0, .ref (G.2.1 5 0)), (1, .int (p1)), (2, .int (p2))]) C dX7_worstOfLine_16 (Nat.le_of_ble_eq_true rfl) rfl ?_
  refine x_iconst (v := 1) C dX7_worstOfLine_18 (by decide) ?_
  refine x_istore (i := 6) (ls' := [(6, .int (1)), (5, .int (0)), (4, .int ((r8 - r2))), (3, .int (r2)), (0, .ref (G.2.1 5 0)), (1, .int (p1)), (2, .int (p2))]) C dX7_worstOfLine_19 (Nat.le_of_ble_eq_true rfl) rfl ?_
  refine x_iconst (v := 1) C dX7_worstOfLine_21 (by decide) ?_
  refine x_istore (i := 7) (ls' := [(7, .int (1)), (6, .int (1)), (5, .int (0)), (4, .int ((r8 - r2))), (3, .int (r2)), (0, .ref (G.2.1 5 0)), (1, .int (p1)), (2, .int (p2))]) C dX7_worstOfLine_22 (Nat.le_of_ble_eq_true rfl) rfl ?_
  refine x_iload_n (j := 4) C dX7_worstOfLine_24 rfl rfl ?_
  refine x_istore (i := 8) (ls' := [(8, .int (r2)), (7, .int (1)), (6, .int (1)), (5, .int (0)), (4, .int ((r8 - r2))), (3, .int (r2)), (0, .ref (G.2.1 5 0)), (1, .int (p1)), (2, .int (p2))]) C dX7_worstOfLine_25 (Nat.le_of_ble_eq_true rfl) rfl ?_
  refine x_sub (ls' := [(0, .ref (G.2.1 5 0)), (1, .int (p1)), (2, .int (p2)), (3, .int (r2)), (4, .int ((r8 - r2))), (5, .int (0)), (6, .int (1)), (7, .int (1)), (8, .int (r2))]) [6, 7, 8, 5, 4, 3, 2, 1, 0] rfl ?_
  exact t7_worstOfLine_l27 (N := N) (p1 := p1) (p2 := p2) C R N _ _ _ _ _ _ _ _ _ h
theorem c7_worstOfLine (l : Launch) (G : xG) {N : Nat} {p1 : Int32} {p2 : Int32} {s : cS} {r : Int32} {s1 : cS} (h : f7_worstOfLine N p1 p2 s = some (r, s1)) : xMet l yX7_worstOfLine (x_ws yX7_worstOfLine cX7_worstOfLine 10 (some .int)) (xrm 2 43) G cdom [.ref (G.2.1 5 0), .int (p1), .int (p2)] (encC G s) (some (.int r)) (encC G s1) := by
  refine xMet.of (by decide +kernel) (Nat.le_of_ble_eq_true rfl) ?_
  rintro ⟨M, G', dom', n'⟩ e1 R e3 e4 e5 C
  change G' = G at e3; change dom' = cdom at e4; change n' = 10 at e5
  subst e3; subst e4; subst e5
  exact t7_worstOfLine C R h
theorem k8_190 {M : xM} {G : xG} {n : Nat} {rv : Option Value} {E' : xE} {cc : ByteArray} {ret : Option FieldType} {pc : Nat} {ls : List (Nat × Value)} {st : List Value} {N : Nat} {p1 : Int32} {p2 : Int32} {s s1 : cS} {r : Int32} (C : xC (M, G, cdom, n) RX8 cc ret) (d : decode cc pc = .ok (.invokevirtual 190, 3)) (h : f7_worstOfLine N p1 p2 s = some (r, s1)) (hR : (xrm 2 43).frames + 1 ≤ (xR (M, G, cdom, n)).frames ∧ 8 + (10 + 11) + (xrm 2 43).locals ≤ (xR (M, G, cdom, n)).locals) (hw : (st.map fun v => v.category).sum ≤ 8) (k : X (M, G, cdom, n) rv E' (encC G s1) (pc + 3) ls (.int r :: st)) : X (M, G, cdom, n) rv E' (encC G s) pc ls (.int (p2) :: .int (p1) :: .ref (G.2.1 5 0) :: st) :=
  x_callVN (As := [.int (p1), .int (p2)]) (n := 2) C d (c7_worstOfLine (xl (M, G, cdom, n)) G h) lk539 lk541 lk31 lk79 lk542 ⟨rfl, rfl⟩ ⟨by decide +kernel, by decide +kernel, by decide +kernel⟩ rfl hR rfl rfl rfl rfl hw k
set_option maxRecDepth 100000 in
theorem t8_line_b79 {M : xM} {G : xG} {N : Nat} {p1 : Int32} {p2 : Int32} (C : xC (M, G, cdom, 4) RX8 cX8_line (some .int)) (R : xR (M, G, cdom, 4) = xrm 6 133) {b0 : Int32} {b1 : Int32} {s : cS} {r : Int32} {s1 : cS} (h : f8_line_b79 N p1 p2 b0 b1 s = some (r, s1)) : X (M, G, cdom, 4) (some (.int r)) (encC G s1) (encC G s) 79 [] [.int (b0), .int (b1), .ref (G.2.1 5 0)] := by
  unfold f8_line_b79 at h
  obtain ⟨⟨r79, s79⟩, e79, h⟩ := Option.bind_eq_some_iff.mp h
  try dsimp only at h
  refine k8_190 C dX8_line_79 e79 (x_room R rfl) (Nat.le_of_ble_eq_true rfl) ?_
  refine x_goto (tgt := 86) C dX8_line_82 (by decide) ?_
  cases h
  exact x_iret C dX8_line_86
set_option maxRecDepth 100000 in
theorem t8_line_b54 {M : xM} {G : xG} {N : Nat} {p1 : Int32} {p2 : Int32} (C : xC (M, G, cdom, 4) RX8 cX8_line (some .int)) (R : xR (M, G, cdom, 4) = xrm 6 133) {a3 : Int32} {b0 : Int32} {s : cS} {r : Int32} {s1 : cS} (h : f8_line_b54 N p1 p2 a3 b0 s = some (r, s1)) : X (M, G, cdom, 4) (some (.int r)) (encC G s1) (encC G s) 54 [(0, .ref (G.2.1 0 0)), (2, .int (p2)), (3, .int (a3))] [.int (b0), .ref (G.2.1 0 0)] := by
  unfold f8_line_b54 at h
  refine pf8_66 C dX8_line_54 ?_
  refine x_aload_n (j := 0) C dX8_line_57 rfl rfl ?_
  refine gf8_66 C dX8_line_58 ?_
  refine x_if_ne (tgt := 85) C dX8_line_61 (by decide) (fun c61 => ?_) (fun c61 => ?_)
  · rw [if_neg c61] at h
    refine x_iconst (v := (-1)) C dX8_line_85 (by decide) ?_
    cases h
    exact x_iret C dX8_line_86
  · rw [if_pos c61] at h
    refine x_aload_n (j := 0) C dX8_line_64 rfl rfl ?_
    refine gf8_18 C dX8_line_65 ?_
    refine x_iload_n (j := 2) C dX8_line_68 rfl rfl ?_
    refine x_iload_n (j := 1) C dX8_line_69 rfl rfl ?_
    refine x_iconst (v := 1) C dX8_line_70 (by decide) ?_
    refine x_icmp_ne (tgt := 78) C dX8_line_71 (by decide) (fun c71 => ?_) (fun c71 => ?_)
    · rw [if_neg c71] at h
      refine x_iconst (v := 0) C dX8_line_78 (by decide) ?_
      refine x_sub (ls' := []) [] rfl ?_
      exact t8_line_b79 (N := N) (p1 := p1) (p2 := p2) C R h
    · rw [if_pos c71] at h
      refine x_iconst (v := 1) C dX8_line_74 (by decide) ?_
      refine x_goto (tgt := 79) C dX8_line_75 (by decide) ?_
      refine x_sub (ls' := []) [] rfl ?_
      exact t8_line_b79 (N := N) (p1 := p1) (p2 := p2) C R h
set_option maxRecDepth 100000 in
theorem t8_line {M : xM} {G : xG} {N : Nat} {p1 : Int32} {p2 : Int32} (C : xC (M, G, cdom, 4) RX8 cX8_line (some .int)) (R : xR (M, G, cdom, 4) = xrm 6 133) {s : cS} {r : Int32} {s1 : cS} (h : f8_line N p1 p2 s = some (r, s1)) : X (M, G, cdom, 4) (some (.int r)) (encC G s1) (encC G s) 0 [(0, .ref (G.2.1 0 0)), (1, .int (p1)), (2, .int (p2))] [] := by
  unfold f8_line at h
  refine x_aload_n (j := 0) C dX8_line_0 rfl rfl ?_
  refine x_iload_n (j := 1) C dX8_line_1 rfl rfl ?_
  obtain ⟨⟨r2, s2⟩, e2, h⟩ := Option.bind_eq_some_iff.mp h
  try dsimp only at h
  refine k8_149 C dX8_line_2 e2 (x_room R rfl) (Nat.le_of_ble_eq_true rfl) ?_
  refine x_if_ne (tgt := 10) C dX8_line_5 (by decide) (fun c5 => ?_) (fun c5 => ?_)
  · rw [if_neg c5] at h
    refine x_aload_n (j := 0) C dX8_line_10 rfl rfl ?_
    refine gf8_18 C dX8_line_11 ?_
    obtain ⟨⟨r14, s14⟩, e14, h⟩ := Option.bind_eq_some_iff.mp h
    try dsimp only at h
    refine k8_172 C dX8_line_14 e14 (x_room R rfl) (Nat.le_of_ble_eq_true rfl) ?_
    refine x_istore_n (i := 3) (ls' := [(3, .int (r14)), (0, .ref (G.2.1 0 0)), (1, .int (p1)), (2, .int (p2))]) C dX8_line_17 rfl (Nat.le_of_ble_eq_true rfl) rfl ?_
    refine x_aload_n (j := 1) C dX8_line_18 rfl rfl ?_
    refine x_iload_n (j := 3) C dX8_line_19 rfl rfl ?_
    refine x_if_lt (tgt := 28) C dX8_line_20 (by decide) (fun c20 => ?_) (fun c20 => ?_)
    · rw [if_pos c20] at h
      refine x_iconst (v := 1) C dX8_line_28 (by decide) ?_
      refine x_goto (tgt := 54) C dX8_line_29 (by decide) ?_
      refine x_sub (ls' := [(0, .ref (G.2.1 0 0)), (2, .int (p2)), (3, .int (r14))]) [1, 3, 0] rfl ?_
      exact t8_line_b54 (N := N) (p1 := p1) (p2 := p2) C R h
    · rw [if_neg c20] at h
      refine x_iload_n (j := 3) C dX8_line_23 rfl rfl ?_
      refine x_iconst (v := 1) C dX8_line_24 (by decide) ?_
      refine x_icmp_le (tgt := 32) C dX8_line_25 (by decide) (fun c25 => ?_) (fun c25 => ?_)
      · rw [if_pos c25] at h
        refine x_iload_n (j := 0) C dX8_line_32 rfl rfl ?_
        refine x_iconst (v := 2) C dX8_line_33 (by decide) ?_
        refine x_icmp_lt (tgt := 49) C dX8_line_34 (by decide) (fun c34 => ?_) (fun c34 => ?_)
        · rw [if_pos c34] at h
          refine x_iconst (v := 5) C dX8_line_49 (by decide) ?_
          refine x_goto (tgt := 54) C dX8_line_50 (by decide) ?_
          refine x_sub (ls' := [(0, .ref (G.2.1 0 0)), (2, .int (p2)), (3, .int (r14))]) [1, 3, 0] rfl ?_
          exact t8_line_b54 (N := N) (p1 := p1) (p2 := p2) C R h
        · rw [if_neg c34] at h
          refine x_aload_n (j := 1) C dX8_line_37 rfl rfl ?_
          refine gf8_18 C dX8_line_38 ?_
          obtain ⟨⟨r41, s41⟩, e41, h⟩ := Option.bind_eq_some_iff.mp h
          try dsimp only at h
          refine k8_181 C dX8_line_41 e41 (x_room R rfl) (Nat.le_of_ble_eq_true rfl) ?_
          refine x_bipush (v := (-2)) C dX8_line_44 (by decide) ?_
          refine x_icmp_eq (tgt := 53) C dX8_line_46 (by decide) (fun c46 => ?_) (fun c46 => ?_)
          · rw [if_pos c46] at h
            refine x_iconst (v := 0) C dX8_line_53 (by decide) ?_
            refine x_sub (ls' := [(0, .ref (G.2.1 0 0)), (2, .int (p2)), (3, .int (r14))]) [1, 3, 0] rfl ?_
            exact t8_line_b54 (N := N) (p1 := p1) (p2 := p2) C R h
          · rw [if_neg c46] at h
            refine x_iconst (v := 5) C dX8_line_49 (by decide) ?_
            refine x_goto (tgt := 54) C dX8_line_50 (by decide) ?_
            refine x_sub (ls' := [(0, .ref (G.2.1 0 0)), (2, .int (p2)), (3, .int (r14))]) [1, 3, 0] rfl ?_
            exact t8_line_b54 (N := N) (p1 := p1) (p2 := p2) C R h
      · rw [if_neg c25] at h
        refine x_iconst (v := 1) C dX8_line_28 (by decide) ?_
        refine x_goto (tgt := 54) C dX8_line_29 (by decide) ?_
        refine x_sub (ls' := [(0, .ref (G.2.1 0 0)), (2, .int (p2)), (3, .int (r14))]) [1, 3, 0] rfl ?_
        exact t8_line_b54 (N := N) (p1 := p1) (p2 := p2) C R h
  · rw [if_pos c5] at h
    refine x_iconst (v := (-1)) C dX8_line_8 (by decide) ?_
    cases h
    exact x_iret C dX8_line_9
theorem c8_line (l : Launch) (G : xG) {N : Nat} {p1 : Int32} {p2 : Int32} {s : cS} {r : Int32} {s1 : cS} (h : f8_line N p1 p2 s = some (r, s1)) : xMet l yX8_line (x_ws yX8_line cX8_line 4 (some .int)) (xrm 6 133) G cdom [.ref (G.2.1 0 0), .int (p1), .int (p2)] (encC G s) (some (.int r)) (encC G s1) := by
  refine xMet.of (by decide +kernel) (Nat.le_of_ble_eq_true rfl) ?_
  rintro ⟨M, G', dom', n'⟩ e1 R e3 e4 e5 C
  change G' = G at e3; change dom' = cdom at e4; change n' = 4 at e5
  subst e3; subst e4; subst e5
  exact t8_line C R h
set_option maxRecDepth 100000 in
theorem t8_whyNoBalance {M : xM} {G : xG} {N : Nat} {p0 : Option Nat} (C : xC (M, G, cdom, 1) RX8 cX8_whyNoBalance (some .int)) (R : xR (M, G, cdom, 1) = xrm 0 0) {s : cS} {r : Int32} {s1 : cS} (h : f8_whyNoBalance N p0 s = some (r, s1)) : X (M, G, cdom, 1) (some (.int r)) (encC G s1) (encC G s) 0 [(0, va_rf (Option.map (G.2.1 2) p0))] [] := by
  unfold f8_whyNoBalance at h
  refine x_aload_nq (j := 0) C (Option.map (G.2.1 2) p0) dX8_whyNoBalance_0 rfl rfl ?_
  cases p0 with
  | none =>
    try dsimp only at h
    change X (M, G, cdom, 1) _ _ _ 1 [(0, .null)] [.null]
    refine x_ifnonnullN C dX8_whyNoBalance_1 ?_
    refine x_iconst (v := 2) C dX8_whyNoBalance_4 (by decide) ?_
    refine x_goto (tgt := 21) C dX8_whyNoBalance_5 (by decide) ?_
    cases h
    exact x_iret C dX8_whyNoBalance_21
  | some w1 =>
    try dsimp only at h
    change X (M, G, cdom, 1) _ _ _ 1 [(0, .ref (G.2.1 2 w1))] [.ref (G.2.1 2 w1)]
    refine x_ifnonnull (tgt := 8) C dX8_whyNoBalance_1 (by decide) ?_
    refine x_aload_n (j := 0) C dX8_whyNoBalance_8 rfl rfl ?_
    by_cases g9_1 : w1 < 8
    case neg => rw [if_neg g9_1] at h; cases h
    rw [if_pos g9_1] at h
    refine gf8_122 C dX8_whyNoBalance_9 g9_1 ?_
    refine x_iconst (v := 2) C dX8_whyNoBalance_12 (by decide) ?_
    refine x_icmp_eq (tgt := 20) C dX8_whyNoBalance_13 (by decide) (fun c13 => ?_) (fun c13 => ?_)
    · rw [if_pos c13] at h
      refine x_iconst (v := 0) C dX8_whyNoBalance_20 (by decide) ?_
      cases h
      exact x_iret C dX8_whyNoBalance_21
    · rw [if_neg c13] at h
      refine x_iconst (v := 4) C dX8_whyNoBalance_16 (by decide) ?_
      refine x_goto (tgt := 21) C dX8_whyNoBalance_17 (by decide) ?_
      cases h
      exact x_iret C dX8_whyNoBalance_21
theorem c8_whyNoBalance (l : Launch) (G : xG) {N : Nat} {p0 : Option Nat} {s : cS} {r : Int32} {s1 : cS} (h : f8_whyNoBalance N p0 s = some (r, s1)) : xMet l yX8_whyNoBalance (x_ws yX8_whyNoBalance cX8_whyNoBalance 1 (some .int)) (xrm 0 0) G cdom [va_rf (Option.map (G.2.1 2) p0)] (encC G s) (some (.int r)) (encC G s1) := by
  refine xMet.of (by decide +kernel) (by cases p0 <;> exact Nat.le_of_ble_eq_true rfl) ?_
  rintro ⟨M, G', dom', n'⟩ e1 R e3 e4 e5 C
  change G' = G at e3; change dom' = cdom at e4; change n' = 1 at e5
  subst e3; subst e4; subst e5
  cases p0 <;> exact t8_whyNoBalance C R h
set_option maxRecDepth 100000 in
theorem t3_together_l4b {M : xM} {G : xG} {N : Nat} {o : Nat} (C : xC (M, G, cdom, 4) RX3 cX3_together (some .int)) (R : xR (M, G, cdom, 4) = xrm 1 21) (ho : o < 8) {k4 : Int32 → Int32 → cS → Option (Int32 × cS)} (hk4 : ∀ (a1 : Int32) (a2 : Int32) (s : cS) (r : Int32) (s1 : cS), k4 a1 a2 s = some (r, s1) → X (M, G, cdom, 4) (some (.int r)) (encC G s1) (encC G s) 4 [(0, .ref (G.2.1 2 o)), (1, .int (a1)), (2, .int (a2))] []) {a1 : Int32} {a2 : Int32} {s : cS} {r : Int32} {s1 : cS} (h : f3_together_l4b N o k4 a1 a2 s = some (r, s1)) : X (M, G, cdom, 4) (some (.int r)) (encC G s1) (encC G s) 4 [(0, .ref (G.2.1 2 o)), (1, .int (a1)), (2, .int (a2))] [] := by
  unfold f3_together_l4b at h
  refine x_iload_n (j := 2) C dX3_together_4 rfl rfl ?_
  refine x_aload_n (j := 0) C dX3_together_5 rfl rfl ?_
  refine gf3_22 C dX3_together_6 ho ?_
  refine x_icmp_ge (tgt := 39) C dX3_together_9 (by decide) (fun c9 => ?_) (fun c9 => ?_)
  · rw [if_pos c9] at h
    refine x_iload_n (j := 1) C dX3_together_39 rfl rfl ?_
    cases h
    exact x_iret C dX3_together_40
  · rw [if_neg c9] at h
    refine x_aload_n (j := 0) C dX3_together_12 rfl rfl ?_
    refine x_iload_n (j := 2) C dX3_together_13 rfl rfl ?_
    obtain ⟨⟨r14, s14⟩, e14, h⟩ := Option.bind_eq_some_iff.mp h
    try dsimp only at h
    refine k3_25 C dX3_together_14 e14 ho (x_room R rfl) (Nat.le_of_ble_eq_true rfl) ?_
    refine x_astore_nq (i := 3) (ls' := [(3, va_rf (Option.map (G.2.1 4) r14)), (0, .ref (G.2.1 2 o)), (1, .int (a1)), (2, .int (a2))]) C (Option.map (G.2.1 4) r14) dX3_together_17 rfl (Nat.le_of_ble_eq_true rfl) rfl ?_
    refine x_iload_n (j := 2) C dX3_together_18 rfl rfl ?_
    refine x_aload_nq (j := 0) C (Option.map (G.2.1 4) r14) dX3_together_19 rfl rfl ?_
    cases r14 with
    | none =>
      try dsimp only at h
      change X (M, G, cdom, 4) _ _ _ 20 [(3, .null), (0, .ref (G.2.1 2 o)), (1, .int (a1)), (2, .int (a2))] [.null, .int (a1)]
      refine x_ifnonnullN C dX3_together_20 ?_
      refine x_iconst (v := 0) C dX3_together_23 (by decide) ?_
      refine x_goto (tgt := 31) C dX3_together_24 (by decide) ?_
      refine x_iadd C dX3_together_31 ?_
      refine x_istore_n (i := 1) (ls' := [(1, .int ((a1 + 0))), (3, .null), (0, .ref (G.2.1 2 o)), (2, .int (a2))]) C dX3_together_32 rfl (Nat.le_of_ble_eq_true rfl) rfl ?_
      refine x_iinc (j := 3) (v := (a2 + 1)) (ls' := [(2, .int ((a2 + 1))), (1, .int ((a1 + 0))), (3, .null), (0, .ref (G.2.1 2 o))]) C dX3_together_33 rfl rfl (Nat.le_of_ble_eq_true rfl) rfl ?_
      refine x_goto (tgt := 4) C dX3_together_36 (by decide) ?_
      refine x_sub (ls' := [(0, .ref (G.2.1 2 o)), (1, .int ((a1 + 0))), (2, .int ((a2 + 1)))]) [3, 1, 0] rfl ?_
      exact hk4 _ _ _ _ _ h
    | some w20 =>
      try dsimp only at h
      change X (M, G, cdom, 4) _ _ _ 20 [(3, .ref (G.2.1 4 w20)), (0, .ref (G.2.1 2 o)), (1, .int (a1)), (2, .int (a2))] [.ref (G.2.1 4 w20), .int (a1)]
      refine x_ifnonnull (tgt := 27) C dX3_together_20 (by decide) ?_
      refine x_aload_n (j := 0) C dX3_together_27 rfl rfl ?_
      by_cases g28_1 : w20 < 128
      case neg => rw [if_neg g28_1] at h; cases h
      rw [if_pos g28_1] at h
      obtain ⟨⟨r28, s28⟩, e28, h⟩ := Option.bind_eq_some_iff.mp h
      try dsimp only at h
      refine k3_54 C dX3_together_28 e28 g28_1 (x_room R rfl) (Nat.le_of_ble_eq_true rfl) ?_
      refine x_iadd C dX3_together_31 ?_
      refine x_istore_n (i := 1) (ls' := [(1, .int ((a1 + r28))), (3, .ref (G.2.1 4 w20)), (0, .ref (G.2.1 2 o)), (2, .int (a2))]) C dX3_together_32 rfl (Nat.le_of_ble_eq_true rfl) rfl ?_
      refine x_iinc (j := 3) (v := (a2 + 1)) (ls' := [(2, .int ((a2 + 1))), (1, .int ((a1 + r28))), (3, .ref (G.2.1 4 w20)), (0, .ref (G.2.1 2 o))]) C dX3_together_33 rfl rfl (Nat.le_of_ble_eq_true rfl) rfl ?_
      refine x_goto (tgt := 4) C dX3_together_36 (by decide) ?_
      refine x_sub (ls' := [(0, .ref (G.2.1 2 o)), (1, .int ((a1 + r28))), (2, .int ((a2 + 1)))]) [3, 1, 0] rfl ?_
      exact hk4 _ _ _ _ _ h
theorem t3_together_l4 {M : xM} {G : xG} {N : Nat} {o : Nat} (C : xC (M, G, cdom, 4) RX3 cX3_together (some .int)) (R : xR (M, G, cdom, 4) = xrm 1 21) (ho : o < 8) (n : Nat) : ∀ (a1 : Int32) (a2 : Int32) (s : cS) (r : Int32) (s1 : cS), f3_together_l4 N o n a1 a2 s = some (r, s1) → X (M, G, cdom, 4) (some (.int r)) (encC G s1) (encC G s) 4 [(0, .ref (G.2.1 2 o)), (1, .int (a1)), (2, .int (a2))] [] := by
  induction n with
  | zero => intro a1 a2 s r s1 h; exact (Option.some_ne_none _ (Eq.symm h)).elim
  | succ n ih => intro a1 a2 s r s1 h; exact t3_together_l4b (N := N) (o := o) C R ho (k4 := f3_together_l4 N o n) ih h
set_option maxRecDepth 100000 in
theorem t3_together {M : xM} {G : xG} {N : Nat} {o : Nat} (C : xC (M, G, cdom, 4) RX3 cX3_together (some .int)) (R : xR (M, G, cdom, 4) = xrm 1 21) (ho : o < 8) {s : cS} {r : Int32} {s1 : cS} (h : f3_together N o s = some (r, s1)) : X (M, G, cdom, 4) (some (.int r)) (encC G s1) (encC G s) 0 [(0, .ref (G.2.1 2 o))] [] := by
  unfold f3_together at h
  refine x_iconst (v := 0) C dX3_together_0 (by decide) ?_
  refine x_istore_n (i := 1) (ls' := [(1, .int (0)), (0, .ref (G.2.1 2 o))]) C dX3_together_1 rfl (Nat.le_of_ble_eq_true rfl) rfl ?_
  refine x_iconst (v := 0) C dX3_together_2 (by decide) ?_
  refine x_istore_n (i := 2) (ls' := [(2, .int (0)), (1, .int (0)), (0, .ref (G.2.1 2 o))]) C dX3_together_3 rfl (Nat.le_of_ble_eq_true rfl) rfl ?_
  refine x_sub (ls' := [(0, .ref (G.2.1 2 o)), (1, .int (0)), (2, .int (0))]) [2, 1, 0] rfl ?_
  exact t3_together_l4 (N := N) (o := o) C R ho N _ _ _ _ _ h
theorem c3_together (l : Launch) (G : xG) {N : Nat} {o : Nat} {s : cS} {r : Int32} {s1 : cS} (ho : o < 8) (h : f3_together N o s = some (r, s1)) : xMet l yX3_together (x_ws yX3_together cX3_together 4 (some .int)) (xrm 1 21) G cdom [.ref (G.2.1 2 o)] (encC G s) (some (.int r)) (encC G s1) := by
  refine xMet.of (by decide +kernel) (Nat.le_of_ble_eq_true rfl) ?_
  rintro ⟨M, G', dom', n'⟩ e1 R e3 e4 e5 C
  change G' = G at e3; change dom' = cdom at e4; change n' = 4 at e5
  subst e3; subst e4; subst e5
  exact t3_together C R ho h
theorem k3_82 {M : xM} {G : xG} {n : Nat} {rv : Option Value} {E' : xE} {cc : ByteArray} {ret : Option FieldType} {pc : Nat} {ls : List (Nat × Value)} {st : List Value} {N : Nat} {o : Nat} {s s1 : cS} {r : Int32} (C : xC (M, G, cdom, n) RX3 cc ret) (d : decode cc pc = .ok (.invokevirtual 82, 3)) (h : f3_together N o s = some (r, s1)) (ho : o < 8) (hR : (xrm 1 21).frames + 1 ≤ (xR (M, G, cdom, n)).frames ∧ 8 + (4 + 11) + (xrm 1 21).locals ≤ (xR (M, G, cdom, n)).locals) (hw : (st.map fun v => v.category).sum ≤ 8) (k : X (M, G, cdom, n) rv E' (encC G s1) (pc + 3) ls (.int r :: st)) : X (M, G, cdom, n) rv E' (encC G s) pc ls (.ref (G.2.1 2 o) :: st) :=
  x_callV (As := []) (n := 0) C d (c3_together (xl (M, G, cdom, n)) G ho h) lk558 lk560 lk33 lk84 lk561 ⟨rfl, rfl⟩ ⟨by decide +kernel, by decide +kernel, by decide +kernel⟩ rfl hR (decide_eq_true ho) rfl rfl rfl hw k
set_option maxRecDepth 100000 in
theorem t3_firstUncovered_b33 {M : xM} {G : xG} {N : Nat} {o : Nat} (C : xC (M, G, cdom, 5) RX3 cX3_firstUncovered (some .int)) (R : xR (M, G, cdom, 5) = xrm 2 44) (ho : o < 8) {k7 : Int32 → Int32 → cS → Option (Int32 × cS)} (hk7 : ∀ (a1 : Int32) (a2 : Int32) (s : cS) (r : Int32) (s1 : cS), k7 a1 a2 s = some (r, s1) → X (M, G, cdom, 5) (some (.int r)) (encC G s1) (encC G s) 7 [(0, .ref (G.2.1 2 o)), (1, .int (a1)), (2, .int (a2))] []) {a1 : Int32} {a2 : Int32} {b0 : Int32} {s : cS} {r : Int32} {s1 : cS} (h : f3_firstUncovered_b33 N o k7 a1 a2 b0 s = some (r, s1)) : X (M, G, cdom, 5) (some (.int r)) (encC G s1) (encC G s) 33 [(0, .ref (G.2.1 2 o)), (1, .int (a1)), (2, .int (a2))] [.int (b0)] := by
  unfold f3_firstUncovered_b33 at h
  refine x_istore (i := 4) (ls' := [(4, .int (b0)), (0, .ref (G.2.1 2 o)), (1, .int (a1)), (2, .int (a2))]) C dX3_firstUncovered_33 (Nat.le_of_ble_eq_true rfl) rfl ?_
  refine x_iload_n (j := 2) C dX3_firstUncovered_35 rfl rfl ?_
  refine x_iload (j := 0) C dX3_firstUncovered_36 rfl ?_
  refine x_isub C dX3_firstUncovered_38 ?_
  refine x_istore_n (i := 1) (ls' := [(1, .int ((a1 - b0))), (4, .int (b0)), (0, .ref (G.2.1 2 o)), (2, .int (a2))]) C dX3_firstUncovered_39 rfl (Nat.le_of_ble_eq_true rfl) rfl ?_
  refine x_iload (j := 1) C dX3_firstUncovered_40 rfl ?_
  refine x_if_lt (tgt := 53) C dX3_firstUncovered_42 (by decide) (fun c42 => ?_) (fun c42 => ?_)
  · rw [if_pos c42] at h
    refine x_iload_n (j := 3) C dX3_firstUncovered_53 rfl rfl ?_
    cases h
    exact x_iret C dX3_firstUncovered_54
  · rw [if_neg c42] at h
    refine x_iload (j := 1) C dX3_firstUncovered_45 rfl ?_
    refine x_iload_n (j := 0) C dX3_firstUncovered_47 rfl rfl ?_
    refine x_iconst (v := 1) C dX3_firstUncovered_48 (by decide) ?_
    refine x_iadd C dX3_firstUncovered_49 ?_
    refine x_icmp_le (tgt := 55) C dX3_firstUncovered_50 (by decide) (fun c50 => ?_) (fun c50 => ?_)
    · rw [if_pos c50] at h
      refine x_iinc (j := 3) (v := (a2 + 1)) (ls' := [(2, .int ((a2 + 1))), (1, .int ((a1 - b0))), (4, .int (b0)), (0, .ref (G.2.1 2 o))]) C dX3_firstUncovered_55 rfl rfl (Nat.le_of_ble_eq_true rfl) rfl ?_
      refine x_goto (tgt := 7) C dX3_firstUncovered_58 (by decide) ?_
      refine x_sub (ls' := [(0, .ref (G.2.1 2 o)), (1, .int ((a1 - b0))), (2, .int ((a2 + 1)))]) [3, 1, 0] rfl ?_
      exact hk7 _ _ _ _ _ h
    · rw [if_neg c50] at h
      refine x_iload_n (j := 3) C dX3_firstUncovered_53 rfl rfl ?_
      cases h
      exact x_iret C dX3_firstUncovered_54
set_option maxRecDepth 100000 in
theorem t3_firstUncovered_l7b {M : xM} {G : xG} {N : Nat} {o : Nat} (C : xC (M, G, cdom, 5) RX3 cX3_firstUncovered (some .int)) (R : xR (M, G, cdom, 5) = xrm 2 44) (ho : o < 8) {k7 : Int32 → Int32 → cS → Option (Int32 × cS)} (hk7 : ∀ (a1 : Int32) (a2 : Int32) (s : cS) (r : Int32) (s1 : cS), k7 a1 a2 s = some (r, s1) → X (M, G, cdom, 5) (some (.int r)) (encC G s1) (encC G s) 7 [(0, .ref (G.2.1 2 o)), (1, .int (a1)), (2, .int (a2))] []) {a1 : Int32} {a2 : Int32} {s : cS} {r : Int32} {s1 : cS} (h : f3_firstUncovered_l7b N o k7 a1 a2 s = some (r, s1)) : X (M, G, cdom, 5) (some (.int r)) (encC G s1) (encC G s) 7 [(0, .ref (G.2.1 2 o)), (1, .int (a1)), (2, .int (a2))] [] := by
  unfold f3_firstUncovered_l7b at h
  refine x_iload_n (j := 2) C dX3_firstUncovered_7 rfl rfl ?_
  refine x_aload_n (j := 0) C dX3_firstUncovered_8 rfl rfl ?_
  refine gf3_22 C dX3_firstUncovered_9 ho ?_
  refine x_icmp_ge (tgt := 61) C dX3_firstUncovered_12 (by decide) (fun c12 => ?_) (fun c12 => ?_)
  · rw [if_pos c12] at h
    refine x_bipush (v := (-2)) C dX3_firstUncovered_61 (by decide) ?_
    cases h
    exact x_iret C dX3_firstUncovered_63
  · rw [if_neg c12] at h
    refine x_aload_n (j := 0) C dX3_firstUncovered_15 rfl rfl ?_
    refine x_iload_n (j := 2) C dX3_firstUncovered_16 rfl rfl ?_
    obtain ⟨⟨r17, s17⟩, e17, h⟩ := Option.bind_eq_some_iff.mp h
    try dsimp only at h
    refine k3_25 C dX3_firstUncovered_17 e17 ho (x_room R rfl) (Nat.le_of_ble_eq_true rfl) ?_
    refine x_astore_nq (i := 3) (ls' := [(3, va_rf (Option.map (G.2.1 4) r17)), (0, .ref (G.2.1 2 o)), (1, .int (a1)), (2, .int (a2))]) C (Option.map (G.2.1 4) r17) dX3_firstUncovered_20 rfl (Nat.le_of_ble_eq_true rfl) rfl ?_
    refine x_aload_nq (j := 0) C (Option.map (G.2.1 4) r17) dX3_firstUncovered_21 rfl rfl ?_
    cases r17 with
    | none =>
      try dsimp only at h
      change X (M, G, cdom, 5) _ _ _ 22 [(3, .null), (0, .ref (G.2.1 2 o)), (1, .int (a1)), (2, .int (a2))] [.null]
      refine x_ifnonnullN C dX3_firstUncovered_22 ?_
      refine x_iconst (v := 0) C dX3_firstUncovered_25 (by decide) ?_
      refine x_goto (tgt := 33) C dX3_firstUncovered_26 (by decide) ?_
      refine x_sub (ls' := [(0, .ref (G.2.1 2 o)), (1, .int (a1)), (2, .int (a2))]) [1, 2, 3] rfl ?_
      exact t3_firstUncovered_b33 (N := N) (o := o) C R ho hk7 h
    | some w22 =>
      try dsimp only at h
      change X (M, G, cdom, 5) _ _ _ 22 [(3, .ref (G.2.1 4 w22)), (0, .ref (G.2.1 2 o)), (1, .int (a1)), (2, .int (a2))] [.ref (G.2.1 4 w22)]
      refine x_ifnonnull (tgt := 29) C dX3_firstUncovered_22 (by decide) ?_
      refine x_aload_n (j := 0) C dX3_firstUncovered_29 rfl rfl ?_
      by_cases g30_1 : w22 < 128
      case neg => rw [if_neg g30_1] at h; cases h
      rw [if_pos g30_1] at h
      obtain ⟨⟨r30, s30⟩, e30, h⟩ := Option.bind_eq_some_iff.mp h
      try dsimp only at h
      refine k3_54 C dX3_firstUncovered_30 e30 g30_1 (x_room R rfl) (Nat.le_of_ble_eq_true rfl) ?_
      refine x_sub (ls' := [(0, .ref (G.2.1 2 o)), (1, .int (a1)), (2, .int (a2))]) [1, 2, 3] rfl ?_
      exact t3_firstUncovered_b33 (N := N) (o := o) C R ho hk7 h
theorem t3_firstUncovered_l7 {M : xM} {G : xG} {N : Nat} {o : Nat} (C : xC (M, G, cdom, 5) RX3 cX3_firstUncovered (some .int)) (R : xR (M, G, cdom, 5) = xrm 2 44) (ho : o < 8) (n : Nat) : ∀ (a1 : Int32) (a2 : Int32) (s : cS) (r : Int32) (s1 : cS), f3_firstUncovered_l7 N o n a1 a2 s = some (r, s1) → X (M, G, cdom, 5) (some (.int r)) (encC G s1) (encC G s) 7 [(0, .ref (G.2.1 2 o)), (1, .int (a1)), (2, .int (a2))] [] := by
  induction n with
  | zero => intro a1 a2 s r s1 h; exact (Option.some_ne_none _ (Eq.symm h)).elim
  | succ n ih => intro a1 a2 s r s1 h; exact t3_firstUncovered_l7b (N := N) (o := o) C R ho (k7 := f3_firstUncovered_l7 N o n) ih h
set_option maxRecDepth 100000 in
theorem t3_firstUncovered {M : xM} {G : xG} {N : Nat} {o : Nat} (C : xC (M, G, cdom, 5) RX3 cX3_firstUncovered (some .int)) (R : xR (M, G, cdom, 5) = xrm 2 44) (ho : o < 8) {s : cS} {r : Int32} {s1 : cS} (h : f3_firstUncovered N o s = some (r, s1)) : X (M, G, cdom, 5) (some (.int r)) (encC G s1) (encC G s) 0 [(0, .ref (G.2.1 2 o))] [] := by
  unfold f3_firstUncovered at h
  refine x_aload_n (j := 0) C dX3_firstUncovered_0 rfl rfl ?_
  obtain ⟨⟨r1, s1⟩, e1, h⟩ := Option.bind_eq_some_iff.mp h
  try dsimp only at h
  refine k3_82 C dX3_firstUncovered_1 e1 ho (x_room R rfl) (Nat.le_of_ble_eq_true rfl) ?_
  refine x_istore_n (i := 1) (ls' := [(1, .int (r1)), (0, .ref (G.2.1 2 o))]) C dX3_firstUncovered_4 rfl (Nat.le_of_ble_eq_true rfl) rfl ?_
  refine x_iconst (v := 0) C dX3_firstUncovered_5 (by decide) ?_
  refine x_istore_n (i := 2) (ls' := [(2, .int (0)), (1, .int (r1)), (0, .ref (G.2.1 2 o))]) C dX3_firstUncovered_6 rfl (Nat.le_of_ble_eq_true rfl) rfl ?_
  refine x_sub (ls' := [(0, .ref (G.2.1 2 o)), (1, .int (r1)), (2, .int (0))]) [2, 1, 0] rfl ?_
  exact t3_firstUncovered_l7 (N := N) (o := o) C R ho N _ _ _ _ _ h
theorem c3_firstUncovered (l : Launch) (G : xG) {N : Nat} {o : Nat} {s : cS} {r : Int32} {s1 : cS} (ho : o < 8) (h : f3_firstUncovered N o s = some (r, s1)) : xMet l yX3_firstUncovered (x_ws yX3_firstUncovered cX3_firstUncovered 5 (some .int)) (xrm 2 44) G cdom [.ref (G.2.1 2 o)] (encC G s) (some (.int r)) (encC G s1) := by
  refine xMet.of (by decide +kernel) (Nat.le_of_ble_eq_true rfl) ?_
  rintro ⟨M, G', dom', n'⟩ e1 R e3 e4 e5 C
  change G' = G at e3; change dom' = cdom at e4; change n' = 5 at e5
  subst e3; subst e4; subst e5
  exact t3_firstUncovered C R ho h
theorem k8_194 {M : xM} {G : xG} {n : Nat} {rv : Option Value} {E' : xE} {cc : ByteArray} {ret : Option FieldType} {pc : Nat} {ls : List (Nat × Value)} {st : List Value} {N : Nat} {p0 : Option Nat} {s s1 : cS} {r : Int32} (C : xC (M, G, cdom, n) RX8 cc ret) (d : decode cc pc = .ok (.invokestatic 194, 3)) (h : f8_whyNoBalance N p0 s = some (r, s1)) (hR : (xrm 0 0).frames + 1 ≤ (xR (M, G, cdom, n)).frames ∧ 8 + (1 + 11) + (xrm 0 0).locals ≤ (xR (M, G, cdom, n)).locals) (hw : (st.map fun v => v.category).sum ≤ 8) (k : X (M, G, cdom, n) rv E' (encC G s1) (pc + 3) ls (.int r :: st)) : X (M, G, cdom, n) rv E' (encC G s) pc ls (va_rf (Option.map (G.2.1 2) p0) :: st) :=
  x_callS (As := [va_rf (Option.map (G.2.1 2) p0)]) (n := 1) C d (c8_whyNoBalance (xl (M, G, cdom, n)) G h) lk551 lk552 lk78 lk553 ⟨rfl, rfl⟩ ⟨by decide +kernel, by decide +kernel, by decide +kernel⟩ rfl hR rfl hw k
theorem k8_198 {M : xM} {G : xG} {n : Nat} {rv : Option Value} {E' : xE} {cc : ByteArray} {ret : Option FieldType} {pc : Nat} {ls : List (Nat × Value)} {st : List Value} {N : Nat} {o : Nat} {s s1 : cS} {r : Int32} (C : xC (M, G, cdom, n) RX8 cc ret) (d : decode cc pc = .ok (.invokevirtual 198, 3)) (h : f3_firstUncovered N o s = some (r, s1)) (ho : o < 8) (hR : (xrm 2 44).frames + 1 ≤ (xR (M, G, cdom, n)).frames ∧ 8 + (5 + 11) + (xrm 2 44).locals ≤ (xR (M, G, cdom, n)).locals) (hw : (st.map fun v => v.category).sum ≤ 8) (k : X (M, G, cdom, n) rv E' (encC G s1) (pc + 3) ls (.int r :: st)) : X (M, G, cdom, n) rv E' (encC G s) pc ls (.ref (G.2.1 2 o) :: st) :=
  x_callVN (As := []) (n := 0) C d (c3_firstUncovered (xl (M, G, cdom, n)) G ho h) lk554 lk556 lk32 lk84 lk557 ⟨rfl, rfl⟩ ⟨by decide +kernel, by decide +kernel, by decide +kernel⟩ rfl hR (decide_eq_true ho) rfl rfl rfl hw k
set_option maxRecDepth 100000 in
theorem t8_covered {M : xM} {G : xG} {N : Nat} {p1 : Int32} (C : xC (M, G, cdom, 3) RX8 cX8_covered (some .int)) (R : xR (M, G, cdom, 3) = xrm 3 68) {s : cS} {r : Int32} {s1 : cS} (h : f8_covered N p1 s = some (r, s1)) : X (M, G, cdom, 3) (some (.int r)) (encC G s1) (encC G s) 0 [(0, .ref (G.2.1 0 0)), (1, .int (p1))] [] := by
  unfold f8_covered at h
  refine x_aload_n (j := 0) C dX8_covered_0 rfl rfl ?_
  refine x_iload_n (j := 1) C dX8_covered_1 rfl rfl ?_
  obtain ⟨⟨r2, s2⟩, e2, h⟩ := Option.bind_eq_some_iff.mp h
  try dsimp only at h
  refine k8_83 C dX8_covered_2 e2 (x_room R rfl) (Nat.le_of_ble_eq_true rfl) ?_
  refine x_astore_nq (i := 2) (ls' := [(2, va_rf (Option.map (G.2.1 2) r2)), (0, .ref (G.2.1 0 0)), (1, .int (p1))]) C (Option.map (G.2.1 2) r2) dX8_covered_5 rfl (Nat.le_of_ble_eq_true rfl) rfl ?_
  refine x_aload_n (j := 1) C dX8_covered_6 rfl rfl ?_
  refine x_aload_nq (j := 0) C (Option.map (G.2.1 2) r2) dX8_covered_7 rfl rfl ?_
  obtain ⟨⟨r8, s8⟩, e8, h⟩ := Option.bind_eq_some_iff.mp h
  try dsimp only at h
  refine k8_194 C dX8_covered_8 e8 (x_room R rfl) (Nat.le_of_ble_eq_true rfl) ?_
  refine pf8_66 C dX8_covered_11 ?_
  refine x_aload_nq (j := 0) C (Option.map (G.2.1 2) r2) dX8_covered_14 rfl rfl ?_
  cases r2 with
  | none =>
    try dsimp only at h
    change X (M, G, cdom, 3) _ _ _ 15 [(2, .null), (0, .ref (G.2.1 0 0)), (1, .int (p1))] [.null]
    refine x_ifnullN (tgt := 25) C dX8_covered_15 (by decide) ?_
    refine x_iconst (v := (-1)) C dX8_covered_25 (by decide) ?_
    refine x_goto (tgt := 33) C dX8_covered_26 (by decide) ?_
    cases h
    exact x_iret C dX8_covered_33
  | some w15 =>
    try dsimp only at h
    change X (M, G, cdom, 3) _ _ _ 15 [(2, .ref (G.2.1 2 w15)), (0, .ref (G.2.1 0 0)), (1, .int (p1))] [.ref (G.2.1 2 w15)]
    refine x_ifnull C dX8_covered_15 ?_
    refine x_aload_n (j := 1) C dX8_covered_18 rfl rfl ?_
    refine gf8_66 C dX8_covered_19 ?_
    refine x_if_eq (tgt := 29) C dX8_covered_22 (by decide) (fun c22 => ?_) (fun c22 => ?_)
    · rw [if_pos c22] at h
      refine x_aload_n (j := 0) C dX8_covered_29 rfl rfl ?_
      by_cases g30_1 : w15 < 8
      case neg => rw [if_neg g30_1] at h; cases h
      rw [if_pos g30_1] at h
      obtain ⟨⟨r30, s30⟩, e30, h⟩ := Option.bind_eq_some_iff.mp h
      try dsimp only at h
      refine k8_198 C dX8_covered_30 e30 g30_1 (x_room R rfl) (Nat.le_of_ble_eq_true rfl) ?_
      cases h
      exact x_iret C dX8_covered_33
    · rw [if_neg c22] at h
      refine x_iconst (v := (-1)) C dX8_covered_25 (by decide) ?_
      refine x_goto (tgt := 33) C dX8_covered_26 (by decide) ?_
      cases h
      exact x_iret C dX8_covered_33
theorem c8_covered (l : Launch) (G : xG) {N : Nat} {p1 : Int32} {s : cS} {r : Int32} {s1 : cS} (h : f8_covered N p1 s = some (r, s1)) : xMet l yX8_covered (x_ws yX8_covered cX8_covered 3 (some .int)) (xrm 3 68) G cdom [.ref (G.2.1 0 0), .int (p1)] (encC G s) (some (.int r)) (encC G s1) := by
  refine xMet.of (by decide +kernel) (Nat.le_of_ble_eq_true rfl) ?_
  rintro ⟨M, G', dom', n'⟩ e1 R e3 e4 e5 C
  change G' = G at e3; change dom' = cdom at e4; change n' = 3 at e5
  subst e3; subst e4; subst e5
  exact t8_covered C R h
theorem k8_201 {M : xM} {G : xG} {n : Nat} {rv : Option Value} {E' : xE} {cc : ByteArray} {ret : Option FieldType} {pc : Nat} {ls : List (Nat × Value)} {st : List Value} {N : Nat} {o : Nat} {s s1 : cS} {r : Int32} (C : xC (M, G, cdom, n) RX8 cc ret) (d : decode cc pc = .ok (.invokevirtual 201, 3)) (h : f3_together N o s = some (r, s1)) (ho : o < 8) (hR : (xrm 1 21).frames + 1 ≤ (xR (M, G, cdom, n)).frames ∧ 8 + (4 + 11) + (xrm 1 21).locals ≤ (xR (M, G, cdom, n)).locals) (hw : (st.map fun v => v.category).sum ≤ 8) (k : X (M, G, cdom, n) rv E' (encC G s1) (pc + 3) ls (.int r :: st)) : X (M, G, cdom, n) rv E' (encC G s) pc ls (.ref (G.2.1 2 o) :: st) :=
  x_callVN (As := []) (n := 0) C d (c3_together (xl (M, G, cdom, n)) G ho h) lk566 lk560 lk33 lk84 lk561 ⟨rfl, rfl⟩ ⟨by decide +kernel, by decide +kernel, by decide +kernel⟩ rfl hR (decide_eq_true ho) rfl rfl rfl hw k
set_option maxRecDepth 100000 in
theorem t8_tail_l54b {M : xM} {G : xG} {N : Nat} {p1 : Int32} (C : xC (M, G, cdom, 6) RX8 cX8_tail (some .int)) (R : xR (M, G, cdom, 6) = xrm 3 66) {k54 : Nat → Int32 → Int32 → Int32 → cS → Option (Int32 × cS)} (hk54 : ∀ (a2 : Nat) (a3 : Int32) (a4 : Int32) (a5 : Int32) (s : cS) (r : Int32) (s1 : cS), k54 a2 a3 a4 a5 s = some (r, s1) → X (M, G, cdom, 6) (some (.int r)) (encC G s1) (encC G s) 54 [(2, .ref (G.2.1 2 a2)), (3, .int (a3)), (4, .int (a4)), (5, .int (a5))] []) {a2 : Nat} {a3 : Int32} {a4 : Int32} {a5 : Int32} {s : cS} {r : Int32} {s1 : cS} (h : f8_tail_l54b N p1 k54 a2 a3 a4 a5 s = some (r, s1)) : X (M, G, cdom, 6) (some (.int r)) (encC G s1) (encC G s) 54 [(2, .ref (G.2.1 2 a2)), (3, .int (a3)), (4, .int (a4)), (5, .int (a5))] [] := by
  unfold f8_tail_l54b at h
  refine x_iload (j := 3) C dX8_tail_54 rfl ?_
  refine x_iload_n (j := 1) C dX8_tail_56 rfl rfl ?_
  refine x_icmp_gt (tgt := 82) C dX8_tail_57 (by decide) (fun c57 => ?_) (fun c57 => ?_)
  · rw [if_pos c57] at h
    refine x_iload (j := 2) C dX8_tail_82 rfl ?_
    cases h
    exact x_iret C dX8_tail_84
  · rw [if_neg c57] at h
    refine x_iload (j := 2) C dX8_tail_60 rfl ?_
    refine x_iload (j := 3) C dX8_tail_62 rfl ?_
    refine x_aload_n (j := 0) C dX8_tail_64 rfl rfl ?_
    refine x_iload (j := 3) C dX8_tail_65 rfl ?_
    by_cases g67_1 : a2 < 8
    case neg => rw [if_neg g67_1] at h; cases h
    rw [if_pos g67_1] at h
    obtain ⟨⟨r67, s67⟩, e67, h⟩ := Option.bind_eq_some_iff.mp h
    try dsimp only at h
    refine k8_139 C dX8_tail_67 e67 g67_1 (x_room R rfl) (Nat.le_of_ble_eq_true rfl) ?_
    refine x_isub C dX8_tail_70 ?_
    refine x_max C dX8_tail_71 lk510 lk427 lk88 lk428 (x_rf R rfl) (x_rl R rfl) ?_
    refine x_istore (i := 4) (ls' := [(4, .int ((jmax a4 (a5 - r67)))), (2, .ref (G.2.1 2 a2)), (3, .int (a3)), (5, .int (a5))]) C dX8_tail_74 (Nat.le_of_ble_eq_true rfl) rfl ?_
    refine x_iinc (j := 3) (v := (a5 + 1)) (ls' := [(5, .int ((a5 + 1))), (4, .int ((jmax a4 (a5 - r67)))), (2, .ref (G.2.1 2 a2)), (3, .int (a3))]) C dX8_tail_76 rfl rfl (Nat.le_of_ble_eq_true rfl) rfl ?_
    refine x_goto (tgt := 54) C dX8_tail_79 (by decide) ?_
    refine x_sub (ls' := [(2, .ref (G.2.1 2 a2)), (3, .int (a3)), (4, .int ((jmax a4 (a5 - r67)))), (5, .int ((a5 + 1)))]) [2, 3, 1, 0] rfl ?_
    exact hk54 _ _ _ _ _ _ _ h
theorem t8_tail_l54 {M : xM} {G : xG} {N : Nat} {p1 : Int32} (C : xC (M, G, cdom, 6) RX8 cX8_tail (some .int)) (R : xR (M, G, cdom, 6) = xrm 3 66) (n : Nat) : ∀ (a2 : Nat) (a3 : Int32) (a4 : Int32) (a5 : Int32) (s : cS) (r : Int32) (s1 : cS), f8_tail_l54 N p1 n a2 a3 a4 a5 s = some (r, s1) → X (M, G, cdom, 6) (some (.int r)) (encC G s1) (encC G s) 54 [(2, .ref (G.2.1 2 a2)), (3, .int (a3)), (4, .int (a4)), (5, .int (a5))] [] := by
  induction n with
  | zero => intro a2 a3 a4 a5 s r s1 h; exact (Option.some_ne_none _ (Eq.symm h)).elim
  | succ n ih => intro a2 a3 a4 a5 s r s1 h; exact t8_tail_l54b (N := N) (p1 := p1) C R (k54 := f8_tail_l54 N p1 n) ih h
set_option maxRecDepth 100000 in
theorem t8_tail {M : xM} {G : xG} {N : Nat} {p1 : Int32} (C : xC (M, G, cdom, 6) RX8 cX8_tail (some .int)) (R : xR (M, G, cdom, 6) = xrm 3 66) {s : cS} {r : Int32} {s1 : cS} (h : f8_tail N p1 s = some (r, s1)) : X (M, G, cdom, 6) (some (.int r)) (encC G s1) (encC G s) 0 [(0, .ref (G.2.1 0 0)), (1, .int (p1))] [] := by
  unfold f8_tail at h
  refine x_aload_n (j := 0) C dX8_tail_0 rfl rfl ?_
  refine x_iload_n (j := 1) C dX8_tail_1 rfl rfl ?_
  obtain ⟨⟨r2, s2⟩, e2, h⟩ := Option.bind_eq_some_iff.mp h
  try dsimp only at h
  refine k8_83 C dX8_tail_2 e2 (x_room R rfl) (Nat.le_of_ble_eq_true rfl) ?_
  refine x_astore_nq (i := 2) (ls' := [(2, va_rf (Option.map (G.2.1 2) r2)), (0, .ref (G.2.1 0 0)), (1, .int (p1))]) C (Option.map (G.2.1 2) r2) dX8_tail_5 rfl (Nat.le_of_ble_eq_true rfl) rfl ?_
  refine x_aload_n (j := 1) C dX8_tail_6 rfl rfl ?_
  refine x_aload_nq (j := 0) C (Option.map (G.2.1 2) r2) dX8_tail_7 rfl rfl ?_
  obtain ⟨⟨r8, s8⟩, e8, h⟩ := Option.bind_eq_some_iff.mp h
  try dsimp only at h
  refine k8_194 C dX8_tail_8 e8 (x_room R rfl) (Nat.le_of_ble_eq_true rfl) ?_
  refine pf8_66 C dX8_tail_11 ?_
  refine x_aload_nq (j := 0) C (Option.map (G.2.1 2) r2) dX8_tail_14 rfl rfl ?_
  cases r2 with
  | none =>
    try dsimp only at h
    change X (M, G, cdom, 6) _ _ _ 15 [(2, .null), (0, .ref (G.2.1 0 0)), (1, .int (p1))] [.null]
    refine x_ifnullN (tgt := 25) C dX8_tail_15 (by decide) ?_
    refine x_iconst (v := (-1)) C dX8_tail_25 (by decide) ?_
    cases h
    exact x_iret C dX8_tail_26
  | some w15 =>
    try dsimp only at h
    change X (M, G, cdom, 6) _ _ _ 15 [(2, .ref (G.2.1 2 w15)), (0, .ref (G.2.1 0 0)), (1, .int (p1))] [.ref (G.2.1 2 w15)]
    refine x_ifnull C dX8_tail_15 ?_
    refine x_aload_n (j := 1) C dX8_tail_18 rfl rfl ?_
    refine gf8_66 C dX8_tail_19 ?_
    refine x_if_eq (tgt := 27) C dX8_tail_22 (by decide) (fun c22 => ?_) (fun c22 => ?_)
    · rw [if_pos c22] at h
      refine x_iconst (v := 0) C dX8_tail_27 (by decide) ?_
      refine x_aload_n (j := 1) C dX8_tail_28 rfl rfl ?_
      refine gf8_56 C dX8_tail_29 ?_
      refine x_aload_n (j := 0) C dX8_tail_32 rfl rfl ?_
      by_cases g33_1 : w15 < 8
      case neg => rw [if_neg g33_1] at h; cases h
      rw [if_pos g33_1] at h
      obtain ⟨⟨r33, s33⟩, e33, h⟩ := Option.bind_eq_some_iff.mp h
      try dsimp only at h
      refine k8_201 C dX8_tail_33 e33 g33_1 (x_room R rfl) (Nat.le_of_ble_eq_true rfl) ?_
      refine x_min C dX8_tail_36 lk567 lk332 lk88 lk333 (x_rf R rfl) (x_rl R rfl) ?_
      refine x_max C dX8_tail_39 lk510 lk427 lk88 lk428 (x_rf R rfl) (x_rl R rfl) ?_
      refine x_istore_n (i := 3) (ls' := [(3, .int ((jmax 0 (jmin ((cu s8 3 0 r8).1 0 0) r33)))), (2, .ref (G.2.1 2 w15)), (0, .ref (G.2.1 0 0)), (1, .int (p1))]) C dX8_tail_42 rfl (Nat.le_of_ble_eq_true rfl) rfl ?_
      refine x_aload_n (j := 1) C dX8_tail_43 rfl rfl ?_
      refine x_iconst (v := 0) C dX8_tail_44 (by decide) ?_
      obtain ⟨⟨r45, s45⟩, e45, h⟩ := Option.bind_eq_some_iff.mp h
      try dsimp only at h
      refine k8_139 C dX8_tail_45 e45 g33_1 (x_room R rfl) (Nat.le_of_ble_eq_true rfl) ?_
      refine x_ineg C dX8_tail_48 ?_
      refine x_istore (i := 4) (ls' := [(4, .int ((-r45))), (3, .int ((jmax 0 (jmin ((cu s8 3 0 r8).1 0 0) r33)))), (2, .ref (G.2.1 2 w15)), (0, .ref (G.2.1 0 0)), (1, .int (p1))]) C dX8_tail_49 (Nat.le_of_ble_eq_true rfl) rfl ?_
      refine x_iconst (v := 1) C dX8_tail_51 (by decide) ?_
      refine x_istore (i := 5) (ls' := [(5, .int (1)), (4, .int ((-r45))), (3, .int ((jmax 0 (jmin ((cu s8 3 0 r8).1 0 0) r33)))), (2, .ref (G.2.1 2 w15)), (0, .ref (G.2.1 0 0)), (1, .int (p1))]) C dX8_tail_52 (Nat.le_of_ble_eq_true rfl) rfl ?_
      refine x_sub (ls' := [(2, .ref (G.2.1 2 w15)), (3, .int ((jmax 0 (jmin ((cu s8 3 0 r8).1 0 0) r33)))), (4, .int ((-r45))), (5, .int (1))]) [3, 2, 1, 0] rfl ?_
      exact t8_tail_l54 (N := N) (p1 := p1) C R N _ _ _ _ _ _ _ h
    · rw [if_neg c22] at h
      refine x_iconst (v := (-1)) C dX8_tail_25 (by decide) ?_
      cases h
      exact x_iret C dX8_tail_26
theorem c8_tail (l : Launch) (G : xG) {N : Nat} {p1 : Int32} {s : cS} {r : Int32} {s1 : cS} (h : f8_tail N p1 s = some (r, s1)) : xMet l yX8_tail (x_ws yX8_tail cX8_tail 6 (some .int)) (xrm 3 66) G cdom [.ref (G.2.1 0 0), .int (p1)] (encC G s) (some (.int r)) (encC G s1) := by
  refine xMet.of (by decide +kernel) (Nat.le_of_ble_eq_true rfl) ?_
  rintro ⟨M, G', dom', n'⟩ e1 R e3 e4 e5 C
  change G' = G at e3; change dom' = cdom at e4; change n' = 6 at e5
  subst e3; subst e4; subst e5
  exact t8_tail C R h
set_option maxRecDepth 100000 in
theorem t3_mendWorths_l2b {M : xM} {G : xG} {N : Nat} {o : Nat} (C : xC (M, G, cdom, 3) RX3 cX3_mendWorths none) (R : xR (M, G, cdom, 3) = xrm 1 21) (ho : o < 8) {k2 : Int32 → cS → Option (cS)} (hk2 : ∀ (a1 : Int32) (s : cS) (s1 : cS), k2 a1 s = some s1 → X (M, G, cdom, 3) none (encC G s1) (encC G s) 2 [(0, .ref (G.2.1 2 o)), (1, .int (a1))] []) {a1 : Int32} {s : cS} {s1 : cS} (h : f3_mendWorths_l2b N o k2 a1 s = some s1) : X (M, G, cdom, 3) none (encC G s1) (encC G s) 2 [(0, .ref (G.2.1 2 o)), (1, .int (a1))] [] := by
  unfold f3_mendWorths_l2b at h
  refine x_iload_n (j := 1) C dX3_mendWorths_2 rfl rfl ?_
  refine x_aload_n (j := 0) C dX3_mendWorths_3 rfl rfl ?_
  refine gf3_22 C dX3_mendWorths_4 ho ?_
  refine x_icmp_ge (tgt := 34) C dX3_mendWorths_7 (by decide) (fun c7 => ?_) (fun c7 => ?_)
  · rw [if_pos c7] at h
    cases h
    exact x_vret C dX3_mendWorths_34
  · rw [if_neg c7] at h
    refine x_aload_n (j := 0) C dX3_mendWorths_10 rfl rfl ?_
    refine x_iload_n (j := 1) C dX3_mendWorths_11 rfl rfl ?_
    obtain ⟨⟨r12, s12⟩, e12, h⟩ := Option.bind_eq_some_iff.mp h
    try dsimp only at h
    refine k3_25 C dX3_mendWorths_12 e12 ho (x_room R rfl) (Nat.le_of_ble_eq_true rfl) ?_
    refine x_astore_nq (i := 2) (ls' := [(2, va_rf (Option.map (G.2.1 4) r12)), (0, .ref (G.2.1 2 o)), (1, .int (a1))]) C (Option.map (G.2.1 4) r12) dX3_mendWorths_15 rfl (Nat.le_of_ble_eq_true rfl) rfl ?_
    refine x_aload_nq (j := 0) C (Option.map (G.2.1 4) r12) dX3_mendWorths_16 rfl rfl ?_
    cases r12 with
    | none =>
      try dsimp only at h
      change X (M, G, cdom, 3) _ _ _ 17 [(2, .null), (0, .ref (G.2.1 2 o)), (1, .int (a1))] [.null]
      refine x_ifnullN (tgt := 28) C dX3_mendWorths_17 (by decide) ?_
      refine x_iinc (j := 2) (v := (a1 + 1)) (ls' := [(1, .int ((a1 + 1))), (2, .null), (0, .ref (G.2.1 2 o))]) C dX3_mendWorths_28 rfl rfl (Nat.le_of_ble_eq_true rfl) rfl ?_
      refine x_goto (tgt := 2) C dX3_mendWorths_31 (by decide) ?_
      refine x_sub (ls' := [(0, .ref (G.2.1 2 o)), (1, .int ((a1 + 1)))]) [2, 0] rfl ?_
      exact hk2 _ _ _ h
    | some w17 =>
      try dsimp only at h
      change X (M, G, cdom, 3) _ _ _ 17 [(2, .ref (G.2.1 4 w17)), (0, .ref (G.2.1 2 o)), (1, .int (a1))] [.ref (G.2.1 4 w17)]
      refine x_ifnull C dX3_mendWorths_17 ?_
      refine x_aload_n (j := 0) C dX3_mendWorths_20 rfl rfl ?_
      refine x_aload_n (j := 0) C dX3_mendWorths_21 rfl rfl ?_
      by_cases g22_1 : w17 < 128
      case neg => rw [if_neg g22_1] at h; cases h
      rw [if_pos g22_1] at h
      obtain ⟨⟨r22, s22⟩, e22, h⟩ := Option.bind_eq_some_iff.mp h
      try dsimp only at h
      refine k3_54 C dX3_mendWorths_22 e22 g22_1 (x_room R rfl) (Nat.le_of_ble_eq_true rfl) ?_
      refine pf3_35 C dX3_mendWorths_25 g22_1 ?_
      refine x_iinc (j := 2) (v := (a1 + 1)) (ls' := [(1, .int ((a1 + 1))), (2, .ref (G.2.1 4 w17)), (0, .ref (G.2.1 2 o))]) C dX3_mendWorths_28 rfl rfl (Nat.le_of_ble_eq_true rfl) rfl ?_
      refine x_goto (tgt := 2) C dX3_mendWorths_31 (by decide) ?_
      refine x_sub (ls' := [(0, .ref (G.2.1 2 o)), (1, .int ((a1 + 1)))]) [2, 0] rfl ?_
      exact hk2 _ _ _ h
theorem t3_mendWorths_l2 {M : xM} {G : xG} {N : Nat} {o : Nat} (C : xC (M, G, cdom, 3) RX3 cX3_mendWorths none) (R : xR (M, G, cdom, 3) = xrm 1 21) (ho : o < 8) (n : Nat) : ∀ (a1 : Int32) (s : cS) (s1 : cS), f3_mendWorths_l2 N o n a1 s = some s1 → X (M, G, cdom, 3) none (encC G s1) (encC G s) 2 [(0, .ref (G.2.1 2 o)), (1, .int (a1))] [] := by
  induction n with
  | zero => intro a1 s s1 h; exact (Option.some_ne_none _ (Eq.symm h)).elim
  | succ n ih => intro a1 s s1 h; exact t3_mendWorths_l2b (N := N) (o := o) C R ho (k2 := f3_mendWorths_l2 N o n) ih h
set_option maxRecDepth 100000 in
theorem t3_mendWorths {M : xM} {G : xG} {N : Nat} {o : Nat} (C : xC (M, G, cdom, 3) RX3 cX3_mendWorths none) (R : xR (M, G, cdom, 3) = xrm 1 21) (ho : o < 8) {s : cS} {s1 : cS} (h : f3_mendWorths N o s = some s1) : X (M, G, cdom, 3) none (encC G s1) (encC G s) 0 [(0, .ref (G.2.1 2 o))] [] := by
  unfold f3_mendWorths at h
  refine x_iconst (v := 0) C dX3_mendWorths_0 (by decide) ?_
  refine x_istore_n (i := 1) (ls' := [(1, .int (0)), (0, .ref (G.2.1 2 o))]) C dX3_mendWorths_1 rfl (Nat.le_of_ble_eq_true rfl) rfl ?_
  refine x_sub (ls' := [(0, .ref (G.2.1 2 o)), (1, .int (0))]) [1, 0] rfl ?_
  exact t3_mendWorths_l2 (N := N) (o := o) C R ho N _ _ _ h
theorem c3_mendWorths (l : Launch) (G : xG) {N : Nat} {o : Nat} {s : cS} {s1 : cS} (ho : o < 8) (h : f3_mendWorths N o s = some s1) : xMet l yX3_mendWorths (x_ws yX3_mendWorths cX3_mendWorths 3 none) (xrm 1 21) G cdom [.ref (G.2.1 2 o)] (encC G s) none (encC G s1) := by
  refine xMet.of (by decide +kernel) (Nat.le_of_ble_eq_true rfl) ?_
  rintro ⟨M, G', dom', n'⟩ e1 R e3 e4 e5 C
  change G' = G at e3; change dom' = cdom at e4; change n' = 3 at e5
  subst e3; subst e4; subst e5
  exact t3_mendWorths C R ho h
theorem k8_207 {M : xM} {G : xG} {n : Nat} {rv : Option Value} {E' : xE} {cc : ByteArray} {ret : Option FieldType} {pc : Nat} {ls : List (Nat × Value)} {st : List Value} {N : Nat} {o : Nat} {s s1 : cS} (C : xC (M, G, cdom, n) RX8 cc ret) (d : decode cc pc = .ok (.invokevirtual 207, 3)) (h : f3_mendWorths N o s = some s1) (ho : o < 8) (hR : (xrm 1 21).frames + 1 ≤ (xR (M, G, cdom, n)).frames ∧ 8 + (3 + 11) + (xrm 1 21).locals ≤ (xR (M, G, cdom, n)).locals) (hw : (st.map fun v => v.category).sum ≤ 8) (k : X (M, G, cdom, n) rv E' (encC G s1) (pc + 3) ls (st)) : X (M, G, cdom, n) rv E' (encC G s) pc ls (.ref (G.2.1 2 o) :: st) :=
  x_callVN (As := []) (n := 0) C d (c3_mendWorths (xl (M, G, cdom, n)) G ho h) lk572 lk574 lk34 lk84 lk575 ⟨rfl, rfl⟩ ⟨by decide +kernel, by decide +kernel, by decide +kernel⟩ rfl hR (decide_eq_true ho) rfl rfl rfl hw k
set_option maxRecDepth 100000 in
theorem t8_mend_b47 {M : xM} {G : xG} {N : Nat} {p1 : Int32} (C : xC (M, G, cdom, 4) RX8 cX8_mend (some .boolean)) (R : xR (M, G, cdom, 4) = xrm 3 68) {a2 : Nat} {s : cS} {r : Int32} {s1 : cS} (h : f8_mend_b47 N p1 a2 s = some (r, s1)) : X (M, G, cdom, 4) (some (.int r)) (encC G s1) (encC G s) 47 [(2, .ref (G.2.1 2 a2))] [] := by
  unfold f8_mend_b47 at h
  refine x_aload_n (j := 0) C dX8_mend_47 rfl rfl ?_
  by_cases g48_1 : a2 < 8
  case neg => rw [if_neg g48_1] at h; cases h
  rw [if_pos g48_1] at h
  obtain ⟨s48, e48, h⟩ := Option.bind_eq_some_iff.mp h
  try dsimp only at h
  refine k8_207 C dX8_mend_48 e48 g48_1 (x_room R rfl) (Nat.le_of_ble_eq_true rfl) ?_
  refine x_iconst (v := 1) C dX8_mend_51 (by decide) ?_
  cases h
  exact x_zret C dX8_mend_52 rfl
set_option maxRecDepth 100000 in
theorem t8_mend {M : xM} {G : xG} {N : Nat} {p1 : Int32} (C : xC (M, G, cdom, 4) RX8 cX8_mend (some .boolean)) (R : xR (M, G, cdom, 4) = xrm 3 68) {s : cS} {r : Int32} {s1 : cS} (h : f8_mend N p1 s = some (r, s1)) : X (M, G, cdom, 4) (some (.int r)) (encC G s1) (encC G s) 0 [(0, .ref (G.2.1 0 0)), (1, .int (p1))] [] := by
  unfold f8_mend at h
  refine x_aload_n (j := 0) C dX8_mend_0 rfl rfl ?_
  refine x_iload_n (j := 1) C dX8_mend_1 rfl rfl ?_
  obtain ⟨⟨r2, s2⟩, e2, h⟩ := Option.bind_eq_some_iff.mp h
  try dsimp only at h
  refine k8_83 C dX8_mend_2 e2 (x_room R rfl) (Nat.le_of_ble_eq_true rfl) ?_
  refine x_astore_nq (i := 2) (ls' := [(2, va_rf (Option.map (G.2.1 2) r2)), (0, .ref (G.2.1 0 0)), (1, .int (p1))]) C (Option.map (G.2.1 2) r2) dX8_mend_5 rfl (Nat.le_of_ble_eq_true rfl) rfl ?_
  refine x_aload_n (j := 1) C dX8_mend_6 rfl rfl ?_
  refine x_aload_nq (j := 0) C (Option.map (G.2.1 2) r2) dX8_mend_7 rfl rfl ?_
  obtain ⟨⟨r8, s8⟩, e8, h⟩ := Option.bind_eq_some_iff.mp h
  try dsimp only at h
  refine k8_194 C dX8_mend_8 e8 (x_room R rfl) (Nat.le_of_ble_eq_true rfl) ?_
  refine pf8_66 C dX8_mend_11 ?_
  refine x_aload_nq (j := 0) C (Option.map (G.2.1 2) r2) dX8_mend_14 rfl rfl ?_
  cases r2 with
  | none =>
    try dsimp only at h
    change X (M, G, cdom, 4) _ _ _ 15 [(2, .null), (0, .ref (G.2.1 0 0)), (1, .int (p1))] [.null]
    refine x_ifnullN (tgt := 25) C dX8_mend_15 (by decide) ?_
    refine x_iconst (v := 0) C dX8_mend_25 (by decide) ?_
    cases h
    exact x_zret C dX8_mend_26 rfl
  | some w15 =>
    try dsimp only at h
    change X (M, G, cdom, 4) _ _ _ 15 [(2, .ref (G.2.1 2 w15)), (0, .ref (G.2.1 0 0)), (1, .int (p1))] [.ref (G.2.1 2 w15)]
    refine x_ifnull C dX8_mend_15 ?_
    refine x_aload_n (j := 1) C dX8_mend_18 rfl rfl ?_
    refine gf8_66 C dX8_mend_19 ?_
    refine x_if_eq (tgt := 27) C dX8_mend_22 (by decide) (fun c22 => ?_) (fun c22 => ?_)
    · rw [if_pos c22] at h
      refine x_aload_n (j := 1) C dX8_mend_27 rfl rfl ?_
      refine x_iconst (v := 5) C dX8_mend_28 (by decide) ?_
      refine x_iload_n (j := 2) C dX8_mend_29 rfl rfl ?_
      refine x_iconst (v := (-1)) C dX8_mend_30 (by decide) ?_
      obtain ⟨⟨r31, s31⟩, e31, h⟩ := Option.bind_eq_some_iff.mp h
      try dsimp only at h
      refine k8_74 C dX8_mend_31 e31 (x_room R rfl) (Nat.le_of_ble_eq_true rfl) ?_
      refine x_astore_nq (i := 3) (ls' := [(3, va_rf (Option.map (G.2.1 21) r31)), (2, .ref (G.2.1 2 w15)), (0, .ref (G.2.1 0 0)), (1, .int (p1))]) C (Option.map (G.2.1 21) r31) dX8_mend_34 rfl (Nat.le_of_ble_eq_true rfl) rfl ?_
      refine x_aload_nq (j := 0) C (Option.map (G.2.1 21) r31) dX8_mend_35 rfl rfl ?_
      cases r31 with
      | none =>
        try dsimp only at h
        change X (M, G, cdom, 4) _ _ _ 36 [(3, .null), (2, .ref (G.2.1 2 w15)), (0, .ref (G.2.1 0 0)), (1, .int (p1))] [.null]
        refine x_ifnullN (tgt := 47) C dX8_mend_36 (by decide) ?_
        refine x_sub (ls' := [(2, .ref (G.2.1 2 w15))]) [1] rfl ?_
        exact t8_mend_b47 (N := N) (p1 := p1) C R h
      | some w36 =>
        try dsimp only at h
        change X (M, G, cdom, 4) _ _ _ 36 [(3, .ref (G.2.1 21 w36)), (2, .ref (G.2.1 2 w15)), (0, .ref (G.2.1 0 0)), (1, .int (p1))] [.ref (G.2.1 21 w36)]
        refine x_ifnull C dX8_mend_36 ?_
        refine x_aload_n (j := 1) C dX8_mend_39 rfl rfl ?_
        refine x_aload_n (j := 0) C dX8_mend_40 rfl rfl ?_
        by_cases g41_1 : w36 < 60
        case neg => rw [if_neg g41_1] at h; cases h
        rw [if_pos g41_1] at h
        refine gf8_98 C dX8_mend_41 g41_1 ?_
        by_cases g44_2 : w15 < 8
        case neg => rw [if_neg g44_2] at h; cases h
        rw [if_pos g44_2] at h
        obtain ⟨s44, e44, h⟩ := Option.bind_eq_some_iff.mp h
        try dsimp only at h
        refine k8_101 C dX8_mend_44 e44 g44_2 (x_room R rfl) (Nat.le_of_ble_eq_true rfl) ?_
        refine x_sub (ls' := [(2, .ref (G.2.1 2 w15))]) [1] rfl ?_
        exact t8_mend_b47 (N := N) (p1 := p1) C R h
    · rw [if_neg c22] at h
      refine x_iconst (v := 0) C dX8_mend_25 (by decide) ?_
      cases h
      exact x_zret C dX8_mend_26 rfl
theorem c8_mend (l : Launch) (G : xG) {N : Nat} {p1 : Int32} {s : cS} {r : Int32} {s1 : cS} (h : f8_mend N p1 s = some (r, s1)) : xMet l yX8_mend (x_ws yX8_mend cX8_mend 4 (some .boolean)) (xrm 3 68) G cdom [.ref (G.2.1 0 0), .int (p1)] (encC G s) (some (.int r)) (encC G s1) := by
  refine xMet.of (by decide +kernel) (Nat.le_of_ble_eq_true rfl) ?_
  rintro ⟨M, G', dom', n'⟩ e1 R e3 e4 e5 C
  change G' = G at e3; change dom' = cdom at e4; change n' = 4 at e5
  subst e3; subst e4; subst e5
  exact t8_mend C R h
set_option maxRecDepth 100000 in
theorem t8_count_l82b {M : xM} {G : xG} {N : Nat} {p1 : Int32} {p2 : Int32} {p3 : Int32} {p4 : Int32} {p5 : Int32} (C : xC (M, G, cdom, 11) RX8 cX8_count (some .int)) (R : xR (M, G, cdom, 11) = xrm 3 66) {k82 : Nat → Int32 → Int64 → cS → Option (Int32 × cS)} (hk82 : ∀ (a6 : Nat) (a8 : Int32) (a9 : Int64) (s : cS) (r : Int32) (s1 : cS), k82 a6 a8 a9 s = some (r, s1) → X (M, G, cdom, 11) (some (.int r)) (encC G s1) (encC G s) 82 [(3, .int (p3)), (4, .int (p4)), (5, .int (p5)), (6, .ref (G.2.1 2 a6)), (8, .int (a8)), (9, .long (a9))] []) {a6 : Nat} {a8 : Int32} {a9 : Int64} {s : cS} {r : Int32} {s1 : cS} (h : f8_count_l82b N p1 p2 p3 p4 p5 k82 a6 a8 a9 s = some (r, s1)) : X (M, G, cdom, 11) (some (.int r)) (encC G s1) (encC G s) 82 [(3, .int (p3)), (4, .int (p4)), (5, .int (p5)), (6, .ref (G.2.1 2 a6)), (8, .int (a8)), (9, .long (a9))] [] := by
  unfold f8_count_l82b at h
  refine x_lload (j := 5) C dX8_count_82 rfl ?_
  refine x_iload_n (j := 0) C dX8_count_84 rfl rfl ?_
  refine x_i2l C dX8_count_85 ?_
  refine x_lcmp C dX8_count_86 ?_
  refine x_if_gt (tgt := 117) C dX8_count_87 (by decide) (fun c87 => ?_) (fun c87 => ?_)
  · rw [if_pos c87] at h
    refine x_iload (j := 4) C dX8_count_117 rfl ?_
    cases h
    exact x_iret C dX8_count_119
  · rw [if_neg c87] at h
    refine x_aload (j := 3) C dX8_count_90 rfl ?_
    refine x_lload (j := 5) C dX8_count_92 rfl ?_
    refine x_l2i C dX8_count_94 ?_
    by_cases g95_1 : a6 < 8
    case neg => rw [if_neg g95_1] at h; cases h
    rw [if_pos g95_1] at h
    obtain ⟨⟨r95, s95⟩, e95, h⟩ := Option.bind_eq_some_iff.mp h
    try dsimp only at h
    refine k8_139 C dX8_count_95 e95 g95_1 (x_room R rfl) (Nat.le_of_ble_eq_true rfl) ?_
    refine x_iload (j := 2) C dX8_count_98 rfl ?_
    refine x_icmp_ne (tgt := 106) C dX8_count_100 (by decide) (fun c100 => ?_) (fun c100 => ?_)
    · rw [if_neg c100] at h
      refine x_lload (j := 5) C dX8_count_106 rfl ?_
      refine x_iload (j := 1) C dX8_count_108 rfl ?_
      refine x_i2l C dX8_count_110 ?_
      refine x_ladd C dX8_count_111 ?_
      refine x_lstore (i := 9) (ls' := [(9, .long ((a9 + p4.toInt64))), (3, .int (p3)), (4, .int (p4)), (5, .int (p5)), (6, .ref (G.2.1 2 a6)), (8, .int (a8))]) C dX8_count_112 (Nat.le_of_ble_eq_true rfl) rfl ?_
      refine x_goto (tgt := 82) C dX8_count_114 (by decide) ?_
      refine x_sub (ls' := [(3, .int (p3)), (4, .int (p4)), (5, .int (p5)), (6, .ref (G.2.1 2 a6)), (8, .int (a8)), (9, .long ((a9 + p4.toInt64)))]) [1, 2, 3, 4, 5, 0] rfl ?_
      exact hk82 _ _ _ _ _ _ h
    · rw [if_pos c100] at h
      refine x_iinc (j := 4) (v := (a8 + 1)) (ls' := [(8, .int ((a8 + 1))), (3, .int (p3)), (4, .int (p4)), (5, .int (p5)), (6, .ref (G.2.1 2 a6)), (9, .long (a9))]) C dX8_count_103 rfl rfl (Nat.le_of_ble_eq_true rfl) rfl ?_
      refine x_lload (j := 5) C dX8_count_106 rfl ?_
      refine x_iload (j := 2) C dX8_count_108 rfl ?_
      refine x_i2l C dX8_count_110 ?_
      refine x_ladd C dX8_count_111 ?_
      refine x_lstore (i := 9) (ls' := [(9, .long ((a9 + p4.toInt64))), (8, .int ((a8 + 1))), (3, .int (p3)), (4, .int (p4)), (5, .int (p5)), (6, .ref (G.2.1 2 a6))]) C dX8_count_112 (Nat.le_of_ble_eq_true rfl) rfl ?_
      refine x_goto (tgt := 82) C dX8_count_114 (by decide) ?_
      refine x_sub (ls' := [(3, .int (p3)), (4, .int (p4)), (5, .int (p5)), (6, .ref (G.2.1 2 a6)), (8, .int ((a8 + 1))), (9, .long ((a9 + p4.toInt64)))]) [2, 3, 4, 5, 1, 0] rfl ?_
      exact hk82 _ _ _ _ _ _ h
theorem t8_count_l82 {M : xM} {G : xG} {N : Nat} {p1 : Int32} {p2 : Int32} {p3 : Int32} {p4 : Int32} {p5 : Int32} (C : xC (M, G, cdom, 11) RX8 cX8_count (some .int)) (R : xR (M, G, cdom, 11) = xrm 3 66) (n : Nat) : ∀ (a6 : Nat) (a8 : Int32) (a9 : Int64) (s : cS) (r : Int32) (s1 : cS), f8_count_l82 N p1 p2 p3 p4 p5 n a6 a8 a9 s = some (r, s1) → X (M, G, cdom, 11) (some (.int r)) (encC G s1) (encC G s) 82 [(3, .int (p3)), (4, .int (p4)), (5, .int (p5)), (6, .ref (G.2.1 2 a6)), (8, .int (a8)), (9, .long (a9))] [] := by
  induction n with
  | zero => intro a6 a8 a9 s r s1 h; exact (Option.some_ne_none _ (Eq.symm h)).elim
  | succ n ih => intro a6 a8 a9 s r s1 h; exact t8_count_l82b (N := N) (p1 := p1) (p2 := p2) (p3 := p3) (p4 := p4) (p5 := p5) C R (k82 := f8_count_l82 N p1 p2 p3 p4 p5 n) ih h
set_option maxRecDepth 100000 in
theorem t8_count_b58 {M : xM} {G : xG} {N : Nat} {p1 : Int32} {p2 : Int32} {p3 : Int32} {p4 : Int32} {p5 : Int32} (C : xC (M, G, cdom, 11) RX8 cX8_count (some .int)) (R : xR (M, G, cdom, 11) = xrm 3 66) {a6 : Option Nat} {b0 : Int32} {s : cS} {r : Int32} {s1 : cS} (h : f8_count_b58 N p1 p2 p3 p4 p5 a6 b0 s = some (r, s1)) : X (M, G, cdom, 11) (some (.int r)) (encC G s1) (encC G s) 58 [(0, .ref (G.2.1 0 0)), (2, .int (p2)), (3, .int (p3)), (4, .int (p4)), (5, .int (p5)), (6, va_rf (Option.map (G.2.1 2) a6))] [.int (b0), .ref (G.2.1 0 0)] := by
  unfold f8_count_b58 at h
  refine pf8_66 C dX8_count_58 ?_
  refine x_aloadq (j := 5) C (Option.map (G.2.1 2) a6) dX8_count_61 rfl ?_
  cases a6 with
  | none =>
    try dsimp only at h
    change X (M, G, cdom, 11) _ _ _ 63 [(0, .ref (G.2.1 0 0)), (2, .int (p2)), (3, .int (p3)), (4, .int (p4)), (5, .int (p5)), (6, .null)] [.null]
    refine x_ifnullN (tgt := 73) C dX8_count_63 (by decide) ?_
    refine x_iconst (v := (-1)) C dX8_count_73 (by decide) ?_
    cases h
    exact x_iret C dX8_count_74
  | some w63 =>
    try dsimp only at h
    change X (M, G, cdom, 11) _ _ _ 63 [(0, .ref (G.2.1 0 0)), (2, .int (p2)), (3, .int (p3)), (4, .int (p4)), (5, .int (p5)), (6, .ref (G.2.1 2 w63))] [.ref (G.2.1 2 w63)]
    refine x_ifnull C dX8_count_63 ?_
    refine x_aload_n (j := 0) C dX8_count_66 rfl rfl ?_
    refine gf8_66 C dX8_count_67 ?_
    refine x_if_eq (tgt := 75) C dX8_count_70 (by decide) (fun c70 => ?_) (fun c70 => ?_)
    · rw [if_pos c70] at h
      refine x_iconst (v := 0) C dX8_count_75 (by decide) ?_
      refine x_istore (i := 8) (ls' := [(8, .int (0)), (0, .ref (G.2.1 0 0)), (2, .int (p2)), (3, .int (p3)), (4, .int (p4)), (5, .int (p5)), (6, .ref (G.2.1 2 w63))]) C dX8_count_76 (Nat.le_of_ble_eq_true rfl) rfl ?_
      refine x_iload_n (j := 2) C dX8_count_78 rfl rfl ?_
      refine x_i2l C dX8_count_79 ?_
      refine x_lstore (i := 9) (ls' := [(9, .long (p2.toInt64)), (8, .int (0)), (0, .ref (G.2.1 0 0)), (2, .int (p2)), (3, .int (p3)), (4, .int (p4)), (5, .int (p5)), (6, .ref (G.2.1 2 w63))]) C dX8_count_80 (Nat.le_of_ble_eq_true rfl) rfl ?_
      refine x_sub (ls' := [(3, .int (p3)), (4, .int (p4)), (5, .int (p5)), (6, .ref (G.2.1 2 w63)), (8, .int (0)), (9, .long (p2.toInt64))]) [4, 5, 6, 7, 1, 0] rfl ?_
      exact t8_count_l82 (N := N) (p1 := p1) (p2 := p2) (p3 := p3) (p4 := p4) (p5 := p5) C R N _ _ _ _ _ _ h
    · rw [if_neg c70] at h
      refine x_iconst (v := (-1)) C dX8_count_73 (by decide) ?_
      cases h
      exact x_iret C dX8_count_74
set_option maxRecDepth 100000 in
theorem t8_count_b36 {M : xM} {G : xG} {N : Nat} {p1 : Int32} {p2 : Int32} {p3 : Int32} {p4 : Int32} {p5 : Int32} (C : xC (M, G, cdom, 11) RX8 cX8_count (some .int)) (R : xR (M, G, cdom, 11) = xrm 3 66) {a6 : Option Nat} {b0 : Int32} {s : cS} {r : Int32} {s1 : cS} (h : f8_count_b36 N p1 p2 p3 p4 p5 a6 b0 s = some (r, s1)) : X (M, G, cdom, 11) (some (.int r)) (encC G s1) (encC G s) 36 [(0, .ref (G.2.1 0 0)), (2, .int (p2)), (3, .int (p3)), (4, .int (p4)), (5, .int (p5)), (6, va_rf (Option.map (G.2.1 2) a6))] [.int (b0)] := by
  unfold f8_count_b36 at h
  refine x_istore (i := 7) (ls' := [(7, .int (b0)), (0, .ref (G.2.1 0 0)), (2, .int (p2)), (3, .int (p3)), (4, .int (p4)), (5, .int (p5)), (6, va_rf (Option.map (G.2.1 2) a6))]) C dX8_count_36 (Nat.le_of_ble_eq_true rfl) (by first | (simp [va_cat]; done) | (simp [va_cat, Value.category]; done)) ?_
  refine x_aload_n (j := 1) C dX8_count_38 rfl rfl ?_
  refine x_aloadq (j := 6) C (Option.map (G.2.1 2) a6) dX8_count_39 rfl ?_
  cases a6 with
  | none =>
    try dsimp only at h
    change X (M, G, cdom, 11) _ _ _ 41 [(7, .int (b0)), (0, .ref (G.2.1 0 0)), (2, .int (p2)), (3, .int (p3)), (4, .int (p4)), (5, .int (p5)), (6, .null)] [.null, .ref (G.2.1 0 0)]
    refine x_ifnonnullN C dX8_count_41 ?_
    refine x_iconst (v := 2) C dX8_count_44 (by decide) ?_
    refine x_goto (tgt := 58) C dX8_count_45 (by decide) ?_
    refine x_sub (ls' := [(0, .ref (G.2.1 0 0)), (2, .int (p2)), (3, .int (p3)), (4, .int (p4)), (5, .int (p5)), (6, .null)]) [1, 2, 3, 4, 5, 6] rfl ?_
    exact t8_count_b58 (N := N) (p1 := p1) (p2 := p2) (p3 := p3) (p4 := p4) (p5 := p5) C R (a6 := none) h
  | some w41 =>
    try dsimp only at h
    change X (M, G, cdom, 11) _ _ _ 41 [(7, .int (b0)), (0, .ref (G.2.1 0 0)), (2, .int (p2)), (3, .int (p3)), (4, .int (p4)), (5, .int (p5)), (6, .ref (G.2.1 2 w41))] [.ref (G.2.1 2 w41), .ref (G.2.1 0 0)]
    refine x_ifnonnull (tgt := 48) C dX8_count_41 (by decide) ?_
    refine x_iload (j := 0) C dX8_count_48 rfl ?_
    refine x_if_eq (tgt := 57) C dX8_count_50 (by decide) (fun c50 => ?_) (fun c50 => ?_)
    · rw [if_pos c50] at h
      refine x_iconst (v := 1) C dX8_count_57 (by decide) ?_
      refine x_sub (ls' := [(0, .ref (G.2.1 0 0)), (2, .int (p2)), (3, .int (p3)), (4, .int (p4)), (5, .int (p5)), (6, .ref (G.2.1 2 w41))]) [1, 2, 3, 4, 5, 6] rfl ?_
      exact t8_count_b58 (N := N) (p1 := p1) (p2 := p2) (p3 := p3) (p4 := p4) (p5 := p5) C R (a6 := (some w41)) h
    · rw [if_neg c50] at h
      refine x_iconst (v := 0) C dX8_count_53 (by decide) ?_
      refine x_goto (tgt := 58) C dX8_count_54 (by decide) ?_
      refine x_sub (ls' := [(0, .ref (G.2.1 0 0)), (2, .int (p2)), (3, .int (p3)), (4, .int (p4)), (5, .int (p5)), (6, .ref (G.2.1 2 w41))]) [1, 2, 3, 4, 5, 6] rfl ?_
      exact t8_count_b58 (N := N) (p1 := p1) (p2 := p2) (p3 := p3) (p4 := p4) (p5 := p5) C R (a6 := (some w41)) h
set_option maxRecDepth 100000 in
theorem t8_count {M : xM} {G : xG} {N : Nat} {p1 : Int32} {p2 : Int32} {p3 : Int32} {p4 : Int32} {p5 : Int32} (C : xC (M, G, cdom, 11) RX8 cX8_count (some .int)) (R : xR (M, G, cdom, 11) = xrm 3 66) {s : cS} {r : Int32} {s1 : cS} (h : f8_count N p1 p2 p3 p4 p5 s = some (r, s1)) : X (M, G, cdom, 11) (some (.int r)) (encC G s1) (encC G s) 0 [(0, .ref (G.2.1 0 0)), (1, .int (p1)), (2, .int (p2)), (3, .int (p3)), (4, .int (p4)), (5, .int (p5))] [] := by
  unfold f8_count at h
  refine x_aload_n (j := 0) C dX8_count_0 rfl rfl ?_
  refine x_iload_n (j := 1) C dX8_count_1 rfl rfl ?_
  obtain ⟨⟨r2, s2⟩, e2, h⟩ := Option.bind_eq_some_iff.mp h
  try dsimp only at h
  refine k8_83 C dX8_count_2 e2 (x_room R rfl) (Nat.le_of_ble_eq_true rfl) ?_
  refine x_astoreq (i := 6) (ls' := [(6, va_rf (Option.map (G.2.1 2) r2)), (0, .ref (G.2.1 0 0)), (1, .int (p1)), (2, .int (p2)), (3, .int (p3)), (4, .int (p4)), (5, .int (p5))]) C (Option.map (G.2.1 2) r2) dX8_count_5 (Nat.le_of_ble_eq_true rfl) rfl ?_
  refine x_iconst (v := 0) C dX8_count_7 (by decide) ?_
  refine x_iload_n (j := 3) C dX8_count_8 rfl rfl ?_
  refine x_icmp_gt (tgt := 35) C dX8_count_9 (by decide) (fun c9 => ?_) (fun c9 => ?_)
  · rw [if_pos c9] at h
    refine x_iconst (v := 0) C dX8_count_35 (by decide) ?_
    refine x_sub (ls' := [(0, .ref (G.2.1 0 0)), (2, .int (p2)), (3, .int (p3)), (4, .int (p4)), (5, .int (p5)), (6, va_rf (Option.map (G.2.1 2) r2))]) [1, 3, 4, 5, 6, 0] rfl ?_
    exact t8_count_b36 (N := N) (p1 := p1) (p2 := p2) (p3 := p3) (p4 := p4) (p5 := p5) C R (a6 := r2) h
  · rw [if_neg c9] at h
    refine x_iload_n (j := 3) C dX8_count_12 rfl rfl ?_
    refine x_iload_n (j := 4) C dX8_count_13 rfl rfl ?_
    refine x_icmp_gt (tgt := 35) C dX8_count_14 (by decide) (fun c14 => ?_) (fun c14 => ?_)
    · rw [if_pos c14] at h
      refine x_iconst (v := 0) C dX8_count_35 (by decide) ?_
      refine x_sub (ls' := [(0, .ref (G.2.1 0 0)), (2, .int (p2)), (3, .int (p3)), (4, .int (p4)), (5, .int (p5)), (6, va_rf (Option.map (G.2.1 2) r2))]) [1, 3, 4, 5, 6, 0] rfl ?_
      exact t8_count_b36 (N := N) (p1 := p1) (p2 := p2) (p3 := p3) (p4 := p4) (p5 := p5) C R (a6 := r2) h
    · rw [if_neg c14] at h
      refine x_iload_n (j := 4) C dX8_count_17 rfl rfl ?_
      refine x_aload_n (j := 1) C dX8_count_18 rfl rfl ?_
      refine gf8_56 C dX8_count_19 ?_
      refine x_icmp_gt (tgt := 35) C dX8_count_22 (by decide) (fun c22 => ?_) (fun c22 => ?_)
      · rw [if_pos c22] at h
        refine x_iconst (v := 0) C dX8_count_35 (by decide) ?_
        refine x_sub (ls' := [(0, .ref (G.2.1 0 0)), (2, .int (p2)), (3, .int (p3)), (4, .int (p4)), (5, .int (p5)), (6, va_rf (Option.map (G.2.1 2) r2))]) [1, 3, 4, 5, 6, 0] rfl ?_
        exact t8_count_b36 (N := N) (p1 := p1) (p2 := p2) (p3 := p3) (p4 := p4) (p5 := p5) C R (a6 := r2) h
      · rw [if_neg c22] at h
        refine x_iload (j := 5) C dX8_count_25 rfl ?_
        refine x_iconst (v := 1) C dX8_count_27 (by decide) ?_
        refine x_icmp_lt (tgt := 35) C dX8_count_28 (by decide) (fun c28 => ?_) (fun c28 => ?_)
        · rw [if_pos c28] at h
          refine x_iconst (v := 0) C dX8_count_35 (by decide) ?_
          refine x_sub (ls' := [(0, .ref (G.2.1 0 0)), (2, .int (p2)), (3, .int (p3)), (4, .int (p4)), (5, .int (p5)), (6, va_rf (Option.map (G.2.1 2) r2))]) [1, 3, 4, 5, 6, 0] rfl ?_
          exact t8_count_b36 (N := N) (p1 := p1) (p2 := p2) (p3 := p3) (p4 := p4) (p5 := p5) C R (a6 := r2) h
        · rw [if_neg c28] at h
          refine x_iconst (v := 1) C dX8_count_31 (by decide) ?_
          refine x_goto (tgt := 36) C dX8_count_32 (by decide) ?_
          refine x_sub (ls' := [(0, .ref (G.2.1 0 0)), (2, .int (p2)), (3, .int (p3)), (4, .int (p4)), (5, .int (p5)), (6, va_rf (Option.map (G.2.1 2) r2))]) [1, 3, 4, 5, 6, 0] rfl ?_
          exact t8_count_b36 (N := N) (p1 := p1) (p2 := p2) (p3 := p3) (p4 := p4) (p5 := p5) C R (a6 := r2) h
theorem c8_count (l : Launch) (G : xG) {N : Nat} {p1 : Int32} {p2 : Int32} {p3 : Int32} {p4 : Int32} {p5 : Int32} {s : cS} {r : Int32} {s1 : cS} (h : f8_count N p1 p2 p3 p4 p5 s = some (r, s1)) : xMet l yX8_count (x_ws yX8_count cX8_count 11 (some .int)) (xrm 3 66) G cdom [.ref (G.2.1 0 0), .int (p1), .int (p2), .int (p3), .int (p4), .int (p5)] (encC G s) (some (.int r)) (encC G s1) := by
  refine xMet.of (by decide +kernel) (Nat.le_of_ble_eq_true rfl) ?_
  rintro ⟨M, G', dom', n'⟩ e1 R e3 e4 e5 C
  change G' = G at e3; change dom' = cdom at e4; change n' = 11 at e5
  subst e3; subst e4; subst e5
  exact t8_count C R h
set_option maxRecDepth 100000 in
theorem t4_addSum {M : xM} {G : xG} {N : Nat} {p1 : Int32} {p2 : Int32} (C : xC (M, G, cdom, 3) RX4 cX4_addSum none) (R : xR (M, G, cdom, 3) = xrm 0 0) {s : cS} {s1 : cS} (h : f4_addSum N p1 p2 s = some s1) : X (M, G, cdom, 3) none (encC G s1) (encC G s) 0 [(0, .ref (G.2.1 8 0)), (1, .int (p1)), (2, .int (p2))] [] := by
  unfold f4_addSum at h
  refine x_aload_n (j := 0) C dX4_addSum_0 rfl rfl ?_
  refine gf4_18 C dX4_addSum_1 ?_
  refine x_if_lt (tgt := 31) C dX4_addSum_4 (by decide) (fun c4 => ?_) (fun c4 => ?_)
  · rw [if_pos c4] at h
    cases h
    exact x_vret C dX4_addSum_31
  · rw [if_neg c4] at h
    refine x_aload_n (j := 0) C dX4_addSum_7 rfl rfl ?_
    refine gf4_18 C dX4_addSum_8 ?_
    refine x_aload_n (j := 0) C dX4_addSum_11 rfl rfl ?_
    refine gf4_9 C dX4_addSum_12 ?_
    refine cal9 C dX4_addSum_15 ?_
    refine x_icmp_ge (tgt := 31) C dX4_addSum_16 (by decide) (fun c16 => ?_) (fun c16 => ?_)
    · rw [if_pos c16] at h
      cases h
      exact x_vret C dX4_addSum_31
    · rw [if_neg c16] at h
      refine x_aload_n (j := 0) C dX4_addSum_19 rfl rfl ?_
      refine gf4_18 C dX4_addSum_20 ?_
      refine x_aload_n (j := 0) C dX4_addSum_23 rfl rfl ?_
      refine gf4_15 C dX4_addSum_24 ?_
      refine cal10 C dX4_addSum_27 ?_
      refine x_icmp_lt (tgt := 32) C dX4_addSum_28 (by decide) (fun c28 => ?_) (fun c28 => ?_)
      · rw [if_pos c28] at h
        refine x_aload_n (j := 0) C dX4_addSum_32 rfl rfl ?_
        refine gf4_9 C dX4_addSum_33 ?_
        refine x_aload_n (j := 0) C dX4_addSum_36 rfl rfl ?_
        refine gf4_18 C dX4_addSum_37 ?_
        refine x_iload_n (j := 1) C dX4_addSum_40 rfl rfl ?_
        by_cases g41_1 : inB (s.1 16 0) 8 = true
        case neg => rw [if_neg g41_1] at h; cases h
        rw [if_pos g41_1] at h
        refine cst9 C dX4_addSum_41 g41_1 ?_
        refine x_aload_n (j := 0) C dX4_addSum_42 rfl rfl ?_
        refine gf4_15 C dX4_addSum_43 ?_
        refine x_aload_n (j := 0) C dX4_addSum_46 rfl rfl ?_
        refine gf4_18 C dX4_addSum_47 ?_
        refine x_iload_n (j := 2) C dX4_addSum_50 rfl rfl ?_
        by_cases g51_2 : inB ((cu s 17 ((s.1 16 0).toNatClampNeg) p1).1 16 0) 8 = true
        case neg => rw [if_neg g51_2] at h; cases h
        rw [if_pos g51_2] at h
        refine cst10 C dX4_addSum_51 g51_2 ?_
        refine x_aload_n (j := 0) C dX4_addSum_52 rfl rfl ?_
        refine x_dup C dX4_addSum_53 rfl ?_
        refine gf4_18 C dX4_addSum_54 ?_
        refine x_iconst (v := 1) C dX4_addSum_57 (by decide) ?_
        refine x_iadd C dX4_addSum_58 ?_
        refine pf4_18 C dX4_addSum_59 ?_
        cases h
        exact x_vret C dX4_addSum_62
      · rw [if_neg c28] at h
        cases h
        exact x_vret C dX4_addSum_31
theorem c4_addSum (l : Launch) (G : xG) {N : Nat} {p1 : Int32} {p2 : Int32} {s : cS} {s1 : cS} (h : f4_addSum N p1 p2 s = some s1) : xMet l yX4_addSum (x_ws yX4_addSum cX4_addSum 3 none) (xrm 0 0) G cdom [.ref (G.2.1 8 0), .int (p1), .int (p2)] (encC G s) none (encC G s1) := by
  refine xMet.of (by decide +kernel) (Nat.le_of_ble_eq_true rfl) ?_
  rintro ⟨M, G', dom', n'⟩ e1 R e3 e4 e5 C
  change G' = G at e3; change dom' = cdom at e4; change n' = 3 at e5
  subst e3; subst e4; subst e5
  exact t4_addSum C R h
theorem k8_213 {M : xM} {G : xG} {n : Nat} {rv : Option Value} {E' : xE} {cc : ByteArray} {ret : Option FieldType} {pc : Nat} {ls : List (Nat × Value)} {st : List Value} {N : Nat} {p1 : Int32} {p2 : Int32} {s s1 : cS} (C : xC (M, G, cdom, n) RX8 cc ret) (d : decode cc pc = .ok (.invokevirtual 213, 3)) (h : f4_addSum N p1 p2 s = some s1) (hR : (xrm 0 0).frames + 1 ≤ (xR (M, G, cdom, n)).frames ∧ 8 + (3 + 11) + (xrm 0 0).locals ≤ (xR (M, G, cdom, n)).locals) (hw : (st.map fun v => v.category).sum ≤ 8) (k : X (M, G, cdom, n) rv E' (encC G s1) (pc + 3) ls (st)) : X (M, G, cdom, n) rv E' (encC G s) pc ls (.int (p2) :: .int (p1) :: .ref (G.2.1 8 0) :: st) :=
  x_callVN (As := [.int (p1), .int (p2)]) (n := 2) C d (c4_addSum (xl (M, G, cdom, n)) G h) lk584 lk586 lk35 lk80 lk587 ⟨rfl, rfl⟩ ⟨by decide +kernel, by decide +kernel, by decide +kernel⟩ rfl hR rfl rfl rfl rfl hw k
set_option maxRecDepth 100000 in
theorem t8_noise_b53 {M : xM} {G : xG} {N : Nat} {p1 : Int32} {p2 : Int32} (C : xC (M, G, cdom, 4) RX8 cX8_noise (some .int)) (R : xR (M, G, cdom, 4) = xrm 1 22) {b0 : Int32} {s : cS} {r : Int32} {s1 : cS} (h : f8_noise_b53 N p1 p2 b0 s = some (r, s1)) : X (M, G, cdom, 4) (some (.int r)) (encC G s1) (encC G s) 53 [(0, .ref (G.2.1 0 0)), (1, .int (p1)), (2, .int (p2))] [.int (b0), .ref (G.2.1 0 0)] := by
  unfold f8_noise_b53 at h
  refine pf8_66 C dX8_noise_53 ?_
  refine x_aload_n (j := 0) C dX8_noise_56 rfl rfl ?_
  refine gf8_66 C dX8_noise_57 ?_
  refine x_if_eq (tgt := 65) C dX8_noise_60 (by decide) (fun c60 => ?_) (fun c60 => ?_)
  · rw [if_pos c60] at h
    refine x_aload_n (j := 0) C dX8_noise_65 rfl rfl ?_
    refine gf8_25 C dX8_noise_66 ?_
    refine x_iload_n (j := 1) C dX8_noise_69 rfl rfl ?_
    refine x_iload_n (j := 2) C dX8_noise_70 rfl rfl ?_
    obtain ⟨s71, e71, h⟩ := Option.bind_eq_some_iff.mp h
    try dsimp only at h
    refine k8_213 C dX8_noise_71 e71 (x_room R rfl) (Nat.le_of_ble_eq_true rfl) ?_
    refine x_aload_n (j := 0) C dX8_noise_74 rfl rfl ?_
    refine gf8_25 C dX8_noise_75 ?_
    refine gf8_210 C dX8_noise_78 ?_
    cases h
    exact x_iret C dX8_noise_81
  · rw [if_neg c60] at h
    refine x_iconst (v := (-1)) C dX8_noise_63 (by decide) ?_
    cases h
    exact x_iret C dX8_noise_64
set_option maxRecDepth 100000 in
theorem t8_noise_b26 {M : xM} {G : xG} {N : Nat} {p1 : Int32} {p2 : Int32} (C : xC (M, G, cdom, 4) RX8 cX8_noise (some .int)) (R : xR (M, G, cdom, 4) = xrm 1 22) {b0 : Int32} {s : cS} {r : Int32} {s1 : cS} (h : f8_noise_b26 N p1 p2 b0 s = some (r, s1)) : X (M, G, cdom, 4) (some (.int r)) (encC G s1) (encC G s) 26 [(0, .ref (G.2.1 0 0)), (1, .int (p1)), (2, .int (p2))] [.int (b0)] := by
  unfold f8_noise_b26 at h
  refine x_istore_n (i := 3) (ls' := [(3, .int (b0)), (0, .ref (G.2.1 0 0)), (1, .int (p1)), (2, .int (p2))]) C dX8_noise_26 rfl (Nat.le_of_ble_eq_true rfl) rfl ?_
  refine x_aload_n (j := 1) C dX8_noise_27 rfl rfl ?_
  refine x_iload_n (j := 0) C dX8_noise_28 rfl rfl ?_
  refine x_if_ne (tgt := 36) C dX8_noise_29 (by decide) (fun c29 => ?_) (fun c29 => ?_)
  · rw [if_neg c29] at h
    refine x_aload_n (j := 1) C dX8_noise_36 rfl rfl ?_
    refine gf8_25 C dX8_noise_37 ?_
    refine gf8_210 C dX8_noise_40 ?_
    refine x_bipush (v := 8) C dX8_noise_43 (by decide) ?_
    refine x_icmp_lt (tgt := 52) C dX8_noise_45 (by decide) (fun c45 => ?_) (fun c45 => ?_)
    · rw [if_pos c45] at h
      refine x_iconst (v := 0) C dX8_noise_52 (by decide) ?_
      refine x_sub (ls' := [(0, .ref (G.2.1 0 0)), (1, .int (p1)), (2, .int (p2))]) [1, 2, 3] rfl ?_
      exact t8_noise_b53 (N := N) (p1 := p1) (p2 := p2) C R h
    · rw [if_neg c45] at h
      refine x_iconst (v := 3) C dX8_noise_48 (by decide) ?_
      refine x_goto (tgt := 53) C dX8_noise_49 (by decide) ?_
      refine x_sub (ls' := [(0, .ref (G.2.1 0 0)), (1, .int (p1)), (2, .int (p2))]) [1, 2, 3] rfl ?_
      exact t8_noise_b53 (N := N) (p1 := p1) (p2 := p2) C R h
  · rw [if_pos c29] at h
    refine x_iconst (v := 1) C dX8_noise_32 (by decide) ?_
    refine x_goto (tgt := 53) C dX8_noise_33 (by decide) ?_
    refine x_sub (ls' := [(0, .ref (G.2.1 0 0)), (1, .int (p1)), (2, .int (p2))]) [1, 2, 3] rfl ?_
    exact t8_noise_b53 (N := N) (p1 := p1) (p2 := p2) C R h
set_option maxRecDepth 100000 in
theorem t8_noise {M : xM} {G : xG} {N : Nat} {p1 : Int32} {p2 : Int32} (C : xC (M, G, cdom, 4) RX8 cX8_noise (some .int)) (R : xR (M, G, cdom, 4) = xrm 1 22) {s : cS} {r : Int32} {s1 : cS} (h : f8_noise N p1 p2 s = some (r, s1)) : X (M, G, cdom, 4) (some (.int r)) (encC G s1) (encC G s) 0 [(0, .ref (G.2.1 0 0)), (1, .int (p1)), (2, .int (p2))] [] := by
  unfold f8_noise at h
  refine x_iload_n (j := 1) C dX8_noise_0 rfl rfl ?_
  refine x_bipush (v := 100) C dX8_noise_1 (by decide) ?_
  obtain ⟨⟨r3, s3⟩, e3, h⟩ := Option.bind_eq_some_iff.mp h
  try dsimp only at h
  refine k8_113 C dX8_noise_3 e3 (x_room R rfl) (Nat.le_of_ble_eq_true rfl) ?_
  refine x_if_eq (tgt := 25) C dX8_noise_6 (by decide) (fun c6 => ?_) (fun c6 => ?_)
  · rw [if_pos c6] at h
    refine x_iconst (v := 0) C dX8_noise_25 (by decide) ?_
    exact t8_noise_b26 (N := N) (p1 := p1) (p2 := p2) C R h
  · rw [if_neg c6] at h
    refine x_iload_n (j := 2) C dX8_noise_9 rfl rfl ?_
    refine x_iconst (v := 1) C dX8_noise_10 (by decide) ?_
    refine x_icmp_lt (tgt := 25) C dX8_noise_11 (by decide) (fun c11 => ?_) (fun c11 => ?_)
    · rw [if_pos c11] at h
      refine x_iconst (v := 0) C dX8_noise_25 (by decide) ?_
      exact t8_noise_b26 (N := N) (p1 := p1) (p2 := p2) C R h
    · rw [if_neg c11] at h
      refine x_iload_n (j := 2) C dX8_noise_14 rfl rfl ?_
      refine x_sipush (v := 1000) C dX8_noise_15 (by decide) ?_
      refine x_icmp_gt (tgt := 25) C dX8_noise_18 (by decide) (fun c18 => ?_) (fun c18 => ?_)
      · rw [if_pos c18] at h
        refine x_iconst (v := 0) C dX8_noise_25 (by decide) ?_
        exact t8_noise_b26 (N := N) (p1 := p1) (p2 := p2) C R h
      · rw [if_neg c18] at h
        refine x_iconst (v := 1) C dX8_noise_21 (by decide) ?_
        refine x_goto (tgt := 26) C dX8_noise_22 (by decide) ?_
        exact t8_noise_b26 (N := N) (p1 := p1) (p2 := p2) C R h
theorem c8_noise (l : Launch) (G : xG) {N : Nat} {p1 : Int32} {p2 : Int32} {s : cS} {r : Int32} {s1 : cS} (h : f8_noise N p1 p2 s = some (r, s1)) : xMet l yX8_noise (x_ws yX8_noise cX8_noise 4 (some .int)) (xrm 1 22) G cdom [.ref (G.2.1 0 0), .int (p1), .int (p2)] (encC G s) (some (.int r)) (encC G s1) := by
  refine xMet.of (by decide +kernel) (Nat.le_of_ble_eq_true rfl) ?_
  rintro ⟨M, G', dom', n'⟩ e1 R e3 e4 e5 C
  change G' = G at e3; change dom' = cdom at e4; change n' = 4 at e5
  subst e3; subst e4; subst e5
  exact t8_noise C R h
