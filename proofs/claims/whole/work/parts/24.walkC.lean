set_option maxRecDepth 100000 in
theorem t8_areAlike {M : xM} {G : xG} {N : Nat} {p1 : Int32} {p2 : Int32} (C : xC (M, G, cdom, 5) RX8 cX8_areAlike (some .boolean)) (R : xR (M, G, cdom, 5) = xrm 1 21) {s : cS} {r : Int32} {s1 : cS} (h : f8_areAlike N p1 p2 s = some (r, s1)) : X (M, G, cdom, 5) (some (.int r)) (encC G s1) (encC G s) 0 [(0, .ref (G.2.1 0 0)), (1, .int (p1)), (2, .int (p2))] [] := by
  unfold f8_areAlike at h
  refine x_aload_n (j := 0) C dX8_areAlike_0 rfl rfl ?_
  refine x_iload_n (j := 1) C dX8_areAlike_1 rfl rfl ?_
  obtain ⟨⟨r2, s2⟩, e2, h⟩ := Option.bind_eq_some_iff.mp h
  try dsimp only at h
  refine k8_225 C dX8_areAlike_2 e2 (x_room R rfl) (Nat.le_of_ble_eq_true rfl) ?_
  refine x_astore_nq (i := 3) (ls' := [(3, va_rf (Option.map (G.2.1 12) r2)), (0, .ref (G.2.1 0 0)), (1, .int (p1)), (2, .int (p2))]) C (Option.map (G.2.1 12) r2) dX8_areAlike_5 rfl (Nat.le_of_ble_eq_true rfl) rfl ?_
  refine x_aload_n (j := 1) C dX8_areAlike_6 rfl rfl ?_
  refine x_iload_n (j := 3) C dX8_areAlike_7 rfl rfl ?_
  obtain ⟨⟨r8, s8⟩, e8, h⟩ := Option.bind_eq_some_iff.mp h
  try dsimp only at h
  refine k8_225 C dX8_areAlike_8 e8 (x_room R rfl) (Nat.le_of_ble_eq_true rfl) ?_
  refine x_astoreq (i := 4) (ls' := [(4, va_rf (Option.map (G.2.1 12) r8)), (3, va_rf (Option.map (G.2.1 12) r2)), (0, .ref (G.2.1 0 0)), (1, .int (p1)), (2, .int (p2))]) C (Option.map (G.2.1 12) r8) dX8_areAlike_11 (Nat.le_of_ble_eq_true rfl) (by first | (simp [va_cat]; done) | (simp [va_cat, Value.category]; done)) ?_
  refine x_aload_nq (j := 1) C (Option.map (G.2.1 12) r2) dX8_areAlike_13 rfl rfl ?_
  cases r2 with
  | none =>
    try dsimp only at h
    change X (M, G, cdom, 5) _ _ _ 14 [(4, va_rf (Option.map (G.2.1 12) r8)), (3, .null), (0, .ref (G.2.1 0 0)), (1, .int (p1)), (2, .int (p2))] [.null]
    refine x_ifnullN (tgt := 60) C dX8_areAlike_14 (by decide) ?_
    refine x_iconst (v := 0) C dX8_areAlike_60 (by decide) ?_
    cases h
    exact x_zret C dX8_areAlike_61 rfl
  | some w14 =>
    try dsimp only at h
    change X (M, G, cdom, 5) _ _ _ 14 [(4, va_rf (Option.map (G.2.1 12) r8)), (3, .ref (G.2.1 12 w14)), (0, .ref (G.2.1 0 0)), (1, .int (p1)), (2, .int (p2))] [.ref (G.2.1 12 w14)]
    refine x_ifnull C dX8_areAlike_14 ?_
    refine x_aloadq (j := 0) C (Option.map (G.2.1 12) r8) dX8_areAlike_17 rfl ?_
    cases r8 with
    | none =>
      try dsimp only at h
      change X (M, G, cdom, 5) _ _ _ 19 [(4, .null), (3, .ref (G.2.1 12 w14)), (0, .ref (G.2.1 0 0)), (1, .int (p1)), (2, .int (p2))] [.null]
      refine x_ifnullN (tgt := 60) C dX8_areAlike_19 (by decide) ?_
      refine x_iconst (v := 0) C dX8_areAlike_60 (by decide) ?_
      cases h
      exact x_zret C dX8_areAlike_61 rfl
    | some w19 =>
      try dsimp only at h
      change X (M, G, cdom, 5) _ _ _ 19 [(4, .ref (G.2.1 12 w19)), (3, .ref (G.2.1 12 w14)), (0, .ref (G.2.1 0 0)), (1, .int (p1)), (2, .int (p2))] [.ref (G.2.1 12 w19)]
      refine x_ifnull C dX8_areAlike_19 ?_
      refine x_aload_n (j := 1) C dX8_areAlike_22 rfl rfl ?_
      by_cases g23_1 : w14 < 10
      case neg => rw [if_neg g23_1] at h; cases h
      rw [if_pos g23_1] at h
      refine gf8_289 C dX8_areAlike_23 g23_1 ?_
      refine x_aload (j := 0) C dX8_areAlike_26 rfl ?_
      by_cases g28_2 : w19 < 10
      case neg => rw [if_neg g28_2] at h; cases h
      rw [if_pos g28_2] at h
      refine gf8_289 C dX8_areAlike_28 g28_2 ?_
      refine x_icmp_ne (tgt := 60) C dX8_areAlike_31 (by decide) (fun c31 => ?_) (fun c31 => ?_)
      · rw [if_neg c31] at h
        refine x_iconst (v := 0) C dX8_areAlike_60 (by decide) ?_
        cases h
        exact x_zret C dX8_areAlike_61 rfl
      · rw [if_pos c31] at h
        refine x_iload_n (j := 3) C dX8_areAlike_34 rfl rfl ?_
        refine x_aload_n (j := 2) C dX8_areAlike_35 rfl rfl ?_
        refine gf8_39 C dX8_areAlike_36 ?_
        refine cal14 C dX8_areAlike_39 ?_
        refine x_icmp_ge (tgt := 60) C dX8_areAlike_40 (by decide) (fun c40 => ?_) (fun c40 => ?_)
        · rw [if_pos c40] at h
          refine x_iconst (v := 0) C dX8_areAlike_60 (by decide) ?_
          cases h
          exact x_zret C dX8_areAlike_61 rfl
        · rw [if_neg c40] at h
          refine x_aload_n (j := 2) C dX8_areAlike_43 rfl rfl ?_
          refine gf8_39 C dX8_areAlike_44 ?_
          refine x_iload_n (j := 3) C dX8_areAlike_47 rfl rfl ?_
          by_cases g48_3 : inB p1 10 = true
          case neg => rw [if_neg g48_3] at h; cases h
          rw [if_pos g48_3] at h
          refine cld14 C dX8_areAlike_48 g48_3 ?_
          refine x_iload_n (j := 4) C dX8_areAlike_49 rfl rfl ?_
          refine x_ishr C dX8_areAlike_50 ?_
          refine x_iconst (v := 1) C dX8_areAlike_51 (by decide) ?_
          refine x_iand C dX8_areAlike_52 ?_
          refine x_if_ne (tgt := 60) C dX8_areAlike_53 (by decide) (fun c53 => ?_) (fun c53 => ?_)
          · rw [if_neg c53] at h
            refine x_iconst (v := 0) C dX8_areAlike_60 (by decide) ?_
            cases h
            exact x_zret C dX8_areAlike_61 rfl
          · rw [if_pos c53] at h
            refine x_iconst (v := 1) C dX8_areAlike_56 (by decide) ?_
            refine x_goto (tgt := 61) C dX8_areAlike_57 (by decide) ?_
            cases h
            exact x_zret C dX8_areAlike_61 rfl
theorem c8_areAlike (l : Launch) (G : xG) {N : Nat} {p1 : Int32} {p2 : Int32} {s : cS} {r : Int32} {s1 : cS} (h : f8_areAlike N p1 p2 s = some (r, s1)) : xMet l yX8_areAlike (x_ws yX8_areAlike cX8_areAlike 5 (some .boolean)) (xrm 1 21) G cdom [.ref (G.2.1 0 0), .int (p1), .int (p2)] (encC G s) (some (.int r)) (encC G s1) := by
  refine xMet.of (by decide +kernel) (Nat.le_of_ble_eq_true rfl) ?_
  rintro ⟨M, G', dom', n'⟩ e1 R e3 e4 e5 C
  change G' = G at e3; change dom' = cdom at e4; change n' = 5 at e5
  subst e3; subst e4; subst e5
  exact t8_areAlike C R h
theorem k8_257 {M : xM} {G : xG} {n : Nat} {rv : Option Value} {E' : xE} {cc : ByteArray} {ret : Option FieldType} {pc : Nat} {ls : List (Nat × Value)} {st : List Value} {N : Nat} {p1 : Int32} {p2 : Int32} {s s1 : cS} {r : Int32} (C : xC (M, G, cdom, n) RX8 cc ret) (d : decode cc pc = .ok (.invokevirtual 257, 3)) (h : f8_areAlike N p1 p2 s = some (r, s1)) (hR : (xrm 1 21).frames + 1 ≤ (xR (M, G, cdom, n)).frames ∧ 8 + (5 + 11) + (xrm 1 21).locals ≤ (xR (M, G, cdom, n)).locals) (hw : (st.map fun v => v.category).sum ≤ 8) (k : X (M, G, cdom, n) rv E' (encC G s1) (pc + 3) ls (.int r :: st)) : X (M, G, cdom, n) rv E' (encC G s) pc ls (.int (p2) :: .int (p1) :: .ref (G.2.1 0 0) :: st) :=
  x_callV (As := [.int (p1), .int (p2)]) (n := 2) C d (c8_areAlike (xl (M, G, cdom, n)) G h) lk679 lk681 lk48 lk78 lk682 ⟨rfl, rfl⟩ ⟨by decide +kernel, by decide +kernel, by decide +kernel⟩ rfl hR rfl rfl rfl rfl hw k
theorem k8_254 {M : xM} {G : xG} {n : Nat} {rv : Option Value} {E' : xE} {cc : ByteArray} {ret : Option FieldType} {pc : Nat} {ls : List (Nat × Value)} {st : List Value} {N : Nat} {p1 : Int32} {s s1 : cS} (C : xC (M, G, cdom, n) RX8 cc ret) (d : decode cc pc = .ok (.invokevirtual 254, 3)) (h : f8_tellApart N p1 s = some s1) (hR : (xrm 4 92).frames + 1 ≤ (xR (M, G, cdom, n)).frames ∧ 8 + (4 + 11) + (xrm 4 92).locals ≤ (xR (M, G, cdom, n)).locals) (hw : (st.map fun v => v.category).sum ≤ 8) (k : X (M, G, cdom, n) rv E' (encC G s1) (pc + 3) ls (st)) : X (M, G, cdom, n) rv E' (encC G s) pc ls (.int (p1) :: .ref (G.2.1 0 0) :: st) :=
  x_callV (As := [.int (p1)]) (n := 1) C d (c8_tellApart (xl (M, G, cdom, n)) G h) lk675 lk677 lk47 lk78 lk678 ⟨rfl, rfl⟩ ⟨by decide +kernel, by decide +kernel, by decide +kernel⟩ rfl hR rfl rfl rfl rfl hw k
theorem k8_248_14 {M : xM} {G : xG} {n : Nat} {rv : Option Value} {E' : xE} {cc : ByteArray} {ret : Option FieldType} {pc : Nat} {ls : List (Nat × Value)} {st : List Value} {s : cS} {v : Int32} (C : xC (M, G, cdom, n) RX8 cc ret) (d : decode cc pc = .ok (.invokestatic 248, 3)) (hR : (xrm 0 0).frames + 1 ≤ (xR (M, G, cdom, n)).frames ∧ 8 + (4 + 11) + (xrm 0 0).locals ≤ (xR (M, G, cdom, n)).locals) (hw : (st.map fun v => v.category).sum ≤ 8) (k : X (M, G, cdom, n) rv E' (encC G (cfi s 23 10 v)) (pc + 3) ls st) : X (M, G, cdom, n) rv E' (encC G s) pc ls (.int v :: .ref (G.2.1 14 0) :: st) :=
  x_callS (As := [.ref (G.2.1 14 0), .int v]) (n := 2) C d (fill_14 (xl (M, G, cdom, n)) G s v) lk674 lk648 lk89 lk649 ⟨rfl, rfl⟩ ⟨by decide +kernel, by decide +kernel, by decide +kernel⟩ rfl hR rfl hw k
set_option maxRecDepth 100000 in
theorem t8_alike_l55b {M : xM} {G : xG} {N : Nat}  (C : xC (M, G, cdom, 4) RX8 cX8_alike (some .int)) (R : xR (M, G, cdom, 4) = xrm 5 115) {k43 : Int32 → Int32 → cS → Option (Int32 × cS)} (hk43 : ∀ (a1 : Int32) (a2 : Int32) (s : cS) (r : Int32) (s1 : cS), k43 a1 a2 s = some (r, s1) → X (M, G, cdom, 4) (some (.int r)) (encC G s1) (encC G s) 43 [(0, .ref (G.2.1 0 0)), (1, .int (a1)), (2, .int (a2))] []) {k55 : Int32 → Int32 → Int32 → cS → Option (Int32 × cS)} (hk55 : ∀ (a1 : Int32) (a2 : Int32) (a3 : Int32) (s : cS) (r : Int32) (s1 : cS), k55 a1 a2 a3 s = some (r, s1) → X (M, G, cdom, 4) (some (.int r)) (encC G s1) (encC G s) 55 [(0, .ref (G.2.1 0 0)), (1, .int (a1)), (2, .int (a2)), (3, .int (a3))] []) {a1 : Int32} {a2 : Int32} {a3 : Int32} {s : cS} {r : Int32} {s1 : cS} (h : f8_alike_l55b N k43 k55 a1 a2 a3 s = some (r, s1)) : X (M, G, cdom, 4) (some (.int r)) (encC G s1) (encC G s) 55 [(0, .ref (G.2.1 0 0)), (1, .int (a1)), (2, .int (a2)), (3, .int (a3))] [] := by
  unfold f8_alike_l55b at h
  refine x_iload_n (j := 3) C dX8_alike_55 rfl rfl ?_
  refine x_aload_n (j := 0) C dX8_alike_56 rfl rfl ?_
  refine gf8_63 C dX8_alike_57 ?_
  refine x_icmp_ge (tgt := 81) C dX8_alike_60 (by decide) (fun c60 => ?_) (fun c60 => ?_)
  · rw [if_pos c60] at h
    refine x_iinc (j := 2) (v := (a2 + 1)) (ls' := [(2, .int ((a2 + 1))), (0, .ref (G.2.1 0 0)), (1, .int (a1)), (3, .int (a3))]) C dX8_alike_81 rfl rfl (Nat.le_of_ble_eq_true rfl) rfl ?_
    refine x_goto (tgt := 43) C dX8_alike_84 (by decide) ?_
    refine x_sub (ls' := [(0, .ref (G.2.1 0 0)), (1, .int (a1)), (2, .int ((a2 + 1)))]) [1, 2, 0] rfl ?_
    exact hk43 _ _ _ _ _ h
  · rw [if_neg c60] at h
    refine x_aload_n (j := 0) C dX8_alike_63 rfl rfl ?_
    refine x_iload_n (j := 2) C dX8_alike_64 rfl rfl ?_
    refine x_iload_n (j := 3) C dX8_alike_65 rfl rfl ?_
    obtain ⟨⟨r66, s66⟩, e66, h⟩ := Option.bind_eq_some_iff.mp h
    try dsimp only at h
    refine k8_257 C dX8_alike_66 e66 (x_room R rfl) (Nat.le_of_ble_eq_true rfl) ?_
    refine x_if_eq (tgt := 75) C dX8_alike_69 (by decide) (fun c69 => ?_) (fun c69 => ?_)
    · rw [if_pos c69] at h
      refine x_iinc (j := 3) (v := (a3 + 1)) (ls' := [(3, .int ((a3 + 1))), (0, .ref (G.2.1 0 0)), (1, .int (a1)), (2, .int (a2))]) C dX8_alike_75 rfl rfl (Nat.le_of_ble_eq_true rfl) rfl ?_
      refine x_goto (tgt := 55) C dX8_alike_78 (by decide) ?_
      refine x_sub (ls' := [(0, .ref (G.2.1 0 0)), (1, .int (a1)), (2, .int (a2)), (3, .int ((a3 + 1)))]) [1, 2, 3, 0] rfl ?_
      exact hk55 _ _ _ _ _ _ h
    · rw [if_neg c69] at h
      refine x_iinc (j := 1) (v := (a1 + 1)) (ls' := [(1, .int ((a1 + 1))), (0, .ref (G.2.1 0 0)), (2, .int (a2)), (3, .int (a3))]) C dX8_alike_72 rfl rfl (Nat.le_of_ble_eq_true rfl) rfl ?_
      refine x_iinc (j := 3) (v := (a3 + 1)) (ls' := [(3, .int ((a3 + 1))), (1, .int ((a1 + 1))), (0, .ref (G.2.1 0 0)), (2, .int (a2))]) C dX8_alike_75 rfl rfl (Nat.le_of_ble_eq_true rfl) rfl ?_
      refine x_goto (tgt := 55) C dX8_alike_78 (by decide) ?_
      refine x_sub (ls' := [(0, .ref (G.2.1 0 0)), (1, .int ((a1 + 1))), (2, .int (a2)), (3, .int ((a3 + 1)))]) [2, 1, 3, 0] rfl ?_
      exact hk55 _ _ _ _ _ _ h
theorem t8_alike_l55 {M : xM} {G : xG} {N : Nat}  (C : xC (M, G, cdom, 4) RX8 cX8_alike (some .int)) (R : xR (M, G, cdom, 4) = xrm 5 115) {k43 : Int32 → Int32 → cS → Option (Int32 × cS)} (hk43 : ∀ (a1 : Int32) (a2 : Int32) (s : cS) (r : Int32) (s1 : cS), k43 a1 a2 s = some (r, s1) → X (M, G, cdom, 4) (some (.int r)) (encC G s1) (encC G s) 43 [(0, .ref (G.2.1 0 0)), (1, .int (a1)), (2, .int (a2))] []) (n : Nat) : ∀ (a1 : Int32) (a2 : Int32) (a3 : Int32) (s : cS) (r : Int32) (s1 : cS), f8_alike_l55 N k43 n a1 a2 a3 s = some (r, s1) → X (M, G, cdom, 4) (some (.int r)) (encC G s1) (encC G s) 55 [(0, .ref (G.2.1 0 0)), (1, .int (a1)), (2, .int (a2)), (3, .int (a3))] [] := by
  induction n with
  | zero => intro a1 a2 a3 s r s1 h; exact (Option.some_ne_none _ (Eq.symm h)).elim
  | succ n ih => intro a1 a2 a3 s r s1 h; exact t8_alike_l55b (N := N) C R hk43 (k55 := f8_alike_l55 N k43 n) ih h
set_option maxRecDepth 100000 in
theorem t8_alike_l43b {M : xM} {G : xG} {N : Nat}  (C : xC (M, G, cdom, 4) RX8 cX8_alike (some .int)) (R : xR (M, G, cdom, 4) = xrm 5 115) {k43 : Int32 → Int32 → cS → Option (Int32 × cS)} (hk43 : ∀ (a1 : Int32) (a2 : Int32) (s : cS) (r : Int32) (s1 : cS), k43 a1 a2 s = some (r, s1) → X (M, G, cdom, 4) (some (.int r)) (encC G s1) (encC G s) 43 [(0, .ref (G.2.1 0 0)), (1, .int (a1)), (2, .int (a2))] []) {a1 : Int32} {a2 : Int32} {s : cS} {r : Int32} {s1 : cS} (h : f8_alike_l43b N k43 a1 a2 s = some (r, s1)) : X (M, G, cdom, 4) (some (.int r)) (encC G s1) (encC G s) 43 [(0, .ref (G.2.1 0 0)), (1, .int (a1)), (2, .int (a2))] [] := by
  unfold f8_alike_l43b at h
  refine x_iload_n (j := 2) C dX8_alike_43 rfl rfl ?_
  refine x_aload_n (j := 0) C dX8_alike_44 rfl rfl ?_
  refine gf8_63 C dX8_alike_45 ?_
  refine x_icmp_ge (tgt := 87) C dX8_alike_48 (by decide) (fun c48 => ?_) (fun c48 => ?_)
  · rw [if_pos c48] at h
    refine x_iload_n (j := 1) C dX8_alike_87 rfl rfl ?_
    cases h
    exact x_iret C dX8_alike_88
  · rw [if_neg c48] at h
    refine x_iload_n (j := 2) C dX8_alike_51 rfl rfl ?_
    refine x_iconst (v := 1) C dX8_alike_52 (by decide) ?_
    refine x_iadd C dX8_alike_53 ?_
    refine x_istore_n (i := 3) (ls' := [(3, .int ((a2 + 1))), (0, .ref (G.2.1 0 0)), (1, .int (a1)), (2, .int (a2))]) C dX8_alike_54 rfl (Nat.le_of_ble_eq_true rfl) rfl ?_
    refine x_sub (ls' := [(0, .ref (G.2.1 0 0)), (1, .int (a1)), (2, .int (a2)), (3, .int ((a2 + 1)))]) [1, 2, 3, 0] rfl ?_
    exact t8_alike_l55 (N := N) C R hk43 N _ _ _ _ _ _ h
theorem t8_alike_l43 {M : xM} {G : xG} {N : Nat}  (C : xC (M, G, cdom, 4) RX8 cX8_alike (some .int)) (R : xR (M, G, cdom, 4) = xrm 5 115) (n : Nat) : ∀ (a1 : Int32) (a2 : Int32) (s : cS) (r : Int32) (s1 : cS), f8_alike_l43 N n a1 a2 s = some (r, s1) → X (M, G, cdom, 4) (some (.int r)) (encC G s1) (encC G s) 43 [(0, .ref (G.2.1 0 0)), (1, .int (a1)), (2, .int (a2))] [] := by
  induction n with
  | zero => intro a1 a2 s r s1 h; exact (Option.some_ne_none _ (Eq.symm h)).elim
  | succ n ih => intro a1 a2 s r s1 h; exact t8_alike_l43b (N := N) C R (k43 := f8_alike_l43 N n) ih h
set_option maxRecDepth 100000 in
theorem t8_alike_l20b {M : xM} {G : xG} {N : Nat}  (C : xC (M, G, cdom, 4) RX8 cX8_alike (some .int)) (R : xR (M, G, cdom, 4) = xrm 5 115) {k20 : Int32 → cS → Option (Int32 × cS)} (hk20 : ∀ (a1 : Int32) (s : cS) (r : Int32) (s1 : cS), k20 a1 s = some (r, s1) → X (M, G, cdom, 4) (some (.int r)) (encC G s1) (encC G s) 20 [(0, .ref (G.2.1 0 0)), (1, .int (a1))] []) {a1 : Int32} {s : cS} {r : Int32} {s1 : cS} (h : f8_alike_l20b N k20 a1 s = some (r, s1)) : X (M, G, cdom, 4) (some (.int r)) (encC G s1) (encC G s) 20 [(0, .ref (G.2.1 0 0)), (1, .int (a1))] [] := by
  unfold f8_alike_l20b at h
  refine x_iload_n (j := 1) C dX8_alike_20 rfl rfl ?_
  refine x_aload_n (j := 0) C dX8_alike_21 rfl rfl ?_
  refine gf8_56 C dX8_alike_22 ?_
  refine x_icmp_gt (tgt := 39) C dX8_alike_25 (by decide) (fun c25 => ?_) (fun c25 => ?_)
  · rw [if_pos c25] at h
    refine x_iconst (v := 0) C dX8_alike_39 (by decide) ?_
    refine x_istore_n (i := 1) (ls' := [(1, .int (0)), (0, .ref (G.2.1 0 0))]) C dX8_alike_40 rfl (Nat.le_of_ble_eq_true rfl) rfl ?_
    refine x_iconst (v := 0) C dX8_alike_41 (by decide) ?_
    refine x_istore_n (i := 2) (ls' := [(2, .int (0)), (1, .int (0)), (0, .ref (G.2.1 0 0))]) C dX8_alike_42 rfl (Nat.le_of_ble_eq_true rfl) rfl ?_
    refine x_sub (ls' := [(0, .ref (G.2.1 0 0)), (1, .int (0)), (2, .int (0))]) [2, 1, 0] rfl ?_
    exact t8_alike_l43 (N := N) C R N _ _ _ _ _ h
  · rw [if_neg c25] at h
    refine x_aload_n (j := 0) C dX8_alike_28 rfl rfl ?_
    refine x_iload_n (j := 1) C dX8_alike_29 rfl rfl ?_
    obtain ⟨s30, e30, h⟩ := Option.bind_eq_some_iff.mp h
    try dsimp only at h
    refine k8_254 C dX8_alike_30 e30 (x_room R rfl) (Nat.le_of_ble_eq_true rfl) ?_
    refine x_iinc (j := 1) (v := (a1 + 1)) (ls' := [(1, .int ((a1 + 1))), (0, .ref (G.2.1 0 0))]) C dX8_alike_33 rfl rfl (Nat.le_of_ble_eq_true rfl) rfl ?_
    refine x_goto (tgt := 20) C dX8_alike_36 (by decide) ?_
    refine x_sub (ls' := [(0, .ref (G.2.1 0 0)), (1, .int ((a1 + 1)))]) [1, 0] rfl ?_
    exact hk20 _ _ _ _ h
theorem t8_alike_l20 {M : xM} {G : xG} {N : Nat}  (C : xC (M, G, cdom, 4) RX8 cX8_alike (some .int)) (R : xR (M, G, cdom, 4) = xrm 5 115) (n : Nat) : ∀ (a1 : Int32) (s : cS) (r : Int32) (s1 : cS), f8_alike_l20 N n a1 s = some (r, s1) → X (M, G, cdom, 4) (some (.int r)) (encC G s1) (encC G s) 20 [(0, .ref (G.2.1 0 0)), (1, .int (a1))] [] := by
  induction n with
  | zero => intro a1 s r s1 h; exact (Option.some_ne_none _ (Eq.symm h)).elim
  | succ n ih => intro a1 s r s1 h; exact t8_alike_l20b (N := N) C R (k20 := f8_alike_l20 N n) ih h
set_option maxRecDepth 100000 in
theorem t8_alike {M : xM} {G : xG} {N : Nat}  (C : xC (M, G, cdom, 4) RX8 cX8_alike (some .int)) (R : xR (M, G, cdom, 4) = xrm 5 115) {s : cS} {r : Int32} {s1 : cS} (h : f8_alike N s = some (r, s1)) : X (M, G, cdom, 4) (some (.int r)) (encC G s1) (encC G s) 0 [(0, .ref (G.2.1 0 0))] [] := by
  unfold f8_alike at h
  refine x_aload_n (j := 0) C dX8_alike_0 rfl rfl ?_
  refine gf8_63 C dX8_alike_1 ?_
  refine x_iconst (v := 2) C dX8_alike_4 (by decide) ?_
  refine x_icmp_ge (tgt := 10) C dX8_alike_5 (by decide) (fun c5 => ?_) (fun c5 => ?_)
  · rw [if_pos c5] at h
    refine x_aload_n (j := 0) C dX8_alike_10 rfl rfl ?_
    refine gf8_39 C dX8_alike_11 ?_
    refine x_iconst (v := 0) C dX8_alike_14 (by decide) ?_
    refine k8_248_14 C dX8_alike_15 (x_room R rfl) (Nat.le_of_ble_eq_true rfl) ?_
    refine x_iconst (v := 0) C dX8_alike_18 (by decide) ?_
    refine x_istore_n (i := 1) (ls' := [(1, .int (0)), (0, .ref (G.2.1 0 0))]) C dX8_alike_19 rfl (Nat.le_of_ble_eq_true rfl) rfl ?_
    refine x_sub (ls' := [(0, .ref (G.2.1 0 0)), (1, .int (0))]) [1, 0] rfl ?_
    exact t8_alike_l20 (N := N) C R N _ _ _ _ h
  · rw [if_neg c5] at h
    refine x_iconst (v := 0) C dX8_alike_8 (by decide) ?_
    cases h
    exact x_iret C dX8_alike_9
theorem c8_alike (l : Launch) (G : xG) {N : Nat}  {s : cS} {r : Int32} {s1 : cS} (h : f8_alike N s = some (r, s1)) : xMet l yX8_alike (x_ws yX8_alike cX8_alike 4 (some .int)) (xrm 5 115) G cdom [.ref (G.2.1 0 0)] (encC G s) (some (.int r)) (encC G s1) := by
  refine xMet.of (by decide +kernel) (Nat.le_of_ble_eq_true rfl) ?_
  rintro ⟨M, G', dom', n'⟩ e1 R e3 e4 e5 C
  change G' = G at e3; change dom' = cdom at e4; change n' = 4 at e5
  subst e3; subst e4; subst e5
  exact t8_alike C R h
set_option maxRecDepth 100000 in
theorem t8_beyond_l27b {M : xM} {G : xG} {N : Nat} {p1 : Int32} (C : xC (M, G, cdom, 4) RX8 cX8_beyond (some .int)) (R : xR (M, G, cdom, 4) = xrm 3 66) {k27 : Nat → Int32 → cS → Option (Int32 × cS)} (hk27 : ∀ (a2 : Nat) (a3 : Int32) (s : cS) (r : Int32) (s1 : cS), k27 a2 a3 s = some (r, s1) → X (M, G, cdom, 4) (some (.int r)) (encC G s1) (encC G s) 27 [(0, .ref (G.2.1 0 0)), (2, .ref (G.2.1 2 a2)), (3, .int (a3))] []) {a2 : Nat} {a3 : Int32} {s : cS} {r : Int32} {s1 : cS} (h : f8_beyond_l27b N p1 k27 a2 a3 s = some (r, s1)) : X (M, G, cdom, 4) (some (.int r)) (encC G s1) (encC G s) 27 [(0, .ref (G.2.1 0 0)), (2, .ref (G.2.1 2 a2)), (3, .int (a3))] [] := by
  unfold f8_beyond_l27b at h
  refine x_iload_n (j := 2) C dX8_beyond_27 rfl rfl ?_
  refine x_aload_n (j := 0) C dX8_beyond_28 rfl rfl ?_
  refine gf8_56 C dX8_beyond_29 ?_
  refine x_icmp_gt (tgt := 60) C dX8_beyond_32 (by decide) (fun c32 => ?_) (fun c32 => ?_)
  · rw [if_pos c32] at h
    refine x_bipush (v := (-2)) C dX8_beyond_60 (by decide) ?_
    cases h
    exact x_iret C dX8_beyond_62
  · rw [if_neg c32] at h
    refine x_aload_n (j := 1) C dX8_beyond_35 rfl rfl ?_
    refine x_iload_n (j := 2) C dX8_beyond_36 rfl rfl ?_
    by_cases g37_1 : a2 < 8
    case neg => rw [if_neg g37_1] at h; cases h
    rw [if_pos g37_1] at h
    obtain ⟨⟨r37, s37⟩, e37, h⟩ := Option.bind_eq_some_iff.mp h
    try dsimp only at h
    refine k8_139 C dX8_beyond_37 e37 g37_1 (x_room R rfl) (Nat.le_of_ble_eq_true rfl) ?_
    refine x_pop C dX8_beyond_40 rfl ?_
    refine x_aload_n (j := 0) C dX8_beyond_41 rfl rfl ?_
    refine x_aload_n (j := 1) C dX8_beyond_42 rfl rfl ?_
    refine gf8_146 C dX8_beyond_43 g37_1 ?_
    obtain ⟨⟨r46, s46⟩, e46, h⟩ := Option.bind_eq_some_iff.mp h
    try dsimp only at h
    refine k8_134 C dX8_beyond_46 e46 (x_room R rfl) (Nat.le_of_ble_eq_true rfl) ?_
    refine x_if_ne (tgt := 54) C dX8_beyond_49 (by decide) (fun c49 => ?_) (fun c49 => ?_)
    · rw [if_neg c49] at h
      refine x_iinc (j := 2) (v := (a3 + 1)) (ls' := [(3, .int ((a3 + 1))), (0, .ref (G.2.1 0 0)), (2, .ref (G.2.1 2 a2))]) C dX8_beyond_54 rfl rfl (Nat.le_of_ble_eq_true rfl) rfl ?_
      refine x_goto (tgt := 27) C dX8_beyond_57 (by decide) ?_
      refine x_sub (ls' := [(0, .ref (G.2.1 0 0)), (2, .ref (G.2.1 2 a2)), (3, .int ((a3 + 1)))]) [1, 2, 0] rfl ?_
      exact hk27 _ _ _ _ _ h
    · rw [if_pos c49] at h
      refine x_iload_n (j := 2) C dX8_beyond_52 rfl rfl ?_
      cases h
      exact x_iret C dX8_beyond_53
theorem t8_beyond_l27 {M : xM} {G : xG} {N : Nat} {p1 : Int32} (C : xC (M, G, cdom, 4) RX8 cX8_beyond (some .int)) (R : xR (M, G, cdom, 4) = xrm 3 66) (n : Nat) : ∀ (a2 : Nat) (a3 : Int32) (s : cS) (r : Int32) (s1 : cS), f8_beyond_l27 N p1 n a2 a3 s = some (r, s1) → X (M, G, cdom, 4) (some (.int r)) (encC G s1) (encC G s) 27 [(0, .ref (G.2.1 0 0)), (2, .ref (G.2.1 2 a2)), (3, .int (a3))] [] := by
  induction n with
  | zero => intro a2 a3 s r s1 h; exact (Option.some_ne_none _ (Eq.symm h)).elim
  | succ n ih => intro a2 a3 s r s1 h; exact t8_beyond_l27b (N := N) (p1 := p1) C R (k27 := f8_beyond_l27 N p1 n) ih h
set_option maxRecDepth 100000 in
theorem t8_beyond_b16 {M : xM} {G : xG} {N : Nat} {p1 : Int32} (C : xC (M, G, cdom, 4) RX8 cX8_beyond (some .int)) (R : xR (M, G, cdom, 4) = xrm 3 66) {a2 : Option Nat} {b0 : Int32} {s : cS} {r : Int32} {s1 : cS} (h : f8_beyond_b16 N p1 a2 b0 s = some (r, s1)) : X (M, G, cdom, 4) (some (.int r)) (encC G s1) (encC G s) 16 [(0, .ref (G.2.1 0 0)), (2, va_rf (Option.map (G.2.1 2) a2))] [.int (b0), .ref (G.2.1 0 0)] := by
  unfold f8_beyond_b16 at h
  refine pf8_66 C dX8_beyond_16 ?_
  refine x_aload_nq (j := 1) C (Option.map (G.2.1 2) a2) dX8_beyond_19 rfl rfl ?_
  cases a2 with
  | none =>
    try dsimp only at h
    change X (M, G, cdom, 4) _ _ _ 20 [(0, .ref (G.2.1 0 0)), (2, .null)] [.null]
    refine x_ifnonnullN C dX8_beyond_20 ?_
    refine x_iconst (v := (-1)) C dX8_beyond_23 (by decide) ?_
    cases h
    exact x_iret C dX8_beyond_24
  | some w20 =>
    try dsimp only at h
    change X (M, G, cdom, 4) _ _ _ 20 [(0, .ref (G.2.1 0 0)), (2, .ref (G.2.1 2 w20))] [.ref (G.2.1 2 w20)]
    refine x_ifnonnull (tgt := 25) C dX8_beyond_20 (by decide) ?_
    refine x_iconst (v := 0) C dX8_beyond_25 (by decide) ?_
    refine x_istore_n (i := 3) (ls' := [(3, .int (0)), (0, .ref (G.2.1 0 0)), (2, .ref (G.2.1 2 w20))]) C dX8_beyond_26 rfl (Nat.le_of_ble_eq_true rfl) rfl ?_
    refine x_sub (ls' := [(0, .ref (G.2.1 0 0)), (2, .ref (G.2.1 2 w20)), (3, .int (0))]) [1, 2, 0] rfl ?_
    exact t8_beyond_l27 (N := N) (p1 := p1) C R N _ _ _ _ _ h
set_option maxRecDepth 100000 in
theorem t8_beyond {M : xM} {G : xG} {N : Nat} {p1 : Int32} (C : xC (M, G, cdom, 4) RX8 cX8_beyond (some .int)) (R : xR (M, G, cdom, 4) = xrm 3 66) {s : cS} {r : Int32} {s1 : cS} (h : f8_beyond N p1 s = some (r, s1)) : X (M, G, cdom, 4) (some (.int r)) (encC G s1) (encC G s) 0 [(0, .ref (G.2.1 0 0)), (1, .int (p1))] [] := by
  unfold f8_beyond at h
  refine x_aload_n (j := 0) C dX8_beyond_0 rfl rfl ?_
  refine x_iload_n (j := 1) C dX8_beyond_1 rfl rfl ?_
  obtain ⟨⟨r2, s2⟩, e2, h⟩ := Option.bind_eq_some_iff.mp h
  try dsimp only at h
  refine k8_83 C dX8_beyond_2 e2 (x_room R rfl) (Nat.le_of_ble_eq_true rfl) ?_
  refine x_astore_nq (i := 2) (ls' := [(2, va_rf (Option.map (G.2.1 2) r2)), (0, .ref (G.2.1 0 0)), (1, .int (p1))]) C (Option.map (G.2.1 2) r2) dX8_beyond_5 rfl (Nat.le_of_ble_eq_true rfl) rfl ?_
  refine x_aload_n (j := 1) C dX8_beyond_6 rfl rfl ?_
  refine x_aload_nq (j := 0) C (Option.map (G.2.1 2) r2) dX8_beyond_7 rfl rfl ?_
  cases r2 with
  | none =>
    try dsimp only at h
    change X (M, G, cdom, 4) _ _ _ 8 [(2, .null), (0, .ref (G.2.1 0 0)), (1, .int (p1))] [.null, .ref (G.2.1 0 0)]
    refine x_ifnonnullN C dX8_beyond_8 ?_
    refine x_iconst (v := 2) C dX8_beyond_11 (by decide) ?_
    refine x_goto (tgt := 16) C dX8_beyond_12 (by decide) ?_
    refine x_sub (ls' := [(0, .ref (G.2.1 0 0)), (2, .null)]) [1, 0] rfl ?_
    exact t8_beyond_b16 (N := N) (p1 := p1) C R (a2 := none) h
  | some w8 =>
    try dsimp only at h
    change X (M, G, cdom, 4) _ _ _ 8 [(2, .ref (G.2.1 2 w8)), (0, .ref (G.2.1 0 0)), (1, .int (p1))] [.ref (G.2.1 2 w8), .ref (G.2.1 0 0)]
    refine x_ifnonnull (tgt := 15) C dX8_beyond_8 (by decide) ?_
    refine x_iconst (v := 0) C dX8_beyond_15 (by decide) ?_
    refine x_sub (ls' := [(0, .ref (G.2.1 0 0)), (2, .ref (G.2.1 2 w8))]) [1, 0] rfl ?_
    exact t8_beyond_b16 (N := N) (p1 := p1) C R (a2 := (some w8)) h
theorem c8_beyond (l : Launch) (G : xG) {N : Nat} {p1 : Int32} {s : cS} {r : Int32} {s1 : cS} (h : f8_beyond N p1 s = some (r, s1)) : xMet l yX8_beyond (x_ws yX8_beyond cX8_beyond 4 (some .int)) (xrm 3 66) G cdom [.ref (G.2.1 0 0), .int (p1)] (encC G s) (some (.int r)) (encC G s1) := by
  refine xMet.of (by decide +kernel) (Nat.le_of_ble_eq_true rfl) ?_
  rintro ⟨M, G', dom', n'⟩ e1 R e3 e4 e5 C
  change G' = G at e3; change dom' = cdom at e4; change n' = 4 at e5
  subst e3; subst e4; subst e5
  exact t8_beyond C R h
set_option maxRecDepth 100000 in
theorem t8_joined_b53 {M : xM} {G : xG} {N : Nat} {p1 : Int32} {p2 : Int32} {p3 : Int32} {p4 : Int32} (C : xC (M, G, cdom, 9) RX8 cX8_joined (some .int)) (R : xR (M, G, cdom, 9) = xrm 3 66) {a5 : Option Nat} {a6 : Option Nat} {b0 : Int32} {s : cS} {r : Int32} {s1 : cS} (h : f8_joined_b53 N p1 p2 p3 p4 a5 a6 b0 s = some (r, s1)) : X (M, G, cdom, 9) (some (.int r)) (encC G s1) (encC G s) 53 [(0, .ref (G.2.1 0 0)), (3, .int (p3)), (4, .int (p4)), (5, va_rf (Option.map (G.2.1 2) a5)), (6, va_rf (Option.map (G.2.1 2) a6))] [.int (b0), .ref (G.2.1 0 0)] := by
  unfold f8_joined_b53 at h
  refine pf8_66 C dX8_joined_53 ?_
  refine x_aloadq (j := 3) C (Option.map (G.2.1 2) a5) dX8_joined_56 rfl ?_
  cases a5 with
  | none =>
    try dsimp only at h
    change X (M, G, cdom, 9) _ _ _ 58 [(0, .ref (G.2.1 0 0)), (3, .int (p3)), (4, .int (p4)), (5, .null), (6, va_rf (Option.map (G.2.1 2) a6))] [.null]
    refine x_ifnullN (tgt := 73) C dX8_joined_58 (by decide) ?_
    refine x_ldc (v := (-2147483648)) C dX8_joined_73 lk407 ?_
    cases h
    exact x_iret C dX8_joined_75
  | some w58 =>
    try dsimp only at h
    change X (M, G, cdom, 9) _ _ _ 58 [(0, .ref (G.2.1 0 0)), (3, .int (p3)), (4, .int (p4)), (5, .ref (G.2.1 2 w58)), (6, va_rf (Option.map (G.2.1 2) a6))] [.ref (G.2.1 2 w58)]
    refine x_ifnull C dX8_joined_58 ?_
    refine x_aloadq (j := 4) C (Option.map (G.2.1 2) a6) dX8_joined_61 rfl ?_
    cases a6 with
    | none =>
      try dsimp only at h
      change X (M, G, cdom, 9) _ _ _ 63 [(0, .ref (G.2.1 0 0)), (3, .int (p3)), (4, .int (p4)), (5, .ref (G.2.1 2 w58)), (6, .null)] [.null]
      refine x_ifnullN (tgt := 73) C dX8_joined_63 (by decide) ?_
      refine x_ldc (v := (-2147483648)) C dX8_joined_73 lk407 ?_
      cases h
      exact x_iret C dX8_joined_75
    | some w63 =>
      try dsimp only at h
      change X (M, G, cdom, 9) _ _ _ 63 [(0, .ref (G.2.1 0 0)), (3, .int (p3)), (4, .int (p4)), (5, .ref (G.2.1 2 w58)), (6, .ref (G.2.1 2 w63))] [.ref (G.2.1 2 w63)]
      refine x_ifnull C dX8_joined_63 ?_
      refine x_aload_n (j := 0) C dX8_joined_66 rfl rfl ?_
      refine gf8_66 C dX8_joined_67 ?_
      refine x_if_eq (tgt := 76) C dX8_joined_70 (by decide) (fun c70 => ?_) (fun c70 => ?_)
      · rw [if_pos c70] at h
        refine x_aload (j := 3) C dX8_joined_76 rfl ?_
        refine x_iload (j := 2) C dX8_joined_78 rfl ?_
        by_cases g80_1 : w58 < 8
        case neg => rw [if_neg g80_1] at h; cases h
        rw [if_pos g80_1] at h
        obtain ⟨⟨r80, s80⟩, e80, h⟩ := Option.bind_eq_some_iff.mp h
        try dsimp only at h
        refine k8_139 C dX8_joined_80 e80 g80_1 (x_room R rfl) (Nat.le_of_ble_eq_true rfl) ?_
        refine x_istore (i := 7) (ls' := [(7, .int (r80)), (0, .ref (G.2.1 0 0)), (3, .int (p3)), (4, .int (p4)), (5, .ref (G.2.1 2 w58)), (6, .ref (G.2.1 2 w63))]) C dX8_joined_83 (Nat.le_of_ble_eq_true rfl) rfl ?_
        refine x_aload (j := 4) C dX8_joined_85 rfl ?_
        refine gf8_146 C dX8_joined_87 g80_1 ?_
        refine x_istore (i := 8) (ls' := [(8, .int ((s80.1 9 w58))), (7, .int (r80)), (0, .ref (G.2.1 0 0)), (3, .int (p3)), (4, .int (p4)), (5, .ref (G.2.1 2 w58)), (6, .ref (G.2.1 2 w63))]) C dX8_joined_90 (Nat.le_of_ble_eq_true rfl) rfl ?_
        refine x_aload_n (j := 2) C dX8_joined_92 rfl rfl ?_
        refine x_iload (j := 0) C dX8_joined_93 rfl ?_
        obtain ⟨⟨r95, s95⟩, e95, h⟩ := Option.bind_eq_some_iff.mp h
        try dsimp only at h
        refine k8_134 C dX8_joined_95 e95 (x_room R rfl) (Nat.le_of_ble_eq_true rfl) ?_
        refine x_if_ne (tgt := 109) C dX8_joined_98 (by decide) (fun c98 => ?_) (fun c98 => ?_)
        · rw [if_neg c98] at h
          refine x_iload (j := 1) C dX8_joined_109 rfl ?_
          refine x_iload_n (j := 3) C dX8_joined_111 rfl rfl ?_
          refine x_imul C dX8_joined_112 ?_
          refine x_aload (j := 6) C dX8_joined_113 rfl ?_
          refine x_iload (j := 0) C dX8_joined_115 rfl ?_
          by_cases g117_2 : w63 < 8
          case neg => rw [if_neg g117_2] at h; cases h
          rw [if_pos g117_2] at h
          obtain ⟨⟨r117, s117⟩, e117, h⟩ := Option.bind_eq_some_iff.mp h
          try dsimp only at h
          refine k8_139 C dX8_joined_117 e117 g117_2 (x_room R rfl) (Nat.le_of_ble_eq_true rfl) ?_
          refine x_iadd C dX8_joined_120 ?_
          cases h
          exact x_iret C dX8_joined_121
        · rw [if_pos c98] at h
          refine x_aload_n (j := 2) C dX8_joined_101 rfl rfl ?_
          refine x_iconst (v := 1) C dX8_joined_102 (by decide) ?_
          refine pf8_66 C dX8_joined_103 ?_
          refine x_ldc (v := (-2147483648)) C dX8_joined_106 lk407 ?_
          cases h
          exact x_iret C dX8_joined_108
      · rw [if_neg c70] at h
        refine x_ldc (v := (-2147483648)) C dX8_joined_73 lk407 ?_
        cases h
        exact x_iret C dX8_joined_75
set_option maxRecDepth 100000 in
theorem t8_joined {M : xM} {G : xG} {N : Nat} {p1 : Int32} {p2 : Int32} {p3 : Int32} {p4 : Int32} (C : xC (M, G, cdom, 9) RX8 cX8_joined (some .int)) (R : xR (M, G, cdom, 9) = xrm 3 66) {s : cS} {r : Int32} {s1 : cS} (h : f8_joined N p1 p2 p3 p4 s = some (r, s1)) : X (M, G, cdom, 9) (some (.int r)) (encC G s1) (encC G s) 0 [(0, .ref (G.2.1 0 0)), (1, .int (p1)), (2, .int (p2)), (3, .int (p3)), (4, .int (p4))] [] := by
  unfold f8_joined at h
  refine x_aload_n (j := 0) C dX8_joined_0 rfl rfl ?_
  refine x_iload_n (j := 1) C dX8_joined_1 rfl rfl ?_
  obtain ⟨⟨r2, s2⟩, e2, h⟩ := Option.bind_eq_some_iff.mp h
  try dsimp only at h
  refine k8_83 C dX8_joined_2 e2 (x_room R rfl) (Nat.le_of_ble_eq_true rfl) ?_
  refine x_astoreq (i := 5) (ls' := [(5, va_rf (Option.map (G.2.1 2) r2)), (0, .ref (G.2.1 0 0)), (1, .int (p1)), (2, .int (p2)), (3, .int (p3)), (4, .int (p4))]) C (Option.map (G.2.1 2) r2) dX8_joined_5 (Nat.le_of_ble_eq_true rfl) rfl ?_
  refine x_aload_n (j := 1) C dX8_joined_7 rfl rfl ?_
  refine x_iload_n (j := 3) C dX8_joined_8 rfl rfl ?_
  obtain ⟨⟨r9, s9⟩, e9, h⟩ := Option.bind_eq_some_iff.mp h
  try dsimp only at h
  refine k8_83 C dX8_joined_9 e9 (x_room R rfl) (Nat.le_of_ble_eq_true rfl) ?_
  refine x_astoreq (i := 6) (ls' := [(6, va_rf (Option.map (G.2.1 2) r9)), (5, va_rf (Option.map (G.2.1 2) r2)), (0, .ref (G.2.1 0 0)), (1, .int (p1)), (2, .int (p2)), (3, .int (p3)), (4, .int (p4))]) C (Option.map (G.2.1 2) r9) dX8_joined_12 (Nat.le_of_ble_eq_true rfl) (by first | (simp [va_cat]; done) | (simp [va_cat, Value.category]; done)) ?_
  refine x_aload_n (j := 2) C dX8_joined_14 rfl rfl ?_
  refine x_aloadq (j := 1) C (Option.map (G.2.1 2) r2) dX8_joined_15 rfl ?_
  cases r2 with
  | none =>
    try dsimp only at h
    change X (M, G, cdom, 9) _ _ _ 17 [(6, va_rf (Option.map (G.2.1 2) r9)), (5, .null), (0, .ref (G.2.1 0 0)), (1, .int (p1)), (2, .int (p2)), (3, .int (p3)), (4, .int (p4))] [.null, .ref (G.2.1 0 0)]
    refine x_ifnullN (tgt := 34) C dX8_joined_17 (by decide) ?_
    refine x_iconst (v := 2) C dX8_joined_34 (by decide) ?_
    refine x_goto (tgt := 53) C dX8_joined_35 (by decide) ?_
    refine x_sub (ls' := [(0, .ref (G.2.1 0 0)), (3, .int (p3)), (4, .int (p4)), (5, .null), (6, va_rf (Option.map (G.2.1 2) r9))]) [2, 5, 6, 1, 0] rfl ?_
    exact t8_joined_b53 (N := N) (p1 := p1) (p2 := p2) (p3 := p3) (p4 := p4) C R (a5 := none) (a6 := r9) h
  | some w17 =>
    try dsimp only at h
    change X (M, G, cdom, 9) _ _ _ 17 [(6, va_rf (Option.map (G.2.1 2) r9)), (5, .ref (G.2.1 2 w17)), (0, .ref (G.2.1 0 0)), (1, .int (p1)), (2, .int (p2)), (3, .int (p3)), (4, .int (p4))] [.ref (G.2.1 2 w17), .ref (G.2.1 0 0)]
    refine x_ifnull C dX8_joined_17 ?_
    refine x_aloadq (j := 0) C (Option.map (G.2.1 2) r9) dX8_joined_20 rfl ?_
    cases r9 with
    | none =>
      try dsimp only at h
      change X (M, G, cdom, 9) _ _ _ 22 [(6, .null), (5, .ref (G.2.1 2 w17)), (0, .ref (G.2.1 0 0)), (1, .int (p1)), (2, .int (p2)), (3, .int (p3)), (4, .int (p4))] [.null, .ref (G.2.1 0 0)]
      refine x_ifnullN (tgt := 34) C dX8_joined_22 (by decide) ?_
      refine x_iconst (v := 2) C dX8_joined_34 (by decide) ?_
      refine x_goto (tgt := 53) C dX8_joined_35 (by decide) ?_
      refine x_sub (ls' := [(0, .ref (G.2.1 0 0)), (3, .int (p3)), (4, .int (p4)), (5, .ref (G.2.1 2 w17)), (6, .null)]) [2, 5, 6, 1, 0] rfl ?_
      exact t8_joined_b53 (N := N) (p1 := p1) (p2 := p2) (p3 := p3) (p4 := p4) C R (a5 := (some w17)) (a6 := none) h
    | some w22 =>
      try dsimp only at h
      change X (M, G, cdom, 9) _ _ _ 22 [(6, .ref (G.2.1 2 w22)), (5, .ref (G.2.1 2 w17)), (0, .ref (G.2.1 0 0)), (1, .int (p1)), (2, .int (p2)), (3, .int (p3)), (4, .int (p4))] [.ref (G.2.1 2 w22), .ref (G.2.1 0 0)]
      refine x_ifnull C dX8_joined_22 ?_
      refine x_aload_n (j := 2) C dX8_joined_25 rfl rfl ?_
      refine x_iload (j := 6) C dX8_joined_26 rfl ?_
      obtain ⟨⟨r28, s28⟩, e28, h⟩ := Option.bind_eq_some_iff.mp h
      try dsimp only at h
      refine k8_134 C dX8_joined_28 e28 (x_room R rfl) (Nat.le_of_ble_eq_true rfl) ?_
      refine x_if_ne (tgt := 38) C dX8_joined_31 (by decide) (fun c31 => ?_) (fun c31 => ?_)
      · rw [if_neg c31] at h
        refine x_iload_n (j := 5) C dX8_joined_38 rfl rfl ?_
        refine x_sipush (v := 1000) C dX8_joined_39 (by decide) ?_
        obtain ⟨⟨r42, s42⟩, e42, h⟩ := Option.bind_eq_some_iff.mp h
        try dsimp only at h
        refine k8_113 C dX8_joined_42 e42 (x_room R rfl) (Nat.le_of_ble_eq_true rfl) ?_
        refine x_if_eq (tgt := 52) C dX8_joined_45 (by decide) (fun c45 => ?_) (fun c45 => ?_)
        · rw [if_pos c45] at h
          refine x_iconst (v := 1) C dX8_joined_52 (by decide) ?_
          refine x_sub (ls' := [(0, .ref (G.2.1 0 0)), (3, .int (p3)), (4, .int (p4)), (5, .ref (G.2.1 2 w17)), (6, .ref (G.2.1 2 w22))]) [2, 5, 6, 1, 0] rfl ?_
          exact t8_joined_b53 (N := N) (p1 := p1) (p2 := p2) (p3 := p3) (p4 := p4) C R (a5 := (some w17)) (a6 := (some w22)) h
        · rw [if_neg c45] at h
          refine x_iconst (v := 0) C dX8_joined_48 (by decide) ?_
          refine x_goto (tgt := 53) C dX8_joined_49 (by decide) ?_
          refine x_sub (ls' := [(0, .ref (G.2.1 0 0)), (3, .int (p3)), (4, .int (p4)), (5, .ref (G.2.1 2 w17)), (6, .ref (G.2.1 2 w22))]) [2, 5, 6, 1, 0] rfl ?_
          exact t8_joined_b53 (N := N) (p1 := p1) (p2 := p2) (p3 := p3) (p4 := p4) C R (a5 := (some w17)) (a6 := (some w22)) h
      · rw [if_pos c31] at h
        refine x_iconst (v := 2) C dX8_joined_34 (by decide) ?_
        refine x_goto (tgt := 53) C dX8_joined_35 (by decide) ?_
        refine x_sub (ls' := [(0, .ref (G.2.1 0 0)), (3, .int (p3)), (4, .int (p4)), (5, .ref (G.2.1 2 w17)), (6, .ref (G.2.1 2 w22))]) [2, 5, 6, 1, 0] rfl ?_
        exact t8_joined_b53 (N := N) (p1 := p1) (p2 := p2) (p3 := p3) (p4 := p4) C R (a5 := (some w17)) (a6 := (some w22)) h
theorem c8_joined (l : Launch) (G : xG) {N : Nat} {p1 : Int32} {p2 : Int32} {p3 : Int32} {p4 : Int32} {s : cS} {r : Int32} {s1 : cS} (h : f8_joined N p1 p2 p3 p4 s = some (r, s1)) : xMet l yX8_joined (x_ws yX8_joined cX8_joined 9 (some .int)) (xrm 3 66) G cdom [.ref (G.2.1 0 0), .int (p1), .int (p2), .int (p3), .int (p4)] (encC G s) (some (.int r)) (encC G s1) := by
  refine xMet.of (by decide +kernel) (Nat.le_of_ble_eq_true rfl) ?_
  rintro ⟨M, G', dom', n'⟩ e1 R e3 e4 e5 C
  change G' = G at e3; change dom' = cdom at e4; change n' = 9 at e5
  subst e3; subst e4; subst e5
  exact t8_joined C R h
set_option maxRecDepth 100000 in
theorem t6_latestPlace {M : xM} {G : xG} {N : Nat}  (C : xC (M, G, cdom, 1) RX6 cX6_latestPlace (some .int)) (R : xR (M, G, cdom, 1) = xrm 0 0) {s : cS} {r : Int32} {s1 : cS} (h : f6_latestPlace N s = some (r, s1)) : X (M, G, cdom, 1) (some (.int r)) (encC G s1) (encC G s) 0 [(0, .ref (G.2.1 19 0))] [] := by
  unfold f6_latestPlace at h
  refine x_aload_n (j := 0) C dX6_latestPlace_0 rfl rfl ?_
  refine gf6_18 C dX6_latestPlace_1 ?_
  refine x_bipush (v := 60) C dX6_latestPlace_4 (by decide) ?_
  refine x_iadd C dX6_latestPlace_6 ?_
  refine x_iconst (v := 1) C dX6_latestPlace_7 (by decide) ?_
  refine x_isub C dX6_latestPlace_8 ?_
  refine x_bipush (v := 60) C dX6_latestPlace_9 (by decide) ?_
  refine x_irem C dX6_latestPlace_11 (by decide) ?_
  cases h
  exact x_iret C dX6_latestPlace_12
theorem c6_latestPlace (l : Launch) (G : xG) {N : Nat}  {s : cS} {r : Int32} {s1 : cS} (h : f6_latestPlace N s = some (r, s1)) : xMet l yX6_latestPlace (x_ws yX6_latestPlace cX6_latestPlace 1 (some .int)) (xrm 0 0) G cdom [.ref (G.2.1 19 0)] (encC G s) (some (.int r)) (encC G s1) := by
  refine xMet.of (by decide +kernel) (Nat.le_of_ble_eq_true rfl) ?_
  rintro ⟨M, G', dom', n'⟩ e1 R e3 e4 e5 C
  change G' = G at e3; change dom' = cdom at e4; change n' = 1 at e5
  subst e3; subst e4; subst e5
  exact t6_latestPlace C R h
theorem k6_44 {M : xM} {G : xG} {n : Nat} {rv : Option Value} {E' : xE} {cc : ByteArray} {ret : Option FieldType} {pc : Nat} {ls : List (Nat × Value)} {st : List Value} {N : Nat} {s s1 : cS} {r : Int32} (C : xC (M, G, cdom, n) RX6 cc ret) (d : decode cc pc = .ok (.invokevirtual 44, 3)) (h : f6_latestPlace N s = some (r, s1)) (hR : (xrm 0 0).frames + 1 ≤ (xR (M, G, cdom, n)).frames ∧ 8 + (1 + 11) + (xrm 0 0).locals ≤ (xR (M, G, cdom, n)).locals) (hw : (st.map fun v => v.category).sum ≤ 8) (k : X (M, G, cdom, n) rv E' (encC G s1) (pc + 3) ls (.int r :: st)) : X (M, G, cdom, n) rv E' (encC G s) pc ls (.ref (G.2.1 19 0) :: st) :=
  x_callV (As := []) (n := 0) C d (c6_latestPlace (xl (M, G, cdom, n)) G h) lk699 lk701 lk50 lk82 lk702 ⟨rfl, rfl⟩ ⟨by decide +kernel, by decide +kernel, by decide +kernel⟩ rfl hR rfl rfl rfl rfl hw k
set_option maxRecDepth 100000 in
theorem t6_latest {M : xM} {G : xG} {N : Nat}  (C : xC (M, G, cdom, 1) RX6 cX6_latest (Option.some (.object "StepMeters$Act"))) (R : xR (M, G, cdom, 1) = xrm 1 21) {s : cS} {r : Option Nat} {s1 : cS} (h : f6_latest N s = some (r, s1)) : X (M, G, cdom, 1) (some (va_rf (r.map (G.2.1 21)))) (encC G s1) (encC G s) 0 [(0, .ref (G.2.1 19 0))] [] := by
  unfold f6_latest at h
  refine x_aload_n (j := 0) C dX6_latest_0 rfl rfl ?_
  refine gf6_35 C dX6_latest_1 ?_
  refine x_if_le (tgt := 18) C dX6_latest_4 (by decide) (fun c4 => ?_) (fun c4 => ?_)
  · rw [if_pos c4] at h
    refine x_null C dX6_latest_18 ?_
    cases h
    exact x_aret C _ dX6_latest_19
  · rw [if_neg c4] at h
    refine x_aload_n (j := 0) C dX6_latest_7 rfl rfl ?_
    refine x_aload_n (j := 0) C dX6_latest_8 rfl rfl ?_
    obtain ⟨⟨r9, s9⟩, e9, h⟩ := Option.bind_eq_some_iff.mp h
    try dsimp only at h
    refine k6_44 C dX6_latest_9 e9 (x_room R rfl) (Nat.le_of_ble_eq_true rfl) ?_
    obtain ⟨⟨r12, s12⟩, e12, h⟩ := Option.bind_eq_some_iff.mp h
    try dsimp only at h
    refine k6_22 C dX6_latest_12 e12 (x_room R rfl) (Nat.le_of_ble_eq_true rfl) ?_
    refine x_goto (tgt := 19) C dX6_latest_15 (by decide) ?_
    cases h
    exact x_aret C _ dX6_latest_19
theorem c6_latest (l : Launch) (G : xG) {N : Nat}  {s : cS} {r : Option Nat} {s1 : cS} (h : f6_latest N s = some (r, s1)) : xMet l yX6_latest (x_ws yX6_latest cX6_latest 1 (Option.some (.object "StepMeters$Act"))) (xrm 1 21) G cdom [.ref (G.2.1 19 0)] (encC G s) (some (va_rf (r.map (G.2.1 21)))) (encC G s1) := by
  refine xMet.of (by decide +kernel) (Nat.le_of_ble_eq_true rfl) ?_
  rintro ⟨M, G', dom', n'⟩ e1 R e3 e4 e5 C
  change G' = G at e3; change dom' = cdom at e4; change n' = 1 at e5
  subst e3; subst e4; subst e5
  exact t6_latest C R h
set_option maxRecDepth 100000 in
theorem t3_dropPart {M : xM} {G : xG} {N : Nat} {o : Nat} (C : xC (M, G, cdom, 1) RX3 cX3_dropPart none) (R : xR (M, G, cdom, 1) = xrm 0 0) (ho : o < 8) {s : cS} {s1 : cS} (h : f3_dropPart N o s = some s1) : X (M, G, cdom, 1) none (encC G s1) (encC G s) 0 [(0, .ref (G.2.1 2 o))] [] := by
  unfold f3_dropPart at h
  refine x_aload_n (j := 0) C dX3_dropPart_0 rfl rfl ?_
  refine gf3_22 C dX3_dropPart_1 ho ?_
  refine x_if_le (tgt := 17) C dX3_dropPart_4 (by decide) (fun c4 => ?_) (fun c4 => ?_)
  · rw [if_pos c4] at h
    cases h
    exact x_vret C dX3_dropPart_17
  · rw [if_neg c4] at h
    refine x_aload_n (j := 0) C dX3_dropPart_7 rfl rfl ?_
    refine x_dup C dX3_dropPart_8 rfl ?_
    refine gf3_22 C dX3_dropPart_9 ho ?_
    refine x_iconst (v := 1) C dX3_dropPart_12 (by decide) ?_
    refine x_isub C dX3_dropPart_13 ?_
    refine pf3_22 C dX3_dropPart_14 ho ?_
    cases h
    exact x_vret C dX3_dropPart_17
theorem c3_dropPart (l : Launch) (G : xG) {N : Nat} {o : Nat} {s : cS} {s1 : cS} (ho : o < 8) (h : f3_dropPart N o s = some s1) : xMet l yX3_dropPart (x_ws yX3_dropPart cX3_dropPart 1 none) (xrm 0 0) G cdom [.ref (G.2.1 2 o)] (encC G s) none (encC G s1) := by
  refine xMet.of (by decide +kernel) (Nat.le_of_ble_eq_true rfl) ?_
  rintro ⟨M, G', dom', n'⟩ e1 R e3 e4 e5 C
  change G' = G at e3; change dom' = cdom at e4; change n' = 1 at e5
  subst e3; subst e4; subst e5
  exact t3_dropPart C R ho h
set_option maxRecDepth 100000 in
theorem t3_giveWorths_l2b {M : xM} {G : xG} {N : Nat} {o : Nat} {p1 : Nat} (C : xC (M, G, cdom, 4) RX3 cX3_giveWorths none) (R : xR (M, G, cdom, 4) = xrm 1 21) (ho : o < 8) {k2 : Int32 → cS → Option (cS)} (hk2 : ∀ (a2 : Int32) (s : cS) (s1 : cS), k2 a2 s = some s1 → X (M, G, cdom, 4) none (encC G s1) (encC G s) 2 [(0, .ref (G.2.1 2 o)), (1, .ref (G.2.1 22 p1)), (2, .int (a2))] []) {a2 : Int32} {s : cS} {s1 : cS} (h : f3_giveWorths_l2b N o p1 k2 a2 s = some s1) : X (M, G, cdom, 4) none (encC G s1) (encC G s) 2 [(0, .ref (G.2.1 2 o)), (1, .ref (G.2.1 22 p1)), (2, .int (a2))] [] := by
  unfold f3_giveWorths_l2b at h
  refine x_iload_n (j := 2) C dX3_giveWorths_2 rfl rfl ?_
  refine x_aload_n (j := 0) C dX3_giveWorths_3 rfl rfl ?_
  refine gf3_22 C dX3_giveWorths_4 ho ?_
  refine x_icmp_ge (tgt := 39) C dX3_giveWorths_7 (by decide) (fun c7 => ?_) (fun c7 => ?_)
  · rw [if_pos c7] at h
    cases h
    exact x_vret C dX3_giveWorths_39
  · rw [if_neg c7] at h
    refine x_iload_n (j := 2) C dX3_giveWorths_10 rfl rfl ?_
    refine x_aload_n (j := 1) C dX3_giveWorths_11 rfl rfl ?_
    by_cases g12_1 : p1 < 60
    case neg => rw [if_neg g12_1] at h; cases h
    rw [if_pos g12_1] at h
    refine cal22 C dX3_giveWorths_12 g12_1 ?_
    refine x_icmp_ge (tgt := 39) C dX3_giveWorths_13 (by decide) (fun c13 => ?_) (fun c13 => ?_)
    · rw [if_pos c13] at h
      cases h
      exact x_vret C dX3_giveWorths_39
    · rw [if_neg c13] at h
      refine x_aload_n (j := 0) C dX3_giveWorths_16 rfl rfl ?_
      refine x_iload_n (j := 2) C dX3_giveWorths_17 rfl rfl ?_
      obtain ⟨⟨r18, s18⟩, e18, h⟩ := Option.bind_eq_some_iff.mp h
      try dsimp only at h
      refine k3_25 C dX3_giveWorths_18 e18 ho (x_room R rfl) (Nat.le_of_ble_eq_true rfl) ?_
      refine x_astore_nq (i := 3) (ls' := [(3, va_rf (Option.map (G.2.1 4) r18)), (0, .ref (G.2.1 2 o)), (1, .ref (G.2.1 22 p1)), (2, .int (a2))]) C (Option.map (G.2.1 4) r18) dX3_giveWorths_21 rfl (Nat.le_of_ble_eq_true rfl) rfl ?_
      refine x_aload_nq (j := 0) C (Option.map (G.2.1 4) r18) dX3_giveWorths_22 rfl rfl ?_
      cases r18 with
      | none =>
        try dsimp only at h
        change X (M, G, cdom, 4) _ _ _ 23 [(3, .null), (0, .ref (G.2.1 2 o)), (1, .ref (G.2.1 22 p1)), (2, .int (a2))] [.null]
        refine x_ifnullN (tgt := 33) C dX3_giveWorths_23 (by decide) ?_
        refine x_iinc (j := 3) (v := (a2 + 1)) (ls' := [(2, .int ((a2 + 1))), (3, .null), (0, .ref (G.2.1 2 o)), (1, .ref (G.2.1 22 p1))]) C dX3_giveWorths_33 rfl rfl (Nat.le_of_ble_eq_true rfl) rfl ?_
        refine x_goto (tgt := 2) C dX3_giveWorths_36 (by decide) ?_
        refine x_sub (ls' := [(0, .ref (G.2.1 2 o)), (1, .ref (G.2.1 22 p1)), (2, .int ((a2 + 1)))]) [2, 3, 0] rfl ?_
        exact hk2 _ _ _ h
      | some w23 =>
        try dsimp only at h
        change X (M, G, cdom, 4) _ _ _ 23 [(3, .ref (G.2.1 4 w23)), (0, .ref (G.2.1 2 o)), (1, .ref (G.2.1 22 p1)), (2, .int (a2))] [.ref (G.2.1 4 w23)]
        refine x_ifnull C dX3_giveWorths_23 ?_
        refine x_aload_n (j := 0) C dX3_giveWorths_26 rfl rfl ?_
        refine x_aload_n (j := 2) C dX3_giveWorths_27 rfl rfl ?_
        refine x_iload_n (j := 3) C dX3_giveWorths_28 rfl rfl ?_
        by_cases g29_2 : inB a2 16 = true
        case neg => rw [if_neg g29_2] at h; cases h
        rw [if_pos g29_2] at h
        refine cld22 C dX3_giveWorths_29 g12_1 g29_2 ?_
        by_cases g30_3 : w23 < 128
        case neg => rw [if_neg g30_3] at h; cases h
        rw [if_pos g30_3] at h
        refine pf3_35 C dX3_giveWorths_30 g30_3 ?_
        refine x_iinc (j := 3) (v := (a2 + 1)) (ls' := [(2, .int ((a2 + 1))), (3, .ref (G.2.1 4 w23)), (0, .ref (G.2.1 2 o)), (1, .ref (G.2.1 22 p1))]) C dX3_giveWorths_33 rfl rfl (Nat.le_of_ble_eq_true rfl) rfl ?_
        refine x_goto (tgt := 2) C dX3_giveWorths_36 (by decide) ?_
        refine x_sub (ls' := [(0, .ref (G.2.1 2 o)), (1, .ref (G.2.1 22 p1)), (2, .int ((a2 + 1)))]) [2, 3, 0] rfl ?_
        exact hk2 _ _ _ h
theorem t3_giveWorths_l2 {M : xM} {G : xG} {N : Nat} {o : Nat} {p1 : Nat} (C : xC (M, G, cdom, 4) RX3 cX3_giveWorths none) (R : xR (M, G, cdom, 4) = xrm 1 21) (ho : o < 8) (n : Nat) : ∀ (a2 : Int32) (s : cS) (s1 : cS), f3_giveWorths_l2 N o p1 n a2 s = some s1 → X (M, G, cdom, 4) none (encC G s1) (encC G s) 2 [(0, .ref (G.2.1 2 o)), (1, .ref (G.2.1 22 p1)), (2, .int (a2))] [] := by
  induction n with
  | zero => intro a2 s s1 h; exact (Option.some_ne_none _ (Eq.symm h)).elim
  | succ n ih => intro a2 s s1 h; exact t3_giveWorths_l2b (N := N) (o := o) (p1 := p1) C R ho (k2 := f3_giveWorths_l2 N o p1 n) ih h
set_option maxRecDepth 100000 in
theorem t3_giveWorths {M : xM} {G : xG} {N : Nat} {o : Nat} {p1 : Nat} (C : xC (M, G, cdom, 4) RX3 cX3_giveWorths none) (R : xR (M, G, cdom, 4) = xrm 1 21) (ho : o < 8) {s : cS} {s1 : cS} (h : f3_giveWorths N o p1 s = some s1) : X (M, G, cdom, 4) none (encC G s1) (encC G s) 0 [(0, .ref (G.2.1 2 o)), (1, .ref (G.2.1 22 p1))] [] := by
  unfold f3_giveWorths at h
  refine x_iconst (v := 0) C dX3_giveWorths_0 (by decide) ?_
  refine x_istore_n (i := 2) (ls' := [(2, .int (0)), (0, .ref (G.2.1 2 o)), (1, .ref (G.2.1 22 p1))]) C dX3_giveWorths_1 rfl (Nat.le_of_ble_eq_true rfl) rfl ?_
  refine x_sub (ls' := [(0, .ref (G.2.1 2 o)), (1, .ref (G.2.1 22 p1)), (2, .int (0))]) [1, 2, 0] rfl ?_
  exact t3_giveWorths_l2 (N := N) (o := o) (p1 := p1) C R ho N _ _ _ h
theorem c3_giveWorths (l : Launch) (G : xG) {N : Nat} {o : Nat} {p1 : Nat} {s : cS} {s1 : cS} (ho : o < 8) (h : f3_giveWorths N o p1 s = some s1) : xMet l yX3_giveWorths (x_ws yX3_giveWorths cX3_giveWorths 4 none) (xrm 1 21) G cdom [.ref (G.2.1 2 o), .ref (G.2.1 22 p1)] (encC G s) none (encC G s1) := by
  refine xMet.of (by decide +kernel) (Nat.le_of_ble_eq_true rfl) ?_
  rintro ⟨M, G', dom', n'⟩ e1 R e3 e4 e5 C
  change G' = G at e3; change dom' = cdom at e4; change n' = 4 at e5
  subst e3; subst e4; subst e5
  exact t3_giveWorths C R ho h
theorem k8_311 {M : xM} {G : xG} {n : Nat} {rv : Option Value} {E' : xE} {cc : ByteArray} {ret : Option FieldType} {pc : Nat} {ls : List (Nat × Value)} {st : List Value} {N : Nat} {o : Nat} {p1 : Nat} {s s1 : cS} (C : xC (M, G, cdom, n) RX8 cc ret) (d : decode cc pc = .ok (.invokevirtual 311, 3)) (h : f3_giveWorths N o p1 s = some s1) (ho : o < 8) (hR : (xrm 1 21).frames + 1 ≤ (xR (M, G, cdom, n)).frames ∧ 8 + (4 + 11) + (xrm 1 21).locals ≤ (xR (M, G, cdom, n)).locals) (hw : (st.map fun v => v.category).sum ≤ 8) (k : X (M, G, cdom, n) rv E' (encC G s1) (pc + 3) ls (st)) : X (M, G, cdom, n) rv E' (encC G s) pc ls (.ref (G.2.1 22 p1) :: .ref (G.2.1 2 o) :: st) :=
  x_callVN (As := [.ref (G.2.1 22 p1)]) (n := 1) C d (c3_giveWorths (xl (M, G, cdom, n)) G ho h) lk711 lk713 lk53 lk84 lk714 ⟨rfl, rfl⟩ ⟨by decide +kernel, by decide +kernel, by decide +kernel⟩ rfl hR (decide_eq_true ho) rfl rfl rfl hw k
theorem k8_308 {M : xM} {G : xG} {n : Nat} {rv : Option Value} {E' : xE} {cc : ByteArray} {ret : Option FieldType} {pc : Nat} {ls : List (Nat × Value)} {st : List Value} {N : Nat} {o : Nat} {s s1 : cS} (C : xC (M, G, cdom, n) RX8 cc ret) (d : decode cc pc = .ok (.invokevirtual 308, 3)) (h : f3_dropPart N o s = some s1) (ho : o < 8) (hR : (xrm 0 0).frames + 1 ≤ (xR (M, G, cdom, n)).frames ∧ 8 + (1 + 11) + (xrm 0 0).locals ≤ (xR (M, G, cdom, n)).locals) (hw : (st.map fun v => v.category).sum ≤ 8) (k : X (M, G, cdom, n) rv E' (encC G s1) (pc + 3) ls (st)) : X (M, G, cdom, n) rv E' (encC G s) pc ls (.ref (G.2.1 2 o) :: st) :=
  x_callVN (As := []) (n := 0) C d (c3_dropPart (xl (M, G, cdom, n)) G ho h) lk707 lk709 lk52 lk84 lk710 ⟨rfl, rfl⟩ ⟨by decide +kernel, by decide +kernel, by decide +kernel⟩ rfl hR (decide_eq_true ho) rfl rfl rfl hw k
set_option maxRecDepth 100000 in
theorem t8_takeBack_b141 {M : xM} {G : xG} {N : Nat} {p1 : Nat} (C : xC (M, G, cdom, 4) RX8 cX8_takeBack none) (R : xR (M, G, cdom, 4) = xrm 2 44) {a2 : Option Nat} {s : cS} {s1 : cS} (h : f8_takeBack_b141 N p1 a2 s = some s1) : X (M, G, cdom, 4) none (encC G s1) (encC G s) 141 [(1, .ref (G.2.1 21 p1)), (2, va_rf (Option.map (G.2.1 2) a2))] [] := by
  unfold f8_takeBack_b141 at h
  refine x_aload_n (j := 0) C dX8_takeBack_141 rfl rfl ?_
  by_cases g142_1 : p1 < 60
  case neg => rw [if_neg g142_1] at h; cases h
  rw [if_pos g142_1] at h
  refine gf8_305 C dX8_takeBack_142 g142_1 ?_
  refine x_iconst (v := 5) C dX8_takeBack_145 (by decide) ?_
  refine x_icmp_ne (tgt := 161) C dX8_takeBack_146 (by decide) (fun c146 => ?_) (fun c146 => ?_)
  · rw [if_neg c146] at h
    cases h
    exact x_vret C dX8_takeBack_161
  · rw [if_pos c146] at h
    refine x_aload_nq (j := 1) C (Option.map (G.2.1 2) a2) dX8_takeBack_149 rfl rfl ?_
    cases a2 with
    | none =>
      try dsimp only at h
      change X (M, G, cdom, 4) _ _ _ 150 [(1, .ref (G.2.1 21 p1)), (2, .null)] [.null]
      refine x_ifnullN (tgt := 161) C dX8_takeBack_150 (by decide) ?_
      cases h
      exact x_vret C dX8_takeBack_161
    | some w150 =>
      try dsimp only at h
      change X (M, G, cdom, 4) _ _ _ 150 [(1, .ref (G.2.1 21 p1)), (2, .ref (G.2.1 2 w150))] [.ref (G.2.1 2 w150)]
      refine x_ifnull C dX8_takeBack_150 ?_
      refine x_aload_n (j := 1) C dX8_takeBack_153 rfl rfl ?_
      refine x_aload_n (j := 0) C dX8_takeBack_154 rfl rfl ?_
      refine gf8_98 C dX8_takeBack_155 g142_1 ?_
      by_cases g158_2 : w150 < 8
      case neg => rw [if_neg g158_2] at h; cases h
      rw [if_pos g158_2] at h
      obtain ⟨s158, e158, h⟩ := Option.bind_eq_some_iff.mp h
      try dsimp only at h
      refine k8_311 C dX8_takeBack_158 e158 g158_2 (x_room R rfl) (Nat.le_of_ble_eq_true rfl) ?_
      cases h
      exact x_vret C dX8_takeBack_161
set_option maxRecDepth 100000 in
theorem t8_takeBack_b118 {M : xM} {G : xG} {N : Nat} {p1 : Nat} (C : xC (M, G, cdom, 4) RX8 cX8_takeBack none) (R : xR (M, G, cdom, 4) = xrm 2 44) {a2 : Option Nat} {a3 : Option Nat} {s : cS} {s1 : cS} (h : f8_takeBack_b118 N p1 a2 a3 s = some s1) : X (M, G, cdom, 4) none (encC G s1) (encC G s) 118 [(1, .ref (G.2.1 21 p1)), (2, va_rf (Option.map (G.2.1 2) a2)), (3, va_rf (Option.map (G.2.1 4) a3))] [] := by
  unfold f8_takeBack_b118 at h
  refine x_aload_n (j := 0) C dX8_takeBack_118 rfl rfl ?_
  by_cases g119_1 : p1 < 60
  case neg => rw [if_neg g119_1] at h; cases h
  rw [if_pos g119_1] at h
  refine gf8_305 C dX8_takeBack_119 g119_1 ?_
  refine x_iconst (v := 4) C dX8_takeBack_122 (by decide) ?_
  refine x_icmp_ne (tgt := 141) C dX8_takeBack_123 (by decide) (fun c123 => ?_) (fun c123 => ?_)
  · rw [if_neg c123] at h
    refine x_sub (ls' := [(1, .ref (G.2.1 21 p1)), (2, va_rf (Option.map (G.2.1 2) a2))]) [0, 1] rfl ?_
    exact t8_takeBack_b141 (N := N) (p1 := p1) C R (a2 := a2) h
  · rw [if_pos c123] at h
    refine x_aload_nq (j := 2) C (Option.map (G.2.1 4) a3) dX8_takeBack_126 rfl rfl ?_
    cases a3 with
    | none =>
      try dsimp only at h
      change X (M, G, cdom, 4) _ _ _ 127 [(1, .ref (G.2.1 21 p1)), (2, va_rf (Option.map (G.2.1 2) a2)), (3, .null)] [.null]
      refine x_ifnullN (tgt := 141) C dX8_takeBack_127 (by decide) ?_
      refine x_sub (ls' := [(1, .ref (G.2.1 21 p1)), (2, va_rf (Option.map (G.2.1 2) a2))]) [0, 1] rfl ?_
      exact t8_takeBack_b141 (N := N) (p1 := p1) C R (a2 := a2) h
    | some w127 =>
      try dsimp only at h
      change X (M, G, cdom, 4) _ _ _ 127 [(1, .ref (G.2.1 21 p1)), (2, va_rf (Option.map (G.2.1 2) a2)), (3, .ref (G.2.1 4 w127))] [.ref (G.2.1 4 w127)]
      refine x_ifnull C dX8_takeBack_127 ?_
      refine x_aload_n (j := 2) C dX8_takeBack_130 rfl rfl ?_
      refine x_aload_n (j := 0) C dX8_takeBack_131 rfl rfl ?_
      refine gf8_78 C dX8_takeBack_132 g119_1 ?_
      by_cases g135_2 : w127 < 128
      case neg => rw [if_neg g135_2] at h; cases h
      rw [if_pos g135_2] at h
      refine pf8_125 C dX8_takeBack_135 g135_2 ?_
      refine x_goto (tgt := 161) C dX8_takeBack_138 (by decide) ?_
      cases h
      exact x_vret C dX8_takeBack_161
set_option maxRecDepth 100000 in
theorem t8_takeBack_b95 {M : xM} {G : xG} {N : Nat} {p1 : Nat} (C : xC (M, G, cdom, 4) RX8 cX8_takeBack none) (R : xR (M, G, cdom, 4) = xrm 2 44) {a2 : Option Nat} {a3 : Option Nat} {s : cS} {s1 : cS} (h : f8_takeBack_b95 N p1 a2 a3 s = some s1) : X (M, G, cdom, 4) none (encC G s1) (encC G s) 95 [(1, .ref (G.2.1 21 p1)), (2, va_rf (Option.map (G.2.1 2) a2)), (3, va_rf (Option.map (G.2.1 4) a3))] [] := by
  unfold f8_takeBack_b95 at h
  refine x_aload_n (j := 0) C dX8_takeBack_95 rfl rfl ?_
  by_cases g96_1 : p1 < 60
  case neg => rw [if_neg g96_1] at h; cases h
  rw [if_pos g96_1] at h
  refine gf8_305 C dX8_takeBack_96 g96_1 ?_
  refine x_iconst (v := 3) C dX8_takeBack_99 (by decide) ?_
  refine x_icmp_ne (tgt := 118) C dX8_takeBack_100 (by decide) (fun c100 => ?_) (fun c100 => ?_)
  · rw [if_neg c100] at h
    exact t8_takeBack_b118 (N := N) (p1 := p1) C R (a2 := a2) (a3 := a3) h
  · rw [if_pos c100] at h
    refine x_aload_nq (j := 2) C (Option.map (G.2.1 4) a3) dX8_takeBack_103 rfl rfl ?_
    cases a3 with
    | none =>
      try dsimp only at h
      change X (M, G, cdom, 4) _ _ _ 104 [(1, .ref (G.2.1 21 p1)), (2, va_rf (Option.map (G.2.1 2) a2)), (3, .null)] [.null]
      refine x_ifnullN (tgt := 118) C dX8_takeBack_104 (by decide) ?_
      exact t8_takeBack_b118 (N := N) (p1 := p1) C R (a2 := a2) (a3 := none) h
    | some w104 =>
      try dsimp only at h
      change X (M, G, cdom, 4) _ _ _ 104 [(1, .ref (G.2.1 21 p1)), (2, va_rf (Option.map (G.2.1 2) a2)), (3, .ref (G.2.1 4 w104))] [.ref (G.2.1 4 w104)]
      refine x_ifnull C dX8_takeBack_104 ?_
      refine x_aload_n (j := 2) C dX8_takeBack_107 rfl rfl ?_
      refine x_aload_n (j := 0) C dX8_takeBack_108 rfl rfl ?_
      refine gf8_78 C dX8_takeBack_109 g96_1 ?_
      by_cases g112_2 : w104 < 128
      case neg => rw [if_neg g112_2] at h; cases h
      rw [if_pos g112_2] at h
      refine pf8_117 C dX8_takeBack_112 g112_2 ?_
      refine x_goto (tgt := 161) C dX8_takeBack_115 (by decide) ?_
      cases h
      exact x_vret C dX8_takeBack_161
set_option maxRecDepth 100000 in
theorem t8_takeBack_b68 {M : xM} {G : xG} {N : Nat} {p1 : Nat} (C : xC (M, G, cdom, 4) RX8 cX8_takeBack none) (R : xR (M, G, cdom, 4) = xrm 2 44) {a2 : Option Nat} {a3 : Option Nat} {s : cS} {s1 : cS} (h : f8_takeBack_b68 N p1 a2 a3 s = some s1) : X (M, G, cdom, 4) none (encC G s1) (encC G s) 68 [(1, .ref (G.2.1 21 p1)), (2, va_rf (Option.map (G.2.1 2) a2)), (3, va_rf (Option.map (G.2.1 4) a3))] [] := by
  unfold f8_takeBack_b68 at h
  refine x_aload_n (j := 0) C dX8_takeBack_68 rfl rfl ?_
  by_cases g69_1 : p1 < 60
  case neg => rw [if_neg g69_1] at h; cases h
  rw [if_pos g69_1] at h
  refine gf8_305 C dX8_takeBack_69 g69_1 ?_
  refine x_iconst (v := 2) C dX8_takeBack_72 (by decide) ?_
  refine x_icmp_ne (tgt := 95) C dX8_takeBack_73 (by decide) (fun c73 => ?_) (fun c73 => ?_)
  · rw [if_neg c73] at h
    exact t8_takeBack_b95 (N := N) (p1 := p1) C R (a2 := a2) (a3 := a3) h
  · rw [if_pos c73] at h
    refine x_aload_nq (j := 1) C (Option.map (G.2.1 2) a2) dX8_takeBack_76 rfl rfl ?_
    cases a2 with
    | none =>
      try dsimp only at h
      change X (M, G, cdom, 4) _ _ _ 77 [(1, .ref (G.2.1 21 p1)), (2, .null), (3, va_rf (Option.map (G.2.1 4) a3))] [.null]
      refine x_ifnullN (tgt := 95) C dX8_takeBack_77 (by decide) ?_
      exact t8_takeBack_b95 (N := N) (p1 := p1) C R (a2 := none) (a3 := a3) h
    | some w77 =>
      try dsimp only at h
      change X (M, G, cdom, 4) _ _ _ 77 [(1, .ref (G.2.1 21 p1)), (2, .ref (G.2.1 2 w77)), (3, va_rf (Option.map (G.2.1 4) a3))] [.ref (G.2.1 2 w77)]
      refine x_ifnull C dX8_takeBack_77 ?_
      refine x_aload_n (j := 1) C dX8_takeBack_80 rfl rfl ?_
      by_cases g81_2 : w77 < 8
      case neg => rw [if_neg g81_2] at h; cases h
      rw [if_pos g81_2] at h
      obtain ⟨s81, e81, h⟩ := Option.bind_eq_some_iff.mp h
      try dsimp only at h
      refine k8_308 C dX8_takeBack_81 e81 g81_2 (x_room R rfl) (Nat.le_of_ble_eq_true rfl) ?_
      refine x_aload_n (j := 1) C dX8_takeBack_84 rfl rfl ?_
      refine x_aload_n (j := 0) C dX8_takeBack_85 rfl rfl ?_
      refine gf8_98 C dX8_takeBack_86 g69_1 ?_
      obtain ⟨s89, e89, h⟩ := Option.bind_eq_some_iff.mp h
      try dsimp only at h
      refine k8_311 C dX8_takeBack_89 e89 g81_2 (x_room R rfl) (Nat.le_of_ble_eq_true rfl) ?_
      refine x_goto (tgt := 161) C dX8_takeBack_92 (by decide) ?_
      cases h
      exact x_vret C dX8_takeBack_161
set_option maxRecDepth 100000 in
theorem t8_takeBack {M : xM} {G : xG} {N : Nat} {p1 : Nat} (C : xC (M, G, cdom, 4) RX8 cX8_takeBack none) (R : xR (M, G, cdom, 4) = xrm 2 44) {s : cS} {s1 : cS} (h : f8_takeBack N p1 s = some s1) : X (M, G, cdom, 4) none (encC G s1) (encC G s) 0 [(0, .ref (G.2.1 0 0)), (1, .ref (G.2.1 21 p1))] [] := by
  unfold f8_takeBack at h
  refine x_aload_n (j := 0) C dX8_takeBack_0 rfl rfl ?_
  refine x_aload_n (j := 1) C dX8_takeBack_1 rfl rfl ?_
  by_cases g2_1 : p1 < 60
  case neg => rw [if_neg g2_1] at h; cases h
  rw [if_pos g2_1] at h
  refine gf8_303 C dX8_takeBack_2 g2_1 ?_
  obtain ⟨⟨r5, s5⟩, e5, h⟩ := Option.bind_eq_some_iff.mp h
  try dsimp only at h
  refine k8_83 C dX8_takeBack_5 e5 (x_room R rfl) (Nat.le_of_ble_eq_true rfl) ?_
  refine x_astore_nq (i := 2) (ls' := [(2, va_rf (Option.map (G.2.1 2) r5)), (0, .ref (G.2.1 0 0)), (1, .ref (G.2.1 21 p1))]) C (Option.map (G.2.1 2) r5) dX8_takeBack_8 rfl (Nat.le_of_ble_eq_true rfl) rfl ?_
  refine x_aload_n (j := 1) C dX8_takeBack_9 rfl rfl ?_
  refine x_aload_n (j := 2) C dX8_takeBack_10 rfl rfl ?_
  refine gf8_303 C dX8_takeBack_11 g2_1 ?_
  refine x_aload_n (j := 2) C dX8_takeBack_14 rfl rfl ?_
  refine gf8_304 C dX8_takeBack_15 g2_1 ?_
  obtain ⟨⟨r18, s18⟩, e18, h⟩ := Option.bind_eq_some_iff.mp h
  try dsimp only at h
  refine k8_109 C dX8_takeBack_18 e18 (x_room R rfl) (Nat.le_of_ble_eq_true rfl) ?_
  refine x_astore_nq (i := 3) (ls' := [(3, va_rf (Option.map (G.2.1 4) r18)), (2, va_rf (Option.map (G.2.1 2) r5)), (0, .ref (G.2.1 0 0)), (1, .ref (G.2.1 21 p1))]) C (Option.map (G.2.1 4) r18) dX8_takeBack_21 rfl (Nat.le_of_ble_eq_true rfl) (by first | (simp [va_cat]; done) | (simp [va_cat, Value.category]; done)) ?_
  refine x_aload_n (j := 3) C dX8_takeBack_22 rfl rfl ?_
  refine gf8_305 C dX8_takeBack_23 g2_1 ?_
  refine x_if_ne (tgt := 40) C dX8_takeBack_26 (by decide) (fun c26 => ?_) (fun c26 => ?_)
  · rw [if_neg c26] at h
    refine x_aload_n (j := 3) C dX8_takeBack_40 rfl rfl ?_
    refine gf8_305 C dX8_takeBack_41 g2_1 ?_
    refine x_iconst (v := 1) C dX8_takeBack_44 (by decide) ?_
    refine x_icmp_ne (tgt := 68) C dX8_takeBack_45 (by decide) (fun c45 => ?_) (fun c45 => ?_)
    · rw [if_neg c45] at h
      refine x_sub (ls' := [(1, .ref (G.2.1 21 p1)), (2, va_rf (Option.map (G.2.1 2) r5)), (3, va_rf (Option.map (G.2.1 4) r18))]) [3, 1, 0] rfl ?_
      exact t8_takeBack_b68 (N := N) (p1 := p1) C R (a2 := r5) (a3 := r18) h
    · rw [if_pos c45] at h
      refine x_aload_n (j := 2) C dX8_takeBack_48 rfl rfl ?_
      refine gf8_60 C dX8_takeBack_49 ?_
      refine x_if_le (tgt := 68) C dX8_takeBack_52 (by decide) (fun c52 => ?_) (fun c52 => ?_)
      · rw [if_pos c52] at h
        refine x_sub (ls' := [(1, .ref (G.2.1 21 p1)), (2, va_rf (Option.map (G.2.1 2) r5)), (3, va_rf (Option.map (G.2.1 4) r18))]) [3, 1, 0] rfl ?_
        exact t8_takeBack_b68 (N := N) (p1 := p1) C R (a2 := r5) (a3 := r18) h
      · rw [if_neg c52] at h
        refine x_aload_n (j := 2) C dX8_takeBack_55 rfl rfl ?_
        refine x_dup C dX8_takeBack_56 rfl ?_
        refine gf8_60 C dX8_takeBack_57 ?_
        refine x_iconst (v := 1) C dX8_takeBack_60 (by decide) ?_
        refine x_isub C dX8_takeBack_61 ?_
        refine pf8_60 C dX8_takeBack_62 ?_
        refine x_goto (tgt := 161) C dX8_takeBack_65 (by decide) ?_
        cases h
        exact x_vret C dX8_takeBack_161
  · rw [if_pos c26] at h
    refine x_aload_n (j := 2) C dX8_takeBack_29 rfl rfl ?_
    refine x_aload_n (j := 3) C dX8_takeBack_30 rfl rfl ?_
    refine gf8_78 C dX8_takeBack_31 g2_1 ?_
    refine pf8_56 C dX8_takeBack_34 ?_
    refine x_goto (tgt := 161) C dX8_takeBack_37 (by decide) ?_
    cases h
    exact x_vret C dX8_takeBack_161
theorem c8_takeBack (l : Launch) (G : xG) {N : Nat} {p1 : Nat} {s : cS} {s1 : cS} (h : f8_takeBack N p1 s = some s1) : xMet l yX8_takeBack (x_ws yX8_takeBack cX8_takeBack 4 none) (xrm 2 44) G cdom [.ref (G.2.1 0 0), .ref (G.2.1 21 p1)] (encC G s) none (encC G s1) := by
  refine xMet.of (by decide +kernel) (Nat.le_of_ble_eq_true rfl) ?_
  rintro ⟨M, G', dom', n'⟩ e1 R e3 e4 e5 C
  change G' = G at e3; change dom' = cdom at e4; change n' = 4 at e5
  subst e3; subst e4; subst e5
  exact t8_takeBack C R h
set_option maxRecDepth 100000 in
theorem t6_dropLatest {M : xM} {G : xG} {N : Nat}  (C : xC (M, G, cdom, 1) RX6 cX6_dropLatest none) (R : xR (M, G, cdom, 1) = xrm 1 20) {s : cS} {s1 : cS} (h : f6_dropLatest N s = some s1) : X (M, G, cdom, 1) none (encC G s1) (encC G s) 0 [(0, .ref (G.2.1 19 0))] [] := by
  unfold f6_dropLatest at h
  refine x_aload_n (j := 0) C dX6_dropLatest_0 rfl rfl ?_
  refine gf6_35 C dX6_dropLatest_1 ?_
  refine x_if_le (tgt := 25) C dX6_dropLatest_4 (by decide) (fun c4 => ?_) (fun c4 => ?_)
  · rw [if_pos c4] at h
    cases h
    exact x_vret C dX6_dropLatest_25
  · rw [if_neg c4] at h
    refine x_aload_n (j := 0) C dX6_dropLatest_7 rfl rfl ?_
    refine x_aload_n (j := 0) C dX6_dropLatest_8 rfl rfl ?_
    obtain ⟨⟨r9, s9⟩, e9, h⟩ := Option.bind_eq_some_iff.mp h
    try dsimp only at h
    refine k6_44 C dX6_dropLatest_9 e9 (x_room R rfl) (Nat.le_of_ble_eq_true rfl) ?_
    refine pf6_18 C dX6_dropLatest_12 ?_
    refine x_aload_n (j := 0) C dX6_dropLatest_15 rfl rfl ?_
    refine x_dup C dX6_dropLatest_16 rfl ?_
    refine gf6_35 C dX6_dropLatest_17 ?_
    refine x_iconst (v := 1) C dX6_dropLatest_20 (by decide) ?_
    refine x_isub C dX6_dropLatest_21 ?_
    refine pf6_35 C dX6_dropLatest_22 ?_
    cases h
    exact x_vret C dX6_dropLatest_25
theorem c6_dropLatest (l : Launch) (G : xG) {N : Nat}  {s : cS} {s1 : cS} (h : f6_dropLatest N s = some s1) : xMet l yX6_dropLatest (x_ws yX6_dropLatest cX6_dropLatest 1 none) (xrm 1 20) G cdom [.ref (G.2.1 19 0)] (encC G s) none (encC G s1) := by
  refine xMet.of (by decide +kernel) (Nat.le_of_ble_eq_true rfl) ?_
  rintro ⟨M, G', dom', n'⟩ e1 R e3 e4 e5 C
  change G' = G at e3; change dom' = cdom at e4; change n' = 1 at e5
  subst e3; subst e4; subst e5
  exact t6_dropLatest C R h
set_option maxRecDepth 100000 in
theorem t8_dropGoneFaults_l9b {M : xM} {G : xG} {N : Nat}  (C : xC (M, G, cdom, 6) RX8 cX8_dropGoneFaults none) (R : xR (M, G, cdom, 6) = xrm 2 44) {k9 : Int32 → Int32 → Int32 → cS → Option (cS)} (hk9 : ∀ (a1 : Int32) (a2 : Int32) (a3 : Int32) (s : cS) (s1 : cS), k9 a1 a2 a3 s = some s1 → X (M, G, cdom, 6) none (encC G s1) (encC G s) 9 [(0, .ref (G.2.1 0 0)), (1, .int (a1)), (2, .int (a2)), (3, .int (a3))] []) {a1 : Int32} {a2 : Int32} {a3 : Int32} {s : cS} {s1 : cS} (h : f8_dropGoneFaults_l9b N k9 a1 a2 a3 s = some s1) : X (M, G, cdom, 6) none (encC G s1) (encC G s) 9 [(0, .ref (G.2.1 0 0)), (1, .int (a1)), (2, .int (a2)), (3, .int (a3))] [] := by
  unfold f8_dropGoneFaults_l9b at h
  refine x_iload_n (j := 3) C dX8_dropGoneFaults_9 rfl rfl ?_
  refine x_iload_n (j := 1) C dX8_dropGoneFaults_10 rfl rfl ?_
  refine x_icmp_ge (tgt := 93) C dX8_dropGoneFaults_11 (by decide) (fun c11 => ?_) (fun c11 => ?_)
  · rw [if_pos c11] at h
    refine x_aload_n (j := 0) C dX8_dropGoneFaults_93 rfl rfl ?_
    refine x_iload_n (j := 2) C dX8_dropGoneFaults_94 rfl rfl ?_
    refine pf8_63 C dX8_dropGoneFaults_95 ?_
    cases h
    exact x_vret C dX8_dropGoneFaults_98
  · rw [if_neg c11] at h
    refine x_iload_n (j := 3) C dX8_dropGoneFaults_14 rfl rfl ?_
    refine x_aload_n (j := 0) C dX8_dropGoneFaults_15 rfl rfl ?_
    refine gf8_31 C dX8_dropGoneFaults_16 ?_
    refine cal11 C dX8_dropGoneFaults_19 ?_
    refine x_icmp_ge (tgt := 93) C dX8_dropGoneFaults_20 (by decide) (fun c20 => ?_) (fun c20 => ?_)
    · rw [if_pos c20] at h
      refine x_aload_n (j := 0) C dX8_dropGoneFaults_93 rfl rfl ?_
      refine x_iload_n (j := 2) C dX8_dropGoneFaults_94 rfl rfl ?_
      refine pf8_63 C dX8_dropGoneFaults_95 ?_
      cases h
      exact x_vret C dX8_dropGoneFaults_98
    · rw [if_neg c20] at h
      refine x_aload_n (j := 0) C dX8_dropGoneFaults_23 rfl rfl ?_
      refine x_iload_n (j := 3) C dX8_dropGoneFaults_24 rfl rfl ?_
      obtain ⟨⟨r25, s25⟩, e25, h⟩ := Option.bind_eq_some_iff.mp h
      try dsimp only at h
      refine k8_225 C dX8_dropGoneFaults_25 e25 (x_room R rfl) (Nat.le_of_ble_eq_true rfl) ?_
      refine x_astoreq (i := 4) (ls' := [(4, va_rf (Option.map (G.2.1 12) r25)), (0, .ref (G.2.1 0 0)), (1, .int (a1)), (2, .int (a2)), (3, .int (a3))]) C (Option.map (G.2.1 12) r25) dX8_dropGoneFaults_28 (Nat.le_of_ble_eq_true rfl) rfl ?_
      refine x_aload_n (j := 1) C dX8_dropGoneFaults_30 rfl rfl ?_
      refine x_iload_n (j := 3) C dX8_dropGoneFaults_31 rfl rfl ?_
      obtain ⟨⟨r32, s32⟩, e32, h⟩ := Option.bind_eq_some_iff.mp h
      try dsimp only at h
      refine k8_225 C dX8_dropGoneFaults_32 e32 (x_room R rfl) (Nat.le_of_ble_eq_true rfl) ?_
      refine x_astoreq (i := 5) (ls' := [(5, va_rf (Option.map (G.2.1 12) r32)), (4, va_rf (Option.map (G.2.1 12) r25)), (0, .ref (G.2.1 0 0)), (1, .int (a1)), (2, .int (a2)), (3, .int (a3))]) C (Option.map (G.2.1 12) r32) dX8_dropGoneFaults_35 (Nat.le_of_ble_eq_true rfl) (by first | (simp [va_cat]; done) | (simp [va_cat, Value.category]; done)) ?_
      refine x_aloadq (j := 1) C (Option.map (G.2.1 12) r25) dX8_dropGoneFaults_37 rfl ?_
      cases r25 with
      | none =>
        try dsimp only at h
        change X (M, G, cdom, 6) _ _ _ 39 [(5, va_rf (Option.map (G.2.1 12) r32)), (4, .null), (0, .ref (G.2.1 0 0)), (1, .int (a1)), (2, .int (a2)), (3, .int (a3))] [.null]
        refine x_ifnullN (tgt := 87) C dX8_dropGoneFaults_39 (by decide) ?_
        refine x_iinc (j := 5) (v := (a3 + 1)) (ls' := [(3, .int ((a3 + 1))), (5, va_rf (Option.map (G.2.1 12) r32)), (4, .null), (0, .ref (G.2.1 0 0)), (1, .int (a1)), (2, .int (a2))]) C dX8_dropGoneFaults_87 rfl rfl (Nat.le_of_ble_eq_true rfl) rfl ?_
        refine x_goto (tgt := 9) C dX8_dropGoneFaults_90 (by decide) ?_
        refine x_sub (ls' := [(0, .ref (G.2.1 0 0)), (1, .int (a1)), (2, .int (a2)), (3, .int ((a3 + 1)))]) [3, 4, 5, 0] rfl ?_
        exact hk9 _ _ _ _ _ h
      | some w39 =>
        try dsimp only at h
        change X (M, G, cdom, 6) _ _ _ 39 [(5, va_rf (Option.map (G.2.1 12) r32)), (4, .ref (G.2.1 12 w39)), (0, .ref (G.2.1 0 0)), (1, .int (a1)), (2, .int (a2)), (3, .int (a3))] [.ref (G.2.1 12 w39)]
        refine x_ifnull C dX8_dropGoneFaults_39 ?_
        refine x_aloadq (j := 0) C (Option.map (G.2.1 12) r32) dX8_dropGoneFaults_42 rfl ?_
        cases r32 with
        | none =>
          try dsimp only at h
          change X (M, G, cdom, 6) _ _ _ 44 [(5, .null), (4, .ref (G.2.1 12 w39)), (0, .ref (G.2.1 0 0)), (1, .int (a1)), (2, .int (a2)), (3, .int (a3))] [.null]
          refine x_ifnullN (tgt := 87) C dX8_dropGoneFaults_44 (by decide) ?_
          refine x_iinc (j := 5) (v := (a3 + 1)) (ls' := [(3, .int ((a3 + 1))), (5, .null), (4, .ref (G.2.1 12 w39)), (0, .ref (G.2.1 0 0)), (1, .int (a1)), (2, .int (a2))]) C dX8_dropGoneFaults_87 rfl rfl (Nat.le_of_ble_eq_true rfl) rfl ?_
          refine x_goto (tgt := 9) C dX8_dropGoneFaults_90 (by decide) ?_
          refine x_sub (ls' := [(0, .ref (G.2.1 0 0)), (1, .int (a1)), (2, .int (a2)), (3, .int ((a3 + 1)))]) [3, 4, 5, 0] rfl ?_
          exact hk9 _ _ _ _ _ h
        | some w44 =>
          try dsimp only at h
          change X (M, G, cdom, 6) _ _ _ 44 [(5, .ref (G.2.1 12 w44)), (4, .ref (G.2.1 12 w39)), (0, .ref (G.2.1 0 0)), (1, .int (a1)), (2, .int (a2)), (3, .int (a3))] [.ref (G.2.1 12 w44)]
          refine x_ifnull C dX8_dropGoneFaults_44 ?_
          refine x_aload_n (j := 2) C dX8_dropGoneFaults_47 rfl rfl ?_
          refine x_aload (j := 1) C dX8_dropGoneFaults_48 rfl ?_
          by_cases g50_1 : w39 < 10
          case neg => rw [if_neg g50_1] at h; cases h
          rw [if_pos g50_1] at h
          refine gf8_289 C dX8_dropGoneFaults_50 g50_1 ?_
          refine x_aload (j := 1) C dX8_dropGoneFaults_53 rfl ?_
          refine gf8_296 C dX8_dropGoneFaults_55 g50_1 ?_
          obtain ⟨⟨r58, s58⟩, e58, h⟩ := Option.bind_eq_some_iff.mp h
          try dsimp only at h
          refine k8_109 C dX8_dropGoneFaults_58 e58 (x_room R rfl) (Nat.le_of_ble_eq_true rfl) ?_
          cases r58 with
          | none =>
            try dsimp only at h
            change X (M, G, cdom, 6) _ _ _ 61 [(5, .ref (G.2.1 12 w44)), (4, .ref (G.2.1 12 w39)), (0, .ref (G.2.1 0 0)), (1, .int (a1)), (2, .int (a2)), (3, .int (a3))] [.null]
            refine x_ifnullN (tgt := 87) C dX8_dropGoneFaults_61 (by decide) ?_
            refine x_iinc (j := 5) (v := (a3 + 1)) (ls' := [(3, .int ((a3 + 1))), (5, .ref (G.2.1 12 w44)), (4, .ref (G.2.1 12 w39)), (0, .ref (G.2.1 0 0)), (1, .int (a1)), (2, .int (a2))]) C dX8_dropGoneFaults_87 rfl rfl (Nat.le_of_ble_eq_true rfl) rfl ?_
            refine x_goto (tgt := 9) C dX8_dropGoneFaults_90 (by decide) ?_
            refine x_sub (ls' := [(0, .ref (G.2.1 0 0)), (1, .int (a1)), (2, .int (a2)), (3, .int ((a3 + 1)))]) [3, 4, 5, 0] rfl ?_
            exact hk9 _ _ _ _ _ h
          | some w61 =>
            try dsimp only at h
            change X (M, G, cdom, 6) _ _ _ 61 [(5, .ref (G.2.1 12 w44)), (4, .ref (G.2.1 12 w39)), (0, .ref (G.2.1 0 0)), (1, .int (a1)), (2, .int (a2)), (3, .int (a3))] [.ref (G.2.1 4 w61)]
            refine x_ifnull C dX8_dropGoneFaults_61 ?_
            refine x_aload (j := 0) C dX8_dropGoneFaults_64 rfl ?_
            refine x_aload (j := 1) C dX8_dropGoneFaults_66 rfl ?_
            refine gf8_289 C dX8_dropGoneFaults_68 g50_1 ?_
            refine x_aload (j := 1) C dX8_dropGoneFaults_71 rfl ?_
            refine gf8_296 C dX8_dropGoneFaults_73 g50_1 ?_
            refine x_aload (j := 1) C dX8_dropGoneFaults_76 rfl ?_
            refine gf8_299 C dX8_dropGoneFaults_78 g50_1 ?_
            by_cases g81_2 : w44 < 10
            case neg => rw [if_neg g81_2] at h; cases h
            rw [if_pos g81_2] at h
            obtain ⟨s81, e81, h⟩ := Option.bind_eq_some_iff.mp h
            try dsimp only at h
            refine k8_229 C dX8_dropGoneFaults_81 e81 g81_2 (x_room R rfl) (Nat.le_of_ble_eq_true rfl) ?_
            refine x_iinc (j := 4) (v := (a2 + 1)) (ls' := [(2, .int ((a2 + 1))), (5, .ref (G.2.1 12 w44)), (4, .ref (G.2.1 12 w39)), (0, .ref (G.2.1 0 0)), (1, .int (a1)), (3, .int (a3))]) C dX8_dropGoneFaults_84 rfl rfl (Nat.le_of_ble_eq_true rfl) rfl ?_
            refine x_iinc (j := 5) (v := (a3 + 1)) (ls' := [(3, .int ((a3 + 1))), (2, .int ((a2 + 1))), (5, .ref (G.2.1 12 w44)), (4, .ref (G.2.1 12 w39)), (0, .ref (G.2.1 0 0)), (1, .int (a1))]) C dX8_dropGoneFaults_87 rfl rfl (Nat.le_of_ble_eq_true rfl) rfl ?_
            refine x_goto (tgt := 9) C dX8_dropGoneFaults_90 (by decide) ?_
            refine x_sub (ls' := [(0, .ref (G.2.1 0 0)), (1, .int (a1)), (2, .int ((a2 + 1))), (3, .int ((a3 + 1)))]) [4, 5, 1, 0] rfl ?_
            exact hk9 _ _ _ _ _ h
theorem t8_dropGoneFaults_l9 {M : xM} {G : xG} {N : Nat}  (C : xC (M, G, cdom, 6) RX8 cX8_dropGoneFaults none) (R : xR (M, G, cdom, 6) = xrm 2 44) (n : Nat) : ∀ (a1 : Int32) (a2 : Int32) (a3 : Int32) (s : cS) (s1 : cS), f8_dropGoneFaults_l9 N n a1 a2 a3 s = some s1 → X (M, G, cdom, 6) none (encC G s1) (encC G s) 9 [(0, .ref (G.2.1 0 0)), (1, .int (a1)), (2, .int (a2)), (3, .int (a3))] [] := by
  induction n with
  | zero => intro a1 a2 a3 s s1 h; exact (Option.some_ne_none _ (Eq.symm h)).elim
  | succ n ih => intro a1 a2 a3 s s1 h; exact t8_dropGoneFaults_l9b (N := N) C R (k9 := f8_dropGoneFaults_l9 N n) ih h
set_option maxRecDepth 100000 in
theorem t8_dropGoneFaults {M : xM} {G : xG} {N : Nat}  (C : xC (M, G, cdom, 6) RX8 cX8_dropGoneFaults none) (R : xR (M, G, cdom, 6) = xrm 2 44) {s : cS} {s1 : cS} (h : f8_dropGoneFaults N s = some s1) : X (M, G, cdom, 6) none (encC G s1) (encC G s) 0 [(0, .ref (G.2.1 0 0))] [] := by
  unfold f8_dropGoneFaults at h
  refine x_aload_n (j := 0) C dX8_dropGoneFaults_0 rfl rfl ?_
  refine gf8_63 C dX8_dropGoneFaults_1 ?_
  refine x_istore_n (i := 1) (ls' := [(1, .int ((s.1 2 0))), (0, .ref (G.2.1 0 0))]) C dX8_dropGoneFaults_4 rfl (Nat.le_of_ble_eq_true rfl) rfl ?_
  refine x_iconst (v := 0) C dX8_dropGoneFaults_5 (by decide) ?_
  refine x_istore_n (i := 2) (ls' := [(2, .int (0)), (1, .int ((s.1 2 0))), (0, .ref (G.2.1 0 0))]) C dX8_dropGoneFaults_6 rfl (Nat.le_of_ble_eq_true rfl) rfl ?_
  refine x_iconst (v := 0) C dX8_dropGoneFaults_7 (by decide) ?_
  refine x_istore_n (i := 3) (ls' := [(3, .int (0)), (2, .int (0)), (1, .int ((s.1 2 0))), (0, .ref (G.2.1 0 0))]) C dX8_dropGoneFaults_8 rfl (Nat.le_of_ble_eq_true rfl) rfl ?_
  refine x_sub (ls' := [(0, .ref (G.2.1 0 0)), (1, .int ((s.1 2 0))), (2, .int (0)), (3, .int (0))]) [3, 2, 1, 0] rfl ?_
  exact t8_dropGoneFaults_l9 (N := N) C R N _ _ _ _ _ h
theorem c8_dropGoneFaults (l : Launch) (G : xG) {N : Nat}  {s : cS} {s1 : cS} (h : f8_dropGoneFaults N s = some s1) : xMet l yX8_dropGoneFaults (x_ws yX8_dropGoneFaults cX8_dropGoneFaults 6 none) (xrm 2 44) G cdom [.ref (G.2.1 0 0)] (encC G s) none (encC G s1) := by
  refine xMet.of (by decide +kernel) (Nat.le_of_ble_eq_true rfl) ?_
  rintro ⟨M, G', dom', n'⟩ e1 R e3 e4 e5 C
  change G' = G at e3; change dom' = cdom at e4; change n' = 6 at e5
  subst e3; subst e4; subst e5
  exact t8_dropGoneFaults C R h
theorem k8_260 {M : xM} {G : xG} {n : Nat} {rv : Option Value} {E' : xE} {cc : ByteArray} {ret : Option FieldType} {pc : Nat} {ls : List (Nat × Value)} {st : List Value} {N : Nat} {s s1 : cS} {r : Option Nat} (C : xC (M, G, cdom, n) RX8 cc ret) (d : decode cc pc = .ok (.invokevirtual 260, 3)) (h : f6_latest N s = some (r, s1)) (hR : (xrm 1 21).frames + 1 ≤ (xR (M, G, cdom, n)).frames ∧ 8 + (1 + 11) + (xrm 1 21).locals ≤ (xR (M, G, cdom, n)).locals) (hw : (st.map fun v => v.category).sum ≤ 8) (k : X (M, G, cdom, n) rv E' (encC G s1) (pc + 3) ls (va_rf (Option.map (G.2.1 21) r) :: st)) : X (M, G, cdom, n) rv E' (encC G s) pc ls (.ref (G.2.1 19 0) :: st) :=
  x_callVN (As := []) (n := 0) C d (c6_latest (xl (M, G, cdom, n)) G h) lk695 lk697 lk49 lk82 lk698 ⟨rfl, rfl⟩ ⟨by decide +kernel, by decide +kernel, by decide +kernel⟩ rfl hR rfl rfl rfl rfl hw k
theorem k8_264 {M : xM} {G : xG} {n : Nat} {rv : Option Value} {E' : xE} {cc : ByteArray} {ret : Option FieldType} {pc : Nat} {ls : List (Nat × Value)} {st : List Value} {N : Nat} {p1 : Nat} {s s1 : cS} (C : xC (M, G, cdom, n) RX8 cc ret) (d : decode cc pc = .ok (.invokevirtual 264, 3)) (h : f8_takeBack N p1 s = some s1) (hR : (xrm 2 44).frames + 1 ≤ (xR (M, G, cdom, n)).frames ∧ 8 + (4 + 11) + (xrm 2 44).locals ≤ (xR (M, G, cdom, n)).locals) (hw : (st.map fun v => v.category).sum ≤ 8) (k : X (M, G, cdom, n) rv E' (encC G s1) (pc + 3) ls (st)) : X (M, G, cdom, n) rv E' (encC G s) pc ls (.ref (G.2.1 21 p1) :: .ref (G.2.1 0 0) :: st) :=
  x_callV (As := [.ref (G.2.1 21 p1)]) (n := 1) C d (c8_takeBack (xl (M, G, cdom, n)) G h) lk703 lk705 lk51 lk78 lk706 ⟨rfl, rfl⟩ ⟨by decide +kernel, by decide +kernel, by decide +kernel⟩ rfl hR rfl rfl rfl rfl hw k
theorem k8_268 {M : xM} {G : xG} {n : Nat} {rv : Option Value} {E' : xE} {cc : ByteArray} {ret : Option FieldType} {pc : Nat} {ls : List (Nat × Value)} {st : List Value} {N : Nat} {s s1 : cS} (C : xC (M, G, cdom, n) RX8 cc ret) (d : decode cc pc = .ok (.invokevirtual 268, 3)) (h : f6_dropLatest N s = some s1) (hR : (xrm 1 20).frames + 1 ≤ (xR (M, G, cdom, n)).frames ∧ 8 + (1 + 11) + (xrm 1 20).locals ≤ (xR (M, G, cdom, n)).locals) (hw : (st.map fun v => v.category).sum ≤ 8) (k : X (M, G, cdom, n) rv E' (encC G s1) (pc + 3) ls (st)) : X (M, G, cdom, n) rv E' (encC G s) pc ls (.ref (G.2.1 19 0) :: st) :=
  x_callVN (As := []) (n := 0) C d (c6_dropLatest (xl (M, G, cdom, n)) G h) lk715 lk717 lk54 lk82 lk718 ⟨rfl, rfl⟩ ⟨by decide +kernel, by decide +kernel, by decide +kernel⟩ rfl hR rfl rfl rfl rfl hw k
theorem k8_271 {M : xM} {G : xG} {n : Nat} {rv : Option Value} {E' : xE} {cc : ByteArray} {ret : Option FieldType} {pc : Nat} {ls : List (Nat × Value)} {st : List Value} {N : Nat} {s s1 : cS} (C : xC (M, G, cdom, n) RX8 cc ret) (d : decode cc pc = .ok (.invokevirtual 271, 3)) (h : f8_dropGoneFaults N s = some s1) (hR : (xrm 2 44).frames + 1 ≤ (xR (M, G, cdom, n)).frames ∧ 8 + (6 + 11) + (xrm 2 44).locals ≤ (xR (M, G, cdom, n)).locals) (hw : (st.map fun v => v.category).sum ≤ 8) (k : X (M, G, cdom, n) rv E' (encC G s1) (pc + 3) ls (st)) : X (M, G, cdom, n) rv E' (encC G s) pc ls (.ref (G.2.1 0 0) :: st) :=
  x_callV (As := []) (n := 0) C d (c8_dropGoneFaults (xl (M, G, cdom, n)) G h) lk719 lk721 lk55 lk78 lk722 ⟨rfl, rfl⟩ ⟨by decide +kernel, by decide +kernel, by decide +kernel⟩ rfl hR rfl rfl rfl rfl hw k
set_option maxRecDepth 100000 in
theorem t8_undo {M : xM} {G : xG} {N : Nat}  (C : xC (M, G, cdom, 2) RX8 cX8_undo (some .int)) (R : xR (M, G, cdom, 2) = xrm 3 69) {s : cS} {r : Int32} {s1 : cS} (h : f8_undo N s = some (r, s1)) : X (M, G, cdom, 2) (some (.int r)) (encC G s1) (encC G s) 0 [(0, .ref (G.2.1 0 0))] [] := by
  unfold f8_undo at h
  refine x_aload_n (j := 0) C dX8_undo_0 rfl rfl ?_
  refine gf8_52 C dX8_undo_1 ?_
  obtain ⟨⟨r4, s4⟩, e4, h⟩ := Option.bind_eq_some_iff.mp h
  try dsimp only at h
  refine k8_260 C dX8_undo_4 e4 (x_room R rfl) (Nat.le_of_ble_eq_true rfl) ?_
  refine x_astore_nq (i := 1) (ls' := [(1, va_rf (Option.map (G.2.1 21) r4)), (0, .ref (G.2.1 0 0))]) C (Option.map (G.2.1 21) r4) dX8_undo_7 rfl (Nat.le_of_ble_eq_true rfl) rfl ?_
  refine x_aload_nq (j := 0) C (Option.map (G.2.1 21) r4) dX8_undo_8 rfl rfl ?_
  cases r4 with
  | none =>
    try dsimp only at h
    change X (M, G, cdom, 2) _ _ _ 9 [(1, .null), (0, .ref (G.2.1 0 0))] [.null]
    refine x_ifnonnullN C dX8_undo_9 ?_
    refine x_iconst (v := 0) C dX8_undo_12 (by decide) ?_
    cases h
    exact x_iret C dX8_undo_13
  | some w9 =>
    try dsimp only at h
    change X (M, G, cdom, 2) _ _ _ 9 [(1, .ref (G.2.1 21 w9)), (0, .ref (G.2.1 0 0))] [.ref (G.2.1 21 w9)]
    refine x_ifnonnull (tgt := 14) C dX8_undo_9 (by decide) ?_
    refine x_aload_n (j := 1) C dX8_undo_14 rfl rfl ?_
    refine x_aload_n (j := 0) C dX8_undo_15 rfl rfl ?_
    obtain ⟨s16, e16, h⟩ := Option.bind_eq_some_iff.mp h
    try dsimp only at h
    refine k8_264 C dX8_undo_16 e16 (x_room R rfl) (Nat.le_of_ble_eq_true rfl) ?_
    refine x_aload_n (j := 1) C dX8_undo_19 rfl rfl ?_
    refine gf8_52 C dX8_undo_20 ?_
    obtain ⟨s23, e23, h⟩ := Option.bind_eq_some_iff.mp h
    try dsimp only at h
    refine k8_268 C dX8_undo_23 e23 (x_room R rfl) (Nat.le_of_ble_eq_true rfl) ?_
    refine x_aload_n (j := 1) C dX8_undo_26 rfl rfl ?_
    obtain ⟨s27, e27, h⟩ := Option.bind_eq_some_iff.mp h
    try dsimp only at h
    refine k8_271 C dX8_undo_27 e27 (x_room R rfl) (Nat.le_of_ble_eq_true rfl) ?_
    refine x_aload_n (j := 1) C dX8_undo_30 rfl rfl ?_
    refine x_iconst (v := (-1)) C dX8_undo_31 (by decide) ?_
    refine pf8_69 C dX8_undo_32 ?_
    refine x_iconst (v := 1) C dX8_undo_35 (by decide) ?_
    cases h
    exact x_iret C dX8_undo_36
theorem c8_undo (l : Launch) (G : xG) {N : Nat}  {s : cS} {r : Int32} {s1 : cS} (h : f8_undo N s = some (r, s1)) : xMet l yX8_undo (x_ws yX8_undo cX8_undo 2 (some .int)) (xrm 3 69) G cdom [.ref (G.2.1 0 0)] (encC G s) (some (.int r)) (encC G s1) := by
  refine xMet.of (by decide +kernel) (Nat.le_of_ble_eq_true rfl) ?_
  rintro ⟨M, G', dom', n'⟩ e1 R e3 e4 e5 C
  change G' = G at e3; change dom' = cdom at e4; change n' = 2 at e5
  subst e3; subst e4; subst e5
  exact t8_undo C R h
set_option maxRecDepth 100000 in
theorem t8_size {M : xM} {G : xG} {N : Nat} {p1 : Int32} (C : xC (M, G, cdom, 2) RX8 cX8_size (some .int)) (R : xR (M, G, cdom, 2) = xrm 0 0) {s : cS} {r : Int32} {s1 : cS} (h : f8_size N p1 s = some (r, s1)) : X (M, G, cdom, 2) (some (.int r)) (encC G s1) (encC G s) 0 [(0, .ref (G.2.1 0 0)), (1, .int (p1))] [] := by
  unfold f8_size at h
  refine x_iload_n (j := 1) C dX8_size_0 rfl rfl ?_
  by_cases c1_0 : p1 = 0
  · rw [if_pos c1_0] at h
    refine x_tableIn (off := 35) (tgt := 36) C dX8_size_1 (by rw [c1_0]; decide) (by rw [c1_0]; decide) (by rw [c1_0]; rfl) (by decide) ?_
    refine x_aload_n (j := 0) C dX8_size_36 rfl rfl ?_
    refine gf8_56 C dX8_size_37 ?_
    cases h
    exact x_iret C dX8_size_40
  rw [if_neg c1_0] at h
  by_cases c1_1 : p1 = 1
  · rw [if_pos c1_1] at h
    refine x_tableIn (off := 40) (tgt := 41) C dX8_size_1 (by rw [c1_1]; decide) (by rw [c1_1]; decide) (by rw [c1_1]; rfl) (by decide) ?_
    refine x_aload_n (j := 0) C dX8_size_41 rfl rfl ?_
    refine gf8_60 C dX8_size_42 ?_
    cases h
    exact x_iret C dX8_size_45
  rw [if_neg c1_1] at h
  by_cases c1_2 : p1 = 2
  · rw [if_pos c1_2] at h
    refine x_tableIn (off := 45) (tgt := 46) C dX8_size_1 (by rw [c1_2]; decide) (by rw [c1_2]; decide) (by rw [c1_2]; rfl) (by decide) ?_
    refine x_aload_n (j := 0) C dX8_size_46 rfl rfl ?_
    refine gf8_25 C dX8_size_47 ?_
    refine gf8_210 C dX8_size_50 ?_
    cases h
    exact x_iret C dX8_size_53
  rw [if_neg c1_2] at h
  by_cases c1_3 : p1 = 3
  · rw [if_pos c1_3] at h
    refine x_tableIn (off := 53) (tgt := 54) C dX8_size_1 (by rw [c1_3]; decide) (by rw [c1_3]; decide) (by rw [c1_3]; rfl) (by decide) ?_
    refine x_aload_n (j := 0) C dX8_size_54 rfl rfl ?_
    refine gf8_63 C dX8_size_55 ?_
    cases h
    exact x_iret C dX8_size_58
  rw [if_neg c1_3] at h
  by_cases c1_4 : p1 = 4
  · rw [if_pos c1_4] at h
    refine x_tableIn (off := 58) (tgt := 59) C dX8_size_1 (by rw [c1_4]; decide) (by rw [c1_4]; decide) (by rw [c1_4]; rfl) (by decide) ?_
    refine x_aload_n (j := 0) C dX8_size_59 rfl rfl ?_
    refine gf8_52 C dX8_size_60 ?_
    refine gf8_274 C dX8_size_63 ?_
    cases h
    exact x_iret C dX8_size_66
  rw [if_neg c1_4] at h
  refine x_tableOut (tgt := 67) C dX8_size_1 (by have qc1_0 := lv_neT c1_0 (a := 0) (by decide); have qc1_1 := lv_neT c1_1 (a := 1) (by decide); have qc1_2 := lv_neT c1_2 (a := 2) (by decide); have qc1_3 := lv_neT c1_3 (a := 3) (by decide); have qc1_4 := lv_neT c1_4 (a := 4) (by decide); omega) (by decide) ?_
  refine x_iconst (v := (-1)) C dX8_size_67 (by decide) ?_
  cases h
  exact x_iret C dX8_size_68
theorem c8_size (l : Launch) (G : xG) {N : Nat} {p1 : Int32} {s : cS} {r : Int32} {s1 : cS} (h : f8_size N p1 s = some (r, s1)) : xMet l yX8_size (x_ws yX8_size cX8_size 2 (some .int)) (xrm 0 0) G cdom [.ref (G.2.1 0 0), .int (p1)] (encC G s) (some (.int r)) (encC G s1) := by
  refine xMet.of (by decide +kernel) (Nat.le_of_ble_eq_true rfl) ?_
  rintro ⟨M, G', dom', n'⟩ e1 R e3 e4 e5 C
  change G' = G at e3; change dom' = cdom at e4; change n' = 2 at e5
  subst e3; subst e4; subst e5
  exact t8_size C R h
set_option maxRecDepth 100000 in
theorem t8_trouble {M : xM} {G : xG} {N : Nat}  (C : xC (M, G, cdom, 1) RX8 cX8_trouble (some .int)) (R : xR (M, G, cdom, 1) = xrm 0 0) {s : cS} {r : Int32} {s1 : cS} (h : f8_trouble N s = some (r, s1)) : X (M, G, cdom, 1) (some (.int r)) (encC G s1) (encC G s) 0 [(0, .ref (G.2.1 0 0))] [] := by
  unfold f8_trouble at h
  refine x_aload_n (j := 0) C dX8_trouble_0 rfl rfl ?_
  refine gf8_66 C dX8_trouble_1 ?_
  cases h
  exact x_iret C dX8_trouble_4
theorem c8_trouble (l : Launch) (G : xG) {N : Nat}  {s : cS} {r : Int32} {s1 : cS} (h : f8_trouble N s = some (r, s1)) : xMet l yX8_trouble (x_ws yX8_trouble cX8_trouble 1 (some .int)) (xrm 0 0) G cdom [.ref (G.2.1 0 0)] (encC G s) (some (.int r)) (encC G s1) := by
  refine xMet.of (by decide +kernel) (Nat.le_of_ble_eq_true rfl) ?_
  rintro ⟨M, G', dom', n'⟩ e1 R e3 e4 e5 C
  change G' = G at e3; change dom' = cdom at e4; change n' = 1 at e5
  subst e3; subst e4; subst e5
  exact t8_trouble C R h
