set_option maxRecDepth 100000 in
theorem t3_passStages_b136 {M : xM} {G : xG} {N : Nat} {o : Nat} (C : xC (M, G, cdom, 5) RX3 cX3_passStages none) (R : xR (M, G, cdom, 5) = xrm 1 21) (ho : o < 8) {k4 : Int32 → Int32 → cS → Option (cS)} (hk4 : ∀ (a1 : Int32) (a2 : Int32) (s : cS) (s1 : cS), k4 a1 a2 s = some s1 → X (M, G, cdom, 5) none (encC G s1) (encC G s) 4 [(0, .ref (G.2.1 2 o)), (1, .int (a1)), (2, .int (a2))] []) {a1 : Int32} {a2 : Int32} {s : cS} {s1 : cS} (h : f3_passStages_b136 N o k4 a1 a2 s = some s1) : X (M, G, cdom, 5) none (encC G s1) (encC G s) 136 [(0, .ref (G.2.1 2 o)), (1, .int (a1)), (2, .int (a2))] [] := by
  unfold f3_passStages_b136 at h
  refine x_aload_n (j := 0) C dX3_passStages_136 rfl rfl ?_
  refine x_ldc (v := (-1000000)) C dX3_passStages_137 lk424 ?_
  refine x_ldc (v := 1000000) C dX3_passStages_139 lk425 ?_
  refine x_aload_n (j := 0) C dX3_passStages_141 rfl rfl ?_
  refine gf3_64 C dX3_passStages_142 ho ?_
  refine x_iconst (v := 2) C dX3_passStages_145 (by decide) ?_
  refine x_imul C dX3_passStages_146 ?_
  refine x_min C dX3_passStages_147 lk377 lk332 lk88 lk333 (x_rf R rfl) (x_rl R rfl) ?_
  refine x_max C dX3_passStages_150 lk426 lk427 lk88 lk428 (x_rf R rfl) (x_rl R rfl) ?_
  refine pf3_64 C dX3_passStages_153 ho ?_
  refine x_iinc (j := 2) (v := (a2 + 1)) (ls' := [(2, .int ((a2 + 1))), (0, .ref (G.2.1 2 o)), (1, .int (a1))]) C dX3_passStages_156 rfl rfl (Nat.le_of_ble_eq_true rfl) rfl ?_
  refine x_goto (tgt := 4) C dX3_passStages_159 (by decide) ?_
  refine x_sub (ls' := [(0, .ref (G.2.1 2 o)), (1, .int (a1)), (2, .int ((a2 + 1)))]) [1, 2, 0] rfl ?_
  exact hk4 _ _ _ _ h
set_option maxRecDepth 100000 in
theorem t3_passStages_b123 {M : xM} {G : xG} {N : Nat} {o : Nat} (C : xC (M, G, cdom, 5) RX3 cX3_passStages none) (R : xR (M, G, cdom, 5) = xrm 1 21) (ho : o < 8) {k4 : Int32 → Int32 → cS → Option (cS)} (hk4 : ∀ (a1 : Int32) (a2 : Int32) (s : cS) (s1 : cS), k4 a1 a2 s = some s1 → X (M, G, cdom, 5) none (encC G s1) (encC G s) 4 [(0, .ref (G.2.1 2 o)), (1, .int (a1)), (2, .int (a2))] []) {a1 : Int32} {a2 : Int32} {a3 : Nat} {s : cS} {s1 : cS} (h : f3_passStages_b123 N o k4 a1 a2 a3 s = some s1) : X (M, G, cdom, 5) none (encC G s1) (encC G s) 123 [(0, .ref (G.2.1 2 o)), (1, .int (a1)), (2, .int (a2)), (3, .ref (G.2.1 4 a3))] [] := by
  unfold f3_passStages_b123 at h
  refine x_aload_n (j := 0) C dX3_passStages_123 rfl rfl ?_
  refine x_dup C dX3_passStages_124 rfl ?_
  refine gf3_58 C dX3_passStages_125 ho ?_
  refine x_aload_n (j := 3) C dX3_passStages_128 rfl rfl ?_
  by_cases g129_1 : a3 < 128
  case neg => rw [if_neg g129_1] at h; cases h
  rw [if_pos g129_1] at h
  refine gf3_35 C dX3_passStages_129 g129_1 ?_
  refine x_iadd C dX3_passStages_132 ?_
  refine pf3_58 C dX3_passStages_133 ho ?_
  refine x_sub (ls' := [(0, .ref (G.2.1 2 o)), (1, .int (a1)), (2, .int (a2))]) [0, 1, 2] rfl ?_
  exact t3_passStages_b136 (N := N) (o := o) C R ho hk4 h
set_option maxRecDepth 100000 in
theorem t3_passStages_b103 {M : xM} {G : xG} {N : Nat} {o : Nat} (C : xC (M, G, cdom, 5) RX3 cX3_passStages none) (R : xR (M, G, cdom, 5) = xrm 1 21) (ho : o < 8) {k4 : Int32 → Int32 → cS → Option (cS)} (hk4 : ∀ (a1 : Int32) (a2 : Int32) (s : cS) (s1 : cS), k4 a1 a2 s = some s1 → X (M, G, cdom, 5) none (encC G s1) (encC G s) 4 [(0, .ref (G.2.1 2 o)), (1, .int (a1)), (2, .int (a2))] []) {a1 : Int32} {a2 : Int32} {a3 : Nat} {a4 : Int32} {s : cS} {s1 : cS} (h : f3_passStages_b103 N o k4 a1 a2 a3 a4 s = some s1) : X (M, G, cdom, 5) none (encC G s1) (encC G s) 103 [(0, .ref (G.2.1 2 o)), (1, .int (a1)), (2, .int (a2)), (3, .ref (G.2.1 4 a3)), (4, .int (a4))] [] := by
  unfold f3_passStages_b103 at h
  refine x_aload_n (j := 0) C dX3_passStages_103 rfl rfl ?_
  refine gf3_18 C dX3_passStages_104 ho ?_
  refine x_iconst (v := 4) C dX3_passStages_107 (by decide) ?_
  refine x_icmp_ne (tgt := 118) C dX3_passStages_108 (by decide) (fun c108 => ?_) (fun c108 => ?_)
  · rw [if_neg c108] at h
    refine x_iload (j := 4) C dX3_passStages_118 rfl ?_
    refine x_if_eq (tgt := 136) C dX3_passStages_120 (by decide) (fun c120 => ?_) (fun c120 => ?_)
    · rw [if_pos c120] at h
      refine x_sub (ls' := [(0, .ref (G.2.1 2 o)), (1, .int (a1)), (2, .int (a2))]) [0, 1, 2] rfl ?_
      exact t3_passStages_b136 (N := N) (o := o) C R ho hk4 h
    · rw [if_neg c120] at h
      refine x_sub (ls' := [(0, .ref (G.2.1 2 o)), (1, .int (a1)), (2, .int (a2)), (3, .ref (G.2.1 4 a3))]) [0, 1, 2, 3] rfl ?_
      exact t3_passStages_b123 (N := N) (o := o) C R ho hk4 h
  · rw [if_pos c108] at h
    refine x_iload_n (j := 1) C dX3_passStages_111 rfl rfl ?_
    refine x_if_eq (tgt := 136) C dX3_passStages_112 (by decide) (fun c112 => ?_) (fun c112 => ?_)
    · rw [if_pos c112] at h
      refine x_sub (ls' := [(0, .ref (G.2.1 2 o)), (1, .int (a1)), (2, .int (a2))]) [0, 1, 2] rfl ?_
      exact t3_passStages_b136 (N := N) (o := o) C R ho hk4 h
    · rw [if_neg c112] at h
      refine x_goto (tgt := 123) C dX3_passStages_115 (by decide) ?_
      refine x_sub (ls' := [(0, .ref (G.2.1 2 o)), (1, .int (a1)), (2, .int (a2)), (3, .ref (G.2.1 4 a3))]) [0, 1, 2, 3] rfl ?_
      exact t3_passStages_b123 (N := N) (o := o) C R ho hk4 h
set_option maxRecDepth 100000 in
theorem t3_passStages_b57 {M : xM} {G : xG} {N : Nat} {o : Nat} (C : xC (M, G, cdom, 5) RX3 cX3_passStages none) (R : xR (M, G, cdom, 5) = xrm 1 21) (ho : o < 8) {k4 : Int32 → Int32 → cS → Option (cS)} (hk4 : ∀ (a1 : Int32) (a2 : Int32) (s : cS) (s1 : cS), k4 a1 a2 s = some s1 → X (M, G, cdom, 5) none (encC G s1) (encC G s) 4 [(0, .ref (G.2.1 2 o)), (1, .int (a1)), (2, .int (a2))] []) {a2 : Int32} {a3 : Nat} {a4 : Int32} {b0 : Int32} {s : cS} {s1 : cS} (h : f3_passStages_b57 N o k4 a2 a3 a4 b0 s = some s1) : X (M, G, cdom, 5) none (encC G s1) (encC G s) 57 [(0, .ref (G.2.1 2 o)), (2, .int (a2)), (3, .ref (G.2.1 4 a3)), (4, .int (a4))] [.int (b0)] := by
  unfold f3_passStages_b57 at h
  refine x_istore_n (i := 1) (ls' := [(1, .int (b0)), (0, .ref (G.2.1 2 o)), (2, .int (a2)), (3, .ref (G.2.1 4 a3)), (4, .int (a4))]) C dX3_passStages_57 rfl (Nat.le_of_ble_eq_true rfl) rfl ?_
  refine x_aload_n (j := 1) C dX3_passStages_58 rfl rfl ?_
  refine x_dup C dX3_passStages_59 rfl ?_
  refine gf3_61 C dX3_passStages_60 ho ?_
  refine x_iconst (v := 1) C dX3_passStages_63 (by decide) ?_
  refine x_iload_n (j := 2) C dX3_passStages_64 rfl rfl ?_
  refine x_ishl C dX3_passStages_65 ?_
  refine x_ior C dX3_passStages_66 ?_
  refine pf3_61 C dX3_passStages_67 ho ?_
  refine x_aload_n (j := 1) C dX3_passStages_70 rfl rfl ?_
  refine x_aload_n (j := 1) C dX3_passStages_71 rfl rfl ?_
  refine gf3_18 C dX3_passStages_72 ho ?_
  refine x_iconst (v := 4) C dX3_passStages_75 (by decide) ?_
  refine x_icmp_ne (tgt := 91) C dX3_passStages_76 (by decide) (fun c76 => ?_) (fun c76 => ?_)
  · rw [if_neg c76] at h
    refine x_aload_n (j := 1) C dX3_passStages_91 rfl rfl ?_
    refine gf3_64 C dX3_passStages_92 ho ?_
    refine x_aload_n (j := 3) C dX3_passStages_95 rfl rfl ?_
    by_cases g96_1 : a3 < 128
    case neg => rw [if_neg g96_1] at h; cases h
    rw [if_pos g96_1] at h
    obtain ⟨⟨r96, s96⟩, e96, h⟩ := Option.bind_eq_some_iff.mp h
    try dsimp only at h
    refine k3_54 C dX3_passStages_96 e96 g96_1 (x_room R rfl) (Nat.le_of_ble_eq_true rfl) ?_
    refine x_isub C dX3_passStages_99 ?_
    refine pf3_64 C dX3_passStages_100 ho ?_
    refine x_sub (ls' := [(0, .ref (G.2.1 2 o)), (1, .int (b0)), (2, .int (a2)), (3, .ref (G.2.1 4 a3)), (4, .int (a4))]) [1, 0, 2, 3, 4] rfl ?_
    exact t3_passStages_b103 (N := N) (o := o) C R ho hk4 h
  · rw [if_pos c76] at h
    refine x_aload_n (j := 3) C dX3_passStages_79 rfl rfl ?_
    by_cases g80_2 : a3 < 128
    case neg => rw [if_neg g80_2] at h; cases h
    rw [if_pos g80_2] at h
    obtain ⟨⟨r80, s80⟩, e80, h⟩ := Option.bind_eq_some_iff.mp h
    try dsimp only at h
    refine k3_54 C dX3_passStages_80 e80 g80_2 (x_room R rfl) (Nat.le_of_ble_eq_true rfl) ?_
    refine x_aload_n (j := 1) C dX3_passStages_83 rfl rfl ?_
    refine gf3_64 C dX3_passStages_84 ho ?_
    refine x_isub C dX3_passStages_87 ?_
    refine x_goto (tgt := 100) C dX3_passStages_88 (by decide) ?_
    refine pf3_64 C dX3_passStages_100 ho ?_
    refine x_sub (ls' := [(0, .ref (G.2.1 2 o)), (1, .int (b0)), (2, .int (a2)), (3, .ref (G.2.1 4 a3)), (4, .int (a4))]) [1, 0, 2, 3, 4] rfl ?_
    exact t3_passStages_b103 (N := N) (o := o) C R ho hk4 h
set_option maxRecDepth 100000 in
theorem t3_passStages_b41 {M : xM} {G : xG} {N : Nat} {o : Nat} (C : xC (M, G, cdom, 5) RX3 cX3_passStages none) (R : xR (M, G, cdom, 5) = xrm 1 21) (ho : o < 8) {k4 : Int32 → Int32 → cS → Option (cS)} (hk4 : ∀ (a1 : Int32) (a2 : Int32) (s : cS) (s1 : cS), k4 a1 a2 s = some s1 → X (M, G, cdom, 5) none (encC G s1) (encC G s) 4 [(0, .ref (G.2.1 2 o)), (1, .int (a1)), (2, .int (a2))] []) {a1 : Int32} {a2 : Int32} {a3 : Nat} {b0 : Int32} {s : cS} {s1 : cS} (h : f3_passStages_b41 N o k4 a1 a2 a3 b0 s = some s1) : X (M, G, cdom, 5) none (encC G s1) (encC G s) 41 [(0, .ref (G.2.1 2 o)), (1, .int (a1)), (2, .int (a2)), (3, .ref (G.2.1 4 a3))] [.int (b0)] := by
  unfold f3_passStages_b41 at h
  refine x_istore (i := 4) (ls' := [(4, .int (b0)), (0, .ref (G.2.1 2 o)), (1, .int (a1)), (2, .int (a2)), (3, .ref (G.2.1 4 a3))]) C dX3_passStages_41 (Nat.le_of_ble_eq_true rfl) rfl ?_
  refine x_iload (j := 0) C dX3_passStages_43 rfl ?_
  refine x_if_eq (tgt := 103) C dX3_passStages_45 (by decide) (fun c45 => ?_) (fun c45 => ?_)
  · rw [if_pos c45] at h
    refine x_sub (ls' := [(0, .ref (G.2.1 2 o)), (1, .int (a1)), (2, .int (a2)), (3, .ref (G.2.1 4 a3)), (4, .int (b0))]) [1, 2, 3, 4, 0] rfl ?_
    exact t3_passStages_b103 (N := N) (o := o) C R ho hk4 h
  · rw [if_neg c45] at h
    refine x_iload_n (j := 2) C dX3_passStages_48 rfl rfl ?_
    refine x_if_ne (tgt := 56) C dX3_passStages_49 (by decide) (fun c49 => ?_) (fun c49 => ?_)
    · rw [if_neg c49] at h
      refine x_iconst (v := 0) C dX3_passStages_56 (by decide) ?_
      refine x_sub (ls' := [(0, .ref (G.2.1 2 o)), (2, .int (a2)), (3, .ref (G.2.1 4 a3)), (4, .int (b0))]) [1, 3, 4, 0] rfl ?_
      exact t3_passStages_b57 (N := N) (o := o) C R ho hk4 h
    · rw [if_pos c49] at h
      refine x_iconst (v := 1) C dX3_passStages_52 (by decide) ?_
      refine x_goto (tgt := 57) C dX3_passStages_53 (by decide) ?_
      refine x_sub (ls' := [(0, .ref (G.2.1 2 o)), (2, .int (a2)), (3, .ref (G.2.1 4 a3)), (4, .int (b0))]) [1, 3, 4, 0] rfl ?_
      exact t3_passStages_b57 (N := N) (o := o) C R ho hk4 h
set_option maxRecDepth 100000 in
theorem t3_passStages_l4b {M : xM} {G : xG} {N : Nat} {o : Nat} (C : xC (M, G, cdom, 5) RX3 cX3_passStages none) (R : xR (M, G, cdom, 5) = xrm 1 21) (ho : o < 8) {k4 : Int32 → Int32 → cS → Option (cS)} (hk4 : ∀ (a1 : Int32) (a2 : Int32) (s : cS) (s1 : cS), k4 a1 a2 s = some s1 → X (M, G, cdom, 5) none (encC G s1) (encC G s) 4 [(0, .ref (G.2.1 2 o)), (1, .int (a1)), (2, .int (a2))] []) {a1 : Int32} {a2 : Int32} {s : cS} {s1 : cS} (h : f3_passStages_l4b N o k4 a1 a2 s = some s1) : X (M, G, cdom, 5) none (encC G s1) (encC G s) 4 [(0, .ref (G.2.1 2 o)), (1, .int (a1)), (2, .int (a2))] [] := by
  unfold f3_passStages_l4b at h
  refine x_iload_n (j := 2) C dX3_passStages_4 rfl rfl ?_
  refine x_aload_n (j := 0) C dX3_passStages_5 rfl rfl ?_
  refine gf3_22 C dX3_passStages_6 ho ?_
  refine x_icmp_ge (tgt := 162) C dX3_passStages_9 (by decide) (fun c9 => ?_) (fun c9 => ?_)
  · rw [if_pos c9] at h
    cases h
    exact x_vret C dX3_passStages_162
  · rw [if_neg c9] at h
    refine x_aload_n (j := 0) C dX3_passStages_12 rfl rfl ?_
    refine x_iload_n (j := 2) C dX3_passStages_13 rfl rfl ?_
    obtain ⟨⟨r14, s14⟩, e14, h⟩ := Option.bind_eq_some_iff.mp h
    try dsimp only at h
    refine k3_25 C dX3_passStages_14 e14 ho (x_room R rfl) (Nat.le_of_ble_eq_true rfl) ?_
    refine x_astore_nq (i := 3) (ls' := [(3, va_rf (Option.map (G.2.1 4) r14)), (0, .ref (G.2.1 2 o)), (1, .int (a1)), (2, .int (a2))]) C (Option.map (G.2.1 4) r14) dX3_passStages_17 rfl (Nat.le_of_ble_eq_true rfl) rfl ?_
    refine x_aload_nq (j := 0) C (Option.map (G.2.1 4) r14) dX3_passStages_18 rfl rfl ?_
    cases r14 with
    | none =>
      try dsimp only at h
      change X (M, G, cdom, 5) _ _ _ 19 [(3, .null), (0, .ref (G.2.1 2 o)), (1, .int (a1)), (2, .int (a2))] [.null]
      refine x_ifnonnullN C dX3_passStages_19 ?_
      refine x_goto (tgt := 156) C dX3_passStages_22 (by decide) ?_
      refine x_iinc (j := 3) (v := (a2 + 1)) (ls' := [(2, .int ((a2 + 1))), (3, .null), (0, .ref (G.2.1 2 o)), (1, .int (a1))]) C dX3_passStages_156 rfl rfl (Nat.le_of_ble_eq_true rfl) rfl ?_
      refine x_goto (tgt := 4) C dX3_passStages_159 (by decide) ?_
      refine x_sub (ls' := [(0, .ref (G.2.1 2 o)), (1, .int (a1)), (2, .int ((a2 + 1)))]) [2, 3, 0] rfl ?_
      exact hk4 _ _ _ _ h
    | some w19 =>
      try dsimp only at h
      change X (M, G, cdom, 5) _ _ _ 19 [(3, .ref (G.2.1 4 w19)), (0, .ref (G.2.1 2 o)), (1, .int (a1)), (2, .int (a2))] [.ref (G.2.1 4 w19)]
      refine x_ifnonnull (tgt := 25) C dX3_passStages_19 (by decide) ?_
      refine x_aload_n (j := 1) C dX3_passStages_25 rfl rfl ?_
      refine gf3_64 C dX3_passStages_26 ho ?_
      refine x_aload_n (j := 0) C dX3_passStages_29 rfl rfl ?_
      by_cases g30_1 : w19 < 128
      case neg => rw [if_neg g30_1] at h; cases h
      rw [if_pos g30_1] at h
      refine gf3_42 C dX3_passStages_30 g30_1 ?_
      refine x_icmp_lt (tgt := 40) C dX3_passStages_33 (by decide) (fun c33 => ?_) (fun c33 => ?_)
      · rw [if_pos c33] at h
        refine x_iconst (v := 0) C dX3_passStages_40 (by decide) ?_
        refine x_sub (ls' := [(0, .ref (G.2.1 2 o)), (1, .int (a1)), (2, .int (a2)), (3, .ref (G.2.1 4 w19))]) [1, 2, 3, 0] rfl ?_
        exact t3_passStages_b41 (N := N) (o := o) C R ho hk4 h
      · rw [if_neg c33] at h
        refine x_iconst (v := 1) C dX3_passStages_36 (by decide) ?_
        refine x_goto (tgt := 41) C dX3_passStages_37 (by decide) ?_
        refine x_sub (ls' := [(0, .ref (G.2.1 2 o)), (1, .int (a1)), (2, .int (a2)), (3, .ref (G.2.1 4 w19))]) [1, 2, 3, 0] rfl ?_
        exact t3_passStages_b41 (N := N) (o := o) C R ho hk4 h
theorem t3_passStages_l4 {M : xM} {G : xG} {N : Nat} {o : Nat} (C : xC (M, G, cdom, 5) RX3 cX3_passStages none) (R : xR (M, G, cdom, 5) = xrm 1 21) (ho : o < 8) (n : Nat) : ∀ (a1 : Int32) (a2 : Int32) (s : cS) (s1 : cS), f3_passStages_l4 N o n a1 a2 s = some s1 → X (M, G, cdom, 5) none (encC G s1) (encC G s) 4 [(0, .ref (G.2.1 2 o)), (1, .int (a1)), (2, .int (a2))] [] := by
  induction n with
  | zero => intro a1 a2 s s1 h; exact (Option.some_ne_none _ (Eq.symm h)).elim
  | succ n ih => intro a1 a2 s s1 h; exact t3_passStages_l4b (N := N) (o := o) C R ho (k4 := f3_passStages_l4 N o n) ih h
set_option maxRecDepth 100000 in
theorem t3_passStages {M : xM} {G : xG} {N : Nat} {o : Nat} (C : xC (M, G, cdom, 5) RX3 cX3_passStages none) (R : xR (M, G, cdom, 5) = xrm 1 21) (ho : o < 8) {s : cS} {s1 : cS} (h : f3_passStages N o s = some s1) : X (M, G, cdom, 5) none (encC G s1) (encC G s) 0 [(0, .ref (G.2.1 2 o))] [] := by
  unfold f3_passStages at h
  refine x_iconst (v := 0) C dX3_passStages_0 (by decide) ?_
  refine x_istore_n (i := 1) (ls' := [(1, .int (0)), (0, .ref (G.2.1 2 o))]) C dX3_passStages_1 rfl (Nat.le_of_ble_eq_true rfl) rfl ?_
  refine x_iconst (v := 0) C dX3_passStages_2 (by decide) ?_
  refine x_istore_n (i := 2) (ls' := [(2, .int (0)), (1, .int (0)), (0, .ref (G.2.1 2 o))]) C dX3_passStages_3 rfl (Nat.le_of_ble_eq_true rfl) rfl ?_
  refine x_sub (ls' := [(0, .ref (G.2.1 2 o)), (1, .int (0)), (2, .int (0))]) [2, 1, 0] rfl ?_
  exact t3_passStages_l4 (N := N) (o := o) C R ho N _ _ _ _ h
theorem c3_passStages (l : Launch) (G : xG) {N : Nat} {o : Nat} {s : cS} {s1 : cS} (ho : o < 8) (h : f3_passStages N o s = some s1) : xMet l yX3_passStages (x_ws yX3_passStages cX3_passStages 5 none) (xrm 1 21) G cdom [.ref (G.2.1 2 o)] (encC G s) none (encC G s1) := by
  refine xMet.of (by decide +kernel) (Nat.le_of_ble_eq_true rfl) ?_
  rintro ⟨M, G', dom', n'⟩ e1 R e3 e4 e5 C
  change G' = G at e3; change dom' = cdom at e4; change n' = 5 at e5
  subst e3; subst e4; subst e5
  exact t3_passStages C R ho h
set_option maxRecDepth 100000 in
theorem t3_passEdges_b80 {M : xM} {G : xG} {N : Nat} {o : Nat} {p1 : Int32} (C : xC (M, G, cdom, 5) RX3 cX3_passEdges none) (R : xR (M, G, cdom, 5) = xrm 1 21) (ho : o < 8) {k4 : Int32 → Int32 → cS → Option (cS)} (hk4 : ∀ (a2 : Int32) (a3 : Int32) (s : cS) (s1 : cS), k4 a2 a3 s = some s1 → X (M, G, cdom, 5) none (encC G s1) (encC G s) 4 [(0, .ref (G.2.1 2 o)), (1, .int (p1)), (2, .int (a2)), (3, .int (a3))] []) {a2 : Int32} {a3 : Int32} {b0 : Int32} {s : cS} {s1 : cS} (h : f3_passEdges_b80 N o p1 k4 a2 a3 b0 s = some s1) : X (M, G, cdom, 5) none (encC G s1) (encC G s) 80 [(0, .ref (G.2.1 2 o)), (1, .int (p1)), (2, .int (a2)), (3, .int (a3))] [.int (b0), .ref (G.2.1 2 o)] := by
  unfold f3_passEdges_b80 at h
  refine pf3_64 C dX3_passEdges_80 ho ?_
  refine x_aload_n (j := 0) C dX3_passEdges_83 rfl rfl ?_
  refine x_dup C dX3_passEdges_84 rfl ?_
  refine gf3_58 C dX3_passEdges_85 ho ?_
  refine x_iconst (v := 1) C dX3_passEdges_88 (by decide) ?_
  refine x_iadd C dX3_passEdges_89 ?_
  refine pf3_58 C dX3_passEdges_90 ho ?_
  refine x_aload_n (j := 0) C dX3_passEdges_93 rfl rfl ?_
  refine x_dup C dX3_passEdges_94 rfl ?_
  refine gf3_61 C dX3_passEdges_95 ho ?_
  refine x_iconst (v := 1) C dX3_passEdges_98 (by decide) ?_
  refine x_iload_n (j := 3) C dX3_passEdges_99 rfl rfl ?_
  refine x_ishl C dX3_passEdges_100 ?_
  refine x_ior C dX3_passEdges_101 ?_
  refine pf3_61 C dX3_passEdges_102 ho ?_
  refine x_iinc (j := 3) (v := (a3 + 1)) (ls' := [(3, .int ((a3 + 1))), (0, .ref (G.2.1 2 o)), (1, .int (p1)), (2, .int (a2))]) C dX3_passEdges_105 rfl rfl (Nat.le_of_ble_eq_true rfl) rfl ?_
  refine x_goto (tgt := 4) C dX3_passEdges_108 (by decide) ?_
  refine x_sub (ls' := [(0, .ref (G.2.1 2 o)), (1, .int (p1)), (2, .int (a2)), (3, .int ((a3 + 1)))]) [1, 2, 3, 0] rfl ?_
  exact hk4 _ _ _ _ h
set_option maxRecDepth 100000 in
theorem t3_passEdges_b50 {M : xM} {G : xG} {N : Nat} {o : Nat} {p1 : Int32} (C : xC (M, G, cdom, 5) RX3 cX3_passEdges none) (R : xR (M, G, cdom, 5) = xrm 1 21) (ho : o < 8) {k4 : Int32 → Int32 → cS → Option (cS)} (hk4 : ∀ (a2 : Int32) (a3 : Int32) (s : cS) (s1 : cS), k4 a2 a3 s = some s1 → X (M, G, cdom, 5) none (encC G s1) (encC G s) 4 [(0, .ref (G.2.1 2 o)), (1, .int (p1)), (2, .int (a2)), (3, .int (a3))] []) {a3 : Int32} {b0 : Int32} {s : cS} {s1 : cS} (h : f3_passEdges_b50 N o p1 k4 a3 b0 s = some s1) : X (M, G, cdom, 5) none (encC G s1) (encC G s) 50 [(0, .ref (G.2.1 2 o)), (1, .int (p1)), (3, .int (a3))] [.int (b0)] := by
  unfold f3_passEdges_b50 at h
  refine x_istore_n (i := 2) (ls' := [(2, .int (b0)), (0, .ref (G.2.1 2 o)), (1, .int (p1)), (3, .int (a3))]) C dX3_passEdges_50 rfl (Nat.le_of_ble_eq_true rfl) rfl ?_
  refine x_iload_n (j := 0) C dX3_passEdges_51 rfl rfl ?_
  refine x_iload_n (j := 2) C dX3_passEdges_52 rfl rfl ?_
  refine x_icmp_gt (tgt := 105) C dX3_passEdges_53 (by decide) (fun c53 => ?_) (fun c53 => ?_)
  · rw [if_pos c53] at h
    refine x_iinc (j := 3) (v := (a3 + 1)) (ls' := [(3, .int ((a3 + 1))), (2, .int (b0)), (0, .ref (G.2.1 2 o)), (1, .int (p1))]) C dX3_passEdges_105 rfl rfl (Nat.le_of_ble_eq_true rfl) rfl ?_
    refine x_goto (tgt := 4) C dX3_passEdges_108 (by decide) ?_
    refine x_sub (ls' := [(0, .ref (G.2.1 2 o)), (1, .int (p1)), (2, .int (b0)), (3, .int ((a3 + 1)))]) [2, 3, 1, 0] rfl ?_
    exact hk4 _ _ _ _ h
  · rw [if_neg c53] at h
    refine x_aload_n (j := 1) C dX3_passEdges_56 rfl rfl ?_
    refine x_aload_n (j := 1) C dX3_passEdges_57 rfl rfl ?_
    refine gf3_58 C dX3_passEdges_58 ho ?_
    refine x_if_ne (tgt := 70) C dX3_passEdges_61 (by decide) (fun c61 => ?_) (fun c61 => ?_)
    · rw [if_neg c61] at h
      refine x_aload_n (j := 1) C dX3_passEdges_70 rfl rfl ?_
      refine gf3_64 C dX3_passEdges_71 ho ?_
      refine x_iload_n (j := 2) C dX3_passEdges_74 rfl rfl ?_
      refine x_iload_n (j := 0) C dX3_passEdges_75 rfl rfl ?_
      refine x_isub C dX3_passEdges_76 ?_
      refine x_min C dX3_passEdges_77 lk377 lk332 lk88 lk333 (x_rf R rfl) (x_rl R rfl) ?_
      refine x_sub (ls' := [(0, .ref (G.2.1 2 o)), (1, .int (p1)), (2, .int (b0)), (3, .int (a3))]) [1, 2, 0, 3] rfl ?_
      exact t3_passEdges_b80 (N := N) (o := o) (p1 := p1) C R ho hk4 h
    · rw [if_pos c61] at h
      refine x_iload_n (j := 2) C dX3_passEdges_64 rfl rfl ?_
      refine x_iload_n (j := 0) C dX3_passEdges_65 rfl rfl ?_
      refine x_isub C dX3_passEdges_66 ?_
      refine x_goto (tgt := 80) C dX3_passEdges_67 (by decide) ?_
      refine x_sub (ls' := [(0, .ref (G.2.1 2 o)), (1, .int (p1)), (2, .int (b0)), (3, .int (a3))]) [1, 2, 0, 3] rfl ?_
      exact t3_passEdges_b80 (N := N) (o := o) (p1 := p1) C R ho hk4 h
set_option maxRecDepth 100000 in
theorem t3_passEdges_l4b {M : xM} {G : xG} {N : Nat} {o : Nat} {p1 : Int32} (C : xC (M, G, cdom, 5) RX3 cX3_passEdges none) (R : xR (M, G, cdom, 5) = xrm 1 21) (ho : o < 8) {k4 : Int32 → Int32 → cS → Option (cS)} (hk4 : ∀ (a2 : Int32) (a3 : Int32) (s : cS) (s1 : cS), k4 a2 a3 s = some s1 → X (M, G, cdom, 5) none (encC G s1) (encC G s) 4 [(0, .ref (G.2.1 2 o)), (1, .int (p1)), (2, .int (a2)), (3, .int (a3))] []) {a2 : Int32} {a3 : Int32} {s : cS} {s1 : cS} (h : f3_passEdges_l4b N o p1 k4 a2 a3 s = some s1) : X (M, G, cdom, 5) none (encC G s1) (encC G s) 4 [(0, .ref (G.2.1 2 o)), (1, .int (p1)), (2, .int (a2)), (3, .int (a3))] [] := by
  unfold f3_passEdges_l4b at h
  refine x_iload_n (j := 3) C dX3_passEdges_4 rfl rfl ?_
  refine x_aload_n (j := 0) C dX3_passEdges_5 rfl rfl ?_
  refine gf3_22 C dX3_passEdges_6 ho ?_
  refine x_icmp_ge (tgt := 111) C dX3_passEdges_9 (by decide) (fun c9 => ?_) (fun c9 => ?_)
  · rw [if_pos c9] at h
    cases h
    exact x_vret C dX3_passEdges_111
  · rw [if_neg c9] at h
    refine x_aload_n (j := 0) C dX3_passEdges_12 rfl rfl ?_
    refine x_iload_n (j := 3) C dX3_passEdges_13 rfl rfl ?_
    obtain ⟨⟨r14, s14⟩, e14, h⟩ := Option.bind_eq_some_iff.mp h
    try dsimp only at h
    refine k3_25 C dX3_passEdges_14 e14 ho (x_room R rfl) (Nat.le_of_ble_eq_true rfl) ?_
    refine x_astoreq (i := 4) (ls' := [(4, va_rf (Option.map (G.2.1 4) r14)), (0, .ref (G.2.1 2 o)), (1, .int (p1)), (2, .int (a2)), (3, .int (a3))]) C (Option.map (G.2.1 4) r14) dX3_passEdges_17 (Nat.le_of_ble_eq_true rfl) rfl ?_
    refine x_aloadq (j := 0) C (Option.map (G.2.1 4) r14) dX3_passEdges_19 rfl ?_
    cases r14 with
    | none =>
      try dsimp only at h
      change X (M, G, cdom, 5) _ _ _ 21 [(4, .null), (0, .ref (G.2.1 2 o)), (1, .int (p1)), (2, .int (a2)), (3, .int (a3))] [.null]
      refine x_ifnonnullN C dX3_passEdges_21 ?_
      refine x_goto (tgt := 105) C dX3_passEdges_24 (by decide) ?_
      refine x_iinc (j := 4) (v := (a3 + 1)) (ls' := [(3, .int ((a3 + 1))), (4, .null), (0, .ref (G.2.1 2 o)), (1, .int (p1)), (2, .int (a2))]) C dX3_passEdges_105 rfl rfl (Nat.le_of_ble_eq_true rfl) rfl ?_
      refine x_goto (tgt := 4) C dX3_passEdges_108 (by decide) ?_
      refine x_sub (ls' := [(0, .ref (G.2.1 2 o)), (1, .int (p1)), (2, .int (a2)), (3, .int ((a3 + 1)))]) [2, 3, 4, 0] rfl ?_
      exact hk4 _ _ _ _ h
    | some w21 =>
      try dsimp only at h
      change X (M, G, cdom, 5) _ _ _ 21 [(4, .ref (G.2.1 4 w21)), (0, .ref (G.2.1 2 o)), (1, .int (p1)), (2, .int (a2)), (3, .int (a3))] [.ref (G.2.1 4 w21)]
      refine x_ifnonnull (tgt := 27) C dX3_passEdges_21 (by decide) ?_
      refine x_aload_n (j := 1) C dX3_passEdges_27 rfl rfl ?_
      refine gf3_18 C dX3_passEdges_28 ho ?_
      refine x_iconst (v := 1) C dX3_passEdges_31 (by decide) ?_
      refine x_icmp_ne (tgt := 45) C dX3_passEdges_32 (by decide) (fun c32 => ?_) (fun c32 => ?_)
      · rw [if_neg c32] at h
        refine x_aload (j := 0) C dX3_passEdges_45 rfl ?_
        by_cases g47_1 : w21 < 128
        case neg => rw [if_neg g47_1] at h; cases h
        rw [if_pos g47_1] at h
        obtain ⟨⟨r47, s47⟩, e47, h⟩ := Option.bind_eq_some_iff.mp h
        try dsimp only at h
        refine k3_54 C dX3_passEdges_47 e47 g47_1 (x_room R rfl) (Nat.le_of_ble_eq_true rfl) ?_
        refine x_sub (ls' := [(0, .ref (G.2.1 2 o)), (1, .int (p1)), (3, .int (a3))]) [1, 2, 4] rfl ?_
        exact t3_passEdges_b50 (N := N) (o := o) (p1 := p1) C R ho hk4 h
      · rw [if_pos c32] at h
        refine x_iload_n (j := 3) C dX3_passEdges_35 rfl rfl ?_
        refine x_aload (j := 0) C dX3_passEdges_36 rfl ?_
        by_cases g38_2 : w21 < 128
        case neg => rw [if_neg g38_2] at h; cases h
        rw [if_pos g38_2] at h
        obtain ⟨⟨r38, s38⟩, e38, h⟩ := Option.bind_eq_some_iff.mp h
        try dsimp only at h
        refine k3_54 C dX3_passEdges_38 e38 g38_2 (x_room R rfl) (Nat.le_of_ble_eq_true rfl) ?_
        refine x_iadd C dX3_passEdges_41 ?_
        refine x_goto (tgt := 50) C dX3_passEdges_42 (by decide) ?_
        refine x_sub (ls' := [(0, .ref (G.2.1 2 o)), (1, .int (p1)), (3, .int (a3))]) [1, 2, 4] rfl ?_
        exact t3_passEdges_b50 (N := N) (o := o) (p1 := p1) C R ho hk4 h
theorem t3_passEdges_l4 {M : xM} {G : xG} {N : Nat} {o : Nat} {p1 : Int32} (C : xC (M, G, cdom, 5) RX3 cX3_passEdges none) (R : xR (M, G, cdom, 5) = xrm 1 21) (ho : o < 8) (n : Nat) : ∀ (a2 : Int32) (a3 : Int32) (s : cS) (s1 : cS), f3_passEdges_l4 N o p1 n a2 a3 s = some s1 → X (M, G, cdom, 5) none (encC G s1) (encC G s) 4 [(0, .ref (G.2.1 2 o)), (1, .int (p1)), (2, .int (a2)), (3, .int (a3))] [] := by
  induction n with
  | zero => intro a2 a3 s s1 h; exact (Option.some_ne_none _ (Eq.symm h)).elim
  | succ n ih => intro a2 a3 s s1 h; exact t3_passEdges_l4b (N := N) (o := o) (p1 := p1) C R ho (k4 := f3_passEdges_l4 N o p1 n) ih h
set_option maxRecDepth 100000 in
theorem t3_passEdges {M : xM} {G : xG} {N : Nat} {o : Nat} {p1 : Int32} (C : xC (M, G, cdom, 5) RX3 cX3_passEdges none) (R : xR (M, G, cdom, 5) = xrm 1 21) (ho : o < 8) {s : cS} {s1 : cS} (h : f3_passEdges N o p1 s = some s1) : X (M, G, cdom, 5) none (encC G s1) (encC G s) 0 [(0, .ref (G.2.1 2 o)), (1, .int (p1))] [] := by
  unfold f3_passEdges at h
  refine x_iconst (v := 0) C dX3_passEdges_0 (by decide) ?_
  refine x_istore_n (i := 2) (ls' := [(2, .int (0)), (0, .ref (G.2.1 2 o)), (1, .int (p1))]) C dX3_passEdges_1 rfl (Nat.le_of_ble_eq_true rfl) rfl ?_
  refine x_iconst (v := 0) C dX3_passEdges_2 (by decide) ?_
  refine x_istore_n (i := 3) (ls' := [(3, .int (0)), (2, .int (0)), (0, .ref (G.2.1 2 o)), (1, .int (p1))]) C dX3_passEdges_3 rfl (Nat.le_of_ble_eq_true rfl) rfl ?_
  refine x_sub (ls' := [(0, .ref (G.2.1 2 o)), (1, .int (p1)), (2, .int (0)), (3, .int (0))]) [2, 3, 1, 0] rfl ?_
  exact t3_passEdges_l4 (N := N) (o := o) (p1 := p1) C R ho N _ _ _ _ h
theorem c3_passEdges (l : Launch) (G : xG) {N : Nat} {o : Nat} {p1 : Int32} {s : cS} {s1 : cS} (ho : o < 8) (h : f3_passEdges N o p1 s = some s1) : xMet l yX3_passEdges (x_ws yX3_passEdges cX3_passEdges 5 none) (xrm 1 21) G cdom [.ref (G.2.1 2 o), .int (p1)] (encC G s) none (encC G s1) := by
  refine xMet.of (by decide +kernel) (Nat.le_of_ble_eq_true rfl) ?_
  rintro ⟨M, G', dom', n'⟩ e1 R e3 e4 e5 C
  change G' = G at e3; change dom' = cdom at e4; change n' = 5 at e5
  subst e3; subst e4; subst e5
  exact t3_passEdges C R ho h
theorem k3_73 {M : xM} {G : xG} {n : Nat} {rv : Option Value} {E' : xE} {cc : ByteArray} {ret : Option FieldType} {pc : Nat} {ls : List (Nat × Value)} {st : List Value} {N : Nat} {o : Nat} {p1 : Int32} {s s1 : cS} (C : xC (M, G, cdom, n) RX3 cc ret) (d : decode cc pc = .ok (.invokevirtual 73, 3)) (h : f3_passEdges N o p1 s = some s1) (ho : o < 8) (hR : (xrm 1 21).frames + 1 ≤ (xR (M, G, cdom, n)).frames ∧ 8 + (5 + 11) + (xrm 1 21).locals ≤ (xR (M, G, cdom, n)).locals) (hw : (st.map fun v => v.category).sum ≤ 8) (k : X (M, G, cdom, n) rv E' (encC G s1) (pc + 3) ls (st)) : X (M, G, cdom, n) rv E' (encC G s) pc ls (.int (p1) :: .ref (G.2.1 2 o) :: st) :=
  x_callV (As := [.int (p1)]) (n := 1) C d (c3_passEdges (xl (M, G, cdom, n)) G ho h) lk429 lk431 lk16 lk84 lk432 ⟨rfl, rfl⟩ ⟨by decide +kernel, by decide +kernel, by decide +kernel⟩ rfl hR (decide_eq_true ho) rfl rfl rfl hw k
theorem k3_70 {M : xM} {G : xG} {n : Nat} {rv : Option Value} {E' : xE} {cc : ByteArray} {ret : Option FieldType} {pc : Nat} {ls : List (Nat × Value)} {st : List Value} {N : Nat} {o : Nat} {s s1 : cS} (C : xC (M, G, cdom, n) RX3 cc ret) (d : decode cc pc = .ok (.invokevirtual 70, 3)) (h : f3_passStages N o s = some s1) (ho : o < 8) (hR : (xrm 1 21).frames + 1 ≤ (xR (M, G, cdom, n)).frames ∧ 8 + (5 + 11) + (xrm 1 21).locals ≤ (xR (M, G, cdom, n)).locals) (hw : (st.map fun v => v.category).sum ≤ 8) (k : X (M, G, cdom, n) rv E' (encC G s1) (pc + 3) ls (st)) : X (M, G, cdom, n) rv E' (encC G s) pc ls (.ref (G.2.1 2 o) :: st) :=
  x_callV (As := []) (n := 0) C d (c3_passStages (xl (M, G, cdom, n)) G ho h) lk420 lk422 lk15 lk84 lk423 ⟨rfl, rfl⟩ ⟨by decide +kernel, by decide +kernel, by decide +kernel⟩ rfl hR (decide_eq_true ho) rfl rfl rfl hw k
theorem k3_67 {M : xM} {G : xG} {n : Nat} {rv : Option Value} {E' : xE} {cc : ByteArray} {ret : Option FieldType} {pc : Nat} {ls : List (Nat × Value)} {st : List Value} {N : Nat} {o : Nat} {s s1 : cS} (C : xC (M, G, cdom, n) RX3 cc ret) (d : decode cc pc = .ok (.invokevirtual 67, 3)) (h : f3_weigh N o s = some s1) (ho : o < 8) (hR : (xrm 1 21).frames + 1 ≤ (xR (M, G, cdom, n)).frames ∧ 8 + (3 + 11) + (xrm 1 21).locals ≤ (xR (M, G, cdom, n)).locals) (hw : (st.map fun v => v.category).sum ≤ 8) (k : X (M, G, cdom, n) rv E' (encC G s1) (pc + 3) ls (st)) : X (M, G, cdom, n) rv E' (encC G s) pc ls (.ref (G.2.1 2 o) :: st) :=
  x_callV (As := []) (n := 0) C d (c3_weigh (xl (M, G, cdom, n)) G ho h) lk412 lk414 lk13 lk84 lk415 ⟨rfl, rfl⟩ ⟨by decide +kernel, by decide +kernel, by decide +kernel⟩ rfl hR (decide_eq_true ho) rfl rfl rfl hw k
set_option maxRecDepth 100000 in
theorem t3_codeOf {M : xM} {G : xG} {N : Nat} {o : Nat} {p1 : Int32} (C : xC (M, G, cdom, 2) RX3 cX3_codeOf (some .int)) (R : xR (M, G, cdom, 2) = xrm 2 45) (ho : o < 8) {s : cS} {r : Int32} {s1 : cS} (h : f3_codeOf N o p1 s = some (r, s1)) : X (M, G, cdom, 2) (some (.int r)) (encC G s1) (encC G s) 0 [(0, .ref (G.2.1 2 o)), (1, .int (p1))] [] := by
  unfold f3_codeOf at h
  refine x_aload_n (j := 0) C dX3_codeOf_0 rfl rfl ?_
  refine x_iconst (v := 0) C dX3_codeOf_1 (by decide) ?_
  refine pf3_58 C dX3_codeOf_2 ho ?_
  refine x_aload_n (j := 0) C dX3_codeOf_5 rfl rfl ?_
  refine x_iconst (v := 0) C dX3_codeOf_6 (by decide) ?_
  refine pf3_61 C dX3_codeOf_7 ho ?_
  refine x_aload_n (j := 0) C dX3_codeOf_10 rfl rfl ?_
  refine x_iload_n (j := 1) C dX3_codeOf_11 rfl rfl ?_
  refine pf3_64 C dX3_codeOf_12 ho ?_
  refine x_aload_n (j := 0) C dX3_codeOf_15 rfl rfl ?_
  refine gf3_18 C dX3_codeOf_16 ho ?_
  refine x_iconst (v := 2) C dX3_codeOf_19 (by decide) ?_
  refine x_icmp_ne (tgt := 30) C dX3_codeOf_20 (by decide) (fun c20 => ?_) (fun c20 => ?_)
  · rw [if_neg c20] at h
    refine x_aload_n (j := 0) C dX3_codeOf_30 rfl rfl ?_
    obtain ⟨⟨r31, s31⟩, e31, h⟩ := Option.bind_eq_some_iff.mp h
    try dsimp only at h
    refine k3_38 C dX3_codeOf_31 e31 ho (x_room R rfl) (Nat.le_of_ble_eq_true rfl) ?_
    refine x_if_eq (tgt := 44) C dX3_codeOf_34 (by decide) (fun c34 => ?_) (fun c34 => ?_)
    · rw [if_pos c34] at h
      refine x_aload_n (j := 0) C dX3_codeOf_44 rfl rfl ?_
      refine x_iload_n (j := 1) C dX3_codeOf_45 rfl rfl ?_
      obtain ⟨s46, e46, h⟩ := Option.bind_eq_some_iff.mp h
      try dsimp only at h
      refine k3_73 C dX3_codeOf_46 e46 ho (x_room R rfl) (Nat.le_of_ble_eq_true rfl) ?_
      refine x_aload_n (j := 0) C dX3_codeOf_49 rfl rfl ?_
      refine gf3_58 C dX3_codeOf_50 ho ?_
      cases h
      exact x_iret C dX3_codeOf_53
    · rw [if_neg c34] at h
      refine x_aload_n (j := 0) C dX3_codeOf_37 rfl rfl ?_
      obtain ⟨s38, e38, h⟩ := Option.bind_eq_some_iff.mp h
      try dsimp only at h
      refine k3_70 C dX3_codeOf_38 e38 ho (x_room R rfl) (Nat.le_of_ble_eq_true rfl) ?_
      refine x_goto (tgt := 49) C dX3_codeOf_41 (by decide) ?_
      refine x_aload_n (j := 0) C dX3_codeOf_49 rfl rfl ?_
      refine gf3_58 C dX3_codeOf_50 ho ?_
      cases h
      exact x_iret C dX3_codeOf_53
  · rw [if_pos c20] at h
    refine x_aload_n (j := 0) C dX3_codeOf_23 rfl rfl ?_
    obtain ⟨s24, e24, h⟩ := Option.bind_eq_some_iff.mp h
    try dsimp only at h
    refine k3_67 C dX3_codeOf_24 e24 ho (x_room R rfl) (Nat.le_of_ble_eq_true rfl) ?_
    refine x_goto (tgt := 49) C dX3_codeOf_27 (by decide) ?_
    refine x_aload_n (j := 0) C dX3_codeOf_49 rfl rfl ?_
    refine gf3_58 C dX3_codeOf_50 ho ?_
    cases h
    exact x_iret C dX3_codeOf_53
theorem c3_codeOf (l : Launch) (G : xG) {N : Nat} {o : Nat} {p1 : Int32} {s : cS} {r : Int32} {s1 : cS} (ho : o < 8) (h : f3_codeOf N o p1 s = some (r, s1)) : xMet l yX3_codeOf (x_ws yX3_codeOf cX3_codeOf 2 (some .int)) (xrm 2 45) G cdom [.ref (G.2.1 2 o), .int (p1)] (encC G s) (some (.int r)) (encC G s1) := by
  refine xMet.of (by decide +kernel) (Nat.le_of_ble_eq_true rfl) ?_
  rintro ⟨M, G', dom', n'⟩ e1 R e3 e4 e5 C
  change G' = G at e3; change dom' = cdom at e4; change n' = 2 at e5
  subst e3; subst e4; subst e5
  exact t3_codeOf C R ho h
theorem k8_134 {M : xM} {G : xG} {n : Nat} {rv : Option Value} {E' : xE} {cc : ByteArray} {ret : Option FieldType} {pc : Nat} {ls : List (Nat × Value)} {st : List Value} {N : Nat} {p1 : Int32} {s s1 : cS} {r : Int32} (C : xC (M, G, cdom, n) RX8 cc ret) (d : decode cc pc = .ok (.invokevirtual 134, 3)) (h : f8_isNumber N p1 s = some (r, s1)) (hR : (xrm 0 0).frames + 1 ≤ (xR (M, G, cdom, n)).frames ∧ 8 + (2 + 11) + (xrm 0 0).locals ≤ (xR (M, G, cdom, n)).locals) (hw : (st.map fun v => v.category).sum ≤ 8) (k : X (M, G, cdom, n) rv E' (encC G s1) (pc + 3) ls (.int r :: st)) : X (M, G, cdom, n) rv E' (encC G s) pc ls (.int (p1) :: .ref (G.2.1 0 0) :: st) :=
  x_callV (As := [.int (p1)]) (n := 1) C d (c8_isNumber (xl (M, G, cdom, n)) G h) lk403 lk405 lk11 lk78 lk406 ⟨rfl, rfl⟩ ⟨by decide +kernel, by decide +kernel, by decide +kernel⟩ rfl hR rfl rfl rfl rfl hw k
theorem k8_139 {M : xM} {G : xG} {n : Nat} {rv : Option Value} {E' : xE} {cc : ByteArray} {ret : Option FieldType} {pc : Nat} {ls : List (Nat × Value)} {st : List Value} {N : Nat} {o : Nat} {p1 : Int32} {s s1 : cS} {r : Int32} (C : xC (M, G, cdom, n) RX8 cc ret) (d : decode cc pc = .ok (.invokevirtual 139, 3)) (h : f3_codeOf N o p1 s = some (r, s1)) (ho : o < 8) (hR : (xrm 2 45).frames + 1 ≤ (xR (M, G, cdom, n)).frames ∧ 8 + (2 + 11) + (xrm 2 45).locals ≤ (xR (M, G, cdom, n)).locals) (hw : (st.map fun v => v.category).sum ≤ 8) (k : X (M, G, cdom, n) rv E' (encC G s1) (pc + 3) ls (.int r :: st)) : X (M, G, cdom, n) rv E' (encC G s) pc ls (.int (p1) :: .ref (G.2.1 2 o) :: st) :=
  x_callVN (As := [.int (p1)]) (n := 1) C d (c3_codeOf (xl (M, G, cdom, n)) G ho h) lk408 lk410 lk12 lk84 lk411 ⟨rfl, rfl⟩ ⟨by decide +kernel, by decide +kernel, by decide +kernel⟩ rfl hR (decide_eq_true ho) rfl rfl rfl hw k
set_option maxRecDepth 100000 in
theorem t8_read {M : xM} {G : xG} {N : Nat} {p1 : Int32} {p2 : Int32} (C : xC (M, G, cdom, 4) RX8 cX8_read (some .int)) (R : xR (M, G, cdom, 4) = xrm 3 66) {s : cS} {r : Int32} {s1 : cS} (h : f8_read N p1 p2 s = some (r, s1)) : X (M, G, cdom, 4) (some (.int r)) (encC G s1) (encC G s) 0 [(0, .ref (G.2.1 0 0)), (1, .int (p1)), (2, .int (p2))] [] := by
  unfold f8_read at h
  refine x_aload_n (j := 0) C dX8_read_0 rfl rfl ?_
  refine x_iload_n (j := 1) C dX8_read_1 rfl rfl ?_
  obtain ⟨⟨r2, s2⟩, e2, h⟩ := Option.bind_eq_some_iff.mp h
  try dsimp only at h
  refine k8_83 C dX8_read_2 e2 (x_room R rfl) (Nat.le_of_ble_eq_true rfl) ?_
  refine x_astore_nq (i := 3) (ls' := [(3, va_rf (Option.map (G.2.1 2) r2)), (0, .ref (G.2.1 0 0)), (1, .int (p1)), (2, .int (p2))]) C (Option.map (G.2.1 2) r2) dX8_read_5 rfl (Nat.le_of_ble_eq_true rfl) rfl ?_
  refine x_aload_nq (j := 0) C (Option.map (G.2.1 2) r2) dX8_read_6 rfl rfl ?_
  cases r2 with
  | none =>
    try dsimp only at h
    change X (M, G, cdom, 4) _ _ _ 7 [(3, .null), (0, .ref (G.2.1 0 0)), (1, .int (p1)), (2, .int (p2))] [.null]
    refine x_ifnullN (tgt := 18) C dX8_read_7 (by decide) ?_
    refine x_ldc (v := (-2147483648)) C dX8_read_18 lk407 ?_
    refine x_goto (tgt := 28) C dX8_read_20 (by decide) ?_
    cases h
    exact x_iret C dX8_read_28
  | some w7 =>
    try dsimp only at h
    change X (M, G, cdom, 4) _ _ _ 7 [(3, .ref (G.2.1 2 w7)), (0, .ref (G.2.1 0 0)), (1, .int (p1)), (2, .int (p2))] [.ref (G.2.1 2 w7)]
    refine x_ifnull C dX8_read_7 ?_
    refine x_aload_n (j := 1) C dX8_read_10 rfl rfl ?_
    refine x_iload_n (j := 3) C dX8_read_11 rfl rfl ?_
    obtain ⟨⟨r12, s12⟩, e12, h⟩ := Option.bind_eq_some_iff.mp h
    try dsimp only at h
    refine k8_134 C dX8_read_12 e12 (x_room R rfl) (Nat.le_of_ble_eq_true rfl) ?_
    refine x_if_ne (tgt := 23) C dX8_read_15 (by decide) (fun c15 => ?_) (fun c15 => ?_)
    · rw [if_neg c15] at h
      refine x_aload_n (j := 0) C dX8_read_23 rfl rfl ?_
      refine x_iload_n (j := 3) C dX8_read_24 rfl rfl ?_
      by_cases g25_1 : w7 < 8
      case neg => rw [if_neg g25_1] at h; cases h
      rw [if_pos g25_1] at h
      obtain ⟨⟨r25, s25⟩, e25, h⟩ := Option.bind_eq_some_iff.mp h
      try dsimp only at h
      refine k8_139 C dX8_read_25 e25 g25_1 (x_room R rfl) (Nat.le_of_ble_eq_true rfl) ?_
      cases h
      exact x_iret C dX8_read_28
    · rw [if_pos c15] at h
      refine x_ldc (v := (-2147483648)) C dX8_read_18 lk407 ?_
      refine x_goto (tgt := 28) C dX8_read_20 (by decide) ?_
      cases h
      exact x_iret C dX8_read_28
theorem c8_read (l : Launch) (G : xG) {N : Nat} {p1 : Int32} {p2 : Int32} {s : cS} {r : Int32} {s1 : cS} (h : f8_read N p1 p2 s = some (r, s1)) : xMet l yX8_read (x_ws yX8_read cX8_read 4 (some .int)) (xrm 3 66) G cdom [.ref (G.2.1 0 0), .int (p1), .int (p2)] (encC G s) (some (.int r)) (encC G s1) := by
  refine xMet.of (by decide +kernel) (Nat.le_of_ble_eq_true rfl) ?_
  rintro ⟨M, G', dom', n'⟩ e1 R e3 e4 e5 C
  change G' = G at e3; change dom' = cdom at e4; change n' = 4 at e5
  subst e3; subst e4; subst e5
  exact t8_read C R h
set_option maxRecDepth 100000 in
theorem t8_trail {M : xM} {G : xG} {N : Nat} {p1 : Int32} {p2 : Int32} (C : xC (M, G, cdom, 4) RX8 cX8_trail (some .int)) (R : xR (M, G, cdom, 4) = xrm 3 66) {s : cS} {r : Int32} {s1 : cS} (h : f8_trail N p1 p2 s = some (r, s1)) : X (M, G, cdom, 4) (some (.int r)) (encC G s1) (encC G s) 0 [(0, .ref (G.2.1 0 0)), (1, .int (p1)), (2, .int (p2))] [] := by
  unfold f8_trail at h
  refine x_aload_n (j := 0) C dX8_trail_0 rfl rfl ?_
  refine x_iload_n (j := 1) C dX8_trail_1 rfl rfl ?_
  obtain ⟨⟨r2, s2⟩, e2, h⟩ := Option.bind_eq_some_iff.mp h
  try dsimp only at h
  refine k8_83 C dX8_trail_2 e2 (x_room R rfl) (Nat.le_of_ble_eq_true rfl) ?_
  refine x_astore_nq (i := 3) (ls' := [(3, va_rf (Option.map (G.2.1 2) r2)), (0, .ref (G.2.1 0 0)), (1, .int (p1)), (2, .int (p2))]) C (Option.map (G.2.1 2) r2) dX8_trail_5 rfl (Nat.le_of_ble_eq_true rfl) rfl ?_
  refine x_aload_nq (j := 0) C (Option.map (G.2.1 2) r2) dX8_trail_6 rfl rfl ?_
  cases r2 with
  | none =>
    try dsimp only at h
    change X (M, G, cdom, 4) _ _ _ 7 [(3, .null), (0, .ref (G.2.1 0 0)), (1, .int (p1)), (2, .int (p2))] [.null]
    refine x_ifnullN (tgt := 18) C dX8_trail_7 (by decide) ?_
    refine x_iconst (v := (-1)) C dX8_trail_18 (by decide) ?_
    cases h
    exact x_iret C dX8_trail_19
  | some w7 =>
    try dsimp only at h
    change X (M, G, cdom, 4) _ _ _ 7 [(3, .ref (G.2.1 2 w7)), (0, .ref (G.2.1 0 0)), (1, .int (p1)), (2, .int (p2))] [.ref (G.2.1 2 w7)]
    refine x_ifnull C dX8_trail_7 ?_
    refine x_aload_n (j := 1) C dX8_trail_10 rfl rfl ?_
    refine x_iload_n (j := 3) C dX8_trail_11 rfl rfl ?_
    obtain ⟨⟨r12, s12⟩, e12, h⟩ := Option.bind_eq_some_iff.mp h
    try dsimp only at h
    refine k8_134 C dX8_trail_12 e12 (x_room R rfl) (Nat.le_of_ble_eq_true rfl) ?_
    refine x_if_ne (tgt := 20) C dX8_trail_15 (by decide) (fun c15 => ?_) (fun c15 => ?_)
    · rw [if_neg c15] at h
      refine x_aload_n (j := 0) C dX8_trail_20 rfl rfl ?_
      refine x_iload_n (j := 3) C dX8_trail_21 rfl rfl ?_
      by_cases g22_1 : w7 < 8
      case neg => rw [if_neg g22_1] at h; cases h
      rw [if_pos g22_1] at h
      obtain ⟨⟨r22, s22⟩, e22, h⟩ := Option.bind_eq_some_iff.mp h
      try dsimp only at h
      refine k8_139 C dX8_trail_22 e22 g22_1 (x_room R rfl) (Nat.le_of_ble_eq_true rfl) ?_
      refine x_pop C dX8_trail_25 rfl ?_
      refine x_aload_n (j := 0) C dX8_trail_26 rfl rfl ?_
      refine gf8_143 C dX8_trail_27 g22_1 ?_
      cases h
      exact x_iret C dX8_trail_30
    · rw [if_pos c15] at h
      refine x_iconst (v := (-1)) C dX8_trail_18 (by decide) ?_
      cases h
      exact x_iret C dX8_trail_19
theorem c8_trail (l : Launch) (G : xG) {N : Nat} {p1 : Int32} {p2 : Int32} {s : cS} {r : Int32} {s1 : cS} (h : f8_trail N p1 p2 s = some (r, s1)) : xMet l yX8_trail (x_ws yX8_trail cX8_trail 4 (some .int)) (xrm 3 66) G cdom [.ref (G.2.1 0 0), .int (p1), .int (p2)] (encC G s) (some (.int r)) (encC G s1) := by
  refine xMet.of (by decide +kernel) (Nat.le_of_ble_eq_true rfl) ?_
  rintro ⟨M, G', dom', n'⟩ e1 R e3 e4 e5 C
  change G' = G at e3; change dom' = cdom at e4; change n' = 4 at e5
  subst e3; subst e4; subst e5
  exact t8_trail C R h
set_option maxRecDepth 100000 in
theorem t8_rest {M : xM} {G : xG} {N : Nat} {p1 : Int32} {p2 : Int32} (C : xC (M, G, cdom, 4) RX8 cX8_rest (some .int)) (R : xR (M, G, cdom, 4) = xrm 3 66) {s : cS} {r : Int32} {s1 : cS} (h : f8_rest N p1 p2 s = some (r, s1)) : X (M, G, cdom, 4) (some (.int r)) (encC G s1) (encC G s) 0 [(0, .ref (G.2.1 0 0)), (1, .int (p1)), (2, .int (p2))] [] := by
  unfold f8_rest at h
  refine x_aload_n (j := 0) C dX8_rest_0 rfl rfl ?_
  refine x_iload_n (j := 1) C dX8_rest_1 rfl rfl ?_
  obtain ⟨⟨r2, s2⟩, e2, h⟩ := Option.bind_eq_some_iff.mp h
  try dsimp only at h
  refine k8_83 C dX8_rest_2 e2 (x_room R rfl) (Nat.le_of_ble_eq_true rfl) ?_
  refine x_astore_nq (i := 3) (ls' := [(3, va_rf (Option.map (G.2.1 2) r2)), (0, .ref (G.2.1 0 0)), (1, .int (p1)), (2, .int (p2))]) C (Option.map (G.2.1 2) r2) dX8_rest_5 rfl (Nat.le_of_ble_eq_true rfl) rfl ?_
  refine x_aload_nq (j := 0) C (Option.map (G.2.1 2) r2) dX8_rest_6 rfl rfl ?_
  cases r2 with
  | none =>
    try dsimp only at h
    change X (M, G, cdom, 4) _ _ _ 7 [(3, .null), (0, .ref (G.2.1 0 0)), (1, .int (p1)), (2, .int (p2))] [.null]
    refine x_ifnullN (tgt := 18) C dX8_rest_7 (by decide) ?_
    refine x_ldc (v := (-2147483648)) C dX8_rest_18 lk407 ?_
    cases h
    exact x_iret C dX8_rest_20
  | some w7 =>
    try dsimp only at h
    change X (M, G, cdom, 4) _ _ _ 7 [(3, .ref (G.2.1 2 w7)), (0, .ref (G.2.1 0 0)), (1, .int (p1)), (2, .int (p2))] [.ref (G.2.1 2 w7)]
    refine x_ifnull C dX8_rest_7 ?_
    refine x_aload_n (j := 1) C dX8_rest_10 rfl rfl ?_
    refine x_iload_n (j := 3) C dX8_rest_11 rfl rfl ?_
    obtain ⟨⟨r12, s12⟩, e12, h⟩ := Option.bind_eq_some_iff.mp h
    try dsimp only at h
    refine k8_134 C dX8_rest_12 e12 (x_room R rfl) (Nat.le_of_ble_eq_true rfl) ?_
    refine x_if_ne (tgt := 21) C dX8_rest_15 (by decide) (fun c15 => ?_) (fun c15 => ?_)
    · rw [if_neg c15] at h
      refine x_aload_n (j := 0) C dX8_rest_21 rfl rfl ?_
      refine x_iload_n (j := 3) C dX8_rest_22 rfl rfl ?_
      by_cases g23_1 : w7 < 8
      case neg => rw [if_neg g23_1] at h; cases h
      rw [if_pos g23_1] at h
      obtain ⟨⟨r23, s23⟩, e23, h⟩ := Option.bind_eq_some_iff.mp h
      try dsimp only at h
      refine k8_139 C dX8_rest_23 e23 g23_1 (x_room R rfl) (Nat.le_of_ble_eq_true rfl) ?_
      refine x_pop C dX8_rest_26 rfl ?_
      refine x_aload_n (j := 0) C dX8_rest_27 rfl rfl ?_
      refine gf8_146 C dX8_rest_28 g23_1 ?_
      cases h
      exact x_iret C dX8_rest_31
    · rw [if_pos c15] at h
      refine x_ldc (v := (-2147483648)) C dX8_rest_18 lk407 ?_
      cases h
      exact x_iret C dX8_rest_20
theorem c8_rest (l : Launch) (G : xG) {N : Nat} {p1 : Int32} {p2 : Int32} {s : cS} {r : Int32} {s1 : cS} (h : f8_rest N p1 p2 s = some (r, s1)) : xMet l yX8_rest (x_ws yX8_rest cX8_rest 4 (some .int)) (xrm 3 66) G cdom [.ref (G.2.1 0 0), .int (p1), .int (p2)] (encC G s) (some (.int r)) (encC G s1) := by
  refine xMet.of (by decide +kernel) (Nat.le_of_ble_eq_true rfl) ?_
  rintro ⟨M, G', dom', n'⟩ e1 R e3 e4 e5 C
  change G' = G at e3; change dom' = cdom at e4; change n' = 4 at e5
  subst e3; subst e4; subst e5
  exact t8_rest C R h
theorem k7_29 {M : xM} {G : xG} {n : Nat} {rv : Option Value} {E' : xE} {cc : ByteArray} {ret : Option FieldType} {pc : Nat} {ls : List (Nat × Value)} {st : List Value} {N : Nat} {o : Nat} {p1 : Int32} {s s1 : cS} {r : Int32} (C : xC (M, G, cdom, n) RX7 cc ret) (d : decode cc pc = .ok (.invokevirtual 29, 3)) (h : f3_codeOf N o p1 s = some (r, s1)) (ho : o < 8) (hR : (xrm 2 45).frames + 1 ≤ (xR (M, G, cdom, n)).frames ∧ 8 + (2 + 11) + (xrm 2 45).locals ≤ (xR (M, G, cdom, n)).locals) (hw : (st.map fun v => v.category).sum ≤ 8) (k : X (M, G, cdom, n) rv E' (encC G s1) (pc + 3) ls (.int r :: st)) : X (M, G, cdom, n) rv E' (encC G s) pc ls (.int (p1) :: .ref (G.2.1 2 o) :: st) :=
  x_callVN (As := [.int (p1)]) (n := 1) C d (c3_codeOf (xl (M, G, cdom, n)) G ho h) lk458 lk410 lk12 lk84 lk411 ⟨rfl, rfl⟩ ⟨by decide +kernel, by decide +kernel, by decide +kernel⟩ rfl hR (decide_eq_true ho) rfl rfl rfl hw k
set_option maxRecDepth 100000 in
theorem t7_fillFrom_l17b {M : xM} {G : xG} {N : Nat} {p1 : Nat} {p2 : Int32} (C : xC (M, G, cdom, 4) RX7 cX7_fillFrom none) (R : xR (M, G, cdom, 4) = xrm 3 66) {k17 : Int32 → cS → Option (cS)} (hk17 : ∀ (a3 : Int32) (s : cS) (s1 : cS), k17 a3 s = some s1 → X (M, G, cdom, 4) none (encC G s1) (encC G s) 17 [(0, .ref (G.2.1 5 0)), (1, .ref (G.2.1 2 p1)), (3, .int (a3))] []) {a3 : Int32} {s : cS} {s1 : cS} (h : f7_fillFrom_l17b N p1 p2 k17 a3 s = some s1) : X (M, G, cdom, 4) none (encC G s1) (encC G s) 17 [(0, .ref (G.2.1 5 0)), (1, .ref (G.2.1 2 p1)), (3, .int (a3))] [] := by
  unfold f7_fillFrom_l17b at h
  refine x_iload_n (j := 2) C dX7_fillFrom_17 rfl rfl ?_
  refine x_aload_n (j := 0) C dX7_fillFrom_18 rfl rfl ?_
  refine gf7_19 C dX7_fillFrom_19 ?_
  refine x_icmp_gt (tgt := 51) C dX7_fillFrom_22 (by decide) (fun c22 => ?_) (fun c22 => ?_)
  · rw [if_pos c22] at h
    cases h
    exact x_vret C dX7_fillFrom_51
  · rw [if_neg c22] at h
    refine x_iload_n (j := 2) C dX7_fillFrom_25 rfl rfl ?_
    refine x_aload_n (j := 0) C dX7_fillFrom_26 rfl rfl ?_
    refine gf7_9 C dX7_fillFrom_27 ?_
    refine cal6 C dX7_fillFrom_30 ?_
    refine x_icmp_ge (tgt := 51) C dX7_fillFrom_31 (by decide) (fun c31 => ?_) (fun c31 => ?_)
    · rw [if_pos c31] at h
      cases h
      exact x_vret C dX7_fillFrom_51
    · rw [if_neg c31] at h
      refine x_aload_n (j := 0) C dX7_fillFrom_34 rfl rfl ?_
      refine gf7_9 C dX7_fillFrom_35 ?_
      refine x_iload_n (j := 2) C dX7_fillFrom_38 rfl rfl ?_
      refine x_aload_n (j := 1) C dX7_fillFrom_39 rfl rfl ?_
      refine x_iload_n (j := 2) C dX7_fillFrom_40 rfl rfl ?_
      by_cases g41_1 : p1 < 8
      case neg => rw [if_neg g41_1] at h; cases h
      rw [if_pos g41_1] at h
      obtain ⟨⟨r41, s41⟩, e41, h⟩ := Option.bind_eq_some_iff.mp h
      try dsimp only at h
      refine k7_29 C dX7_fillFrom_41 e41 g41_1 (x_room R rfl) (Nat.le_of_ble_eq_true rfl) ?_
      by_cases g44_2 : inB a3 4096 = true
      case neg => rw [if_neg g44_2] at h; cases h
      rw [if_pos g44_2] at h
      refine cst6 C dX7_fillFrom_44 g44_2 ?_
      refine x_iinc (j := 2) (v := (a3 + 1)) (ls' := [(3, .int ((a3 + 1))), (0, .ref (G.2.1 5 0)), (1, .ref (G.2.1 2 p1))]) C dX7_fillFrom_45 rfl rfl (Nat.le_of_ble_eq_true rfl) rfl ?_
      refine x_goto (tgt := 17) C dX7_fillFrom_48 (by decide) ?_
      refine x_sub (ls' := [(0, .ref (G.2.1 5 0)), (1, .ref (G.2.1 2 p1)), (3, .int ((a3 + 1)))]) [1, 2, 0] rfl ?_
      exact hk17 _ _ _ h
theorem t7_fillFrom_l17 {M : xM} {G : xG} {N : Nat} {p1 : Nat} {p2 : Int32} (C : xC (M, G, cdom, 4) RX7 cX7_fillFrom none) (R : xR (M, G, cdom, 4) = xrm 3 66) (n : Nat) : ∀ (a3 : Int32) (s : cS) (s1 : cS), f7_fillFrom_l17 N p1 p2 n a3 s = some s1 → X (M, G, cdom, 4) none (encC G s1) (encC G s) 17 [(0, .ref (G.2.1 5 0)), (1, .ref (G.2.1 2 p1)), (3, .int (a3))] [] := by
  induction n with
  | zero => intro a3 s s1 h; exact (Option.some_ne_none _ (Eq.symm h)).elim
  | succ n ih => intro a3 s s1 h; exact t7_fillFrom_l17b (N := N) (p1 := p1) (p2 := p2) C R (k17 := f7_fillFrom_l17 N p1 p2 n) ih h
set_option maxRecDepth 100000 in
theorem t7_fillFrom {M : xM} {G : xG} {N : Nat} {p1 : Nat} {p2 : Int32} (C : xC (M, G, cdom, 4) RX7 cX7_fillFrom none) (R : xR (M, G, cdom, 4) = xrm 3 66) {s : cS} {s1 : cS} (h : f7_fillFrom N p1 p2 s = some s1) : X (M, G, cdom, 4) none (encC G s1) (encC G s) 0 [(0, .ref (G.2.1 5 0)), (1, .ref (G.2.1 2 p1)), (2, .int (p2))] [] := by
  unfold f7_fillFrom at h
  refine x_aload_n (j := 0) C dX7_fillFrom_0 rfl rfl ?_
  refine x_iload_n (j := 2) C dX7_fillFrom_1 rfl rfl ?_
  refine x_aload_n (j := 0) C dX7_fillFrom_2 rfl rfl ?_
  refine gf7_9 C dX7_fillFrom_3 ?_
  refine cal6 C dX7_fillFrom_6 ?_
  refine x_iconst (v := 1) C dX7_fillFrom_7 (by decide) ?_
  refine x_isub C dX7_fillFrom_8 ?_
  refine x_min C dX7_fillFrom_9 lk457 lk332 lk88 lk333 (x_rf R rfl) (x_rl R rfl) ?_
  refine pf7_19 C dX7_fillFrom_12 ?_
  refine x_iconst (v := 0) C dX7_fillFrom_15 (by decide) ?_
  refine x_istore_n (i := 3) (ls' := [(3, .int (0)), (0, .ref (G.2.1 5 0)), (1, .ref (G.2.1 2 p1)), (2, .int (p2))]) C dX7_fillFrom_16 rfl (Nat.le_of_ble_eq_true rfl) rfl ?_
  refine x_sub (ls' := [(0, .ref (G.2.1 5 0)), (1, .ref (G.2.1 2 p1)), (3, .int (0))]) [1, 2, 0] rfl ?_
  exact t7_fillFrom_l17 (N := N) (p1 := p1) (p2 := p2) C R N _ _ _ h
theorem c7_fillFrom (l : Launch) (G : xG) {N : Nat} {p1 : Nat} {p2 : Int32} {s : cS} {s1 : cS} (h : f7_fillFrom N p1 p2 s = some s1) : xMet l yX7_fillFrom (x_ws yX7_fillFrom cX7_fillFrom 4 none) (xrm 3 66) G cdom [.ref (G.2.1 5 0), .ref (G.2.1 2 p1), .int (p2)] (encC G s) none (encC G s1) := by
  refine xMet.of (by decide +kernel) (Nat.le_of_ble_eq_true rfl) ?_
  rintro ⟨M, G', dom', n'⟩ e1 R e3 e4 e5 C
  change G' = G at e3; change dom' = cdom at e4; change n' = 4 at e5
  subst e3; subst e4; subst e5
  exact t7_fillFrom C R h
theorem k8_282 {M : xM} {G : xG} {n : Nat} {rv : Option Value} {E' : xE} {cc : ByteArray} {ret : Option FieldType} {pc : Nat} {ls : List (Nat × Value)} {st : List Value} {N : Nat} {p1 : Nat} {p2 : Int32} {s s1 : cS} (C : xC (M, G, cdom, n) RX8 cc ret) (d : decode cc pc = .ok (.invokevirtual 282, 3)) (h : f7_fillFrom N p1 p2 s = some s1) (hR : (xrm 3 66).frames + 1 ≤ (xR (M, G, cdom, n)).frames ∧ 8 + (4 + 11) + (xrm 3 66).locals ≤ (xR (M, G, cdom, n)).locals) (hw : (st.map fun v => v.category).sum ≤ 8) (k : X (M, G, cdom, n) rv E' (encC G s1) (pc + 3) ls (st)) : X (M, G, cdom, n) rv E' (encC G s) pc ls (.int (p2) :: .ref (G.2.1 2 p1) :: .ref (G.2.1 5 0) :: st) :=
  x_callVN (As := [.ref (G.2.1 2 p1), .int (p2)]) (n := 2) C d (c7_fillFrom (xl (M, G, cdom, n)) G h) lk453 lk455 lk19 lk79 lk456 ⟨rfl, rfl⟩ ⟨by decide +kernel, by decide +kernel, by decide +kernel⟩ rfl hR rfl rfl rfl rfl hw k
set_option maxRecDepth 100000 in
theorem t8_fillTable {M : xM} {G : xG} {N : Nat} {p1 : Int32} (C : xC (M, G, cdom, 3) RX8 cX8_fillTable (some .boolean)) (R : xR (M, G, cdom, 3) = xrm 4 89) {s : cS} {r : Int32} {s1 : cS} (h : f8_fillTable N p1 s = some (r, s1)) : X (M, G, cdom, 3) (some (.int r)) (encC G s1) (encC G s) 0 [(0, .ref (G.2.1 0 0)), (1, .int (p1))] [] := by
  unfold f8_fillTable at h
  refine x_aload_n (j := 0) C dX8_fillTable_0 rfl rfl ?_
  refine x_iload_n (j := 1) C dX8_fillTable_1 rfl rfl ?_
  obtain ⟨⟨r2, s2⟩, e2, h⟩ := Option.bind_eq_some_iff.mp h
  try dsimp only at h
  refine k8_83 C dX8_fillTable_2 e2 (x_room R rfl) (Nat.le_of_ble_eq_true rfl) ?_
  refine x_astore_nq (i := 2) (ls' := [(2, va_rf (Option.map (G.2.1 2) r2)), (0, .ref (G.2.1 0 0)), (1, .int (p1))]) C (Option.map (G.2.1 2) r2) dX8_fillTable_5 rfl (Nat.le_of_ble_eq_true rfl) rfl ?_
  refine x_aload_nq (j := 0) C (Option.map (G.2.1 2) r2) dX8_fillTable_6 rfl rfl ?_
  cases r2 with
  | none =>
    try dsimp only at h
    change X (M, G, cdom, 3) _ _ _ 7 [(2, .null), (0, .ref (G.2.1 0 0)), (1, .int (p1))] [.null]
    refine x_ifnonnullN C dX8_fillTable_7 ?_
    refine x_iconst (v := 0) C dX8_fillTable_10 (by decide) ?_
    cases h
    exact x_zret C dX8_fillTable_11 rfl
  | some w7 =>
    try dsimp only at h
    change X (M, G, cdom, 3) _ _ _ 7 [(2, .ref (G.2.1 2 w7)), (0, .ref (G.2.1 0 0)), (1, .int (p1))] [.ref (G.2.1 2 w7)]
    refine x_ifnonnull (tgt := 12) C dX8_fillTable_7 (by decide) ?_
    refine x_aload_n (j := 1) C dX8_fillTable_12 rfl rfl ?_
    refine gf8_69 C dX8_fillTable_13 ?_
    refine x_iload_n (j := 2) C dX8_fillTable_16 rfl rfl ?_
    refine x_icmp_eq (tgt := 37) C dX8_fillTable_17 (by decide) (fun c17 => ?_) (fun c17 => ?_)
    · rw [if_pos c17] at h
      refine x_iconst (v := 1) C dX8_fillTable_37 (by decide) ?_
      cases h
      exact x_zret C dX8_fillTable_38 rfl
    · rw [if_neg c17] at h
      refine x_aload_n (j := 1) C dX8_fillTable_20 rfl rfl ?_
      refine gf8_18 C dX8_fillTable_21 ?_
      refine x_aload_n (j := 0) C dX8_fillTable_24 rfl rfl ?_
      refine x_aload_n (j := 1) C dX8_fillTable_25 rfl rfl ?_
      refine gf8_56 C dX8_fillTable_26 ?_
      obtain ⟨s29, e29, h⟩ := Option.bind_eq_some_iff.mp h
      try dsimp only at h
      refine k8_282 C dX8_fillTable_29 e29 (x_room R rfl) (Nat.le_of_ble_eq_true rfl) ?_
      refine x_aload_n (j := 1) C dX8_fillTable_32 rfl rfl ?_
      refine x_iload_n (j := 2) C dX8_fillTable_33 rfl rfl ?_
      refine pf8_69 C dX8_fillTable_34 ?_
      refine x_iconst (v := 1) C dX8_fillTable_37 (by decide) ?_
      cases h
      exact x_zret C dX8_fillTable_38 rfl
theorem c8_fillTable (l : Launch) (G : xG) {N : Nat} {p1 : Int32} {s : cS} {r : Int32} {s1 : cS} (h : f8_fillTable N p1 s = some (r, s1)) : xMet l yX8_fillTable (x_ws yX8_fillTable cX8_fillTable 3 (some .boolean)) (xrm 4 89) G cdom [.ref (G.2.1 0 0), .int (p1)] (encC G s) (some (.int r)) (encC G s1) := by
  refine xMet.of (by decide +kernel) (Nat.le_of_ble_eq_true rfl) ?_
  rintro ⟨M, G', dom', n'⟩ e1 R e3 e4 e5 C
  change G' = G at e3; change dom' = cdom at e4; change n' = 3 at e5
  subst e3; subst e4; subst e5
  exact t8_fillTable C R h
theorem k8_156 {M : xM} {G : xG} {n : Nat} {rv : Option Value} {E' : xE} {cc : ByteArray} {ret : Option FieldType} {pc : Nat} {ls : List (Nat × Value)} {st : List Value} {N : Nat} {p1 : Int32} {s s1 : cS} {r : Int32} (C : xC (M, G, cdom, n) RX8 cc ret) (d : decode cc pc = .ok (.invokevirtual 156, 3)) (h : f8_fillTable N p1 s = some (r, s1)) (hR : (xrm 4 89).frames + 1 ≤ (xR (M, G, cdom, n)).frames ∧ 8 + (3 + 11) + (xrm 4 89).locals ≤ (xR (M, G, cdom, n)).locals) (hw : (st.map fun v => v.category).sum ≤ 8) (k : X (M, G, cdom, n) rv E' (encC G s1) (pc + 3) ls (.int r :: st)) : X (M, G, cdom, n) rv E' (encC G s) pc ls (.int (p1) :: .ref (G.2.1 0 0) :: st) :=
  x_callV (As := [.int (p1)]) (n := 1) C d (c8_fillTable (xl (M, G, cdom, n)) G h) lk449 lk451 lk18 lk78 lk452 ⟨rfl, rfl⟩ ⟨by decide +kernel, by decide +kernel, by decide +kernel⟩ rfl hR rfl rfl rfl rfl hw k
set_option maxRecDepth 100000 in
theorem t8_isTabled {M : xM} {G : xG} {N : Nat} {p1 : Int32} (C : xC (M, G, cdom, 3) RX8 cX8_isTabled (some .boolean)) (R : xR (M, G, cdom, 3) = xrm 5 111) {s : cS} {r : Int32} {s1 : cS} (h : f8_isTabled N p1 s = some (r, s1)) : X (M, G, cdom, 3) (some (.int r)) (encC G s1) (encC G s) 0 [(0, .ref (G.2.1 0 0)), (1, .int (p1))] [] := by
  unfold f8_isTabled at h
  refine x_aload_n (j := 0) C dX8_isTabled_0 rfl rfl ?_
  refine x_iload_n (j := 1) C dX8_isTabled_1 rfl rfl ?_
  obtain ⟨⟨r2, s2⟩, e2, h⟩ := Option.bind_eq_some_iff.mp h
  try dsimp only at h
  refine k8_156 C dX8_isTabled_2 e2 (x_room R rfl) (Nat.le_of_ble_eq_true rfl) ?_
  refine x_istore_n (i := 2) (ls' := [(2, .int (r2)), (0, .ref (G.2.1 0 0)), (1, .int (p1))]) C dX8_isTabled_5 rfl (Nat.le_of_ble_eq_true rfl) rfl ?_
  refine x_aload_n (j := 1) C dX8_isTabled_6 rfl rfl ?_
  refine x_iload_n (j := 0) C dX8_isTabled_7 rfl rfl ?_
  refine x_if_eq (tgt := 15) C dX8_isTabled_8 (by decide) (fun c8 => ?_) (fun c8 => ?_)
  · rw [if_pos c8] at h
    refine x_iconst (v := 2) C dX8_isTabled_15 (by decide) ?_
    refine pf8_66 C dX8_isTabled_16 ?_
    refine x_iload_n (j := 0) C dX8_isTabled_19 rfl rfl ?_
    by_cases g : r2 = 0 ∨ r2 = 1
    · rw [if_pos g] at h; cases h; exact x_zret C dX8_isTabled_20 (nar01 g)
    · rw [if_neg g] at h; cases h
  · rw [if_neg c8] at h
    refine x_iconst (v := 0) C dX8_isTabled_11 (by decide) ?_
    refine x_goto (tgt := 16) C dX8_isTabled_12 (by decide) ?_
    refine pf8_66 C dX8_isTabled_16 ?_
    refine x_iload_n (j := 0) C dX8_isTabled_19 rfl rfl ?_
    by_cases g : r2 = 0 ∨ r2 = 1
    · rw [if_pos g] at h; cases h; exact x_zret C dX8_isTabled_20 (nar01 g)
    · rw [if_neg g] at h; cases h
theorem c8_isTabled (l : Launch) (G : xG) {N : Nat} {p1 : Int32} {s : cS} {r : Int32} {s1 : cS} (h : f8_isTabled N p1 s = some (r, s1)) : xMet l yX8_isTabled (x_ws yX8_isTabled cX8_isTabled 3 (some .boolean)) (xrm 5 111) G cdom [.ref (G.2.1 0 0), .int (p1)] (encC G s) (some (.int r)) (encC G s1) := by
  refine xMet.of (by decide +kernel) (Nat.le_of_ble_eq_true rfl) ?_
  rintro ⟨M, G', dom', n'⟩ e1 R e3 e4 e5 C
  change G' = G at e3; change dom' = cdom at e4; change n' = 3 at e5
  subst e3; subst e4; subst e5
  exact t8_isTabled C R h
set_option maxRecDepth 100000 in
theorem t7_codeAt {M : xM} {G : xG} {N : Nat} {p1 : Int32} (C : xC (M, G, cdom, 2) RX7 cX7_codeAt (some .int)) (R : xR (M, G, cdom, 2) = xrm 0 0) {s : cS} {r : Int32} {s1 : cS} (h : f7_codeAt N p1 s = some (r, s1)) : X (M, G, cdom, 2) (some (.int r)) (encC G s1) (encC G s) 0 [(0, .ref (G.2.1 5 0)), (1, .int (p1))] [] := by
  unfold f7_codeAt at h
  refine x_iload_n (j := 1) C dX7_codeAt_0 rfl rfl ?_
  refine x_if_lt (tgt := 22) C dX7_codeAt_1 (by decide) (fun c1 => ?_) (fun c1 => ?_)
  · rw [if_pos c1] at h
    refine x_iconst (v := 0) C dX7_codeAt_22 (by decide) ?_
    cases h
    exact x_iret C dX7_codeAt_23
  · rw [if_neg c1] at h
    refine x_iload_n (j := 1) C dX7_codeAt_4 rfl rfl ?_
    refine x_aload_n (j := 0) C dX7_codeAt_5 rfl rfl ?_
    refine gf7_9 C dX7_codeAt_6 ?_
    refine cal6 C dX7_codeAt_9 ?_
    refine x_icmp_ge (tgt := 22) C dX7_codeAt_10 (by decide) (fun c10 => ?_) (fun c10 => ?_)
    · rw [if_pos c10] at h
      refine x_iconst (v := 0) C dX7_codeAt_22 (by decide) ?_
      cases h
      exact x_iret C dX7_codeAt_23
    · rw [if_neg c10] at h
      refine x_aload_n (j := 0) C dX7_codeAt_13 rfl rfl ?_
      refine gf7_9 C dX7_codeAt_14 ?_
      refine x_iload_n (j := 1) C dX7_codeAt_17 rfl rfl ?_
      by_cases g18_1 : inB p1 4096 = true
      case neg => rw [if_neg g18_1] at h; cases h
      rw [if_pos g18_1] at h
      refine cld6 C dX7_codeAt_18 g18_1 ?_
      refine x_goto (tgt := 23) C dX7_codeAt_19 (by decide) ?_
      cases h
      exact x_iret C dX7_codeAt_23
theorem c7_codeAt (l : Launch) (G : xG) {N : Nat} {p1 : Int32} {s : cS} {r : Int32} {s1 : cS} (h : f7_codeAt N p1 s = some (r, s1)) : xMet l yX7_codeAt (x_ws yX7_codeAt cX7_codeAt 2 (some .int)) (xrm 0 0) G cdom [.ref (G.2.1 5 0), .int (p1)] (encC G s) (some (.int r)) (encC G s1) := by
  refine xMet.of (by decide +kernel) (Nat.le_of_ble_eq_true rfl) ?_
  rintro ⟨M, G', dom', n'⟩ e1 R e3 e4 e5 C
  change G' = G at e3; change dom' = cdom at e4; change n' = 2 at e5
  subst e3; subst e4; subst e5
  exact t7_codeAt C R h
theorem k7_35 {M : xM} {G : xG} {n : Nat} {rv : Option Value} {E' : xE} {cc : ByteArray} {ret : Option FieldType} {pc : Nat} {ls : List (Nat × Value)} {st : List Value} {N : Nat} {p1 : Int32} {s s1 : cS} {r : Int32} (C : xC (M, G, cdom, n) RX7 cc ret) (d : decode cc pc = .ok (.invokevirtual 35, 3)) (h : f7_codeAt N p1 s = some (r, s1)) (hR : (xrm 0 0).frames + 1 ≤ (xR (M, G, cdom, n)).frames ∧ 8 + (2 + 11) + (xrm 0 0).locals ≤ (xR (M, G, cdom, n)).locals) (hw : (st.map fun v => v.category).sum ≤ 8) (k : X (M, G, cdom, n) rv E' (encC G s1) (pc + 3) ls (.int r :: st)) : X (M, G, cdom, n) rv E' (encC G s) pc ls (.int (p1) :: .ref (G.2.1 5 0) :: st) :=
  x_callV (As := [.int (p1)]) (n := 1) C d (c7_codeAt (xl (M, G, cdom, n)) G h) lk467 lk469 lk22 lk79 lk470 ⟨rfl, rfl⟩ ⟨by decide +kernel, by decide +kernel, by decide +kernel⟩ rfl hR rfl rfl rfl rfl hw k
set_option maxRecDepth 100000 in
theorem t7_endsSpan {M : xM} {G : xG} {N : Nat} {p1 : Int32} (C : xC (M, G, cdom, 2) RX7 cX7_endsSpan (some .boolean)) (R : xR (M, G, cdom, 2) = xrm 1 21) {s : cS} {r : Int32} {s1 : cS} (h : f7_endsSpan N p1 s = some (r, s1)) : X (M, G, cdom, 2) (some (.int r)) (encC G s1) (encC G s) 0 [(0, .ref (G.2.1 5 0)), (1, .int (p1))] [] := by
  unfold f7_endsSpan at h
  refine x_iload_n (j := 1) C dX7_endsSpan_0 rfl rfl ?_
  refine x_aload_n (j := 0) C dX7_endsSpan_1 rfl rfl ?_
  refine gf7_19 C dX7_endsSpan_2 ?_
  refine x_icmp_ge (tgt := 23) C dX7_endsSpan_5 (by decide) (fun c5 => ?_) (fun c5 => ?_)
  · rw [if_pos c5] at h
    refine x_iconst (v := 1) C dX7_endsSpan_23 (by decide) ?_
    refine x_goto (tgt := 28) C dX7_endsSpan_24 (by decide) ?_
    cases h
    exact x_zret C dX7_endsSpan_28 rfl
  · rw [if_neg c5] at h
    refine x_aload_n (j := 0) C dX7_endsSpan_8 rfl rfl ?_
    refine x_iload_n (j := 1) C dX7_endsSpan_9 rfl rfl ?_
    refine x_iconst (v := 1) C dX7_endsSpan_10 (by decide) ?_
    refine x_iadd C dX7_endsSpan_11 ?_
    obtain ⟨⟨r12, s12⟩, e12, h⟩ := Option.bind_eq_some_iff.mp h
    try dsimp only at h
    refine k7_35 C dX7_endsSpan_12 e12 (x_room R rfl) (Nat.le_of_ble_eq_true rfl) ?_
    refine x_aload_n (j := 0) C dX7_endsSpan_15 rfl rfl ?_
    refine x_iload_n (j := 1) C dX7_endsSpan_16 rfl rfl ?_
    obtain ⟨⟨r17, s17⟩, e17, h⟩ := Option.bind_eq_some_iff.mp h
    try dsimp only at h
    refine k7_35 C dX7_endsSpan_17 e17 (x_room R rfl) (Nat.le_of_ble_eq_true rfl) ?_
    refine x_icmp_eq (tgt := 27) C dX7_endsSpan_20 (by decide) (fun c20 => ?_) (fun c20 => ?_)
    · rw [if_pos c20] at h
      refine x_iconst (v := 0) C dX7_endsSpan_27 (by decide) ?_
      cases h
      exact x_zret C dX7_endsSpan_28 rfl
    · rw [if_neg c20] at h
      refine x_iconst (v := 1) C dX7_endsSpan_23 (by decide) ?_
      refine x_goto (tgt := 28) C dX7_endsSpan_24 (by decide) ?_
      cases h
      exact x_zret C dX7_endsSpan_28 rfl
theorem c7_endsSpan (l : Launch) (G : xG) {N : Nat} {p1 : Int32} {s : cS} {r : Int32} {s1 : cS} (h : f7_endsSpan N p1 s = some (r, s1)) : xMet l yX7_endsSpan (x_ws yX7_endsSpan cX7_endsSpan 2 (some .boolean)) (xrm 1 21) G cdom [.ref (G.2.1 5 0), .int (p1)] (encC G s) (some (.int r)) (encC G s1) := by
  refine xMet.of (by decide +kernel) (Nat.le_of_ble_eq_true rfl) ?_
  rintro ⟨M, G', dom', n'⟩ e1 R e3 e4 e5 C
  change G' = G at e3; change dom' = cdom at e4; change n' = 2 at e5
  subst e3; subst e4; subst e5
  exact t7_endsSpan C R h
theorem k7_38 {M : xM} {G : xG} {n : Nat} {rv : Option Value} {E' : xE} {cc : ByteArray} {ret : Option FieldType} {pc : Nat} {ls : List (Nat × Value)} {st : List Value} {N : Nat} {p1 : Int32} {s s1 : cS} {r : Int32} (C : xC (M, G, cdom, n) RX7 cc ret) (d : decode cc pc = .ok (.invokevirtual 38, 3)) (h : f7_endsSpan N p1 s = some (r, s1)) (hR : (xrm 1 21).frames + 1 ≤ (xR (M, G, cdom, n)).frames ∧ 8 + (2 + 11) + (xrm 1 21).locals ≤ (xR (M, G, cdom, n)).locals) (hw : (st.map fun v => v.category).sum ≤ 8) (k : X (M, G, cdom, n) rv E' (encC G s1) (pc + 3) ls (.int r :: st)) : X (M, G, cdom, n) rv E' (encC G s) pc ls (.int (p1) :: .ref (G.2.1 5 0) :: st) :=
  x_callV (As := [.int (p1)]) (n := 1) C d (c7_endsSpan (xl (M, G, cdom, n)) G h) lk463 lk465 lk21 lk79 lk466 ⟨rfl, rfl⟩ ⟨by decide +kernel, by decide +kernel, by decide +kernel⟩ rfl hR rfl rfl rfl rfl hw k
set_option maxRecDepth 100000 in
theorem t7_spanCount_l4b {M : xM} {G : xG} {N : Nat}  (C : xC (M, G, cdom, 3) RX7 cX7_spanCount (some .int)) (R : xR (M, G, cdom, 3) = xrm 2 42) {k4 : Int32 → Int32 → cS → Option (Int32 × cS)} (hk4 : ∀ (a1 : Int32) (a2 : Int32) (s : cS) (r : Int32) (s1 : cS), k4 a1 a2 s = some (r, s1) → X (M, G, cdom, 3) (some (.int r)) (encC G s1) (encC G s) 4 [(0, .ref (G.2.1 5 0)), (1, .int (a1)), (2, .int (a2))] []) {a1 : Int32} {a2 : Int32} {s : cS} {r : Int32} {s1 : cS} (h : f7_spanCount_l4b N k4 a1 a2 s = some (r, s1)) : X (M, G, cdom, 3) (some (.int r)) (encC G s1) (encC G s) 4 [(0, .ref (G.2.1 5 0)), (1, .int (a1)), (2, .int (a2))] [] := by
  unfold f7_spanCount_l4b at h
  refine x_iload_n (j := 2) C dX7_spanCount_4 rfl rfl ?_
  refine x_aload_n (j := 0) C dX7_spanCount_5 rfl rfl ?_
  refine gf7_19 C dX7_spanCount_6 ?_
  refine x_icmp_gt (tgt := 29) C dX7_spanCount_9 (by decide) (fun c9 => ?_) (fun c9 => ?_)
  · rw [if_pos c9] at h
    refine x_iload_n (j := 1) C dX7_spanCount_29 rfl rfl ?_
    cases h
    exact x_iret C dX7_spanCount_30
  · rw [if_neg c9] at h
    refine x_aload_n (j := 0) C dX7_spanCount_12 rfl rfl ?_
    refine x_iload_n (j := 2) C dX7_spanCount_13 rfl rfl ?_
    obtain ⟨⟨r14, s14⟩, e14, h⟩ := Option.bind_eq_some_iff.mp h
    try dsimp only at h
    refine k7_38 C dX7_spanCount_14 e14 (x_room R rfl) (Nat.le_of_ble_eq_true rfl) ?_
    refine x_if_eq (tgt := 23) C dX7_spanCount_17 (by decide) (fun c17 => ?_) (fun c17 => ?_)
    · rw [if_pos c17] at h
      refine x_iinc (j := 2) (v := (a2 + 1)) (ls' := [(2, .int ((a2 + 1))), (0, .ref (G.2.1 5 0)), (1, .int (a1))]) C dX7_spanCount_23 rfl rfl (Nat.le_of_ble_eq_true rfl) rfl ?_
      refine x_goto (tgt := 4) C dX7_spanCount_26 (by decide) ?_
      refine x_sub (ls' := [(0, .ref (G.2.1 5 0)), (1, .int (a1)), (2, .int ((a2 + 1)))]) [1, 2, 0] rfl ?_
      exact hk4 _ _ _ _ _ h
    · rw [if_neg c17] at h
      refine x_iinc (j := 1) (v := (a1 + 1)) (ls' := [(1, .int ((a1 + 1))), (0, .ref (G.2.1 5 0)), (2, .int (a2))]) C dX7_spanCount_20 rfl rfl (Nat.le_of_ble_eq_true rfl) rfl ?_
      refine x_iinc (j := 2) (v := (a2 + 1)) (ls' := [(2, .int ((a2 + 1))), (1, .int ((a1 + 1))), (0, .ref (G.2.1 5 0))]) C dX7_spanCount_23 rfl rfl (Nat.le_of_ble_eq_true rfl) rfl ?_
      refine x_goto (tgt := 4) C dX7_spanCount_26 (by decide) ?_
      refine x_sub (ls' := [(0, .ref (G.2.1 5 0)), (1, .int ((a1 + 1))), (2, .int ((a2 + 1)))]) [2, 1, 0] rfl ?_
      exact hk4 _ _ _ _ _ h
theorem t7_spanCount_l4 {M : xM} {G : xG} {N : Nat}  (C : xC (M, G, cdom, 3) RX7 cX7_spanCount (some .int)) (R : xR (M, G, cdom, 3) = xrm 2 42) (n : Nat) : ∀ (a1 : Int32) (a2 : Int32) (s : cS) (r : Int32) (s1 : cS), f7_spanCount_l4 N n a1 a2 s = some (r, s1) → X (M, G, cdom, 3) (some (.int r)) (encC G s1) (encC G s) 4 [(0, .ref (G.2.1 5 0)), (1, .int (a1)), (2, .int (a2))] [] := by
  induction n with
  | zero => intro a1 a2 s r s1 h; exact (Option.some_ne_none _ (Eq.symm h)).elim
  | succ n ih => intro a1 a2 s r s1 h; exact t7_spanCount_l4b (N := N) C R (k4 := f7_spanCount_l4 N n) ih h
set_option maxRecDepth 100000 in
theorem t7_spanCount {M : xM} {G : xG} {N : Nat}  (C : xC (M, G, cdom, 3) RX7 cX7_spanCount (some .int)) (R : xR (M, G, cdom, 3) = xrm 2 42) {s : cS} {r : Int32} {s1 : cS} (h : f7_spanCount N s = some (r, s1)) : X (M, G, cdom, 3) (some (.int r)) (encC G s1) (encC G s) 0 [(0, .ref (G.2.1 5 0))] [] := by
  unfold f7_spanCount at h
  refine x_iconst (v := 0) C dX7_spanCount_0 (by decide) ?_
  refine x_istore_n (i := 1) (ls' := [(1, .int (0)), (0, .ref (G.2.1 5 0))]) C dX7_spanCount_1 rfl (Nat.le_of_ble_eq_true rfl) rfl ?_
  refine x_iconst (v := 0) C dX7_spanCount_2 (by decide) ?_
  refine x_istore_n (i := 2) (ls' := [(2, .int (0)), (1, .int (0)), (0, .ref (G.2.1 5 0))]) C dX7_spanCount_3 rfl (Nat.le_of_ble_eq_true rfl) rfl ?_
  refine x_sub (ls' := [(0, .ref (G.2.1 5 0)), (1, .int (0)), (2, .int (0))]) [2, 1, 0] rfl ?_
  exact t7_spanCount_l4 (N := N) C R N _ _ _ _ _ h
theorem c7_spanCount (l : Launch) (G : xG) {N : Nat}  {s : cS} {r : Int32} {s1 : cS} (h : f7_spanCount N s = some (r, s1)) : xMet l yX7_spanCount (x_ws yX7_spanCount cX7_spanCount 3 (some .int)) (xrm 2 42) G cdom [.ref (G.2.1 5 0)] (encC G s) (some (.int r)) (encC G s1) := by
  refine xMet.of (by decide +kernel) (Nat.le_of_ble_eq_true rfl) ?_
  rintro ⟨M, G', dom', n'⟩ e1 R e3 e4 e5 C
  change G' = G at e3; change dom' = cdom at e4; change n' = 3 at e5
  subst e3; subst e4; subst e5
  exact t7_spanCount C R h
theorem k8_149 {M : xM} {G : xG} {n : Nat} {rv : Option Value} {E' : xE} {cc : ByteArray} {ret : Option FieldType} {pc : Nat} {ls : List (Nat × Value)} {st : List Value} {N : Nat} {p1 : Int32} {s s1 : cS} {r : Int32} (C : xC (M, G, cdom, n) RX8 cc ret) (d : decode cc pc = .ok (.invokevirtual 149, 3)) (h : f8_isTabled N p1 s = some (r, s1)) (hR : (xrm 5 111).frames + 1 ≤ (xR (M, G, cdom, n)).frames ∧ 8 + (3 + 11) + (xrm 5 111).locals ≤ (xR (M, G, cdom, n)).locals) (hw : (st.map fun v => v.category).sum ≤ 8) (k : X (M, G, cdom, n) rv E' (encC G s1) (pc + 3) ls (.int r :: st)) : X (M, G, cdom, n) rv E' (encC G s) pc ls (.int (p1) :: .ref (G.2.1 0 0) :: st) :=
  x_callV (As := [.int (p1)]) (n := 1) C d (c8_isTabled (xl (M, G, cdom, n)) G h) lk445 lk447 lk17 lk78 lk448 ⟨rfl, rfl⟩ ⟨by decide +kernel, by decide +kernel, by decide +kernel⟩ rfl hR rfl rfl rfl rfl hw k
theorem k8_152 {M : xM} {G : xG} {n : Nat} {rv : Option Value} {E' : xE} {cc : ByteArray} {ret : Option FieldType} {pc : Nat} {ls : List (Nat × Value)} {st : List Value} {N : Nat} {s s1 : cS} {r : Int32} (C : xC (M, G, cdom, n) RX8 cc ret) (d : decode cc pc = .ok (.invokevirtual 152, 3)) (h : f7_spanCount N s = some (r, s1)) (hR : (xrm 2 42).frames + 1 ≤ (xR (M, G, cdom, n)).frames ∧ 8 + (3 + 11) + (xrm 2 42).locals ≤ (xR (M, G, cdom, n)).locals) (hw : (st.map fun v => v.category).sum ≤ 8) (k : X (M, G, cdom, n) rv E' (encC G s1) (pc + 3) ls (.int r :: st)) : X (M, G, cdom, n) rv E' (encC G s) pc ls (.ref (G.2.1 5 0) :: st) :=
  x_callVN (As := []) (n := 0) C d (c7_spanCount (xl (M, G, cdom, n)) G h) lk459 lk461 lk20 lk79 lk462 ⟨rfl, rfl⟩ ⟨by decide +kernel, by decide +kernel, by decide +kernel⟩ rfl hR rfl rfl rfl rfl hw k
set_option maxRecDepth 100000 in
theorem t8_spans {M : xM} {G : xG} {N : Nat} {p1 : Int32} (C : xC (M, G, cdom, 2) RX8 cX8_spans (some .int)) (R : xR (M, G, cdom, 2) = xrm 6 133) {s : cS} {r : Int32} {s1 : cS} (h : f8_spans N p1 s = some (r, s1)) : X (M, G, cdom, 2) (some (.int r)) (encC G s1) (encC G s) 0 [(0, .ref (G.2.1 0 0)), (1, .int (p1))] [] := by
  unfold f8_spans at h
  refine x_aload_n (j := 0) C dX8_spans_0 rfl rfl ?_
  refine x_iload_n (j := 1) C dX8_spans_1 rfl rfl ?_
  obtain ⟨⟨r2, s2⟩, e2, h⟩ := Option.bind_eq_some_iff.mp h
  try dsimp only at h
  refine k8_149 C dX8_spans_2 e2 (x_room R rfl) (Nat.le_of_ble_eq_true rfl) ?_
  refine x_if_eq (tgt := 18) C dX8_spans_5 (by decide) (fun c5 => ?_) (fun c5 => ?_)
  · rw [if_pos c5] at h
    refine x_iconst (v := (-1)) C dX8_spans_18 (by decide) ?_
    cases h
    exact x_iret C dX8_spans_19
  · rw [if_neg c5] at h
    refine x_aload_n (j := 0) C dX8_spans_8 rfl rfl ?_
    refine gf8_18 C dX8_spans_9 ?_
    obtain ⟨⟨r12, s12⟩, e12, h⟩ := Option.bind_eq_some_iff.mp h
    try dsimp only at h
    refine k8_152 C dX8_spans_12 e12 (x_room R rfl) (Nat.le_of_ble_eq_true rfl) ?_
    refine x_goto (tgt := 19) C dX8_spans_15 (by decide) ?_
    cases h
    exact x_iret C dX8_spans_19
theorem c8_spans (l : Launch) (G : xG) {N : Nat} {p1 : Int32} {s : cS} {r : Int32} {s1 : cS} (h : f8_spans N p1 s = some (r, s1)) : xMet l yX8_spans (x_ws yX8_spans cX8_spans 2 (some .int)) (xrm 6 133) G cdom [.ref (G.2.1 0 0), .int (p1)] (encC G s) (some (.int r)) (encC G s1) := by
  refine xMet.of (by decide +kernel) (Nat.le_of_ble_eq_true rfl) ?_
  rintro ⟨M, G', dom', n'⟩ e1 R e3 e4 e5 C
  change G' = G at e3; change dom' = cdom at e4; change n' = 2 at e5
  subst e3; subst e4; subst e5
  exact t8_spans C R h
set_option maxRecDepth 100000 in
theorem t7_spanStart_l4b {M : xM} {G : xG} {N : Nat} {p1 : Int32} (C : xC (M, G, cdom, 4) RX7 cX7_spanStart (some .int)) (R : xR (M, G, cdom, 4) = xrm 2 42) {k4 : Int32 → Int32 → cS → Option (Int32 × cS)} (hk4 : ∀ (a2 : Int32) (a3 : Int32) (s : cS) (r : Int32) (s1 : cS), k4 a2 a3 s = some (r, s1) → X (M, G, cdom, 4) (some (.int r)) (encC G s1) (encC G s) 4 [(0, .ref (G.2.1 5 0)), (1, .int (p1)), (2, .int (a2)), (3, .int (a3))] []) {a2 : Int32} {a3 : Int32} {s : cS} {r : Int32} {s1 : cS} (h : f7_spanStart_l4b N p1 k4 a2 a3 s = some (r, s1)) : X (M, G, cdom, 4) (some (.int r)) (encC G s1) (encC G s) 4 [(0, .ref (G.2.1 5 0)), (1, .int (p1)), (2, .int (a2)), (3, .int (a3))] [] := by
  unfold f7_spanStart_l4b at h
  refine x_iload_n (j := 3) C dX7_spanStart_4 rfl rfl ?_
  refine x_aload_n (j := 0) C dX7_spanStart_5 rfl rfl ?_
  refine gf7_19 C dX7_spanStart_6 ?_
  refine x_icmp_gt (tgt := 36) C dX7_spanStart_9 (by decide) (fun c9 => ?_) (fun c9 => ?_)
  · rw [if_pos c9] at h
    refine x_iconst (v := (-1)) C dX7_spanStart_36 (by decide) ?_
    cases h
    exact x_iret C dX7_spanStart_37
  · rw [if_neg c9] at h
    refine x_iload_n (j := 2) C dX7_spanStart_12 rfl rfl ?_
    refine x_iload_n (j := 1) C dX7_spanStart_13 rfl rfl ?_
    refine x_icmp_ne (tgt := 19) C dX7_spanStart_14 (by decide) (fun c14 => ?_) (fun c14 => ?_)
    · rw [if_neg c14] at h
      refine x_aload_n (j := 0) C dX7_spanStart_19 rfl rfl ?_
      refine x_iload_n (j := 3) C dX7_spanStart_20 rfl rfl ?_
      obtain ⟨⟨r21, s21⟩, e21, h⟩ := Option.bind_eq_some_iff.mp h
      try dsimp only at h
      refine k7_38 C dX7_spanStart_21 e21 (x_room R rfl) (Nat.le_of_ble_eq_true rfl) ?_
      refine x_if_eq (tgt := 30) C dX7_spanStart_24 (by decide) (fun c24 => ?_) (fun c24 => ?_)
      · rw [if_pos c24] at h
        refine x_iinc (j := 3) (v := (a3 + 1)) (ls' := [(3, .int ((a3 + 1))), (0, .ref (G.2.1 5 0)), (1, .int (p1)), (2, .int (a2))]) C dX7_spanStart_30 rfl rfl (Nat.le_of_ble_eq_true rfl) rfl ?_
        refine x_goto (tgt := 4) C dX7_spanStart_33 (by decide) ?_
        refine x_sub (ls' := [(0, .ref (G.2.1 5 0)), (1, .int (p1)), (2, .int (a2)), (3, .int ((a3 + 1)))]) [1, 2, 3, 0] rfl ?_
        exact hk4 _ _ _ _ _ h
      · rw [if_neg c24] at h
        refine x_iinc (j := 2) (v := (a2 + 1)) (ls' := [(2, .int ((a2 + 1))), (0, .ref (G.2.1 5 0)), (1, .int (p1)), (3, .int (a3))]) C dX7_spanStart_27 rfl rfl (Nat.le_of_ble_eq_true rfl) rfl ?_
        refine x_iinc (j := 3) (v := (a3 + 1)) (ls' := [(3, .int ((a3 + 1))), (2, .int ((a2 + 1))), (0, .ref (G.2.1 5 0)), (1, .int (p1))]) C dX7_spanStart_30 rfl rfl (Nat.le_of_ble_eq_true rfl) rfl ?_
        refine x_goto (tgt := 4) C dX7_spanStart_33 (by decide) ?_
        refine x_sub (ls' := [(0, .ref (G.2.1 5 0)), (1, .int (p1)), (2, .int ((a2 + 1))), (3, .int ((a3 + 1)))]) [2, 3, 1, 0] rfl ?_
        exact hk4 _ _ _ _ _ h
    · rw [if_pos c14] at h
      refine x_iload_n (j := 3) C dX7_spanStart_17 rfl rfl ?_
      cases h
      exact x_iret C dX7_spanStart_18
theorem t7_spanStart_l4 {M : xM} {G : xG} {N : Nat} {p1 : Int32} (C : xC (M, G, cdom, 4) RX7 cX7_spanStart (some .int)) (R : xR (M, G, cdom, 4) = xrm 2 42) (n : Nat) : ∀ (a2 : Int32) (a3 : Int32) (s : cS) (r : Int32) (s1 : cS), f7_spanStart_l4 N p1 n a2 a3 s = some (r, s1) → X (M, G, cdom, 4) (some (.int r)) (encC G s1) (encC G s) 4 [(0, .ref (G.2.1 5 0)), (1, .int (p1)), (2, .int (a2)), (3, .int (a3))] [] := by
  induction n with
  | zero => intro a2 a3 s r s1 h; exact (Option.some_ne_none _ (Eq.symm h)).elim
  | succ n ih => intro a2 a3 s r s1 h; exact t7_spanStart_l4b (N := N) (p1 := p1) C R (k4 := f7_spanStart_l4 N p1 n) ih h
set_option maxRecDepth 100000 in
theorem t7_spanStart {M : xM} {G : xG} {N : Nat} {p1 : Int32} (C : xC (M, G, cdom, 4) RX7 cX7_spanStart (some .int)) (R : xR (M, G, cdom, 4) = xrm 2 42) {s : cS} {r : Int32} {s1 : cS} (h : f7_spanStart N p1 s = some (r, s1)) : X (M, G, cdom, 4) (some (.int r)) (encC G s1) (encC G s) 0 [(0, .ref (G.2.1 5 0)), (1, .int (p1))] [] := by
  unfold f7_spanStart at h
  refine x_iconst (v := 0) C dX7_spanStart_0 (by decide) ?_
  refine x_istore_n (i := 2) (ls' := [(2, .int (0)), (0, .ref (G.2.1 5 0)), (1, .int (p1))]) C dX7_spanStart_1 rfl (Nat.le_of_ble_eq_true rfl) rfl ?_
  refine x_iconst (v := 0) C dX7_spanStart_2 (by decide) ?_
  refine x_istore_n (i := 3) (ls' := [(3, .int (0)), (2, .int (0)), (0, .ref (G.2.1 5 0)), (1, .int (p1))]) C dX7_spanStart_3 rfl (Nat.le_of_ble_eq_true rfl) rfl ?_
  refine x_sub (ls' := [(0, .ref (G.2.1 5 0)), (1, .int (p1)), (2, .int (0)), (3, .int (0))]) [2, 3, 1, 0] rfl ?_
  exact t7_spanStart_l4 (N := N) (p1 := p1) C R N _ _ _ _ _ h
theorem c7_spanStart (l : Launch) (G : xG) {N : Nat} {p1 : Int32} {s : cS} {r : Int32} {s1 : cS} (h : f7_spanStart N p1 s = some (r, s1)) : xMet l yX7_spanStart (x_ws yX7_spanStart cX7_spanStart 4 (some .int)) (xrm 2 42) G cdom [.ref (G.2.1 5 0), .int (p1)] (encC G s) (some (.int r)) (encC G s1) := by
  refine xMet.of (by decide +kernel) (Nat.le_of_ble_eq_true rfl) ?_
  rintro ⟨M, G', dom', n'⟩ e1 R e3 e4 e5 C
  change G' = G at e3; change dom' = cdom at e4; change n' = 4 at e5
  subst e3; subst e4; subst e5
  exact t7_spanStart C R h
set_option maxRecDepth 100000 in
theorem t7_spanEnd_l2b {M : xM} {G : xG} {N : Nat} {p1 : Int32} (C : xC (M, G, cdom, 3) RX7 cX7_spanEnd (some .int)) (R : xR (M, G, cdom, 3) = xrm 2 42) {k2 : Int32 → cS → Option (Int32 × cS)} (hk2 : ∀ (a2 : Int32) (s : cS) (r : Int32) (s1 : cS), k2 a2 s = some (r, s1) → X (M, G, cdom, 3) (some (.int r)) (encC G s1) (encC G s) 2 [(0, .ref (G.2.1 5 0)), (2, .int (a2))] []) {a2 : Int32} {s : cS} {r : Int32} {s1 : cS} (h : f7_spanEnd_l2b N p1 k2 a2 s = some (r, s1)) : X (M, G, cdom, 3) (some (.int r)) (encC G s1) (encC G s) 2 [(0, .ref (G.2.1 5 0)), (2, .int (a2))] [] := by
  unfold f7_spanEnd_l2b at h
  refine x_iload_n (j := 1) C dX7_spanEnd_2 rfl rfl ?_
  refine x_aload_n (j := 0) C dX7_spanEnd_3 rfl rfl ?_
  refine gf7_19 C dX7_spanEnd_4 ?_
  refine x_icmp_gt (tgt := 26) C dX7_spanEnd_7 (by decide) (fun c7 => ?_) (fun c7 => ?_)
  · rw [if_pos c7] at h
    refine x_aload_n (j := 0) C dX7_spanEnd_26 rfl rfl ?_
    refine gf7_19 C dX7_spanEnd_27 ?_
    cases h
    exact x_iret C dX7_spanEnd_30
  · rw [if_neg c7] at h
    refine x_aload_n (j := 0) C dX7_spanEnd_10 rfl rfl ?_
    refine x_iload_n (j := 1) C dX7_spanEnd_11 rfl rfl ?_
    obtain ⟨⟨r12, s12⟩, e12, h⟩ := Option.bind_eq_some_iff.mp h
    try dsimp only at h
    refine k7_38 C dX7_spanEnd_12 e12 (x_room R rfl) (Nat.le_of_ble_eq_true rfl) ?_
    refine x_if_eq (tgt := 20) C dX7_spanEnd_15 (by decide) (fun c15 => ?_) (fun c15 => ?_)
    · rw [if_pos c15] at h
      refine x_iinc (j := 1) (v := (a2 + 1)) (ls' := [(2, .int ((a2 + 1))), (0, .ref (G.2.1 5 0))]) C dX7_spanEnd_20 rfl rfl (Nat.le_of_ble_eq_true rfl) rfl ?_
      refine x_goto (tgt := 2) C dX7_spanEnd_23 (by decide) ?_
      refine x_sub (ls' := [(0, .ref (G.2.1 5 0)), (2, .int ((a2 + 1)))]) [1, 0] rfl ?_
      exact hk2 _ _ _ _ h
    · rw [if_neg c15] at h
      refine x_iload_n (j := 1) C dX7_spanEnd_18 rfl rfl ?_
      cases h
      exact x_iret C dX7_spanEnd_19
theorem t7_spanEnd_l2 {M : xM} {G : xG} {N : Nat} {p1 : Int32} (C : xC (M, G, cdom, 3) RX7 cX7_spanEnd (some .int)) (R : xR (M, G, cdom, 3) = xrm 2 42) (n : Nat) : ∀ (a2 : Int32) (s : cS) (r : Int32) (s1 : cS), f7_spanEnd_l2 N p1 n a2 s = some (r, s1) → X (M, G, cdom, 3) (some (.int r)) (encC G s1) (encC G s) 2 [(0, .ref (G.2.1 5 0)), (2, .int (a2))] [] := by
  induction n with
  | zero => intro a2 s r s1 h; exact (Option.some_ne_none _ (Eq.symm h)).elim
  | succ n ih => intro a2 s r s1 h; exact t7_spanEnd_l2b (N := N) (p1 := p1) C R (k2 := f7_spanEnd_l2 N p1 n) ih h
set_option maxRecDepth 100000 in
theorem t7_spanEnd {M : xM} {G : xG} {N : Nat} {p1 : Int32} (C : xC (M, G, cdom, 3) RX7 cX7_spanEnd (some .int)) (R : xR (M, G, cdom, 3) = xrm 2 42) {s : cS} {r : Int32} {s1 : cS} (h : f7_spanEnd N p1 s = some (r, s1)) : X (M, G, cdom, 3) (some (.int r)) (encC G s1) (encC G s) 0 [(0, .ref (G.2.1 5 0)), (1, .int (p1))] [] := by
  unfold f7_spanEnd at h
  refine x_iload_n (j := 1) C dX7_spanEnd_0 rfl rfl ?_
  refine x_istore_n (i := 2) (ls' := [(2, .int (p1)), (0, .ref (G.2.1 5 0)), (1, .int (p1))]) C dX7_spanEnd_1 rfl (Nat.le_of_ble_eq_true rfl) rfl ?_
  refine x_sub (ls' := [(0, .ref (G.2.1 5 0)), (2, .int (p1))]) [1, 0] rfl ?_
  exact t7_spanEnd_l2 (N := N) (p1 := p1) C R N _ _ _ _ h
theorem c7_spanEnd (l : Launch) (G : xG) {N : Nat} {p1 : Int32} {s : cS} {r : Int32} {s1 : cS} (h : f7_spanEnd N p1 s = some (r, s1)) : xMet l yX7_spanEnd (x_ws yX7_spanEnd cX7_spanEnd 3 (some .int)) (xrm 2 42) G cdom [.ref (G.2.1 5 0), .int (p1)] (encC G s) (some (.int r)) (encC G s1) := by
  refine xMet.of (by decide +kernel) (Nat.le_of_ble_eq_true rfl) ?_
  rintro ⟨M, G', dom', n'⟩ e1 R e3 e4 e5 C
  change G' = G at e3; change dom' = cdom at e4; change n' = 3 at e5
  subst e3; subst e4; subst e5
  exact t7_spanEnd C R h
theorem k8_159 {M : xM} {G : xG} {n : Nat} {rv : Option Value} {E' : xE} {cc : ByteArray} {ret : Option FieldType} {pc : Nat} {ls : List (Nat × Value)} {st : List Value} {N : Nat} {p1 : Int32} {s s1 : cS} {r : Int32} (C : xC (M, G, cdom, n) RX8 cc ret) (d : decode cc pc = .ok (.invokevirtual 159, 3)) (h : f7_spanStart N p1 s = some (r, s1)) (hR : (xrm 2 42).frames + 1 ≤ (xR (M, G, cdom, n)).frames ∧ 8 + (4 + 11) + (xrm 2 42).locals ≤ (xR (M, G, cdom, n)).locals) (hw : (st.map fun v => v.category).sum ≤ 8) (k : X (M, G, cdom, n) rv E' (encC G s1) (pc + 3) ls (.int r :: st)) : X (M, G, cdom, n) rv E' (encC G s) pc ls (.int (p1) :: .ref (G.2.1 5 0) :: st) :=
  x_callVN (As := [.int (p1)]) (n := 1) C d (c7_spanStart (xl (M, G, cdom, n)) G h) lk475 lk477 lk23 lk79 lk478 ⟨rfl, rfl⟩ ⟨by decide +kernel, by decide +kernel, by decide +kernel⟩ rfl hR rfl rfl rfl rfl hw k
theorem k8_165 {M : xM} {G : xG} {n : Nat} {rv : Option Value} {E' : xE} {cc : ByteArray} {ret : Option FieldType} {pc : Nat} {ls : List (Nat × Value)} {st : List Value} {N : Nat} {p1 : Int32} {s s1 : cS} {r : Int32} (C : xC (M, G, cdom, n) RX8 cc ret) (d : decode cc pc = .ok (.invokevirtual 165, 3)) (h : f7_codeAt N p1 s = some (r, s1)) (hR : (xrm 0 0).frames + 1 ≤ (xR (M, G, cdom, n)).frames ∧ 8 + (2 + 11) + (xrm 0 0).locals ≤ (xR (M, G, cdom, n)).locals) (hw : (st.map fun v => v.category).sum ≤ 8) (k : X (M, G, cdom, n) rv E' (encC G s1) (pc + 3) ls (.int r :: st)) : X (M, G, cdom, n) rv E' (encC G s) pc ls (.int (p1) :: .ref (G.2.1 5 0) :: st) :=
  x_callVN (As := [.int (p1)]) (n := 1) C d (c7_codeAt (xl (M, G, cdom, n)) G h) lk483 lk469 lk22 lk79 lk470 ⟨rfl, rfl⟩ ⟨by decide +kernel, by decide +kernel, by decide +kernel⟩ rfl hR rfl rfl rfl rfl hw k
theorem k8_162 {M : xM} {G : xG} {n : Nat} {rv : Option Value} {E' : xE} {cc : ByteArray} {ret : Option FieldType} {pc : Nat} {ls : List (Nat × Value)} {st : List Value} {N : Nat} {p1 : Int32} {s s1 : cS} {r : Int32} (C : xC (M, G, cdom, n) RX8 cc ret) (d : decode cc pc = .ok (.invokevirtual 162, 3)) (h : f7_spanEnd N p1 s = some (r, s1)) (hR : (xrm 2 42).frames + 1 ≤ (xR (M, G, cdom, n)).frames ∧ 8 + (3 + 11) + (xrm 2 42).locals ≤ (xR (M, G, cdom, n)).locals) (hw : (st.map fun v => v.category).sum ≤ 8) (k : X (M, G, cdom, n) rv E' (encC G s1) (pc + 3) ls (.int r :: st)) : X (M, G, cdom, n) rv E' (encC G s) pc ls (.int (p1) :: .ref (G.2.1 5 0) :: st) :=
  x_callVN (As := [.int (p1)]) (n := 1) C d (c7_spanEnd (xl (M, G, cdom, n)) G h) lk479 lk481 lk24 lk79 lk482 ⟨rfl, rfl⟩ ⟨by decide +kernel, by decide +kernel, by decide +kernel⟩ rfl hR rfl rfl rfl rfl hw k
set_option maxRecDepth 100000 in
theorem t8_span {M : xM} {G : xG} {N : Nat} {p1 : Int32} {p2 : Int32} {p3 : Int32} (C : xC (M, G, cdom, 5) RX8 cX8_span (some .int)) (R : xR (M, G, cdom, 5) = xrm 5 111) {s : cS} {r : Int32} {s1 : cS} (h : f8_span N p1 p2 p3 s = some (r, s1)) : X (M, G, cdom, 5) (some (.int r)) (encC G s1) (encC G s) 0 [(0, .ref (G.2.1 0 0)), (1, .int (p1)), (2, .int (p2)), (3, .int (p3))] [] := by
  unfold f8_span at h
  refine x_iload_n (j := 3) C dX8_span_0 rfl rfl ?_
  refine x_if_lt (tgt := 17) C dX8_span_1 (by decide) (fun c1 => ?_) (fun c1 => ?_)
  · rw [if_pos c1] at h
    refine x_ldc (v := (-2147483648)) C dX8_span_17 lk407 ?_
    cases h
    exact x_iret C dX8_span_19
  · rw [if_neg c1] at h
    refine x_iload_n (j := 3) C dX8_span_4 rfl rfl ?_
    refine x_iconst (v := 2) C dX8_span_5 (by decide) ?_
    refine x_icmp_gt (tgt := 17) C dX8_span_6 (by decide) (fun c6 => ?_) (fun c6 => ?_)
    · rw [if_pos c6] at h
      refine x_ldc (v := (-2147483648)) C dX8_span_17 lk407 ?_
      cases h
      exact x_iret C dX8_span_19
    · rw [if_neg c6] at h
      refine x_aload_n (j := 0) C dX8_span_9 rfl rfl ?_
      refine x_iload_n (j := 1) C dX8_span_10 rfl rfl ?_
      obtain ⟨⟨r11, s11⟩, e11, h⟩ := Option.bind_eq_some_iff.mp h
      try dsimp only at h
      refine k8_156 C dX8_span_11 e11 (x_room R rfl) (Nat.le_of_ble_eq_true rfl) ?_
      refine x_if_ne (tgt := 20) C dX8_span_14 (by decide) (fun c14 => ?_) (fun c14 => ?_)
      · rw [if_neg c14] at h
        refine x_aload_n (j := 0) C dX8_span_20 rfl rfl ?_
        refine gf8_18 C dX8_span_21 ?_
        refine x_iload_n (j := 2) C dX8_span_24 rfl rfl ?_
        obtain ⟨⟨r25, s25⟩, e25, h⟩ := Option.bind_eq_some_iff.mp h
        try dsimp only at h
        refine k8_159 C dX8_span_25 e25 (x_room R rfl) (Nat.le_of_ble_eq_true rfl) ?_
        refine x_istore (i := 4) (ls' := [(4, .int (r25)), (0, .ref (G.2.1 0 0)), (1, .int (p1)), (2, .int (p2)), (3, .int (p3))]) C dX8_span_28 (Nat.le_of_ble_eq_true rfl) rfl ?_
        refine x_iload (j := 0) C dX8_span_30 rfl ?_
        refine x_iconst (v := (-1)) C dX8_span_32 (by decide) ?_
        refine x_icmp_ne (tgt := 39) C dX8_span_33 (by decide) (fun c33 => ?_) (fun c33 => ?_)
        · rw [if_neg c33] at h
          refine x_iload_n (j := 4) C dX8_span_39 rfl rfl ?_
          refine x_if_ne (tgt := 48) C dX8_span_40 (by decide) (fun c40 => ?_) (fun c40 => ?_)
          · rw [if_neg c40] at h
            refine x_iload_n (j := 4) C dX8_span_48 rfl rfl ?_
            refine x_iconst (v := 1) C dX8_span_49 (by decide) ?_
            refine x_icmp_ne (tgt := 65) C dX8_span_50 (by decide) (fun c50 => ?_) (fun c50 => ?_)
            · rw [if_neg c50] at h
              refine x_aload_n (j := 1) C dX8_span_65 rfl rfl ?_
              refine gf8_18 C dX8_span_66 ?_
              refine x_iload (j := 0) C dX8_span_69 rfl ?_
              obtain ⟨⟨r71, s71⟩, e71, h⟩ := Option.bind_eq_some_iff.mp h
              try dsimp only at h
              refine k8_165 C dX8_span_71 e71 (x_room R rfl) (Nat.le_of_ble_eq_true rfl) ?_
              cases h
              exact x_iret C dX8_span_74
            · rw [if_pos c50] at h
              refine x_aload_n (j := 1) C dX8_span_53 rfl rfl ?_
              refine gf8_18 C dX8_span_54 ?_
              refine x_iload (j := 0) C dX8_span_57 rfl ?_
              obtain ⟨⟨r59, s59⟩, e59, h⟩ := Option.bind_eq_some_iff.mp h
              try dsimp only at h
              refine k8_162 C dX8_span_59 e59 (x_room R rfl) (Nat.le_of_ble_eq_true rfl) ?_
              refine x_goto (tgt := 74) C dX8_span_62 (by decide) ?_
              cases h
              exact x_iret C dX8_span_74
          · rw [if_pos c40] at h
            refine x_iload (j := 0) C dX8_span_43 rfl ?_
            refine x_goto (tgt := 74) C dX8_span_45 (by decide) ?_
            cases h
            exact x_iret C dX8_span_74
        · rw [if_pos c33] at h
          refine x_ldc (v := (-2147483648)) C dX8_span_36 lk407 ?_
          cases h
          exact x_iret C dX8_span_38
      · rw [if_pos c14] at h
        refine x_ldc (v := (-2147483648)) C dX8_span_17 lk407 ?_
        cases h
        exact x_iret C dX8_span_19
theorem c8_span (l : Launch) (G : xG) {N : Nat} {p1 : Int32} {p2 : Int32} {p3 : Int32} {s : cS} {r : Int32} {s1 : cS} (h : f8_span N p1 p2 p3 s = some (r, s1)) : xMet l yX8_span (x_ws yX8_span cX8_span 5 (some .int)) (xrm 5 111) G cdom [.ref (G.2.1 0 0), .int (p1), .int (p2), .int (p3)] (encC G s) (some (.int r)) (encC G s1) := by
  refine xMet.of (by decide +kernel) (Nat.le_of_ble_eq_true rfl) ?_
  rintro ⟨M, G', dom', n'⟩ e1 R e3 e4 e5 C
  change G' = G at e3; change dom' = cdom at e4; change n' = 5 at e5
  subst e3; subst e4; subst e5
  exact t8_span C R h
set_option maxRecDepth 100000 in
theorem t7_isFirstMet_b52 {M : xM} {G : xG} {N : Nat} {p1 : Int32} (C : xC (M, G, cdom, 7) RX7 cX7_isFirstMet (some .boolean)) (R : xR (M, G, cdom, 7) = xrm 0 0) {a3 : Int32} {a4 : Int64} {b0 : Int32} {s : cS} {r : Int32} {s1 : cS} (h : f7_isFirstMet_b52 N p1 a3 a4 b0 s = some (r, s1)) : X (M, G, cdom, 7) (some (.int r)) (encC G s1) (encC G s) 52 [(0, .ref (G.2.1 5 0)), (3, .int (a3)), (4, .long (a4))] [.int (b0)] := by
  unfold f7_isFirstMet_b52 at h
  refine x_istore (i := 6) (ls' := [(6, .int (b0)), (0, .ref (G.2.1 5 0)), (3, .int (a3)), (4, .long (a4))]) C dX7_isFirstMet_52 (Nat.le_of_ble_eq_true rfl) rfl ?_
  refine x_aload_n (j := 1) C dX7_isFirstMet_54 rfl rfl ?_
  refine gf7_15 C dX7_isFirstMet_55 ?_
  refine x_iload_n (j := 2) C dX7_isFirstMet_58 rfl rfl ?_
  refine x_dup2 C dX7_isFirstMet_59 rfl rfl ?_
  by_cases g60_1 : inB a3 4251 = true
  case neg => rw [if_neg g60_1] at h; cases h
  rw [if_pos g60_1] at h
  refine cld7 C dX7_isFirstMet_60 g60_1 ?_
  refine x_lload (j := 3) C dX7_isFirstMet_61 rfl ?_
  refine x_lor C dX7_isFirstMet_63 ?_
  refine cst7 C dX7_isFirstMet_64 g60_1 ?_
  refine x_iload (j := 0) C dX7_isFirstMet_65 rfl ?_
  by_cases g : b0 = 0 ∨ b0 = 1
  · rw [if_pos g] at h; cases h; exact x_zret C dX7_isFirstMet_67 (nar01 g)
  · rw [if_neg g] at h; cases h
set_option maxRecDepth 100000 in
theorem t7_isFirstMet {M : xM} {G : xG} {N : Nat} {p1 : Int32} (C : xC (M, G, cdom, 7) RX7 cX7_isFirstMet (some .boolean)) (R : xR (M, G, cdom, 7) = xrm 0 0) {s : cS} {r : Int32} {s1 : cS} (h : f7_isFirstMet N p1 s = some (r, s1)) : X (M, G, cdom, 7) (some (.int r)) (encC G s1) (encC G s) 0 [(0, .ref (G.2.1 5 0)), (1, .int (p1))] [] := by
  unfold f7_isFirstMet at h
  refine x_iload_n (j := 1) C dX7_isFirstMet_0 rfl rfl ?_
  refine x_ldc (v := 136000) C dX7_isFirstMet_1 lk500 ?_
  refine x_iadd C dX7_isFirstMet_3 ?_
  refine x_istore_n (i := 2) (ls' := [(2, .int ((p1 + 136000))), (0, .ref (G.2.1 5 0)), (1, .int (p1))]) C dX7_isFirstMet_4 rfl (Nat.le_of_ble_eq_true rfl) rfl ?_
  refine x_iload_n (j := 0) C dX7_isFirstMet_5 rfl rfl ?_
  refine x_bipush (v := 6) C dX7_isFirstMet_6 (by decide) ?_
  refine x_ishr C dX7_isFirstMet_8 ?_
  refine x_istore_n (i := 3) (ls' := [(3, .int (((p1 + 136000) >>> (6 &&& 31)))), (2, .int ((p1 + 136000))), (0, .ref (G.2.1 5 0)), (1, .int (p1))]) C dX7_isFirstMet_9 rfl (Nat.le_of_ble_eq_true rfl) rfl ?_
  refine x_iload_n (j := 0) C dX7_isFirstMet_10 rfl rfl ?_
  refine x_if_lt (tgt := 23) C dX7_isFirstMet_11 (by decide) (fun c11 => ?_) (fun c11 => ?_)
  · rw [if_pos c11] at h
    refine x_iconst (v := 0) C dX7_isFirstMet_23 (by decide) ?_
    cases h
    exact x_zret C dX7_isFirstMet_24 rfl
  · rw [if_neg c11] at h
    refine x_iload_n (j := 0) C dX7_isFirstMet_14 rfl rfl ?_
    refine x_aload_n (j := 2) C dX7_isFirstMet_15 rfl rfl ?_
    refine gf7_15 C dX7_isFirstMet_16 ?_
    refine cal7 C dX7_isFirstMet_19 ?_
    refine x_icmp_lt (tgt := 25) C dX7_isFirstMet_20 (by decide) (fun c20 => ?_) (fun c20 => ?_)
    · rw [if_pos c20] at h
      refine x_lconst (v := 1) C dX7_isFirstMet_25 (by decide) ?_
      refine x_iload_n (j := 1) C dX7_isFirstMet_26 rfl rfl ?_
      refine x_bipush (v := 63) C dX7_isFirstMet_27 (by decide) ?_
      refine x_iand C dX7_isFirstMet_29 ?_
      refine x_lshl C dX7_isFirstMet_30 ?_
      refine x_lstore (i := 4) (ls' := [(4, .long ((1 <<< (((p1 + 136000) &&& 63).toInt64 &&& 63)))), (3, .int (((p1 + 136000) >>> (6 &&& 31)))), (2, .int ((p1 + 136000))), (0, .ref (G.2.1 5 0)), (1, .int (p1))]) C dX7_isFirstMet_31 (Nat.le_of_ble_eq_true rfl) rfl ?_
      refine x_aload_n (j := 3) C dX7_isFirstMet_33 rfl rfl ?_
      refine gf7_15 C dX7_isFirstMet_34 ?_
      refine x_iload_n (j := 1) C dX7_isFirstMet_37 rfl rfl ?_
      by_cases g38_1 : inB ((p1 + 136000) >>> (6 &&& 31)) 4251 = true
      case neg => rw [if_neg g38_1] at h; cases h
      rw [if_pos g38_1] at h
      refine cld7 C dX7_isFirstMet_38 g38_1 ?_
      refine x_lload (j := 0) C dX7_isFirstMet_39 rfl ?_
      refine x_land C dX7_isFirstMet_41 ?_
      refine x_lconst (v := 0) C dX7_isFirstMet_42 (by decide) ?_
      refine x_lcmp C dX7_isFirstMet_43 ?_
      refine x_if_ne (tgt := 51) C dX7_isFirstMet_44 (by decide) (fun c44 => ?_) (fun c44 => ?_)
      · rw [if_neg c44] at h
        refine x_iconst (v := 0) C dX7_isFirstMet_51 (by decide) ?_
        refine x_sub (ls' := [(0, .ref (G.2.1 5 0)), (3, .int (((p1 + 136000) >>> (6 &&& 31)))), (4, .long ((1 <<< (((p1 + 136000) &&& 63).toInt64 &&& 63))))]) [3, 1, 0] rfl ?_
        exact t7_isFirstMet_b52 (N := N) (p1 := p1) C R h
      · rw [if_pos c44] at h
        refine x_iconst (v := 1) C dX7_isFirstMet_47 (by decide) ?_
        refine x_goto (tgt := 52) C dX7_isFirstMet_48 (by decide) ?_
        refine x_sub (ls' := [(0, .ref (G.2.1 5 0)), (3, .int (((p1 + 136000) >>> (6 &&& 31)))), (4, .long ((1 <<< (((p1 + 136000) &&& 63).toInt64 &&& 63))))]) [3, 1, 0] rfl ?_
        exact t7_isFirstMet_b52 (N := N) (p1 := p1) C R h
    · rw [if_neg c20] at h
      refine x_iconst (v := 0) C dX7_isFirstMet_23 (by decide) ?_
      cases h
      exact x_zret C dX7_isFirstMet_24 rfl
theorem c7_isFirstMet (l : Launch) (G : xG) {N : Nat} {p1 : Int32} {s : cS} {r : Int32} {s1 : cS} (h : f7_isFirstMet N p1 s = some (r, s1)) : xMet l yX7_isFirstMet (x_ws yX7_isFirstMet cX7_isFirstMet 7 (some .boolean)) (xrm 0 0) G cdom [.ref (G.2.1 5 0), .int (p1)] (encC G s) (some (.int r)) (encC G s1) := by
  refine xMet.of (by decide +kernel) (Nat.le_of_ble_eq_true rfl) ?_
  rintro ⟨M, G', dom', n'⟩ e1 R e3 e4 e5 C
  change G' = G at e3; change dom' = cdom at e4; change n' = 7 at e5
  subst e3; subst e4; subst e5
  exact t7_isFirstMet C R h
theorem k7_48 {M : xM} {G : xG} {n : Nat} {rv : Option Value} {E' : xE} {cc : ByteArray} {ret : Option FieldType} {pc : Nat} {ls : List (Nat × Value)} {st : List Value} {N : Nat} {p1 : Int32} {s s1 : cS} {r : Int32} (C : xC (M, G, cdom, n) RX7 cc ret) (d : decode cc pc = .ok (.invokevirtual 48, 3)) (h : f7_isFirstMet N p1 s = some (r, s1)) (hR : (xrm 0 0).frames + 1 ≤ (xR (M, G, cdom, n)).frames ∧ 8 + (7 + 11) + (xrm 0 0).locals ≤ (xR (M, G, cdom, n)).locals) (hw : (st.map fun v => v.category).sum ≤ 8) (k : X (M, G, cdom, n) rv E' (encC G s1) (pc + 3) ls (.int r :: st)) : X (M, G, cdom, n) rv E' (encC G s) pc ls (.int (p1) :: .ref (G.2.1 5 0) :: st) :=
  x_callV (As := [.int (p1)]) (n := 1) C d (c7_isFirstMet (xl (M, G, cdom, n)) G h) lk496 lk498 lk26 lk79 lk499 ⟨rfl, rfl⟩ ⟨by decide +kernel, by decide +kernel, by decide +kernel⟩ rfl hR rfl rfl rfl rfl hw k
theorem k7_42_7 {M : xM} {G : xG} {n : Nat} {rv : Option Value} {E' : xE} {cc : ByteArray} {ret : Option FieldType} {pc : Nat} {ls : List (Nat × Value)} {st : List Value} {s : cS} {v : Int64} (C : xC (M, G, cdom, n) RX7 cc ret) (d : decode cc pc = .ok (.invokestatic 42, 3)) (hR : (xrm 0 0).frames + 1 ≤ (xR (M, G, cdom, n)).frames ∧ 8 + (5 + 11) + (xrm 0 0).locals ≤ (xR (M, G, cdom, n)).locals) (hw : (st.map fun v => v.category).sum ≤ 8) (k : X (M, G, cdom, n) rv E' (encC G (cfl s v)) (pc + 3) ls st) : X (M, G, cdom, n) rv E' (encC G s) pc ls (.long v :: .ref (G.2.1 7 0) :: st) :=
  x_callS (As := [.ref (G.2.1 7 0), .long v]) (n := 2) C d (fill_l (xl (M, G, cdom, n)) G s v) lk493 lk494 lk89 lk495 ⟨rfl, rfl⟩ ⟨by decide +kernel, by decide +kernel, by decide +kernel⟩ rfl hR rfl hw k
set_option maxRecDepth 100000 in
theorem t7_unlikeFrom_l12b {M : xM} {G : xG} {N : Nat} {p1 : Int32} (C : xC (M, G, cdom, 4) RX7 cX7_unlikeFrom (some .int)) (R : xR (M, G, cdom, 4) = xrm 1 26) {k12 : Int32 → Int32 → cS → Option (Int32 × cS)} (hk12 : ∀ (a2 : Int32) (a3 : Int32) (s : cS) (r : Int32) (s1 : cS), k12 a2 a3 s = some (r, s1) → X (M, G, cdom, 4) (some (.int r)) (encC G s1) (encC G s) 12 [(0, .ref (G.2.1 5 0)), (1, .int (p1)), (2, .int (a2)), (3, .int (a3))] []) {a2 : Int32} {a3 : Int32} {s : cS} {r : Int32} {s1 : cS} (h : f7_unlikeFrom_l12b N p1 k12 a2 a3 s = some (r, s1)) : X (M, G, cdom, 4) (some (.int r)) (encC G s1) (encC G s) 12 [(0, .ref (G.2.1 5 0)), (1, .int (p1)), (2, .int (a2)), (3, .int (a3))] [] := by
  unfold f7_unlikeFrom_l12b at h
  refine x_iload_n (j := 3) C dX7_unlikeFrom_12 rfl rfl ?_
  refine x_aload_n (j := 0) C dX7_unlikeFrom_13 rfl rfl ?_
  refine gf7_19 C dX7_unlikeFrom_14 ?_
  refine x_icmp_gt (tgt := 50) C dX7_unlikeFrom_17 (by decide) (fun c17 => ?_) (fun c17 => ?_)
  · rw [if_pos c17] at h
    refine x_iload_n (j := 2) C dX7_unlikeFrom_50 rfl rfl ?_
    cases h
    exact x_iret C dX7_unlikeFrom_51
  · rw [if_neg c17] at h
    refine x_aload_n (j := 0) C dX7_unlikeFrom_20 rfl rfl ?_
    refine x_iload_n (j := 3) C dX7_unlikeFrom_21 rfl rfl ?_
    obtain ⟨⟨r22, s22⟩, e22, h⟩ := Option.bind_eq_some_iff.mp h
    try dsimp only at h
    refine k7_35 C dX7_unlikeFrom_22 e22 (x_room R rfl) (Nat.le_of_ble_eq_true rfl) ?_
    refine x_iload_n (j := 1) C dX7_unlikeFrom_25 rfl rfl ?_
    refine x_icmp_lt (tgt := 44) C dX7_unlikeFrom_26 (by decide) (fun c26 => ?_) (fun c26 => ?_)
    · rw [if_pos c26] at h
      refine x_iinc (j := 3) (v := (a3 + 1)) (ls' := [(3, .int ((a3 + 1))), (0, .ref (G.2.1 5 0)), (1, .int (p1)), (2, .int (a2))]) C dX7_unlikeFrom_44 rfl rfl (Nat.le_of_ble_eq_true rfl) rfl ?_
      refine x_goto (tgt := 12) C dX7_unlikeFrom_47 (by decide) ?_
      refine x_sub (ls' := [(0, .ref (G.2.1 5 0)), (1, .int (p1)), (2, .int (a2)), (3, .int ((a3 + 1)))]) [1, 2, 3, 0] rfl ?_
      exact hk12 _ _ _ _ _ h
    · rw [if_neg c26] at h
      refine x_aload_n (j := 0) C dX7_unlikeFrom_29 rfl rfl ?_
      refine x_aload_n (j := 0) C dX7_unlikeFrom_30 rfl rfl ?_
      refine x_iload_n (j := 3) C dX7_unlikeFrom_31 rfl rfl ?_
      obtain ⟨⟨r32, s32⟩, e32, h⟩ := Option.bind_eq_some_iff.mp h
      try dsimp only at h
      refine k7_35 C dX7_unlikeFrom_32 e32 (x_room R rfl) (Nat.le_of_ble_eq_true rfl) ?_
      obtain ⟨⟨r35, s35⟩, e35, h⟩ := Option.bind_eq_some_iff.mp h
      try dsimp only at h
      refine k7_48 C dX7_unlikeFrom_35 e35 (x_room R rfl) (Nat.le_of_ble_eq_true rfl) ?_
      refine x_if_eq (tgt := 44) C dX7_unlikeFrom_38 (by decide) (fun c38 => ?_) (fun c38 => ?_)
      · rw [if_pos c38] at h
        refine x_iinc (j := 3) (v := (a3 + 1)) (ls' := [(3, .int ((a3 + 1))), (0, .ref (G.2.1 5 0)), (1, .int (p1)), (2, .int (a2))]) C dX7_unlikeFrom_44 rfl rfl (Nat.le_of_ble_eq_true rfl) rfl ?_
        refine x_goto (tgt := 12) C dX7_unlikeFrom_47 (by decide) ?_
        refine x_sub (ls' := [(0, .ref (G.2.1 5 0)), (1, .int (p1)), (2, .int (a2)), (3, .int ((a3 + 1)))]) [1, 2, 3, 0] rfl ?_
        exact hk12 _ _ _ _ _ h
      · rw [if_neg c38] at h
        refine x_iinc (j := 2) (v := (a2 + 1)) (ls' := [(2, .int ((a2 + 1))), (0, .ref (G.2.1 5 0)), (1, .int (p1)), (3, .int (a3))]) C dX7_unlikeFrom_41 rfl rfl (Nat.le_of_ble_eq_true rfl) rfl ?_
        refine x_iinc (j := 3) (v := (a3 + 1)) (ls' := [(3, .int ((a3 + 1))), (2, .int ((a2 + 1))), (0, .ref (G.2.1 5 0)), (1, .int (p1))]) C dX7_unlikeFrom_44 rfl rfl (Nat.le_of_ble_eq_true rfl) rfl ?_
        refine x_goto (tgt := 12) C dX7_unlikeFrom_47 (by decide) ?_
        refine x_sub (ls' := [(0, .ref (G.2.1 5 0)), (1, .int (p1)), (2, .int ((a2 + 1))), (3, .int ((a3 + 1)))]) [2, 3, 1, 0] rfl ?_
        exact hk12 _ _ _ _ _ h
theorem t7_unlikeFrom_l12 {M : xM} {G : xG} {N : Nat} {p1 : Int32} (C : xC (M, G, cdom, 4) RX7 cX7_unlikeFrom (some .int)) (R : xR (M, G, cdom, 4) = xrm 1 26) (n : Nat) : ∀ (a2 : Int32) (a3 : Int32) (s : cS) (r : Int32) (s1 : cS), f7_unlikeFrom_l12 N p1 n a2 a3 s = some (r, s1) → X (M, G, cdom, 4) (some (.int r)) (encC G s1) (encC G s) 12 [(0, .ref (G.2.1 5 0)), (1, .int (p1)), (2, .int (a2)), (3, .int (a3))] [] := by
  induction n with
  | zero => intro a2 a3 s r s1 h; exact (Option.some_ne_none _ (Eq.symm h)).elim
  | succ n ih => intro a2 a3 s r s1 h; exact t7_unlikeFrom_l12b (N := N) (p1 := p1) C R (k12 := f7_unlikeFrom_l12 N p1 n) ih h
set_option maxRecDepth 100000 in
theorem t7_unlikeFrom {M : xM} {G : xG} {N : Nat} {p1 : Int32} (C : xC (M, G, cdom, 4) RX7 cX7_unlikeFrom (some .int)) (R : xR (M, G, cdom, 4) = xrm 1 26) {s : cS} {r : Int32} {s1 : cS} (h : f7_unlikeFrom N p1 s = some (r, s1)) : X (M, G, cdom, 4) (some (.int r)) (encC G s1) (encC G s) 0 [(0, .ref (G.2.1 5 0)), (1, .int (p1))] [] := by
  unfold f7_unlikeFrom at h
  refine x_aload_n (j := 0) C dX7_unlikeFrom_0 rfl rfl ?_
  refine gf7_15 C dX7_unlikeFrom_1 ?_
  refine x_lconst (v := 0) C dX7_unlikeFrom_4 (by decide) ?_
  refine k7_42_7 C dX7_unlikeFrom_5 (x_room R rfl) (Nat.le_of_ble_eq_true rfl) ?_
  refine x_iconst (v := 0) C dX7_unlikeFrom_8 (by decide) ?_
  refine x_istore_n (i := 2) (ls' := [(2, .int (0)), (0, .ref (G.2.1 5 0)), (1, .int (p1))]) C dX7_unlikeFrom_9 rfl (Nat.le_of_ble_eq_true rfl) rfl ?_
  refine x_iconst (v := 0) C dX7_unlikeFrom_10 (by decide) ?_
  refine x_istore_n (i := 3) (ls' := [(3, .int (0)), (2, .int (0)), (0, .ref (G.2.1 5 0)), (1, .int (p1))]) C dX7_unlikeFrom_11 rfl (Nat.le_of_ble_eq_true rfl) rfl ?_
  refine x_sub (ls' := [(0, .ref (G.2.1 5 0)), (1, .int (p1)), (2, .int (0)), (3, .int (0))]) [2, 3, 1, 0] rfl ?_
  exact t7_unlikeFrom_l12 (N := N) (p1 := p1) C R N _ _ _ _ _ h
theorem c7_unlikeFrom (l : Launch) (G : xG) {N : Nat} {p1 : Int32} {s : cS} {r : Int32} {s1 : cS} (h : f7_unlikeFrom N p1 s = some (r, s1)) : xMet l yX7_unlikeFrom (x_ws yX7_unlikeFrom cX7_unlikeFrom 4 (some .int)) (xrm 1 26) G cdom [.ref (G.2.1 5 0), .int (p1)] (encC G s) (some (.int r)) (encC G s1) := by
  refine xMet.of (by decide +kernel) (Nat.le_of_ble_eq_true rfl) ?_
  rintro ⟨M, G', dom', n'⟩ e1 R e3 e4 e5 C
  change G' = G at e3; change dom' = cdom at e4; change n' = 4 at e5
  subst e3; subst e4; subst e5
  exact t7_unlikeFrom C R h
theorem k8_169 {M : xM} {G : xG} {n : Nat} {rv : Option Value} {E' : xE} {cc : ByteArray} {ret : Option FieldType} {pc : Nat} {ls : List (Nat × Value)} {st : List Value} {N : Nat} {p1 : Int32} {s s1 : cS} {r : Int32} (C : xC (M, G, cdom, n) RX8 cc ret) (d : decode cc pc = .ok (.invokevirtual 169, 3)) (h : f7_unlikeFrom N p1 s = some (r, s1)) (hR : (xrm 1 26).frames + 1 ≤ (xR (M, G, cdom, n)).frames ∧ 8 + (4 + 11) + (xrm 1 26).locals ≤ (xR (M, G, cdom, n)).locals) (hw : (st.map fun v => v.category).sum ≤ 8) (k : X (M, G, cdom, n) rv E' (encC G s1) (pc + 3) ls (.int r :: st)) : X (M, G, cdom, n) rv E' (encC G s) pc ls (.int (p1) :: .ref (G.2.1 5 0) :: st) :=
  x_callVN (As := [.int (p1)]) (n := 1) C d (c7_unlikeFrom (xl (M, G, cdom, n)) G h) lk489 lk491 lk25 lk79 lk492 ⟨rfl, rfl⟩ ⟨by decide +kernel, by decide +kernel, by decide +kernel⟩ rfl hR rfl rfl rfl rfl hw k
set_option maxRecDepth 100000 in
theorem t8_codes {M : xM} {G : xG} {N : Nat} {p1 : Int32} (C : xC (M, G, cdom, 2) RX8 cX8_codes (some .int)) (R : xR (M, G, cdom, 2) = xrm 6 133) {s : cS} {r : Int32} {s1 : cS} (h : f8_codes N p1 s = some (r, s1)) : X (M, G, cdom, 2) (some (.int r)) (encC G s1) (encC G s) 0 [(0, .ref (G.2.1 0 0)), (1, .int (p1))] [] := by
  unfold f8_codes at h
  refine x_aload_n (j := 0) C dX8_codes_0 rfl rfl ?_
  refine x_iload_n (j := 1) C dX8_codes_1 rfl rfl ?_
  obtain ⟨⟨r2, s2⟩, e2, h⟩ := Option.bind_eq_some_iff.mp h
  try dsimp only at h
  refine k8_149 C dX8_codes_2 e2 (x_room R rfl) (Nat.le_of_ble_eq_true rfl) ?_
  refine x_if_eq (tgt := 20) C dX8_codes_5 (by decide) (fun c5 => ?_) (fun c5 => ?_)
  · rw [if_pos c5] at h
    refine x_iconst (v := (-1)) C dX8_codes_20 (by decide) ?_
    cases h
    exact x_iret C dX8_codes_21
  · rw [if_neg c5] at h
    refine x_aload_n (j := 0) C dX8_codes_8 rfl rfl ?_
    refine gf8_18 C dX8_codes_9 ?_
    refine x_ldc (v := (-136000)) C dX8_codes_12 lk488 ?_
    obtain ⟨⟨r14, s14⟩, e14, h⟩ := Option.bind_eq_some_iff.mp h
    try dsimp only at h
    refine k8_169 C dX8_codes_14 e14 (x_room R rfl) (Nat.le_of_ble_eq_true rfl) ?_
    refine x_goto (tgt := 21) C dX8_codes_17 (by decide) ?_
    cases h
    exact x_iret C dX8_codes_21
theorem c8_codes (l : Launch) (G : xG) {N : Nat} {p1 : Int32} {s : cS} {r : Int32} {s1 : cS} (h : f8_codes N p1 s = some (r, s1)) : xMet l yX8_codes (x_ws yX8_codes cX8_codes 2 (some .int)) (xrm 6 133) G cdom [.ref (G.2.1 0 0), .int (p1)] (encC G s) (some (.int r)) (encC G s1) := by
  refine xMet.of (by decide +kernel) (Nat.le_of_ble_eq_true rfl) ?_
  rintro ⟨M, G', dom', n'⟩ e1 R e3 e4 e5 C
  change G' = G at e3; change dom' = cdom at e4; change n' = 2 at e5
  subst e3; subst e4; subst e5
  exact t8_codes C R h
set_option maxRecDepth 100000 in
theorem t7_greatestCode_l8b {M : xM} {G : xG} {N : Nat}  (C : xC (M, G, cdom, 3) RX7 cX7_greatestCode (some .int)) (R : xR (M, G, cdom, 3) = xrm 1 21) {k8 : Int32 → Int32 → cS → Option (Int32 × cS)} (hk8 : ∀ (a1 : Int32) (a2 : Int32) (s : cS) (r : Int32) (s1 : cS), k8 a1 a2 s = some (r, s1) → X (M, G, cdom, 3) (some (.int r)) (encC G s1) (encC G s) 8 [(0, .ref (G.2.1 5 0)), (1, .int (a1)), (2, .int (a2))] []) {a1 : Int32} {a2 : Int32} {s : cS} {r : Int32} {s1 : cS} (h : f7_greatestCode_l8b N k8 a1 a2 s = some (r, s1)) : X (M, G, cdom, 3) (some (.int r)) (encC G s1) (encC G s) 8 [(0, .ref (G.2.1 5 0)), (1, .int (a1)), (2, .int (a2))] [] := by
  unfold f7_greatestCode_l8b at h
  refine x_iload_n (j := 2) C dX7_greatestCode_8 rfl rfl ?_
  refine x_aload_n (j := 0) C dX7_greatestCode_9 rfl rfl ?_
  refine gf7_19 C dX7_greatestCode_10 ?_
  refine x_icmp_gt (tgt := 32) C dX7_greatestCode_13 (by decide) (fun c13 => ?_) (fun c13 => ?_)
  · rw [if_pos c13] at h
    refine x_iload_n (j := 1) C dX7_greatestCode_32 rfl rfl ?_
    cases h
    exact x_iret C dX7_greatestCode_33
  · rw [if_neg c13] at h
    refine x_iload_n (j := 1) C dX7_greatestCode_16 rfl rfl ?_
    refine x_aload_n (j := 0) C dX7_greatestCode_17 rfl rfl ?_
    refine x_iload_n (j := 2) C dX7_greatestCode_18 rfl rfl ?_
    obtain ⟨⟨r19, s19⟩, e19, h⟩ := Option.bind_eq_some_iff.mp h
    try dsimp only at h
    refine k7_35 C dX7_greatestCode_19 e19 (x_room R rfl) (Nat.le_of_ble_eq_true rfl) ?_
    refine x_max C dX7_greatestCode_22 lk509 lk427 lk88 lk428 (x_rf R rfl) (x_rl R rfl) ?_
    refine x_istore_n (i := 1) (ls' := [(1, .int ((jmax a1 r19))), (0, .ref (G.2.1 5 0)), (2, .int (a2))]) C dX7_greatestCode_25 rfl (Nat.le_of_ble_eq_true rfl) rfl ?_
    refine x_iinc (j := 2) (v := (a2 + 1)) (ls' := [(2, .int ((a2 + 1))), (1, .int ((jmax a1 r19))), (0, .ref (G.2.1 5 0))]) C dX7_greatestCode_26 rfl rfl (Nat.le_of_ble_eq_true rfl) rfl ?_
    refine x_goto (tgt := 8) C dX7_greatestCode_29 (by decide) ?_
    refine x_sub (ls' := [(0, .ref (G.2.1 5 0)), (1, .int ((jmax a1 r19))), (2, .int ((a2 + 1)))]) [2, 1, 0] rfl ?_
    exact hk8 _ _ _ _ _ h
theorem t7_greatestCode_l8 {M : xM} {G : xG} {N : Nat}  (C : xC (M, G, cdom, 3) RX7 cX7_greatestCode (some .int)) (R : xR (M, G, cdom, 3) = xrm 1 21) (n : Nat) : ∀ (a1 : Int32) (a2 : Int32) (s : cS) (r : Int32) (s1 : cS), f7_greatestCode_l8 N n a1 a2 s = some (r, s1) → X (M, G, cdom, 3) (some (.int r)) (encC G s1) (encC G s) 8 [(0, .ref (G.2.1 5 0)), (1, .int (a1)), (2, .int (a2))] [] := by
  induction n with
  | zero => intro a1 a2 s r s1 h; exact (Option.some_ne_none _ (Eq.symm h)).elim
  | succ n ih => intro a1 a2 s r s1 h; exact t7_greatestCode_l8b (N := N) C R (k8 := f7_greatestCode_l8 N n) ih h
set_option maxRecDepth 100000 in
theorem t7_greatestCode {M : xM} {G : xG} {N : Nat}  (C : xC (M, G, cdom, 3) RX7 cX7_greatestCode (some .int)) (R : xR (M, G, cdom, 3) = xrm 1 21) {s : cS} {r : Int32} {s1 : cS} (h : f7_greatestCode N s = some (r, s1)) : X (M, G, cdom, 3) (some (.int r)) (encC G s1) (encC G s) 0 [(0, .ref (G.2.1 5 0))] [] := by
  unfold f7_greatestCode at h
  refine x_aload_n (j := 0) C dX7_greatestCode_0 rfl rfl ?_
  refine x_iconst (v := 0) C dX7_greatestCode_1 (by decide) ?_
  obtain ⟨⟨r2, s2⟩, e2, h⟩ := Option.bind_eq_some_iff.mp h
  try dsimp only at h
  refine k7_35 C dX7_greatestCode_2 e2 (x_room R rfl) (Nat.le_of_ble_eq_true rfl) ?_
  refine x_istore_n (i := 1) (ls' := [(1, .int (r2)), (0, .ref (G.2.1 5 0))]) C dX7_greatestCode_5 rfl (Nat.le_of_ble_eq_true rfl) rfl ?_
  refine x_iconst (v := 1) C dX7_greatestCode_6 (by decide) ?_
  refine x_istore_n (i := 2) (ls' := [(2, .int (1)), (1, .int (r2)), (0, .ref (G.2.1 5 0))]) C dX7_greatestCode_7 rfl (Nat.le_of_ble_eq_true rfl) rfl ?_
  refine x_sub (ls' := [(0, .ref (G.2.1 5 0)), (1, .int (r2)), (2, .int (1))]) [2, 1, 0] rfl ?_
  exact t7_greatestCode_l8 (N := N) C R N _ _ _ _ _ h
theorem c7_greatestCode (l : Launch) (G : xG) {N : Nat}  {s : cS} {r : Int32} {s1 : cS} (h : f7_greatestCode N s = some (r, s1)) : xMet l yX7_greatestCode (x_ws yX7_greatestCode cX7_greatestCode 3 (some .int)) (xrm 1 21) G cdom [.ref (G.2.1 5 0)] (encC G s) (some (.int r)) (encC G s1) := by
  refine xMet.of (by decide +kernel) (Nat.le_of_ble_eq_true rfl) ?_
  rintro ⟨M, G', dom', n'⟩ e1 R e3 e4 e5 C
  change G' = G at e3; change dom' = cdom at e4; change n' = 3 at e5
  subst e3; subst e4; subst e5
  exact t7_greatestCode C R h
theorem k8_172 {M : xM} {G : xG} {n : Nat} {rv : Option Value} {E' : xE} {cc : ByteArray} {ret : Option FieldType} {pc : Nat} {ls : List (Nat × Value)} {st : List Value} {N : Nat} {s s1 : cS} {r : Int32} (C : xC (M, G, cdom, n) RX8 cc ret) (d : decode cc pc = .ok (.invokevirtual 172, 3)) (h : f7_greatestCode N s = some (r, s1)) (hR : (xrm 1 21).frames + 1 ≤ (xR (M, G, cdom, n)).frames ∧ 8 + (3 + 11) + (xrm 1 21).locals ≤ (xR (M, G, cdom, n)).locals) (hw : (st.map fun v => v.category).sum ≤ 8) (k : X (M, G, cdom, n) rv E' (encC G s1) (pc + 3) ls (.int r :: st)) : X (M, G, cdom, n) rv E' (encC G s) pc ls (.ref (G.2.1 5 0) :: st) :=
  x_callVN (As := []) (n := 0) C d (c7_greatestCode (xl (M, G, cdom, n)) G h) lk505 lk507 lk27 lk79 lk508 ⟨rfl, rfl⟩ ⟨by decide +kernel, by decide +kernel, by decide +kernel⟩ rfl hR rfl rfl rfl rfl hw k
set_option maxRecDepth 100000 in
theorem t8_lacks {M : xM} {G : xG} {N : Nat} {p1 : Int32} (C : xC (M, G, cdom, 2) RX8 cX8_lacks (some .int)) (R : xR (M, G, cdom, 2) = xrm 6 133) {s : cS} {r : Int32} {s1 : cS} (h : f8_lacks N p1 s = some (r, s1)) : X (M, G, cdom, 2) (some (.int r)) (encC G s1) (encC G s) 0 [(0, .ref (G.2.1 0 0)), (1, .int (p1))] [] := by
  unfold f8_lacks at h
  refine x_aload_n (j := 0) C dX8_lacks_0 rfl rfl ?_
  refine x_iload_n (j := 1) C dX8_lacks_1 rfl rfl ?_
  obtain ⟨⟨r2, s2⟩, e2, h⟩ := Option.bind_eq_some_iff.mp h
  try dsimp only at h
  refine k8_149 C dX8_lacks_2 e2 (x_room R rfl) (Nat.le_of_ble_eq_true rfl) ?_
  refine x_if_ne (tgt := 10) C dX8_lacks_5 (by decide) (fun c5 => ?_) (fun c5 => ?_)
  · rw [if_neg c5] at h
    refine x_iconst (v := 0) C dX8_lacks_10 (by decide) ?_
    refine x_aload_n (j := 0) C dX8_lacks_11 rfl rfl ?_
    refine gf8_18 C dX8_lacks_12 ?_
    obtain ⟨⟨r15, s15⟩, e15, h⟩ := Option.bind_eq_some_iff.mp h
    try dsimp only at h
    refine k8_172 C dX8_lacks_15 e15 (x_room R rfl) (Nat.le_of_ble_eq_true rfl) ?_
    refine x_iconst (v := 1) C dX8_lacks_18 (by decide) ?_
    refine x_iadd C dX8_lacks_19 ?_
    refine x_max C dX8_lacks_20 lk510 lk427 lk88 lk428 (x_rf R rfl) (x_rl R rfl) ?_
    refine x_aload_n (j := 0) C dX8_lacks_23 rfl rfl ?_
    refine gf8_18 C dX8_lacks_24 ?_
    refine x_iconst (v := 0) C dX8_lacks_27 (by decide) ?_
    obtain ⟨⟨r28, s28⟩, e28, h⟩ := Option.bind_eq_some_iff.mp h
    try dsimp only at h
    refine k8_169 C dX8_lacks_28 e28 (x_room R rfl) (Nat.le_of_ble_eq_true rfl) ?_
    refine x_isub C dX8_lacks_31 ?_
    cases h
    exact x_iret C dX8_lacks_32
  · rw [if_pos c5] at h
    refine x_iconst (v := (-1)) C dX8_lacks_8 (by decide) ?_
    cases h
    exact x_iret C dX8_lacks_9
theorem c8_lacks (l : Launch) (G : xG) {N : Nat} {p1 : Int32} {s : cS} {r : Int32} {s1 : cS} (h : f8_lacks N p1 s = some (r, s1)) : xMet l yX8_lacks (x_ws yX8_lacks cX8_lacks 2 (some .int)) (xrm 6 133) G cdom [.ref (G.2.1 0 0), .int (p1)] (encC G s) (some (.int r)) (encC G s1) := by
  refine xMet.of (by decide +kernel) (Nat.le_of_ble_eq_true rfl) ?_
  rintro ⟨M, G', dom', n'⟩ e1 R e3 e4 e5 C
  change G' = G at e3; change dom' = cdom at e4; change n' = 2 at e5
  subst e3; subst e4; subst e5
  exact t8_lacks C R h
