set_option maxRecDepth 100000 in
theorem t9_line_b162 {M : xM} {G : xG} {N : Nat} {p1 : Int32} {p2 : Int32} (C : xC (M, G, mdom, 12) RX9 cX9_line (some .int)) (R : xR (M, G, mdom, 12) = xrm 4 97) {k103 : Int32 → Int32 → Int32 → Int32 → Int32 → Int32 → Int32 → mS → Option (Int32 × mS)} (hk103 : ∀ (a3 : Int32) (a4 : Int32) (a5 : Int32) (a6 : Int32) (a7 : Int32) (a8 : Int32) (a9 : Int32) (s : mS) (r : Int32) (s1 : mS), k103 a3 a4 a5 a6 a7 a8 a9 s = some (r, s1) → X (M, G, mdom, 12) (some (.int r)) (encM G s1) (encM G s) 103 [(0, .ref (G.2.1 0 0)), (2, .int (p2)), (3, .int (a3)), (4, .int (a4)), (5, .int (a5)), (6, .int (a6)), (7, .int (a7)), (8, .int (a8)), (9, .int (a9))] []) {a3 : Int32} {a4 : Int32} {a5 : Int32} {a6 : Int32} {a7 : Int32} {a8 : Int32} {a9 : Int32} {b0 : Int32} {s : mS} {r : Int32} {s1 : mS} (h : f9_line_b162 N p1 p2 k103 a3 a4 a5 a6 a7 a8 a9 b0 s = some (r, s1)) : X (M, G, mdom, 12) (some (.int r)) (encM G s1) (encM G s) 162 [(0, .ref (G.2.1 0 0)), (2, .int (p2)), (3, .int (a3)), (4, .int (a4)), (5, .int (a5)), (6, .int (a6)), (7, .int (a7)), (8, .int (a8)), (9, .int (a9))] [.int (b0)] := by
  unfold f9_line_b162 at h
  refine x_istore (i := 11) (ls' := [(11, .int (b0)), (0, .ref (G.2.1 0 0)), (2, .int (p2)), (3, .int (a3)), (4, .int (a4)), (5, .int (a5)), (6, .int (a6)), (7, .int (a7)), (8, .int (a8)), (9, .int (a9))]) C dX9_line_162 (Nat.le_of_ble_eq_true rfl) rfl ?_
  refine x_iload (j := 0) C dX9_line_164 rfl ?_
  refine x_iload (j := 6) C dX9_line_166 rfl ?_
  refine x_icmp_gt (tgt := 174) C dX9_line_168 (by decide) (fun c168 => ?_) (fun c168 => ?_)
  · rw [if_pos c168] at h
    refine x_iload (j := 0) C dX9_line_174 rfl ?_
    refine x_istore (i := 6) (ls' := [(6, .int (b0)), (11, .int (b0)), (0, .ref (G.2.1 0 0)), (2, .int (p2)), (3, .int (a3)), (4, .int (a4)), (5, .int (a5)), (7, .int (a7)), (8, .int (a8)), (9, .int (a9))]) C dX9_line_176 (Nat.le_of_ble_eq_true rfl) rfl ?_
    refine x_iload (j := 9) C dX9_line_178 rfl ?_
    refine x_istore (i := 7) (ls' := [(7, .int (a9)), (6, .int (b0)), (11, .int (b0)), (0, .ref (G.2.1 0 0)), (2, .int (p2)), (3, .int (a3)), (4, .int (a4)), (5, .int (a5)), (8, .int (a8)), (9, .int (a9))]) C dX9_line_180 (Nat.le_of_ble_eq_true rfl) rfl ?_
    refine x_iinc (j := 9) (v := (a9 + 1)) (ls' := [(9, .int ((a9 + 1))), (7, .int (a9)), (6, .int (b0)), (11, .int (b0)), (0, .ref (G.2.1 0 0)), (2, .int (p2)), (3, .int (a3)), (4, .int (a4)), (5, .int (a5)), (8, .int (a8))]) C dX9_line_182 rfl rfl (Nat.le_of_ble_eq_true rfl) rfl ?_
    refine x_goto (tgt := 103) C dX9_line_185 (by decide) ?_
    refine x_sub (ls' := [(0, .ref (G.2.1 0 0)), (2, .int (p2)), (3, .int (a3)), (4, .int (a4)), (5, .int (a5)), (6, .int (b0)), (7, .int (a9)), (8, .int (a8)), (9, .int ((a9 + 1)))]) [4, 5, 6, 7, 8, 2, 1, 9, 0] rfl ?_
    exact hk103 _ _ _ _ _ _ _ _ _ _ h
  · rw [if_neg c168] at h
    refine x_goto (tgt := 182) C dX9_line_171 (by decide) ?_
    refine x_iinc (j := 9) (v := (a9 + 1)) (ls' := [(9, .int ((a9 + 1))), (11, .int (b0)), (0, .ref (G.2.1 0 0)), (2, .int (p2)), (3, .int (a3)), (4, .int (a4)), (5, .int (a5)), (6, .int (a6)), (7, .int (a7)), (8, .int (a8))]) C dX9_line_182 rfl rfl (Nat.le_of_ble_eq_true rfl) rfl ?_
    refine x_goto (tgt := 103) C dX9_line_185 (by decide) ?_
    refine x_sub (ls' := [(0, .ref (G.2.1 0 0)), (2, .int (p2)), (3, .int (a3)), (4, .int (a4)), (5, .int (a5)), (6, .int (a6)), (7, .int (a7)), (8, .int (a8)), (9, .int ((a9 + 1)))]) [2, 3, 4, 5, 6, 7, 8, 9, 0] rfl ?_
    exact hk103 _ _ _ _ _ _ _ _ _ _ h
set_option maxRecDepth 100000 in
theorem t9_line_l109b {M : xM} {G : xG} {N : Nat} {p1 : Int32} {p2 : Int32} (C : xC (M, G, mdom, 12) RX9 cX9_line (some .int)) (R : xR (M, G, mdom, 12) = xrm 4 97) {k103 : Int32 → Int32 → Int32 → Int32 → Int32 → Int32 → Int32 → mS → Option (Int32 × mS)} (hk103 : ∀ (a3 : Int32) (a4 : Int32) (a5 : Int32) (a6 : Int32) (a7 : Int32) (a8 : Int32) (a9 : Int32) (s : mS) (r : Int32) (s1 : mS), k103 a3 a4 a5 a6 a7 a8 a9 s = some (r, s1) → X (M, G, mdom, 12) (some (.int r)) (encM G s1) (encM G s) 103 [(0, .ref (G.2.1 0 0)), (2, .int (p2)), (3, .int (a3)), (4, .int (a4)), (5, .int (a5)), (6, .int (a6)), (7, .int (a7)), (8, .int (a8)), (9, .int (a9))] []) {k109 : Int32 → Int32 → Int32 → Int32 → Int32 → Int32 → Int32 → mS → Option (Int32 × mS)} (hk109 : ∀ (a3 : Int32) (a4 : Int32) (a5 : Int32) (a6 : Int32) (a7 : Int32) (a8 : Int32) (a9 : Int32) (s : mS) (r : Int32) (s1 : mS), k109 a3 a4 a5 a6 a7 a8 a9 s = some (r, s1) → X (M, G, mdom, 12) (some (.int r)) (encM G s1) (encM G s) 109 [(0, .ref (G.2.1 0 0)), (2, .int (p2)), (3, .int (a3)), (4, .int (a4)), (5, .int (a5)), (6, .int (a6)), (7, .int (a7)), (8, .int (a8)), (9, .int (a9))] []) {a3 : Int32} {a4 : Int32} {a5 : Int32} {a6 : Int32} {a7 : Int32} {a8 : Int32} {a9 : Int32} {s : mS} {r : Int32} {s1 : mS} (h : f9_line_l109b N p1 p2 k103 k109 a3 a4 a5 a6 a7 a8 a9 s = some (r, s1)) : X (M, G, mdom, 12) (some (.int r)) (encM G s1) (encM G s) 109 [(0, .ref (G.2.1 0 0)), (2, .int (p2)), (3, .int (a3)), (4, .int (a4)), (5, .int (a5)), (6, .int (a6)), (7, .int (a7)), (8, .int (a8)), (9, .int (a9))] [] := by
  unfold f9_line_l109b at h
  refine x_aload_n (j := 0) C dX9_line_109 rfl rfl ?_
  refine gf9_31 C dX9_line_110 ?_
  refine x_iload (j := 7) C dX9_line_113 rfl ?_
  by_cases g115_1 : inB a8 4096 = true
  case neg => rw [if_neg g115_1] at h; cases h
  rw [if_pos g115_1] at h
  refine mld8 C dX9_line_115 g115_1 ?_
  refine x_iload (j := 8) C dX9_line_116 rfl ?_
  refine x_icmp_ge (tgt := 127) C dX9_line_118 (by decide) (fun c118 => ?_) (fun c118 => ?_)
  · rw [if_pos c118] at h
    refine x_iload_n (j := 2) C dX9_line_127 rfl rfl ?_
    refine x_iconst (v := 1) C dX9_line_128 (by decide) ?_
    refine x_isub C dX9_line_129 ?_
    refine x_iload (j := 7) C dX9_line_130 rfl ?_
    refine x_iload (j := 3) C dX9_line_132 rfl ?_
    refine x_isub C dX9_line_134 ?_
    refine x_imul C dX9_line_135 ?_
    refine x_iload (j := 8) C dX9_line_136 rfl ?_
    refine x_iconst (v := 1) C dX9_line_138 (by decide) ?_
    refine x_isub C dX9_line_139 ?_
    refine x_iload (j := 4) C dX9_line_140 rfl ?_
    refine x_iload (j := 3) C dX9_line_142 rfl ?_
    refine x_isub C dX9_line_144 ?_
    refine x_imul C dX9_line_145 ?_
    refine x_isub C dX9_line_146 ?_
    refine x_istore (i := 10) (ls' := [(10, .int ((((a3 - 1) * (a8 - a4)) - ((a9 - 1) * (a5 - a4))))), (0, .ref (G.2.1 0 0)), (2, .int (p2)), (3, .int (a3)), (4, .int (a4)), (5, .int (a5)), (6, .int (a6)), (7, .int (a7)), (8, .int (a8)), (9, .int (a9))]) C dX9_line_147 (Nat.le_of_ble_eq_true rfl) rfl ?_
    refine x_iload (j := 0) C dX9_line_149 rfl ?_
    refine x_if_ge (tgt := 160) C dX9_line_151 (by decide) (fun c151 => ?_) (fun c151 => ?_)
    · rw [if_pos c151] at h
      refine x_iload (j := 0) C dX9_line_160 rfl ?_
      refine x_sub (ls' := [(0, .ref (G.2.1 0 0)), (2, .int (p2)), (3, .int (a3)), (4, .int (a4)), (5, .int (a5)), (6, .int (a6)), (7, .int (a7)), (8, .int (a8)), (9, .int (a9))]) [1, 2, 3, 4, 5, 6, 7, 8, 9] rfl ?_
      exact t9_line_b162 (N := N) (p1 := p1) (p2 := p2) C R hk103 h
    · rw [if_neg c151] at h
      refine x_iload (j := 0) C dX9_line_154 rfl ?_
      refine x_ineg C dX9_line_156 ?_
      refine x_goto (tgt := 162) C dX9_line_157 (by decide) ?_
      refine x_sub (ls' := [(0, .ref (G.2.1 0 0)), (2, .int (p2)), (3, .int (a3)), (4, .int (a4)), (5, .int (a5)), (6, .int (a6)), (7, .int (a7)), (8, .int (a8)), (9, .int (a9))]) [1, 2, 3, 4, 5, 6, 7, 8, 9] rfl ?_
      exact t9_line_b162 (N := N) (p1 := p1) (p2 := p2) C R hk103 h
  · rw [if_neg c118] at h
    refine x_iinc (j := 7) (v := (a8 + 1)) (ls' := [(8, .int ((a8 + 1))), (0, .ref (G.2.1 0 0)), (2, .int (p2)), (3, .int (a3)), (4, .int (a4)), (5, .int (a5)), (6, .int (a6)), (7, .int (a7)), (9, .int (a9))]) C dX9_line_121 rfl rfl (Nat.le_of_ble_eq_true rfl) rfl ?_
    refine x_goto (tgt := 109) C dX9_line_124 (by decide) ?_
    refine x_sub (ls' := [(0, .ref (G.2.1 0 0)), (2, .int (p2)), (3, .int (a3)), (4, .int (a4)), (5, .int (a5)), (6, .int (a6)), (7, .int (a7)), (8, .int ((a8 + 1))), (9, .int (a9))]) [1, 2, 3, 4, 5, 6, 7, 0, 8] rfl ?_
    exact hk109 _ _ _ _ _ _ _ _ _ _ h
theorem t9_line_l109 {M : xM} {G : xG} {N : Nat} {p1 : Int32} {p2 : Int32} (C : xC (M, G, mdom, 12) RX9 cX9_line (some .int)) (R : xR (M, G, mdom, 12) = xrm 4 97) {k103 : Int32 → Int32 → Int32 → Int32 → Int32 → Int32 → Int32 → mS → Option (Int32 × mS)} (hk103 : ∀ (a3 : Int32) (a4 : Int32) (a5 : Int32) (a6 : Int32) (a7 : Int32) (a8 : Int32) (a9 : Int32) (s : mS) (r : Int32) (s1 : mS), k103 a3 a4 a5 a6 a7 a8 a9 s = some (r, s1) → X (M, G, mdom, 12) (some (.int r)) (encM G s1) (encM G s) 103 [(0, .ref (G.2.1 0 0)), (2, .int (p2)), (3, .int (a3)), (4, .int (a4)), (5, .int (a5)), (6, .int (a6)), (7, .int (a7)), (8, .int (a8)), (9, .int (a9))] []) (n : Nat) : ∀ (a3 : Int32) (a4 : Int32) (a5 : Int32) (a6 : Int32) (a7 : Int32) (a8 : Int32) (a9 : Int32) (s : mS) (r : Int32) (s1 : mS), f9_line_l109 N p1 p2 k103 n a3 a4 a5 a6 a7 a8 a9 s = some (r, s1) → X (M, G, mdom, 12) (some (.int r)) (encM G s1) (encM G s) 109 [(0, .ref (G.2.1 0 0)), (2, .int (p2)), (3, .int (a3)), (4, .int (a4)), (5, .int (a5)), (6, .int (a6)), (7, .int (a7)), (8, .int (a8)), (9, .int (a9))] [] := by
  induction n with
  | zero => intro a3 a4 a5 a6 a7 a8 a9 s r s1 h; exact (Option.some_ne_none _ (Eq.symm h)).elim
  | succ n ih => intro a3 a4 a5 a6 a7 a8 a9 s r s1 h; exact t9_line_l109b (N := N) (p1 := p1) (p2 := p2) C R hk103 (k109 := f9_line_l109 N p1 p2 k103 n) ih h
set_option maxRecDepth 100000 in
theorem t9_line_l103b {M : xM} {G : xG} {N : Nat} {p1 : Int32} {p2 : Int32} (C : xC (M, G, mdom, 12) RX9 cX9_line (some .int)) (R : xR (M, G, mdom, 12) = xrm 4 97) {k103 : Int32 → Int32 → Int32 → Int32 → Int32 → Int32 → Int32 → mS → Option (Int32 × mS)} (hk103 : ∀ (a3 : Int32) (a4 : Int32) (a5 : Int32) (a6 : Int32) (a7 : Int32) (a8 : Int32) (a9 : Int32) (s : mS) (r : Int32) (s1 : mS), k103 a3 a4 a5 a6 a7 a8 a9 s = some (r, s1) → X (M, G, mdom, 12) (some (.int r)) (encM G s1) (encM G s) 103 [(0, .ref (G.2.1 0 0)), (2, .int (p2)), (3, .int (a3)), (4, .int (a4)), (5, .int (a5)), (6, .int (a6)), (7, .int (a7)), (8, .int (a8)), (9, .int (a9))] []) {a3 : Int32} {a4 : Int32} {a5 : Int32} {a6 : Int32} {a7 : Int32} {a8 : Int32} {a9 : Int32} {s : mS} {r : Int32} {s1 : mS} (h : f9_line_l103b N p1 p2 k103 a3 a4 a5 a6 a7 a8 a9 s = some (r, s1)) : X (M, G, mdom, 12) (some (.int r)) (encM G s1) (encM G s) 103 [(0, .ref (G.2.1 0 0)), (2, .int (p2)), (3, .int (a3)), (4, .int (a4)), (5, .int (a5)), (6, .int (a6)), (7, .int (a7)), (8, .int (a8)), (9, .int (a9))] [] := by
  unfold f9_line_l103b at h
  refine x_iload (j := 8) C dX9_line_103 rfl ?_
  refine x_iload_n (j := 2) C dX9_line_105 rfl rfl ?_
  refine x_icmp_gt (tgt := 188) C dX9_line_106 (by decide) (fun c106 => ?_) (fun c106 => ?_)
  · rw [if_pos c106] at h
    refine x_iload_n (j := 1) C dX9_line_188 rfl rfl ?_
    refine x_if_ne (tgt := 197) C dX9_line_189 (by decide) (fun c189 => ?_) (fun c189 => ?_)
    · rw [if_neg c189] at h
      refine x_iload (j := 6) C dX9_line_197 rfl ?_
      cases h
      exact x_iret C dX9_line_199
    · rw [if_pos c189] at h
      refine x_iload (j := 5) C dX9_line_192 rfl ?_
      refine x_goto (tgt := 199) C dX9_line_194 (by decide) ?_
      cases h
      exact x_iret C dX9_line_199
  · rw [if_neg c106] at h
    exact t9_line_l109 (N := N) (p1 := p1) (p2 := p2) C R hk103 N _ _ _ _ _ _ _ _ _ _ h
theorem t9_line_l103 {M : xM} {G : xG} {N : Nat} {p1 : Int32} {p2 : Int32} (C : xC (M, G, mdom, 12) RX9 cX9_line (some .int)) (R : xR (M, G, mdom, 12) = xrm 4 97) (n : Nat) : ∀ (a3 : Int32) (a4 : Int32) (a5 : Int32) (a6 : Int32) (a7 : Int32) (a8 : Int32) (a9 : Int32) (s : mS) (r : Int32) (s1 : mS), f9_line_l103 N p1 p2 n a3 a4 a5 a6 a7 a8 a9 s = some (r, s1) → X (M, G, mdom, 12) (some (.int r)) (encM G s1) (encM G s) 103 [(0, .ref (G.2.1 0 0)), (2, .int (p2)), (3, .int (a3)), (4, .int (a4)), (5, .int (a5)), (6, .int (a6)), (7, .int (a7)), (8, .int (a8)), (9, .int (a9))] [] := by
  induction n with
  | zero => intro a3 a4 a5 a6 a7 a8 a9 s r s1 h; exact (Option.some_ne_none _ (Eq.symm h)).elim
  | succ n ih => intro a3 a4 a5 a6 a7 a8 a9 s r s1 h; exact t9_line_l103b (N := N) (p1 := p1) (p2 := p2) C R (k103 := f9_line_l103 N p1 p2 n) ih h
set_option maxRecDepth 100000 in
theorem t9_line_b66 {M : xM} {G : xG} {N : Nat} {p1 : Int32} {p2 : Int32} (C : xC (M, G, mdom, 12) RX9 cX9_line (some .int)) (R : xR (M, G, mdom, 12) = xrm 4 97) {s : mS} {r : Int32} {s1 : mS} (h : f9_line_b66 N p1 p2 s = some (r, s1)) : X (M, G, mdom, 12) (some (.int r)) (encM G s1) (encM G s) 66 [(0, .ref (G.2.1 0 0))] [] := by
  unfold f9_line_b66 at h
  refine x_aload_n (j := 0) C dX9_line_66 rfl rfl ?_
  refine x_iconst (v := 5) C dX9_line_67 (by decide) ?_
  obtain ⟨⟨r68, s68⟩, e68, h⟩ := Option.bind_eq_some_iff.mp h
  try dsimp only at h
  refine k9_78 C dX9_line_68 e68 (x_room R rfl) (Nat.le_of_ble_eq_true rfl) ?_
  cases h
  exact x_iret C dX9_line_71
set_option maxRecDepth 100000 in
theorem t9_line {M : xM} {G : xG} {N : Nat} {p1 : Int32} {p2 : Int32} (C : xC (M, G, mdom, 12) RX9 cX9_line (some .int)) (R : xR (M, G, mdom, 12) = xrm 4 97) {s : mS} {r : Int32} {s1 : mS} (h : f9_line N p1 p2 s = some (r, s1)) : X (M, G, mdom, 12) (some (.int r)) (encM G s1) (encM G s) 0 [(0, .ref (G.2.1 0 0)), (1, .int (p1)), (2, .int (p2))] [] := by
  unfold f9_line at h
  refine x_aload_n (j := 0) C dX9_line_0 rfl rfl ?_
  refine x_iconst (v := 0) C dX9_line_1 (by decide) ?_
  refine pf9_47 C dX9_line_2 ?_
  refine x_aload_n (j := 0) C dX9_line_5 rfl rfl ?_
  refine x_iload_n (j := 1) C dX9_line_6 rfl rfl ?_
  obtain ⟨⟨r7, s7⟩, e7, h⟩ := Option.bind_eq_some_iff.mp h
  try dsimp only at h
  refine k9_68 C dX9_line_7 e7 (x_room R rfl) (Nat.le_of_ble_eq_true rfl) ?_
  refine x_if_ne (tgt := 19) C dX9_line_10 (by decide) (fun c10 => ?_) (fun c10 => ?_)
  · rw [if_neg c10] at h
    refine x_aload_n (j := 0) C dX9_line_19 rfl rfl ?_
    refine x_iload_n (j := 2) C dX9_line_20 rfl rfl ?_
    refine x_iconst (v := 0) C dX9_line_21 (by decide) ?_
    refine x_iconst (v := 1) C dX9_line_22 (by decide) ?_
    obtain ⟨⟨r23, s23⟩, e23, h⟩ := Option.bind_eq_some_iff.mp h
    try dsimp only at h
    refine k9_64 C dX9_line_23 e23 (x_room R rfl) (Nat.le_of_ble_eq_true rfl) ?_
    refine x_if_ne (tgt := 35) C dX9_line_26 (by decide) (fun c26 => ?_) (fun c26 => ?_)
    · rw [if_neg c26] at h
      refine x_aload_n (j := 0) C dX9_line_35 rfl rfl ?_
      refine x_iload_n (j := 1) C dX9_line_36 rfl rfl ?_
      obtain ⟨s37, e37, h⟩ := Option.bind_eq_some_iff.mp h
      try dsimp only at h
      refine k9_114 C dX9_line_37 e37 (x_room R rfl) (Nat.le_of_ble_eq_true rfl) ?_
      refine x_aload_n (j := 0) C dX9_line_40 rfl rfl ?_
      refine gf9_31 C dX9_line_41 ?_
      refine x_aload_n (j := 0) C dX9_line_44 rfl rfl ?_
      refine gf9_7 C dX9_line_45 ?_
      refine x_iconst (v := 0) C dX9_line_48 (by decide) ?_
      refine mld1 C dX9_line_49 (by decide) ?_
      by_cases g50_1 : inB (s37 0 ((0 : Int32).toNatClampNeg)) 4096 = true
      case neg => rw [if_neg g50_1] at h; cases h
      rw [if_pos g50_1] at h
      refine mld8 C dX9_line_50 g50_1 ?_
      refine x_istore_n (i := 3) (ls' := [(3, .int ((s37 15 ((s37 0 ((0 : Int32).toNatClampNeg)).toNatClampNeg)))), (0, .ref (G.2.1 0 0)), (1, .int (p1)), (2, .int (p2))]) C dX9_line_51 rfl (Nat.le_of_ble_eq_true rfl) rfl ?_
      refine x_aload_n (j := 1) C dX9_line_52 rfl rfl ?_
      obtain ⟨⟨r53, s53⟩, e53, h⟩ := Option.bind_eq_some_iff.mp h
      try dsimp only at h
      refine k9_121 C dX9_line_53 e53 (x_room R rfl) (Nat.le_of_ble_eq_true rfl) ?_
      refine x_bipush (v := (-2)) C dX9_line_56 (by decide) ?_
      refine x_icmp_ne (tgt := 66) C dX9_line_58 (by decide) (fun c58 => ?_) (fun c58 => ?_)
      · rw [if_neg c58] at h
        refine x_sub (ls' := [(0, .ref (G.2.1 0 0))]) [1] rfl ?_
        exact t9_line_b66 (N := N) (p1 := p1) (p2 := p2) C R h
      · rw [if_pos c58] at h
        refine x_iload_n (j := 0) C dX9_line_61 rfl rfl ?_
        refine x_iconst (v := 2) C dX9_line_62 (by decide) ?_
        refine x_icmp_ge (tgt := 72) C dX9_line_63 (by decide) (fun c63 => ?_) (fun c63 => ?_)
        · rw [if_pos c63] at h
          refine x_aload_n (j := 1) C dX9_line_72 rfl rfl ?_
          refine x_iconst (v := 0) C dX9_line_73 (by decide) ?_
          refine pf9_51 C dX9_line_74 ?_
          refine x_aload_n (j := 1) C dX9_line_77 rfl rfl ?_
          refine x_iconst (v := 1) C dX9_line_78 (by decide) ?_
          obtain ⟨⟨r79, s79⟩, e79, h⟩ := Option.bind_eq_some_iff.mp h
          try dsimp only at h
          refine k9_125 C dX9_line_79 e79 (x_room R rfl) (Nat.le_of_ble_eq_true rfl) ?_
          refine x_istore (i := 4) (ls' := [(4, .int (r79)), (3, .int ((s37 15 ((s37 0 ((0 : Int32).toNatClampNeg)).toNatClampNeg)))), (0, .ref (G.2.1 0 0)), (1, .int (p1)), (2, .int (p2))]) C dX9_line_82 (Nat.le_of_ble_eq_true rfl) rfl ?_
          refine x_aload_n (j := 2) C dX9_line_84 rfl rfl ?_
          refine x_iload_n (j := 1) C dX9_line_85 rfl rfl ?_
          obtain ⟨⟨r86, s86⟩, e86, h⟩ := Option.bind_eq_some_iff.mp h
          try dsimp only at h
          refine k9_125 C dX9_line_86 e86 (x_room R rfl) (Nat.le_of_ble_eq_true rfl) ?_
          refine x_istore (i := 5) (ls' := [(5, .int (r86)), (4, .int (r79)), (3, .int ((s37 15 ((s37 0 ((0 : Int32).toNatClampNeg)).toNatClampNeg)))), (0, .ref (G.2.1 0 0)), (1, .int (p1)), (2, .int (p2))]) C dX9_line_89 (Nat.le_of_ble_eq_true rfl) rfl ?_
          refine x_iconst (v := 0) C dX9_line_91 (by decide) ?_
          refine x_istore (i := 6) (ls' := [(6, .int (0)), (5, .int (r86)), (4, .int (r79)), (3, .int ((s37 15 ((s37 0 ((0 : Int32).toNatClampNeg)).toNatClampNeg)))), (0, .ref (G.2.1 0 0)), (1, .int (p1)), (2, .int (p2))]) C dX9_line_92 (Nat.le_of_ble_eq_true rfl) rfl ?_
          refine x_iconst (v := 1) C dX9_line_94 (by decide) ?_
          refine x_istore (i := 7) (ls' := [(7, .int (1)), (6, .int (0)), (5, .int (r86)), (4, .int (r79)), (3, .int ((s37 15 ((s37 0 ((0 : Int32).toNatClampNeg)).toNatClampNeg)))), (0, .ref (G.2.1 0 0)), (1, .int (p1)), (2, .int (p2))]) C dX9_line_95 (Nat.le_of_ble_eq_true rfl) rfl ?_
          refine x_iconst (v := 0) C dX9_line_97 (by decide) ?_
          refine x_istore (i := 8) (ls' := [(8, .int (0)), (7, .int (1)), (6, .int (0)), (5, .int (r86)), (4, .int (r79)), (3, .int ((s37 15 ((s37 0 ((0 : Int32).toNatClampNeg)).toNatClampNeg)))), (0, .ref (G.2.1 0 0)), (1, .int (p1)), (2, .int (p2))]) C dX9_line_98 (Nat.le_of_ble_eq_true rfl) rfl ?_
          refine x_iconst (v := 1) C dX9_line_100 (by decide) ?_
          refine x_istore (i := 9) (ls' := [(9, .int (1)), (8, .int (0)), (7, .int (1)), (6, .int (0)), (5, .int (r86)), (4, .int (r79)), (3, .int ((s37 15 ((s37 0 ((0 : Int32).toNatClampNeg)).toNatClampNeg)))), (0, .ref (G.2.1 0 0)), (1, .int (p1)), (2, .int (p2))]) C dX9_line_101 (Nat.le_of_ble_eq_true rfl) rfl ?_
          refine x_sub (ls' := [(0, .ref (G.2.1 0 0)), (2, .int (p2)), (3, .int ((s37 15 ((s37 0 ((0 : Int32).toNatClampNeg)).toNatClampNeg)))), (4, .int (r79)), (5, .int (r86)), (6, .int (0)), (7, .int (1)), (8, .int (0)), (9, .int (1))]) [7, 9, 6, 5, 4, 3, 2, 1, 0] rfl ?_
          exact t9_line_l103 (N := N) (p1 := p1) (p2 := p2) C R N _ _ _ _ _ _ _ _ _ _ h
        · rw [if_neg c63] at h
          refine x_sub (ls' := [(0, .ref (G.2.1 0 0))]) [1] rfl ?_
          exact t9_line_b66 (N := N) (p1 := p1) (p2 := p2) C R h
    · rw [if_pos c26] at h
      refine x_aload_n (j := 0) C dX9_line_29 rfl rfl ?_
      refine x_iconst (v := 1) C dX9_line_30 (by decide) ?_
      obtain ⟨⟨r31, s31⟩, e31, h⟩ := Option.bind_eq_some_iff.mp h
      try dsimp only at h
      refine k9_78 C dX9_line_31 e31 (x_room R rfl) (Nat.le_of_ble_eq_true rfl) ?_
      cases h
      exact x_iret C dX9_line_34
  · rw [if_pos c10] at h
    refine x_aload_n (j := 0) C dX9_line_13 rfl rfl ?_
    refine x_iconst (v := 2) C dX9_line_14 (by decide) ?_
    obtain ⟨⟨r15, s15⟩, e15, h⟩ := Option.bind_eq_some_iff.mp h
    try dsimp only at h
    refine k9_78 C dX9_line_15 e15 (x_room R rfl) (Nat.le_of_ble_eq_true rfl) ?_
    cases h
    exact x_iret C dX9_line_18
theorem c9_line (l : Launch) (G : xG) {N : Nat} {p1 : Int32} {p2 : Int32} {s : mS} {r : Int32} {s1 : mS} (h : f9_line N p1 p2 s = some (r, s1)) : xMet l yX9_line (x_ws yX9_line cX9_line 12 (some .int)) (xrm 4 97) G mdom [.ref (G.2.1 0 0), .int (p1), .int (p2)] (encM G s) (some (.int r)) (encM G s1) := by
  refine xMet.of (by decide +kernel) (Nat.le_of_ble_eq_true rfl) ?_
  rintro ⟨M, G', dom', n'⟩ e1 R e3 e4 e5 C
  change G' = G at e3; change dom' = mdom at e4; change n' = 12 at e5
  subst e3; subst e4; subst e5
  exact t9_line C R h
set_option maxRecDepth 100000 in
theorem t9_isOf {M : xM} {G : xG} {N : Nat} {p1 : Int32} {p2 : Int32} (C : xC (M, G, mdom, 3) RX9 cX9_isOf (some .int)) (R : xR (M, G, mdom, 3) = xrm 1 22) {s : mS} {r : Int32} {s1 : mS} (h : f9_isOf N p1 p2 s = some (r, s1)) : X (M, G, mdom, 3) (some (.int r)) (encM G s1) (encM G s) 0 [(0, .ref (G.2.1 0 0)), (1, .int (p1)), (2, .int (p2))] [] := by
  unfold f9_isOf at h
  refine x_aload_n (j := 0) C dX9_isOf_0 rfl rfl ?_
  refine gf9_7 C dX9_isOf_1 ?_
  refine x_aload_n (j := 0) C dX9_isOf_4 rfl rfl ?_
  refine x_iload_n (j := 1) C dX9_isOf_5 rfl rfl ?_
  refine x_iload_n (j := 2) C dX9_isOf_6 rfl rfl ?_
  obtain ⟨⟨r7, s7⟩, e7, h⟩ := Option.bind_eq_some_iff.mp h
  try dsimp only at h
  refine k9_85 C dX9_isOf_7 e7 (x_room R rfl) (Nat.le_of_ble_eq_true rfl) ?_
  by_cases g10_1 : inB r7 530 = true
  case neg => rw [if_neg g10_1] at h; cases h
  rw [if_pos g10_1] at h
  refine mld1 C dX9_isOf_10 g10_1 ?_
  refine x_aload_n (j := 0) C dX9_isOf_11 rfl rfl ?_
  refine gf9_7 C dX9_isOf_12 ?_
  refine x_aload_n (j := 0) C dX9_isOf_15 rfl rfl ?_
  refine x_iload_n (j := 1) C dX9_isOf_16 rfl rfl ?_
  refine x_iload_n (j := 2) C dX9_isOf_17 rfl rfl ?_
  obtain ⟨⟨r18, s18⟩, e18, h⟩ := Option.bind_eq_some_iff.mp h
  try dsimp only at h
  refine k9_85 C dX9_isOf_18 e18 (x_room R rfl) (Nat.le_of_ble_eq_true rfl) ?_
  refine x_iconst (v := 1) C dX9_isOf_21 (by decide) ?_
  refine x_iadd C dX9_isOf_22 ?_
  by_cases g23_2 : inB (r18 + 1) 530 = true
  case neg => rw [if_neg g23_2] at h; cases h
  rw [if_pos g23_2] at h
  refine mld1 C dX9_isOf_23 g23_2 ?_
  refine x_iadd C dX9_isOf_24 ?_
  cases h
  exact x_iret C dX9_isOf_25
theorem c9_isOf (l : Launch) (G : xG) {N : Nat} {p1 : Int32} {p2 : Int32} {s : mS} {r : Int32} {s1 : mS} (h : f9_isOf N p1 p2 s = some (r, s1)) : xMet l yX9_isOf (x_ws yX9_isOf cX9_isOf 3 (some .int)) (xrm 1 22) G mdom [.ref (G.2.1 0 0), .int (p1), .int (p2)] (encM G s) (some (.int r)) (encM G s1) := by
  refine xMet.of (by decide +kernel) (Nat.le_of_ble_eq_true rfl) ?_
  rintro ⟨M, G', dom', n'⟩ e1 R e3 e4 e5 C
  change G' = G at e3; change dom' = mdom at e4; change n' = 3 at e5
  subst e3; subst e4; subst e5
  exact t9_isOf C R h
theorem k9_128 {M : xM} {G : xG} {n : Nat} {rv : Option Value} {E' : xE} {cc : ByteArray} {ret : Option FieldType} {pc : Nat} {ls : List (Nat × Value)} {st : List Value} {N : Nat} {p1 : Int32} {p2 : Int32} {s s1 : mS} {r : Int32} (C : xC (M, G, mdom, n) RX9 cc ret) (d : decode cc pc = .ok (.invokevirtual 128, 3)) (h : f9_isOf N p1 p2 s = some (r, s1)) (hR : (xrm 1 22).frames + 1 ≤ (xR (M, G, mdom, n)).frames ∧ 8 + (3 + 11) + (xrm 1 22).locals ≤ (xR (M, G, mdom, n)).locals) (hw : (st.map fun v => v.category).sum ≤ 8) (k : X (M, G, mdom, n) rv E' (encM G s1) (pc + 3) ls (.int r :: st)) : X (M, G, mdom, n) rv E' (encM G s) pc ls (.int (p2) :: .int (p1) :: .ref (G.2.1 0 0) :: st) :=
  x_callV (As := [.int (p1), .int (p2)]) (n := 2) C d (c9_isOf (xl (M, G, mdom, n)) G h) lk946 lk948 lk72 lk87 lk949 ⟨rfl, rfl⟩ ⟨by decide +kernel, by decide +kernel, by decide +kernel⟩ rfl hR rfl rfl rfl rfl hw k
set_option maxRecDepth 100000 in
theorem t9_covered_l64b {M : xM} {G : xG} {N : Nat} {p1 : Int32} (C : xC (M, G, mdom, 5) RX9 cX9_covered (some .int)) (R : xR (M, G, mdom, 5) = xrm 2 44) {k44 : Int32 → mS → Option (Int32 × mS)} (hk44 : ∀ (a2 : Int32) (s : mS) (r : Int32) (s1 : mS), k44 a2 s = some (r, s1) → X (M, G, mdom, 5) (some (.int r)) (encM G s1) (encM G s) 44 [(0, .ref (G.2.1 0 0)), (1, .int (p1)), (2, .int (a2))] []) {k64 : Int32 → Int32 → Int32 → mS → Option (Int32 × mS)} (hk64 : ∀ (a2 : Int32) (a3 : Int32) (a4 : Int32) (s : mS) (r : Int32) (s1 : mS), k64 a2 a3 a4 s = some (r, s1) → X (M, G, mdom, 5) (some (.int r)) (encM G s1) (encM G s) 64 [(0, .ref (G.2.1 0 0)), (1, .int (p1)), (2, .int (a2)), (3, .int (a3)), (4, .int (a4))] []) {a2 : Int32} {a3 : Int32} {a4 : Int32} {s : mS} {r : Int32} {s1 : mS} (h : f9_covered_l64b N p1 k44 k64 a2 a3 a4 s = some (r, s1)) : X (M, G, mdom, 5) (some (.int r)) (encM G s1) (encM G s) 64 [(0, .ref (G.2.1 0 0)), (1, .int (p1)), (2, .int (a2)), (3, .int (a3)), (4, .int (a4))] [] := by
  unfold f9_covered_l64b at h
  refine x_iload (j := 4) C dX9_covered_64 rfl ?_
  refine x_aload_n (j := 0) C dX9_covered_66 rfl rfl ?_
  refine gf9_7 C dX9_covered_67 ?_
  refine x_bipush (v := 10) C dX9_covered_70 (by decide) ?_
  refine x_iload_n (j := 1) C dX9_covered_72 rfl rfl ?_
  refine x_iadd C dX9_covered_73 ?_
  by_cases g74_1 : inB (10 + p1) 530 = true
  case neg => rw [if_neg g74_1] at h; cases h
  rw [if_pos g74_1] at h
  refine mld1 C dX9_covered_74 g74_1 ?_
  refine x_icmp_ge (tgt := 94) C dX9_covered_75 (by decide) (fun c75 => ?_) (fun c75 => ?_)
  · rw [if_pos c75] at h
    refine x_aload_n (j := 0) C dX9_covered_94 rfl rfl ?_
    refine x_aload_n (j := 0) C dX9_covered_95 rfl rfl ?_
    refine x_iload_n (j := 1) C dX9_covered_96 rfl rfl ?_
    refine x_iload_n (j := 2) C dX9_covered_97 rfl rfl ?_
    obtain ⟨⟨r98, s98⟩, e98, h⟩ := Option.bind_eq_some_iff.mp h
    try dsimp only at h
    refine k9_128 C dX9_covered_98 e98 (x_room R rfl) (Nat.le_of_ble_eq_true rfl) ?_
    refine x_iconst (v := 0) C dX9_covered_101 (by decide) ?_
    refine x_iload_n (j := 3) C dX9_covered_102 rfl rfl ?_
    obtain ⟨⟨r103, s103⟩, e103, h⟩ := Option.bind_eq_some_iff.mp h
    try dsimp only at h
    refine k9_64 C dX9_covered_103 e103 (x_room R rfl) (Nat.le_of_ble_eq_true rfl) ?_
    refine x_if_ne (tgt := 111) C dX9_covered_106 (by decide) (fun c106 => ?_) (fun c106 => ?_)
    · rw [if_neg c106] at h
      refine x_iinc (j := 2) (v := (a2 + 1)) (ls' := [(2, .int ((a2 + 1))), (0, .ref (G.2.1 0 0)), (1, .int (p1)), (3, .int (a3)), (4, .int (a4))]) C dX9_covered_111 rfl rfl (Nat.le_of_ble_eq_true rfl) rfl ?_
      refine x_goto (tgt := 44) C dX9_covered_114 (by decide) ?_
      refine x_sub (ls' := [(0, .ref (G.2.1 0 0)), (1, .int (p1)), (2, .int ((a2 + 1)))]) [1, 2, 0] rfl ?_
      exact hk44 _ _ _ _ h
    · rw [if_pos c106] at h
      refine x_iload_n (j := 2) C dX9_covered_109 rfl rfl ?_
      cases h
      exact x_iret C dX9_covered_110
  · rw [if_neg c75] at h
    refine x_iload_n (j := 3) C dX9_covered_78 rfl rfl ?_
    refine x_aload_n (j := 0) C dX9_covered_79 rfl rfl ?_
    refine x_iload_n (j := 1) C dX9_covered_80 rfl rfl ?_
    refine x_iload (j := 4) C dX9_covered_81 rfl ?_
    obtain ⟨⟨r83, s83⟩, e83, h⟩ := Option.bind_eq_some_iff.mp h
    try dsimp only at h
    refine k9_128 C dX9_covered_83 e83 (x_room R rfl) (Nat.le_of_ble_eq_true rfl) ?_
    refine x_iadd C dX9_covered_86 ?_
    refine x_istore_n (i := 3) (ls' := [(3, .int ((a3 + r83))), (0, .ref (G.2.1 0 0)), (1, .int (p1)), (2, .int (a2)), (4, .int (a4))]) C dX9_covered_87 rfl (Nat.le_of_ble_eq_true rfl) rfl ?_
    refine x_iinc (j := 4) (v := (a4 + 1)) (ls' := [(4, .int ((a4 + 1))), (3, .int ((a3 + r83))), (0, .ref (G.2.1 0 0)), (1, .int (p1)), (2, .int (a2))]) C dX9_covered_88 rfl rfl (Nat.le_of_ble_eq_true rfl) rfl ?_
    refine x_goto (tgt := 64) C dX9_covered_91 (by decide) ?_
    refine x_sub (ls' := [(0, .ref (G.2.1 0 0)), (1, .int (p1)), (2, .int (a2)), (3, .int ((a3 + r83))), (4, .int ((a4 + 1)))]) [2, 3, 4, 1, 0] rfl ?_
    exact hk64 _ _ _ _ _ _ h
theorem t9_covered_l64 {M : xM} {G : xG} {N : Nat} {p1 : Int32} (C : xC (M, G, mdom, 5) RX9 cX9_covered (some .int)) (R : xR (M, G, mdom, 5) = xrm 2 44) {k44 : Int32 → mS → Option (Int32 × mS)} (hk44 : ∀ (a2 : Int32) (s : mS) (r : Int32) (s1 : mS), k44 a2 s = some (r, s1) → X (M, G, mdom, 5) (some (.int r)) (encM G s1) (encM G s) 44 [(0, .ref (G.2.1 0 0)), (1, .int (p1)), (2, .int (a2))] []) (n : Nat) : ∀ (a2 : Int32) (a3 : Int32) (a4 : Int32) (s : mS) (r : Int32) (s1 : mS), f9_covered_l64 N p1 k44 n a2 a3 a4 s = some (r, s1) → X (M, G, mdom, 5) (some (.int r)) (encM G s1) (encM G s) 64 [(0, .ref (G.2.1 0 0)), (1, .int (p1)), (2, .int (a2)), (3, .int (a3)), (4, .int (a4))] [] := by
  induction n with
  | zero => intro a2 a3 a4 s r s1 h; exact (Option.some_ne_none _ (Eq.symm h)).elim
  | succ n ih => intro a2 a3 a4 s r s1 h; exact t9_covered_l64b (N := N) (p1 := p1) C R hk44 (k64 := f9_covered_l64 N p1 k44 n) ih h
set_option maxRecDepth 100000 in
theorem t9_covered_l44b {M : xM} {G : xG} {N : Nat} {p1 : Int32} (C : xC (M, G, mdom, 5) RX9 cX9_covered (some .int)) (R : xR (M, G, mdom, 5) = xrm 2 44) {k44 : Int32 → mS → Option (Int32 × mS)} (hk44 : ∀ (a2 : Int32) (s : mS) (r : Int32) (s1 : mS), k44 a2 s = some (r, s1) → X (M, G, mdom, 5) (some (.int r)) (encM G s1) (encM G s) 44 [(0, .ref (G.2.1 0 0)), (1, .int (p1)), (2, .int (a2))] []) {a2 : Int32} {s : mS} {r : Int32} {s1 : mS} (h : f9_covered_l44b N p1 k44 a2 s = some (r, s1)) : X (M, G, mdom, 5) (some (.int r)) (encM G s1) (encM G s) 44 [(0, .ref (G.2.1 0 0)), (1, .int (p1)), (2, .int (a2))] [] := by
  unfold f9_covered_l44b at h
  refine x_iload_n (j := 2) C dX9_covered_44 rfl rfl ?_
  refine x_aload_n (j := 0) C dX9_covered_45 rfl rfl ?_
  refine gf9_7 C dX9_covered_46 ?_
  refine x_bipush (v := 10) C dX9_covered_49 (by decide) ?_
  refine x_iload_n (j := 1) C dX9_covered_51 rfl rfl ?_
  refine x_iadd C dX9_covered_52 ?_
  by_cases g53_1 : inB (10 + p1) 530 = true
  case neg => rw [if_neg g53_1] at h; cases h
  rw [if_pos g53_1] at h
  refine mld1 C dX9_covered_53 g53_1 ?_
  refine x_icmp_ge (tgt := 117) C dX9_covered_54 (by decide) (fun c54 => ?_) (fun c54 => ?_)
  · rw [if_pos c54] at h
    refine x_bipush (v := (-2)) C dX9_covered_117 (by decide) ?_
    cases h
    exact x_iret C dX9_covered_119
  · rw [if_neg c54] at h
    refine x_iconst (v := 1) C dX9_covered_57 (by decide) ?_
    refine x_istore_n (i := 3) (ls' := [(3, .int (1)), (0, .ref (G.2.1 0 0)), (1, .int (p1)), (2, .int (a2))]) C dX9_covered_58 rfl (Nat.le_of_ble_eq_true rfl) rfl ?_
    refine x_iload_n (j := 3) C dX9_covered_59 rfl rfl ?_
    refine x_iconst (v := 1) C dX9_covered_60 (by decide) ?_
    refine x_iadd C dX9_covered_61 ?_
    refine x_istore (i := 4) (ls' := [(4, .int ((a2 + 1))), (3, .int (1)), (0, .ref (G.2.1 0 0)), (1, .int (p1)), (2, .int (a2))]) C dX9_covered_62 (Nat.le_of_ble_eq_true rfl) rfl ?_
    refine x_sub (ls' := [(0, .ref (G.2.1 0 0)), (1, .int (p1)), (2, .int (a2)), (3, .int (1)), (4, .int ((a2 + 1)))]) [2, 3, 4, 1, 0] rfl ?_
    exact t9_covered_l64 (N := N) (p1 := p1) C R hk44 N _ _ _ _ _ _ h
theorem t9_covered_l44 {M : xM} {G : xG} {N : Nat} {p1 : Int32} (C : xC (M, G, mdom, 5) RX9 cX9_covered (some .int)) (R : xR (M, G, mdom, 5) = xrm 2 44) (n : Nat) : ∀ (a2 : Int32) (s : mS) (r : Int32) (s1 : mS), f9_covered_l44 N p1 n a2 s = some (r, s1) → X (M, G, mdom, 5) (some (.int r)) (encM G s1) (encM G s) 44 [(0, .ref (G.2.1 0 0)), (1, .int (p1)), (2, .int (a2))] [] := by
  induction n with
  | zero => intro a2 s r s1 h; exact (Option.some_ne_none _ (Eq.symm h)).elim
  | succ n ih => intro a2 s r s1 h; exact t9_covered_l44b (N := N) (p1 := p1) C R (k44 := f9_covered_l44 N p1 n) ih h
set_option maxRecDepth 100000 in
theorem t9_covered {M : xM} {G : xG} {N : Nat} {p1 : Int32} (C : xC (M, G, mdom, 5) RX9 cX9_covered (some .int)) (R : xR (M, G, mdom, 5) = xrm 2 44) {s : mS} {r : Int32} {s1 : mS} (h : f9_covered N p1 s = some (r, s1)) : X (M, G, mdom, 5) (some (.int r)) (encM G s1) (encM G s) 0 [(0, .ref (G.2.1 0 0)), (1, .int (p1))] [] := by
  unfold f9_covered at h
  refine x_aload_n (j := 0) C dX9_covered_0 rfl rfl ?_
  refine x_iconst (v := 0) C dX9_covered_1 (by decide) ?_
  refine pf9_47 C dX9_covered_2 ?_
  refine x_aload_n (j := 0) C dX9_covered_5 rfl rfl ?_
  refine x_iload_n (j := 1) C dX9_covered_6 rfl rfl ?_
  obtain ⟨⟨r7, s7⟩, e7, h⟩ := Option.bind_eq_some_iff.mp h
  try dsimp only at h
  refine k9_68 C dX9_covered_7 e7 (x_room R rfl) (Nat.le_of_ble_eq_true rfl) ?_
  refine x_if_ne (tgt := 19) C dX9_covered_10 (by decide) (fun c10 => ?_) (fun c10 => ?_)
  · rw [if_neg c10] at h
    refine x_aload_n (j := 0) C dX9_covered_19 rfl rfl ?_
    refine gf9_7 C dX9_covered_20 ?_
    refine x_iconst (v := 2) C dX9_covered_23 (by decide) ?_
    refine x_iload_n (j := 1) C dX9_covered_24 rfl rfl ?_
    refine x_iadd C dX9_covered_25 ?_
    by_cases g26_1 : inB (2 + p1) 530 = true
    case neg => rw [if_neg g26_1] at h; cases h
    rw [if_pos g26_1] at h
    refine mld1 C dX9_covered_26 g26_1 ?_
    refine x_iconst (v := 2) C dX9_covered_27 (by decide) ?_
    refine x_icmp_eq (tgt := 37) C dX9_covered_28 (by decide) (fun c28 => ?_) (fun c28 => ?_)
    · rw [if_pos c28] at h
      refine x_aload_n (j := 0) C dX9_covered_37 rfl rfl ?_
      refine x_iconst (v := 0) C dX9_covered_38 (by decide) ?_
      refine pf9_51 C dX9_covered_39 ?_
      refine x_iconst (v := 0) C dX9_covered_42 (by decide) ?_
      refine x_istore_n (i := 2) (ls' := [(2, .int (0)), (0, .ref (G.2.1 0 0)), (1, .int (p1))]) C dX9_covered_43 rfl (Nat.le_of_ble_eq_true rfl) rfl ?_
      refine x_sub (ls' := [(0, .ref (G.2.1 0 0)), (1, .int (p1)), (2, .int (0))]) [1, 2, 0] rfl ?_
      exact t9_covered_l44 (N := N) (p1 := p1) C R N _ _ _ _ h
    · rw [if_neg c28] at h
      refine x_aload_n (j := 0) C dX9_covered_31 rfl rfl ?_
      refine x_iconst (v := 4) C dX9_covered_32 (by decide) ?_
      obtain ⟨⟨r33, s33⟩, e33, h⟩ := Option.bind_eq_some_iff.mp h
      try dsimp only at h
      refine k9_78 C dX9_covered_33 e33 (x_room R rfl) (Nat.le_of_ble_eq_true rfl) ?_
      cases h
      exact x_iret C dX9_covered_36
  · rw [if_pos c10] at h
    refine x_aload_n (j := 0) C dX9_covered_13 rfl rfl ?_
    refine x_iconst (v := 2) C dX9_covered_14 (by decide) ?_
    obtain ⟨⟨r15, s15⟩, e15, h⟩ := Option.bind_eq_some_iff.mp h
    try dsimp only at h
    refine k9_78 C dX9_covered_15 e15 (x_room R rfl) (Nat.le_of_ble_eq_true rfl) ?_
    cases h
    exact x_iret C dX9_covered_18
theorem c9_covered (l : Launch) (G : xG) {N : Nat} {p1 : Int32} {s : mS} {r : Int32} {s1 : mS} (h : f9_covered N p1 s = some (r, s1)) : xMet l yX9_covered (x_ws yX9_covered cX9_covered 5 (some .int)) (xrm 2 44) G mdom [.ref (G.2.1 0 0), .int (p1)] (encM G s) (some (.int r)) (encM G s1) := by
  refine xMet.of (by decide +kernel) (Nat.le_of_ble_eq_true rfl) ?_
  rintro ⟨M, G', dom', n'⟩ e1 R e3 e4 e5 C
  change G' = G at e3; change dom' = mdom at e4; change n' = 5 at e5
  subst e3; subst e4; subst e5
  exact t9_covered C R h
set_option maxRecDepth 100000 in
theorem t9_tail_l110b {M : xM} {G : xG} {N : Nat} {p1 : Int32} (C : xC (M, G, mdom, 7) RX9 cX9_tail (some .int)) (R : xR (M, G, mdom, 7) = xrm 3 75) {k110 : Int32 → Int32 → Int32 → mS → Option (Int32 × mS)} (hk110 : ∀ (a3 : Int32) (a4 : Int32) (a5 : Int32) (s : mS) (r : Int32) (s1 : mS), k110 a3 a4 a5 s = some (r, s1) → X (M, G, mdom, 7) (some (.int r)) (encM G s1) (encM G s) 110 [(0, .ref (G.2.1 0 0)), (1, .int (p1)), (3, .int (a3)), (4, .int (a4)), (5, .int (a5))] []) {a3 : Int32} {a4 : Int32} {a5 : Int32} {s : mS} {r : Int32} {s1 : mS} (h : f9_tail_l110b N p1 k110 a3 a4 a5 s = some (r, s1)) : X (M, G, mdom, 7) (some (.int r)) (encM G s1) (encM G s) 110 [(0, .ref (G.2.1 0 0)), (1, .int (p1)), (3, .int (a3)), (4, .int (a4)), (5, .int (a5))] [] := by
  unfold f9_tail_l110b at h
  refine x_iload (j := 4) C dX9_tail_110 rfl ?_
  refine x_iload_n (j := 2) C dX9_tail_112 rfl rfl ?_
  refine x_icmp_gt (tgt := 150) C dX9_tail_113 (by decide) (fun c113 => ?_) (fun c113 => ?_)
  · rw [if_pos c113] at h
    refine x_iload (j := 3) C dX9_tail_150 rfl ?_
    cases h
    exact x_iret C dX9_tail_152
  · rw [if_neg c113] at h
    refine x_iload (j := 4) C dX9_tail_116 rfl ?_
    refine x_aload_n (j := 0) C dX9_tail_118 rfl rfl ?_
    refine x_iload_n (j := 1) C dX9_tail_119 rfl rfl ?_
    refine x_iload (j := 4) C dX9_tail_120 rfl ?_
    obtain ⟨⟨r122, s122⟩, e122, h⟩ := Option.bind_eq_some_iff.mp h
    try dsimp only at h
    refine k9_110 C dX9_tail_122 e122 (x_room R rfl) (Nat.le_of_ble_eq_true rfl) ?_
    refine x_isub C dX9_tail_125 ?_
    refine x_istore (i := 6) (ls' := [(6, .int ((a5 - r122))), (0, .ref (G.2.1 0 0)), (1, .int (p1)), (3, .int (a3)), (4, .int (a4)), (5, .int (a5))]) C dX9_tail_126 (Nat.le_of_ble_eq_true rfl) rfl ?_
    refine x_iload (j := 0) C dX9_tail_128 rfl ?_
    refine x_iload (j := 4) C dX9_tail_130 rfl ?_
    refine x_icmp_le (tgt := 140) C dX9_tail_132 (by decide) (fun c132 => ?_) (fun c132 => ?_)
    · rw [if_pos c132] at h
      refine x_iload (j := 4) C dX9_tail_140 rfl ?_
      refine x_istore (i := 4) (ls' := [(4, .int (a4)), (6, .int ((a5 - r122))), (0, .ref (G.2.1 0 0)), (1, .int (p1)), (3, .int (a3)), (5, .int (a5))]) C dX9_tail_142 (Nat.le_of_ble_eq_true rfl) rfl ?_
      refine x_iinc (j := 5) (v := (a5 + 1)) (ls' := [(5, .int ((a5 + 1))), (4, .int (a4)), (6, .int ((a5 - r122))), (0, .ref (G.2.1 0 0)), (1, .int (p1)), (3, .int (a3))]) C dX9_tail_144 rfl rfl (Nat.le_of_ble_eq_true rfl) rfl ?_
      refine x_goto (tgt := 110) C dX9_tail_147 (by decide) ?_
      refine x_sub (ls' := [(0, .ref (G.2.1 0 0)), (1, .int (p1)), (3, .int (a3)), (4, .int (a4)), (5, .int ((a5 + 1)))]) [3, 4, 5, 1, 0] rfl ?_
      exact hk110 _ _ _ _ _ _ h
    · rw [if_neg c132] at h
      refine x_iload (j := 0) C dX9_tail_135 rfl ?_
      refine x_goto (tgt := 142) C dX9_tail_137 (by decide) ?_
      refine x_istore (i := 4) (ls' := [(4, .int ((a5 - r122))), (6, .int ((a5 - r122))), (0, .ref (G.2.1 0 0)), (1, .int (p1)), (3, .int (a3)), (5, .int (a5))]) C dX9_tail_142 (Nat.le_of_ble_eq_true rfl) rfl ?_
      refine x_iinc (j := 5) (v := (a5 + 1)) (ls' := [(5, .int ((a5 + 1))), (4, .int ((a5 - r122))), (6, .int ((a5 - r122))), (0, .ref (G.2.1 0 0)), (1, .int (p1)), (3, .int (a3))]) C dX9_tail_144 rfl rfl (Nat.le_of_ble_eq_true rfl) rfl ?_
      refine x_goto (tgt := 110) C dX9_tail_147 (by decide) ?_
      refine x_sub (ls' := [(0, .ref (G.2.1 0 0)), (1, .int (p1)), (3, .int (a3)), (4, .int ((a5 - r122))), (5, .int ((a5 + 1)))]) [3, 4, 5, 1, 0] rfl ?_
      exact hk110 _ _ _ _ _ _ h
theorem t9_tail_l110 {M : xM} {G : xG} {N : Nat} {p1 : Int32} (C : xC (M, G, mdom, 7) RX9 cX9_tail (some .int)) (R : xR (M, G, mdom, 7) = xrm 3 75) (n : Nat) : ∀ (a3 : Int32) (a4 : Int32) (a5 : Int32) (s : mS) (r : Int32) (s1 : mS), f9_tail_l110 N p1 n a3 a4 a5 s = some (r, s1) → X (M, G, mdom, 7) (some (.int r)) (encM G s1) (encM G s) 110 [(0, .ref (G.2.1 0 0)), (1, .int (p1)), (3, .int (a3)), (4, .int (a4)), (5, .int (a5))] [] := by
  induction n with
  | zero => intro a3 a4 a5 s r s1 h; exact (Option.some_ne_none _ (Eq.symm h)).elim
  | succ n ih => intro a3 a4 a5 s r s1 h; exact t9_tail_l110b (N := N) (p1 := p1) C R (k110 := f9_tail_l110 N p1 n) ih h
set_option maxRecDepth 100000 in
theorem t9_tail_l46b {M : xM} {G : xG} {N : Nat} {p1 : Int32} (C : xC (M, G, mdom, 7) RX9 cX9_tail (some .int)) (R : xR (M, G, mdom, 7) = xrm 3 75) {k46 : Int32 → Int32 → mS → Option (Int32 × mS)} (hk46 : ∀ (a2 : Int32) (a3 : Int32) (s : mS) (r : Int32) (s1 : mS), k46 a2 a3 s = some (r, s1) → X (M, G, mdom, 7) (some (.int r)) (encM G s1) (encM G s) 46 [(0, .ref (G.2.1 0 0)), (1, .int (p1)), (2, .int (a2)), (3, .int (a3))] []) {a2 : Int32} {a3 : Int32} {s : mS} {r : Int32} {s1 : mS} (h : f9_tail_l46b N p1 k46 a2 a3 s = some (r, s1)) : X (M, G, mdom, 7) (some (.int r)) (encM G s1) (encM G s) 46 [(0, .ref (G.2.1 0 0)), (1, .int (p1)), (2, .int (a2)), (3, .int (a3))] [] := by
  unfold f9_tail_l46b at h
  refine x_iload_n (j := 3) C dX9_tail_46 rfl rfl ?_
  refine x_aload_n (j := 0) C dX9_tail_47 rfl rfl ?_
  refine gf9_7 C dX9_tail_48 ?_
  refine x_bipush (v := 10) C dX9_tail_51 (by decide) ?_
  refine x_iload_n (j := 1) C dX9_tail_53 rfl rfl ?_
  refine x_iadd C dX9_tail_54 ?_
  by_cases g55_1 : inB (10 + p1) 530 = true
  case neg => rw [if_neg g55_1] at h; cases h
  rw [if_pos g55_1] at h
  refine mld1 C dX9_tail_55 g55_1 ?_
  refine x_icmp_ge (tgt := 74) C dX9_tail_56 (by decide) (fun c56 => ?_) (fun c56 => ?_)
  · rw [if_pos c56] at h
    refine x_iload_n (j := 2) C dX9_tail_74 rfl rfl ?_
    refine x_if_ge (tgt := 82) C dX9_tail_75 (by decide) (fun c75 => ?_) (fun c75 => ?_)
    · rw [if_pos c75] at h
      refine x_iload_n (j := 2) C dX9_tail_82 rfl rfl ?_
      refine x_aload_n (j := 0) C dX9_tail_83 rfl rfl ?_
      refine gf9_7 C dX9_tail_84 ?_
      refine x_iconst (v := 0) C dX9_tail_87 (by decide) ?_
      refine mld1 C dX9_tail_88 (by decide) ?_
      refine x_icmp_ge (tgt := 96) C dX9_tail_89 (by decide) (fun c89 => ?_) (fun c89 => ?_)
      · rw [if_pos c89] at h
        refine x_aload_n (j := 0) C dX9_tail_96 rfl rfl ?_
        refine gf9_7 C dX9_tail_97 ?_
        refine x_iconst (v := 0) C dX9_tail_100 (by decide) ?_
        refine mld1 C dX9_tail_101 (by decide) ?_
        refine x_istore_n (i := 3) (ls' := [(3, .int ((s 0 ((0 : Int32).toNatClampNeg)))), (0, .ref (G.2.1 0 0)), (1, .int (p1)), (2, .int (a2))]) C dX9_tail_102 rfl (Nat.le_of_ble_eq_true rfl) rfl ?_
        refine x_ldc (v := (-2147483648)) C dX9_tail_103 lk885 ?_
        refine x_istore (i := 4) (ls' := [(4, .int ((-2147483648))), (3, .int ((s 0 ((0 : Int32).toNatClampNeg)))), (0, .ref (G.2.1 0 0)), (1, .int (p1)), (2, .int (a2))]) C dX9_tail_105 (Nat.le_of_ble_eq_true rfl) rfl ?_
        refine x_iconst (v := 0) C dX9_tail_107 (by decide) ?_
        refine x_istore (i := 5) (ls' := [(5, .int (0)), (4, .int ((-2147483648))), (3, .int ((s 0 ((0 : Int32).toNatClampNeg)))), (0, .ref (G.2.1 0 0)), (1, .int (p1)), (2, .int (a2))]) C dX9_tail_108 (Nat.le_of_ble_eq_true rfl) rfl ?_
        refine x_sub (ls' := [(0, .ref (G.2.1 0 0)), (1, .int (p1)), (3, .int ((s 0 ((0 : Int32).toNatClampNeg)))), (4, .int ((-2147483648))), (5, .int (0))]) [3, 4, 2, 1, 0] rfl ?_
        exact t9_tail_l110 (N := N) (p1 := p1) C R N _ _ _ _ _ _ h
      · rw [if_neg c89] at h
        refine x_iload_n (j := 2) C dX9_tail_92 rfl rfl ?_
        refine x_goto (tgt := 102) C dX9_tail_93 (by decide) ?_
        refine x_istore_n (i := 3) (ls' := [(3, .int (a2)), (0, .ref (G.2.1 0 0)), (1, .int (p1)), (2, .int (a2))]) C dX9_tail_102 rfl (Nat.le_of_ble_eq_true rfl) rfl ?_
        refine x_ldc (v := (-2147483648)) C dX9_tail_103 lk885 ?_
        refine x_istore (i := 4) (ls' := [(4, .int ((-2147483648))), (3, .int (a2)), (0, .ref (G.2.1 0 0)), (1, .int (p1)), (2, .int (a2))]) C dX9_tail_105 (Nat.le_of_ble_eq_true rfl) rfl ?_
        refine x_iconst (v := 0) C dX9_tail_107 (by decide) ?_
        refine x_istore (i := 5) (ls' := [(5, .int (0)), (4, .int ((-2147483648))), (3, .int (a2)), (0, .ref (G.2.1 0 0)), (1, .int (p1)), (2, .int (a2))]) C dX9_tail_108 (Nat.le_of_ble_eq_true rfl) rfl ?_
        refine x_sub (ls' := [(0, .ref (G.2.1 0 0)), (1, .int (p1)), (3, .int (a2)), (4, .int ((-2147483648))), (5, .int (0))]) [3, 4, 2, 1, 0] rfl ?_
        exact t9_tail_l110 (N := N) (p1 := p1) C R N _ _ _ _ _ _ h
    · rw [if_neg c75] at h
      refine x_iconst (v := 0) C dX9_tail_78 (by decide) ?_
      refine x_goto (tgt := 102) C dX9_tail_79 (by decide) ?_
      refine x_istore_n (i := 3) (ls' := [(3, .int (0)), (0, .ref (G.2.1 0 0)), (1, .int (p1)), (2, .int (a2))]) C dX9_tail_102 rfl (Nat.le_of_ble_eq_true rfl) rfl ?_
      refine x_ldc (v := (-2147483648)) C dX9_tail_103 lk885 ?_
      refine x_istore (i := 4) (ls' := [(4, .int ((-2147483648))), (3, .int (0)), (0, .ref (G.2.1 0 0)), (1, .int (p1)), (2, .int (a2))]) C dX9_tail_105 (Nat.le_of_ble_eq_true rfl) rfl ?_
      refine x_iconst (v := 0) C dX9_tail_107 (by decide) ?_
      refine x_istore (i := 5) (ls' := [(5, .int (0)), (4, .int ((-2147483648))), (3, .int (0)), (0, .ref (G.2.1 0 0)), (1, .int (p1)), (2, .int (a2))]) C dX9_tail_108 (Nat.le_of_ble_eq_true rfl) rfl ?_
      refine x_sub (ls' := [(0, .ref (G.2.1 0 0)), (1, .int (p1)), (3, .int (0)), (4, .int ((-2147483648))), (5, .int (0))]) [3, 4, 2, 1, 0] rfl ?_
      exact t9_tail_l110 (N := N) (p1 := p1) C R N _ _ _ _ _ _ h
  · rw [if_neg c56] at h
    refine x_iload_n (j := 2) C dX9_tail_59 rfl rfl ?_
    refine x_aload_n (j := 0) C dX9_tail_60 rfl rfl ?_
    refine x_iload_n (j := 1) C dX9_tail_61 rfl rfl ?_
    refine x_iload_n (j := 3) C dX9_tail_62 rfl rfl ?_
    obtain ⟨⟨r63, s63⟩, e63, h⟩ := Option.bind_eq_some_iff.mp h
    try dsimp only at h
    refine k9_128 C dX9_tail_63 e63 (x_room R rfl) (Nat.le_of_ble_eq_true rfl) ?_
    refine x_iadd C dX9_tail_66 ?_
    refine x_istore_n (i := 2) (ls' := [(2, .int ((a2 + r63))), (0, .ref (G.2.1 0 0)), (1, .int (p1)), (3, .int (a3))]) C dX9_tail_67 rfl (Nat.le_of_ble_eq_true rfl) rfl ?_
    refine x_iinc (j := 3) (v := (a3 + 1)) (ls' := [(3, .int ((a3 + 1))), (2, .int ((a2 + r63))), (0, .ref (G.2.1 0 0)), (1, .int (p1))]) C dX9_tail_68 rfl rfl (Nat.le_of_ble_eq_true rfl) rfl ?_
    refine x_goto (tgt := 46) C dX9_tail_71 (by decide) ?_
    refine x_sub (ls' := [(0, .ref (G.2.1 0 0)), (1, .int (p1)), (2, .int ((a2 + r63))), (3, .int ((a3 + 1)))]) [2, 3, 1, 0] rfl ?_
    exact hk46 _ _ _ _ _ h
theorem t9_tail_l46 {M : xM} {G : xG} {N : Nat} {p1 : Int32} (C : xC (M, G, mdom, 7) RX9 cX9_tail (some .int)) (R : xR (M, G, mdom, 7) = xrm 3 75) (n : Nat) : ∀ (a2 : Int32) (a3 : Int32) (s : mS) (r : Int32) (s1 : mS), f9_tail_l46 N p1 n a2 a3 s = some (r, s1) → X (M, G, mdom, 7) (some (.int r)) (encM G s1) (encM G s) 46 [(0, .ref (G.2.1 0 0)), (1, .int (p1)), (2, .int (a2)), (3, .int (a3))] [] := by
  induction n with
  | zero => intro a2 a3 s r s1 h; exact (Option.some_ne_none _ (Eq.symm h)).elim
  | succ n ih => intro a2 a3 s r s1 h; exact t9_tail_l46b (N := N) (p1 := p1) C R (k46 := f9_tail_l46 N p1 n) ih h
set_option maxRecDepth 100000 in
theorem t9_tail {M : xM} {G : xG} {N : Nat} {p1 : Int32} (C : xC (M, G, mdom, 7) RX9 cX9_tail (some .int)) (R : xR (M, G, mdom, 7) = xrm 3 75) {s : mS} {r : Int32} {s1 : mS} (h : f9_tail N p1 s = some (r, s1)) : X (M, G, mdom, 7) (some (.int r)) (encM G s1) (encM G s) 0 [(0, .ref (G.2.1 0 0)), (1, .int (p1))] [] := by
  unfold f9_tail at h
  refine x_aload_n (j := 0) C dX9_tail_0 rfl rfl ?_
  refine x_iconst (v := 0) C dX9_tail_1 (by decide) ?_
  refine pf9_47 C dX9_tail_2 ?_
  refine x_aload_n (j := 0) C dX9_tail_5 rfl rfl ?_
  refine x_iload_n (j := 1) C dX9_tail_6 rfl rfl ?_
  obtain ⟨⟨r7, s7⟩, e7, h⟩ := Option.bind_eq_some_iff.mp h
  try dsimp only at h
  refine k9_68 C dX9_tail_7 e7 (x_room R rfl) (Nat.le_of_ble_eq_true rfl) ?_
  refine x_if_ne (tgt := 19) C dX9_tail_10 (by decide) (fun c10 => ?_) (fun c10 => ?_)
  · rw [if_neg c10] at h
    refine x_aload_n (j := 0) C dX9_tail_19 rfl rfl ?_
    refine gf9_7 C dX9_tail_20 ?_
    refine x_iconst (v := 2) C dX9_tail_23 (by decide) ?_
    refine x_iload_n (j := 1) C dX9_tail_24 rfl rfl ?_
    refine x_iadd C dX9_tail_25 ?_
    by_cases g26_1 : inB (2 + p1) 530 = true
    case neg => rw [if_neg g26_1] at h; cases h
    rw [if_pos g26_1] at h
    refine mld1 C dX9_tail_26 g26_1 ?_
    refine x_iconst (v := 2) C dX9_tail_27 (by decide) ?_
    refine x_icmp_eq (tgt := 37) C dX9_tail_28 (by decide) (fun c28 => ?_) (fun c28 => ?_)
    · rw [if_pos c28] at h
      refine x_aload_n (j := 0) C dX9_tail_37 rfl rfl ?_
      refine x_iconst (v := 0) C dX9_tail_38 (by decide) ?_
      refine pf9_51 C dX9_tail_39 ?_
      refine x_iconst (v := 0) C dX9_tail_42 (by decide) ?_
      refine x_istore_n (i := 2) (ls' := [(2, .int (0)), (0, .ref (G.2.1 0 0)), (1, .int (p1))]) C dX9_tail_43 rfl (Nat.le_of_ble_eq_true rfl) rfl ?_
      refine x_iconst (v := 0) C dX9_tail_44 (by decide) ?_
      refine x_istore_n (i := 3) (ls' := [(3, .int (0)), (2, .int (0)), (0, .ref (G.2.1 0 0)), (1, .int (p1))]) C dX9_tail_45 rfl (Nat.le_of_ble_eq_true rfl) rfl ?_
      refine x_sub (ls' := [(0, .ref (G.2.1 0 0)), (1, .int (p1)), (2, .int (0)), (3, .int (0))]) [2, 3, 1, 0] rfl ?_
      exact t9_tail_l46 (N := N) (p1 := p1) C R N _ _ _ _ _ h
    · rw [if_neg c28] at h
      refine x_aload_n (j := 0) C dX9_tail_31 rfl rfl ?_
      refine x_iconst (v := 4) C dX9_tail_32 (by decide) ?_
      obtain ⟨⟨r33, s33⟩, e33, h⟩ := Option.bind_eq_some_iff.mp h
      try dsimp only at h
      refine k9_78 C dX9_tail_33 e33 (x_room R rfl) (Nat.le_of_ble_eq_true rfl) ?_
      cases h
      exact x_iret C dX9_tail_36
  · rw [if_pos c10] at h
    refine x_aload_n (j := 0) C dX9_tail_13 rfl rfl ?_
    refine x_iconst (v := 2) C dX9_tail_14 (by decide) ?_
    obtain ⟨⟨r15, s15⟩, e15, h⟩ := Option.bind_eq_some_iff.mp h
    try dsimp only at h
    refine k9_78 C dX9_tail_15 e15 (x_room R rfl) (Nat.le_of_ble_eq_true rfl) ?_
    cases h
    exact x_iret C dX9_tail_18
theorem c9_tail (l : Launch) (G : xG) {N : Nat} {p1 : Int32} {s : mS} {r : Int32} {s1 : mS} (h : f9_tail N p1 s = some (r, s1)) : xMet l yX9_tail (x_ws yX9_tail cX9_tail 7 (some .int)) (xrm 3 75) G mdom [.ref (G.2.1 0 0), .int (p1)] (encM G s) (some (.int r)) (encM G s1) := by
  refine xMet.of (by decide +kernel) (Nat.le_of_ble_eq_true rfl) ?_
  rintro ⟨M, G', dom', n'⟩ e1 R e3 e4 e5 C
  change G' = G at e3; change dom' = mdom at e4; change n' = 7 at e5
  subst e3; subst e4; subst e5
  exact t9_tail C R h
set_option maxRecDepth 100000 in
theorem t9_mend_l43b {M : xM} {G : xG} {N : Nat} {p1 : Int32} (C : xC (M, G, mdom, 3) RX9 cX9_mend (some .boolean)) (R : xR (M, G, mdom, 3) = xrm 2 44) {k43 : Int32 → mS → Option (Int32 × mS)} (hk43 : ∀ (a2 : Int32) (s : mS) (r : Int32) (s1 : mS), k43 a2 s = some (r, s1) → X (M, G, mdom, 3) (some (.int r)) (encM G s1) (encM G s) 43 [(0, .ref (G.2.1 0 0)), (1, .int (p1)), (2, .int (a2))] []) {a2 : Int32} {s : mS} {r : Int32} {s1 : mS} (h : f9_mend_l43b N p1 k43 a2 s = some (r, s1)) : X (M, G, mdom, 3) (some (.int r)) (encM G s1) (encM G s) 43 [(0, .ref (G.2.1 0 0)), (1, .int (p1)), (2, .int (a2))] [] := by
  unfold f9_mend_l43b at h
  refine x_iload_n (j := 2) C dX9_mend_43 rfl rfl ?_
  refine x_aload_n (j := 0) C dX9_mend_44 rfl rfl ?_
  refine gf9_7 C dX9_mend_45 ?_
  refine x_bipush (v := 10) C dX9_mend_48 (by decide) ?_
  refine x_iload_n (j := 1) C dX9_mend_50 rfl rfl ?_
  refine x_iadd C dX9_mend_51 ?_
  by_cases g52_1 : inB (10 + p1) 530 = true
  case neg => rw [if_neg g52_1] at h; cases h
  rw [if_pos g52_1] at h
  refine mld1 C dX9_mend_52 g52_1 ?_
  refine x_icmp_ge (tgt := 81) C dX9_mend_53 (by decide) (fun c53 => ?_) (fun c53 => ?_)
  · rw [if_pos c53] at h
    refine x_iconst (v := 1) C dX9_mend_81 (by decide) ?_
    cases h
    exact x_zret C dX9_mend_82 rfl
  · rw [if_neg c53] at h
    refine x_aload_n (j := 0) C dX9_mend_56 rfl rfl ?_
    refine gf9_7 C dX9_mend_57 ?_
    refine x_aload_n (j := 0) C dX9_mend_60 rfl rfl ?_
    refine x_iload_n (j := 1) C dX9_mend_61 rfl rfl ?_
    refine x_iload_n (j := 2) C dX9_mend_62 rfl rfl ?_
    obtain ⟨⟨r63, s63⟩, e63, h⟩ := Option.bind_eq_some_iff.mp h
    try dsimp only at h
    refine k9_85 C dX9_mend_63 e63 (x_room R rfl) (Nat.le_of_ble_eq_true rfl) ?_
    refine x_iconst (v := 2) C dX9_mend_66 (by decide) ?_
    refine x_iadd C dX9_mend_67 ?_
    refine x_aload_n (j := 0) C dX9_mend_68 rfl rfl ?_
    refine x_iload_n (j := 1) C dX9_mend_69 rfl rfl ?_
    refine x_iload_n (j := 2) C dX9_mend_70 rfl rfl ?_
    obtain ⟨⟨r71, s71⟩, e71, h⟩ := Option.bind_eq_some_iff.mp h
    try dsimp only at h
    refine k9_128 C dX9_mend_71 e71 (x_room R rfl) (Nat.le_of_ble_eq_true rfl) ?_
    by_cases g74_2 : inB (r63 + 2) 530 = true
    case neg => rw [if_neg g74_2] at h; cases h
    rw [if_pos g74_2] at h
    refine mst1 C dX9_mend_74 g74_2 ?_
    refine x_iinc (j := 2) (v := (a2 + 1)) (ls' := [(2, .int ((a2 + 1))), (0, .ref (G.2.1 0 0)), (1, .int (p1))]) C dX9_mend_75 rfl rfl (Nat.le_of_ble_eq_true rfl) rfl ?_
    refine x_goto (tgt := 43) C dX9_mend_78 (by decide) ?_
    refine x_sub (ls' := [(0, .ref (G.2.1 0 0)), (1, .int (p1)), (2, .int ((a2 + 1)))]) [1, 2, 0] rfl ?_
    exact hk43 _ _ _ _ h
theorem t9_mend_l43 {M : xM} {G : xG} {N : Nat} {p1 : Int32} (C : xC (M, G, mdom, 3) RX9 cX9_mend (some .boolean)) (R : xR (M, G, mdom, 3) = xrm 2 44) (n : Nat) : ∀ (a2 : Int32) (s : mS) (r : Int32) (s1 : mS), f9_mend_l43 N p1 n a2 s = some (r, s1) → X (M, G, mdom, 3) (some (.int r)) (encM G s1) (encM G s) 43 [(0, .ref (G.2.1 0 0)), (1, .int (p1)), (2, .int (a2))] [] := by
  induction n with
  | zero => intro a2 s r s1 h; exact (Option.some_ne_none _ (Eq.symm h)).elim
  | succ n ih => intro a2 s r s1 h; exact t9_mend_l43b (N := N) (p1 := p1) C R (k43 := f9_mend_l43 N p1 n) ih h
set_option maxRecDepth 100000 in
theorem t9_mend {M : xM} {G : xG} {N : Nat} {p1 : Int32} (C : xC (M, G, mdom, 3) RX9 cX9_mend (some .boolean)) (R : xR (M, G, mdom, 3) = xrm 2 44) {s : mS} {r : Int32} {s1 : mS} (h : f9_mend N p1 s = some (r, s1)) : X (M, G, mdom, 3) (some (.int r)) (encM G s1) (encM G s) 0 [(0, .ref (G.2.1 0 0)), (1, .int (p1))] [] := by
  unfold f9_mend at h
  refine x_aload_n (j := 0) C dX9_mend_0 rfl rfl ?_
  refine x_iconst (v := 0) C dX9_mend_1 (by decide) ?_
  refine pf9_47 C dX9_mend_2 ?_
  refine x_aload_n (j := 0) C dX9_mend_5 rfl rfl ?_
  refine x_iload_n (j := 1) C dX9_mend_6 rfl rfl ?_
  obtain ⟨⟨r7, s7⟩, e7, h⟩ := Option.bind_eq_some_iff.mp h
  try dsimp only at h
  refine k9_68 C dX9_mend_7 e7 (x_room R rfl) (Nat.le_of_ble_eq_true rfl) ?_
  refine x_if_ne (tgt := 19) C dX9_mend_10 (by decide) (fun c10 => ?_) (fun c10 => ?_)
  · rw [if_neg c10] at h
    refine x_aload_n (j := 0) C dX9_mend_19 rfl rfl ?_
    refine gf9_7 C dX9_mend_20 ?_
    refine x_iconst (v := 2) C dX9_mend_23 (by decide) ?_
    refine x_iload_n (j := 1) C dX9_mend_24 rfl rfl ?_
    refine x_iadd C dX9_mend_25 ?_
    by_cases g26_1 : inB (2 + p1) 530 = true
    case neg => rw [if_neg g26_1] at h; cases h
    rw [if_pos g26_1] at h
    refine mld1 C dX9_mend_26 g26_1 ?_
    refine x_iconst (v := 2) C dX9_mend_27 (by decide) ?_
    refine x_icmp_eq (tgt := 37) C dX9_mend_28 (by decide) (fun c28 => ?_) (fun c28 => ?_)
    · rw [if_pos c28] at h
      refine x_aload_n (j := 0) C dX9_mend_37 rfl rfl ?_
      obtain ⟨s38, e38, h⟩ := Option.bind_eq_some_iff.mp h
      try dsimp only at h
      refine k9_75 C dX9_mend_38 e38 (x_room R rfl) (Nat.le_of_ble_eq_true rfl) ?_
      refine x_iconst (v := 0) C dX9_mend_41 (by decide) ?_
      refine x_istore_n (i := 2) (ls' := [(2, .int (0)), (0, .ref (G.2.1 0 0)), (1, .int (p1))]) C dX9_mend_42 rfl (Nat.le_of_ble_eq_true rfl) rfl ?_
      refine x_sub (ls' := [(0, .ref (G.2.1 0 0)), (1, .int (p1)), (2, .int (0))]) [1, 2, 0] rfl ?_
      exact t9_mend_l43 (N := N) (p1 := p1) C R N _ _ _ _ h
    · rw [if_neg c28] at h
      refine x_aload_n (j := 0) C dX9_mend_31 rfl rfl ?_
      refine x_iconst (v := 4) C dX9_mend_32 (by decide) ?_
      obtain ⟨⟨r33, s33⟩, e33, h⟩ := Option.bind_eq_some_iff.mp h
      try dsimp only at h
      refine k9_72 C dX9_mend_33 e33 (x_room R rfl) (Nat.le_of_ble_eq_true rfl) ?_
      by_cases g : r33 = 0 ∨ r33 = 1
      · rw [if_pos g] at h; cases h; exact x_zret C dX9_mend_36 (nar01 g)
      · rw [if_neg g] at h; cases h
  · rw [if_pos c10] at h
    refine x_aload_n (j := 0) C dX9_mend_13 rfl rfl ?_
    refine x_iconst (v := 2) C dX9_mend_14 (by decide) ?_
    obtain ⟨⟨r15, s15⟩, e15, h⟩ := Option.bind_eq_some_iff.mp h
    try dsimp only at h
    refine k9_72 C dX9_mend_15 e15 (x_room R rfl) (Nat.le_of_ble_eq_true rfl) ?_
    by_cases g : r15 = 0 ∨ r15 = 1
    · rw [if_pos g] at h; cases h; exact x_zret C dX9_mend_18 (nar01 g)
    · rw [if_neg g] at h; cases h
theorem c9_mend (l : Launch) (G : xG) {N : Nat} {p1 : Int32} {s : mS} {r : Int32} {s1 : mS} (h : f9_mend N p1 s = some (r, s1)) : xMet l yX9_mend (x_ws yX9_mend cX9_mend 3 (some .boolean)) (xrm 2 44) G mdom [.ref (G.2.1 0 0), .int (p1)] (encM G s) (some (.int r)) (encM G s1) := by
  refine xMet.of (by decide +kernel) (Nat.le_of_ble_eq_true rfl) ?_
  rintro ⟨M, G', dom', n'⟩ e1 R e3 e4 e5 C
  change G' = G at e3; change dom' = mdom at e4; change n' = 3 at e5
  subst e3; subst e4; subst e5
  exact t9_mend C R h
set_option maxRecDepth 100000 in
theorem t9_count_b105 {M : xM} {G : xG} {N : Nat} {p1 : Int32} {p2 : Int32} {p3 : Int32} {p4 : Int32} {p5 : Int32} (C : xC (M, G, mdom, 9) RX9 cX9_count (some .int)) (R : xR (M, G, mdom, 9) = xrm 3 75) {k64 : Int32 → Int32 → Int32 → mS → Option (Int32 × mS)} (hk64 : ∀ (a6 : Int32) (a7 : Int32) (a8 : Int32) (s : mS) (r : Int32) (s1 : mS), k64 a6 a7 a8 s = some (r, s1) → X (M, G, mdom, 9) (some (.int r)) (encM G s1) (encM G s) 64 [(0, .ref (G.2.1 0 0)), (1, .int (p1)), (3, .int (p3)), (4, .int (p4)), (5, .int (p5)), (6, .int (a6)), (7, .int (a7)), (8, .int (a8))] []) {a6 : Int32} {a7 : Int32} {b0 : Int32} {s : mS} {r : Int32} {s1 : mS} (h : f9_count_b105 N p1 p2 p3 p4 p5 k64 a6 a7 b0 s = some (r, s1)) : X (M, G, mdom, 9) (some (.int r)) (encM G s1) (encM G s) 105 [(0, .ref (G.2.1 0 0)), (1, .int (p1)), (3, .int (p3)), (4, .int (p4)), (5, .int (p5)), (6, .int (a6)), (7, .int (a7))] [.int (b0)] := by
  unfold f9_count_b105 at h
  refine x_istore (i := 8) (ls' := [(8, .int (b0)), (0, .ref (G.2.1 0 0)), (1, .int (p1)), (3, .int (p3)), (4, .int (p4)), (5, .int (p5)), (6, .int (a6)), (7, .int (a7))]) C dX9_count_105 (Nat.le_of_ble_eq_true rfl) rfl ?_
  refine x_iload (j := 0) C dX9_count_107 rfl ?_
  refine x_if_eq (tgt := 64) C dX9_count_109 (by decide) (fun c109 => ?_) (fun c109 => ?_)
  · rw [if_pos c109] at h
    refine x_sub (ls' := [(0, .ref (G.2.1 0 0)), (1, .int (p1)), (3, .int (p3)), (4, .int (p4)), (5, .int (p5)), (6, .int (a6)), (7, .int (a7)), (8, .int (b0))]) [1, 2, 3, 4, 5, 6, 7, 0] rfl ?_
    exact hk64 _ _ _ _ _ _ h
  · rw [if_neg c109] at h
    refine x_iload (j := 7) C dX9_count_112 rfl ?_
    refine x_iload (j := 4) C dX9_count_114 rfl ?_
    refine x_iadd C dX9_count_116 ?_
    refine x_istore (i := 7) (ls' := [(7, .int ((a7 + p4))), (8, .int (b0)), (0, .ref (G.2.1 0 0)), (1, .int (p1)), (3, .int (p3)), (4, .int (p4)), (5, .int (p5)), (6, .int (a6))]) C dX9_count_117 (Nat.le_of_ble_eq_true rfl) rfl ?_
    refine x_goto (tgt := 64) C dX9_count_119 (by decide) ?_
    refine x_sub (ls' := [(0, .ref (G.2.1 0 0)), (1, .int (p1)), (3, .int (p3)), (4, .int (p4)), (5, .int (p5)), (6, .int (a6)), (7, .int ((a7 + p4))), (8, .int (b0))]) [2, 3, 4, 5, 6, 7, 0, 1] rfl ?_
    exact hk64 _ _ _ _ _ _ h
set_option maxRecDepth 100000 in
theorem t9_count_b88 {M : xM} {G : xG} {N : Nat} {p1 : Int32} {p2 : Int32} {p3 : Int32} {p4 : Int32} {p5 : Int32} (C : xC (M, G, mdom, 9) RX9 cX9_count (some .int)) (R : xR (M, G, mdom, 9) = xrm 3 75) {k64 : Int32 → Int32 → Int32 → mS → Option (Int32 × mS)} (hk64 : ∀ (a6 : Int32) (a7 : Int32) (a8 : Int32) (s : mS) (r : Int32) (s1 : mS), k64 a6 a7 a8 s = some (r, s1) → X (M, G, mdom, 9) (some (.int r)) (encM G s1) (encM G s) 64 [(0, .ref (G.2.1 0 0)), (1, .int (p1)), (3, .int (p3)), (4, .int (p4)), (5, .int (p5)), (6, .int (a6)), (7, .int (a7)), (8, .int (a8))] []) {a7 : Int32} {b0 : Int32} {b1 : Int32} {s : mS} {r : Int32} {s1 : mS} (h : f9_count_b88 N p1 p2 p3 p4 p5 k64 a7 b0 b1 s = some (r, s1)) : X (M, G, mdom, 9) (some (.int r)) (encM G s1) (encM G s) 88 [(0, .ref (G.2.1 0 0)), (1, .int (p1)), (3, .int (p3)), (4, .int (p4)), (5, .int (p5)), (7, .int (a7))] [.int (b0), .int (b1)] := by
  unfold f9_count_b88 at h
  refine x_iadd C dX9_count_88 ?_
  refine x_istore (i := 6) (ls' := [(6, .int ((b1 + b0))), (0, .ref (G.2.1 0 0)), (1, .int (p1)), (3, .int (p3)), (4, .int (p4)), (5, .int (p5)), (7, .int (a7))]) C dX9_count_89 (Nat.le_of_ble_eq_true rfl) rfl ?_
  refine x_iload (j := 4) C dX9_count_91 rfl ?_
  refine x_iload_n (j := 3) C dX9_count_93 rfl rfl ?_
  refine x_iload (j := 6) C dX9_count_94 rfl ?_
  refine x_isub C dX9_count_96 ?_
  refine x_icmp_gt (tgt := 104) C dX9_count_97 (by decide) (fun c97 => ?_) (fun c97 => ?_)
  · rw [if_pos c97] at h
    refine x_iconst (v := 0) C dX9_count_104 (by decide) ?_
    refine x_sub (ls' := [(0, .ref (G.2.1 0 0)), (1, .int (p1)), (3, .int (p3)), (4, .int (p4)), (5, .int (p5)), (6, .int ((b1 + b0))), (7, .int (a7))]) [1, 2, 3, 4, 5, 0, 6] rfl ?_
    exact t9_count_b105 (N := N) (p1 := p1) (p2 := p2) (p3 := p3) (p4 := p4) (p5 := p5) C R hk64 h
  · rw [if_neg c97] at h
    refine x_iconst (v := 1) C dX9_count_100 (by decide) ?_
    refine x_goto (tgt := 105) C dX9_count_101 (by decide) ?_
    refine x_sub (ls' := [(0, .ref (G.2.1 0 0)), (1, .int (p1)), (3, .int (p3)), (4, .int (p4)), (5, .int (p5)), (6, .int ((b1 + b0))), (7, .int (a7))]) [1, 2, 3, 4, 5, 0, 6] rfl ?_
    exact t9_count_b105 (N := N) (p1 := p1) (p2 := p2) (p3 := p3) (p4 := p4) (p5 := p5) C R hk64 h
set_option maxRecDepth 100000 in
theorem t9_count_l64b {M : xM} {G : xG} {N : Nat} {p1 : Int32} {p2 : Int32} {p3 : Int32} {p4 : Int32} {p5 : Int32} (C : xC (M, G, mdom, 9) RX9 cX9_count (some .int)) (R : xR (M, G, mdom, 9) = xrm 3 75) {k64 : Int32 → Int32 → Int32 → mS → Option (Int32 × mS)} (hk64 : ∀ (a6 : Int32) (a7 : Int32) (a8 : Int32) (s : mS) (r : Int32) (s1 : mS), k64 a6 a7 a8 s = some (r, s1) → X (M, G, mdom, 9) (some (.int r)) (encM G s1) (encM G s) 64 [(0, .ref (G.2.1 0 0)), (1, .int (p1)), (3, .int (p3)), (4, .int (p4)), (5, .int (p5)), (6, .int (a6)), (7, .int (a7)), (8, .int (a8))] []) {a6 : Int32} {a7 : Int32} {a8 : Int32} {s : mS} {r : Int32} {s1 : mS} (h : f9_count_l64b N p1 p2 p3 p4 p5 k64 a6 a7 a8 s = some (r, s1)) : X (M, G, mdom, 9) (some (.int r)) (encM G s1) (encM G s) 64 [(0, .ref (G.2.1 0 0)), (1, .int (p1)), (3, .int (p3)), (4, .int (p4)), (5, .int (p5)), (6, .int (a6)), (7, .int (a7)), (8, .int (a8))] [] := by
  unfold f9_count_l64b at h
  refine x_iload (j := 7) C dX9_count_64 rfl ?_
  refine x_if_eq (tgt := 122) C dX9_count_66 (by decide) (fun c66 => ?_) (fun c66 => ?_)
  · rw [if_pos c66] at h
    refine x_iload (j := 5) C dX9_count_122 rfl ?_
    cases h
    exact x_iret C dX9_count_124
  · rw [if_neg c66] at h
    refine x_iload (j := 5) C dX9_count_69 rfl ?_
    refine x_aload_n (j := 0) C dX9_count_71 rfl rfl ?_
    refine x_iload_n (j := 1) C dX9_count_72 rfl rfl ?_
    refine x_iload (j := 6) C dX9_count_73 rfl ?_
    obtain ⟨⟨r75, s75⟩, e75, h⟩ := Option.bind_eq_some_iff.mp h
    try dsimp only at h
    refine k9_110 C dX9_count_75 e75 (x_room R rfl) (Nat.le_of_ble_eq_true rfl) ?_
    refine x_iload (j := 4) C dX9_count_78 rfl ?_
    refine x_icmp_ne (tgt := 87) C dX9_count_80 (by decide) (fun c80 => ?_) (fun c80 => ?_)
    · rw [if_neg c80] at h
      refine x_iconst (v := 0) C dX9_count_87 (by decide) ?_
      refine x_sub (ls' := [(0, .ref (G.2.1 0 0)), (1, .int (p1)), (3, .int (p3)), (4, .int (p4)), (5, .int (p5)), (7, .int (a7))]) [0, 1, 2, 3, 4, 6] rfl ?_
      exact t9_count_b88 (N := N) (p1 := p1) (p2 := p2) (p3 := p3) (p4 := p4) (p5 := p5) C R hk64 h
    · rw [if_pos c80] at h
      refine x_iconst (v := 1) C dX9_count_83 (by decide) ?_
      refine x_goto (tgt := 88) C dX9_count_84 (by decide) ?_
      refine x_sub (ls' := [(0, .ref (G.2.1 0 0)), (1, .int (p1)), (3, .int (p3)), (4, .int (p4)), (5, .int (p5)), (7, .int (a7))]) [0, 1, 2, 3, 4, 6] rfl ?_
      exact t9_count_b88 (N := N) (p1 := p1) (p2 := p2) (p3 := p3) (p4 := p4) (p5 := p5) C R hk64 h
theorem t9_count_l64 {M : xM} {G : xG} {N : Nat} {p1 : Int32} {p2 : Int32} {p3 : Int32} {p4 : Int32} {p5 : Int32} (C : xC (M, G, mdom, 9) RX9 cX9_count (some .int)) (R : xR (M, G, mdom, 9) = xrm 3 75) (n : Nat) : ∀ (a6 : Int32) (a7 : Int32) (a8 : Int32) (s : mS) (r : Int32) (s1 : mS), f9_count_l64 N p1 p2 p3 p4 p5 n a6 a7 a8 s = some (r, s1) → X (M, G, mdom, 9) (some (.int r)) (encM G s1) (encM G s) 64 [(0, .ref (G.2.1 0 0)), (1, .int (p1)), (3, .int (p3)), (4, .int (p4)), (5, .int (p5)), (6, .int (a6)), (7, .int (a7)), (8, .int (a8))] [] := by
  induction n with
  | zero => intro a6 a7 a8 s r s1 h; exact (Option.some_ne_none _ (Eq.symm h)).elim
  | succ n ih => intro a6 a7 a8 s r s1 h; exact t9_count_l64b (N := N) (p1 := p1) (p2 := p2) (p3 := p3) (p4 := p4) (p5 := p5) C R (k64 := f9_count_l64 N p1 p2 p3 p4 p5 n) ih h
set_option maxRecDepth 100000 in
theorem t9_count_b44 {M : xM} {G : xG} {N : Nat} {p1 : Int32} {p2 : Int32} {p3 : Int32} {p4 : Int32} {p5 : Int32} (C : xC (M, G, mdom, 9) RX9 cX9_count (some .int)) (R : xR (M, G, mdom, 9) = xrm 3 75) {s : mS} {r : Int32} {s1 : mS} (h : f9_count_b44 N p1 p2 p3 p4 p5 s = some (r, s1)) : X (M, G, mdom, 9) (some (.int r)) (encM G s1) (encM G s) 44 [(0, .ref (G.2.1 0 0))] [] := by
  unfold f9_count_b44 at h
  refine x_aload_n (j := 0) C dX9_count_44 rfl rfl ?_
  refine x_iconst (v := 1) C dX9_count_45 (by decide) ?_
  obtain ⟨⟨r46, s46⟩, e46, h⟩ := Option.bind_eq_some_iff.mp h
  try dsimp only at h
  refine k9_78 C dX9_count_46 e46 (x_room R rfl) (Nat.le_of_ble_eq_true rfl) ?_
  cases h
  exact x_iret C dX9_count_49
set_option maxRecDepth 100000 in
theorem t9_count {M : xM} {G : xG} {N : Nat} {p1 : Int32} {p2 : Int32} {p3 : Int32} {p4 : Int32} {p5 : Int32} (C : xC (M, G, mdom, 9) RX9 cX9_count (some .int)) (R : xR (M, G, mdom, 9) = xrm 3 75) {s : mS} {r : Int32} {s1 : mS} (h : f9_count N p1 p2 p3 p4 p5 s = some (r, s1)) : X (M, G, mdom, 9) (some (.int r)) (encM G s1) (encM G s) 0 [(0, .ref (G.2.1 0 0)), (1, .int (p1)), (2, .int (p2)), (3, .int (p3)), (4, .int (p4)), (5, .int (p5))] [] := by
  unfold f9_count at h
  refine x_aload_n (j := 0) C dX9_count_0 rfl rfl ?_
  refine x_iconst (v := 0) C dX9_count_1 (by decide) ?_
  refine pf9_47 C dX9_count_2 ?_
  refine x_aload_n (j := 0) C dX9_count_5 rfl rfl ?_
  refine x_iload_n (j := 1) C dX9_count_6 rfl rfl ?_
  obtain ⟨⟨r7, s7⟩, e7, h⟩ := Option.bind_eq_some_iff.mp h
  try dsimp only at h
  refine k9_68 C dX9_count_7 e7 (x_room R rfl) (Nat.le_of_ble_eq_true rfl) ?_
  refine x_if_ne (tgt := 19) C dX9_count_10 (by decide) (fun c10 => ?_) (fun c10 => ?_)
  · rw [if_neg c10] at h
    refine x_iload_n (j := 2) C dX9_count_19 rfl rfl ?_
    refine x_if_lt (tgt := 44) C dX9_count_20 (by decide) (fun c20 => ?_) (fun c20 => ?_)
    · rw [if_pos c20] at h
      refine x_sub (ls' := [(0, .ref (G.2.1 0 0))]) [0] rfl ?_
      exact t9_count_b44 (N := N) (p1 := p1) (p2 := p2) (p3 := p3) (p4 := p4) (p5 := p5) C R h
    · rw [if_neg c20] at h
      refine x_iload_n (j := 2) C dX9_count_23 rfl rfl ?_
      refine x_iload_n (j := 3) C dX9_count_24 rfl rfl ?_
      refine x_icmp_gt (tgt := 44) C dX9_count_25 (by decide) (fun c25 => ?_) (fun c25 => ?_)
      · rw [if_pos c25] at h
        refine x_sub (ls' := [(0, .ref (G.2.1 0 0))]) [0] rfl ?_
        exact t9_count_b44 (N := N) (p1 := p1) (p2 := p2) (p3 := p3) (p4 := p4) (p5 := p5) C R h
      · rw [if_neg c25] at h
        refine x_iload_n (j := 3) C dX9_count_28 rfl rfl ?_
        refine x_aload_n (j := 0) C dX9_count_29 rfl rfl ?_
        refine gf9_7 C dX9_count_30 ?_
        refine x_iconst (v := 0) C dX9_count_33 (by decide) ?_
        refine mld1 C dX9_count_34 (by decide) ?_
        refine x_icmp_gt (tgt := 44) C dX9_count_35 (by decide) (fun c35 => ?_) (fun c35 => ?_)
        · rw [if_pos c35] at h
          refine x_sub (ls' := [(0, .ref (G.2.1 0 0))]) [0] rfl ?_
          exact t9_count_b44 (N := N) (p1 := p1) (p2 := p2) (p3 := p3) (p4 := p4) (p5 := p5) C R h
        · rw [if_neg c35] at h
          refine x_iload (j := 4) C dX9_count_38 rfl ?_
          refine x_iconst (v := 1) C dX9_count_40 (by decide) ?_
          refine x_icmp_ge (tgt := 50) C dX9_count_41 (by decide) (fun c41 => ?_) (fun c41 => ?_)
          · rw [if_pos c41] at h
            refine x_aload_n (j := 0) C dX9_count_50 rfl rfl ?_
            refine x_iconst (v := 0) C dX9_count_51 (by decide) ?_
            refine pf9_51 C dX9_count_52 ?_
            refine x_iconst (v := 0) C dX9_count_55 (by decide) ?_
            refine x_istore (i := 6) (ls' := [(6, .int (0)), (0, .ref (G.2.1 0 0)), (1, .int (p1)), (2, .int (p2)), (3, .int (p3)), (4, .int (p4)), (5, .int (p5))]) C dX9_count_56 (Nat.le_of_ble_eq_true rfl) rfl ?_
            refine x_iload_n (j := 3) C dX9_count_58 rfl rfl ?_
            refine x_istore (i := 7) (ls' := [(7, .int (p2)), (6, .int (0)), (0, .ref (G.2.1 0 0)), (1, .int (p1)), (2, .int (p2)), (3, .int (p3)), (4, .int (p4)), (5, .int (p5))]) C dX9_count_59 (Nat.le_of_ble_eq_true rfl) rfl ?_
            refine x_iconst (v := 1) C dX9_count_61 (by decide) ?_
            refine x_istore (i := 8) (ls' := [(8, .int (1)), (7, .int (p2)), (6, .int (0)), (0, .ref (G.2.1 0 0)), (1, .int (p1)), (2, .int (p2)), (3, .int (p3)), (4, .int (p4)), (5, .int (p5))]) C dX9_count_62 (Nat.le_of_ble_eq_true rfl) rfl ?_
            refine x_sub (ls' := [(0, .ref (G.2.1 0 0)), (1, .int (p1)), (3, .int (p3)), (4, .int (p4)), (5, .int (p5)), (6, .int (0)), (7, .int (p2)), (8, .int (1))]) [3, 4, 6, 7, 8, 2, 1, 0] rfl ?_
            exact t9_count_l64 (N := N) (p1 := p1) (p2 := p2) (p3 := p3) (p4 := p4) (p5 := p5) C R N _ _ _ _ _ _ h
          · rw [if_neg c41] at h
            refine x_sub (ls' := [(0, .ref (G.2.1 0 0))]) [0] rfl ?_
            exact t9_count_b44 (N := N) (p1 := p1) (p2 := p2) (p3 := p3) (p4 := p4) (p5 := p5) C R h
  · rw [if_pos c10] at h
    refine x_aload_n (j := 0) C dX9_count_13 rfl rfl ?_
    refine x_iconst (v := 2) C dX9_count_14 (by decide) ?_
    obtain ⟨⟨r15, s15⟩, e15, h⟩ := Option.bind_eq_some_iff.mp h
    try dsimp only at h
    refine k9_78 C dX9_count_15 e15 (x_room R rfl) (Nat.le_of_ble_eq_true rfl) ?_
    cases h
    exact x_iret C dX9_count_18
theorem c9_count (l : Launch) (G : xG) {N : Nat} {p1 : Int32} {p2 : Int32} {p3 : Int32} {p4 : Int32} {p5 : Int32} {s : mS} {r : Int32} {s1 : mS} (h : f9_count N p1 p2 p3 p4 p5 s = some (r, s1)) : xMet l yX9_count (x_ws yX9_count cX9_count 9 (some .int)) (xrm 3 75) G mdom [.ref (G.2.1 0 0), .int (p1), .int (p2), .int (p3), .int (p4), .int (p5)] (encM G s) (some (.int r)) (encM G s1) := by
  refine xMet.of (by decide +kernel) (Nat.le_of_ble_eq_true rfl) ?_
  rintro ⟨M, G', dom', n'⟩ e1 R e3 e4 e5 C
  change G' = G at e3; change dom' = mdom at e4; change n' = 9 at e5
  subst e3; subst e4; subst e5
  exact t9_count C R h
set_option maxRecDepth 100000 in
theorem t9_noise_b29 {M : xM} {G : xG} {N : Nat} {p1 : Int32} {p2 : Int32} (C : xC (M, G, mdom, 3) RX9 cX9_noise (some .int)) (R : xR (M, G, mdom, 3) = xrm 1 23) {s : mS} {r : Int32} {s1 : mS} (h : f9_noise_b29 N p1 p2 s = some (r, s1)) : X (M, G, mdom, 3) (some (.int r)) (encM G s1) (encM G s) 29 [(0, .ref (G.2.1 0 0))] [] := by
  unfold f9_noise_b29 at h
  refine x_aload_n (j := 0) C dX9_noise_29 rfl rfl ?_
  refine x_iconst (v := 1) C dX9_noise_30 (by decide) ?_
  obtain ⟨⟨r31, s31⟩, e31, h⟩ := Option.bind_eq_some_iff.mp h
  try dsimp only at h
  refine k9_78 C dX9_noise_31 e31 (x_room R rfl) (Nat.le_of_ble_eq_true rfl) ?_
  cases h
  exact x_iret C dX9_noise_34
set_option maxRecDepth 100000 in
theorem t9_noise {M : xM} {G : xG} {N : Nat} {p1 : Int32} {p2 : Int32} (C : xC (M, G, mdom, 3) RX9 cX9_noise (some .int)) (R : xR (M, G, mdom, 3) = xrm 1 23) {s : mS} {r : Int32} {s1 : mS} (h : f9_noise N p1 p2 s = some (r, s1)) : X (M, G, mdom, 3) (some (.int r)) (encM G s1) (encM G s) 0 [(0, .ref (G.2.1 0 0)), (1, .int (p1)), (2, .int (p2))] [] := by
  unfold f9_noise at h
  refine x_aload_n (j := 0) C dX9_noise_0 rfl rfl ?_
  refine x_iconst (v := 0) C dX9_noise_1 (by decide) ?_
  refine pf9_47 C dX9_noise_2 ?_
  refine x_aload_n (j := 0) C dX9_noise_5 rfl rfl ?_
  refine x_iload_n (j := 1) C dX9_noise_6 rfl rfl ?_
  refine x_bipush (v := (-100)) C dX9_noise_7 (by decide) ?_
  refine x_bipush (v := 100) C dX9_noise_9 (by decide) ?_
  obtain ⟨⟨r11, s11⟩, e11, h⟩ := Option.bind_eq_some_iff.mp h
  try dsimp only at h
  refine k9_64 C dX9_noise_11 e11 (x_room R rfl) (Nat.le_of_ble_eq_true rfl) ?_
  refine x_if_eq (tgt := 29) C dX9_noise_14 (by decide) (fun c14 => ?_) (fun c14 => ?_)
  · rw [if_pos c14] at h
    refine x_sub (ls' := [(0, .ref (G.2.1 0 0))]) [0] rfl ?_
    exact t9_noise_b29 (N := N) (p1 := p1) (p2 := p2) C R h
  · rw [if_neg c14] at h
    refine x_aload_n (j := 0) C dX9_noise_17 rfl rfl ?_
    refine x_iload_n (j := 2) C dX9_noise_18 rfl rfl ?_
    refine x_iconst (v := 1) C dX9_noise_19 (by decide) ?_
    refine x_sipush (v := 1000) C dX9_noise_20 (by decide) ?_
    obtain ⟨⟨r23, s23⟩, e23, h⟩ := Option.bind_eq_some_iff.mp h
    try dsimp only at h
    refine k9_64 C dX9_noise_23 e23 (x_room R rfl) (Nat.le_of_ble_eq_true rfl) ?_
    refine x_if_ne (tgt := 35) C dX9_noise_26 (by decide) (fun c26 => ?_) (fun c26 => ?_)
    · rw [if_neg c26] at h
      refine x_aload_n (j := 0) C dX9_noise_35 rfl rfl ?_
      refine gf9_131 C dX9_noise_36 ?_
      refine x_bipush (v := 8) C dX9_noise_39 (by decide) ?_
      refine x_icmp_ne (tgt := 50) C dX9_noise_41 (by decide) (fun c41 => ?_) (fun c41 => ?_)
      · rw [if_neg c41] at h
        refine x_aload_n (j := 0) C dX9_noise_50 rfl rfl ?_
        refine x_iconst (v := 0) C dX9_noise_51 (by decide) ?_
        refine pf9_51 C dX9_noise_52 ?_
        refine x_aload_n (j := 0) C dX9_noise_55 rfl rfl ?_
        refine gf9_16 C dX9_noise_56 ?_
        refine x_aload_n (j := 0) C dX9_noise_59 rfl rfl ?_
        refine gf9_131 C dX9_noise_60 ?_
        refine x_iload_n (j := 1) C dX9_noise_63 rfl rfl ?_
        by_cases g64_1 : inB ((mu s23 3 0 0) 10 0) 8 = true
        case neg => rw [if_neg g64_1] at h; cases h
        rw [if_pos g64_1] at h
        refine mst3 C dX9_noise_64 g64_1 ?_
        refine x_aload_n (j := 0) C dX9_noise_65 rfl rfl ?_
        refine gf9_19 C dX9_noise_66 ?_
        refine x_aload_n (j := 0) C dX9_noise_69 rfl rfl ?_
        refine gf9_131 C dX9_noise_70 ?_
        refine x_iload_n (j := 2) C dX9_noise_73 rfl rfl ?_
        by_cases g74_2 : inB ((mu (mu s23 3 0 0) 5 (((mu s23 3 0 0) 10 0).toNatClampNeg) p1) 10 0) 8 = true
        case neg => rw [if_neg g74_2] at h; cases h
        rw [if_pos g74_2] at h
        refine mst4 C dX9_noise_74 g74_2 ?_
        refine x_aload_n (j := 0) C dX9_noise_75 rfl rfl ?_
        refine x_dup C dX9_noise_76 rfl ?_
        refine gf9_131 C dX9_noise_77 ?_
        refine x_iconst (v := 1) C dX9_noise_80 (by decide) ?_
        refine x_iadd C dX9_noise_81 ?_
        refine pf9_131 C dX9_noise_82 ?_
        refine x_aload_n (j := 0) C dX9_noise_85 rfl rfl ?_
        refine gf9_131 C dX9_noise_86 ?_
        cases h
        exact x_iret C dX9_noise_89
      · rw [if_pos c41] at h
        refine x_aload_n (j := 0) C dX9_noise_44 rfl rfl ?_
        refine x_iconst (v := 3) C dX9_noise_45 (by decide) ?_
        obtain ⟨⟨r46, s46⟩, e46, h⟩ := Option.bind_eq_some_iff.mp h
        try dsimp only at h
        refine k9_78 C dX9_noise_46 e46 (x_room R rfl) (Nat.le_of_ble_eq_true rfl) ?_
        cases h
        exact x_iret C dX9_noise_49
    · rw [if_pos c26] at h
      refine x_sub (ls' := [(0, .ref (G.2.1 0 0))]) [0] rfl ?_
      exact t9_noise_b29 (N := N) (p1 := p1) (p2 := p2) C R h
theorem c9_noise (l : Launch) (G : xG) {N : Nat} {p1 : Int32} {p2 : Int32} {s : mS} {r : Int32} {s1 : mS} (h : f9_noise N p1 p2 s = some (r, s1)) : xMet l yX9_noise (x_ws yX9_noise cX9_noise 3 (some .int)) (xrm 1 23) G mdom [.ref (G.2.1 0 0), .int (p1), .int (p2)] (encM G s) (some (.int r)) (encM G s1) := by
  refine xMet.of (by decide +kernel) (Nat.le_of_ble_eq_true rfl) ?_
  rintro ⟨M, G', dom', n'⟩ e1 R e3 e4 e5 C
  change G' = G at e3; change dom' = mdom at e4; change n' = 3 at e5
  subst e3; subst e4; subst e5
  exact t9_noise C R h
set_option maxRecDepth 100000 in
theorem t9_still {M : xM} {G : xG} {N : Nat}  (C : xC (M, G, mdom, 2) RX9 cX9_still (some .int)) (R : xR (M, G, mdom, 2) = xrm 0 0) {s : mS} {r : Int32} {s1 : mS} (h : f9_still N s = some (r, s1)) : X (M, G, mdom, 2) (some (.int r)) (encM G s1) (encM G s) 0 [(0, .ref (G.2.1 0 0))] [] := by
  unfold f9_still at h
  refine x_aload_n (j := 0) C dX9_still_0 rfl rfl ?_
  refine x_iconst (v := 0) C dX9_still_1 (by decide) ?_
  refine pf9_47 C dX9_still_2 ?_
  refine x_aload_n (j := 0) C dX9_still_5 rfl rfl ?_
  refine gf9_131 C dX9_still_6 ?_
  refine x_istore_n (i := 1) (ls' := [(1, .int (((mu s 4 0 0) 10 0))), (0, .ref (G.2.1 0 0))]) C dX9_still_9 rfl (Nat.le_of_ble_eq_true rfl) rfl ?_
  refine x_aload_n (j := 1) C dX9_still_10 rfl rfl ?_
  refine x_iconst (v := 0) C dX9_still_11 (by decide) ?_
  refine pf9_131 C dX9_still_12 ?_
  refine x_iload_n (j := 0) C dX9_still_15 rfl rfl ?_
  cases h
  exact x_iret C dX9_still_16
theorem c9_still (l : Launch) (G : xG) {N : Nat}  {s : mS} {r : Int32} {s1 : mS} (h : f9_still N s = some (r, s1)) : xMet l yX9_still (x_ws yX9_still cX9_still 2 (some .int)) (xrm 0 0) G mdom [.ref (G.2.1 0 0)] (encM G s) (some (.int r)) (encM G s1) := by
  refine xMet.of (by decide +kernel) (Nat.le_of_ble_eq_true rfl) ?_
  rintro ⟨M, G', dom', n'⟩ e1 R e3 e4 e5 C
  change G' = G at e3; change dom' = mdom at e4; change n' = 2 at e5
  subst e3; subst e4; subst e5
  exact t9_still C R h
set_option maxRecDepth 100000 in
theorem t9_divisor_l14b {M : xM} {G : xG} {N : Nat} {p1 : Int32} {p2 : Int32} (C : xC (M, G, mdom, 6) RX9 cX9_divisor (some .int)) (R : xR (M, G, mdom, 6) = xrm 0 0) {k14 : Int32 → Int32 → mS → Option (Int32 × mS)} (hk14 : ∀ (a3 : Int32) (a4 : Int32) (s : mS) (r : Int32) (s1 : mS), k14 a3 a4 s = some (r, s1) → X (M, G, mdom, 6) (some (.int r)) (encM G s1) (encM G s) 14 [(3, .int (a3)), (4, .int (a4))] []) {a3 : Int32} {a4 : Int32} {s : mS} {r : Int32} {s1 : mS} (h : f9_divisor_l14b N p1 p2 k14 a3 a4 s = some (r, s1)) : X (M, G, mdom, 6) (some (.int r)) (encM G s1) (encM G s) 14 [(3, .int (a3)), (4, .int (a4))] [] := by
  unfold f9_divisor_l14b at h
  refine x_iload (j := 1) C dX9_divisor_14 rfl ?_
  refine x_if_eq (tgt := 35) C dX9_divisor_16 (by decide) (fun c16 => ?_) (fun c16 => ?_)
  · rw [if_pos c16] at h
    refine x_iload_n (j := 0) C dX9_divisor_35 rfl rfl ?_
    cases h
    exact x_iret C dX9_divisor_36
  · rw [if_neg c16] at h
    refine x_iload_n (j := 0) C dX9_divisor_19 rfl rfl ?_
    refine x_iload (j := 1) C dX9_divisor_20 rfl ?_
    by_cases g22 : a4 = 0
    · rw [if_pos g22] at h; cases h
    rw [if_neg g22] at h
    refine x_irem C dX9_divisor_22 g22 ?_
    refine x_istore (i := 5) (ls' := [(5, .int ((a3 - a3 / a4 * a4))), (3, .int (a3)), (4, .int (a4))]) C dX9_divisor_23 (Nat.le_of_ble_eq_true rfl) rfl ?_
    refine x_iload (j := 2) C dX9_divisor_25 rfl ?_
    refine x_istore_n (i := 3) (ls' := [(3, .int (a4)), (5, .int ((a3 - a3 / a4 * a4))), (4, .int (a4))]) C dX9_divisor_27 rfl (Nat.le_of_ble_eq_true rfl) rfl ?_
    refine x_iload (j := 1) C dX9_divisor_28 rfl ?_
    refine x_istore (i := 4) (ls' := [(4, .int ((a3 - a3 / a4 * a4))), (3, .int (a4)), (5, .int ((a3 - a3 / a4 * a4)))]) C dX9_divisor_30 (Nat.le_of_ble_eq_true rfl) rfl ?_
    refine x_goto (tgt := 14) C dX9_divisor_32 (by decide) ?_
    refine x_sub (ls' := [(3, .int (a4)), (4, .int ((a3 - a3 / a4 * a4)))]) [1, 0] rfl ?_
    exact hk14 _ _ _ _ _ h
theorem t9_divisor_l14 {M : xM} {G : xG} {N : Nat} {p1 : Int32} {p2 : Int32} (C : xC (M, G, mdom, 6) RX9 cX9_divisor (some .int)) (R : xR (M, G, mdom, 6) = xrm 0 0) (n : Nat) : ∀ (a3 : Int32) (a4 : Int32) (s : mS) (r : Int32) (s1 : mS), f9_divisor_l14 N p1 p2 n a3 a4 s = some (r, s1) → X (M, G, mdom, 6) (some (.int r)) (encM G s1) (encM G s) 14 [(3, .int (a3)), (4, .int (a4))] [] := by
  induction n with
  | zero => intro a3 a4 s r s1 h; exact (Option.some_ne_none _ (Eq.symm h)).elim
  | succ n ih => intro a3 a4 s r s1 h; exact t9_divisor_l14b (N := N) (p1 := p1) (p2 := p2) C R (k14 := f9_divisor_l14 N p1 p2 n) ih h
set_option maxRecDepth 100000 in
theorem t9_divisor {M : xM} {G : xG} {N : Nat} {p1 : Int32} {p2 : Int32} (C : xC (M, G, mdom, 6) RX9 cX9_divisor (some .int)) (R : xR (M, G, mdom, 6) = xrm 0 0) {s : mS} {r : Int32} {s1 : mS} (h : f9_divisor N p1 p2 s = some (r, s1)) : X (M, G, mdom, 6) (some (.int r)) (encM G s1) (encM G s) 0 [(0, .ref (G.2.1 0 0)), (1, .int (p1)), (2, .int (p2))] [] := by
  unfold f9_divisor at h
  refine x_iload_n (j := 1) C dX9_divisor_0 rfl rfl ?_
  refine x_if_ge (tgt := 9) C dX9_divisor_1 (by decide) (fun c1 => ?_) (fun c1 => ?_)
  · rw [if_pos c1] at h
    refine x_iload_n (j := 1) C dX9_divisor_9 rfl rfl ?_
    refine x_istore_n (i := 3) (ls' := [(3, .int (p1)), (0, .ref (G.2.1 0 0)), (1, .int (p1)), (2, .int (p2))]) C dX9_divisor_10 rfl (Nat.le_of_ble_eq_true rfl) rfl ?_
    refine x_iload_n (j := 3) C dX9_divisor_11 rfl rfl ?_
    refine x_istore (i := 4) (ls' := [(4, .int (p2)), (3, .int (p1)), (0, .ref (G.2.1 0 0)), (1, .int (p1)), (2, .int (p2))]) C dX9_divisor_12 (Nat.le_of_ble_eq_true rfl) rfl ?_
    refine x_sub (ls' := [(3, .int (p1)), (4, .int (p2))]) [1, 0] rfl ?_
    exact t9_divisor_l14 (N := N) (p1 := p1) (p2 := p2) C R N _ _ _ _ _ h
  · rw [if_neg c1] at h
    refine x_iload_n (j := 1) C dX9_divisor_4 rfl rfl ?_
    refine x_ineg C dX9_divisor_5 ?_
    refine x_goto (tgt := 10) C dX9_divisor_6 (by decide) ?_
    refine x_istore_n (i := 3) (ls' := [(3, .int ((-p1))), (0, .ref (G.2.1 0 0)), (1, .int (p1)), (2, .int (p2))]) C dX9_divisor_10 rfl (Nat.le_of_ble_eq_true rfl) rfl ?_
    refine x_iload_n (j := 3) C dX9_divisor_11 rfl rfl ?_
    refine x_istore (i := 4) (ls' := [(4, .int (p2)), (3, .int ((-p1))), (0, .ref (G.2.1 0 0)), (1, .int (p1)), (2, .int (p2))]) C dX9_divisor_12 (Nat.le_of_ble_eq_true rfl) rfl ?_
    refine x_sub (ls' := [(3, .int ((-p1))), (4, .int (p2))]) [1, 0] rfl ?_
    exact t9_divisor_l14 (N := N) (p1 := p1) (p2 := p2) C R N _ _ _ _ _ h
theorem c9_divisor (l : Launch) (G : xG) {N : Nat} {p1 : Int32} {p2 : Int32} {s : mS} {r : Int32} {s1 : mS} (h : f9_divisor N p1 p2 s = some (r, s1)) : xMet l yX9_divisor (x_ws yX9_divisor cX9_divisor 6 (some .int)) (xrm 0 0) G mdom [.ref (G.2.1 0 0), .int (p1), .int (p2)] (encM G s) (some (.int r)) (encM G s1) := by
  refine xMet.of (by decide +kernel) (Nat.le_of_ble_eq_true rfl) ?_
  rintro ⟨M, G', dom', n'⟩ e1 R e3 e4 e5 C
  change G' = G at e3; change dom' = mdom at e4; change n' = 6 at e5
  subst e3; subst e4; subst e5
  exact t9_divisor C R h
theorem k9_134 {M : xM} {G : xG} {n : Nat} {rv : Option Value} {E' : xE} {cc : ByteArray} {ret : Option FieldType} {pc : Nat} {ls : List (Nat × Value)} {st : List Value} {N : Nat} {p1 : Int32} {p2 : Int32} {s s1 : mS} {r : Int32} (C : xC (M, G, mdom, n) RX9 cc ret) (d : decode cc pc = .ok (.invokevirtual 134, 3)) (h : f9_divisor N p1 p2 s = some (r, s1)) (hR : (xrm 0 0).frames + 1 ≤ (xR (M, G, mdom, n)).frames ∧ 8 + (6 + 11) + (xrm 0 0).locals ≤ (xR (M, G, mdom, n)).locals) (hw : (st.map fun v => v.category).sum ≤ 8) (k : X (M, G, mdom, n) rv E' (encM G s1) (pc + 3) ls (.int r :: st)) : X (M, G, mdom, n) rv E' (encM G s) pc ls (.int (p2) :: .int (p1) :: .ref (G.2.1 0 0) :: st) :=
  x_callV (As := [.int (p1), .int (p2)]) (n := 2) C d (c9_divisor (xl (M, G, mdom, n)) G h) lk974 lk976 lk73 lk87 lk977 ⟨rfl, rfl⟩ ⟨by decide +kernel, by decide +kernel, by decide +kernel⟩ rfl hR rfl rfl rfl rfl hw k
set_option maxRecDepth 100000 in
theorem t9_mean_b114 {M : xM} {G : xG} {N : Nat} {p1 : Int32} {p2 : Int32} {p3 : Int32} (C : xC (M, G, mdom, 8) RX9 cX9_mean (some .int)) (R : xR (M, G, mdom, 8) = xrm 3 75) {k63 : Int32 → Int32 → Int32 → mS → Option (Int32 × mS)} (hk63 : ∀ (a4 : Int32) (a5 : Int32) (a6 : Int32) (s : mS) (r : Int32) (s1 : mS), k63 a4 a5 a6 s = some (r, s1) → X (M, G, mdom, 8) (some (.int r)) (encM G s1) (encM G s) 63 [(0, .ref (G.2.1 0 0)), (1, .int (p1)), (2, .int (p2)), (3, .int (p3)), (4, .int (a4)), (5, .int (a5)), (6, .int (a6))] []) {a4 : Int32} {a5 : Int32} {a6 : Int32} {b0 : Int32} {s : mS} {r : Int32} {s1 : mS} (h : f9_mean_b114 N p1 p2 p3 k63 a4 a5 a6 b0 s = some (r, s1)) : X (M, G, mdom, 8) (some (.int r)) (encM G s1) (encM G s) 114 [(0, .ref (G.2.1 0 0)), (1, .int (p1)), (2, .int (p2)), (3, .int (p3)), (4, .int (a4)), (5, .int (a5)), (6, .int (a6))] [.int (b0)] := by
  unfold f9_mean_b114 at h
  refine x_istore (i := 7) (ls' := [(7, .int (b0)), (0, .ref (G.2.1 0 0)), (1, .int (p1)), (2, .int (p2)), (3, .int (p3)), (4, .int (a4)), (5, .int (a5)), (6, .int (a6))]) C dX9_mean_114 (Nat.le_of_ble_eq_true rfl) rfl ?_
  refine x_iload (j := 5) C dX9_mean_116 rfl ?_
  refine x_aload_n (j := 1) C dX9_mean_118 rfl rfl ?_
  refine gf9_19 C dX9_mean_119 ?_
  refine x_iload (j := 7) C dX9_mean_122 rfl ?_
  by_cases g124_1 : inB a6 8 = true
  case neg => rw [if_neg g124_1] at h; cases h
  rw [if_pos g124_1] at h
  refine mld4 C dX9_mean_124 g124_1 ?_
  refine x_aload_n (j := 1) C dX9_mean_125 rfl rfl ?_
  refine x_iload_n (j := 2) C dX9_mean_126 rfl rfl ?_
  refine x_iload (j := 0) C dX9_mean_127 rfl ?_
  obtain ⟨⟨r129, s129⟩, e129, h⟩ := Option.bind_eq_some_iff.mp h
  try dsimp only at h
  refine k9_110 C dX9_mean_129 e129 (x_room R rfl) (Nat.le_of_ble_eq_true rfl) ?_
  refine x_imul C dX9_mean_132 ?_
  refine x_iadd C dX9_mean_133 ?_
  refine x_istore (i := 4) (ls' := [(4, .int ((a4 + ((s 6 a6.toNatClampNeg) * r129)))), (7, .int (b0)), (0, .ref (G.2.1 0 0)), (1, .int (p1)), (2, .int (p2)), (3, .int (p3)), (5, .int (a5)), (6, .int (a6))]) C dX9_mean_134 (Nat.le_of_ble_eq_true rfl) rfl ?_
  refine x_iload (j := 6) C dX9_mean_136 rfl ?_
  refine x_aload_n (j := 2) C dX9_mean_138 rfl rfl ?_
  refine gf9_19 C dX9_mean_139 ?_
  refine x_iload (j := 7) C dX9_mean_142 rfl ?_
  refine mld4 C dX9_mean_144 g124_1 ?_
  refine x_iadd C dX9_mean_145 ?_
  refine x_istore (i := 5) (ls' := [(5, .int ((a5 + (s129 6 a6.toNatClampNeg)))), (4, .int ((a4 + ((s 6 a6.toNatClampNeg) * r129)))), (7, .int (b0)), (0, .ref (G.2.1 0 0)), (1, .int (p1)), (2, .int (p2)), (3, .int (p3)), (6, .int (a6))]) C dX9_mean_146 (Nat.le_of_ble_eq_true rfl) rfl ?_
  refine x_iinc (j := 7) (v := (a6 + 1)) (ls' := [(6, .int ((a6 + 1))), (5, .int ((a5 + (s129 6 a6.toNatClampNeg)))), (4, .int ((a4 + ((s 6 a6.toNatClampNeg) * r129)))), (7, .int (b0)), (0, .ref (G.2.1 0 0)), (1, .int (p1)), (2, .int (p2)), (3, .int (p3))]) C dX9_mean_148 rfl rfl (Nat.le_of_ble_eq_true rfl) rfl ?_
  refine x_goto (tgt := 63) C dX9_mean_151 (by decide) ?_
  refine x_sub (ls' := [(0, .ref (G.2.1 0 0)), (1, .int (p1)), (2, .int (p2)), (3, .int (p3)), (4, .int ((a4 + ((s 6 a6.toNatClampNeg) * r129)))), (5, .int ((a5 + (s129 6 a6.toNatClampNeg)))), (6, .int ((a6 + 1)))]) [4, 5, 6, 7, 2, 1, 0] rfl ?_
  exact hk63 _ _ _ _ _ _ h
set_option maxRecDepth 100000 in
theorem t9_mean_l63b {M : xM} {G : xG} {N : Nat} {p1 : Int32} {p2 : Int32} {p3 : Int32} (C : xC (M, G, mdom, 8) RX9 cX9_mean (some .int)) (R : xR (M, G, mdom, 8) = xrm 3 75) {k63 : Int32 → Int32 → Int32 → mS → Option (Int32 × mS)} (hk63 : ∀ (a4 : Int32) (a5 : Int32) (a6 : Int32) (s : mS) (r : Int32) (s1 : mS), k63 a4 a5 a6 s = some (r, s1) → X (M, G, mdom, 8) (some (.int r)) (encM G s1) (encM G s) 63 [(0, .ref (G.2.1 0 0)), (1, .int (p1)), (2, .int (p2)), (3, .int (p3)), (4, .int (a4)), (5, .int (a5)), (6, .int (a6))] []) {a4 : Int32} {a5 : Int32} {a6 : Int32} {s : mS} {r : Int32} {s1 : mS} (h : f9_mean_l63b N p1 p2 p3 k63 a4 a5 a6 s = some (r, s1)) : X (M, G, mdom, 8) (some (.int r)) (encM G s1) (encM G s) 63 [(0, .ref (G.2.1 0 0)), (1, .int (p1)), (2, .int (p2)), (3, .int (p3)), (4, .int (a4)), (5, .int (a5)), (6, .int (a6))] [] := by
  unfold f9_mean_l63b at h
  refine x_iload (j := 6) C dX9_mean_63 rfl ?_
  refine x_aload_n (j := 0) C dX9_mean_65 rfl rfl ?_
  refine gf9_131 C dX9_mean_66 ?_
  refine x_icmp_ge (tgt := 154) C dX9_mean_69 (by decide) (fun c69 => ?_) (fun c69 => ?_)
  · rw [if_pos c69] at h
    refine x_aload_n (j := 0) C dX9_mean_154 rfl rfl ?_
    refine x_iload (j := 4) C dX9_mean_155 rfl ?_
    refine x_iload (j := 5) C dX9_mean_157 rfl ?_
    obtain ⟨⟨r159, s159⟩, e159, h⟩ := Option.bind_eq_some_iff.mp h
    try dsimp only at h
    refine k9_134 C dX9_mean_159 e159 (x_room R rfl) (Nat.le_of_ble_eq_true rfl) ?_
    refine x_istore (i := 6) (ls' := [(6, .int (r159)), (0, .ref (G.2.1 0 0)), (1, .int (p1)), (2, .int (p2)), (3, .int (p3)), (4, .int (a4)), (5, .int (a5))]) C dX9_mean_162 (Nat.le_of_ble_eq_true rfl) rfl ?_
    refine x_iload_n (j := 4) C dX9_mean_164 rfl rfl ?_
    refine x_if_eq (tgt := 176) C dX9_mean_165 (by decide) (fun c165 => ?_) (fun c165 => ?_)
    · rw [if_pos c165] at h
      refine x_iload (j := 5) C dX9_mean_176 rfl ?_
      refine x_iload (j := 0) C dX9_mean_178 rfl ?_
      by_cases g180 : r159 = 0
      · rw [if_pos g180] at h; cases h
      rw [if_neg g180] at h
      refine x_idiv C dX9_mean_180 g180 ?_
      cases h
      exact x_iret C dX9_mean_181
    · rw [if_neg c165] at h
      refine x_iload (j := 6) C dX9_mean_168 rfl ?_
      refine x_iload (j := 0) C dX9_mean_170 rfl ?_
      by_cases g172 : r159 = 0
      · rw [if_pos g172] at h; cases h
      rw [if_neg g172] at h
      refine x_idiv C dX9_mean_172 g172 ?_
      refine x_goto (tgt := 181) C dX9_mean_173 (by decide) ?_
      cases h
      exact x_iret C dX9_mean_181
  · rw [if_neg c69] at h
    refine x_iload_n (j := 2) C dX9_mean_72 rfl rfl ?_
    refine x_aload_n (j := 0) C dX9_mean_73 rfl rfl ?_
    refine gf9_16 C dX9_mean_74 ?_
    refine x_iload (j := 6) C dX9_mean_77 rfl ?_
    by_cases g79_1 : inB a6 8 = true
    case neg => rw [if_neg g79_1] at h; cases h
    rw [if_pos g79_1] at h
    refine mld3 C dX9_mean_79 g79_1 ?_
    refine x_iadd C dX9_mean_80 ?_
    refine x_istore (i := 7) (ls' := [(7, .int ((p2 + (s 5 a6.toNatClampNeg)))), (0, .ref (G.2.1 0 0)), (1, .int (p1)), (2, .int (p2)), (3, .int (p3)), (4, .int (a4)), (5, .int (a5)), (6, .int (a6))]) C dX9_mean_81 (Nat.le_of_ble_eq_true rfl) rfl ?_
    refine x_iload (j := 0) C dX9_mean_83 rfl ?_
    refine x_if_ge (tgt := 92) C dX9_mean_85 (by decide) (fun c85 => ?_) (fun c85 => ?_)
    · rw [if_pos c85] at h
      refine x_iload (j := 0) C dX9_mean_92 rfl ?_
      refine x_aload_n (j := 1) C dX9_mean_94 rfl rfl ?_
      refine gf9_7 C dX9_mean_95 ?_
      refine x_iconst (v := 0) C dX9_mean_98 (by decide) ?_
      refine mld1 C dX9_mean_99 (by decide) ?_
      refine x_icmp_le (tgt := 112) C dX9_mean_100 (by decide) (fun c100 => ?_) (fun c100 => ?_)
      · rw [if_pos c100] at h
        refine x_iload (j := 0) C dX9_mean_112 rfl ?_
        refine x_sub (ls' := [(0, .ref (G.2.1 0 0)), (1, .int (p1)), (2, .int (p2)), (3, .int (p3)), (4, .int (a4)), (5, .int (a5)), (6, .int (a6))]) [1, 2, 3, 4, 5, 6, 7] rfl ?_
        exact t9_mean_b114 (N := N) (p1 := p1) (p2 := p2) (p3 := p3) C R hk63 h
      · rw [if_neg c100] at h
        refine x_aload_n (j := 1) C dX9_mean_103 rfl rfl ?_
        refine gf9_7 C dX9_mean_104 ?_
        refine x_iconst (v := 0) C dX9_mean_107 (by decide) ?_
        refine mld1 C dX9_mean_108 (by decide) ?_
        refine x_goto (tgt := 114) C dX9_mean_109 (by decide) ?_
        refine x_sub (ls' := [(0, .ref (G.2.1 0 0)), (1, .int (p1)), (2, .int (p2)), (3, .int (p3)), (4, .int (a4)), (5, .int (a5)), (6, .int (a6))]) [1, 2, 3, 4, 5, 6, 7] rfl ?_
        exact t9_mean_b114 (N := N) (p1 := p1) (p2 := p2) (p3 := p3) C R hk63 h
    · rw [if_neg c85] at h
      refine x_iconst (v := 0) C dX9_mean_88 (by decide) ?_
      refine x_goto (tgt := 114) C dX9_mean_89 (by decide) ?_
      refine x_sub (ls' := [(0, .ref (G.2.1 0 0)), (1, .int (p1)), (2, .int (p2)), (3, .int (p3)), (4, .int (a4)), (5, .int (a5)), (6, .int (a6))]) [1, 2, 3, 4, 5, 6, 7] rfl ?_
      exact t9_mean_b114 (N := N) (p1 := p1) (p2 := p2) (p3 := p3) C R hk63 h
theorem t9_mean_l63 {M : xM} {G : xG} {N : Nat} {p1 : Int32} {p2 : Int32} {p3 : Int32} (C : xC (M, G, mdom, 8) RX9 cX9_mean (some .int)) (R : xR (M, G, mdom, 8) = xrm 3 75) (n : Nat) : ∀ (a4 : Int32) (a5 : Int32) (a6 : Int32) (s : mS) (r : Int32) (s1 : mS), f9_mean_l63 N p1 p2 p3 n a4 a5 a6 s = some (r, s1) → X (M, G, mdom, 8) (some (.int r)) (encM G s1) (encM G s) 63 [(0, .ref (G.2.1 0 0)), (1, .int (p1)), (2, .int (p2)), (3, .int (p3)), (4, .int (a4)), (5, .int (a5)), (6, .int (a6))] [] := by
  induction n with
  | zero => intro a4 a5 a6 s r s1 h; exact (Option.some_ne_none _ (Eq.symm h)).elim
  | succ n ih => intro a4 a5 a6 s r s1 h; exact t9_mean_l63b (N := N) (p1 := p1) (p2 := p2) (p3 := p3) C R (k63 := f9_mean_l63 N p1 p2 p3 n) ih h
set_option maxRecDepth 100000 in
theorem t9_mean_b21 {M : xM} {G : xG} {N : Nat} {p1 : Int32} {p2 : Int32} {p3 : Int32} (C : xC (M, G, mdom, 8) RX9 cX9_mean (some .int)) (R : xR (M, G, mdom, 8) = xrm 3 75) {s : mS} {r : Int32} {s1 : mS} (h : f9_mean_b21 N p1 p2 p3 s = some (r, s1)) : X (M, G, mdom, 8) (some (.int r)) (encM G s1) (encM G s) 21 [(0, .ref (G.2.1 0 0))] [] := by
  unfold f9_mean_b21 at h
  refine x_aload_n (j := 0) C dX9_mean_21 rfl rfl ?_
  refine x_iconst (v := 2) C dX9_mean_22 (by decide) ?_
  obtain ⟨⟨r23, s23⟩, e23, h⟩ := Option.bind_eq_some_iff.mp h
  try dsimp only at h
  refine k9_78 C dX9_mean_23 e23 (x_room R rfl) (Nat.le_of_ble_eq_true rfl) ?_
  cases h
  exact x_iret C dX9_mean_26
set_option maxRecDepth 100000 in
theorem t9_mean {M : xM} {G : xG} {N : Nat} {p1 : Int32} {p2 : Int32} {p3 : Int32} (C : xC (M, G, mdom, 8) RX9 cX9_mean (some .int)) (R : xR (M, G, mdom, 8) = xrm 3 75) {s : mS} {r : Int32} {s1 : mS} (h : f9_mean N p1 p2 p3 s = some (r, s1)) : X (M, G, mdom, 8) (some (.int r)) (encM G s1) (encM G s) 0 [(0, .ref (G.2.1 0 0)), (1, .int (p1)), (2, .int (p2)), (3, .int (p3))] [] := by
  unfold f9_mean at h
  refine x_aload_n (j := 0) C dX9_mean_0 rfl rfl ?_
  refine x_iconst (v := 0) C dX9_mean_1 (by decide) ?_
  refine pf9_47 C dX9_mean_2 ?_
  refine x_aload_n (j := 0) C dX9_mean_5 rfl rfl ?_
  refine x_iload_n (j := 1) C dX9_mean_6 rfl rfl ?_
  obtain ⟨⟨r7, s7⟩, e7, h⟩ := Option.bind_eq_some_iff.mp h
  try dsimp only at h
  refine k9_68 C dX9_mean_7 e7 (x_room R rfl) (Nat.le_of_ble_eq_true rfl) ?_
  refine x_if_eq (tgt := 21) C dX9_mean_10 (by decide) (fun c10 => ?_) (fun c10 => ?_)
  · rw [if_pos c10] at h
    refine x_sub (ls' := [(0, .ref (G.2.1 0 0))]) [0] rfl ?_
    exact t9_mean_b21 (N := N) (p1 := p1) (p2 := p2) (p3 := p3) C R h
  · rw [if_neg c10] at h
    refine x_aload_n (j := 0) C dX9_mean_13 rfl rfl ?_
    refine x_iload_n (j := 2) C dX9_mean_14 rfl rfl ?_
    obtain ⟨⟨r15, s15⟩, e15, h⟩ := Option.bind_eq_some_iff.mp h
    try dsimp only at h
    refine k9_107 C dX9_mean_15 e15 (x_room R rfl) (Nat.le_of_ble_eq_true rfl) ?_
    refine x_if_ne (tgt := 27) C dX9_mean_18 (by decide) (fun c18 => ?_) (fun c18 => ?_)
    · rw [if_neg c18] at h
      refine x_aload_n (j := 0) C dX9_mean_27 rfl rfl ?_
      refine x_iconst (v := 0) C dX9_mean_28 (by decide) ?_
      refine pf9_51 C dX9_mean_29 ?_
      refine x_aload_n (j := 0) C dX9_mean_32 rfl rfl ?_
      refine gf9_131 C dX9_mean_33 ?_
      refine x_if_ne (tgt := 54) C dX9_mean_36 (by decide) (fun c36 => ?_) (fun c36 => ?_)
      · rw [if_neg c36] at h
        refine x_iconst (v := 0) C dX9_mean_54 (by decide) ?_
        refine x_istore (i := 4) (ls' := [(4, .int (0)), (0, .ref (G.2.1 0 0)), (1, .int (p1)), (2, .int (p2)), (3, .int (p3))]) C dX9_mean_55 (Nat.le_of_ble_eq_true rfl) rfl ?_
        refine x_iconst (v := 0) C dX9_mean_57 (by decide) ?_
        refine x_istore (i := 5) (ls' := [(5, .int (0)), (4, .int (0)), (0, .ref (G.2.1 0 0)), (1, .int (p1)), (2, .int (p2)), (3, .int (p3))]) C dX9_mean_58 (Nat.le_of_ble_eq_true rfl) rfl ?_
        refine x_iconst (v := 0) C dX9_mean_60 (by decide) ?_
        refine x_istore (i := 6) (ls' := [(6, .int (0)), (5, .int (0)), (4, .int (0)), (0, .ref (G.2.1 0 0)), (1, .int (p1)), (2, .int (p2)), (3, .int (p3))]) C dX9_mean_61 (Nat.le_of_ble_eq_true rfl) rfl ?_
        refine x_sub (ls' := [(0, .ref (G.2.1 0 0)), (1, .int (p1)), (2, .int (p2)), (3, .int (p3)), (4, .int (0)), (5, .int (0)), (6, .int (0))]) [3, 4, 5, 6, 2, 1, 0] rfl ?_
        exact t9_mean_l63 (N := N) (p1 := p1) (p2 := p2) (p3 := p3) C R N _ _ _ _ _ _ h
      · rw [if_pos c36] at h
        refine x_iload_n (j := 3) C dX9_mean_39 rfl rfl ?_
        refine x_if_eq (tgt := 47) C dX9_mean_40 (by decide) (fun c40 => ?_) (fun c40 => ?_)
        · rw [if_pos c40] at h
          refine x_aload_n (j := 0) C dX9_mean_47 rfl rfl ?_
          refine x_iload_n (j := 1) C dX9_mean_48 rfl rfl ?_
          refine x_iload_n (j := 2) C dX9_mean_49 rfl rfl ?_
          obtain ⟨⟨r50, s50⟩, e50, h⟩ := Option.bind_eq_some_iff.mp h
          try dsimp only at h
          refine k9_110 C dX9_mean_50 e50 (x_room R rfl) (Nat.le_of_ble_eq_true rfl) ?_
          cases h
          exact x_iret C dX9_mean_53
        · rw [if_neg c40] at h
          refine x_iconst (v := 1) C dX9_mean_43 (by decide) ?_
          refine x_goto (tgt := 53) C dX9_mean_44 (by decide) ?_
          cases h
          exact x_iret C dX9_mean_53
    · rw [if_pos c18] at h
      refine x_sub (ls' := [(0, .ref (G.2.1 0 0))]) [0] rfl ?_
      exact t9_mean_b21 (N := N) (p1 := p1) (p2 := p2) (p3 := p3) C R h
theorem c9_mean (l : Launch) (G : xG) {N : Nat} {p1 : Int32} {p2 : Int32} {p3 : Int32} {s : mS} {r : Int32} {s1 : mS} (h : f9_mean N p1 p2 p3 s = some (r, s1)) : xMet l yX9_mean (x_ws yX9_mean cX9_mean 8 (some .int)) (xrm 3 75) G mdom [.ref (G.2.1 0 0), .int (p1), .int (p2), .int (p3)] (encM G s) (some (.int r)) (encM G s1) := by
  refine xMet.of (by decide +kernel) (Nat.le_of_ble_eq_true rfl) ?_
  rintro ⟨M, G', dom', n'⟩ e1 R e3 e4 e5 C
  change G' = G at e3; change dom' = mdom at e4; change n' = 8 at e5
  subst e3; subst e4; subst e5
  exact t9_mean C R h
set_option maxRecDepth 100000 in
theorem t9_fault {M : xM} {G : xG} {N : Nat} {p1 : Int32} {p2 : Int32} {p3 : Int32} (C : xC (M, G, mdom, 4) RX9 cX9_fault (some .int)) (R : xR (M, G, mdom, 4) = xrm 3 66) {s : mS} {r : Int32} {s1 : mS} (h : f9_fault N p1 p2 p3 s = some (r, s1)) : X (M, G, mdom, 4) (some (.int r)) (encM G s1) (encM G s) 0 [(0, .ref (G.2.1 0 0)), (1, .int (p1)), (2, .int (p2)), (3, .int (p3))] [] := by
  unfold f9_fault at h
  refine x_aload_n (j := 0) C dX9_fault_0 rfl rfl ?_
  refine x_iconst (v := 0) C dX9_fault_1 (by decide) ?_
  refine pf9_47 C dX9_fault_2 ?_
  refine x_aload_n (j := 0) C dX9_fault_5 rfl rfl ?_
  refine x_iload_n (j := 1) C dX9_fault_6 rfl rfl ?_
  refine x_iload_n (j := 2) C dX9_fault_7 rfl rfl ?_
  obtain ⟨⟨r8, s8⟩, e8, h⟩ := Option.bind_eq_some_iff.mp h
  try dsimp only at h
  refine k9_60 C dX9_fault_8 e8 (x_room R rfl) (Nat.le_of_ble_eq_true rfl) ?_
  refine x_if_ne (tgt := 20) C dX9_fault_11 (by decide) (fun c11 => ?_) (fun c11 => ?_)
  · rw [if_neg c11] at h
    refine x_aload_n (j := 0) C dX9_fault_20 rfl rfl ?_
    refine x_iload_n (j := 3) C dX9_fault_21 rfl rfl ?_
    refine x_sipush (v := (-500)) C dX9_fault_22 (by decide) ?_
    refine x_sipush (v := 500) C dX9_fault_25 (by decide) ?_
    obtain ⟨⟨r28, s28⟩, e28, h⟩ := Option.bind_eq_some_iff.mp h
    try dsimp only at h
    refine k9_64 C dX9_fault_28 e28 (x_room R rfl) (Nat.le_of_ble_eq_true rfl) ?_
    refine x_if_ne (tgt := 40) C dX9_fault_31 (by decide) (fun c31 => ?_) (fun c31 => ?_)
    · rw [if_neg c31] at h
      refine x_aload_n (j := 0) C dX9_fault_40 rfl rfl ?_
      refine gf9_57 C dX9_fault_41 ?_
      refine x_bipush (v := 10) C dX9_fault_44 (by decide) ?_
      refine x_icmp_ne (tgt := 55) C dX9_fault_46 (by decide) (fun c46 => ?_) (fun c46 => ?_)
      · rw [if_neg c46] at h
        refine x_aload_n (j := 0) C dX9_fault_55 rfl rfl ?_
        refine x_iconst (v := 0) C dX9_fault_56 (by decide) ?_
        refine pf9_51 C dX9_fault_57 ?_
        refine x_aload_n (j := 0) C dX9_fault_60 rfl rfl ?_
        refine gf9_22 C dX9_fault_61 ?_
        refine x_aload_n (j := 0) C dX9_fault_64 rfl rfl ?_
        refine gf9_57 C dX9_fault_65 ?_
        refine x_iload_n (j := 1) C dX9_fault_68 rfl rfl ?_
        by_cases g69_1 : inB ((mu s28 3 0 0) 11 0) 10 = true
        case neg => rw [if_neg g69_1] at h; cases h
        rw [if_pos g69_1] at h
        refine mst5 C dX9_fault_69 g69_1 ?_
        refine x_aload_n (j := 0) C dX9_fault_70 rfl rfl ?_
        refine gf9_25 C dX9_fault_71 ?_
        refine x_aload_n (j := 0) C dX9_fault_74 rfl rfl ?_
        refine gf9_57 C dX9_fault_75 ?_
        refine x_iload_n (j := 2) C dX9_fault_78 rfl rfl ?_
        by_cases g79_2 : inB ((mu (mu s28 3 0 0) 7 (((mu s28 3 0 0) 11 0).toNatClampNeg) p1) 11 0) 10 = true
        case neg => rw [if_neg g79_2] at h; cases h
        rw [if_pos g79_2] at h
        refine mst6 C dX9_fault_79 g79_2 ?_
        refine x_aload_n (j := 0) C dX9_fault_80 rfl rfl ?_
        refine gf9_28 C dX9_fault_81 ?_
        refine x_aload_n (j := 0) C dX9_fault_84 rfl rfl ?_
        refine gf9_57 C dX9_fault_85 ?_
        refine x_iload_n (j := 3) C dX9_fault_88 rfl rfl ?_
        by_cases g89_3 : inB ((mu (mu (mu s28 3 0 0) 7 (((mu s28 3 0 0) 11 0).toNatClampNeg) p1) 8 (((mu (mu s28 3 0 0) 7 (((mu s28 3 0 0) 11 0).toNatClampNeg) p1) 11 0).toNatClampNeg) p2) 11 0) 10 = true
        case neg => rw [if_neg g89_3] at h; cases h
        rw [if_pos g89_3] at h
        refine mst7 C dX9_fault_89 g89_3 ?_
        refine x_aload_n (j := 0) C dX9_fault_90 rfl rfl ?_
        refine x_dup C dX9_fault_91 rfl ?_
        refine gf9_57 C dX9_fault_92 ?_
        refine x_iconst (v := 1) C dX9_fault_95 (by decide) ?_
        refine x_iadd C dX9_fault_96 ?_
        refine pf9_57 C dX9_fault_97 ?_
        refine x_aload_n (j := 0) C dX9_fault_100 rfl rfl ?_
        refine gf9_57 C dX9_fault_101 ?_
        cases h
        exact x_iret C dX9_fault_104
      · rw [if_pos c46] at h
        refine x_aload_n (j := 0) C dX9_fault_49 rfl rfl ?_
        refine x_iconst (v := 3) C dX9_fault_50 (by decide) ?_
        obtain ⟨⟨r51, s51⟩, e51, h⟩ := Option.bind_eq_some_iff.mp h
        try dsimp only at h
        refine k9_78 C dX9_fault_51 e51 (x_room R rfl) (Nat.le_of_ble_eq_true rfl) ?_
        cases h
        exact x_iret C dX9_fault_54
    · rw [if_pos c31] at h
      refine x_aload_n (j := 0) C dX9_fault_34 rfl rfl ?_
      refine x_iconst (v := 1) C dX9_fault_35 (by decide) ?_
      obtain ⟨⟨r36, s36⟩, e36, h⟩ := Option.bind_eq_some_iff.mp h
      try dsimp only at h
      refine k9_78 C dX9_fault_36 e36 (x_room R rfl) (Nat.le_of_ble_eq_true rfl) ?_
      cases h
      exact x_iret C dX9_fault_39
  · rw [if_pos c11] at h
    refine x_aload_n (j := 0) C dX9_fault_14 rfl rfl ?_
    refine x_iconst (v := 2) C dX9_fault_15 (by decide) ?_
    obtain ⟨⟨r16, s16⟩, e16, h⟩ := Option.bind_eq_some_iff.mp h
    try dsimp only at h
    refine k9_78 C dX9_fault_16 e16 (x_room R rfl) (Nat.le_of_ble_eq_true rfl) ?_
    cases h
    exact x_iret C dX9_fault_19
theorem c9_fault (l : Launch) (G : xG) {N : Nat} {p1 : Int32} {p2 : Int32} {p3 : Int32} {s : mS} {r : Int32} {s1 : mS} (h : f9_fault N p1 p2 p3 s = some (r, s1)) : xMet l yX9_fault (x_ws yX9_fault cX9_fault 4 (some .int)) (xrm 3 66) G mdom [.ref (G.2.1 0 0), .int (p1), .int (p2), .int (p3)] (encM G s) (some (.int r)) (encM G s1) := by
  refine xMet.of (by decide +kernel) (Nat.le_of_ble_eq_true rfl) ?_
  rintro ⟨M, G', dom', n'⟩ e1 R e3 e4 e5 C
  change G' = G at e3; change dom' = mdom at e4; change n' = 4 at e5
  subst e3; subst e4; subst e5
  exact t9_fault C R h
set_option maxRecDepth 100000 in
theorem t9_clear {M : xM} {G : xG} {N : Nat}  (C : xC (M, G, mdom, 2) RX9 cX9_clear (some .int)) (R : xR (M, G, mdom, 2) = xrm 0 0) {s : mS} {r : Int32} {s1 : mS} (h : f9_clear N s = some (r, s1)) : X (M, G, mdom, 2) (some (.int r)) (encM G s1) (encM G s) 0 [(0, .ref (G.2.1 0 0))] [] := by
  unfold f9_clear at h
  refine x_aload_n (j := 0) C dX9_clear_0 rfl rfl ?_
  refine x_iconst (v := 0) C dX9_clear_1 (by decide) ?_
  refine pf9_47 C dX9_clear_2 ?_
  refine x_aload_n (j := 0) C dX9_clear_5 rfl rfl ?_
  refine gf9_57 C dX9_clear_6 ?_
  refine x_istore_n (i := 1) (ls' := [(1, .int (((mu s 4 0 0) 11 0))), (0, .ref (G.2.1 0 0))]) C dX9_clear_9 rfl (Nat.le_of_ble_eq_true rfl) rfl ?_
  refine x_aload_n (j := 1) C dX9_clear_10 rfl rfl ?_
  refine x_iconst (v := 0) C dX9_clear_11 (by decide) ?_
  refine pf9_57 C dX9_clear_12 ?_
  refine x_iload_n (j := 0) C dX9_clear_15 rfl rfl ?_
  cases h
  exact x_iret C dX9_clear_16
theorem c9_clear (l : Launch) (G : xG) {N : Nat}  {s : mS} {r : Int32} {s1 : mS} (h : f9_clear N s = some (r, s1)) : xMet l yX9_clear (x_ws yX9_clear cX9_clear 2 (some .int)) (xrm 0 0) G mdom [.ref (G.2.1 0 0)] (encM G s) (some (.int r)) (encM G s1) := by
  refine xMet.of (by decide +kernel) (Nat.le_of_ble_eq_true rfl) ?_
  rintro ⟨M, G', dom', n'⟩ e1 R e3 e4 e5 C
  change G' = G at e3; change dom' = mdom at e4; change n' = 2 at e5
  subst e3; subst e4; subst e5
  exact t9_clear C R h
set_option maxRecDepth 100000 in
theorem t9_faulty {M : xM} {G : xG} {N : Nat} {p1 : Int32} {p2 : Int32} (C : xC (M, G, mdom, 6) RX9 cX9_faulty (some .int)) (R : xR (M, G, mdom, 6) = xrm 3 75) {s : mS} {r : Int32} {s1 : mS} (h : f9_faulty N p1 p2 s = some (r, s1)) : X (M, G, mdom, 6) (some (.int r)) (encM G s1) (encM G s) 0 [(0, .ref (G.2.1 0 0)), (1, .int (p1)), (2, .int (p2))] [] := by
  unfold f9_faulty at h
  refine x_aload_n (j := 0) C dX9_faulty_0 rfl rfl ?_
  refine x_aload_n (j := 0) C dX9_faulty_1 rfl rfl ?_
  refine gf9_22 C dX9_faulty_2 ?_
  refine x_iload_n (j := 1) C dX9_faulty_5 rfl rfl ?_
  by_cases g6_1 : inB p1 10 = true
  case neg => rw [if_neg g6_1] at h; cases h
  rw [if_pos g6_1] at h
  refine mld5 C dX9_faulty_6 g6_1 ?_
  refine x_aload_n (j := 0) C dX9_faulty_7 rfl rfl ?_
  refine gf9_25 C dX9_faulty_8 ?_
  refine x_iload_n (j := 1) C dX9_faulty_11 rfl rfl ?_
  refine mld6 C dX9_faulty_12 g6_1 ?_
  obtain ⟨⟨r13, s13⟩, e13, h⟩ := Option.bind_eq_some_iff.mp h
  try dsimp only at h
  refine k9_85 C dX9_faulty_13 e13 (x_room R rfl) (Nat.le_of_ble_eq_true rfl) ?_
  refine x_iconst (v := 1) C dX9_faulty_16 (by decide) ?_
  refine x_iadd C dX9_faulty_17 ?_
  refine x_istore_n (i := 3) (ls' := [(3, .int ((r13 + 1))), (0, .ref (G.2.1 0 0)), (1, .int (p1)), (2, .int (p2))]) C dX9_faulty_18 rfl (Nat.le_of_ble_eq_true rfl) rfl ?_
  refine x_aload_n (j := 1) C dX9_faulty_19 rfl rfl ?_
  refine gf9_7 C dX9_faulty_20 ?_
  refine x_iload_n (j := 0) C dX9_faulty_23 rfl rfl ?_
  by_cases g24_2 : inB (r13 + 1) 530 = true
  case neg => rw [if_neg g24_2] at h; cases h
  rw [if_pos g24_2] at h
  refine mld1 C dX9_faulty_24 g24_2 ?_
  refine x_istore (i := 4) (ls' := [(4, .int ((s13 0 ((r13 + 1).toNatClampNeg)))), (3, .int ((r13 + 1))), (0, .ref (G.2.1 0 0)), (1, .int (p1)), (2, .int (p2))]) C dX9_faulty_25 (Nat.le_of_ble_eq_true rfl) rfl ?_
  refine x_aload_n (j := 2) C dX9_faulty_27 rfl rfl ?_
  refine gf9_7 C dX9_faulty_28 ?_
  refine x_iload_n (j := 1) C dX9_faulty_31 rfl rfl ?_
  refine x_aload_n (j := 2) C dX9_faulty_32 rfl rfl ?_
  refine gf9_28 C dX9_faulty_33 ?_
  refine x_iload_n (j := 3) C dX9_faulty_36 rfl rfl ?_
  refine mld7 C dX9_faulty_37 g6_1 ?_
  refine mst1 C dX9_faulty_38 g24_2 ?_
  refine x_aload_n (j := 2) C dX9_faulty_39 rfl rfl ?_
  refine x_aload_n (j := 2) C dX9_faulty_40 rfl rfl ?_
  refine gf9_22 C dX9_faulty_41 ?_
  refine x_iload_n (j := 3) C dX9_faulty_44 rfl rfl ?_
  refine mld5 C dX9_faulty_45 g6_1 ?_
  refine x_iload_n (j := 4) C dX9_faulty_46 rfl rfl ?_
  obtain ⟨⟨r47, s47⟩, e47, h⟩ := Option.bind_eq_some_iff.mp h
  try dsimp only at h
  refine k9_110 C dX9_faulty_47 e47 (x_room R rfl) (Nat.le_of_ble_eq_true rfl) ?_
  refine x_istore (i := 5) (ls' := [(5, .int (r47)), (4, .int ((s13 0 ((r13 + 1).toNatClampNeg)))), (3, .int ((r13 + 1))), (0, .ref (G.2.1 0 0)), (1, .int (p1)), (2, .int (p2))]) C dX9_faulty_50 (Nat.le_of_ble_eq_true rfl) rfl ?_
  refine x_aload_n (j := 3) C dX9_faulty_52 rfl rfl ?_
  refine gf9_7 C dX9_faulty_53 ?_
  refine x_iload_n (j := 2) C dX9_faulty_56 rfl rfl ?_
  refine x_iload (j := 1) C dX9_faulty_57 rfl ?_
  refine mst1 C dX9_faulty_59 g24_2 ?_
  refine x_iload (j := 0) C dX9_faulty_60 rfl ?_
  cases h
  exact x_iret C dX9_faulty_62
theorem c9_faulty (l : Launch) (G : xG) {N : Nat} {p1 : Int32} {p2 : Int32} {s : mS} {r : Int32} {s1 : mS} (h : f9_faulty N p1 p2 s = some (r, s1)) : xMet l yX9_faulty (x_ws yX9_faulty cX9_faulty 6 (some .int)) (xrm 3 75) G mdom [.ref (G.2.1 0 0), .int (p1), .int (p2)] (encM G s) (some (.int r)) (encM G s1) := by
  refine xMet.of (by decide +kernel) (Nat.le_of_ble_eq_true rfl) ?_
  rintro ⟨M, G', dom', n'⟩ e1 R e3 e4 e5 C
  change G' = G at e3; change dom' = mdom at e4; change n' = 6 at e5
  subst e3; subst e4; subst e5
  exact t9_faulty C R h
theorem k9_137 {M : xM} {G : xG} {n : Nat} {rv : Option Value} {E' : xE} {cc : ByteArray} {ret : Option FieldType} {pc : Nat} {ls : List (Nat × Value)} {st : List Value} {N : Nat} {p1 : Int32} {p2 : Int32} {s s1 : mS} {r : Int32} (C : xC (M, G, mdom, n) RX9 cc ret) (d : decode cc pc = .ok (.invokevirtual 137, 3)) (h : f9_faulty N p1 p2 s = some (r, s1)) (hR : (xrm 3 75).frames + 1 ≤ (xR (M, G, mdom, n)).frames ∧ 8 + (6 + 11) + (xrm 3 75).locals ≤ (xR (M, G, mdom, n)).locals) (hw : (st.map fun v => v.category).sum ≤ 8) (k : X (M, G, mdom, n) rv E' (encM G s1) (pc + 3) ls (.int r :: st)) : X (M, G, mdom, n) rv E' (encM G s) pc ls (.int (p2) :: .int (p1) :: .ref (G.2.1 0 0) :: st) :=
  x_callV (As := [.int (p1), .int (p2)]) (n := 2) C d (c9_faulty (xl (M, G, mdom, n)) G h) lk994 lk996 lk75 lk87 lk997 ⟨rfl, rfl⟩ ⟨by decide +kernel, by decide +kernel, by decide +kernel⟩ rfl hR rfl rfl rfl rfl hw k
set_option maxRecDepth 100000 in
theorem t9_showsAt {M : xM} {G : xG} {N : Nat} {p1 : Int32} {p2 : Int32} (C : xC (M, G, mdom, 3) RX9 cX9_showsAt (some .boolean)) (R : xR (M, G, mdom, 3) = xrm 4 100) {s : mS} {r : Int32} {s1 : mS} (h : f9_showsAt N p1 p2 s = some (r, s1)) : X (M, G, mdom, 3) (some (.int r)) (encM G s1) (encM G s) 0 [(0, .ref (G.2.1 0 0)), (1, .int (p1)), (2, .int (p2))] [] := by
  unfold f9_showsAt at h
  refine x_aload_n (j := 0) C dX9_showsAt_0 rfl rfl ?_
  refine x_iload_n (j := 1) C dX9_showsAt_1 rfl rfl ?_
  refine x_iload_n (j := 2) C dX9_showsAt_2 rfl rfl ?_
  obtain ⟨⟨r3, s3⟩, e3, h⟩ := Option.bind_eq_some_iff.mp h
  try dsimp only at h
  refine k9_137 C dX9_showsAt_3 e3 (x_room R rfl) (Nat.le_of_ble_eq_true rfl) ?_
  refine x_aload_n (j := 0) C dX9_showsAt_6 rfl rfl ?_
  refine x_aload_n (j := 0) C dX9_showsAt_7 rfl rfl ?_
  refine gf9_22 C dX9_showsAt_8 ?_
  refine x_iload_n (j := 1) C dX9_showsAt_11 rfl rfl ?_
  by_cases g12_1 : inB p1 10 = true
  case neg => rw [if_neg g12_1] at h; cases h
  rw [if_pos g12_1] at h
  refine mld5 C dX9_showsAt_12 g12_1 ?_
  refine x_iload_n (j := 2) C dX9_showsAt_13 rfl rfl ?_
  obtain ⟨⟨r14, s14⟩, e14, h⟩ := Option.bind_eq_some_iff.mp h
  try dsimp only at h
  refine k9_110 C dX9_showsAt_14 e14 (x_room R rfl) (Nat.le_of_ble_eq_true rfl) ?_
  refine x_icmp_eq (tgt := 24) C dX9_showsAt_17 (by decide) (fun c17 => ?_) (fun c17 => ?_)
  · rw [if_pos c17] at h
    refine x_iconst (v := 0) C dX9_showsAt_24 (by decide) ?_
    cases h
    exact x_zret C dX9_showsAt_25 rfl
  · rw [if_neg c17] at h
    refine x_iconst (v := 1) C dX9_showsAt_20 (by decide) ?_
    refine x_goto (tgt := 25) C dX9_showsAt_21 (by decide) ?_
    cases h
    exact x_zret C dX9_showsAt_25 rfl
theorem c9_showsAt (l : Launch) (G : xG) {N : Nat} {p1 : Int32} {p2 : Int32} {s : mS} {r : Int32} {s1 : mS} (h : f9_showsAt N p1 p2 s = some (r, s1)) : xMet l yX9_showsAt (x_ws yX9_showsAt cX9_showsAt 3 (some .boolean)) (xrm 4 100) G mdom [.ref (G.2.1 0 0), .int (p1), .int (p2)] (encM G s) (some (.int r)) (encM G s1) := by
  refine xMet.of (by decide +kernel) (Nat.le_of_ble_eq_true rfl) ?_
  rintro ⟨M, G', dom', n'⟩ e1 R e3 e4 e5 C
  change G' = G at e3; change dom' = mdom at e4; change n' = 3 at e5
  subst e3; subst e4; subst e5
  exact t9_showsAt C R h
