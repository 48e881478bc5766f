/-- behind its rows the bench makes j Meters of 18 cells each -/
def sF (G : xG) (h n : Nat) (F0 : Nat → va_E) (j : Nat) : Nat → va_E := fun i => if i = n then .inl (G.2.2 5, 8, .inr (.inr (.inr (.inr fun k => if k < j then some (h + (n + 136 + 18 * k)) else none)))) else if n + 136 ≤ i then (if (i - (n + 136)) % 18 = 0 then .inr (3, [.ref (h + (i + 1)), .int 0, .int 0, .int 0, .int 0, .int 0]) else if (i - (n + 136)) % 18 = 1 then .inl (G.2.2 6, 16, .inr (.inr (.inr (.inr fun k => if k < 16 then some (h + (i + 1 + 1 * k)) else none)))) else .inr (5, [.int 0, .int 0, .int 0, .int 0])) else F0 i
/-- and j Faults -/
def tF (G : xG) (h n : Nat) (F1 : Nat → va_E) (j : Nat) : Nat → va_E := fun i => if i = n + 7 then .inl (G.2.2 4, 10, .inr (.inr (.inr (.inr fun k => if k < j then some (h + (n + 280 + 1 * k)) else none)))) else if n + 280 ≤ i then .inr (2, [.int 0, .int 0, .int 0]) else F1 i
theorem sF_n (G : xG) (h n : Nat) (E : Nat → va_E) (j : Nat) : sF G h n E j n = .inl (G.2.2 5, 8, .inr (.inr (.inr (.inr fun k => if k < j then some (h + (n + 136 + 18 * k)) else none)))) := by simp [sF]
theorem tF_n (G : xG) (h n : Nat) (E : Nat → va_E) (j : Nat) : tF G h n E j (n + 7) = .inl (G.2.2 4, 10, .inr (.inr (.inr (.inr fun k => if k < j then some (h + (n + 280 + 1 * k)) else none)))) := by simp [tF]
theorem mF_kup {G : xG} {h n a : Nat} {E : Nat → va_E} {e : va_E} {j : Nat} (han : a < n) : mF G h n (kup E a e) j = kup (mF G h n E j) a e := by
  funext i
  simp only [mF, kup]
  repeat' split
  all_goals first | rfl | omega
theorem kup_comm {E : Nat → va_E} {a b : Nat} {x y : va_E} (hab : a ≠ b) : kup (kup E a x) b y = kup (kup E b y) a x := by
  funext i
  simp only [kup]
  repeat' split
  all_goals first | rfl | omega
abbrev sThis (h n : Nat) : List Value := [.ref (h + n), .ref (h + (n + 1)), .ref (h + (n + 4)), .ref (h + (n + 7)), .ref (h + (n + 8)), .ref (h + (n + 9)), .ref (h + (n + 10)), .ref (h + (n + 14)), .int 255, .int 0, .int 0, .int 0, .int (-1)]
set_option maxRecDepth 100000 in
theorem mk_faults {M : xM} {G : xG} {h a n : Nat} {F1 E2 : Nat → va_E} (han : a < n) (C : kC (M, G, h, a, n, 2, 290, 13525, 8) RX8 cX8_init { frames := 3, cells := 290, slots := 13525, locals := 54 }) (h2 : ∀ i : Nat, i < n + 290 → kup (tF G h n F1 10) a (.inr (8, sThis h n)) i = E2 i) :
    ∀ d j : Nat, j + d = 10 → K (M, G, h, a, n, 2, 290, 13525, 8) (n + 290) E2 (tF G h n F1 j) (sThis h n) (n + 280 + j) (280 + j) (13495 + 3 * j) 141 [(1, .int (nI j)), (0, .ref (h + a))] [] := by
  intro d
  induction d with
  | zero =>
    intro j hj
    have hj : j = 10 := by omega
    subst hj
    refine k_iload_n (j := 0) C dX8_init_141 rfl rfl ?_
    refine k_aload_n (j := 1) C dX8_init_142 rfl rfl ?_
    refine k_get (T := TX8) (N := 13) (j := 3) C dX8_init_143 inx8 rfl (Nat.le_of_ble_eq_true rfl) lk278 rfl (by omega) rfl ?_
    refine k_alen (t := 4) (v := 10) C dX8_init_146 (by omega) (by omega) (tF_n G h n F1 _) rfl rfl ?_
    refine k_icmp_ge (tgt := 169) C dX8_init_147 (by decide) (fun c => ?_) (fun c => absurd (by decide) c)
    exact k_vret C dX8_init_169 (Nat.le_refl _) (Nat.le_refl _) h2
  | succ d ih =>
    intro j hj
    refine k_iload_n (j := 0) C dX8_init_141 rfl rfl ?_
    refine k_aload_n (j := 1) C dX8_init_142 rfl rfl ?_
    refine k_get (T := TX8) (N := 13) (j := 3) C dX8_init_143 inx8 rfl (Nat.le_of_ble_eq_true rfl) lk278 rfl (by omega) rfl ?_
    refine k_alen (t := 4) (v := nI 10) C dX8_init_146 (by omega) (by omega) (tF_n G h n F1 _) rfl rfl ?_
    refine k_icmp_ge (tgt := 169) C dX8_init_147 (by decide) (fun c => absurd c (nI_ge (by omega) (by decide))) (fun c => ?_)
    refine k_aload_n (j := 1) C dX8_init_150 rfl rfl ?_
    refine k_get (T := TX8) (N := 13) (j := 3) C dX8_init_151 inx8 rfl (Nat.le_of_ble_eq_true rfl) lk278 rfl (by omega) rfl ?_
    refine k_iload_n (j := 0) C dX8_init_154 rfl rfl ?_
    refine k_new (cj := 2) (T := TX2) (N := 3) (f0 := [.int 0, .int 0, .int 0]) C tyX2 dX8_init_155 inx2 tyX2_ok rfl lk135 lk257 lk86 (by intro j hj; rcases (show j = 0 ∨ j = 1 ∨ j = 2 by omega) with rfl | rfl | rfl <;> rfl) (by omega) (by show _ ≤ 290; omega) (by show _ ≤ 13525; omega) ?_
    refine k_dup C dX8_init_158 rfl ?_
    refine k_callIN (F2 := kup (tF G h n F1 j) (n + 280 + j) (.inr (2, [.int 0, .int 0, .int 0]))) (n1 := n + 280 + j + 1) C dX8_init_159 (mk_Fault _ (E2 := kup (kup (tF G h n F1 j) (n + 280 + j) (.inr (2, [.int 0, .int 0, .int 0]))) a (.inr (8, sThis h n))) (by omega) (by rw [kup_ne _ _ (by omega), kup_at]) (fun i hi => ?_)) lk258 lk259 lk86 lk260 ⟨rfl, rfl⟩ ⟨by decide +kernel, by decide +kernel, by decide +kernel⟩ rfl ⟨Nat.le_of_ble_eq_true rfl, Nat.le_of_ble_eq_true rfl⟩ (by show _ ≤ 290; omega) (by show _ ≤ 13525; omega) (by omega) (by omega) (Nat.le_of_ble_eq_true rfl) (fun i hi => rfl) ?_
    · simp only [kup]
      repeat' split
      all_goals first | rfl | omega | (exfalso; omega) | (subst_vars; rfl) | (subst_vars; exfalso; omega)
    refine k_aast (t := 4) (N := 10) (r := (RX2, TX2, 3)) (b := n + 7) (j := n + 280 + j) (cj := 2) (f := fun k => if k < j then some (h + (n + 280 + 1 * k)) else none) C dX8_init_162 (by omega) (by omega) (by omega) (by rw [kup_ne _ _ (by omega)]; exact tF_n G h n F1 j) rfl (by omega) (by omega) (kup_at _ _ _) rfl (vp_in_nI (by omega) (by decide)) ?_
    refine k_iinc (j := 0) (v := nI (j + 1)) (ls' := [(1, .int (nI (j + 1))), (0, .ref (h + a))]) C dX8_init_163 rfl (nI_1 j) (Nat.le_of_ble_eq_true rfl) rfl ?_
    refine k_goto (tgt := 141) C dX8_init_166 (by decide) ?_
    have e := upq h (n + 280) 1 j (by omega)
    rw [Nat.one_mul] at e
    refine k_F (F2 := tF G h n F1 (j + 1)) (fun i hi hia => ?_) (ih (j + 1) (by omega))
    rw [e]
    simp only [kup, tF]
    repeat' split
    all_goals first | rfl | omega | (exfalso; omega) | (subst_vars; rfl) | (subst_vars; exfalso; omega)
set_option maxRecDepth 100000 in
theorem mk_meters {M : xM} {G : xG} {h a n : Nat} {F0 E2 : Nat → va_E} (han : a < n) (C : kC (M, G, h, a, n, 2, 290, 13525, 8) RX8 cX8_init { frames := 3, cells := 290, slots := 13525, locals := 54 }) (hF : F0 (n + 7) = .inl (G.2.2 4, 10, .inr (.inr (.inr (.inr fun _ => none))))) (h2 : ∀ i : Nat, i < n + 290 → kup (tF G h n (sF G h n F0 8) 10) a (.inr (8, sThis h n)) i = E2 i) :
    ∀ d j : Nat, j + d = 8 → K (M, G, h, a, n, 2, 290, 13525, 8) (n + 290) E2 (sF G h n F0 j) (sThis h n) (n + 136 + 18 * j) (136 + 18 * j) (12807 + 86 * j) 111 [(1, .int (nI j)), (0, .ref (h + a))] [] := by
  intro d
  induction d with
  | zero =>
    intro j hj
    have hj : j = 8 := by omega
    subst hj
    refine k_iload_n (j := 0) C dX8_init_111 rfl rfl ?_
    refine k_aload_n (j := 1) C dX8_init_112 rfl rfl ?_
    refine k_get (T := TX8) (N := 13) (j := 0) C dX8_init_113 inx8 rfl (Nat.le_of_ble_eq_true rfl) lk275 rfl (by omega) rfl ?_
    refine k_alen (t := 5) (v := 8) C dX8_init_116 (by omega) (by omega) (sF_n G h n F0 _) rfl rfl ?_
    refine k_icmp_ge (tgt := 139) C dX8_init_117 (by decide) (fun c => ?_) (fun c => absurd (by decide) c)
    refine k_iconst (v := 0) C dX8_init_139 (by decide) ?_
    refine k_istore_n (ls' := [(1, .int 0), (0, .ref (h + a))]) C dX8_init_140 rfl (Nat.le_of_ble_eq_true rfl) rfl ?_
    refine k_F (F2 := tF G h n (sF G h n F0 8) 0) (fun i hi hia => ?_) (mk_faults han C h2 10 0 (by omega))
    by_cases q : i = n + 7
    · subst q
      rw [tF_n]
      unfold sF
      rw [if_neg (by omega), if_neg (by omega), hF]
      simp
    · unfold tF
      rw [if_neg q, if_neg (by omega)]
  | succ d ih =>
    intro j hj
    refine k_iload_n (j := 0) C dX8_init_111 rfl rfl ?_
    refine k_aload_n (j := 1) C dX8_init_112 rfl rfl ?_
    refine k_get (T := TX8) (N := 13) (j := 0) C dX8_init_113 inx8 rfl (Nat.le_of_ble_eq_true rfl) lk275 rfl (by omega) rfl ?_
    refine k_alen (t := 5) (v := nI 8) C dX8_init_116 (by omega) (by omega) (sF_n G h n F0 _) rfl rfl ?_
    refine k_icmp_ge (tgt := 139) C dX8_init_117 (by decide) (fun c => absurd c (nI_ge (by omega) (by decide))) (fun c => ?_)
    refine k_aload_n (j := 1) C dX8_init_120 rfl rfl ?_
    refine k_get (T := TX8) (N := 13) (j := 0) C dX8_init_121 inx8 rfl (Nat.le_of_ble_eq_true rfl) lk275 rfl (by omega) rfl ?_
    refine k_iload_n (j := 0) C dX8_init_124 rfl rfl ?_
    refine k_new (cj := 3) (T := TX3) (N := 6) (f0 := [.null, .int 0, .int 0, .int 0, .int 0, .int 0]) C tyX3 dX8_init_125 inx3 tyX3_ok rfl lk98 lk203 lk84 (by intro j hj; rcases (show j = 0 ∨ j = 1 ∨ j = 2 ∨ j = 3 ∨ j = 4 ∨ j = 5 by omega) with rfl | rfl | rfl | rfl | rfl | rfl <;> rfl) (by omega) (by show _ ≤ 290; omega) (by show _ ≤ 13525; omega) ?_
    refine k_dup C dX8_init_128 rfl ?_
    refine k_callIN (F2 := kup (mF G h (n + 136 + 18 * j + 1) (sF G h n F0 j) 16) (n + 136 + 18 * j) (.inr (3, [.ref (h + (n + 136 + 18 * j + 1)), .int 0, .int 0, .int 0, .int 0, .int 0]))) (n1 := n + 136 + 18 * j + 1 + 17) C dX8_init_129 (mk_Meter _ (E2 := kup (kup (mF G h (n + 136 + 18 * j + 1) (sF G h n F0 j) 16) (n + 136 + 18 * j) (.inr (3, [.ref (h + (n + 136 + 18 * j + 1)), .int 0, .int 0, .int 0, .int 0, .int 0]))) a (.inr (8, sThis h n))) (by omega) (by rw [kup_ne _ _ (by omega), kup_at]) (fun i hi => ?_)) lk204 lk205 lk84 lk206 ⟨rfl, rfl⟩ ⟨by decide +kernel, by decide +kernel, by decide +kernel⟩ rfl ⟨Nat.le_of_ble_eq_true rfl, Nat.le_of_ble_eq_true rfl⟩ (by show _ ≤ 290; omega) (by show _ ≤ 13525; omega) (by omega) (by omega) (Nat.le_of_ble_eq_true rfl) (fun i hi => rfl) ?_
    · rw [mF_kup (by omega), mF_kup (by omega), kup_comm (by omega)]
      generalize mF G h (n + 136 + 18 * j + 1) (sF G h n F0 j) 16 = F9
      simp only [kup]
      repeat' split
      all_goals first | rfl | omega | (exfalso; omega) | (subst_vars; rfl) | (subst_vars; exfalso; omega)
    refine k_aast (t := 5) (N := 8) (r := (RX3, TX3, 6)) (b := n) (j := n + 136 + 18 * j) (cj := 3) (f := fun k => if k < j then some (h + (n + 136 + 18 * k)) else none) C dX8_init_132 (by omega) (by omega) (by omega) (by rw [kup_ne _ _ (by omega)]; unfold mF; rw [if_neg (by omega), if_neg (by omega)]; exact sF_n G h n F0 j) rfl (by omega) (by omega) (kup_at _ _ _) rfl (vp_in_nI (by omega) (by decide)) ?_
    refine k_iinc (j := 0) (v := nI (j + 1)) (ls' := [(1, .int (nI (j + 1))), (0, .ref (h + a))]) C dX8_init_133 rfl (nI_1 j) (Nat.le_of_ble_eq_true rfl) rfl ?_
    refine k_goto (tgt := 111) C dX8_init_136 (by decide) ?_
    have e := upq h (n + 136) 18 j (by omega)
    refine k_widen (k1 := 136 + 18 * (j + 1)) (k2 := 12807 + 86 * (j + 1)) (by omega) (by omega) ?_
    refine k_F (F2 := sF G h n F0 (j + 1)) (fun i hi hia => ?_) (ih (j + 1) (by omega))
    rw [e]
    simp only [kup, sF, mF]
    repeat' split
    all_goals first | rfl | omega | (exfalso; omega) | (subst_vars; rfl) | (subst_vars; exfalso; omega)
/-- the bench's cells behind its rows -/
def bF (G : xG) (h n : Nat) (E : Nat → va_E) : Nat → va_E := (kup (pF G h (n + 15) (kup (kup (kup (kup (kup (kup (kup (kup (kup (kup (kup (kup (kup (kup (kup (kup (kup (kup E n (.inl (G.2.2 5, 8, .inr (.inr (.inr (.inr fun _ => none)))))) (n + 1) (.inr (7, [.null, .null, .int 0]))) (n + 2) (.inl (G.2.2 0, 4096, .inl fun _ => 0))) (n + 3) (.inl (G.2.2 1, 4251, .inr (.inl fun _ => 0)))) (n + 1) (.inr (7, [.ref (h + (n + 2)), .ref (h + (n + 3)), .int (-1)]))) (n + 4) (.inr (4, [.null, .null, .int 0]))) (n + 5) (.inl (G.2.2 0, 8, .inl fun _ => 0))) (n + 6) (.inl (G.2.2 0, 8, .inl fun _ => 0))) (n + 4) (.inr (4, [.ref (h + (n + 5)), .ref (h + (n + 6)), .int 0]))) (n + 7) (.inl (G.2.2 4, 10, .inr (.inr (.inr (.inr fun _ => none)))))) (n + 8) (.inl (G.2.2 0, 10, .inl fun _ => 0))) (n + 9) (.inl (G.2.2 0, 10, .inl fun _ => 0))) (n + 10) (.inr (1, [.null, .null, .null, .int 0, .int 0]))) (n + 11) (.inl (G.2.2 0, 1024, .inl fun _ => 0))) (n + 12) (.inl (G.2.2 0, 1024, .inl fun _ => 0))) (n + 13) (.inl (G.2.2 0, 1024, .inl fun _ => 0))) (n + 10) (.inr (1, [.ref (h + (n + 11)), .ref (h + (n + 12)), .ref (h + (n + 13)), .int 0, .int 0]))) (n + 14) (.inr (6, [.null, .int 0, .int 0]))) 60) (n + 14) (.inr (6, [.ref (h + (n + 15)), .int 0, .int 0])))
set_option maxRecDepth 100000 in
theorem mk_StepMeters (l : Launch) {G : xG} {h a n : Nat} {E E2 : Nat → va_E} (han : a < n) (hE : E a = .inr (8, [.null, .null, .null, .null, .null, .null, .null, .null, .int 0, .int 0, .int 0, .int 0, .int 0])) (h2 : ∀ i : Nat, i < (n + 290) → (kup (tF G h n (sF G h n (bF G h n E) 8) 10) a (.inr (8, sThis h n))) i = E2 i) : kMet l yX8_init (x_ws yX8_init cX8_init 2 none) { frames := 3, cells := 290, slots := 13525, locals := 54 } G h a n E (n + 290) E2 290 13525 := by
  refine kMet.of (by decide +kernel) rfl (Nat.le_of_ble_eq_true rfl) hE ?_
  intro M e1 C
  have C : kC (M, G, h, a, n, 2, 290, 13525, 8) RX8 cX8_init _ := C
  refine k_aload_n (j := 0) C dX8_init_0 rfl rfl ?_
  refine k_objInit C dX8_init_1 lk95 lk96 lk97 (Nat.le_of_ble_eq_true rfl) (Nat.le_of_ble_eq_true rfl) ?_
  refine k_aload_n (j := 0) C dX8_init_4 rfl rfl ?_
  refine k_bipush (v := 8) C dX8_init_5 (by decide) ?_
  refine k_newq (Cn := RX3) (t := 5) (N := 8) C dX8_init_7 (fun _ q => q.2.2.1) rfl lk98 (by decide) rfl (Nat.le_of_ble_eq_true rfl) (by omega) (Nat.le_of_ble_eq_true rfl) (Nat.le_of_ble_eq_true rfl) ?_
  refine k_putF (T := TX8) (N := 13) (j := 0) (ty := (.array (.object "StepMeters$Meter"))) C tyX8 dX8_init_10 inx8 tyX8_ok nmX8 rfl (Nat.le_of_ble_eq_true rfl) lk275 rfl rfl rfl (by decide +kernel) rfl rfl (by omega) (Nat.le_of_ble_eq_true rfl) ?_
  refine k_aload_n (j := 0) C dX8_init_13 rfl rfl ?_
  refine k_new (cj := 7) (T := TX7) (N := 3) (f0 := [.null, .null, .int 0]) C tyX7 dX8_init_14 inx7 tyX7_ok rfl lk100 lk101 lk79 (by intro j hj; rcases (show j = 0 ∨ j = 1 ∨ j = 2 by omega) with rfl | rfl | rfl <;> rfl) (by omega) (Nat.le_of_ble_eq_true rfl) (Nat.le_of_ble_eq_true rfl) ?_
  refine k_dup C dX8_init_17 rfl ?_
  refine k_callIN (F2 := (kup (kup (kup (kup (kup E n (.inl (G.2.2 5, 8, .inr (.inr (.inr (.inr fun _ => none)))))) (n + 1) (.inr (7, [.null, .null, .int 0]))) (n + 2) (.inl (G.2.2 0, 4096, .inl fun _ => 0))) (n + 3) (.inl (G.2.2 1, 4251, .inr (.inl fun _ => 0)))) (n + 1) (.inr (7, [.ref (h + (n + 2)), .ref (h + (n + 3)), .int (-1)])))) C dX8_init_18 (mk_Table _ (E2 := kup (kup (kup (kup (kup (kup E n (.inl (G.2.2 5, 8, .inr (.inr (.inr (.inr fun _ => none)))))) (n + 1) (.inr (7, [.null, .null, .int 0]))) (n + 2) (.inl (G.2.2 0, 4096, .inl fun _ => 0))) (n + 3) (.inl (G.2.2 1, 4251, .inr (.inl fun _ => 0)))) (n + 1) (.inr (7, [.ref (h + (n + 2)), .ref (h + (n + 3)), .int (-1)]))) a (.inr (8, [.ref (h + n), .null, .null, .null, .null, .null, .null, .null, .int 0, .int 0, .int 0, .int 0, .int 0]))) (by omega) (by rw [kup_ne _ _ (by omega), kup_at]) (fun i hi => ?_)) lk102 lk103 lk79 lk104 ⟨rfl, rfl⟩ ⟨by decide +kernel, by decide +kernel, by decide +kernel⟩ rfl ⟨Nat.le_of_ble_eq_true rfl, Nat.le_of_ble_eq_true rfl⟩ (Nat.le_of_ble_eq_true rfl) (Nat.le_of_ble_eq_true rfl) (by omega) (by omega) (Nat.le_of_ble_eq_true rfl) (fun i hi => rfl) ?_
  · generalize (kup (kup E n (.inl (G.2.2 5, 8, .inr (.inr (.inr (.inr fun _ => none)))))) (n + 1) (.inr (7, [.null, .null, .int 0]))) = F0
    simp only [kup, pF]
    repeat' split
    all_goals first | rfl | omega | (exfalso; omega) | (subst_vars; rfl) | (subst_vars; exfalso; omega)
  refine k_putF (T := TX8) (N := 13) (j := 1) (ty := (.object "StepMeters$Table")) C tyX8 dX8_init_21 inx8 tyX8_ok nmX8 rfl (Nat.le_of_ble_eq_true rfl) lk276 rfl rfl rfl (by decide +kernel) rfl rfl (by omega) (Nat.le_of_ble_eq_true rfl) ?_
  refine k_aload_n (j := 0) C dX8_init_24 rfl rfl ?_
  refine k_new (cj := 4) (T := TX4) (N := 3) (f0 := [.null, .null, .int 0]) C tyX4 dX8_init_25 inx4 tyX4_ok rfl lk118 lk119 lk80 (by intro j hj; rcases (show j = 0 ∨ j = 1 ∨ j = 2 by omega) with rfl | rfl | rfl <;> rfl) (by omega) (Nat.le_of_ble_eq_true rfl) (Nat.le_of_ble_eq_true rfl) ?_
  refine k_dup C dX8_init_28 rfl ?_
  refine k_callIN (F2 := (kup (kup (kup (kup (kup (kup (kup (kup (kup E n (.inl (G.2.2 5, 8, .inr (.inr (.inr (.inr fun _ => none)))))) (n + 1) (.inr (7, [.null, .null, .int 0]))) (n + 2) (.inl (G.2.2 0, 4096, .inl fun _ => 0))) (n + 3) (.inl (G.2.2 1, 4251, .inr (.inl fun _ => 0)))) (n + 1) (.inr (7, [.ref (h + (n + 2)), .ref (h + (n + 3)), .int (-1)]))) (n + 4) (.inr (4, [.null, .null, .int 0]))) (n + 5) (.inl (G.2.2 0, 8, .inl fun _ => 0))) (n + 6) (.inl (G.2.2 0, 8, .inl fun _ => 0))) (n + 4) (.inr (4, [.ref (h + (n + 5)), .ref (h + (n + 6)), .int 0])))) C dX8_init_29 (mk_Noise _ (E2 := kup (kup (kup (kup (kup (kup (kup (kup (kup (kup E n (.inl (G.2.2 5, 8, .inr (.inr (.inr (.inr fun _ => none)))))) (n + 1) (.inr (7, [.null, .null, .int 0]))) (n + 2) (.inl (G.2.2 0, 4096, .inl fun _ => 0))) (n + 3) (.inl (G.2.2 1, 4251, .inr (.inl fun _ => 0)))) (n + 1) (.inr (7, [.ref (h + (n + 2)), .ref (h + (n + 3)), .int (-1)]))) (n + 4) (.inr (4, [.null, .null, .int 0]))) (n + 5) (.inl (G.2.2 0, 8, .inl fun _ => 0))) (n + 6) (.inl (G.2.2 0, 8, .inl fun _ => 0))) (n + 4) (.inr (4, [.ref (h + (n + 5)), .ref (h + (n + 6)), .int 0]))) a (.inr (8, [.ref (h + n), .ref (h + (n + 1)), .null, .null, .null, .null, .null, .null, .int 0, .int 0, .int 0, .int 0, .int 0]))) (by omega) (by rw [kup_ne _ _ (by omega), kup_at]) (fun i hi => ?_)) lk120 lk121 lk80 lk122 ⟨rfl, rfl⟩ ⟨by decide +kernel, by decide +kernel, by decide +kernel⟩ rfl ⟨Nat.le_of_ble_eq_true rfl, Nat.le_of_ble_eq_true rfl⟩ (Nat.le_of_ble_eq_true rfl) (Nat.le_of_ble_eq_true rfl) (by omega) (by omega) (Nat.le_of_ble_eq_true rfl) (fun i hi => rfl) ?_
  · generalize (kup (kup (kup (kup (kup (kup E n (.inl (G.2.2 5, 8, .inr (.inr (.inr (.inr fun _ => none)))))) (n + 1) (.inr (7, [.null, .null, .int 0]))) (n + 2) (.inl (G.2.2 0, 4096, .inl fun _ => 0))) (n + 3) (.inl (G.2.2 1, 4251, .inr (.inl fun _ => 0)))) (n + 1) (.inr (7, [.ref (h + (n + 2)), .ref (h + (n + 3)), .int (-1)]))) (n + 4) (.inr (4, [.null, .null, .int 0]))) = F0
    simp only [kup, pF]
    repeat' split
    all_goals first | rfl | omega | (exfalso; omega) | (subst_vars; rfl) | (subst_vars; exfalso; omega)
  refine k_putF (T := TX8) (N := 13) (j := 2) (ty := (.object "StepMeters$Noise")) C tyX8 dX8_init_32 inx8 tyX8_ok nmX8 rfl (Nat.le_of_ble_eq_true rfl) lk277 rfl rfl rfl (by decide +kernel) rfl rfl (by omega) (Nat.le_of_ble_eq_true rfl) ?_
  refine k_aload_n (j := 0) C dX8_init_35 rfl rfl ?_
  refine k_bipush (v := 10) C dX8_init_36 (by decide) ?_
  refine k_newq (Cn := RX2) (t := 4) (N := 10) C dX8_init_38 (fun _ q => q.2.1) rfl lk135 (by decide) rfl (Nat.le_of_ble_eq_true rfl) (by omega) (Nat.le_of_ble_eq_true rfl) (Nat.le_of_ble_eq_true rfl) ?_
  refine k_putF (T := TX8) (N := 13) (j := 3) (ty := (.array (.object "StepMeters$Fault"))) C tyX8 dX8_init_41 inx8 tyX8_ok nmX8 rfl (Nat.le_of_ble_eq_true rfl) lk278 rfl rfl rfl (by decide +kernel) rfl rfl (by omega) (Nat.le_of_ble_eq_true rfl) ?_
  refine k_aload_n (j := 0) C dX8_init_44 rfl rfl ?_
  refine k_bipush (v := 10) C dX8_init_45 (by decide) ?_
  refine k_newa (t := 0) (ty := .int) (N := 10) (a0 := (10, .inl fun _ => 0)) C dX8_init_47 rfl (fun _ _ q => q) rfl lk116 rfl (by decide) rfl (Nat.le_of_ble_eq_true rfl) (by omega) (Nat.le_of_ble_eq_true rfl) (Nat.le_of_ble_eq_true rfl) ?_
  refine k_putF (T := TX8) (N := 13) (j := 4) (ty := (.array .int)) C tyX8 dX8_init_49 inx8 tyX8_ok nmX8 rfl (Nat.le_of_ble_eq_true rfl) lk279 rfl rfl rfl (by decide +kernel) rfl rfl (by omega) (Nat.le_of_ble_eq_true rfl) ?_
  refine k_aload_n (j := 0) C dX8_init_52 rfl rfl ?_
  refine k_bipush (v := 10) C dX8_init_53 (by decide) ?_
  refine k_newa (t := 0) (ty := .int) (N := 10) (a0 := (10, .inl fun _ => 0)) C dX8_init_55 rfl (fun _ _ q => q) rfl lk116 rfl (by decide) rfl (Nat.le_of_ble_eq_true rfl) (by omega) (Nat.le_of_ble_eq_true rfl) (Nat.le_of_ble_eq_true rfl) ?_
  refine k_putF (T := TX8) (N := 13) (j := 5) (ty := (.array .int)) C tyX8 dX8_init_57 inx8 tyX8_ok nmX8 rfl (Nat.le_of_ble_eq_true rfl) lk280 rfl rfl rfl (by decide +kernel) rfl rfl (by omega) (Nat.le_of_ble_eq_true rfl) ?_
  refine k_aload_n (j := 0) C dX8_init_60 rfl rfl ?_
  refine k_new (cj := 1) (T := TX1) (N := 5) (f0 := [.null, .null, .null, .int 0, .int 0]) C tyX1 dX8_init_61 inx1 tyX1_ok rfl lk137 lk138 lk81 (by intro j hj; rcases (show j = 0 ∨ j = 1 ∨ j = 2 ∨ j = 3 ∨ j = 4 by omega) with rfl | rfl | rfl | rfl | rfl <;> rfl) (by omega) (Nat.le_of_ble_eq_true rfl) (Nat.le_of_ble_eq_true rfl) ?_
  refine k_dup C dX8_init_64 rfl ?_
  refine k_callIN (F2 := (kup (kup (kup (kup (kup (kup (kup (kup (kup (kup (kup (kup (kup (kup (kup (kup (kup E n (.inl (G.2.2 5, 8, .inr (.inr (.inr (.inr fun _ => none)))))) (n + 1) (.inr (7, [.null, .null, .int 0]))) (n + 2) (.inl (G.2.2 0, 4096, .inl fun _ => 0))) (n + 3) (.inl (G.2.2 1, 4251, .inr (.inl fun _ => 0)))) (n + 1) (.inr (7, [.ref (h + (n + 2)), .ref (h + (n + 3)), .int (-1)]))) (n + 4) (.inr (4, [.null, .null, .int 0]))) (n + 5) (.inl (G.2.2 0, 8, .inl fun _ => 0))) (n + 6) (.inl (G.2.2 0, 8, .inl fun _ => 0))) (n + 4) (.inr (4, [.ref (h + (n + 5)), .ref (h + (n + 6)), .int 0]))) (n + 7) (.inl (G.2.2 4, 10, .inr (.inr (.inr (.inr fun _ => none)))))) (n + 8) (.inl (G.2.2 0, 10, .inl fun _ => 0))) (n + 9) (.inl (G.2.2 0, 10, .inl fun _ => 0))) (n + 10) (.inr (1, [.null, .null, .null, .int 0, .int 0]))) (n + 11) (.inl (G.2.2 0, 1024, .inl fun _ => 0))) (n + 12) (.inl (G.2.2 0, 1024, .inl fun _ => 0))) (n + 13) (.inl (G.2.2 0, 1024, .inl fun _ => 0))) (n + 10) (.inr (1, [.ref (h + (n + 11)), .ref (h + (n + 12)), .ref (h + (n + 13)), .int 0, .int 0])))) C dX8_init_65 (mk_Cover _ (E2 := kup (kup (kup (kup (kup (kup (kup (kup (kup (kup (kup (kup (kup (kup (kup (kup (kup (kup E n (.inl (G.2.2 5, 8, .inr (.inr (.inr (.inr fun _ => none)))))) (n + 1) (.inr (7, [.null, .null, .int 0]))) (n + 2) (.inl (G.2.2 0, 4096, .inl fun _ => 0))) (n + 3) (.inl (G.2.2 1, 4251, .inr (.inl fun _ => 0)))) (n + 1) (.inr (7, [.ref (h + (n + 2)), .ref (h + (n + 3)), .int (-1)]))) (n + 4) (.inr (4, [.null, .null, .int 0]))) (n + 5) (.inl (G.2.2 0, 8, .inl fun _ => 0))) (n + 6) (.inl (G.2.2 0, 8, .inl fun _ => 0))) (n + 4) (.inr (4, [.ref (h + (n + 5)), .ref (h + (n + 6)), .int 0]))) (n + 7) (.inl (G.2.2 4, 10, .inr (.inr (.inr (.inr fun _ => none)))))) (n + 8) (.inl (G.2.2 0, 10, .inl fun _ => 0))) (n + 9) (.inl (G.2.2 0, 10, .inl fun _ => 0))) (n + 10) (.inr (1, [.null, .null, .null, .int 0, .int 0]))) (n + 11) (.inl (G.2.2 0, 1024, .inl fun _ => 0))) (n + 12) (.inl (G.2.2 0, 1024, .inl fun _ => 0))) (n + 13) (.inl (G.2.2 0, 1024, .inl fun _ => 0))) (n + 10) (.inr (1, [.ref (h + (n + 11)), .ref (h + (n + 12)), .ref (h + (n + 13)), .int 0, .int 0]))) a (.inr (8, [.ref (h + n), .ref (h + (n + 1)), .ref (h + (n + 4)), .ref (h + (n + 7)), .ref (h + (n + 8)), .ref (h + (n + 9)), .null, .null, .int 0, .int 0, .int 0, .int 0, .int 0]))) (by omega) (by rw [kup_ne _ _ (by omega), kup_at]) (fun i hi => ?_)) lk139 lk140 lk81 lk141 ⟨rfl, rfl⟩ ⟨by decide +kernel, by decide +kernel, by decide +kernel⟩ rfl ⟨Nat.le_of_ble_eq_true rfl, Nat.le_of_ble_eq_true rfl⟩ (Nat.le_of_ble_eq_true rfl) (Nat.le_of_ble_eq_true rfl) (by omega) (by omega) (Nat.le_of_ble_eq_true rfl) (fun i hi => rfl) ?_
  · generalize (kup (kup (kup (kup (kup (kup (kup (kup (kup (kup (kup (kup (kup E n (.inl (G.2.2 5, 8, .inr (.inr (.inr (.inr fun _ => none)))))) (n + 1) (.inr (7, [.null, .null, .int 0]))) (n + 2) (.inl (G.2.2 0, 4096, .inl fun _ => 0))) (n + 3) (.inl (G.2.2 1, 4251, .inr (.inl fun _ => 0)))) (n + 1) (.inr (7, [.ref (h + (n + 2)), .ref (h + (n + 3)), .int (-1)]))) (n + 4) (.inr (4, [.null, .null, .int 0]))) (n + 5) (.inl (G.2.2 0, 8, .inl fun _ => 0))) (n + 6) (.inl (G.2.2 0, 8, .inl fun _ => 0))) (n + 4) (.inr (4, [.ref (h + (n + 5)), .ref (h + (n + 6)), .int 0]))) (n + 7) (.inl (G.2.2 4, 10, .inr (.inr (.inr (.inr fun _ => none)))))) (n + 8) (.inl (G.2.2 0, 10, .inl fun _ => 0))) (n + 9) (.inl (G.2.2 0, 10, .inl fun _ => 0))) (n + 10) (.inr (1, [.null, .null, .null, .int 0, .int 0]))) = F0
    simp only [kup, pF]
    repeat' split
    all_goals first | rfl | omega | (exfalso; omega) | (subst_vars; rfl) | (subst_vars; exfalso; omega)
  refine k_putF (T := TX8) (N := 13) (j := 6) (ty := (.object "StepMeters$Cover")) C tyX8 dX8_init_68 inx8 tyX8_ok nmX8 rfl (Nat.le_of_ble_eq_true rfl) lk281 rfl rfl rfl (by decide +kernel) rfl rfl (by omega) (Nat.le_of_ble_eq_true rfl) ?_
  refine k_aload_n (j := 0) C dX8_init_71 rfl rfl ?_
  refine k_new (cj := 6) (T := TX6) (N := 3) (f0 := [.null, .int 0, .int 0]) C tyX6 dX8_init_72 inx6 tyX6_ok rfl lk159 lk160 lk82 (by intro j hj; rcases (show j = 0 ∨ j = 1 ∨ j = 2 by omega) with rfl | rfl | rfl <;> rfl) (by omega) (Nat.le_of_ble_eq_true rfl) (Nat.le_of_ble_eq_true rfl) ?_
  refine k_dup C dX8_init_75 rfl ?_
  refine k_callIN (F2 := (kup (pF G h (n + 15) (kup (kup (kup (kup (kup (kup (kup (kup (kup (kup (kup (kup (kup (kup (kup (kup (kup (kup E n (.inl (G.2.2 5, 8, .inr (.inr (.inr (.inr fun _ => none)))))) (n + 1) (.inr (7, [.null, .null, .int 0]))) (n + 2) (.inl (G.2.2 0, 4096, .inl fun _ => 0))) (n + 3) (.inl (G.2.2 1, 4251, .inr (.inl fun _ => 0)))) (n + 1) (.inr (7, [.ref (h + (n + 2)), .ref (h + (n + 3)), .int (-1)]))) (n + 4) (.inr (4, [.null, .null, .int 0]))) (n + 5) (.inl (G.2.2 0, 8, .inl fun _ => 0))) (n + 6) (.inl (G.2.2 0, 8, .inl fun _ => 0))) (n + 4) (.inr (4, [.ref (h + (n + 5)), .ref (h + (n + 6)), .int 0]))) (n + 7) (.inl (G.2.2 4, 10, .inr (.inr (.inr (.inr fun _ => none)))))) (n + 8) (.inl (G.2.2 0, 10, .inl fun _ => 0))) (n + 9) (.inl (G.2.2 0, 10, .inl fun _ => 0))) (n + 10) (.inr (1, [.null, .null, .null, .int 0, .int 0]))) (n + 11) (.inl (G.2.2 0, 1024, .inl fun _ => 0))) (n + 12) (.inl (G.2.2 0, 1024, .inl fun _ => 0))) (n + 13) (.inl (G.2.2 0, 1024, .inl fun _ => 0))) (n + 10) (.inr (1, [.ref (h + (n + 11)), .ref (h + (n + 12)), .ref (h + (n + 13)), .int 0, .int 0]))) (n + 14) (.inr (6, [.null, .int 0, .int 0]))) 60) (n + 14) (.inr (6, [.ref (h + (n + 15)), .int 0, .int 0])))) C dX8_init_76 (mk_Past _ (E2 := kup (kup (pF G h (n + 15) (kup (kup (kup (kup (kup (kup (kup (kup (kup (kup (kup (kup (kup (kup (kup (kup (kup (kup E n (.inl (G.2.2 5, 8, .inr (.inr (.inr (.inr fun _ => none)))))) (n + 1) (.inr (7, [.null, .null, .int 0]))) (n + 2) (.inl (G.2.2 0, 4096, .inl fun _ => 0))) (n + 3) (.inl (G.2.2 1, 4251, .inr (.inl fun _ => 0)))) (n + 1) (.inr (7, [.ref (h + (n + 2)), .ref (h + (n + 3)), .int (-1)]))) (n + 4) (.inr (4, [.null, .null, .int 0]))) (n + 5) (.inl (G.2.2 0, 8, .inl fun _ => 0))) (n + 6) (.inl (G.2.2 0, 8, .inl fun _ => 0))) (n + 4) (.inr (4, [.ref (h + (n + 5)), .ref (h + (n + 6)), .int 0]))) (n + 7) (.inl (G.2.2 4, 10, .inr (.inr (.inr (.inr fun _ => none)))))) (n + 8) (.inl (G.2.2 0, 10, .inl fun _ => 0))) (n + 9) (.inl (G.2.2 0, 10, .inl fun _ => 0))) (n + 10) (.inr (1, [.null, .null, .null, .int 0, .int 0]))) (n + 11) (.inl (G.2.2 0, 1024, .inl fun _ => 0))) (n + 12) (.inl (G.2.2 0, 1024, .inl fun _ => 0))) (n + 13) (.inl (G.2.2 0, 1024, .inl fun _ => 0))) (n + 10) (.inr (1, [.ref (h + (n + 11)), .ref (h + (n + 12)), .ref (h + (n + 13)), .int 0, .int 0]))) (n + 14) (.inr (6, [.null, .int 0, .int 0]))) 60) (n + 14) (.inr (6, [.ref (h + (n + 15)), .int 0, .int 0]))) a (.inr (8, [.ref (h + n), .ref (h + (n + 1)), .ref (h + (n + 4)), .ref (h + (n + 7)), .ref (h + (n + 8)), .ref (h + (n + 9)), .ref (h + (n + 10)), .null, .int 0, .int 0, .int 0, .int 0, .int 0]))) (by omega) (by rw [kup_ne _ _ (by omega), kup_at]) (fun i hi => ?_)) lk161 lk162 lk82 lk163 ⟨rfl, rfl⟩ ⟨by decide +kernel, by decide +kernel, by decide +kernel⟩ rfl ⟨Nat.le_of_ble_eq_true rfl, Nat.le_of_ble_eq_true rfl⟩ (Nat.le_of_ble_eq_true rfl) (Nat.le_of_ble_eq_true rfl) (by omega) (by omega) (Nat.le_of_ble_eq_true rfl) (fun i hi => rfl) ?_
  · generalize (kup (kup (kup (kup (kup (kup (kup (kup (kup (kup (kup (kup (kup (kup (kup (kup (kup (kup E n (.inl (G.2.2 5, 8, .inr (.inr (.inr (.inr fun _ => none)))))) (n + 1) (.inr (7, [.null, .null, .int 0]))) (n + 2) (.inl (G.2.2 0, 4096, .inl fun _ => 0))) (n + 3) (.inl (G.2.2 1, 4251, .inr (.inl fun _ => 0)))) (n + 1) (.inr (7, [.ref (h + (n + 2)), .ref (h + (n + 3)), .int (-1)]))) (n + 4) (.inr (4, [.null, .null, .int 0]))) (n + 5) (.inl (G.2.2 0, 8, .inl fun _ => 0))) (n + 6) (.inl (G.2.2 0, 8, .inl fun _ => 0))) (n + 4) (.inr (4, [.ref (h + (n + 5)), .ref (h + (n + 6)), .int 0]))) (n + 7) (.inl (G.2.2 4, 10, .inr (.inr (.inr (.inr fun _ => none)))))) (n + 8) (.inl (G.2.2 0, 10, .inl fun _ => 0))) (n + 9) (.inl (G.2.2 0, 10, .inl fun _ => 0))) (n + 10) (.inr (1, [.null, .null, .null, .int 0, .int 0]))) (n + 11) (.inl (G.2.2 0, 1024, .inl fun _ => 0))) (n + 12) (.inl (G.2.2 0, 1024, .inl fun _ => 0))) (n + 13) (.inl (G.2.2 0, 1024, .inl fun _ => 0))) (n + 10) (.inr (1, [.ref (h + (n + 11)), .ref (h + (n + 12)), .ref (h + (n + 13)), .int 0, .int 0]))) (n + 14) (.inr (6, [.null, .int 0, .int 0]))) = F0
    simp only [kup, pF]
    repeat' split
    all_goals first | rfl | omega | (exfalso; omega) | (subst_vars; rfl) | (subst_vars; exfalso; omega)
  refine k_putF (T := TX8) (N := 13) (j := 7) (ty := (.object "StepMeters$Past")) C tyX8 dX8_init_79 inx8 tyX8_ok nmX8 rfl (Nat.le_of_ble_eq_true rfl) lk282 rfl rfl rfl (by decide +kernel) rfl rfl (by omega) (Nat.le_of_ble_eq_true rfl) ?_
  refine k_aload_n (j := 0) C dX8_init_82 rfl rfl ?_
  refine k_sipush (v := 255) C dX8_init_83 (by decide) ?_
  refine k_put (T := TX8) (N := 13) (j := 8) (ty := .int) C tyX8 dX8_init_86 inx8 tyX8_ok nmX8 rfl (Nat.le_of_ble_eq_true rfl) lk283 rfl rfl (by decide +kernel) rfl rfl (by omega) (Nat.le_of_ble_eq_true rfl) ?_
  refine k_aload_n (j := 0) C dX8_init_89 rfl rfl ?_
  refine k_iconst (v := 0) C dX8_init_90 (by decide) ?_
  refine k_put (T := TX8) (N := 13) (j := 9) (ty := .int) C tyX8 dX8_init_91 inx8 tyX8_ok nmX8 rfl (Nat.le_of_ble_eq_true rfl) lk284 rfl rfl (by decide +kernel) rfl rfl (by omega) (Nat.le_of_ble_eq_true rfl) ?_
  refine k_aload_n (j := 0) C dX8_init_94 rfl rfl ?_
  refine k_iconst (v := 0) C dX8_init_95 (by decide) ?_
  refine k_put (T := TX8) (N := 13) (j := 10) (ty := .int) C tyX8 dX8_init_96 inx8 tyX8_ok nmX8 rfl (Nat.le_of_ble_eq_true rfl) lk285 rfl rfl (by decide +kernel) rfl rfl (by omega) (Nat.le_of_ble_eq_true rfl) ?_
  refine k_aload_n (j := 0) C dX8_init_99 rfl rfl ?_
  refine k_iconst (v := 0) C dX8_init_100 (by decide) ?_
  refine k_put (T := TX8) (N := 13) (j := 11) (ty := .int) C tyX8 dX8_init_101 inx8 tyX8_ok nmX8 rfl (Nat.le_of_ble_eq_true rfl) lk286 rfl rfl (by decide +kernel) rfl rfl (by omega) (Nat.le_of_ble_eq_true rfl) ?_
  refine k_aload_n (j := 0) C dX8_init_104 rfl rfl ?_
  refine k_iconst (v := (-1)) C dX8_init_105 (by decide) ?_
  refine k_put (T := TX8) (N := 13) (j := 12) (ty := .int) C tyX8 dX8_init_106 inx8 tyX8_ok nmX8 rfl (Nat.le_of_ble_eq_true rfl) lk287 rfl rfl (by decide +kernel) rfl rfl (by omega) (Nat.le_of_ble_eq_true rfl) ?_
  refine k_iconst (v := 0) C dX8_init_109 (by decide) ?_
  refine k_istore_n (ls' := [(1, .int 0), (0, .ref (h + a))]) C dX8_init_110 rfl (Nat.le_of_ble_eq_true rfl) rfl ?_
  refine k_F (F2 := sF G h n (bF G h n E) 0) (fun i hi hia => ?_) (mk_meters (F0 := bF G h n E) han C ?_ h2 8 0 (by omega))
  · show bF G h n E i = _
    by_cases q : i = n
    · subst q
      rw [sF_n]
      simp [bF, pF, kup]
      intro z
      omega
    · unfold sF
      rw [if_neg q, if_neg (by omega)]
  · simp [bF, pF, kup]
