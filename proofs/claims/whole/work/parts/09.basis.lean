/-! What the methods' functions are written with: loops with fuel, filled rows; rooms; the JDK's Arrays.fill -/
def iter {α : Type} (b : α → α) (z : α) : Nat → α
  | 0 => z
  | n + 1 => b (iter b z n)
theorem nar01 {v : Int32} (h : v = 0 ∨ v = 1) : narrow .boolean (.int v) = .int v := by
  rcases h with rfl | rfl <;> rfl
theorem va_cat (q : Option Nat) : (va_rf q).category = 1 := by
  cases q <;> rfl
theorem x_room {Y : xY} {F LO f lo mL : Nat} (R : xR Y = xrm F LO) (h : (Nat.ble (f + 1) F && Nat.ble (8 + (mL + 11) + lo) LO) = true) : (xrm f lo).frames + 1 ≤ (xR Y).frames ∧ 8 + (mL + 11) + (xrm f lo).locals ≤ (xR Y).locals := by
  rw [R]
  simp only [Bool.and_eq_true] at h
  exact ⟨Nat.le_of_ble_eq_true h.1, Nat.le_of_ble_eq_true h.2⟩
theorem x_rf {Y : xY} {F LO : Nat} (R : xR Y = xrm F LO) (h : Nat.ble 1 F = true) : 1 ≤ (xR Y).frames := by
  rw [R]; exact Nat.le_of_ble_eq_true h
theorem x_rl {Y : xY} {F LO : Nat} {st : List Value} (R : xR Y = xrm F LO) (h : Nat.ble ((st.map fun v => v.category).sum + 13) LO = true) : (st.map fun v => v.category).sum + 13 ≤ (xR Y).locals := by
  rw [R]; exact Nat.le_of_ble_eq_true h
def cfi (s : cS) (f n : Nat) (v : Int32) : cS := (fun a b => if a = f ∧ b < n then v else s.1 a b, s.2)
def cfl (s : cS) (v : Int64) : cS := (s.1, fun b => if b < 4251 then v else s.2.1 b, s.2.2)
def xfi (f : Nat → Int32) (v : Int32) (j : Nat) : Nat → Int32 := fun q => if q < j then v else f q
def xfl (f : Nat → Int64) (v : Int64) (j : Nat) : Nat → Int64 := fun q => if q < j then v else f q
theorem xfi_s (f : Nat → Int32) (v : Int32) (j : Nat) : upd (xfi f v j) j v = xfi f v (j + 1) := by
  funext q
  simp only [upd, xfi]
  by_cases h : q = j
  · subst h; simp
  · by_cases h2 : q < j
    · rw [if_neg h, if_pos h2, if_pos (by omega)]
    · rw [if_neg h, if_neg h2, if_neg (by omega)]
theorem xfl_s (f : Nat → Int64) (v : Int64) (j : Nat) : vp_updL (xfl f v j) j v = xfl f v (j + 1) := by
  funext q
  simp only [vp_updL, xfl]
  by_cases h : q = j
  · subst h; simp
  · by_cases h2 : q < j
    · rw [if_neg h, if_pos h2, if_pos (by omega)]
    · rw [if_neg h, if_neg h2, if_neg (by omega)]
theorem xup_xup (E : xE) (k i : Nat) (a b : va_E) : xup (xup E k i a) k i b = xup E k i b := by
  funext x y
  simp only [xup]
  by_cases h : x = k ∧ y = i
  · rw [if_pos h, if_pos h]
  · rw [if_neg h, if_neg h, if_neg h]
theorem xup_at (E : xE) (k i : Nat) (a : va_E) : xup E k i a k i = a := by simp [xup]
theorem xup_self (E : xE) (k i : Nat) : xup E k i (E k i) = E := by
  funext x y
  simp only [xup]
  by_cases h : x = k ∧ y = i
  · rw [if_pos h, h.1, h.2]
  · rw [if_neg h]
theorem inB_nI {j n : Nat} (h : j < n) (hn : n < 2 ^ 31) : inB (nI j) n = true := by
  simp only [inB, Bool.and_eq_true, decide_eq_true_eq]
  exact ⟨nI_pos' (by omega), by rw [nI_clamp (by omega)]; exact h⟩
section FI
variable {M : xM} {G : xG} {dom : xD} {E E2 : xE} {k n : Nat}
set_option maxRecDepth 100000 in
theorem fill_i_loop {f : Nat → Int32} {v : Int32} (C : xC (M, G, dom, 4) RJ7 cJ7_fill_53178 none) (hd : dom k 0 = true) (hn : n < 2 ^ 31) (h2 : ∀ a b : Nat, dom a b = true → xup E k 0 (.inl (G.2.2 0, n, .inl (xfi f v n))) a b = E2 a b) :
    ∀ d j : Nat, j + d = n → X (M, G, dom, 4) none E2 (xup E k 0 (.inl (G.2.2 0, n, .inl (xfi f v j)))) 5 [(3, .int (nI n)), (2, .int (nI j)), (0, .ref (G.2.1 k 0)), (1, .int v)] [] := by
  intro d
  induction d with
  | zero =>
    intro j hj
    have hj : j = n := by omega
    subst hj
    refine x_iload_n (j := 1) C dJ7_fill_53178_5 rfl rfl ?_
    refine x_iload_n (j := 0) C dJ7_fill_53178_6 rfl rfl ?_
    refine x_icmp_ge (tgt := 20) C dJ7_fill_53178_7 (by decide) (fun c => ?_) (fun c => absurd (Int32.le_refl _) c)
    exact x_E h2 (x_vret C dJ7_fill_53178_20)
  | succ d ih =>
    intro j hj
    refine x_iload_n (j := 1) C dJ7_fill_53178_5 rfl rfl ?_
    refine x_iload_n (j := 0) C dJ7_fill_53178_6 rfl rfl ?_
    refine x_icmp_ge (tgt := 20) C dJ7_fill_53178_7 (by decide) (fun c => absurd c (nI_ge (by omega) hn)) (fun c => ?_)
    refine x_aload_n (j := 2) C dJ7_fill_53178_10 rfl rfl ?_
    refine x_iload_n (j := 1) C dJ7_fill_53178_11 rfl rfl ?_
    refine x_iload_n (j := 3) C dJ7_fill_53178_12 rfl rfl ?_
    refine x_iast (n := n) (f := xfi f v j) C dJ7_fill_53178_13 hd (xup_at _ _ _ _) (inB_nI (by omega) hn) ?_
    rw [xup_xup, nI_clamp (by omega), xfi_s]
    refine x_iinc (j := 1) (v := nI (j + 1)) (ls' := [(2, .int (nI (j + 1))), (3, .int (nI n)), (0, .ref (G.2.1 k 0)), (1, .int v)]) C dJ7_fill_53178_14 rfl (nI_1 j) (Nat.le_of_ble_eq_true rfl) rfl ?_
    refine x_goto (tgt := 5) C dJ7_fill_53178_17 (by decide) ?_
    exact x_sub [1, 0, 2, 3] rfl (ih (j + 1) (by omega))
set_option maxRecDepth 100000 in
theorem fill_i (l : Launch) {f : Nat → Int32} {v : Int32} (hd : dom k 0 = true) (he : E k 0 = .inl (G.2.2 0, n, .inl f)) (hn : n < 2 ^ 31) (h2 : ∀ a b : Nat, dom a b = true → xup E k 0 (.inl (G.2.2 0, n, .inl (xfi f v n))) a b = E2 a b) :
    xMet l yJ7_fill_53178 (x_ws yJ7_fill_53178 cJ7_fill_53178 4 none) (xrm 0 0) G dom [.ref (G.2.1 k 0), .int v] E none E2 := by
  refine xMet.of (by decide +kernel) (Nat.le_of_ble_eq_true rfl) ?_
  rintro ⟨M, G', dom', n'⟩ e1 R e3 e4 e5 C
  change G' = G at e3; change dom' = dom at e4; change n' = 4 at e5
  subst e3; subst e4; subst e5
  have C : xC (M, G', dom', 4) RJ7 cJ7_fill_53178 none := C
  change X (M, G', dom', 4) none E2 E 0 [(0, .ref (G'.2.1 k 0)), (1, .int v)] []
  refine x_iconst (v := 0) C dJ7_fill_53178_0 (by decide) ?_
  refine x_istore_n (ls' := [(2, .int 0), (0, .ref (G'.2.1 k 0)), (1, .int v)]) C dJ7_fill_53178_1 rfl (Nat.le_of_ble_eq_true rfl) rfl ?_
  refine x_aload_n (j := 1) C dJ7_fill_53178_2 rfl rfl ?_
  refine x_alen (t := 0) (ty := .int) C dJ7_fill_53178_3 hd he rfl rfl ?_
  refine x_istore_n (ls' := [(3, .int (nI n)), (2, .int 0), (0, .ref (G'.2.1 k 0)), (1, .int v)]) C dJ7_fill_53178_4 rfl (Nat.le_of_ble_eq_true rfl) rfl ?_
  have h := fill_i_loop (f := f) C hd hn h2 n 0 (by omega)
  have e : xfi f v 0 = f := by funext q; simp [xfi]
  rw [e, ← he, xup_self] at h
  exact h
set_option maxRecDepth 100000 in
theorem fill_l_loop {f : Nat → Int64} {v : Int64} (C : xC (M, G, dom, 5) RJ7 cJ7_fill_d0a16 none) (hd : dom k 0 = true) (hn : n < 2 ^ 31) (h2 : ∀ a b : Nat, dom a b = true → xup E k 0 (.inl (G.2.2 1, n, .inr (.inl (xfl f v n)))) a b = E2 a b) :
    ∀ d j : Nat, j + d = n → X (M, G, dom, 5) none E2 (xup E k 0 (.inl (G.2.2 1, n, .inr (.inl (xfl f v j))))) 6 [(4, .int (nI n)), (3, .int (nI j)), (0, .ref (G.2.1 k 0)), (1, .long v)] [] := by
  intro d
  induction d with
  | zero =>
    intro j hj
    have hj : j = n := by omega
    subst hj
    refine x_iload_n (j := 1) C dJ7_fill_d0a16_6 rfl rfl ?_
    refine x_iload (j := 0) C dJ7_fill_d0a16_7 rfl ?_
    refine x_icmp_ge (tgt := 22) C dJ7_fill_d0a16_9 (by decide) (fun c => ?_) (fun c => absurd (Int32.le_refl _) c)
    exact x_E h2 (x_vret C dJ7_fill_d0a16_22)
  | succ d ih =>
    intro j hj
    refine x_iload_n (j := 1) C dJ7_fill_d0a16_6 rfl rfl ?_
    refine x_iload (j := 0) C dJ7_fill_d0a16_7 rfl ?_
    refine x_icmp_ge (tgt := 22) C dJ7_fill_d0a16_9 (by decide) (fun c => absurd c (nI_ge (by omega) hn)) (fun c => ?_)
    refine x_aload_n (j := 2) C dJ7_fill_d0a16_12 rfl rfl ?_
    refine x_iload_n (j := 1) C dJ7_fill_d0a16_13 rfl rfl ?_
    refine x_lload_n (j := 3) C dJ7_fill_d0a16_14 rfl rfl ?_
    refine x_last (n := n) (f := xfl f v j) C dJ7_fill_d0a16_15 hd (xup_at _ _ _ _) (inB_nI (by omega) hn) ?_
    rw [xup_xup, nI_clamp (by omega), xfl_s]
    refine x_iinc (j := 1) (v := nI (j + 1)) (ls' := [(3, .int (nI (j + 1))), (4, .int (nI n)), (0, .ref (G.2.1 k 0)), (1, .long v)]) C dJ7_fill_d0a16_16 rfl (nI_1 j) (Nat.le_of_ble_eq_true rfl) rfl ?_
    refine x_goto (tgt := 6) C dJ7_fill_d0a16_19 (by decide) ?_
    exact x_sub [1, 0, 2, 3] rfl (ih (j + 1) (by omega))
set_option maxRecDepth 100000 in
theorem fill_long (l : Launch) {f : Nat → Int64} {v : Int64} (hd : dom k 0 = true) (he : E k 0 = .inl (G.2.2 1, n, .inr (.inl f))) (hn : n < 2 ^ 31) (h2 : ∀ a b : Nat, dom a b = true → xup E k 0 (.inl (G.2.2 1, n, .inr (.inl (xfl f v n)))) a b = E2 a b) :
    xMet l yJ7_fill_d0a16 (x_ws yJ7_fill_d0a16 cJ7_fill_d0a16 5 none) (xrm 0 0) G dom [.ref (G.2.1 k 0), .long v] E none E2 := by
  refine xMet.of (by decide +kernel) (Nat.le_of_ble_eq_true rfl) ?_
  rintro ⟨M, G', dom', n'⟩ e1 R e3 e4 e5 C
  change G' = G at e3; change dom' = dom at e4; change n' = 5 at e5
  subst e3; subst e4; subst e5
  have C : xC (M, G', dom', 5) RJ7 cJ7_fill_d0a16 none := C
  change X (M, G', dom', 5) none E2 E 0 [(0, .ref (G'.2.1 k 0)), (1, .long v)] []
  refine x_iconst (v := 0) C dJ7_fill_d0a16_0 (by decide) ?_
  refine x_istore_n (ls' := [(3, .int 0), (0, .ref (G'.2.1 k 0)), (1, .long v)]) C dJ7_fill_d0a16_1 rfl (Nat.le_of_ble_eq_true rfl) rfl ?_
  refine x_aload_n (j := 1) C dJ7_fill_d0a16_2 rfl rfl ?_
  refine x_alen (t := 1) (ty := .long) C dJ7_fill_d0a16_3 hd he rfl rfl ?_
  refine x_istore (ls' := [(4, .int (nI n)), (3, .int 0), (0, .ref (G'.2.1 k 0)), (1, .long v)]) C dJ7_fill_d0a16_4 (Nat.le_of_ble_eq_true rfl) rfl ?_
  have h := fill_l_loop (f := f) C hd hn h2 n 0 (by omega)
  have e : xfl f v 0 = f := by funext q; simp [xfl]
  rw [e, ← he, xup_self] at h
  exact h
end FI
theorem cfi_E (G : xG) (s : cS) (v : Int32) {K f n : Nat} (h : (K, f, n) = (14, 23, 10) ∨ (K, f, n) = (16, 26, 1024) ∨ (K, f, n) = (18, 28, 1024)) : ∀ a b : Nat, cdom a b = true → xup (encC G s) K 0 (.inl (G.2.2 0, n, .inl (xfi (s.1 f) v n))) a b = encC G (cfi s f n v) a b := by
  intro a b hd
  rcases h with h | h | h <;> (obtain ⟨rfl, rfl, rfl⟩ : K = _ ∧ f = _ ∧ n = _ := by simpa using h) <;>
  · match a with
    | 0 | 1 | 2 | 3 | 4 | 5 | 6 | 7 | 8 | 9 | 10 | 11 | 12 | 13 | 14 | 15 | 16 | 17 | 18 | 19 | 20 | 21 | 22 =>
      first
        | rfl
        | (have hb : b = 0 := Nat.lt_one_iff.mp (of_decide_eq_true hd)
           subst hb
           simp [xup, encC, cfi]
           try (funext j; simp [xfi]))
    | q + 23 => exact absurd (of_decide_eq_true hd) (Nat.not_lt_zero _)
theorem cfl_E (G : xG) (s : cS) (v : Int64) : ∀ a b : Nat, cdom a b = true → xup (encC G s) 7 0 (.inl (G.2.2 1, 4251, .inr (.inl (xfl s.2.1 v 4251)))) a b = encC G (cfl s v) a b := by
  intro a b hd
  match a with
  | 0 | 1 | 2 | 3 | 4 | 5 | 6 | 7 | 8 | 9 | 10 | 11 | 12 | 13 | 14 | 15 | 16 | 17 | 18 | 19 | 20 | 21 | 22 =>
    first
      | rfl
      | (have hb : b = 0 := Nat.lt_one_iff.mp (of_decide_eq_true hd)
         subst hb
         simp [xup, encC, cfl]
         try (funext j; simp [xfl]))
  | q + 23 => exact absurd (of_decide_eq_true hd) (Nat.not_lt_zero _)
theorem fill_14 (l : Launch) (G : xG) (s : cS) (v : Int32) : xMet l yJ7_fill_53178 (x_ws yJ7_fill_53178 cJ7_fill_53178 4 none) (xrm 0 0) G cdom [.ref (G.2.1 14 0), .int v] (encC G s) none (encC G (cfi s 23 10 v)) := fill_i l rfl rfl (Nat.le_of_ble_eq_true rfl) (cfi_E G s v (Or.inl rfl))
theorem fill_16 (l : Launch) (G : xG) (s : cS) (v : Int32) : xMet l yJ7_fill_53178 (x_ws yJ7_fill_53178 cJ7_fill_53178 4 none) (xrm 0 0) G cdom [.ref (G.2.1 16 0), .int v] (encC G s) none (encC G (cfi s 26 1024 v)) := fill_i l rfl rfl (Nat.le_of_ble_eq_true rfl) (cfi_E G s v (Or.inr (Or.inl rfl)))
theorem fill_18 (l : Launch) (G : xG) (s : cS) (v : Int32) : xMet l yJ7_fill_53178 (x_ws yJ7_fill_53178 cJ7_fill_53178 4 none) (xrm 0 0) G cdom [.ref (G.2.1 18 0), .int v] (encC G s) none (encC G (cfi s 28 1024 v)) := fill_i l rfl rfl (Nat.le_of_ble_eq_true rfl) (cfi_E G s v (Or.inr (Or.inr rfl)))
theorem fill_l (l : Launch) (G : xG) (s : cS) (v : Int64) : xMet l yJ7_fill_d0a16 (x_ws yJ7_fill_d0a16 cJ7_fill_d0a16 5 none) (xrm 0 0) G cdom [.ref (G.2.1 7 0), .long v] (encC G s) none (encC G (cfl s v)) := fill_long l rfl rfl (Nat.le_of_ble_eq_true rfl) (cfl_E G s v)
