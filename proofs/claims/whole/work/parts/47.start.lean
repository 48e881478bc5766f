/-! THE START: both objects made, the worlds at their first states -/
def s0 : cS := (fun f _ => if f = 0 then 255 else if f = 4 then -1 else if f = 14 then -1 else 0, fun _ => 0, fun _ _ => 0)
def t0 : mS := fun f i => if f = 0 ∧ i = 0 then 255 else 0
def eB (G : xG) (h : Nat) : Nat → va_E := kup (tF G h 1 (sF G h 1 (bF G h 1 (fun _ => .inr (8, [.null, .null, .null, .null, .null, .null, .null, .null, .int 0, .int 0, .int 0, .int 0, .int 0]))) 8) 10) 0 (.inr (8, sThis h 1))
def eN (G : xG) (h : Nat) : Nat → va_E := kup (eB G h) 291 (.inr (9, [.null, .null, .int 0, .int 0, .int 0, .null, .null, .null, .null, .null, .int 0, .int 0, .int 0, .int 0, .int 0, .null, .null, .null, .null, .null]))
def eF (G : xG) (h : Nat) : Nat → va_E := (kup (kup (kup (kup (kup (kup (kup (kup (kup (kup (kup (kup (kup (kup (eN G h) 292 (.inl (G.2.2 0, 530, .inl fun _ => 0))) 293 (.inl (G.2.2 0, 31800, .inl fun _ => 0))) 294 (.inl (G.2.2 0, 8, .inl fun _ => 0))) 295 (.inl (G.2.2 0, 8, .inl fun _ => 0))) 296 (.inl (G.2.2 0, 10, .inl fun _ => 0))) 297 (.inl (G.2.2 0, 10, .inl fun _ => 0))) 298 (.inl (G.2.2 0, 10, .inl fun _ => 0))) 299 (.inl (G.2.2 0, 4096, .inl fun _ => 0))) 300 (.inl (G.2.2 0, 4096, .inl fun _ => 0))) 301 (.inl (G.2.2 0, 4096, .inl fun _ => 0))) 302 (.inl (G.2.2 2, 1024, .inl fun _ => 0))) 303 (.inl (G.2.2 0, 1024, .inl fun _ => 0))) 292 (.inl (G.2.2 0, 530, .inl (upd (fun _ => 0) (0 : Int32).toNatClampNeg 255)))) 291 (.inr (9, [.ref (h + 292), .ref (h + 293), .int 0, .int 0, .int 0, .ref (h + 294), .ref (h + 295), .ref (h + 296), .ref (h + 297), .ref (h + 298), .int 0, .int 0, .int 0, .int 0, .int 0, .ref (h + 299), .ref (h + 300), .ref (h + 301), .ref (h + 302), .ref (h + 303)])))
theorem va_at_q {D : va_G} {a n : Nat} {c : ClassId} {f g : Nat → Option Nat} {H : Heap} (h : va_at D vwCl (a, .inl (c, n, .inr (.inr (.inr (.inr f))))) H) (e : ∀ j : Nat, j < n → f j = g j) : va_at D vwCl (a, .inl (c, n, .inr (.inr (.inr (.inr g))))) H := by
  have h : H[a]? = some (arrV c n (fun j => va_rf (f j))) := h
  show H[a]? = some (arrV c n (fun j => va_rf (g j)))
  rw [h]
  have q : (Array.ofFn (n := n) fun j => va_rf (f j.val)) = Array.ofFn (n := n) fun j => va_rf (g j.val) := by
    congr 1
    funext j
    rw [e j.val j.isLt]
  simp only [arrV, q]
theorem eF_lo (G : xG) (h j : Nat) (hj : j < 291) : eF G h j = eB G h j := by
  unfold eF eN
  repeat rw [kup_ne _ _ (by omega)]
theorem eB_tF (G : xG) (h j : Nat) (hj : 0 < j) : eB G h j = tF G h 1 (sF G h 1 (bF G h 1 (fun _ => .inr (8, [.null, .null, .null, .null, .null, .null, .null, .null, .int 0, .int 0, .int 0, .int 0, .int 0]))) 8) 10 j := by
  unfold eB
  rw [kup_ne _ _ (by omega)]
theorem eB_b (G : xG) (h j : Nat) (h0 : 1 < j) (h1 : j < 137) (h2 : j ≠ 8) : eB G h j = bF G h 1 (fun _ => .inr (8, [.null, .null, .null, .null, .null, .null, .null, .null, .int 0, .int 0, .int 0, .int 0, .int 0])) j := by
  rw [eB_tF G h j (by omega)]
  unfold tF sF
  rw [if_neg (by omega), if_neg (by omega), if_neg (by omega), if_neg (by omega)]
theorem eB_s (G : xG) (h j : Nat) (h0 : 137 ≤ j) (h1 : j < 281) : eB G h j = if (j - 137) % 18 = 0 then .inr (3, [.ref (h + (j + 1)), .int 0, .int 0, .int 0, .int 0, .int 0]) else if (j - 137) % 18 = 1 then .inl (G.2.2 6, 16, .inr (.inr (.inr (.inr fun k => if k < 16 then some (h + (j + 1 + 1 * k)) else none)))) else .inr (5, [.int 0, .int 0, .int 0, .int 0]) := by
  rw [eB_tF G h j (by omega)]
  unfold tF sF
  rw [if_neg (by omega), if_neg (by omega), if_neg (by omega), if_pos (by omega)]
theorem eB_p (G : xG) (h j : Nat) (h0 : 17 ≤ j) (h1 : j < 137) : eB G h j = if (j - 17) % 2 = 0 then .inr (0, [.ref (h + (j + 1)), .int 0, .int 0, .int 0, .int 0]) else .inl (G.2.2 0, 16, .inl fun _ => 0) := by
  rw [eB_b G h j (by omega) h1 (by omega)]
  unfold bF
  rw [kup_ne _ _ (by omega)]
  unfold pF
  rw [if_neg (by omega), if_pos (by omega)]
theorem s_enc {D : va_G} {cA : Nat → ClassId} {h : Nat} {H : Heap} (hP : kP (gC D cA h) h 304 (eF (gC D cA h) h) H) : xP (gC D cA h) cdom (encC (gC D cA h) s0) H := by
  have at0 : ∀ j : Nat, j < 291 → va_at D vwCl (h + j, eB (gC D cA h) h j) H := fun j hj => by
    have := hP.2 j (by omega)
    rw [eF_lo _ _ _ hj] at this
    exact this
  intro k i hd
  match k, hd with
  | 0, hd =>
    have hi : i = 0 := Nat.lt_one_iff.mp (of_decide_eq_true hd)
    subst hi
    have z := at0 0 (by omega)
    have e : eB (gC D cA h) h 0 = .inr (8, sThis h 1) := kup_at _ _ _
    rw [e] at z
    exact z
  | 1, hd =>
    have hi : i = 0 := Nat.lt_one_iff.mp (of_decide_eq_true hd)
    subst hi
    have z := at0 1 (by omega)
    have e : eB (gC D cA h) h 1 = .inl (cA 5, 8, .inr (.inr (.inr (.inr fun k => if k < 8 then some (h + (1 + 136 + 18 * k)) else none)))) := by
      rw [eB_tF _ _ _ (by omega)]; unfold tF; rw [if_neg (by omega), if_neg (by omega)]; exact sF_n _ _ _ _ _
    rw [e] at z
    exact va_at_q z (fun j hj => by rw [if_pos hj]; rfl)
  | 2, hd =>
    have hi : i < 8 := of_decide_eq_true hd
    have z := at0 (137 + 18 * i) (by omega)
    rw [eB_s _ _ _ (by omega) (by omega), if_pos (by omega)] at z
    have e1 : h + (137 + 18 * i + 1) = h + (138 + 18 * i) := by omega
    rw [e1] at z
    exact z
  | 3, hd =>
    have hi : i < 8 := of_decide_eq_true hd
    have z := at0 (138 + 18 * i) (by omega)
    rw [eB_s _ _ _ (by omega) (by omega), if_neg (by omega), if_pos (by omega)] at z
    exact va_at_q z (fun j hj => by rw [if_pos hj]; exact congrArg some (show h + (138 + 18 * i + 1 + 1 * j) = h + (139 + 18 * ((16 * i + j) / 16) + (16 * i + j) % 16) by omega))
  | 4, hd =>
    have hi : i < 128 := of_decide_eq_true hd
    have z := at0 (139 + 18 * (i / 16) + i % 16) (by omega)
    rw [eB_s _ _ _ (by omega) (by omega), if_neg (by omega), if_neg (by omega)] at z
    exact z
  | 5, hd =>
    have hi : i = 0 := Nat.lt_one_iff.mp (of_decide_eq_true hd)
    subst hi
    have z := at0 2 (by omega)
    rw [eB_b _ _ _ (by omega) (by omega) (by omega)] at z
    have e : bF (gC D cA h) h 1 (fun _ => .inr (8, [.null, .null, .null, .null, .null, .null, .null, .null, .int 0, .int 0, .int 0, .int 0, .int 0])) 2 = encC (gC D cA h) s0 5 0 := by
      simp [bF, pF, kup, encC, s0, coff]
    rw [e] at z
    exact z
  | 6, hd =>
    have hi : i = 0 := Nat.lt_one_iff.mp (of_decide_eq_true hd)
    subst hi
    have z := at0 3 (by omega)
    rw [eB_b _ _ _ (by omega) (by omega) (by omega)] at z
    have e : bF (gC D cA h) h 1 (fun _ => .inr (8, [.null, .null, .null, .null, .null, .null, .null, .null, .int 0, .int 0, .int 0, .int 0, .int 0])) 3 = encC (gC D cA h) s0 6 0 := by
      simp [bF, pF, kup, encC, s0, coff]
    rw [e] at z
    exact z
  | 7, hd =>
    have hi : i = 0 := Nat.lt_one_iff.mp (of_decide_eq_true hd)
    subst hi
    have z := at0 4 (by omega)
    rw [eB_b _ _ _ (by omega) (by omega) (by omega)] at z
    have e : bF (gC D cA h) h 1 (fun _ => .inr (8, [.null, .null, .null, .null, .null, .null, .null, .null, .int 0, .int 0, .int 0, .int 0, .int 0])) 4 = encC (gC D cA h) s0 7 0 := by
      simp [bF, pF, kup, encC, s0, coff]
    rw [e] at z
    exact z
  | 8, hd =>
    have hi : i = 0 := Nat.lt_one_iff.mp (of_decide_eq_true hd)
    subst hi
    have z := at0 5 (by omega)
    rw [eB_b _ _ _ (by omega) (by omega) (by omega)] at z
    have e : bF (gC D cA h) h 1 (fun _ => .inr (8, [.null, .null, .null, .null, .null, .null, .null, .null, .int 0, .int 0, .int 0, .int 0, .int 0])) 5 = encC (gC D cA h) s0 8 0 := by
      simp [bF, pF, kup, encC, s0, coff]
    rw [e] at z
    exact z
  | 9, hd =>
    have hi : i = 0 := Nat.lt_one_iff.mp (of_decide_eq_true hd)
    subst hi
    have z := at0 6 (by omega)
    rw [eB_b _ _ _ (by omega) (by omega) (by omega)] at z
    have e : bF (gC D cA h) h 1 (fun _ => .inr (8, [.null, .null, .null, .null, .null, .null, .null, .null, .int 0, .int 0, .int 0, .int 0, .int 0])) 6 = encC (gC D cA h) s0 9 0 := by
      simp [bF, pF, kup, encC, s0, coff]
    rw [e] at z
    exact z
  | 10, hd =>
    have hi : i = 0 := Nat.lt_one_iff.mp (of_decide_eq_true hd)
    subst hi
    have z := at0 7 (by omega)
    rw [eB_b _ _ _ (by omega) (by omega) (by omega)] at z
    have e : bF (gC D cA h) h 1 (fun _ => .inr (8, [.null, .null, .null, .null, .null, .null, .null, .null, .int 0, .int 0, .int 0, .int 0, .int 0])) 7 = encC (gC D cA h) s0 10 0 := by
      simp [bF, pF, kup, encC, s0, coff]
    rw [e] at z
    exact z
  | 11, hd =>
    have hi : i = 0 := Nat.lt_one_iff.mp (of_decide_eq_true hd)
    subst hi
    have z := at0 8 (by omega)
    have e : eB (gC D cA h) h 8 = .inl (cA 4, 10, .inr (.inr (.inr (.inr fun k => if k < 10 then some (h + (1 + 280 + 1 * k)) else none)))) := by
      rw [eB_tF _ _ _ (by omega)]; exact tF_n _ _ _ _ _
    rw [e] at z
    exact va_at_q z (fun j hj => by rw [if_pos hj]; exact congrArg some (show h + (1 + 280 + 1 * j) = h + (281 + j) by omega))
  | 12, hd =>
    have hi : i < 10 := of_decide_eq_true hd
    have z := at0 (281 + i) (by omega)
    have e : eB (gC D cA h) h (281 + i) = .inr (2, [.int 0, .int 0, .int 0]) := by
      rw [eB_tF _ _ _ (by omega)]; unfold tF; rw [if_neg (by omega), if_pos (by omega)]
    rw [e] at z
    exact z
  | 13, hd =>
    have hi : i = 0 := Nat.lt_one_iff.mp (of_decide_eq_true hd)
    subst hi
    have z := at0 9 (by omega)
    rw [eB_b _ _ _ (by omega) (by omega) (by omega)] at z
    have e : bF (gC D cA h) h 1 (fun _ => .inr (8, [.null, .null, .null, .null, .null, .null, .null, .null, .int 0, .int 0, .int 0, .int 0, .int 0])) 9 = encC (gC D cA h) s0 13 0 := by
      simp [bF, pF, kup, encC, s0, coff]
    rw [e] at z
    exact z
  | 14, hd =>
    have hi : i = 0 := Nat.lt_one_iff.mp (of_decide_eq_true hd)
    subst hi
    have z := at0 10 (by omega)
    rw [eB_b _ _ _ (by omega) (by omega) (by omega)] at z
    have e : bF (gC D cA h) h 1 (fun _ => .inr (8, [.null, .null, .null, .null, .null, .null, .null, .null, .int 0, .int 0, .int 0, .int 0, .int 0])) 10 = encC (gC D cA h) s0 14 0 := by
      simp [bF, pF, kup, encC, s0, coff]
    rw [e] at z
    exact z
  | 15, hd =>
    have hi : i = 0 := Nat.lt_one_iff.mp (of_decide_eq_true hd)
    subst hi
    have z := at0 11 (by omega)
    rw [eB_b _ _ _ (by omega) (by omega) (by omega)] at z
    have e : bF (gC D cA h) h 1 (fun _ => .inr (8, [.null, .null, .null, .null, .null, .null, .null, .null, .int 0, .int 0, .int 0, .int 0, .int 0])) 11 = encC (gC D cA h) s0 15 0 := by
      simp [bF, pF, kup, encC, s0, coff]
    rw [e] at z
    exact z
  | 16, hd =>
    have hi : i = 0 := Nat.lt_one_iff.mp (of_decide_eq_true hd)
    subst hi
    have z := at0 12 (by omega)
    rw [eB_b _ _ _ (by omega) (by omega) (by omega)] at z
    have e : bF (gC D cA h) h 1 (fun _ => .inr (8, [.null, .null, .null, .null, .null, .null, .null, .null, .int 0, .int 0, .int 0, .int 0, .int 0])) 12 = encC (gC D cA h) s0 16 0 := by
      simp [bF, pF, kup, encC, s0, coff]
    rw [e] at z
    exact z
  | 17, hd =>
    have hi : i = 0 := Nat.lt_one_iff.mp (of_decide_eq_true hd)
    subst hi
    have z := at0 13 (by omega)
    rw [eB_b _ _ _ (by omega) (by omega) (by omega)] at z
    have e : bF (gC D cA h) h 1 (fun _ => .inr (8, [.null, .null, .null, .null, .null, .null, .null, .null, .int 0, .int 0, .int 0, .int 0, .int 0])) 13 = encC (gC D cA h) s0 17 0 := by
      simp [bF, pF, kup, encC, s0, coff]
    rw [e] at z
    exact z
  | 18, hd =>
    have hi : i = 0 := Nat.lt_one_iff.mp (of_decide_eq_true hd)
    subst hi
    have z := at0 14 (by omega)
    rw [eB_b _ _ _ (by omega) (by omega) (by omega)] at z
    have e : bF (gC D cA h) h 1 (fun _ => .inr (8, [.null, .null, .null, .null, .null, .null, .null, .null, .int 0, .int 0, .int 0, .int 0, .int 0])) 14 = encC (gC D cA h) s0 18 0 := by
      simp [bF, pF, kup, encC, s0, coff]
    rw [e] at z
    exact z
  | 19, hd =>
    have hi : i = 0 := Nat.lt_one_iff.mp (of_decide_eq_true hd)
    subst hi
    have z := at0 15 (by omega)
    rw [eB_b _ _ _ (by omega) (by omega) (by omega)] at z
    have e : bF (gC D cA h) h 1 (fun _ => .inr (8, [.null, .null, .null, .null, .null, .null, .null, .null, .int 0, .int 0, .int 0, .int 0, .int 0])) 15 = encC (gC D cA h) s0 19 0 := by
      simp [bF, pF, kup, encC, s0, coff]
    rw [e] at z
    exact z
  | 20, hd =>
    have hi : i = 0 := Nat.lt_one_iff.mp (of_decide_eq_true hd)
    subst hi
    have z := at0 16 (by omega)
    have e : eB (gC D cA h) h 16 = .inl (cA 3, 60, .inr (.inr (.inr (.inr fun k => if k < 60 then some (h + (1 + 15 + 1 + 2 * k)) else none)))) := by
      rw [eB_b _ _ _ (by omega) (by omega) (by omega)]; unfold bF; rw [kup_ne _ _ (by omega)]; exact pF_n _ _ _ _ _
    rw [e] at z
    exact va_at_q z (fun j hj => by rw [if_pos hj]; rfl)
  | 21, hd =>
    have hi : i < 60 := of_decide_eq_true hd
    have z := at0 (17 + 2 * i) (by omega)
    rw [eB_p _ _ _ (by omega) (by omega), if_pos (by omega)] at z
    have e1 : h + (17 + 2 * i + 1) = h + (18 + 2 * i) := by omega
    rw [e1] at z
    exact z
  | 22, hd =>
    have hi : i < 60 := of_decide_eq_true hd
    have z := at0 (18 + 2 * i) (by omega)
    rw [eB_p _ _ _ (by omega) (by omega), if_neg (by omega)] at z
    exact z
  | k + 23, hd => exact absurd (of_decide_eq_true hd) (Nat.not_lt_zero _)
theorem t_enc {D : va_G} {cA : Nat → ClassId} {h : Nat} {H : Heap} (hP : kP (gC D cA h) h 304 (eF (gC D cA h) h) H) : xP (gM D cA h) mdom (encM (gM D cA h) t0) H := by
  intro k i hd
  match k, hd with
  | 0, hd =>
    have hi : i = 0 := Nat.lt_one_iff.mp (of_decide_eq_true hd)
    subst hi
    have z := hP.2 291 (by omega)
    have e : eF (gC D cA h) h 291 = encM (gM D cA h) t0 0 0 := by
      simp [eF, kup, encM, t0]
      try (funext j; simp [upd, t0])
    rw [e] at z
    exact z
  | 1, hd =>
    have hi : i = 0 := Nat.lt_one_iff.mp (of_decide_eq_true hd)
    subst hi
    have z := hP.2 292 (by omega)
    have e : eF (gC D cA h) h 292 = encM (gM D cA h) t0 1 0 := by
      simp [eF, kup, encM, t0]
      try (funext j; simp [upd, t0])
    rw [e] at z
    exact z
  | 2, hd =>
    have hi : i = 0 := Nat.lt_one_iff.mp (of_decide_eq_true hd)
    subst hi
    have z := hP.2 293 (by omega)
    have e : eF (gC D cA h) h 293 = encM (gM D cA h) t0 2 0 := by
      simp [eF, kup, encM, t0]
      try (funext j; simp [upd, t0])
    rw [e] at z
    exact z
  | 3, hd =>
    have hi : i = 0 := Nat.lt_one_iff.mp (of_decide_eq_true hd)
    subst hi
    have z := hP.2 294 (by omega)
    have e : eF (gC D cA h) h 294 = encM (gM D cA h) t0 3 0 := by
      simp [eF, kup, encM, t0]
      try (funext j; simp [upd, t0])
    rw [e] at z
    exact z
  | 4, hd =>
    have hi : i = 0 := Nat.lt_one_iff.mp (of_decide_eq_true hd)
    subst hi
    have z := hP.2 295 (by omega)
    have e : eF (gC D cA h) h 295 = encM (gM D cA h) t0 4 0 := by
      simp [eF, kup, encM, t0]
      try (funext j; simp [upd, t0])
    rw [e] at z
    exact z
  | 5, hd =>
    have hi : i = 0 := Nat.lt_one_iff.mp (of_decide_eq_true hd)
    subst hi
    have z := hP.2 296 (by omega)
    have e : eF (gC D cA h) h 296 = encM (gM D cA h) t0 5 0 := by
      simp [eF, kup, encM, t0]
      try (funext j; simp [upd, t0])
    rw [e] at z
    exact z
  | 6, hd =>
    have hi : i = 0 := Nat.lt_one_iff.mp (of_decide_eq_true hd)
    subst hi
    have z := hP.2 297 (by omega)
    have e : eF (gC D cA h) h 297 = encM (gM D cA h) t0 6 0 := by
      simp [eF, kup, encM, t0]
      try (funext j; simp [upd, t0])
    rw [e] at z
    exact z
  | 7, hd =>
    have hi : i = 0 := Nat.lt_one_iff.mp (of_decide_eq_true hd)
    subst hi
    have z := hP.2 298 (by omega)
    have e : eF (gC D cA h) h 298 = encM (gM D cA h) t0 7 0 := by
      simp [eF, kup, encM, t0]
      try (funext j; simp [upd, t0])
    rw [e] at z
    exact z
  | 8, hd =>
    have hi : i = 0 := Nat.lt_one_iff.mp (of_decide_eq_true hd)
    subst hi
    have z := hP.2 299 (by omega)
    have e : eF (gC D cA h) h 299 = encM (gM D cA h) t0 8 0 := by
      simp [eF, kup, encM, t0]
      try (funext j; simp [upd, t0])
    rw [e] at z
    exact z
  | 9, hd =>
    have hi : i = 0 := Nat.lt_one_iff.mp (of_decide_eq_true hd)
    subst hi
    have z := hP.2 300 (by omega)
    have e : eF (gC D cA h) h 300 = encM (gM D cA h) t0 9 0 := by
      simp [eF, kup, encM, t0]
      try (funext j; simp [upd, t0])
    rw [e] at z
    exact z
  | 10, hd =>
    have hi : i = 0 := Nat.lt_one_iff.mp (of_decide_eq_true hd)
    subst hi
    have z := hP.2 301 (by omega)
    have e : eF (gC D cA h) h 301 = encM (gM D cA h) t0 10 0 := by
      simp [eF, kup, encM, t0]
      try (funext j; simp [upd, t0])
    rw [e] at z
    exact z
  | 11, hd =>
    have hi : i = 0 := Nat.lt_one_iff.mp (of_decide_eq_true hd)
    subst hi
    have z := hP.2 302 (by omega)
    have e : eF (gC D cA h) h 302 = encM (gM D cA h) t0 11 0 := by
      simp [eF, kup, encM, t0]
      try (funext j; simp [upd, t0])
    rw [e] at z
    exact z
  | 12, hd =>
    have hi : i = 0 := Nat.lt_one_iff.mp (of_decide_eq_true hd)
    subst hi
    have z := hP.2 303 (by omega)
    have e : eF (gC D cA h) h 303 = encM (gM D cA h) t0 12 0 := by
      simp [eF, kup, encM, t0]
      try (funext j; simp [upd, t0])
    rw [e] at z
    exact z
  | k + 13, hd => exact absurd (of_decide_eq_true hd) (Nat.not_lt_zero _)
/-- a constructor called by the law -/
theorem s_init {p : Program} {l : Launch} {e : Env} {s : State} {m : MethodId} {below : List Frame} {meth : Method} {c : Code} {args : Array Value} {G : xG} {h a n n1 : Nat} {E E1 : Nat → va_E} {mc ms cells slots : Nat} {H : Heap} {locs : List Loc} {Q : State → Prop} {pc index maxL : Nat} {lsa : Array Slot} {rest : List Value} {y : MethodName} {bytes : ByteArray} {rm : Room} (hx : p.tables.exec = Jvm.exec) (hb : c.code = cL_law) (hml : c.maxLocals = 4) (hls : lsa.size = 4) (hown : s.vm.findClass R_law = some m.cls) (hts : ∀ w ∈ gt_ws, w.before args s = true) (hh : h = s.heap.size) (hK : xK G s) (hNt : xN s) (hO : kO s) (hP : kP G h n E H) (hS : va_S (fun q : Nat => s.heap.size ≤ q) s.heap H locs) (d : decode cL_law pc = .ok (.invokespecial index, 3)) (hM : kMet l y (x_ws y bytes maxL none) rm G h a n E n1 E1 mc ms)
    (h1 : Cond.methodLink R_law index y ∈ gt_ws) (h2 : Cond.instanceMethod y ∈ gt_ws) (h4 : Cond.initialized y.cls ∈ gt_ws) (h5 : Cond.code y bytes maxL none ∈ gt_ws) (hc0 : rm.cells = mc ∧ rm.slots = ms) (hd : y.cls ≠ "java/lang/invoke/MethodHandle" ∧ y.cls ≠ "java/lang/invoke/VarHandle" ∧ (parseMethodDescriptor y.desc).map (fun d => d.parameters.length) = some 0) (hyn : y.name = "<init>")
    (hR : rm.frames + 1 ≤ room_1.frames ∧ 8 + (maxL + 11) + rm.locals ≤ room_1.locals) (hcl : cells + mc ≤ room_1.cells) (hsl : slots + ms ≤ room_1.slots) (hw : (rest.map fun v => v.category).sum ≤ 8)
    (kk : ∀ (H1 : Heap) (locs1 : List Loc), kP G h n1 E1 H1 → va_S (fun q : Nat => s.heap.size ≤ q) s.heap H1 locs1 → W p l e room_1 s m args below meth c H1 locs1 (cells + mc) (slots + ms) Q (F0 m (pc + 3) lsa rest)) : W p l e room_1 s m args below meth c H locs cells slots Q (F0 m pc lsa (.ref (h + a) :: rest)) := by
  intro T hT XT
  obtain ⟨v, st₀, t, T', L, q0, X', hL, e1, e2, ⟨hv, hP1, hz1, hk⟩, stp⟩ := va_runI (As := []) (rest := rest) (n := 0) (mc := mc) (ms := ms) (H := H) (locs := locs) (g := F0 m pc lsa (.ref (h + a) :: rest)) ⟨hx, hb, hml, hown, hts⟩ hM ⟨callB_of 0 hts (x_goodin h5) rfl hc0.1 hc0.2 (hts _ h4) (hts _ h1) hd hR, hyn, hts _ h2⟩ ⟨kPre.blind, fun U hU hW => ⟨rfl, by rw [hU]; exact hP, va_K.moved hW.alike hK, hNt.warm hW, hO.moved hW.alike⟩⟩ rfl rfl hls rfl (lv_room hw) d ⟨hcl, hsl⟩ T hT XT
  cases hv
  rw [q0] at hz1 hk
  have hsub : ∀ q : Nat, kA h a n q → s.heap.size ≤ q := fun q hq => by
    rcases hq with hq | hq <;> omega
  obtain ⟨t2, a1, b1⟩ := kk T'.heap (locs ++ L) (by rw [e1]; exact hP1)
    ⟨Nat.le_trans hS.1 (by rw [e1]; exact hz1), fun q h1 h2 => by rw [e1, hk q (Nat.lt_of_lt_of_le h1 hS.1) (fun w => h2 (hsub q w))]; exact hS.2.1 q h1 h2, fun q hq => by
      rcases List.mem_append.mp hq with w | w
      · exact hS.2.2 q w
      · exact hsub _ (hL q w)⟩ T' rfl X'
  exact ⟨t2, stp t2 a1, b1⟩
theorem s_arr {s : State} {args : Array Value} {ty : FieldType} (h : (Cond.arrayClass ty).before args s = true) : ∃ cA : ClassId, s.vm.findClass ("[" ++ ty.toString) = some cA ∧ ArrOfT s cA ty := by
  obtain ⟨cA, k, comp, h1, h2, h3⟩ := Cond.arrayClass_spec h
  exact ⟨cA, h1, fun n z => ⟨fun k h => (by cases h), k, h2, comp, h3⟩⟩
theorem s_over {s : State} {args : Array Value} {Cn : String} (h : (Cond.arrayOver (.object Cn)).before args s = true) : ∃ cA : ClassId, va_RA s cA (.object Cn) ∧ ArrOfT s cA (.object Cn) := by
  obtain ⟨comp, cA, k, h1, -, h2, h3, h4⟩ := Cond.arrayOver_spec h
  exact ⟨cA, ⟨k, comp, h2, h3, h1, h4⟩, fun n z => ⟨fun k h => (by cases h), k, h2, comp, h3⟩⟩
set_option maxRecDepth 100000 in
set_option maxHeartbeats 4000000 in
theorem start_rel {Rel : cS → mS → Prop} (ho : OpsOk Rel) (h0 : Rel s0 t0) {p : Program} {e : Env} {s : State} {m : MethodId} {below : List Frame} {meth : Method} {c : Code} (l : Launch) {b L : Nat} {xs : Nat → Int32} (hL : L ≤ 3072) (C0 : lw_At p s m meth c b L xs) : W p l e room_1 s m #[Value.ref b] below meth c s.heap [] 0 0 (lw_Z below #[Value.ref b] s) (entryFrame m ([Value.ref b] : List Value).toArray 4) := by
  obtain ⟨hx, hb, hr, hml, hown, hts0, hX, hbl, hlocks, hgv⟩ := C0
  have hb : c.code = cL_law := hb
  have hts : ∀ w ∈ gt_ws, w.before #[Value.ref b] s = true := fun w h => hts0 w (gt_lw h)
  have hN : xN s := xN.of hts0
  have hO : kO s := ⟨va_AO.of (hts0 (.arrayOver (.object RX0)) (by decide +kernel)), va_AO.of (hts0 (.arrayOver (.object RX2)) (by decide +kernel)), va_AO.of (hts0 (.arrayOver (.object RX3)) (by decide +kernel)), va_AO.of (hts0 (.arrayOver (.object RX5)) (by decide +kernel))⟩
  obtain ⟨c0, i0, k0⟩ := u_known (C := RX0) (T := TX0) (N := 5) (n := 5) hts inx0 (hts _ lk167)
  obtain ⟨c1, i1, k1⟩ := u_known (C := RX1) (T := TX1) (N := 5) (n := 5) hts inx1 (hts _ lk138)
  obtain ⟨c2, i2, k2⟩ := u_known (C := RX2) (T := TX2) (N := 3) (n := 3) hts inx2 (hts _ lk257)
  obtain ⟨c3, i3, k3⟩ := u_known (C := RX3) (T := TX3) (N := 6) (n := 6) hts inx3 (hts _ lk203)
  obtain ⟨c4, i4, k4⟩ := u_known (C := RX4) (T := TX4) (N := 3) (n := 3) hts inx4 (hts _ lk119)
  obtain ⟨c5, i5, k5⟩ := u_known (C := RX5) (T := TX5) (N := 4) (n := 4) hts inx5 (hts _ lk210)
  obtain ⟨c6, i6, k6⟩ := u_known (C := RX6) (T := TX6) (N := 3) (n := 3) hts inx6 (hts _ lk160)
  obtain ⟨c7, i7, k7⟩ := u_known (C := RX7) (T := TX7) (N := 3) (n := 3) hts inx7 (hts _ lk101)
  obtain ⟨c8, i8, k8⟩ := u_known (C := RX8) (T := TX8) (N := 13) (n := 13) hts inx8 (hts _ lk91)
  obtain ⟨c9, i9, k9⟩ := u_known (C := RX9) (T := TX9) (N := 20) (n := 20) hts inx9 (hts _ lk732)
  obtain ⟨a0, f0, g0⟩ := s_arr (hts _ lk116)
  obtain ⟨a1, f1, g1⟩ := s_arr (hts _ lk117)
  obtain ⟨a2, f2, g2⟩ := s_arr (hts _ lk798)
  obtain ⟨a3, f3, g3⟩ := s_over (hts0 (.arrayOver (.object RX0)) (by decide +kernel))
  obtain ⟨a4, f4, g4⟩ := s_over (hts0 (.arrayOver (.object RX2)) (by decide +kernel))
  obtain ⟨a5, f5, g5⟩ := s_over (hts0 (.arrayOver (.object RX3)) (by decide +kernel))
  obtain ⟨a6, f6, g6⟩ := s_over (hts0 (.arrayOver (.object RX5)) (by decide +kernel))
  obtain ⟨D, hD⟩ : ∃ D : va_G, ∀ (k : Nat) (q : vw_C), vwCl[k]? = some q → u_Kn s q.1 q.2.1 q.2.2 (D.1 k) (D.2 k) := by
    refine ⟨(fun k => match k with | 0 => c0 | 1 => c1 | 2 => c2 | 3 => c3 | 4 => c4 | 5 => c5 | 6 => c6 | 7 => c7 | 8 => c8 | _ => c9, fun k => match k with | 0 => i0 | 1 => i1 | 2 => i2 | 3 => i3 | 4 => i4 | 5 => i5 | 6 => i6 | 7 => i7 | 8 => i8 | _ => i9), ?_⟩
    intro k q hq
    match k, hq with
    | 0, hq => cases hq; exact k0
    | 1, hq => cases hq; exact k1
    | 2, hq => cases hq; exact k2
    | 3, hq => cases hq; exact k3
    | 4, hq => cases hq; exact k4
    | 5, hq => cases hq; exact k5
    | 6, hq => cases hq; exact k6
    | 7, hq => cases hq; exact k7
    | 8, hq => cases hq; exact k8
    | 9, hq => cases hq; exact k9
    | k + 10, hq => cases hq
  obtain ⟨cA, e0, e1, e2, e3, e4, e5, e6⟩ : ∃ cA : Nat → ClassId, cA 0 = a0 ∧ cA 1 = a1 ∧ cA 2 = a2 ∧ cA 3 = a3 ∧ cA 4 = a4 ∧ cA 5 = a5 ∧ cA 6 = a6 := ⟨fun k => match k with | 0 => a0 | 1 => a1 | 2 => a2 | 3 => a3 | 4 => a4 | 5 => a5 | _ => a6, rfl, rfl, rfl, rfl, rfl, rfl, rfl⟩
  subst e0; subst e1; subst e2; subst e3; subst e4; subst e5; subst e6
  have hK : xK (gC D cA s.heap.size) s := by
    refine ⟨hD, fun k q hq => ?_⟩
    match k, hq with
    | 0, hq => cases hq; exact ⟨g0, f0⟩
    | 1, hq => cases hq; exact ⟨g1, f1⟩
    | 2, hq => cases hq; exact ⟨g2, f2⟩
    | 3, hq => cases hq; exact ⟨g3, f3⟩
    | 4, hq => cases hq; exact ⟨g4, f4⟩
    | 5, hq => cases hq; exact ⟨g5, f5⟩
    | 6, hq => cases hq; exact ⟨g6, f6⟩
    | k + 7, hq => cases hq
  have hl := lv_entry ([.ref b]) (n := 4) (Nat.le_of_ble_eq_true rfl)
  rw [lg_entry_eq]
  generalize (lg_sl ([.ref b]) ++ List.replicate (4 - (lg_sl ([.ref b])).length) Slot.unset).toArray = ls at hl ⊢
  have hl : lv_has ls 4 [(0, .ref b)] := hl
  have k8 := hK.1 8 _ rfl
  have k9 := hK.1 9 _ rfl
  refine W.newcK hx hb hown (hts _ lk90) (hts _ lk91) (hts _ lk78) rfl dL_law_0 (Nat.le_of_ble_eq_true rfl) (Nat.le_of_ble_eq_true rfl) k8.2.1 rfl fun H1 kC hkC e1 z1 o1 => ?_
  have hP1 : kP (gC D cA s.heap.size) s.heap.size 1 (fun _ => .inr (8, [.null, .null, .null, .null, .null, .null, .null, .null, .int 0, .int 0, .int 0, .int 0, .int 0])) H1 := ⟨z1, fun i hi => by
    have hi : i = 0 := by omega
    subst hi
    exact ⟨_, rfl, (u_born tyX8 hts inx8 k8 hkC e1 tyX8_ok).to (fun j hj => by rcases (show j = 0 ∨ j = 1 ∨ j = 2 ∨ j = 3 ∨ j = 4 ∨ j = 5 ∨ j = 6 ∨ j = 7 ∨ j = 8 ∨ j = 9 ∨ j = 10 ∨ j = 11 ∨ j = 12 by omega) with rfl | rfl | rfl | rfl | rfl | rfl | rfl | rfl | rfl | rfl | rfl | rfl | rfl <;> rfl)⟩⟩
  have hS1 : va_S (fun q : Nat => s.heap.size ≤ q) s.heap H1 [] := ⟨by rw [z1]; omega, fun q q1 _ => o1 q q1, fun _ h => by cases h⟩
  refine lv_dup hx hb dL_law_3 rfl ?_
  refine s_init (h := s.heap.size) (a := 0) (n := 1) (n1 := 291) (E1 := eB (gC D cA s.heap.size) s.heap.size) (mc := 290) (ms := 13525) hx hb hml hl.1 hown hts rfl hK hN hO hP1 hS1 dL_law_4 (mk_StepMeters l (by omega) rfl (fun i hi => rfl)) lk92 lk93 lk78 lk94 ⟨rfl, rfl⟩ ⟨by decide +kernel, by decide +kernel, by decide +kernel⟩ rfl ⟨Nat.le_of_ble_eq_true rfl, Nat.le_of_ble_eq_true rfl⟩ (Nat.le_of_ble_eq_true rfl) (Nat.le_of_ble_eq_true rfl) (Nat.le_of_ble_eq_true rfl) (fun H2 locs2 hP2 hS2 => ?_)
  refine lv_astore_n (lv' := [(1, .ref (s.heap.size + 0)), (0, .ref b)]) hx hb dL_law_7 rfl hl (by decide) rfl (fun ls hl => ?_)
  refine W.newcK hx hb hown (hts _ lk731) (hts _ lk732) (hts _ lk87) rfl dL_law_8 (Nat.le_of_ble_eq_true rfl) (Nat.le_of_ble_eq_true rfl) k9.2.1 hP2.1 fun H3 kC3 hkC3 e3 z3 o3 => ?_
  have hP3 : kP (gC D cA s.heap.size) s.heap.size 292 (eN (gC D cA s.heap.size) s.heap.size) H3 := hP2.push z3 o3 ⟨_, rfl, (u_born tyX9 hts inx9 k9 hkC3 e3 tyX9_ok).to (fun j hj => by rcases (show j = 0 ∨ j = 1 ∨ j = 2 ∨ j = 3 ∨ j = 4 ∨ j = 5 ∨ j = 6 ∨ j = 7 ∨ j = 8 ∨ j = 9 ∨ j = 10 ∨ j = 11 ∨ j = 12 ∨ j = 13 ∨ j = 14 ∨ j = 15 ∨ j = 16 ∨ j = 17 ∨ j = 18 ∨ j = 19 by omega) with rfl | rfl | rfl | rfl | rfl | rfl | rfl | rfl | rfl | rfl | rfl | rfl | rfl | rfl | rfl | rfl | rfl | rfl | rfl | rfl <;> rfl)⟩
  have hS3 : va_S (fun q : Nat => s.heap.size ≤ q) s.heap H3 locs2 := ⟨Nat.le_trans hS2.1 (by rw [z3, hP2.1]; omega), fun q q1 q2 => (o3 q (by rw [← hP2.1]; exact Nat.lt_of_lt_of_le q1 hS2.1)).trans (hS2.2.1 q q1 q2), hS2.2.2⟩
  refine lv_dup hx hb dL_law_11 rfl ?_
  refine s_init (h := s.heap.size) (a := 291) (n := 292) (n1 := 304) (E1 := eF (gC D cA s.heap.size) s.heap.size) (mc := 12) (ms := 46712) hx hb hml hl.1 hown hts rfl hK hN hO hP3 hS3 dL_law_12 (mk_StepMetersModel l (by omega) (kup_at _ _ _) (fun i hi => rfl)) lk733 lk734 lk87 lk735 ⟨rfl, rfl⟩ ⟨by decide +kernel, by decide +kernel, by decide +kernel⟩ rfl ⟨Nat.le_of_ble_eq_true rfl, Nat.le_of_ble_eq_true rfl⟩ (Nat.le_of_ble_eq_true rfl) (Nat.le_of_ble_eq_true rfl) (Nat.le_of_ble_eq_true rfl) (fun H4 locs4 hP4 hS4 => ?_)
  refine lv_astore_n (lv' := [(2, .ref (s.heap.size + 291)), (1, .ref (s.heap.size + 0)), (0, .ref b)]) hx hb dL_law_15 rfl hl (by decide) rfl (fun ls hl => ?_)
  refine lv_iconst (v := 0) hx hb dL_law_16 (by decide) ?_
  refine lv_istore_n (lv' := [(3, .int (nI 0)), (2, .ref (s.heap.size + 291)), (1, .ref (s.heap.size + 0)), (0, .ref b)]) hx hb dL_law_17 rfl hl (by decide) rfl (fun ls hl => ?_)
  refine W.widen (k := 600000) (n := 7302250) (Nat.le_of_ble_eq_true rfl) (Nat.le_of_ble_eq_true rfl) ?_
  exact law_loop (Y := ((p, l, e, s, m, below, meth, c), D, cA, b, L, xs)) ⟨hx, hb, hml, hown, hts, hK, hlocks, hr, hN, hX, hbl⟩ ho hL (L + 1) 0 s0 t0 (by show L < 0 + (L + 1); omega) (by omega) h0 H4 locs4 ls (s_enc hP4) (t_enc hP4) hS4 hl
