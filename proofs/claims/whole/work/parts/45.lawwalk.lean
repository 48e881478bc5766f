/-! THE LAW'S WALK: both worlds side by side, made one behind the other from the law's first free cell on. -/
def coff : Nat → Nat → Nat := fun k i => match k with
  | 0 => 0
  | 1 => 1
  | 2 => 137 + 18 * i
  | 3 => 138 + 18 * i
  | 4 => 139 + 18 * (i / 16) + i % 16
  | 5 => 2
  | 6 => 3
  | 7 => 4
  | 8 => 5
  | 9 => 6
  | 10 => 7
  | 11 => 8
  | 12 => 281 + i
  | 13 => 9
  | 14 => 10
  | 15 => 11
  | 16 => 12
  | 17 => 13
  | 18 => 14
  | 19 => 15
  | 20 => 16
  | 21 => 17 + 2 * i
  | _ => 18 + 2 * i
def cinv : Nat → Nat × Nat := fun q => if q = 0 then (0, 0) else if q = 1 then (1, 0) else if q < 9 then (q + 3, 0) else if q = 9 then (13, 0) else if q < 17 then (q + 4, 0) else if q < 137 then (21 + (q - 17) % 2, (q - 17) / 2) else if q < 281 then (if (q - 137) % 18 = 0 then (2, (q - 137) / 18) else if (q - 137) % 18 = 1 then (3, (q - 137) / 18) else (4, 16 * ((q - 137) / 18) + ((q - 137) % 18 - 2))) else (12, q - 281)
theorem coff_inv : ∀ k : Nat, k < 23 → ∀ i : Nat, i < 128 → cdom k i = true → cinv (coff k i) = (k, i) ∧ coff k i < 291 := by decide +kernel
theorem cdom_lt {k i : Nat} (h : cdom k i = true) : k < 23 ∧ i < 128 := by
  match k, h with
  | 0, h | 1, h | 2, h | 3, h | 4, h | 5, h | 6, h | 7, h | 8, h | 9, h | 10, h | 11, h | 12, h | 13, h | 14, h | 15, h | 16, h | 17, h | 18, h | 19, h | 20, h | 21, h | 22, h => exact ⟨by omega, Nat.lt_of_lt_of_le (of_decide_eq_true h) (Nat.le_of_ble_eq_true rfl)⟩
  | n + 23, h => exact absurd (of_decide_eq_true h) (Nat.not_lt_zero _)
theorem mdom_lt {k i : Nat} (h : mdom k i = true) : k < 13 ∧ i = 0 := by
  match k, h with
  | 0, h | 1, h | 2, h | 3, h | 4, h | 5, h | 6, h | 7, h | 8, h | 9, h | 10, h | 11, h | 12, h => exact ⟨by omega, Nat.lt_one_iff.mp (of_decide_eq_true h)⟩
  | n + 13, h => exact absurd (of_decide_eq_true h) (Nat.not_lt_zero _)
abbrev gC (D : va_G) (cA : Nat → ClassId) (h : Nat) : xG := (D, fun k i => h + coff k i, cA)
abbrev gM (D : va_G) (cA : Nat → ClassId) (h : Nat) : xG := (D, fun k _ => h + (291 + k), cA)
theorem gC_J (D : va_G) (cA : Nat → ClassId) (h : Nat) : xJ (gC D cA h) cdom := by
  intro k i k' i' h1 h2 e
  have e : coff k i = coff k' i' := Nat.add_left_cancel e
  have a := (coff_inv k (cdom_lt h1).1 i (cdom_lt h1).2 h1).1
  have b := (coff_inv k' (cdom_lt h2).1 i' (cdom_lt h2).2 h2).1
  rw [e] at a
  have := a.symm.trans b
  exact ⟨congrArg Prod.fst this, congrArg Prod.snd this⟩
theorem gM_J (D : va_G) (cA : Nat → ClassId) (h : Nat) : xJ (gM D cA h) mdom := by
  intro k i k' i' h1 h2 e
  have e : h + (291 + k) = h + (291 + k') := e
  exact ⟨by omega, by rw [(mdom_lt h1).2, (mdom_lt h2).2]⟩
theorem g_apart (D : va_G) (cA : Nat → ClassId) (h : Nat) {k i k' i' : Nat} (h1 : cdom k i = true) : (gC D cA h).2.1 k i ≠ (gM D cA h).2.1 k' i' := by
  have a := (coff_inv k (cdom_lt h1).1 i (cdom_lt h1).2 h1).2
  show h + coff k i ≠ h + (291 + k')
  omega
abbrev lY : Type := (Program × Launch × Env × State × MethodId × List Frame × Method × Code) × va_G × (Nat → ClassId) × Nat × Nat × (Nat → Int32)
def lC (Y : lY) : Prop := match Y with
  | ((p, _, _, s, m, _, meth, c), D, cA, b, Ln, xs) => p.tables.exec = Jvm.exec ∧ c.code = cL_law ∧ c.maxLocals = 4 ∧ s.vm.findClass R_law = some m.cls ∧ (∀ w ∈ gt_ws, w.before #[Value.ref b] s = true) ∧ xK (gC D cA s.heap.size) s ∧ meth.locks = false ∧ meth.sig.returnType = ret ∧ xN s ∧ va_X b Ln xs s s.heap ∧ b < s.heap.size
def lh (Y : lY) : Nat := Y.1.2.2.2.1.heap.size
def XL (Y : lY) (sc : cS) (sm : mS) (pc : Nat) (ls : List (Nat × Value)) (st : List Value) : Prop := match Y with
  | ((p, l, e, s, m, below, meth, c), D, cA, b, _, _) => ∀ (H : Heap) (locs : List Loc) (lsa : Array Slot), xP (gC D cA s.heap.size) cdom (encC (gC D cA s.heap.size) sc) H → xP (gM D cA s.heap.size) mdom (encM (gM D cA s.heap.size) sm) H → va_S (fun q : Nat => s.heap.size ≤ q) s.heap H locs → lv_has lsa 4 ls → W p l e room_1 s m #[Value.ref b] below meth c H locs 600000 7302250 (lw_Z below #[Value.ref b] s) (F0 m pc lsa st)
section LR
variable {Y : lY} {sc : cS} {sm : mS} {pc : Nat} {ls ls' : List (Nat × Value)} {st : List Value}
theorem l_iconst (C : lC Y) {n : Int} {v : Int32} (d : decode cL_law pc = .ok (.iconst n, 1)) (hv : Int32.ofInt n = v) (k : XL Y sc sm (pc + 1) ls (.int v :: st)) : XL Y sc sm pc ls st := by
  obtain ⟨⟨p, l, e, s, m, below, meth, c⟩, D, cA, b, Ln, xs⟩ := Y
  exact fun H locs lsa hP hQ hS hl => lv_iconst C.1 C.2.1 d hv (k H locs lsa hP hQ hS hl)
theorem l_bipush (C : lC Y) {n : Int} {v : Int32} (d : decode cL_law pc = .ok (.bipush n, 2)) (hv : (Int8.ofInt n).toInt32 = v) (k : XL Y sc sm (pc + 2) ls (.int v :: st)) : XL Y sc sm pc ls st := by
  obtain ⟨⟨p, l, e, s, m, below, meth, c⟩, D, cA, b, Ln, xs⟩ := Y
  exact fun H locs lsa hP hQ hS hl => lv_bipush C.1 C.2.1 d hv (k H locs lsa hP hQ hS hl)
theorem l_iload_n (C : lC Y) {a : Fin 4} {i j : Nat} {x : Int32} (d : decode cL_law pc = .ok (.iload_n a, 1)) (hi : (a : Nat) = i) (hk : ls[j]? = some (i, .int x)) (k : XL Y sc sm (pc + 1) ls (.int x :: st)) : XL Y sc sm pc ls st := by
  obtain ⟨⟨p, l, e, s, m, below, meth, c⟩, D, cA, b, Ln, xs⟩ := Y
  exact fun H locs lsa hP hQ hS hl => lv_iload_n C.1 C.2.1 d hi (lv_at hl j hk) (k H locs lsa hP hQ hS hl)
theorem l_aload_n (C : lC Y) {a : Fin 4} {i j x : Nat} (d : decode cL_law pc = .ok (.aload_n a, 1)) (hi : (a : Nat) = i) (hk : ls[j]? = some (i, .ref x)) (k : XL Y sc sm (pc + 1) ls (.ref x :: st)) : XL Y sc sm pc ls st := by
  obtain ⟨⟨p, l, e, s, m, below, meth, c⟩, D, cA, b, Ln, xs⟩ := Y
  exact fun H locs lsa hP hQ hS hl => lv_aload_n C.1 C.2.1 d hi (lv_at hl j hk) (k H locs lsa hP hQ hS hl)
theorem l_iadd (C : lC Y) {x y : Int32} (d : decode cL_law pc = .ok (.iadd, 1)) (k : XL Y sc sm (pc + 1) ls (.int (x + y) :: st)) : XL Y sc sm pc ls (.int y :: .int x :: st) := by
  obtain ⟨⟨p, l, e, s, m, below, meth, c⟩, D, cA, b, Ln, xs⟩ := Y
  exact fun H locs lsa hP hQ hS hl => lv_iadd C.1 C.2.1 d (k H locs lsa hP hQ hS hl)
theorem l_isub (C : lC Y) {x y : Int32} (d : decode cL_law pc = .ok (.isub, 1)) (k : XL Y sc sm (pc + 1) ls (.int (x - y) :: st)) : XL Y sc sm pc ls (.int y :: .int x :: st) := by
  obtain ⟨⟨p, l, e, s, m, below, meth, c⟩, D, cA, b, Ln, xs⟩ := Y
  exact fun H locs lsa hP hQ hS hl => lv_isub C.1 C.2.1 d (k H locs lsa hP hQ hS hl)
theorem l_iand (C : lC Y) {x y : Int32} (d : decode cL_law pc = .ok (.iand, 1)) (k : XL Y sc sm (pc + 1) ls (.int (x &&& y) :: st)) : XL Y sc sm pc ls (.int y :: .int x :: st) := by
  obtain ⟨⟨p, l, e, s, m, below, meth, c⟩, D, cA, b, Ln, xs⟩ := Y
  exact fun H locs lsa hP hQ hS hl => lv_iand C.1 C.2.1 d (k H locs lsa hP hQ hS hl)
theorem l_goto (C : lC Y) {off : Int} {tgt : Nat} (d : decode cL_law pc = .ok (.goto off, 3)) (ht : (pc : Int) + off = (tgt : Int)) (k : XL Y sc sm tgt ls st) : XL Y sc sm pc ls st := by
  obtain ⟨⟨p, l, e, s, m, below, meth, c⟩, D, cA, b, Ln, xs⟩ := Y
  exact fun H locs lsa hP hQ hS hl => lv_goto C.1 C.2.1 d ht (k H locs lsa hP hQ hS hl)
theorem l_iinc (C : lC Y) {i j : Nat} {z : Int} {x v : Int32} (d : decode cL_law pc = .ok (.iinc i z, 3)) (hk : ls[j]? = some (i, .int x)) (hv : x + Int32.ofInt z = v) (hn : i < 4) (hl2 : (i, Value.int v) :: ls.filter (fun q => !(q.1 == i) && !(q.1 + 1 == i && q.2.category == 2)) = ls') (k : XL Y sc sm (pc + 3) ls' st) : XL Y sc sm pc ls st := by
  obtain ⟨⟨p, l, e, s, m, below, meth, c⟩, D, cA, b, Ln, xs⟩ := Y
  exact fun H locs lsa hP hQ hS hl => lv_iinc C.1 C.2.1 d hl hk hv hn hl2 (fun lsb q => k H locs lsb hP hQ hS q)
theorem l_slen (C : lC Y) (d : decode cL_law pc = .ok (.arraylength, 1)) (k : XL Y sc sm (pc + 1) ls (.int (Int32.ofNat Y.2.2.2.2.1) :: st)) : XL Y sc sm pc ls (.ref Y.2.2.2.1 :: st) := by
  obtain ⟨⟨p, l, e, s, m, below, meth, c⟩, D, cA, b, Ln, xs⟩ := Y
  exact fun H locs lsa hP hQ hS hl => va_slen C.1 C.2.1 C.2.2.2.2.2.2.2.2.2.1 C.2.2.2.2.2.2.2.2.2.2 (Nat.not_le.mpr C.2.2.2.2.2.2.2.2.2.2) hS d (k H locs lsa hP hQ hS hl)
theorem l_sld (C : lC Y) {i : Int32} (hin : vp_in i Y.2.2.2.2.1) (d : decode cL_law pc = .ok (.iaload, 1)) (k : XL Y sc sm (pc + 1) ls (.int (Y.2.2.2.2.2 i.toNatClampNeg) :: st)) : XL Y sc sm pc ls (.int i :: .ref Y.2.2.2.1 :: st) := by
  obtain ⟨⟨p, l, e, s, m, below, meth, c⟩, D, cA, b, Ln, xs⟩ := Y
  exact fun H locs lsa hP hQ hS hl => va_sld C.1 C.2.1 C.2.2.2.2.2.2.2.2.2.1 C.2.2.2.2.2.2.2.2.2.2 (Nat.not_le.mpr C.2.2.2.2.2.2.2.2.2.2) hS hin d (k H locs lsa hP hQ hS hl)
theorem l_icmp_gt (C : lC Y) {x y : Int32} {off : Int} {tgt : Nat} (d : decode cL_law pc = .ok (.if_icmp .gt off, 3)) (ht : (pc : Int) + off = (tgt : Int)) (kt : y < x → XL Y sc sm tgt ls st) (kf : ¬ y < x → XL Y sc sm (pc + 3) ls st) : XL Y sc sm pc ls (.int y :: .int x :: st) := by
  obtain ⟨⟨p, l, e, s, m, below, meth, c⟩, D, cA, b, Ln, xs⟩ := Y
  exact fun H locs lsa hP hQ hS hl => lv_icmp_gt C.1 C.2.1 d ht (fun q => kt q H locs lsa hP hQ hS hl) (fun q => kf q H locs lsa hP hQ hS hl)
theorem l_icmp_eq (C : lC Y) {x : Int32} {off : Int} {tgt : Nat} (d : decode cL_law pc = .ok (.if_icmp .eq off, 3)) (ht : (pc : Int) + off = (tgt : Int)) (kt : XL Y sc sm tgt ls st) : XL Y sc sm pc ls (.int x :: .int x :: st) := by
  obtain ⟨⟨p, l, e, s, m, below, meth, c⟩, D, cA, b, Ln, xs⟩ := Y
  exact fun H locs lsa hP hQ hS hl => lv_icmp_eq C.1 C.2.1 d ht (fun q => kt H locs lsa hP hQ hS hl) (fun q => absurd rfl q)
theorem l_if_eq (C : lC Y) {x : Int32} {off : Int} {tgt : Nat} (d : decode cL_law pc = .ok (.ifCond .eq off, 3)) (ht : (pc : Int) + off = (tgt : Int)) (kt : x = 0 → XL Y sc sm tgt ls st) (kf : ¬ x = 0 → XL Y sc sm (pc + 3) ls st) : XL Y sc sm pc ls (.int x :: st) := by
  obtain ⟨⟨p, l, e, s, m, below, meth, c⟩, D, cA, b, Ln, xs⟩ := Y
  exact fun H locs lsa hP hQ hS hl => lv_if_eq C.1 C.2.1 d ht (fun q => kt q H locs lsa hP hQ hS hl) (fun q => kf q H locs lsa hP hQ hS hl)
theorem l_tableIn (C : lC Y) {dflt lo hi : Int} {offs : Array Int} {len : Nat} {x : Int32} {off : Int} {tgt : Nat} (d : decode cL_law pc = .ok (.tableswitch dflt lo hi offs, len)) (h1 : ¬ x.toInt < lo) (h2 : ¬ hi < x.toInt) (ho : offs[(x.toInt - lo).toNat]? = some off) (ht : (pc : Int) + off = (tgt : Int)) (k : XL Y sc sm tgt ls st) : XL Y sc sm pc ls (.int x :: st) := by
  obtain ⟨⟨p, l, e, s, m, below, meth, c⟩, D, cA, b, Ln, xs⟩ := Y
  exact fun H locs lsa hP hQ hS hl => lv_tableIn C.1 C.2.1 d h1 h2 ho ht (k H locs lsa hP hQ hS hl)
theorem l_tableOut (C : lC Y) {dflt lo hi : Int} {offs : Array Int} {len : Nat} {x : Int32} {tgt : Nat} (d : decode cL_law pc = .ok (.tableswitch dflt lo hi offs, len)) (h : x.toInt < lo ∨ hi < x.toInt) (ht : (pc : Int) + dflt = (tgt : Int)) (k : XL Y sc sm tgt ls st) : XL Y sc sm pc ls (.int x :: st) := by
  obtain ⟨⟨p, l, e, s, m, below, meth, c⟩, D, cA, b, Ln, xs⟩ := Y
  exact fun H locs lsa hP hQ hS hl => lv_tableOut C.1 C.2.1 d h ht (k H locs lsa hP hQ hS hl)
theorem l_end (C : lC Y) (d : decode cL_law pc = .ok (.ireturn, 1)) : XL Y sc sm pc ls [.int 1] := by
  obtain ⟨⟨p, l, e, s, m, below, meth, c⟩, D, cA, b, Ln, xs⟩ := Y
  exact fun H locs lsa hP hQ hS hl => va_forget (fun q hq => hS.2.2 q hq) (lw_ret C.1 C.2.1 C.2.2.2.2.2.2.2.1 C.2.2.2.2.2.2.1 d)
theorem l_callC (C : lC Y) {index : Nat} {y : MethodName} {bytes : ByteArray} {maxL n : Nat} {rt : Option FieldType} {rm : Room} {As rest : List Value} {r : Int32} {sc1 : cS} {T : u_T} {N : Nat} (d : decode cL_law pc = .ok (.invokevirtual index, 3)) (hM : ∀ (l : Launch) (G : xG), xMet l y (x_ws y bytes maxL rt) rm G cdom (.ref (G.2.1 0 0) :: As) (encC G sc) (some (.int r)) (encC G sc1))
    (h1 : Cond.methodLink R_law index y ∈ gt_ws) (h2 : Cond.instanceMethod y ∈ gt_ws) (h3 : Cond.selects y.cls y y ∈ gt_ws) (h4 : Cond.initialized y.cls ∈ gt_ws) (h5 : Cond.code y bytes maxL rt ∈ gt_ws) (hc0 : rm.cells = 0 ∧ rm.slots = 0) (hd : y.cls ≠ "java/lang/invoke/MethodHandle" ∧ y.cls ≠ "java/lang/invoke/VarHandle" ∧ (parseMethodDescriptor y.desc).map (fun d => d.parameters.length) = some n)
    (hn : As.length = n) (hR : rm.frames + 1 ≤ room_1.frames ∧ 8 + (maxL + 11) + rm.locals ≤ room_1.locals) (hc : vwCl[8]? = some (y.cls, T, N)) (hst : st = As.reverse ++ .ref (lh Y + 0) :: rest) (hw : (rest.map fun v => v.category).sum ≤ 8) (kk : XL Y sc1 sm (pc + 3) ls (.int r :: rest)) : XL Y sc sm pc ls st := by
  obtain ⟨⟨p, l, e, s, m, below, meth, c⟩, D, cA, b, Ln, xs⟩ := Y
  obtain ⟨hx, hb, hml, hown, hts, hK, hlk, hrt, hNt, hX, hbl⟩ := C
  intro H locs lsa hP hQ hS hl T1 hT XT
  have hJ := gC_J D cA s.heap.size
  have h0 : va_P D vwCl [((gC D cA s.heap.size).2.1 0 0, encC (gC D cA s.heap.size) sc 0 0)] H := fun q x hx => by
    cases q with
    | zero => cases hx; exact hP 0 0 rfl
    | succ q => cases hx
  have hA : ∀ q : Nat, xA (gC D cA s.heap.size) cdom q → s.heap.size ≤ q := fun q z => by
    obtain ⟨k, i, -, e⟩ := z
    rw [e]
    exact Nat.le_add_right _ _
  have run := va_runV (l := l) (As := As) (rest := rest) (n := n) (mc := 0) (ms := 0) (H := H) (locs := locs) (cells := 600000) (slots := 7302250) (e := e) (below := below) (meth := meth) (R := room_1) (b := (gC D cA s.heap.size).2.1 0 0) (g := F0 m pc lsa st) (C := y.cls) ⟨hx, hb, hml, hown, hts⟩ (hM l (gC D cA s.heap.size)) ⟨callB_of n hts (x_goodin h5) rfl hc0.1 hc0.2 (hts _ h4) (hts _ h1) hd hR, hts _ h2, hts _ h3⟩ ⟨xPre.blind, va_recv hK h0 (ci := 8) (q0 := 0) hc rfl, fun U hU hW => ⟨rfl, by rw [hU]; exact hP, va_K.moved hW.alike hK, hJ, hNt.warm hW⟩⟩ rfl hn hl.1 hst (lv_room hw) d ⟨Nat.le_of_ble_eq_true rfl, Nat.le_of_ble_eq_true rfl⟩
  obtain ⟨v, st₀, t, T', L, q0, X', hL, e1, e2, ⟨hv, hP1, hz, hk⟩, stp⟩ := run T1 hT XT
  cases hv
  rw [q0] at hz hk
  have hO : xP (gM D cA s.heap.size) mdom (encM (gM D cA s.heap.size) sm) T'.heap := fun k' i' hd => by
    have hlt := (hQ k' i' hd).lt
    refine (hQ k' i' hd).kept ?_
    rw [e1]
    exact hk _ hlt (fun z => by obtain ⟨k, i, hk, e⟩ := z; exact g_apart D cA s.heap.size (i' := i') hk e.symm)
  obtain ⟨t2, a1, b1⟩ := kk T'.heap (locs ++ L) lsa (by rw [e1]; exact hP1) hO
    ⟨Nat.le_trans hS.1 (by rw [e1]; exact hz), fun q h1 h2 => by rw [e1, hk q (Nat.lt_of_lt_of_le h1 hS.1) (fun w => h2 (hA q w))]; exact hS.2.1 q h1 h2, fun q hq => by
      rcases List.mem_append.mp hq with h | h
      · exact hS.2.2 q h
      · exact hA _ (hL q h)⟩ hl T' rfl X'
  exact ⟨t2, stp t2 a1, b1⟩
theorem l_callM (C : lC Y) {index : Nat} {y : MethodName} {bytes : ByteArray} {maxL n : Nat} {rt : Option FieldType} {rm : Room} {As rest : List Value} {r : Int32} {sm1 : mS} {T : u_T} {N : Nat} (d : decode cL_law pc = .ok (.invokevirtual index, 3)) (hM : ∀ (l : Launch) (G : xG), xMet l y (x_ws y bytes maxL rt) rm G mdom (.ref (G.2.1 0 0) :: As) (encM G sm) (some (.int r)) (encM G sm1))
    (h1 : Cond.methodLink R_law index y ∈ gt_ws) (h2 : Cond.instanceMethod y ∈ gt_ws) (h3 : Cond.selects y.cls y y ∈ gt_ws) (h4 : Cond.initialized y.cls ∈ gt_ws) (h5 : Cond.code y bytes maxL rt ∈ gt_ws) (hc0 : rm.cells = 0 ∧ rm.slots = 0) (hd : y.cls ≠ "java/lang/invoke/MethodHandle" ∧ y.cls ≠ "java/lang/invoke/VarHandle" ∧ (parseMethodDescriptor y.desc).map (fun d => d.parameters.length) = some n)
    (hn : As.length = n) (hR : rm.frames + 1 ≤ room_1.frames ∧ 8 + (maxL + 11) + rm.locals ≤ room_1.locals) (hc : vwCl[9]? = some (y.cls, T, N)) (hst : st = As.reverse ++ .ref (lh Y + 291) :: rest) (hw : (rest.map fun v => v.category).sum ≤ 8) (kk : XL Y sc sm1 (pc + 3) ls (.int r :: rest)) : XL Y sc sm pc ls st := by
  obtain ⟨⟨p, l, e, s, m, below, meth, c⟩, D, cA, b, Ln, xs⟩ := Y
  obtain ⟨hx, hb, hml, hown, hts, hK, hlk, hrt, hNt, hX, hbl⟩ := C
  intro H locs lsa hP hQ hS hl T1 hT XT
  have hJ := gM_J D cA s.heap.size
  have h0 : va_P D vwCl [((gM D cA s.heap.size).2.1 0 0, encM (gM D cA s.heap.size) sm 0 0)] H := fun q x hx => by
    cases q with
    | zero => cases hx; exact hQ 0 0 rfl
    | succ q => cases hx
  have hA : ∀ q : Nat, xA (gM D cA s.heap.size) mdom q → s.heap.size ≤ q := fun q z => by
    obtain ⟨k, i, -, e⟩ := z
    rw [e]
    exact Nat.le_add_right _ _
  have run := va_runV (l := l) (As := As) (rest := rest) (n := n) (mc := 0) (ms := 0) (H := H) (locs := locs) (cells := 600000) (slots := 7302250) (e := e) (below := below) (meth := meth) (R := room_1) (b := (gM D cA s.heap.size).2.1 0 0) (g := F0 m pc lsa st) (C := y.cls) ⟨hx, hb, hml, hown, hts⟩ (hM l (gM D cA s.heap.size)) ⟨callB_of n hts (x_goodin h5) rfl hc0.1 hc0.2 (hts _ h4) (hts _ h1) hd hR, hts _ h2, hts _ h3⟩ ⟨xPre.blind, va_recv hK h0 (ci := 9) (q0 := 0) hc rfl, fun U hU hW => ⟨rfl, by rw [hU]; exact hQ, va_K.moved hW.alike hK, hJ, hNt.warm hW⟩⟩ rfl hn hl.1 hst (lv_room hw) d ⟨Nat.le_of_ble_eq_true rfl, Nat.le_of_ble_eq_true rfl⟩
  obtain ⟨v, st₀, t, T', L, q0, X', hL, e1, e2, ⟨hv, hP1, hz, hk⟩, stp⟩ := run T1 hT XT
  cases hv
  rw [q0] at hz hk
  have hO : xP (gC D cA s.heap.size) cdom (encC (gC D cA s.heap.size) sc) T'.heap := fun k' i' hd => by
    have hlt := (hP k' i' hd).lt
    refine (hP k' i' hd).kept ?_
    rw [e1]
    exact hk _ hlt (fun z => by obtain ⟨k, i, hk, e⟩ := z; exact g_apart D cA s.heap.size (i' := i) hd e)
  obtain ⟨t2, a1, b1⟩ := kk T'.heap (locs ++ L) lsa hO (by rw [e1]; exact hP1)
    ⟨Nat.le_trans hS.1 (by rw [e1]; exact hz), fun q h1 h2 => by rw [e1, hk q (Nat.lt_of_lt_of_le h1 hS.1) (fun w => h2 (hA q w))]; exact hS.2.1 q h1 h2, fun q hq => by
      rcases List.mem_append.mp hq with h | h
      · exact hS.2.2 q h
      · exact hA _ (hL q h)⟩ hl T' rfl X'
  exact ⟨t2, stp t2 a1, b1⟩
end LR
