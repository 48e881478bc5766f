/-! MAKING: a constructor's walk. The heap ends at h + n; cell h + i holds EC i; 'this' is h + a and holds class ci, fields fs; F is the rest. -/
def kup (E : Nat → va_E) (i : Nat) (e : va_E) : Nat → va_E := fun j => if j = i then e else E j
theorem kup_at (E : Nat → va_E) (i : Nat) (e : va_E) : kup E i e i = e := by simp [kup]
theorem kup_ne (E : Nat → va_E) {i j : Nat} (e : va_E) (h : j ≠ i) : kup E i e j = E j := by simp [kup, h]
def kP (G : xG) (h n : Nat) (E : Nat → va_E) (H : Heap) : Prop := H.size = h + n ∧ ∀ i : Nat, i < n → va_at G.1 vwCl (h + i, E i) H
theorem kP.eq {G : xG} {h n : Nat} {E E2 : Nat → va_E} {H : Heap} (hP : kP G h n E H) (he : ∀ i : Nat, i < n → E i = E2 i) : kP G h n E2 H := ⟨hP.1, fun i hi => by rw [← he i hi]; exact hP.2 i hi⟩
theorem kP.push {G : xG} {h n : Nat} {E : Nat → va_E} {H H1 : Heap} {e : va_E} (hP : kP G h n E H) (hz : H1.size = h + n + 1) (ho : ∀ q : Nat, q < h + n → H1[q]? = H[q]?) (he : va_at G.1 vwCl (h + n, e) H1) : kP G h (n + 1) (kup E n e) H1 := by
  refine ⟨hz, fun i hi => ?_⟩
  by_cases hin : i = n
  · subst hin; rw [kup_at]; exact he
  · rw [kup_ne _ _ hin]
    exact (hP.2 i (by omega)).kept (ho _ (by show h + i < h + n; omega))
theorem kP.set {G : xG} {h n j : Nat} {E : Nat → va_E} {H H1 : Heap} {e : va_E} (hP : kP G h n E H) (hz : H1.size = H.size) (ho : ∀ q : Nat, q ≠ h + j → H1[q]? = H[q]?) (he : va_at G.1 vwCl (h + j, e) H1) : kP G h n (kup E j e) H1 := by
  refine ⟨hz.trans hP.1, fun i hi => ?_⟩
  by_cases hin : i = j
  · subst hin; rw [kup_at]; exact he
  · rw [kup_ne _ _ hin]
    exact (hP.2 i hi).kept (ho _ (by show h + i ≠ h + j; omega))
def kO (U : State) : Prop := va_AO RX0 U ∧ va_AO RX2 U ∧ va_AO RX3 U ∧ va_AO RX5 U
theorem kO.moved {u U : State} (hvm : u.vm.Alike U.vm) (h : kO u) : kO U := ⟨h.1.moved hvm, h.2.1.moved hvm, h.2.2.1.moved hvm, h.2.2.2.moved hvm⟩
def kA (h a n0 : Nat) : Nat → Prop := fun q => q = h + a ∨ h + n0 ≤ q
def kQ (G : xG) (h a n0 n' : Nat) (E' : Nat → va_E) : Array Value → State → Outcome → State → Prop := fun _ st oc t => oc = .returned none ∧ kP G h n' E' t.heap ∧ va_F (kA h a n0) st t
def kPre (G : xG) (h n : Nat) (E : Nat → va_E) (U : State) : Prop := kP G h n E U.heap ∧ xK G U ∧ xN U ∧ kO U
def kMet (l : Launch) (y : MethodName) (ws : List Cond) (rm : Room) (G : xG) (h a n : Nat) (E : Nat → va_E) (n' : Nat) (E' : Nat → va_E) (mc ms : Nat) : Prop :=
  Met l y ws rm (va_Pc [.ref (h + a)] (kPre G h n E)) (kQ G h a n n' E') mc ms (kA h a n)
theorem kPre.blind {av : List Value} {G : xG} {h n : Nat} {E : Nat → va_E} : FrameBlind (va_Pc av (kPre G h n E)) := fun a U g mk h => ⟨h.1, h.2.1, va_K.moved (u := U) (U := U.calling g mk a) (Vm.Alike.refl U.vm) h.2.2.1, xN.same (u := U) (U := U.calling g mk a) rfl h.2.2.2.1, kO.moved (u := U) (U := U.calling g mk a) (Vm.Alike.refl U.vm) h.2.2.2.2⟩
/-- the machine; class numbers; h, a, n0, locals; cells and slots in all; this's class -/
abbrev kY : Type := xM × xG × Nat × Nat × Nat × Nat × Nat × Nat × Nat
def kC (Y : kY) (own : String) (cc : ByteArray) (rm : Room) : Prop := match Y with
  | ((p, _, _, R, s, m, args, _, meth, c), G, h, _, n0, nL, _, _, _) => p.tables.exec = Jvm.exec ∧ c.code = cc ∧ c.maxLocals = nL ∧ s.vm.findClass own = some m.cls ∧ (∀ w ∈ gt_ws, w.before args s = true) ∧ xK G s ∧ meth.locks = false ∧ meth.sig.returnType = none ∧ xN s ∧ kO s ∧ meth.name = "<init>" ∧ R = rm ∧ s.heap.size = h + n0
def K (Y : kY) (n' : Nat) (E' : Nat → va_E) (F : Nat → va_E) (fs : List Value) (n cells slots : Nat) (pc : Nat) (ls : List (Nat × Value)) (st : List Value) : Prop := match Y with
  | ((p, l, e, R, s, m, args, below, meth, c), G, h, a, n0, nL, mc, ms, ci) => ∀ (H : Heap) (locs : List Loc) (lsa : Array Slot), kP G h n (kup F a (.inr (ci, fs))) H → va_S (kA h a n0) s.heap H locs → lv_has lsa nL ls → W p l e R s m args below meth c H locs cells slots (MQ below (kQ G h a n0 n' E') args s mc ms (kA h a n0)) (F0 m pc lsa st)
section KR
variable {M : xM} {G : xG} {h a n0 nL mc ms ci : Nat} {n' : Nat} {E' F F2 : Nat → va_E} {fs : List Value} {n cells slots : Nat} {own : String} {cc : ByteArray} {rm : Room} {pc : Nat} {ls ls' : List (Nat × Value)} {st : List Value}
theorem k_sub (ks : List Nat) (hk : lv_pick ls ks = ls') (k : K (M, G, h, a, n0, nL, mc, ms, ci) n' E' F fs n cells slots pc ls' st) : K (M, G, h, a, n0, nL, mc, ms, ci) n' E' F fs n cells slots pc ls st := by
  obtain ⟨p, l, e, R, s, m, args, below, meth, c⟩ := M
  exact fun H locs lsa hP hS hl => k H locs lsa hP hS (lv_sub hl ks hk)
theorem k_F (he : ∀ i : Nat, i < n → i ≠ a → F i = F2 i) (k : K (M, G, h, a, n0, nL, mc, ms, ci) n' E' F2 fs n cells slots pc ls st) : K (M, G, h, a, n0, nL, mc, ms, ci) n' E' F fs n cells slots pc ls st := by
  obtain ⟨p, l, e, R, s, m, args, below, meth, c⟩ := M
  exact fun H locs lsa hP hS hl => k H locs lsa (hP.eq fun i hi => by
    by_cases hia : i = a
    · subst hia; rw [kup_at, kup_at]
    · rw [kup_ne _ _ hia, kup_ne _ _ hia]; exact he i hi hia) hS hl
theorem k_widen {k1 k2 : Nat} (h1 : cells ≤ k1) (h2 : slots ≤ k2) (k : K (M, G, h, a, n0, nL, mc, ms, ci) n' E' F fs n k1 k2 pc ls st) : K (M, G, h, a, n0, nL, mc, ms, ci) n' E' F fs n cells slots pc ls st := by
  obtain ⟨p, l, e, R, s, m, args, below, meth, c⟩ := M
  exact fun H locs lsa hP hS hl => W.widen h1 h2 (k H locs lsa hP hS hl)
theorem k_iconst (C : kC (M, G, h, a, n0, nL, mc, ms, ci) own cc rm) {z : Int} {v : Int32} (d : decode cc pc = .ok (.iconst z, 1)) (hv : Int32.ofInt z = v) (k : K (M, G, h, a, n0, nL, mc, ms, ci) n' E' F fs n cells slots (pc + 1) ls (.int v :: st)) : K (M, G, h, a, n0, nL, mc, ms, ci) n' E' F fs n cells slots pc ls st := by
  obtain ⟨p, l, e, R, s, m, args, below, meth, c⟩ := M
  exact fun H locs lsa hP hS hl => lv_iconst C.1 C.2.1 d hv (k H locs lsa hP hS hl)
theorem k_bipush (C : kC (M, G, h, a, n0, nL, mc, ms, ci) own cc rm) {z : Int} {v : Int32} (d : decode cc pc = .ok (.bipush z, 2)) (hv : (Int8.ofInt z).toInt32 = v) (k : K (M, G, h, a, n0, nL, mc, ms, ci) n' E' F fs n cells slots (pc + 2) ls (.int v :: st)) : K (M, G, h, a, n0, nL, mc, ms, ci) n' E' F fs n cells slots pc ls st := by
  obtain ⟨p, l, e, R, s, m, args, below, meth, c⟩ := M
  exact fun H locs lsa hP hS hl => lv_bipush C.1 C.2.1 d hv (k H locs lsa hP hS hl)
theorem k_sipush (C : kC (M, G, h, a, n0, nL, mc, ms, ci) own cc rm) {z : Int} {v : Int32} (d : decode cc pc = .ok (.sipush z, 3)) (hv : (Int16.ofInt z).toInt32 = v) (k : K (M, G, h, a, n0, nL, mc, ms, ci) n' E' F fs n cells slots (pc + 3) ls (.int v :: st)) : K (M, G, h, a, n0, nL, mc, ms, ci) n' E' F fs n cells slots pc ls st := by
  obtain ⟨p, l, e, R, s, m, args, below, meth, c⟩ := M
  exact fun H locs lsa hP hS hl => lv_sipush C.1 C.2.1 d hv (k H locs lsa hP hS hl)
theorem k_iload_n (C : kC (M, G, h, a, n0, nL, mc, ms, ci) own cc rm) {b : Fin 4} {i j : Nat} {x : Int32} (d : decode cc pc = .ok (.iload_n b, 1)) (hi : (b : Nat) = i) (hk : ls[j]? = some (i, .int x)) (k : K (M, G, h, a, n0, nL, mc, ms, ci) n' E' F fs n cells slots (pc + 1) ls (.int x :: st)) : K (M, G, h, a, n0, nL, mc, ms, ci) n' E' F fs n cells slots pc ls st := by
  obtain ⟨p, l, e, R, s, m, args, below, meth, c⟩ := M
  exact fun H locs lsa hP hS hl => lv_iload_n C.1 C.2.1 d hi (lv_at hl j hk) (k H locs lsa hP hS hl)
theorem k_aload_n (C : kC (M, G, h, a, n0, nL, mc, ms, ci) own cc rm) {b : Fin 4} {i j x : Nat} (d : decode cc pc = .ok (.aload_n b, 1)) (hi : (b : Nat) = i) (hk : ls[j]? = some (i, .ref x)) (k : K (M, G, h, a, n0, nL, mc, ms, ci) n' E' F fs n cells slots (pc + 1) ls (.ref x :: st)) : K (M, G, h, a, n0, nL, mc, ms, ci) n' E' F fs n cells slots pc ls st := by
  obtain ⟨p, l, e, R, s, m, args, below, meth, c⟩ := M
  exact fun H locs lsa hP hS hl => lv_aload_n C.1 C.2.1 d hi (lv_at hl j hk) (k H locs lsa hP hS hl)
theorem k_istore_n (C : kC (M, G, h, a, n0, nL, mc, ms, ci) own cc rm) {b : Fin 4} {i : Nat} {x : Int32} (d : decode cc pc = .ok (.istore_n b, 1)) (hi : (b : Nat) = i) (hn : i < nL) (hl2 : (i, Value.int x) :: ls.filter (fun q => !(q.1 == i) && !(q.1 + 1 == i && q.2.category == 2)) = ls') (k : K (M, G, h, a, n0, nL, mc, ms, ci) n' E' F fs n cells slots (pc + 1) ls' st) : K (M, G, h, a, n0, nL, mc, ms, ci) n' E' F fs n cells slots pc ls (.int x :: st) := by
  obtain ⟨p, l, e, R, s, m, args, below, meth, c⟩ := M
  exact fun H locs lsa hP hS hl => lv_istore_n C.1 C.2.1 d hi hl hn hl2 (fun lsb q => k H locs lsb hP hS q)
theorem k_iinc (C : kC (M, G, h, a, n0, nL, mc, ms, ci) own cc rm) {i j : Nat} {z : Int} {x v : Int32} (d : decode cc pc = .ok (.iinc i z, 3)) (hk : ls[j]? = some (i, .int x)) (hv : x + Int32.ofInt z = v) (hn : i < nL) (hl2 : (i, Value.int v) :: ls.filter (fun q => !(q.1 == i) && !(q.1 + 1 == i && q.2.category == 2)) = ls') (k : K (M, G, h, a, n0, nL, mc, ms, ci) n' E' F fs n cells slots (pc + 3) ls' st) : K (M, G, h, a, n0, nL, mc, ms, ci) n' E' F fs n cells slots pc ls st := by
  obtain ⟨p, l, e, R, s, m, args, below, meth, c⟩ := M
  exact fun H locs lsa hP hS hl => lv_iinc C.1 C.2.1 d hl hk hv hn hl2 (fun lsb q => k H locs lsb hP hS q)
theorem k_dup (C : kC (M, G, h, a, n0, nL, mc, ms, ci) own cc rm) {v : Value} (d : decode cc pc = .ok (.dup, 1)) (hv : v.category = 1) (k : K (M, G, h, a, n0, nL, mc, ms, ci) n' E' F fs n cells slots (pc + 1) ls (v :: v :: st)) : K (M, G, h, a, n0, nL, mc, ms, ci) n' E' F fs n cells slots pc ls (v :: st) := by
  obtain ⟨p, l, e, R, s, m, args, below, meth, c⟩ := M
  exact fun H locs lsa hP hS hl => lv_dup C.1 C.2.1 d hv (k H locs lsa hP hS hl)
theorem k_goto (C : kC (M, G, h, a, n0, nL, mc, ms, ci) own cc rm) {off : Int} {tgt : Nat} (d : decode cc pc = .ok (.goto off, 3)) (ht : (pc : Int) + off = (tgt : Int)) (k : K (M, G, h, a, n0, nL, mc, ms, ci) n' E' F fs n cells slots tgt ls st) : K (M, G, h, a, n0, nL, mc, ms, ci) n' E' F fs n cells slots pc ls st := by
  obtain ⟨p, l, e, R, s, m, args, below, meth, c⟩ := M
  exact fun H locs lsa hP hS hl => lv_goto C.1 C.2.1 d ht (k H locs lsa hP hS hl)
theorem k_icmp_ge (C : kC (M, G, h, a, n0, nL, mc, ms, ci) own cc rm) {x y : Int32} {off : Int} {tgt : Nat} (d : decode cc pc = .ok (.if_icmp .ge off, 3)) (ht : (pc : Int) + off = (tgt : Int)) (kt : y ≤ x → K (M, G, h, a, n0, nL, mc, ms, ci) n' E' F fs n cells slots tgt ls st) (kf : ¬ (y ≤ x) → K (M, G, h, a, n0, nL, mc, ms, ci) n' E' F fs n cells slots (pc + 3) ls st) : K (M, G, h, a, n0, nL, mc, ms, ci) n' E' F fs n cells slots pc ls (.int y :: .int x :: st) := by
  obtain ⟨p, l, e, R, s, m, args, below, meth, c⟩ := M
  exact fun H locs lsa hP hS hl => lv_icmp_ge C.1 C.2.1 d ht (fun q => kt q H locs lsa hP hS hl) (fun q => kf q H locs lsa hP hS hl)
theorem k_objInit (C : kC (M, G, h, a, n0, nL, mc, ms, ci) own cc rm) {idx b : Nat} (d : decode cc pc = .ok (.invokespecial idx, 3)) (h1 : Cond.methodLink own idx Lib.objectInit ∈ gt_ws) (h2 : Cond.instanceMethod Lib.objectInit ∈ gt_ws) (h3 : Cond.code Lib.objectInit ⟨#[0xb1]⟩ 1 none ∈ gt_ws) (hf : 1 ≤ rm.frames) (hlo : (st.map fun v => v.category).sum + 12 ≤ rm.locals) (k : K (M, G, h, a, n0, nL, mc, ms, ci) n' E' F fs n cells slots (pc + 3) ls st) : K (M, G, h, a, n0, nL, mc, ms, ci) n' E' F fs n cells slots pc ls (.ref b :: st) := by
  obtain ⟨p, l, e, R, s, m, args, below, meth, c⟩ := M
  obtain ⟨hx, hb, hml, hown, hts, hK, hlk, hrt, hNt, hO, hin, hR, hz⟩ := C
  subst hR
  exact fun H locs lsa hP hS hl => W.objInit hx hb hown (hts _ h1) (hts _ h2) (hts _ h3) rfl (hl.1.trans hml.symm) rfl d hf (by show 2 * 0 + _ + 12 ≤ _; omega) (k H locs lsa hP hS hl)
/-- a new object -/
theorem k_new (C : kC (M, G, h, a, n0, nL, mc, ms, ci) own cc rm) {Cn : String} {T : u_T} {N cj idx : Nat} {f0 : List Value} (ty0 : Nat → FieldType) (d : decode cc pc = .ok (.new idx, 3)) (hin : ∀ w ∈ u_ws Cn T N, w ∈ gt_ws) (hty : ∀ k, k < N → parseFieldDescriptor (T k).2.2.1 = some (ty0 k)) (hc : vwCl[cj]? = some (Cn, T, N)) (h1 : Cond.classLink own idx Cn ∈ gt_ws) (h2 : Cond.instantiable Cn N ∈ gt_ws) (h3 : Cond.initialized Cn ∈ gt_ws) (hfs : ∀ j, j < N → defaultValue (ty0 j) = vp_V f0 j) (han : a < n) (hcells : cells + 1 ≤ rm.cells) (hslots : slots + N ≤ rm.slots) (k : K (M, G, h, a, n0, nL, mc, ms, ci) n' E' (kup F n (.inr (cj, f0))) fs (n + 1) (cells + 1) (slots + N) (pc + 3) ls (.ref (h + n) :: st)) : K (M, G, h, a, n0, nL, mc, ms, ci) n' E' F fs n cells slots pc ls st := by
  obtain ⟨p, l, e, R, s, m, args, below, meth, c⟩ := M
  obtain ⟨hx, hb, hml, hown, hts, hK, hlk, hrt, hNt, hO, hnm, hR, hz⟩ := C
  subst hR
  intro H locs lsa hP hS hl
  have hKn := hK.1 cj _ hc
  refine W.newcK hx hb hown (hts _ h1) (hts _ h2) (hts _ h3) rfl d hcells hslots hKn.2.1 hP.1 fun H1 kC hkC e1 z1 o1 => ?_
  refine k H1 locs lsa ((hP.push z1 o1 (e := .inr (cj, f0)) ⟨_, hc, (u_born ty0 hts hin hKn hkC e1 hty).to hfs⟩).eq fun i hi => ?_) ⟨Nat.le_trans hS.1 (by rw [z1, hP.1]; omega), fun q q1 q2 => (o1 q (by rw [← hP.1]; exact Nat.lt_of_lt_of_le q1 hS.1)).trans (hS.2.1 q q1 q2), hS.2.2⟩ hl
  simp only [kup]
  by_cases q1 : i = n <;> by_cases q2 : i = a <;> simp [q1, q2] <;> omega
/-- a new row of numbers -/
theorem k_newa (C : kC (M, G, h, a, n0, nL, mc, ms, ci) own cc rm) {atype : ArrayType} {t : Nat} {ty : FieldType} {z : Int32} {N : Nat} {a0 : vp_A} (d : decode cc pc = .ok (.newarray atype, 2)) (hty : newarray.typeOf atype = ty) (hpr : ∀ U : State, ∀ cA : ClassId, va_RA U cA ty → U.vm.findClass ("[" ++ ty.toString) = some cA) (ht : (x_tys G)[t]? = some (G.2.2 t, ty)) (h1 : Cond.arrayClass ty ∈ gt_ws) (ha : vp_cell (G.2.2 t) a0 = arrV (G.2.2 t) N (fun _ => defaultValue ty)) (hn : ¬ z < 0) (hN : z.toNatClampNeg = N) (hbytes : N * componentBytes ty ≤ 536870912) (han : a < n) (hcells : cells + 1 ≤ rm.cells) (hslots : slots + N ≤ rm.slots) (k : K (M, G, h, a, n0, nL, mc, ms, ci) n' E' (kup F n (.inl (G.2.2 t, a0))) fs (n + 1) (cells + 1) (slots + N) (pc + 2) ls (.ref (h + n) :: st)) : K (M, G, h, a, n0, nL, mc, ms, ci) n' E' F fs n cells slots pc ls (.int z :: st) := by
  obtain ⟨p, l, e, R, s, m, args, below, meth, c⟩ := M
  obtain ⟨hx, hb, hml, hown, hts, hK, hlk, hrt, hNt, hO, hnm, hR, hz⟩ := C
  subst hR
  subst hty
  intro H locs lsa hP hS hl
  refine va_newaK hx hb (hts _ h1) rfl d rfl hn hN hbytes hcells hslots hP.1 fun H1 cA e1 z1 o1 hAr hNm => ?_
  have hcA : cA = G.2.2 t := Option.some.inj (hNm.symm.trans (hpr s _ (hK.2 t _ ht).2))
  subst hcA
  refine k H1 locs lsa ((hP.push z1 o1 (e := .inl (G.2.2 t, a0)) (by show H1[_]? = some (vp_cell _ _); rw [ha]; exact e1)).eq fun i hi => ?_) ⟨Nat.le_trans hS.1 (by rw [z1, hP.1]; omega), fun q q1 q2 => (o1 q (by rw [← hP.1]; exact Nat.lt_of_lt_of_le q1 hS.1)).trans (hS.2.1 q q1 q2), hS.2.2⟩ hl
  simp only [kup]
  by_cases q1 : i = n <;> by_cases q2 : i = a <;> simp [q1, q2] <;> omega
/-- a new row of references -/
theorem k_newq (C : kC (M, G, h, a, n0, nL, mc, ms, ci) own cc rm) {Cn : String} {t idx : Nat} {z : Int32} {N : Nat} (d : decode cc pc = .ok (.anewarray idx, 3)) (hO1 : ∀ U : State, kO U → va_AO Cn U) (ht : (x_tys G)[t]? = some (G.2.2 t, .object Cn)) (h1 : Cond.classLink own idx Cn ∈ gt_ws) (hn : ¬ z < 0) (hN : z.toNatClampNeg = N) (hbytes : N * 4 ≤ 536870912) (han : a < n) (hcells : cells + 1 ≤ rm.cells) (hslots : slots + N ≤ rm.slots) (k : K (M, G, h, a, n0, nL, mc, ms, ci) n' E' (kup F n (.inl (G.2.2 t, N, .inr (.inr (.inr (.inr (fun _ => none))))))) fs (n + 1) (cells + 1) (slots + N) (pc + 3) ls (.ref (h + n) :: st)) : K (M, G, h, a, n0, nL, mc, ms, ci) n' E' F fs n cells slots pc ls (.int z :: st) := by
  obtain ⟨p, l, e, R, s, m, args, below, meth, c⟩ := M
  obtain ⟨hx, hb, hml, hown, hts, hK, hlk, hrt, hNt, hO, hnm, hR, hz⟩ := C
  subst hR
  subst hN
  intro H locs lsa hP hS hl
  refine W.anew hx hb hown (hts _ h1) (va_AO.use (hO1 s hO)) rfl d rfl hn hbytes hcells hslots fun cA kA0 comp f1 f2 f3 f4 => ?_
  obtain ⟨kA1, comp1, g1, g2, g3, g4⟩ := (hK.2 t _ ht).2
  have hcA : cA = G.2.2 t := Option.some.inj (f1.symm.trans g4)
  subst hcA
  generalize hH1 : H.push ({ cls := G.2.2 t, slots := Array.replicate z.toNatClampNeg .null, vm := .none } : Cell) = H1
  have z1 : H1.size = h + n + 1 := by rw [← hH1, Array.size_push, hP.1]
  have e1 : H1[h + n]? = some (arrV (G.2.2 t) z.toNatClampNeg (fun _ => .null)) := by rw [← hH1, ← hP.1, Array.getElem?_push_size, ← arrV_new]
  have o1 : ∀ q : Nat, q < h + n → H1[q]? = H[q]? := fun q hq => by rw [← hH1, Array.getElem?_push, if_neg (Nat.ne_of_lt (by rw [hP.1]; exact hq))]
  rw [hP.1]
  refine k H1 locs lsa ((hP.push z1 o1 (e := .inl (G.2.2 t, z.toNatClampNeg, .inr (.inr (.inr (.inr (fun _ => none)))))) (by show H1[_]? = some (vp_cell _ _); exact e1)).eq fun i hi => ?_) ⟨Nat.le_trans hS.1 (by rw [z1, hP.1]; omega), fun q q1 q2 => (o1 q (by rw [← hP.1]; exact Nat.lt_of_lt_of_le q1 hS.1)).trans (hS.2.1 q q1 q2), hS.2.2⟩ hl
  simp only [kup]
  by_cases q1 : i = n <;> by_cases q2 : i = a <;> simp [q1, q2] <;> omega
/-- fields of this -/
theorem k_get (C : kC (M, G, h, a, n0, nL, mc, ms, ci) own cc rm) {ref Cn : String} {T : u_T} {N idx j : Nat} {v : Value} (d : decode cc pc = .ok (.getfield idx, 3)) (hin : ∀ w ∈ u_ws Cn T N, w ∈ gt_ws) (hc : vwCl[ci]? = some (Cn, T, N)) (hk : j < N) (hlink : Cond.fieldLink own idx ref (T j).2.1 (T j).2.2.1 ∈ gt_ws) (hsame : (T j).1 = ref) (han : a < n) (hv : fs[j]? = some v) (kk : K (M, G, h, a, n0, nL, mc, ms, ci) n' E' F fs n cells slots (pc + 3) ls (v :: st)) : K (M, G, h, a, n0, nL, mc, ms, ci) n' E' F fs n cells slots pc ls (.ref (h + a) :: st) := by
  obtain ⟨p, l, e, R, s, m, args, below, meth, c⟩ := M
  intro H locs lsa hP hS hl
  have h1 : va_P G.1 vwCl [(h + a, .inr (ci, fs))] H := fun q x hx => by
    cases q with
    | zero => cases hx; have := hP.2 a han; rw [kup_at] at this; exact this
    | succ q => cases hx
  exact va_get (D := G.1) (ci := ci) (v := v) (C := Cn) (T := T) (N := N) C.1 C.2.1 C.2.2.2.2.1 hin C.2.2.2.1 C.2.2.2.2.2.1 h1 0 rfl hc j hk (C.2.2.2.2.1 _ hlink) (fun x h9 => by rw [← hsame]; exact h9) hv d (kk H locs lsa hP hS hl)
theorem k_putF (C : kC (M, G, h, a, n0, nL, mc, ms, ci) own cc rm) {ref Cn : String} {T : u_T} {N idx j : Nat} {v : Value} {ty : FieldType} (ty0 : Nat → FieldType) (d : decode cc pc = .ok (.putfield idx, 3)) (hin : ∀ w ∈ u_ws Cn T N, w ∈ gt_ws) (hty : ∀ k, k < N → parseFieldDescriptor (T k).2.2.1 = some (ty0 k)) (hnm : ∀ a, a < N → ∀ b, b < N → a ≠ b → (T a).2.1 ≠ (T b).2.1) (hc : vwCl[ci]? = some (Cn, T, N)) (hk : j < N) (hlink : Cond.fieldLink own idx ref (T j).2.1 (T j).2.2.1 ∈ gt_ws) (hsame : (T j).1 = ref) (hdecl : (T j).1 = own) (hfin : (T j).2.2.2 = true) (hd : parseFieldDescriptor (T j).2.2.1 = some ty) (hn : narrow ty v = v) (hfit : fits ty v = true) (han : a < n) (hl0 : j < fs.length) (kk : K (M, G, h, a, n0, nL, mc, ms, ci) n' E' F (fs.set j v) n cells slots (pc + 3) ls st) : K (M, G, h, a, n0, nL, mc, ms, ci) n' E' F fs n cells slots pc ls (v :: .ref (h + a) :: st) := by
  obtain ⟨p, l, e, R, s, m, args, below, meth, c⟩ := M
  obtain ⟨hx, hb, hml, hown, hts, hK, hlk, hrt, hNt, hO, hin2, hR, hz⟩ := C
  intro H locs lsa hP hS hl
  have hap := va_apart (own := own) hts hin ty0 hty hnm hK hc
  have h0 := hP.2 a han
  rw [kup_at] at h0
  obtain ⟨r, h1, cell, q1, q2, q3, q4⟩ := h0
  have hr : r = (Cn, T, N) := Option.some.inj (h1.symm.trans hc)
  subst hr
  obtain ⟨hSl, hfc, kC, hkC, hkind⟩ := hK.1 ci _ hc
  obtain ⟨cf, kf, fi, f, hfi, hsl⟩ := hSl j hk
  have hlay := hts _ (hin _ (u_in_lay hk))
  unfold u_lay at hlay
  rw [if_pos hfin] at hlay
  have hst := (u_facts hfc hkC (u_lays hts hin hk) hfi).1
  have hcf : m.cls = cf := by
    obtain ⟨_, _, c', _, _, _, -, -, hf', -, -, -, hown2, -⟩ := Cond.laysFinal_spec hlay
    have e1 : c' = cf := by have := hfi.symm.trans hf'; simp at this; exact this.1.symm
    rw [hdecl] at hown2
    rw [← e1]; exact Option.some.inj (hown.symm.trans hown2)
  have h6 := u_fits hfc hkC hkind (Or.inr hlay) hfi hd hn hfit
  subst hsame
  refine W.putFinK hx hb hown (hts _ hlink) hfi hst hcf hin2 (by rw [q2]; exact h6) q1 q3 (by rw [hsl]; exact k2_hasslot (q4 j hk)) rfl rfl d fun H' e1 e2 e3 => ?_
  rw [hsl] at e1 ⊢
  refine kk H' _ lsa ((hP.set e2 e3 (e := .inr (ci, fs.set j v)) ⟨_, hc, t_OB.to (V := updV (vp_V fs) j v) ⟨_, e1, q2, q3, t_set q4 hap hk v⟩ (fun q _ => vp_updV_set hl0 v q)⟩).eq fun i hi => ?_) (hS.put e2 e3 (Or.inl rfl)) hl
  simp only [kup]
  by_cases q2 : i = a <;> simp [q2]
theorem k_put (C : kC (M, G, h, a, n0, nL, mc, ms, ci) own cc rm) {ref Cn : String} {T : u_T} {N idx j : Nat} {v : Value} {ty : FieldType} (ty0 : Nat → FieldType) (d : decode cc pc = .ok (.putfield idx, 3)) (hin : ∀ w ∈ u_ws Cn T N, w ∈ gt_ws) (hty : ∀ k, k < N → parseFieldDescriptor (T k).2.2.1 = some (ty0 k)) (hnm : ∀ a, a < N → ∀ b, b < N → a ≠ b → (T a).2.1 ≠ (T b).2.1) (hc : vwCl[ci]? = some (Cn, T, N)) (hk : j < N) (hlink : Cond.fieldLink own idx ref (T j).2.1 (T j).2.2.1 ∈ gt_ws) (hsame : (T j).1 = ref) (hfin : (T j).2.2.2 = false) (hd : parseFieldDescriptor (T j).2.2.1 = some ty) (hn : narrow ty v = v) (hfit : fits ty v = true) (han : a < n) (hl0 : j < fs.length) (kk : K (M, G, h, a, n0, nL, mc, ms, ci) n' E' F (fs.set j v) n cells slots (pc + 3) ls st) : K (M, G, h, a, n0, nL, mc, ms, ci) n' E' F fs n cells slots pc ls (v :: .ref (h + a) :: st) := by
  obtain ⟨p, l, e, R, s, m, args, below, meth, c⟩ := M
  obtain ⟨hx, hb, hml, hown, hts, hK, hlk, hrt, hNt, hO, hin2, hR, hz⟩ := C
  intro H locs lsa hP hS hl
  have hap := va_apart (own := own) hts hin ty0 hty hnm hK hc
  have h0 := hP.2 a han
  rw [kup_at] at h0
  obtain ⟨r, h1, cell, q1, q2, q3, q4⟩ := h0
  have hr : r = (Cn, T, N) := Option.some.inj (h1.symm.trans hc)
  subst hr
  obtain ⟨hSl, hfc, kC, hkC, hkind⟩ := hK.1 ci _ hc
  obtain ⟨cf, kf, fi, f, hfi, hsl⟩ := hSl j hk
  have hlay := hts _ (hin _ (u_in_lay hk))
  unfold u_lay at hlay
  rw [if_neg (by rw [hfin]; decide)] at hlay
  have hst := (u_facts hfc hkC (u_lays hts hin hk) hfi).1
  have h6 := u_store hfc hkC hkind hlay hfi hd hn hfit
  subst hsame
  refine W.putK hx hb (f := f) ⟨hown, hts _ hlink, ⟨_, _, _, hfi⟩, hst⟩ (by rw [q2]; exact h6) q1 q3 (by rw [hsl]; exact k2_hasslot (q4 j hk)) rfl rfl d fun H' e1 e2 e3 => ?_
  rw [hsl] at e1 ⊢
  refine kk H' _ lsa ((hP.set e2 e3 (e := .inr (ci, fs.set j v)) ⟨_, hc, t_OB.to (V := updV (vp_V fs) j v) ⟨_, e1, q2, q3, t_set q4 hap hk v⟩ (fun q _ => vp_updV_set hl0 v q)⟩).eq fun i hi => ?_) (hS.put e2 e3 (Or.inl rfl)) hl
  simp only [kup]
  by_cases q2 : i = a <;> simp [q2]
theorem k_alen (C : kC (M, G, h, a, n0, nL, mc, ms, ci) own cc rm) {b t : Nat} {x : vp_A} {ty : FieldType} {v : Int32} (d : decode cc pc = .ok (.arraylength, 1)) (hb : b < n) (hba : b ≠ a) (he : F b = .inl (G.2.2 t, x)) (ht : (x_tys G)[t]? = some (G.2.2 t, ty)) (hv : Int32.ofNat x.1 = v) (kk : K (M, G, h, a, n0, nL, mc, ms, ci) n' E' F fs n cells slots (pc + 1) ls (.int v :: st)) : K (M, G, h, a, n0, nL, mc, ms, ci) n' E' F fs n cells slots pc ls (.ref (h + b) :: st) := by
  obtain ⟨p, l, e, R, s, m, args, below, meth, c⟩ := M
  intro H locs lsa hP hS hl
  have h1 : va_P G.1 vwCl [(h + b, .inl (G.2.2 t, x))] H := fun q y hy => by
    cases q with
    | zero => cases hy; have := hP.2 b hb; rw [kup_ne _ _ hba, he] at this; exact this
    | succ q => cases hy
  exact va_alen (D := G.1) C.1 C.2.1 C.2.2.2.2.2.1 h1 0 t rfl ht hv d (kk H locs lsa hP hS hl)
/-- a reference into a row of this making -/
theorem k_aast (C : kC (M, G, h, a, n0, nL, mc, ms, ci) own cc rm) {b t j cj : Nat} {N : Nat} {r : vw_C} {vs : List Value} {f : Nat → Option Nat} {z : Int32} (d : decode cc pc = .ok (.aastore, 1)) (hb : b < n) (hba : b ≠ a) (hb0 : n0 ≤ b) (he : F b = .inl (G.2.2 t, N, .inr (.inr (.inr (.inr f))))) (ht : (x_tys G)[t]? = some (G.2.2 t, .object r.1)) (hj : j < n) (hja : j ≠ a) (hv : F j = .inr (cj, vs)) (hc : vwCl[cj]? = some r) (hin : vp_in z N) (kk : K (M, G, h, a, n0, nL, mc, ms, ci) n' E' (kup F b (.inl (G.2.2 t, N, .inr (.inr (.inr (.inr (va_up f z.toNatClampNeg (some (h + j))))))))) fs n cells slots (pc + 1) ls st) : K (M, G, h, a, n0, nL, mc, ms, ci) n' E' F fs n cells slots pc ls (.ref (h + j) :: .int z :: .ref (h + b) :: st) := by
  obtain ⟨p, l, e, R, s, m, args, below, meth, c⟩ := M
  obtain ⟨hx, hbb, hml, hown, hts, hK, hlk, hrt, hNt, hO, hin2, hR, hz⟩ := C
  intro H locs lsa hP hS hl
  have hlt : z.toNatClampNeg < N := Nat.not_le.mp fun q => hin (Or.inr q)
  have h0 : ¬ z < 0 := fun q => hin (Or.inl q)
  have hA := hP.2 b hb
  rw [kup_ne _ _ hba, he] at hA
  have hV := hP.2 j hj
  rw [kup_ne _ _ hja, hv] at hV
  obtain ⟨r', hr', cellV, g1, g2, g3, -⟩ := hV
  have hcls := (hK.1 cj r hc).2
  obtain ⟨kA0, comp, k1, k2, k3, -⟩ := (hK.2 t _ ht).2
  have hcomp : comp = G.1.1 cj := Option.some.inj (k3.symm.trans hcls.1)
  subst hcomp
  obtain ⟨kC, hkC, -⟩ := hcls.2
  refine W.aast hx hbb hA (fun q h => by cases h) (fun h => by cases h) k1 k2 rfl hkC ⟨h0, by show _ < (arrV _ _ _).slots.size; rw [arrV_size]; exact hlt⟩ g1 (fun q h => by rw [g3] at h; cases h) (by rw [g2]; exact hkC) (by rw [g2]; exact va_assign hcls) rfl rfl d fun H1 e z1 oq => ?_
  refine kk H1 _ lsa ((hP.set z1 oq (e := .inl (G.2.2 t, N, .inr (.inr (.inr (.inr (va_up f z.toNatClampNeg (some (h + j)))))))) ?_).eq fun i hi => ?_) (hS.put z1 oq (Or.inr (by omega))) hl
  · show H1[_]? = some (vp_cell _ _)
    rw [e]
    rw [vp_cell_q, vp_cell_q, arrV_store]
    congr 2
    funext q
    by_cases hq : q = z.toNatClampNeg
    · subst hq
      simp [updV, va_up, va_rf]
    · simp [updV, va_up, hq]
  · simp only [kup]
    by_cases q1 : i = b <;> by_cases q2 : i = a <;> simp [q1, q2] <;> omega
theorem k_iast (C : kC (M, G, h, a, n0, nL, mc, ms, ci) own cc rm) {b : Nat} {N : Nat} {f : Nat → Int32} {z v : Int32} (d : decode cc pc = .ok (.iastore, 1)) (hb : b < n) (hba : b ≠ a) (hb0 : n0 ≤ b) (he : F b = .inl (G.2.2 0, N, .inl f)) (hx : inB z N = true) (kk : K (M, G, h, a, n0, nL, mc, ms, ci) n' E' (kup F b (.inl (G.2.2 0, N, .inl (upd f z.toNatClampNeg v)))) fs n cells slots (pc + 1) ls st) : K (M, G, h, a, n0, nL, mc, ms, ci) n' E' F fs n cells slots pc ls (.int v :: .int z :: .ref (h + b) :: st) := by
  obtain ⟨p, l, e, R, s, m, args, below, meth, c⟩ := M
  intro H locs lsa hP hS hl
  have h0 := hP.2 b hb
  rw [kup_ne _ _ hba, he] at h0
  refine W.iast C.1 C.2.1 h0 ((C.2.2.2.2.2.1.2 0 _ rfl).1 N (fun j => .int (f j))) (fun q => by cases q) (by show ¬ (z < 0 ∨ (arrV _ _ _).slots.size ≤ _); rw [arrV_size]; exact inB_in hx) rfl rfl d fun H1 e z1 oq => ?_
  refine kk H1 _ lsa ((hP.set z1 oq (e := .inl (G.2.2 0, N, .inl (upd f z.toNatClampNeg v))) ?_).eq fun i hi => ?_) (hS.put z1 oq (Or.inr (by omega))) hl
  · show H1[_]? = some (vp_cell _ _)
    rw [e]
    rw [vp_cell_i, vp_cell_i, arrV_store]
    congr 2
    funext q
    by_cases hq : q = z.toNatClampNeg
    · subst hq
      simp [updV, upd]
    · simp [updV, upd, hq]
  · simp only [kup]
    by_cases q1 : i = b <;> by_cases q2 : i = a <;> simp [q1, q2] <;> omega
theorem k_vret (C : kC (M, G, h, a, n0, nL, mc, ms, ci) own cc rm) (d : decode cc pc = .ok (.return_, 1)) (hcl : cells ≤ mc) (hsl : slots ≤ ms) (hE : ∀ i : Nat, i < n → kup F a (.inr (ci, fs)) i = E' i) : K (M, G, h, a, n0, nL, mc, ms, ci) n E' F fs n cells slots pc ls [] := by
  obtain ⟨p, l, e, R, s, m, args, below, meth, c⟩ := M
  exact fun H locs lsa hP hS hl => W.widen hcl hsl (W.vret C.1 C.2.1 C.2.2.2.2.2.2.2.1 (fun t ht hW => ⟨rfl, by rw [ht]; exact hP.eq hE, hS.F ht⟩) hS.2.2 d C.2.2.2.2.2.2.1)
/-- a constructor of this making calls another one on what it made -/
theorem k_callIN (C : kC (M, G, h, a, n0, nL, mc, ms, ci) own cc rm) {y : MethodName} {bytes : ByteArray} {maxL b mc1 ms1 n1 idx : Nat} {host : String} {rm1 : Room} {E1 : Nat → va_E} (d : decode cc pc = .ok (.invokespecial idx, 3)) (hM : kMet (xl (M, G, fun _ _ => false, 0)) y (x_ws y bytes maxL none) rm1 G h b n (kup F a (.inr (ci, fs))) n1 E1 mc1 ms1)
    (h1 : Cond.methodLinkNest own idx y host ∈ nt_ws) (h2 : Cond.instanceMethod y ∈ gt_ws) (h4 : Cond.initialized y.cls ∈ gt_ws) (h5 : Cond.code y bytes maxL none ∈ gt_ws) (hc0 : rm1.cells = mc1 ∧ rm1.slots = ms1) (hd : y.cls ≠ "java/lang/invoke/MethodHandle" ∧ y.cls ≠ "java/lang/invoke/VarHandle" ∧ (parseMethodDescriptor y.desc).map (fun d => d.parameters.length) = some 0) (hyn : y.name = "<init>")
    (hR : rm1.frames + 1 ≤ rm.frames ∧ 8 + (maxL + 11) + rm1.locals ≤ rm.locals) (hcl : cells + mc1 ≤ rm.cells) (hsl : slots + ms1 ≤ rm.slots) (hb0 : n0 ≤ b) (hn0 : n0 ≤ n) (hw : (st.map fun v => v.category).sum ≤ 8) (he : ∀ i : Nat, i < n1 → E1 i = kup F2 a (.inr (ci, fs)) i)
    (kk : K (M, G, h, a, n0, nL, mc, ms, ci) n' E' F2 fs n1 (cells + mc1) (slots + ms1) (pc + 3) ls st) : K (M, G, h, a, n0, nL, mc, ms, ci) n' E' F fs n cells slots pc ls (.ref (h + b) :: st) := by
  obtain ⟨p, l, e, R, s, m, args, below, meth, c⟩ := M
  obtain ⟨hx, hb, hml, hown, hts, hK, hlk, hrt, hNt, hO, hin2, hRm, hz⟩ := C
  subst hRm
  intro H locs lsa hP hS hl T hT XT
  obtain ⟨v, st₀, t, T', L, q0, X', hL, e1, e2, ⟨hv, hP1, hz1, hk⟩, stp⟩ := va_runIN (As := []) (rest := st) (n := 0) (mc := mc1) (ms := ms1) (host := host) ⟨hx, hb, hml, hown, hts⟩ hM ⟨va_cnB 0 hts (x_goodin h5) rfl hc0.1 hc0.2 (hNt _ h1) (hts _ h4) hd hR, hyn, hts _ h2⟩ ⟨kPre.blind, fun U hU hW => ⟨rfl, by rw [hU]; exact hP, va_K.moved hW.alike hK, hNt.warm hW, hO.moved hW.alike⟩⟩ rfl rfl hl.1 rfl (lv_room hw) d ⟨hcl, hsl⟩ T hT XT
  cases hv
  rw [q0] at hz1 hk
  have hsub : ∀ q : Nat, kA h b n q → kA h a n0 q := fun q hq => by
    rcases hq with hq | hq
    · exact Or.inr (by omega)
    · exact Or.inr (by omega)
  obtain ⟨t2, a1, b1⟩ := kk T'.heap (locs ++ L) lsa (by rw [e1]; exact hP1.eq he)
    ⟨Nat.le_trans hS.1 (by rw [e1]; exact hz1), fun q h1 h2 => by rw [e1, hk q (Nat.lt_of_lt_of_le h1 hS.1) (fun w => h2 (hsub q w))]; exact hS.2.1 q h1 h2, fun q hq => by
      rcases List.mem_append.mp hq with w | w
      · exact hS.2.2 q w
      · exact hsub _ (hL q w)⟩ hl T' rfl X'
  exact ⟨t2, stp t2 a1, b1⟩
end KR
/-- a constructor's contract out of its walk -/
theorem kMet.of {l : Launch} {y : MethodName} {cc : ByteArray} {nL : Nat} {rm : Room} {G : xG} {h a n n' ci : Nat} {fs : List Value} {E E' : Nat → va_E} {mc ms : Nat} (hy : plainName y.cls = true) (hyn : y.name = "<init>") (hnL : 1 ≤ nL) (hE : E a = .inr (ci, fs))
    (body : ∀ M : xM, xl (M, G, fun _ _ => false, 0) = l → kC (M, G, h, a, n, nL, mc, ms, ci) y.cls cc rm → K (M, G, h, a, n, nL, mc, ms, ci) n' E' E fs n 0 0 0 [(0, .ref (h + a))] []) : kMet l y (x_ws y cc nL none) rm G h a n E n' E' mc ms := by
  refine Met.ofW (cc := cc) (maxL := nL) (ret := none) hy rfl ?_
  intro p e s m args below meth c s₁ B hml hv
  obtain ⟨rfl, hP, hK, hNt, hO⟩ := hv
  have hts := atoms_spec (ws := x_ws y cc nL none) B.pre
  have hown : s.vm.findClass y.cls = some m.cls := findClass_of_methodNamed B.named
  rw [lg_entry_eq]
  refine body (p, l, e, (headSpec (x_ws y cc nL none) rm).room, s, m, [Value.ref (h + a)].toArray, below, meth, c) rfl ⟨B.exec, B.bytes, hml, hown, fun w h => hts w (List.mem_cons_of_mem _ h), hK, B.notSynchronized, B.returns, hNt, hO, ?_, rfl, hP.1⟩ s.heap [] _ (hP.eq fun i hi => ?_) va_S.rf (lv_entry [Value.ref (h + a)] hnL)
  · exact (name_of_methodNamed B.named B.method).1.trans hyn
  · by_cases hia : i = a
    · subst hia; rw [kup_at, hE]
    · rw [kup_ne _ _ hia]
