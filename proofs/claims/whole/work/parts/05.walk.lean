/-! THE WALKING LAYER: a method's walk over a world of numbered cells: (kind, place) has the address ad kind place and the content E kind place; nothing is made. -/
def gt_ws : List Cond := lw_tbl.filter goodWord
theorem gt_in {w : Cond} (h : w ∈ lw_tbl) (g : goodWord w = true) : w ∈ gt_ws := List.mem_filter.mpr ⟨h, g⟩
theorem gt_ok {w : Cond} (h : w ∈ gt_ws) : (w.onTables && w.keeps) = true ∨ ∃ ty, w = .arrayClass ty := good_of_word (List.mem_filter.mp h).2
theorem gt_lw {w : Cond} (h : w ∈ gt_ws) : w ∈ lw_tbl := (List.mem_filter.mp h).1
def x_ws (y : MethodName) (b : ByteArray) (n : Nat) (r : Option FieldType) : List Cond := Cond.code y b n r :: gt_ws
theorem x_goodin {y : MethodName} {b : ByteArray} {n : Nat} {r : Option FieldType} (h : Cond.code y b n r ∈ gt_ws) : GoodIn gt_ws (x_ws y b n r) := fun w hw => by
  rcases List.mem_cons.mp hw with rfl | hw
  · exact ⟨h, gt_ok h⟩
  · exact ⟨hw, gt_ok hw⟩
/-- links between nest mates: the machine's tables keep them too -/
def isN : Cond → Bool
  | .fieldLinkNest _ _ _ _ _ _ => true
  | .methodLinkNest _ _ _ _ => true
  | _ => false
def nt_ws : List Cond := lw_tbl.filter isN
theorem nt_in {w : Cond} (h : w ∈ lw_tbl) (g : isN w = true) : w ∈ nt_ws := List.mem_filter.mpr ⟨h, g⟩
theorem nt_tab {w : Cond} (g : isN w = true) : w.onTables = true := by
  cases w <;> first | rfl | cases g
theorem nt_warm {w : Cond} (g : isN w = true) {s U : State} (hW : s.WarmedH U.vm) (hn : va_Nw w s) : va_Nw w U := by
  cases w <;> first | exact va_Nw.warmF hW hn | exact va_Nw.warmM hW hn | cases g
def xN (U : State) : Prop := ∀ w ∈ nt_ws, va_Nw w U
theorem xN.warm {s U : State} (h : xN s) (hW : s.WarmedH U.vm) : xN U := fun w hw => nt_warm (List.mem_filter.mp hw).2 hW (h w hw)
theorem xN.use {s : State} (h : xN s) {w : Cond} (hw : w ∈ nt_ws) {args : Array Value} : w.before args s = true := va_Nw.use (nt_tab (List.mem_filter.mp hw).2) (h w hw)
theorem xN.of {s : State} {args : Array Value} (h : ∀ w ∈ lw_tbl, w.before args s = true) : xN s := fun w hw => va_Nw.of (nt_tab (List.mem_filter.mp hw).2) (h w (List.mem_filter.mp hw).1)
theorem xN.same {u U : State} (h : u.vm = U.vm) (hn : xN u) : xN U := fun w hw => va_Nw.same (nt_tab (List.mem_filter.mp hw).2) h (hn w hw)
theorem gt_of {a b i : Nat} {l : List Cond} (h : (lw_tbl.drop a).take b = l) {w : Cond} (hi : l[i]? = some w) : w ∈ lw_tbl := by
  have h1 := List.mem_of_getElem? hi
  rw [← h] at h1
  exact List.mem_of_mem_drop (List.mem_of_mem_take h1)
abbrev xrm (f lo : Nat) : Room := { frames := f, cells := 0, slots := 0, locals := lo }
/-- class numbers and field slots; addresses; the classes of the arrays -/
abbrev xG : Type := va_G × (Nat → Nat → Nat) × (Nat → ClassId)
abbrev xE : Type := Nat → Nat → va_E
abbrev xD : Type := Nat → Nat → Bool
def x_tys (G : xG) : List (ClassId × FieldType) := [(G.2.2 0, .int), (G.2.2 1, .long), (G.2.2 2, .boolean), (G.2.2 3, .object RX0), (G.2.2 4, .object RX2), (G.2.2 5, .object RX3), (G.2.2 6, .object RX5)]
def xK (G : xG) (U : State) : Prop := va_K G.1 vwCl (x_tys G) U
def xJ (G : xG) (dom : xD) : Prop := ∀ k i k' i' : Nat, dom k i = true → dom k' i' = true → G.2.1 k i = G.2.1 k' i' → k = k' ∧ i = i'
def xP (G : xG) (dom : xD) (E : xE) (H : Heap) : Prop := ∀ k i : Nat, dom k i = true → va_at G.1 vwCl (G.2.1 k i, E k i) H
def xA (G : xG) (dom : xD) : Nat → Prop := fun q => ∃ k i : Nat, dom k i = true ∧ q = G.2.1 k i
def xQ (G : xG) (dom : xD) (rv : Option Value) (E' : xE) : Array Value → State → Outcome → State → Prop := fun _ st oc t => oc = .returned rv ∧ xP G dom E' t.heap ∧ va_F (xA G dom) st t
def xPre (G : xG) (dom : xD) (E : xE) (U : State) : Prop := xP G dom E U.heap ∧ xK G U ∧ xJ G dom ∧ xN U
def xMet (l : Launch) (y : MethodName) (ws : List Cond) (rm : Room) (G : xG) (dom : xD) (av : List Value) (E : xE) (rv : Option Value) (E' : xE) : Prop :=
  Met l y ws rm (va_Pc av (xPre G dom E)) (xQ G dom rv E') 0 0 (xA G dom)
def xup (E : xE) (k i : Nat) (e : va_E) : xE := fun k' i' => if k' = k ∧ i' = i then e else E k' i'
theorem xP.set {G : xG} {dom : xD} {E : xE} {H H1 : Heap} {k i : Nat} {e : va_E} (hP : xP G dom E H) (hJ : xJ G dom) (hi : dom k i = true) (he : va_at G.1 vwCl (G.2.1 k i, e) H1) (oq : ∀ q : Nat, q ≠ G.2.1 k i → H1[q]? = H[q]?) : xP G dom (xup E k i e) H1 := by
  intro k' i' h
  unfold xup
  by_cases hh : k' = k ∧ i' = i
  · rw [if_pos hh, hh.1, hh.2]; exact he
  · rw [if_neg hh]
    exact (hP k' i' h).kept (oq _ (fun z => hh (hJ _ _ _ _ h hi z)))
theorem xPre.calling {G : xG} {dom : xD} {E : xE} {U : State} {g : JFrame} {mk : MethodId} {a : Array Value} (h : xPre G dom E U) : xPre G dom E (U.calling g mk a) := ⟨h.1, va_K.moved (u := U) (U := U.calling g mk a) (Vm.Alike.refl U.vm) h.2.1, h.2.2.1, xN.same (u := U) (U := U.calling g mk a) rfl h.2.2.2⟩
theorem xPre.blind {av : List Value} {G : xG} {dom : xD} {E : xE} : FrameBlind (va_Pc av (xPre G dom E)) := fun _ _ _ _ h => ⟨h.1, h.2.calling⟩
abbrev xM : Type := Program × Launch × Env × Room × State × MethodId × Array Value × List Frame × Method × Code
/-- what stays the same through a walk: the machine, the world's addresses, which cells there are, how many locals -/
abbrev xY : Type := xM × xG × xD × Nat
def xY.mk (p : Program) (l : Launch) (e : Env) (R : Room) (s : State) (m : MethodId) (args : Array Value) (below : List Frame) (meth : Method) (c : Code) (G : xG) (dom : xD) (n : Nat) : xY := ((p, l, e, R, s, m, args, below, meth, c), G, dom, n)
def xC (Y : xY) (own : String) (cc : ByteArray) (ret : Option FieldType) : Prop := match Y with
  | ((p, _, _, _, s, m, args, _, meth, c), G, dom, nL) => p.tables.exec = Jvm.exec ∧ c.code = cc ∧ c.maxLocals = nL ∧ s.vm.findClass own = some m.cls ∧ (∀ w ∈ gt_ws, w.before args s = true) ∧ xK G s ∧ xJ G dom ∧ meth.locks = false ∧ meth.sig.returnType = ret ∧ xN s
def xl (Y : xY) : Launch := Y.1.2.1
def xR (Y : xY) : Room := Y.1.2.2.2.1
abbrev xg (Y : xY) : xG := Y.2.1
abbrev xd (Y : xY) : xD := Y.2.2.1
abbrev xn (Y : xY) : Nat := Y.2.2.2
abbrev xa (Y : xY) : Nat → Nat → Nat := Y.2.1.2.1
def X (Y : xY) (rv : Option Value) (E' : xE) (E : xE) (pc : Nat) (ls : List (Nat × Value)) (st : List Value) : Prop := match Y with
  | ((p, l, e, R, s, m, args, below, meth, c), G, dom, nL) => ∀ (H : Heap) (locs : List Loc) (lsa : Array Slot), xP G dom E H → va_S (xA G dom) s.heap H locs → lv_has lsa nL ls → W p l e R s m args below meth c H locs 0 0 (MQ below (xQ G dom rv E') args s 0 0 (xA G dom)) (F0 m pc lsa st)
section XR
variable {Y : xY} {rv : Option Value} {E' E : xE} {own : String} {cc : ByteArray} {ret : Option FieldType} {pc : Nat} {ls ls' : List (Nat × Value)} {st : List Value}
theorem x_sub (ks : List Nat) (h : lv_pick ls ks = ls') (k : X Y rv E' E pc ls' st) : X Y rv E' E pc ls st := by
  obtain ⟨⟨p, l, e, R, s, m, args, below, meth, c⟩, G, dom, nL⟩ := Y
  exact fun H locs lsa hP hS hl => k H locs lsa hP hS (lv_sub hl ks h)
theorem x_E {E2 : xE} (h : ∀ k i : Nat, xd Y k i = true → E k i = E2 k i) (k : X Y rv E' E2 pc ls st) : X Y rv E' E pc ls st := by
  obtain ⟨⟨p, l, e, R, s, m, args, below, meth, c⟩, G, dom, nL⟩ := Y
  exact fun H locs lsa hP hS hl => k H locs lsa (fun a b hd => by rw [← h a b hd]; exact hP a b hd) hS hl
-- constants
theorem x_iconst (C : xC Y own cc ret) {n : Int} {v : Int32} (d : decode cc pc = .ok (.iconst n, 1)) (hv : Int32.ofInt n = v) (k : X Y rv E' E (pc + 1) ls (.int v :: st)) : X Y rv E' E pc ls st := by
  obtain ⟨⟨p, l, e, R, s, m, args, below, meth, c⟩, G, dom, nL⟩ := Y
  exact fun H locs lsa hP hS hl => lv_iconst C.1 C.2.1 d hv (k H locs lsa hP hS hl)
theorem x_bipush (C : xC Y own cc ret) {n : Int} {v : Int32} (d : decode cc pc = .ok (.bipush n, 2)) (hv : (Int8.ofInt n).toInt32 = v) (k : X Y rv E' E (pc + 2) ls (.int v :: st)) : X Y rv E' E pc ls st := by
  obtain ⟨⟨p, l, e, R, s, m, args, below, meth, c⟩, G, dom, nL⟩ := Y
  exact fun H locs lsa hP hS hl => lv_bipush C.1 C.2.1 d hv (k H locs lsa hP hS hl)
theorem x_sipush (C : xC Y own cc ret) {n : Int} {v : Int32} (d : decode cc pc = .ok (.sipush n, 3)) (hv : (Int16.ofInt n).toInt32 = v) (k : X Y rv E' E (pc + 3) ls (.int v :: st)) : X Y rv E' E pc ls st := by
  obtain ⟨⟨p, l, e, R, s, m, args, below, meth, c⟩, G, dom, nL⟩ := Y
  exact fun H locs lsa hP hS hl => lv_sipush C.1 C.2.1 d hv (k H locs lsa hP hS hl)
theorem x_lconst (C : xC Y own cc ret) {n : Fin 2} {v : Int64} (d : decode cc pc = .ok (.lconst n, 1)) (hv : Int64.ofNat (n : Nat) = v) (k : X Y rv E' E (pc + 1) ls (.long v :: st)) : X Y rv E' E pc ls st := by
  obtain ⟨⟨p, l, e, R, s, m, args, below, meth, c⟩, G, dom, nL⟩ := Y
  exact fun H locs lsa hP hS hl => lv_lconst C.1 C.2.1 d hv (k H locs lsa hP hS hl)
theorem x_ldc (C : xC Y own cc ret) {i : Nat} {v : Int32} (d : decode cc pc = .ok (.ldc i, 2)) (h : Cond.constant own i v ∈ gt_ws) (k : X Y rv E' E (pc + 2) ls (.int v :: st)) : X Y rv E' E pc ls st := by
  obtain ⟨⟨p, l, e, R, s, m, args, below, meth, c⟩, G, dom, nL⟩ := Y
  exact fun H locs lsa hP hS hl => lv_ldc C.1 C.2.1 C.2.2.2.1 (C.2.2.2.2.1 _ h) d (k H locs lsa hP hS hl)
theorem x_null (C : xC Y own cc ret) (d : decode cc pc = .ok (.aconst_null, 1)) (k : X Y rv E' E (pc + 1) ls (.null :: st)) : X Y rv E' E pc ls st := by
  obtain ⟨⟨p, l, e, R, s, m, args, below, meth, c⟩, G, dom, nL⟩ := Y
  exact fun H locs lsa hP hS hl => lv_null C.1 C.2.1 d (k H locs lsa hP hS hl)
-- locals
theorem x_iload_n (C : xC Y own cc ret) {a : Fin 4} {i j : Nat} {x : Int32} (d : decode cc pc = .ok (.iload_n a, 1)) (hi : (a : Nat) = i) (hk : ls[j]? = some (i, .int x)) (k : X Y rv E' E (pc + 1) ls (.int x :: st)) : X Y rv E' E pc ls st := by
  obtain ⟨⟨p, l, e, R, s, m, args, below, meth, c⟩, G, dom, nL⟩ := Y
  exact fun H locs lsa hP hS hl => lv_iload_n C.1 C.2.1 d hi (lv_at hl j hk) (k H locs lsa hP hS hl)
theorem x_iload (C : xC Y own cc ret) {i j : Nat} {x : Int32} (d : decode cc pc = .ok (.iload i, 2)) (hk : ls[j]? = some (i, .int x)) (k : X Y rv E' E (pc + 2) ls (.int x :: st)) : X Y rv E' E pc ls st := by
  obtain ⟨⟨p, l, e, R, s, m, args, below, meth, c⟩, G, dom, nL⟩ := Y
  exact fun H locs lsa hP hS hl => lv_iload C.1 C.2.1 d (lv_at hl j hk) (k H locs lsa hP hS hl)
theorem x_lload_n (C : xC Y own cc ret) {a : Fin 4} {i j : Nat} {x : Int64} (d : decode cc pc = .ok (.lload_n a, 1)) (hi : (a : Nat) = i) (hk : ls[j]? = some (i, .long x)) (k : X Y rv E' E (pc + 1) ls (.long x :: st)) : X Y rv E' E pc ls st := by
  obtain ⟨⟨p, l, e, R, s, m, args, below, meth, c⟩, G, dom, nL⟩ := Y
  exact fun H locs lsa hP hS hl => lv_lload_n C.1 C.2.1 d hi (lv_at hl j hk) (k H locs lsa hP hS hl)
theorem x_lload (C : xC Y own cc ret) {i j : Nat} {x : Int64} (d : decode cc pc = .ok (.lload i, 2)) (hk : ls[j]? = some (i, .long x)) (k : X Y rv E' E (pc + 2) ls (.long x :: st)) : X Y rv E' E pc ls st := by
  obtain ⟨⟨p, l, e, R, s, m, args, below, meth, c⟩, G, dom, nL⟩ := Y
  exact fun H locs lsa hP hS hl => lv_lload C.1 C.2.1 d (lv_at hl j hk) (k H locs lsa hP hS hl)
theorem x_aload_n (C : xC Y own cc ret) {a : Fin 4} {i j : Nat} {x : Nat} (d : decode cc pc = .ok (.aload_n a, 1)) (hi : (a : Nat) = i) (hk : ls[j]? = some (i, .ref x)) (k : X Y rv E' E (pc + 1) ls (.ref x :: st)) : X Y rv E' E pc ls st := by
  obtain ⟨⟨p, l, e, R, s, m, args, below, meth, c⟩, G, dom, nL⟩ := Y
  exact fun H locs lsa hP hS hl => lv_aload_n C.1 C.2.1 d hi (lv_at hl j hk) (k H locs lsa hP hS hl)
theorem x_aload (C : xC Y own cc ret) {i j : Nat} {x : Nat} (d : decode cc pc = .ok (.aload i, 2)) (hk : ls[j]? = some (i, .ref x)) (k : X Y rv E' E (pc + 2) ls (.ref x :: st)) : X Y rv E' E pc ls st := by
  obtain ⟨⟨p, l, e, R, s, m, args, below, meth, c⟩, G, dom, nL⟩ := Y
  exact fun H locs lsa hP hS hl => lv_aload C.1 C.2.1 d (lv_at hl j hk) (k H locs lsa hP hS hl)
theorem x_aload_nq (C : xC Y own cc ret) {a : Fin 4} {i j : Nat} (q : Option Nat) (d : decode cc pc = .ok (.aload_n a, 1)) (hi : (a : Nat) = i) (hk : ls[j]? = some (i, va_rf q)) (k : X Y rv E' E (pc + 1) ls (va_rf q :: st)) : X Y rv E' E pc ls st := by
  obtain ⟨⟨p, l, e, R, s, m, args, below, meth, c⟩, G, dom, nL⟩ := Y
  cases q with
  | none => exact fun H locs lsa hP hS hl => lv_aload_nN C.1 C.2.1 d hi (lv_at hl j hk) (k H locs lsa hP hS hl)
  | some b => exact fun H locs lsa hP hS hl => lv_aload_n C.1 C.2.1 d hi (lv_at hl j hk) (k H locs lsa hP hS hl)
theorem x_aloadq (C : xC Y own cc ret) {i j : Nat} (q : Option Nat) (d : decode cc pc = .ok (.aload i, 2)) (hk : ls[j]? = some (i, va_rf q)) (k : X Y rv E' E (pc + 2) ls (va_rf q :: st)) : X Y rv E' E pc ls st := by
  obtain ⟨⟨p, l, e, R, s, m, args, below, meth, c⟩, G, dom, nL⟩ := Y
  cases q with
  | none => exact fun H locs lsa hP hS hl => lv_aloadN C.1 C.2.1 d (lv_at hl j hk) (k H locs lsa hP hS hl)
  | some b => exact fun H locs lsa hP hS hl => lv_aload C.1 C.2.1 d (lv_at hl j hk) (k H locs lsa hP hS hl)
theorem x_istore_n (C : xC Y own cc ret) {a : Fin 4} {i : Nat} {x : Int32} (d : decode cc pc = .ok (.istore_n a, 1)) (hi : (a : Nat) = i) (hn : i < xn Y) (hl2 : (i, Value.int x) :: ls.filter (fun q => !(q.1 == i) && !(q.1 + 1 == i && q.2.category == 2)) = ls') (k : X Y rv E' E (pc + 1) ls' st) : X Y rv E' E pc ls (.int x :: st) := by
  obtain ⟨⟨p, l, e, R, s, m, args, below, meth, c⟩, G, dom, nL⟩ := Y
  exact fun H locs lsa hP hS hl => lv_istore_n C.1 C.2.1 d hi hl hn hl2 (fun lsb h => k H locs lsb hP hS h)
theorem x_istore (C : xC Y own cc ret) {i : Nat} {x : Int32} (d : decode cc pc = .ok (.istore i, 2)) (hn : i < xn Y) (hl2 : (i, Value.int x) :: ls.filter (fun q => !(q.1 == i) && !(q.1 + 1 == i && q.2.category == 2)) = ls') (k : X Y rv E' E (pc + 2) ls' st) : X Y rv E' E pc ls (.int x :: st) := by
  obtain ⟨⟨p, l, e, R, s, m, args, below, meth, c⟩, G, dom, nL⟩ := Y
  exact fun H locs lsa hP hS hl => lv_istore C.1 C.2.1 d hl hn hl2 (fun lsb h => k H locs lsb hP hS h)
theorem x_lstore_n (C : xC Y own cc ret) {a : Fin 4} {i : Nat} {x : Int64} (d : decode cc pc = .ok (.lstore_n a, 1)) (hi : (a : Nat) = i) (hn : i + 1 < xn Y) (hl2 : (i, Value.long x) :: ls.filter (fun q => !(q.1 == i) && (!(q.1 == i + 1) && !(q.1 + 1 == i && q.2.category == 2))) = ls') (k : X Y rv E' E (pc + 1) ls' st) : X Y rv E' E pc ls (.long x :: st) := by
  obtain ⟨⟨p, l, e, R, s, m, args, below, meth, c⟩, G, dom, nL⟩ := Y
  exact fun H locs lsa hP hS hl => lv_lstore_n C.1 C.2.1 d hi hl hn hl2 (fun lsb h => k H locs lsb hP hS h)
theorem x_lstore (C : xC Y own cc ret) {i : Nat} {x : Int64} (d : decode cc pc = .ok (.lstore i, 2)) (hn : i + 1 < xn Y) (hl2 : (i, Value.long x) :: ls.filter (fun q => !(q.1 == i) && (!(q.1 == i + 1) && !(q.1 + 1 == i && q.2.category == 2))) = ls') (k : X Y rv E' E (pc + 2) ls' st) : X Y rv E' E pc ls (.long x :: st) := by
  obtain ⟨⟨p, l, e, R, s, m, args, below, meth, c⟩, G, dom, nL⟩ := Y
  exact fun H locs lsa hP hS hl => lv_lstore C.1 C.2.1 d hl hn hl2 (fun lsb h => k H locs lsb hP hS h)
theorem x_astore_n (C : xC Y own cc ret) {a : Fin 4} {i x : Nat} (d : decode cc pc = .ok (.astore_n a, 1)) (hi : (a : Nat) = i) (hn : i < xn Y) (hl2 : (i, Value.ref x) :: ls.filter (fun q => !(q.1 == i) && !(q.1 + 1 == i && q.2.category == 2)) = ls') (k : X Y rv E' E (pc + 1) ls' st) : X Y rv E' E pc ls (.ref x :: st) := by
  obtain ⟨⟨p, l, e, R, s, m, args, below, meth, c⟩, G, dom, nL⟩ := Y
  exact fun H locs lsa hP hS hl => lv_astore_n C.1 C.2.1 d hi hl hn hl2 (fun lsb h => k H locs lsb hP hS h)
theorem x_astore (C : xC Y own cc ret) {i x : Nat} (d : decode cc pc = .ok (.astore i, 2)) (hn : i < xn Y) (hl2 : (i, Value.ref x) :: ls.filter (fun q => !(q.1 == i) && !(q.1 + 1 == i && q.2.category == 2)) = ls') (k : X Y rv E' E (pc + 2) ls' st) : X Y rv E' E pc ls (.ref x :: st) := by
  obtain ⟨⟨p, l, e, R, s, m, args, below, meth, c⟩, G, dom, nL⟩ := Y
  exact fun H locs lsa hP hS hl => lv_astore C.1 C.2.1 d hl hn hl2 (fun lsb h => k H locs lsb hP hS h)
theorem x_astore_nq (C : xC Y own cc ret) {a : Fin 4} {i : Nat} (q : Option Nat) (d : decode cc pc = .ok (.astore_n a, 1)) (hi : (a : Nat) = i) (hn : i < xn Y) (hl2 : (i, va_rf q) :: ls.filter (fun q => !(q.1 == i) && !(q.1 + 1 == i && q.2.category == 2)) = ls') (k : X Y rv E' E (pc + 1) ls' st) : X Y rv E' E pc ls (va_rf q :: st) := by
  obtain ⟨⟨p, l, e, R, s, m, args, below, meth, c⟩, G, dom, nL⟩ := Y
  cases q with
  | none => exact fun H locs lsa hP hS hl => lv_astore_nN C.1 C.2.1 d hi hl hn hl2 (fun lsb h => k H locs lsb hP hS h)
  | some b => exact fun H locs lsa hP hS hl => lv_astore_n C.1 C.2.1 d hi hl hn hl2 (fun lsb h => k H locs lsb hP hS h)
theorem x_astoreq (C : xC Y own cc ret) {i : Nat} (q : Option Nat) (d : decode cc pc = .ok (.astore i, 2)) (hn : i < xn Y) (hl2 : (i, va_rf q) :: ls.filter (fun q => !(q.1 == i) && !(q.1 + 1 == i && q.2.category == 2)) = ls') (k : X Y rv E' E (pc + 2) ls' st) : X Y rv E' E pc ls (va_rf q :: st) := by
  obtain ⟨⟨p, l, e, R, s, m, args, below, meth, c⟩, G, dom, nL⟩ := Y
  cases q with
  | none => exact fun H locs lsa hP hS hl => lv_astoreN C.1 C.2.1 d hl hn hl2 (fun lsb h => k H locs lsb hP hS h)
  | some b => exact fun H locs lsa hP hS hl => lv_astore C.1 C.2.1 d hl hn hl2 (fun lsb h => k H locs lsb hP hS h)
theorem x_iinc (C : xC Y own cc ret) {i j : Nat} {n : Int} {x v : Int32} (d : decode cc pc = .ok (.iinc i n, 3)) (hk : ls[j]? = some (i, .int x)) (hv : x + Int32.ofInt n = v) (hn : i < xn Y) (hl2 : (i, Value.int v) :: ls.filter (fun q => !(q.1 == i) && !(q.1 + 1 == i && q.2.category == 2)) = ls') (k : X Y rv E' E (pc + 3) ls' st) : X Y rv E' E pc ls st := by
  obtain ⟨⟨p, l, e, R, s, m, args, below, meth, c⟩, G, dom, nL⟩ := Y
  exact fun H locs lsa hP hS hl => lv_iinc C.1 C.2.1 d hl hk hv hn hl2 (fun lsb h => k H locs lsb hP hS h)
-- arithmetic
theorem x_iadd (C : xC Y own cc ret) {x y : Int32} (d : decode cc pc = .ok (.iadd, 1)) (k : X Y rv E' E (pc + 1) ls (.int (x + y) :: st)) : X Y rv E' E pc ls (.int y :: .int x :: st) := by
  obtain ⟨⟨p, l, e, R, s, m, args, below, meth, c⟩, G, dom, nL⟩ := Y
  exact fun H locs lsa hP hS hl => lv_iadd C.1 C.2.1 d (k H locs lsa hP hS hl)
theorem x_isub (C : xC Y own cc ret) {x y : Int32} (d : decode cc pc = .ok (.isub, 1)) (k : X Y rv E' E (pc + 1) ls (.int (x - y) :: st)) : X Y rv E' E pc ls (.int y :: .int x :: st) := by
  obtain ⟨⟨p, l, e, R, s, m, args, below, meth, c⟩, G, dom, nL⟩ := Y
  exact fun H locs lsa hP hS hl => lv_isub C.1 C.2.1 d (k H locs lsa hP hS hl)
theorem x_imul (C : xC Y own cc ret) {x y : Int32} (d : decode cc pc = .ok (.imul, 1)) (k : X Y rv E' E (pc + 1) ls (.int (x * y) :: st)) : X Y rv E' E pc ls (.int y :: .int x :: st) := by
  obtain ⟨⟨p, l, e, R, s, m, args, below, meth, c⟩, G, dom, nL⟩ := Y
  exact fun H locs lsa hP hS hl => lv_imul C.1 C.2.1 d (k H locs lsa hP hS hl)
theorem x_iand (C : xC Y own cc ret) {x y : Int32} (d : decode cc pc = .ok (.iand, 1)) (k : X Y rv E' E (pc + 1) ls (.int (x &&& y) :: st)) : X Y rv E' E pc ls (.int y :: .int x :: st) := by
  obtain ⟨⟨p, l, e, R, s, m, args, below, meth, c⟩, G, dom, nL⟩ := Y
  exact fun H locs lsa hP hS hl => lv_iand C.1 C.2.1 d (k H locs lsa hP hS hl)
theorem x_ior (C : xC Y own cc ret) {x y : Int32} (d : decode cc pc = .ok (.ior, 1)) (k : X Y rv E' E (pc + 1) ls (.int (x ||| y) :: st)) : X Y rv E' E pc ls (.int y :: .int x :: st) := by
  obtain ⟨⟨p, l, e, R, s, m, args, below, meth, c⟩, G, dom, nL⟩ := Y
  exact fun H locs lsa hP hS hl => lv_ior C.1 C.2.1 d (k H locs lsa hP hS hl)
theorem x_ishl (C : xC Y own cc ret) {x y : Int32} (d : decode cc pc = .ok (.ishl, 1)) (k : X Y rv E' E (pc + 1) ls (.int (x <<< (y &&& 31)) :: st)) : X Y rv E' E pc ls (.int y :: .int x :: st) := by
  obtain ⟨⟨p, l, e, R, s, m, args, below, meth, c⟩, G, dom, nL⟩ := Y
  exact fun H locs lsa hP hS hl => lv_ishl C.1 C.2.1 d (k H locs lsa hP hS hl)
theorem x_ishr (C : xC Y own cc ret) {x y : Int32} (d : decode cc pc = .ok (.ishr, 1)) (k : X Y rv E' E (pc + 1) ls (.int (x >>> (y &&& 31)) :: st)) : X Y rv E' E pc ls (.int y :: .int x :: st) := by
  obtain ⟨⟨p, l, e, R, s, m, args, below, meth, c⟩, G, dom, nL⟩ := Y
  exact fun H locs lsa hP hS hl => lv_ishr C.1 C.2.1 d (k H locs lsa hP hS hl)
theorem x_idiv (C : xC Y own cc ret) {x y : Int32} (d : decode cc pc = .ok (.idiv, 1)) (hne : ¬ y = 0) (k : X Y rv E' E (pc + 1) ls (.int (x / y) :: st)) : X Y rv E' E pc ls (.int y :: .int x :: st) := by
  obtain ⟨⟨p, l, e, R, s, m, args, below, meth, c⟩, G, dom, nL⟩ := Y
  exact fun H locs lsa hP hS hl => lv_idiv C.1 C.2.1 d hne (k H locs lsa hP hS hl)
theorem x_irem (C : xC Y own cc ret) {x y : Int32} (d : decode cc pc = .ok (.irem, 1)) (hne : ¬ y = 0) (k : X Y rv E' E (pc + 1) ls (.int (x - x / y * y) :: st)) : X Y rv E' E pc ls (.int y :: .int x :: st) := by
  obtain ⟨⟨p, l, e, R, s, m, args, below, meth, c⟩, G, dom, nL⟩ := Y
  exact fun H locs lsa hP hS hl => lv_irem C.1 C.2.1 d hne (k H locs lsa hP hS hl)
theorem x_ineg (C : xC Y own cc ret) {x : Int32} (d : decode cc pc = .ok (.ineg, 1)) (k : X Y rv E' E (pc + 1) ls (.int (-x) :: st)) : X Y rv E' E pc ls (.int x :: st) := by
  obtain ⟨⟨p, l, e, R, s, m, args, below, meth, c⟩, G, dom, nL⟩ := Y
  exact fun H locs lsa hP hS hl => lv_ineg C.1 C.2.1 d (k H locs lsa hP hS hl)
theorem x_ladd (C : xC Y own cc ret) {x y : Int64} (d : decode cc pc = .ok (.ladd, 1)) (k : X Y rv E' E (pc + 1) ls (.long (x + y) :: st)) : X Y rv E' E pc ls (.long y :: .long x :: st) := by
  obtain ⟨⟨p, l, e, R, s, m, args, below, meth, c⟩, G, dom, nL⟩ := Y
  exact fun H locs lsa hP hS hl => lv_ladd C.1 C.2.1 d (k H locs lsa hP hS hl)
theorem x_land (C : xC Y own cc ret) {x y : Int64} (d : decode cc pc = .ok (.land, 1)) (k : X Y rv E' E (pc + 1) ls (.long (x &&& y) :: st)) : X Y rv E' E pc ls (.long y :: .long x :: st) := by
  obtain ⟨⟨p, l, e, R, s, m, args, below, meth, c⟩, G, dom, nL⟩ := Y
  exact fun H locs lsa hP hS hl => lv_land C.1 C.2.1 d (k H locs lsa hP hS hl)
theorem x_lor (C : xC Y own cc ret) {x y : Int64} (d : decode cc pc = .ok (.lor, 1)) (k : X Y rv E' E (pc + 1) ls (.long (x ||| y) :: st)) : X Y rv E' E pc ls (.long y :: .long x :: st) := by
  obtain ⟨⟨p, l, e, R, s, m, args, below, meth, c⟩, G, dom, nL⟩ := Y
  exact fun H locs lsa hP hS hl => lv_lor C.1 C.2.1 d (k H locs lsa hP hS hl)
theorem x_lshl (C : xC Y own cc ret) {x : Int64} {y : Int32} (d : decode cc pc = .ok (.lshl, 1)) (k : X Y rv E' E (pc + 1) ls (.long (x <<< (y.toInt64 &&& 63)) :: st)) : X Y rv E' E pc ls (.int y :: .long x :: st) := by
  obtain ⟨⟨p, l, e, R, s, m, args, below, meth, c⟩, G, dom, nL⟩ := Y
  exact fun H locs lsa hP hS hl => lv_lshl C.1 C.2.1 d rfl (k H locs lsa hP hS hl)
theorem x_i2l (C : xC Y own cc ret) {x : Int32} (d : decode cc pc = .ok (.i2l, 1)) (k : X Y rv E' E (pc + 1) ls (.long x.toInt64 :: st)) : X Y rv E' E pc ls (.int x :: st) := by
  obtain ⟨⟨p, l, e, R, s, m, args, below, meth, c⟩, G, dom, nL⟩ := Y
  exact fun H locs lsa hP hS hl => lv_i2l C.1 C.2.1 d rfl (k H locs lsa hP hS hl)
theorem x_l2i (C : xC Y own cc ret) {x : Int64} (d : decode cc pc = .ok (.l2i, 1)) (k : X Y rv E' E (pc + 1) ls (.int x.toInt32 :: st)) : X Y rv E' E pc ls (.long x :: st) := by
  obtain ⟨⟨p, l, e, R, s, m, args, below, meth, c⟩, G, dom, nL⟩ := Y
  exact fun H locs lsa hP hS hl => lv_l2i C.1 C.2.1 d rfl (k H locs lsa hP hS hl)
theorem x_lcmp (C : xC Y own cc ret) {x y : Int64} (d : decode cc pc = .ok (.lcmp, 1)) (k : X Y rv E' E (pc + 1) ls (.int (lg_cmp x y) :: st)) : X Y rv E' E pc ls (.long y :: .long x :: st) := by
  obtain ⟨⟨p, l, e, R, s, m, args, below, meth, c⟩, G, dom, nL⟩ := Y
  exact fun H locs lsa hP hS hl => W.lcmp C.1 C.2.1 d (k H locs lsa hP hS hl)
-- the stack
theorem x_dup (C : xC Y own cc ret) {v : Value} (d : decode cc pc = .ok (.dup, 1)) (hv : v.category = 1) (k : X Y rv E' E (pc + 1) ls (v :: v :: st)) : X Y rv E' E pc ls (v :: st) := by
  obtain ⟨⟨p, l, e, R, s, m, args, below, meth, c⟩, G, dom, nL⟩ := Y
  exact fun H locs lsa hP hS hl => lv_dup C.1 C.2.1 d hv (k H locs lsa hP hS hl)
theorem x_pop (C : xC Y own cc ret) {v : Value} (d : decode cc pc = .ok (.pop, 1)) (hv : v.category = 1) (k : X Y rv E' E (pc + 1) ls st) : X Y rv E' E pc ls (v :: st) := by
  obtain ⟨⟨p, l, e, R, s, m, args, below, meth, c⟩, G, dom, nL⟩ := Y
  exact fun H locs lsa hP hS hl => lv_pop C.1 C.2.1 d hv (k H locs lsa hP hS hl)
theorem x_dup2 (C : xC Y own cc ret) {v w : Value} (d : decode cc pc = .ok (.dup2, 1)) (hv : v.category = 1) (hw : w.category = 1) (k : X Y rv E' E (pc + 1) ls (v :: w :: v :: w :: st)) : X Y rv E' E pc ls (v :: w :: st) := by
  obtain ⟨⟨p, l, e, R, s, m, args, below, meth, c⟩, G, dom, nL⟩ := Y
  exact fun H locs lsa hP hS hl => lv_dup2_11 C.1 C.2.1 d hv hw (k H locs lsa hP hS hl)
-- branches
theorem x_if_eq (C : xC Y own cc ret) {x : Int32} {off : Int} {tgt : Nat} (d : decode cc pc = .ok (.ifCond .eq off, 3)) (ht : (pc : Int) + off = (tgt : Int)) (kt : x = 0 → X Y rv E' E tgt ls st) (kf : ¬ (x = 0) → X Y rv E' E (pc + 3) ls st) : X Y rv E' E pc ls (.int x :: st) := by
  obtain ⟨⟨p, l, e, R, s, m, args, below, meth, c⟩, G, dom, nL⟩ := Y
  exact fun H locs lsa hP hS hl => lv_if_eq C.1 C.2.1 d ht (fun h => kt h H locs lsa hP hS hl) (fun h => kf h H locs lsa hP hS hl)
theorem x_icmp_eq (C : xC Y own cc ret) {x y : Int32} {off : Int} {tgt : Nat} (d : decode cc pc = .ok (.if_icmp .eq off, 3)) (ht : (pc : Int) + off = (tgt : Int)) (kt : x = y → X Y rv E' E tgt ls st) (kf : ¬ (x = y) → X Y rv E' E (pc + 3) ls st) : X Y rv E' E pc ls (.int y :: .int x :: st) := by
  obtain ⟨⟨p, l, e, R, s, m, args, below, meth, c⟩, G, dom, nL⟩ := Y
  exact fun H locs lsa hP hS hl => lv_icmp_eq C.1 C.2.1 d ht (fun h => kt h H locs lsa hP hS hl) (fun h => kf h H locs lsa hP hS hl)
theorem x_if_ne (C : xC Y own cc ret) {x : Int32} {off : Int} {tgt : Nat} (d : decode cc pc = .ok (.ifCond .ne off, 3)) (ht : (pc : Int) + off = (tgt : Int)) (kt : ¬ x = 0 → X Y rv E' E tgt ls st) (kf : x = 0 → X Y rv E' E (pc + 3) ls st) : X Y rv E' E pc ls (.int x :: st) := by
  obtain ⟨⟨p, l, e, R, s, m, args, below, meth, c⟩, G, dom, nL⟩ := Y
  exact fun H locs lsa hP hS hl => lv_if_ne C.1 C.2.1 d ht (fun h => kt h H locs lsa hP hS hl) (fun h => kf h H locs lsa hP hS hl)
theorem x_icmp_ne (C : xC Y own cc ret) {x y : Int32} {off : Int} {tgt : Nat} (d : decode cc pc = .ok (.if_icmp .ne off, 3)) (ht : (pc : Int) + off = (tgt : Int)) (kt : ¬ x = y → X Y rv E' E tgt ls st) (kf : x = y → X Y rv E' E (pc + 3) ls st) : X Y rv E' E pc ls (.int y :: .int x :: st) := by
  obtain ⟨⟨p, l, e, R, s, m, args, below, meth, c⟩, G, dom, nL⟩ := Y
  exact fun H locs lsa hP hS hl => lv_icmp_ne C.1 C.2.1 d ht (fun h => kt h H locs lsa hP hS hl) (fun h => kf h H locs lsa hP hS hl)
theorem x_if_lt (C : xC Y own cc ret) {x : Int32} {off : Int} {tgt : Nat} (d : decode cc pc = .ok (.ifCond .lt off, 3)) (ht : (pc : Int) + off = (tgt : Int)) (kt : x < 0 → X Y rv E' E tgt ls st) (kf : ¬ (x < 0) → X Y rv E' E (pc + 3) ls st) : X Y rv E' E pc ls (.int x :: st) := by
  obtain ⟨⟨p, l, e, R, s, m, args, below, meth, c⟩, G, dom, nL⟩ := Y
  exact fun H locs lsa hP hS hl => lv_if_lt C.1 C.2.1 d ht (fun h => kt h H locs lsa hP hS hl) (fun h => kf h H locs lsa hP hS hl)
theorem x_icmp_lt (C : xC Y own cc ret) {x y : Int32} {off : Int} {tgt : Nat} (d : decode cc pc = .ok (.if_icmp .lt off, 3)) (ht : (pc : Int) + off = (tgt : Int)) (kt : x < y → X Y rv E' E tgt ls st) (kf : ¬ (x < y) → X Y rv E' E (pc + 3) ls st) : X Y rv E' E pc ls (.int y :: .int x :: st) := by
  obtain ⟨⟨p, l, e, R, s, m, args, below, meth, c⟩, G, dom, nL⟩ := Y
  exact fun H locs lsa hP hS hl => lv_icmp_lt C.1 C.2.1 d ht (fun h => kt h H locs lsa hP hS hl) (fun h => kf h H locs lsa hP hS hl)
theorem x_if_ge (C : xC Y own cc ret) {x : Int32} {off : Int} {tgt : Nat} (d : decode cc pc = .ok (.ifCond .ge off, 3)) (ht : (pc : Int) + off = (tgt : Int)) (kt : 0 ≤ x → X Y rv E' E tgt ls st) (kf : ¬ (0 ≤ x) → X Y rv E' E (pc + 3) ls st) : X Y rv E' E pc ls (.int x :: st) := by
  obtain ⟨⟨p, l, e, R, s, m, args, below, meth, c⟩, G, dom, nL⟩ := Y
  exact fun H locs lsa hP hS hl => lv_if_ge C.1 C.2.1 d ht (fun h => kt h H locs lsa hP hS hl) (fun h => kf h H locs lsa hP hS hl)
theorem x_icmp_ge (C : xC Y own cc ret) {x y : Int32} {off : Int} {tgt : Nat} (d : decode cc pc = .ok (.if_icmp .ge off, 3)) (ht : (pc : Int) + off = (tgt : Int)) (kt : y ≤ x → X Y rv E' E tgt ls st) (kf : ¬ (y ≤ x) → X Y rv E' E (pc + 3) ls st) : X Y rv E' E pc ls (.int y :: .int x :: st) := by
  obtain ⟨⟨p, l, e, R, s, m, args, below, meth, c⟩, G, dom, nL⟩ := Y
  exact fun H locs lsa hP hS hl => lv_icmp_ge C.1 C.2.1 d ht (fun h => kt h H locs lsa hP hS hl) (fun h => kf h H locs lsa hP hS hl)
theorem x_if_gt (C : xC Y own cc ret) {x : Int32} {off : Int} {tgt : Nat} (d : decode cc pc = .ok (.ifCond .gt off, 3)) (ht : (pc : Int) + off = (tgt : Int)) (kt : 0 < x → X Y rv E' E tgt ls st) (kf : ¬ (0 < x) → X Y rv E' E (pc + 3) ls st) : X Y rv E' E pc ls (.int x :: st) := by
  obtain ⟨⟨p, l, e, R, s, m, args, below, meth, c⟩, G, dom, nL⟩ := Y
  exact fun H locs lsa hP hS hl => lv_if_gt C.1 C.2.1 d ht (fun h => kt h H locs lsa hP hS hl) (fun h => kf h H locs lsa hP hS hl)
theorem x_icmp_gt (C : xC Y own cc ret) {x y : Int32} {off : Int} {tgt : Nat} (d : decode cc pc = .ok (.if_icmp .gt off, 3)) (ht : (pc : Int) + off = (tgt : Int)) (kt : y < x → X Y rv E' E tgt ls st) (kf : ¬ (y < x) → X Y rv E' E (pc + 3) ls st) : X Y rv E' E pc ls (.int y :: .int x :: st) := by
  obtain ⟨⟨p, l, e, R, s, m, args, below, meth, c⟩, G, dom, nL⟩ := Y
  exact fun H locs lsa hP hS hl => lv_icmp_gt C.1 C.2.1 d ht (fun h => kt h H locs lsa hP hS hl) (fun h => kf h H locs lsa hP hS hl)
theorem x_if_le (C : xC Y own cc ret) {x : Int32} {off : Int} {tgt : Nat} (d : decode cc pc = .ok (.ifCond .le off, 3)) (ht : (pc : Int) + off = (tgt : Int)) (kt : x ≤ 0 → X Y rv E' E tgt ls st) (kf : ¬ (x ≤ 0) → X Y rv E' E (pc + 3) ls st) : X Y rv E' E pc ls (.int x :: st) := by
  obtain ⟨⟨p, l, e, R, s, m, args, below, meth, c⟩, G, dom, nL⟩ := Y
  exact fun H locs lsa hP hS hl => lv_if_le C.1 C.2.1 d ht (fun h => kt h H locs lsa hP hS hl) (fun h => kf h H locs lsa hP hS hl)
theorem x_icmp_le (C : xC Y own cc ret) {x y : Int32} {off : Int} {tgt : Nat} (d : decode cc pc = .ok (.if_icmp .le off, 3)) (ht : (pc : Int) + off = (tgt : Int)) (kt : x ≤ y → X Y rv E' E tgt ls st) (kf : ¬ (x ≤ y) → X Y rv E' E (pc + 3) ls st) : X Y rv E' E pc ls (.int y :: .int x :: st) := by
  obtain ⟨⟨p, l, e, R, s, m, args, below, meth, c⟩, G, dom, nL⟩ := Y
  exact fun H locs lsa hP hS hl => lv_icmp_le C.1 C.2.1 d ht (fun h => kt h H locs lsa hP hS hl) (fun h => kf h H locs lsa hP hS hl)
theorem x_goto (C : xC Y own cc ret) {off : Int} {tgt : Nat} (d : decode cc pc = .ok (.goto off, 3)) (ht : (pc : Int) + off = (tgt : Int)) (k : X Y rv E' E tgt ls st) : X Y rv E' E pc ls st := by
  obtain ⟨⟨p, l, e, R, s, m, args, below, meth, c⟩, G, dom, nL⟩ := Y
  exact fun H locs lsa hP hS hl => lv_goto C.1 C.2.1 d ht (k H locs lsa hP hS hl)
theorem x_ifnull (C : xC Y own cc ret) {x : Nat} {off : Int} (d : decode cc pc = .ok (.ifnull off, 3)) (k : X Y rv E' E (pc + 3) ls st) : X Y rv E' E pc ls (.ref x :: st) := by
  obtain ⟨⟨p, l, e, R, s, m, args, below, meth, c⟩, G, dom, nL⟩ := Y
  exact fun H locs lsa hP hS hl => lv_ifnull C.1 C.2.1 d (k H locs lsa hP hS hl)
theorem x_ifnullN (C : xC Y own cc ret) {off : Int} {tgt : Nat} (d : decode cc pc = .ok (.ifnull off, 3)) (ht : (pc : Int) + off = (tgt : Int)) (k : X Y rv E' E tgt ls st) : X Y rv E' E pc ls (.null :: st) := by
  obtain ⟨⟨p, l, e, R, s, m, args, below, meth, c⟩, G, dom, nL⟩ := Y
  exact fun H locs lsa hP hS hl => lv_ifnullN C.1 C.2.1 d ht (k H locs lsa hP hS hl)
theorem x_ifnonnull (C : xC Y own cc ret) {x : Nat} {off : Int} {tgt : Nat} (d : decode cc pc = .ok (.ifnonnull off, 3)) (ht : (pc : Int) + off = (tgt : Int)) (k : X Y rv E' E tgt ls st) : X Y rv E' E pc ls (.ref x :: st) := by
  obtain ⟨⟨p, l, e, R, s, m, args, below, meth, c⟩, G, dom, nL⟩ := Y
  exact fun H locs lsa hP hS hl => lv_ifnonnull C.1 C.2.1 d ht (k H locs lsa hP hS hl)
theorem x_ifnonnullN (C : xC Y own cc ret) {off : Int} (d : decode cc pc = .ok (.ifnonnull off, 3)) (k : X Y rv E' E (pc + 3) ls st) : X Y rv E' E pc ls (.null :: st) := by
  obtain ⟨⟨p, l, e, R, s, m, args, below, meth, c⟩, G, dom, nL⟩ := Y
  exact fun H locs lsa hP hS hl => lv_ifnonnullN C.1 C.2.1 d (k H locs lsa hP hS hl)
theorem x_tableIn (C : xC Y own cc ret) {dflt lo hi : Int} {offs : Array Int} {len : Nat} {x : Int32} {off : Int} {tgt : Nat} (d : decode cc pc = .ok (.tableswitch dflt lo hi offs, len)) (h1 : ¬ x.toInt < lo) (h2 : ¬ hi < x.toInt) (ho : offs[(x.toInt - lo).toNat]? = some off) (ht : (pc : Int) + off = (tgt : Int)) (k : X Y rv E' E tgt ls st) : X Y rv E' E pc ls (.int x :: st) := by
  obtain ⟨⟨p, l, e, R, s, m, args, below, meth, c⟩, G, dom, nL⟩ := Y
  exact fun H locs lsa hP hS hl => lv_tableIn C.1 C.2.1 d h1 h2 ho ht (k H locs lsa hP hS hl)
theorem x_tableOut (C : xC Y own cc ret) {dflt lo hi : Int} {offs : Array Int} {len : Nat} {x : Int32} {tgt : Nat} (d : decode cc pc = .ok (.tableswitch dflt lo hi offs, len)) (h : x.toInt < lo ∨ hi < x.toInt) (ht : (pc : Int) + dflt = (tgt : Int)) (k : X Y rv E' E tgt ls st) : X Y rv E' E pc ls (.int x :: st) := by
  obtain ⟨⟨p, l, e, R, s, m, args, below, meth, c⟩, G, dom, nL⟩ := Y
  exact fun H locs lsa hP hS hl => lv_tableOut C.1 C.2.1 d h ht (k H locs lsa hP hS hl)
-- fields
theorem x_get (C : xC Y own cc ret) {ref Cn : String} {T : u_T} {N ci index k i j : Nat} {fs : List Value} {v : Value} (d : decode cc pc = .ok (.getfield index, 3)) (hin : ∀ w ∈ u_ws Cn T N, w ∈ gt_ws) (hc : vwCl[ci]? = some (Cn, T, N)) (hk : j < N) (hlink : Cond.fieldLink own index ref (T j).2.1 (T j).2.2.1 ∈ gt_ws) (hsame : (T j).1 = ref) (hi : xd Y k i = true) (he : E k i = .inr (ci, fs)) (hv : fs[j]? = some v) (kk : X Y rv E' E (pc + 3) ls (v :: st)) : X Y rv E' E pc ls (.ref (xa Y k i) :: st) := by
  obtain ⟨⟨p, l, e, R, s, m, args, below, meth, c⟩, G, dom, nL⟩ := Y
  intro H locs lsa hP hS hl
  have h1 : va_P G.1 vwCl [(G.2.1 k i, E k i)] H := fun q x hx => by
    cases q with
    | zero => cases hx; exact hP k i hi
    | succ q => cases hx
  exact va_get (D := G.1) (ci := ci) (v := v) (C := Cn) (T := T) (N := N) C.1 C.2.1 C.2.2.2.2.1 hin C.2.2.2.1 C.2.2.2.2.2.1 h1 0 (by rw [he]; rfl) hc j hk (C.2.2.2.2.1 _ hlink) (fun x h9 => by rw [← hsame]; exact h9) hv d (kk H locs lsa hP hS hl)
theorem x_getN (C : xC Y own cc ret) {ref Cn host : String} {T : u_T} {N ci index k i j : Nat} {fs : List Value} {v : Value} (d : decode cc pc = .ok (.getfield index, 3)) (hin : ∀ w ∈ u_ws Cn T N, w ∈ gt_ws) (hc : vwCl[ci]? = some (Cn, T, N)) (hk : j < N) (hlink : Cond.fieldLinkNest own index ref (T j).2.1 (T j).2.2.1 host ∈ nt_ws) (hsame : (T j).1 = ref) (hi : xd Y k i = true) (he : E k i = .inr (ci, fs)) (hv : fs[j]? = some v) (kk : X Y rv E' E (pc + 3) ls (v :: st)) : X Y rv E' E pc ls (.ref (xa Y k i) :: st) := by
  obtain ⟨⟨p, l, e, R, s, m, args, below, meth, c⟩, G, dom, nL⟩ := Y
  intro H locs lsa hP hS hl
  have h1 : va_P G.1 vwCl [(G.2.1 k i, E k i)] H := fun q x hx => by
    cases q with
    | zero => cases hx; exact hP k i hi
    | succ q => cases hx
  exact va_getN (D := G.1) (ci := ci) (v := v) (C := Cn) (T := T) (N := N) C.1 C.2.1 C.2.2.2.2.1 hin C.2.2.2.1 C.2.2.2.2.2.1 h1 0 (by rw [he]; rfl) hc j hk (C.2.2.2.2.2.2.2.2.2.use hlink) (fun x h9 => by rw [← hsame]; exact h9) hv d (kk H locs lsa hP hS hl)
theorem x_put (C : xC Y own cc ret) {ref Cn : String} {T : u_T} {N ci index k i j : Nat} {fs : List Value} {v : Value} {ty : FieldType} (ty0 : Nat → FieldType) (d : decode cc pc = .ok (.putfield index, 3)) (hin : ∀ w ∈ u_ws Cn T N, w ∈ gt_ws) (hty : ∀ k, k < N → parseFieldDescriptor (T k).2.2.1 = some (ty0 k)) (hnm : ∀ a, a < N → ∀ b, b < N → a ≠ b → (T a).2.1 ≠ (T b).2.1) (hc : vwCl[ci]? = some (Cn, T, N)) (hk : j < N) (hlink : Cond.fieldLink own index ref (T j).2.1 (T j).2.2.1 ∈ gt_ws) (hsame : (T j).1 = ref) (hfin : (T j).2.2.2 = false) (hd : parseFieldDescriptor (T j).2.2.1 = some ty) (hn : narrow ty v = v) (hfit : fits ty v = true) (hi : xd Y k i = true) (he : E k i = .inr (ci, fs)) (hl0 : j < fs.length) (kk : X Y rv E' (xup E k i (.inr (ci, fs.set j v))) (pc + 3) ls st) : X Y rv E' E pc ls (v :: .ref (xa Y k i) :: st) := by
  obtain ⟨⟨p, l, e, R, s, m, args, below, meth, c⟩, G, dom, nL⟩ := Y
  intro H locs lsa hP hS hl
  obtain ⟨hx, hb, hml, hown, hts, hK, hJ, hlk, hrt, hNt⟩ := C
  have hap := va_apart (own := own) hts hin ty0 hty hnm hK hc
  have h0 := hP k i hi
  rw [he] at h0
  obtain ⟨r, h1, cell, q1, q2, q3, q4⟩ := h0
  have hr : r = (Cn, T, N) := Option.some.inj (h1.symm.trans hc)
  subst hr
  obtain ⟨hSl, hfc, kC, hkC, hkind⟩ := hK.1 ci _ hc
  obtain ⟨cf, kf, fi, f, hfi, hsl⟩ := hSl j hk
  have hlay := hts _ (hin _ (u_in_lay hk))
  unfold u_lay at hlay
  rw [if_neg (by rw [hfin]; decide)] at hlay
  have hst := (u_facts hfc hkC (u_lays hts hin hk) hfi).1
  have h6 := u_store hfc hkC hkind hlay hfi hd hn hfit
  subst hsame
  refine W.putK hx hb (f := f) ⟨hown, hts _ hlink, ⟨_, _, _, hfi⟩, hst⟩ (by rw [q2]; exact h6) q1 q3 (by rw [hsl]; exact k2_hasslot (q4 j hk)) rfl rfl d fun H' e1 e2 e3 => ?_
  rw [hsl] at e1 ⊢
  exact kk H' _ lsa (hP.set hJ hi ⟨_, hc, t_OB.to (V := updV (vp_V fs) j v) ⟨_, e1, q2, q3, t_set q4 hap hk v⟩ (fun q _ => vp_updV_set hl0 v q)⟩ e3) (hS.put e2 e3 ⟨k, i, hi, rfl⟩) hl
theorem x_putN (C : xC Y own cc ret) {ref Cn host : String} {T : u_T} {N ci index k i j : Nat} {fs : List Value} {v : Value} {ty : FieldType} (ty0 : Nat → FieldType) (d : decode cc pc = .ok (.putfield index, 3)) (hin : ∀ w ∈ u_ws Cn T N, w ∈ gt_ws) (hty : ∀ k, k < N → parseFieldDescriptor (T k).2.2.1 = some (ty0 k)) (hnm : ∀ a, a < N → ∀ b, b < N → a ≠ b → (T a).2.1 ≠ (T b).2.1) (hc : vwCl[ci]? = some (Cn, T, N)) (hk : j < N) (hlink : Cond.fieldLinkNest own index ref (T j).2.1 (T j).2.2.1 host ∈ nt_ws) (hsame : (T j).1 = ref) (hfin : (T j).2.2.2 = false) (hd : parseFieldDescriptor (T j).2.2.1 = some ty) (hn : narrow ty v = v) (hfit : fits ty v = true) (hi : xd Y k i = true) (he : E k i = .inr (ci, fs)) (hl0 : j < fs.length) (kk : X Y rv E' (xup E k i (.inr (ci, fs.set j v))) (pc + 3) ls st) : X Y rv E' E pc ls (v :: .ref (xa Y k i) :: st) := by
  obtain ⟨⟨p, l, e, R, s, m, args, below, meth, c⟩, G, dom, nL⟩ := Y
  intro H locs lsa hP hS hl
  obtain ⟨hx, hb, hml, hown, hts, hK, hJ, hlk, hrt, hNt⟩ := C
  have hap := va_apart (own := own) hts hin ty0 hty hnm hK hc
  have h0 := hP k i hi
  rw [he] at h0
  obtain ⟨r, h1, cell, q1, q2, q3, q4⟩ := h0
  have hr : r = (Cn, T, N) := Option.some.inj (h1.symm.trans hc)
  subst hr
  obtain ⟨hSl, hfc, kC, hkC, hkind⟩ := hK.1 ci _ hc
  obtain ⟨cf, kf, fi, f, hfi, hsl⟩ := hSl j hk
  have hlay := hts _ (hin _ (u_in_lay hk))
  unfold u_lay at hlay
  rw [if_neg (by rw [hfin]; decide)] at hlay
  have hst := (u_facts hfc hkC (u_lays hts hin hk) hfi).1
  have h6 := u_store hfc hkC hkind hlay hfi hd hn hfit
  subst hsame
  refine va_WputK hx hb (f := f) hown (hNt.use hlink) hfi hst (by rw [q2]; exact h6) q1 q3 (by rw [hsl]; exact k2_hasslot (q4 j hk)) rfl rfl d fun H' e1 e2 e3 => ?_
  rw [hsl] at e1 ⊢
  exact kk H' _ lsa (hP.set hJ hi ⟨_, hc, t_OB.to (V := updV (vp_V fs) j v) ⟨_, e1, q2, q3, t_set q4 hap hk v⟩ (fun q _ => vp_updV_set hl0 v q)⟩ e3) (hS.put e2 e3 ⟨k, i, hi, rfl⟩) hl
-- arrays
def inB (x : Int32) (n : Nat) : Bool := decide (0 ≤ x) && decide (x.toNatClampNeg < n)
theorem inB_in {x : Int32} {n : Nat} (h : inB x n = true) : vp_in x n := by
  simp only [inB, Bool.and_eq_true, decide_eq_true_eq] at h
  intro q
  rcases q with q | q
  · exact absurd q (Int32.not_lt.mpr h.1)
  · omega
theorem x_iald (C : xC Y own cc ret) {k i n : Nat} {f : Nat → Int32} {x : Int32} (d : decode cc pc = .ok (.iaload, 1)) (hi : xd Y k i = true) (he : E k i = .inl ((xg Y).2.2 0, n, .inl f)) (hx : inB x n = true) (kk : X Y rv E' E (pc + 1) ls (.int (f x.toNatClampNeg) :: st)) : X Y rv E' E pc ls (.int x :: .ref (xa Y k i) :: st) := by
  obtain ⟨⟨p, l, e, R, s, m, args, below, meth, c⟩, G, dom, nL⟩ := Y
  intro H locs lsa hP hS hl
  have h1 : va_P G.1 vwCl [(G.2.1 k i, E k i)] H := fun q x hx => by
    cases q with
    | zero => cases hx; exact hP k i hi
    | succ q => cases hx
  exact va_iald (D := G.1) C.1 C.2.1 C.2.2.2.2.2.1 h1 0 0 (by rw [he]; rfl) rfl (inB_in hx) d (kk H locs lsa hP hS hl)
theorem x_zald (C : xC Y own cc ret) {k i n : Nat} {f : Nat → Int32} {x : Int32} (d : decode cc pc = .ok (.baload, 1)) (hi : xd Y k i = true) (he : E k i = .inl ((xg Y).2.2 2, n, .inl f)) (hx : inB x n = true) (kk : X Y rv E' E (pc + 1) ls (.int (f x.toNatClampNeg) :: st)) : X Y rv E' E pc ls (.int x :: .ref (xa Y k i) :: st) := by
  obtain ⟨⟨p, l, e, R, s, m, args, below, meth, c⟩, G, dom, nL⟩ := Y
  intro H locs lsa hP hS hl
  have h1 : va_P G.1 vwCl [(G.2.1 k i, E k i)] H := fun q x hx => by
    cases q with
    | zero => cases hx; exact hP k i hi
    | succ q => cases hx
  exact va_zald (D := G.1) C.1 C.2.1 C.2.2.2.2.2.1 h1 0 2 (by rw [he]; rfl) rfl (inB_in hx) d (kk H locs lsa hP hS hl)
theorem x_lald (C : xC Y own cc ret) {k i n : Nat} {f : Nat → Int64} {x : Int32} (d : decode cc pc = .ok (.laload, 1)) (hi : xd Y k i = true) (he : E k i = .inl ((xg Y).2.2 1, n, .inr (.inl f))) (hx : inB x n = true) (kk : X Y rv E' E (pc + 1) ls (.long (f x.toNatClampNeg) :: st)) : X Y rv E' E pc ls (.int x :: .ref (xa Y k i) :: st) := by
  obtain ⟨⟨p, l, e, R, s, m, args, below, meth, c⟩, G, dom, nL⟩ := Y
  intro H locs lsa hP hS hl
  have h1 : va_P G.1 vwCl [(G.2.1 k i, E k i)] H := fun q x hx => by
    cases q with
    | zero => cases hx; exact hP k i hi
    | succ q => cases hx
  exact va_lald (D := G.1) C.1 C.2.1 C.2.2.2.2.2.1 h1 0 1 (by rw [he]; rfl) rfl (inB_in hx) d (kk H locs lsa hP hS hl)
theorem x_aald (C : xC Y own cc ret) {k i n t : Nat} {Cn : String} {f : Nat → Option Nat} {x : Int32} (d : decode cc pc = .ok (.aaload, 1)) (hi : xd Y k i = true) (he : E k i = .inl ((xg Y).2.2 t, n, .inr (.inr (.inr (.inr f))))) (ht : (x_tys (xg Y))[t]? = some ((xg Y).2.2 t, .object Cn)) (hx : inB x n = true) (kk : X Y rv E' E (pc + 1) ls (va_rf (f x.toNatClampNeg) :: st)) : X Y rv E' E pc ls (.int x :: .ref (xa Y k i) :: st) := by
  obtain ⟨⟨p, l, e, R, s, m, args, below, meth, c⟩, G, dom, nL⟩ := Y
  intro H locs lsa hP hS hl
  have h1 : va_P G.1 vwCl [(G.2.1 k i, E k i)] H := fun q x hx => by
    cases q with
    | zero => cases hx; exact hP k i hi
    | succ q => cases hx
  exact va_aldq (D := G.1) C.1 C.2.1 C.2.2.2.2.2.1 h1 0 t (by rw [he]; rfl) ht (inB_in hx) d (kk H locs lsa hP hS hl)
theorem x_alen (C : xC Y own cc ret) {k i t : Nat} {x : vp_A} {ty : FieldType} {v : Int32} (d : decode cc pc = .ok (.arraylength, 1)) (hi : xd Y k i = true) (he : E k i = .inl ((xg Y).2.2 t, x)) (ht : (x_tys (xg Y))[t]? = some ((xg Y).2.2 t, ty)) (hv : Int32.ofNat x.1 = v) (kk : X Y rv E' E (pc + 1) ls (.int v :: st)) : X Y rv E' E pc ls (.ref (xa Y k i) :: st) := by
  obtain ⟨⟨p, l, e, R, s, m, args, below, meth, c⟩, G, dom, nL⟩ := Y
  intro H locs lsa hP hS hl
  have h1 : va_P G.1 vwCl [(G.2.1 k i, E k i)] H := fun q x hx => by
    cases q with
    | zero => cases hx; exact hP k i hi
    | succ q => cases hx
  exact va_alen (D := G.1) C.1 C.2.1 C.2.2.2.2.2.1 h1 0 t (by rw [he]; rfl) ht hv d (kk H locs lsa hP hS hl)
theorem x_iast (C : xC Y own cc ret) {k i n : Nat} {f : Nat → Int32} {x v : Int32} (d : decode cc pc = .ok (.iastore, 1)) (hi : xd Y k i = true) (he : E k i = .inl ((xg Y).2.2 0, n, .inl f)) (hx : inB x n = true) (kk : X Y rv E' (xup E k i (.inl ((xg Y).2.2 0, n, .inl (upd f x.toNatClampNeg v)))) (pc + 1) ls st) : X Y rv E' E pc ls (.int v :: .int x :: .ref (xa Y k i) :: st) := by
  obtain ⟨⟨p, l, e, R, s, m, args, below, meth, c⟩, G, dom, nL⟩ := Y
  intro H locs lsa hP hS hl
  have h0 := hP k i hi
  rw [he] at h0
  refine W.iast C.1 C.2.1 h0 ((C.2.2.2.2.2.1.2 0 _ rfl).1 n (fun j => .int (f j))) (fun q => by cases q) (by show ¬ (x < 0 ∨ (arrV _ _ _).slots.size ≤ _); rw [arrV_size]; exact inB_in hx) rfl rfl d fun H1 e z oq => ?_
  refine kk H1 _ lsa (hP.set C.2.2.2.2.2.2.1 hi ?_ oq) (hS.put z oq ⟨k, i, hi, rfl⟩) hl
  show H1[_]? = some (vp_cell _ _)
  rw [e]
  rw [vp_cell_i, vp_cell_i, arrV_store]
  congr 2
  funext q
  by_cases hq : q = x.toNatClampNeg
  · subst hq
    simp [updV, upd]
  · simp [updV, upd, hq]
theorem x_zast (C : xC Y own cc ret) {k i n : Nat} {f : Nat → Int32} {x v : Int32} (d : decode cc pc = .ok (.bastore, 1)) (hi : xd Y k i = true) (he : E k i = .inl ((xg Y).2.2 2, n, .inl f)) (hx : inB x n = true) (hv : vp_nar .boolean v = v) (kk : X Y rv E' (xup E k i (.inl ((xg Y).2.2 2, n, .inl (upd f x.toNatClampNeg v)))) (pc + 1) ls st) : X Y rv E' E pc ls (.int v :: .int x :: .ref (xa Y k i) :: st) := by
  obtain ⟨⟨p, l, e, R, s, m, args, below, meth, c⟩, G, dom, nL⟩ := Y
  intro H locs lsa hP hS hl
  have h0 := hP k i hi
  rw [he] at h0
  refine W.zast C.1 C.2.1 h0 ((C.2.2.2.2.2.1.2 2 _ rfl).1 n (fun j => .int (f j))) (fun q => by cases q) (by show ¬ (x < 0 ∨ (arrV _ _ _).slots.size ≤ _); rw [arrV_size]; exact inB_in hx) rfl rfl d fun H1 e z oq => ?_
  refine kk H1 _ lsa (hP.set C.2.2.2.2.2.2.1 hi ?_ oq) (hS.put z oq ⟨k, i, hi, rfl⟩) hl
  show H1[_]? = some (vp_cell _ _)
  rw [← hv]
  rw [e]
  rw [vp_cell_i, vp_cell_i, arrV_store]
  congr 2
  funext q
  by_cases hq : q = x.toNatClampNeg
  · subst hq
    simp [updV, upd, vp_nar]
    try rfl
  · simp [updV, upd, hq]
theorem x_last (C : xC Y own cc ret) {k i n : Nat} {f : Nat → Int64} {x : Int32} {v : Int64} (d : decode cc pc = .ok (.lastore, 1)) (hi : xd Y k i = true) (he : E k i = .inl ((xg Y).2.2 1, n, .inr (.inl f))) (hx : inB x n = true) (kk : X Y rv E' (xup E k i (.inl ((xg Y).2.2 1, n, .inr (.inl (vp_updL f x.toNatClampNeg v))))) (pc + 1) ls st) : X Y rv E' E pc ls (.long v :: .int x :: .ref (xa Y k i) :: st) := by
  obtain ⟨⟨p, l, e, R, s, m, args, below, meth, c⟩, G, dom, nL⟩ := Y
  intro H locs lsa hP hS hl
  have h0 := hP k i hi
  rw [he] at h0
  refine W.last C.1 C.2.1 h0 ((C.2.2.2.2.2.1.2 1 _ rfl).1 n (fun j => .long (f j))) (fun q => by cases q) (by show ¬ (x < 0 ∨ (arrV _ _ _).slots.size ≤ _); rw [arrV_size]; exact inB_in hx) rfl rfl d fun H1 e z oq => ?_
  refine kk H1 _ lsa (hP.set C.2.2.2.2.2.2.1 hi ?_ oq) (hS.put z oq ⟨k, i, hi, rfl⟩) hl
  show H1[_]? = some (vp_cell _ _)
  rw [e]
  rw [vp_cell_l, vp_cell_l, arrV_store]
  congr 2
  funext q
  by_cases hq : q = x.toNatClampNeg
  · subst hq
    simp [updV, vp_updL]
  · simp [updV, vp_updL, hq]
-- Math
def jmax (x y : Int32) : Int32 := if x < y then y else x
def jmin (x y : Int32) : Int32 := if y < x then y else x
def jabs (x : Int32) : Int32 := if 0 ≤ x then x else 0 - x
theorem x_max (C : xC Y own cc ret) {index : Nat} {x y : Int32} (d : decode cc pc = .ok (.invokestatic index, 3)) (hl1 : Cond.methodLink own index Lib.Math.max.name ∈ gt_ws) (h2 : Cond.static Lib.Math.max.name ∈ gt_ws) (h3 : Cond.initialized "java/lang/Math" ∈ gt_ws) (h4 : Cond.code Lib.Math.max.name Lib.Math.max.code 2 (some .int) ∈ gt_ws) (hf : 1 ≤ (xR Y).frames) (hlo : (st.map fun v => v.category).sum + 13 ≤ (xR Y).locals) (kk : X Y rv E' E (pc + 3) ls (.int (jmax x y) :: st)) : X Y rv E' E pc ls (.int y :: .int x :: st) := by
  obtain ⟨⟨p, l, e, R, s, m, args, below, meth, c⟩, G, dom, nL⟩ := Y
  exact fun H locs lsa hP hS hl => va_mmax C.1 C.2.1 (C.2.2.1.trans hl.1.symm) C.2.2.2.1 (C.2.2.2.2.1 _ hl1) (C.2.2.2.2.1 _ h2) (C.2.2.2.2.1 _ h3) (C.2.2.2.2.1 _ h4) hf hlo (Nat.zero_le _) (Nat.zero_le _) d (kk H locs lsa hP hS hl)
theorem x_min (C : xC Y own cc ret) {index : Nat} {x y : Int32} (d : decode cc pc = .ok (.invokestatic index, 3)) (hl1 : Cond.methodLink own index Lib.Math.min.name ∈ gt_ws) (h2 : Cond.static Lib.Math.min.name ∈ gt_ws) (h3 : Cond.initialized "java/lang/Math" ∈ gt_ws) (h4 : Cond.code Lib.Math.min.name Lib.Math.min.code 2 (some .int) ∈ gt_ws) (hf : 1 ≤ (xR Y).frames) (hlo : (st.map fun v => v.category).sum + 13 ≤ (xR Y).locals) (kk : X Y rv E' E (pc + 3) ls (.int (jmin x y) :: st)) : X Y rv E' E pc ls (.int y :: .int x :: st) := by
  obtain ⟨⟨p, l, e, R, s, m, args, below, meth, c⟩, G, dom, nL⟩ := Y
  exact fun H locs lsa hP hS hl => va_mmin C.1 C.2.1 (C.2.2.1.trans hl.1.symm) C.2.2.2.1 (C.2.2.2.2.1 _ hl1) (C.2.2.2.2.1 _ h2) (C.2.2.2.2.1 _ h3) (C.2.2.2.2.1 _ h4) hf hlo (Nat.zero_le _) (Nat.zero_le _) d (kk H locs lsa hP hS hl)
theorem x_abs (C : xC Y own cc ret) {index : Nat} {x : Int32} (d : decode cc pc = .ok (.invokestatic index, 3)) (hl1 : Cond.methodLink own index Lib.Math.abs.name ∈ gt_ws) (h2 : Cond.static Lib.Math.abs.name ∈ gt_ws) (h3 : Cond.initialized "java/lang/Math" ∈ gt_ws) (h4 : Cond.code Lib.Math.abs.name Lib.Math.abs.code 1 (some .int) ∈ gt_ws) (hf : 1 ≤ (xR Y).frames) (hlo : (st.map fun v => v.category).sum + 13 ≤ (xR Y).locals) (kk : X Y rv E' E (pc + 3) ls (.int (jabs x) :: st)) : X Y rv E' E pc ls (.int x :: st) := by
  obtain ⟨⟨p, l, e, R, s, m, args, below, meth, c⟩, G, dom, nL⟩ := Y
  exact fun H locs lsa hP hS hl => va_mabs C.1 C.2.1 (C.2.2.1.trans hl.1.symm) C.2.2.2.1 (C.2.2.2.2.1 _ hl1) (C.2.2.2.2.1 _ h2) (C.2.2.2.2.1 _ h3) (C.2.2.2.2.1 _ h4) hf hlo (Nat.zero_le _) (Nat.zero_le _) d (kk H locs lsa hP hS hl)
-- ends
theorem x_iret (C : xC Y own cc (some .int)) {v : Int32} (d : decode cc pc = .ok (.ireturn, 1)) : X Y (some (.int v)) E E pc ls [.int v] := by
  obtain ⟨⟨p, l, e, R, s, m, args, below, meth, c⟩, G, dom, nL⟩ := Y
  exact fun H locs lsa hP hS hl => W.iret C.1 C.2.1 C.2.2.2.2.2.2.2.2.1 (fun t ht hW => ⟨rfl, by rw [ht]; exact hP, hS.F ht⟩) hS.2.2 d C.2.2.2.2.2.2.2.1
theorem x_zret (C : xC Y own cc (some .boolean)) {v : Int32} (d : decode cc pc = .ok (.ireturn, 1)) (hn : narrow .boolean (.int v) = .int v) : X Y (some (.int v)) E E pc ls [.int v] := by
  obtain ⟨⟨p, l, e, R, s, m, args, below, meth, c⟩, G, dom, nL⟩ := Y
  exact fun H locs lsa hP hS hl => W.zret C.1 C.2.1 C.2.2.2.2.2.2.2.2.1 hn (fun t ht hW => ⟨rfl, by rw [ht]; exact hP, hS.F ht⟩) hS.2.2 d C.2.2.2.2.2.2.2.1
theorem x_vret (C : xC Y own cc none) (d : decode cc pc = .ok (.return_, 1)) : X Y none E E pc ls [] := by
  obtain ⟨⟨p, l, e, R, s, m, args, below, meth, c⟩, G, dom, nL⟩ := Y
  exact fun H locs lsa hP hS hl => W.vret C.1 C.2.1 C.2.2.2.2.2.2.2.2.1 (fun t ht hW => ⟨rfl, by rw [ht]; exact hP, hS.F ht⟩) hS.2.2 d C.2.2.2.2.2.2.2.1
theorem x_aret {Cn : String} (C : xC Y own cc (some (.object Cn))) (q : Option Nat) (d : decode cc pc = .ok (.areturn, 1)) : X Y (some (va_rf q)) E E pc ls [va_rf q] := by
  obtain ⟨⟨p, l, e, R, s, m, args, below, meth, c⟩, G, dom, nL⟩ := Y
  exact fun H locs lsa hP hS hl => W.aret C.1 C.2.1 C.2.2.2.2.2.2.2.2.1 (Or.inl ⟨_, rfl⟩) (by cases q with | none => exact Or.inl rfl | some a => exact Or.inr ⟨a, rfl⟩) (fun t ht hW => ⟨rfl, by rw [ht]; exact hP, hS.F ht⟩) hS.2.2 d C.2.2.2.2.2.2.2.1
end XR
/-- a method's contract out of its walk -/
theorem xMet.of {l : Launch} {y : MethodName} {cc : ByteArray} {n : Nat} {ret : Option FieldType} {rm : Room} {G : xG} {dom : xD} {av : List Value} {E E' : xE} {rv : Option Value} (hy : plainName y.cls = true) (hn : (lg_sl av).length ≤ n)
    (body : ∀ Y : xY, xl Y = l → xR Y = rm → xg Y = G → xd Y = dom → xn Y = n → xC Y y.cls cc ret → X Y rv E' E 0 (lv_args 0 av) []) : xMet l y (x_ws y cc n ret) rm G dom av E rv E' := by
  refine Met.ofW (cc := cc) (maxL := n) (ret := ret) hy rfl ?_
  intro p e s m args below meth c s₁ B hml hv
  obtain ⟨rfl, hP, hK, hJ, hNt⟩ := hv
  have hts := atoms_spec (ws := x_ws y cc n ret) B.pre
  have hown : s.vm.findClass y.cls = some m.cls := findClass_of_methodNamed B.named
  rw [lg_entry_eq]
  exact body (xY.mk p l e (headSpec (x_ws y cc n ret) rm).room s m av.toArray below meth c G dom n) rfl rfl rfl rfl rfl ⟨B.exec, B.bytes, hml, hown, fun w h => hts w (List.mem_cons_of_mem _ h), hK, hJ, B.notSynchronized, B.returns, hNt⟩ s.heap [] _ hP va_S.rf (lv_entry av hn)
section XK
variable {Y : xY} {rv : Option Value} {E' E E1 : xE} {own : String} {cc : ByteArray} {ret : Option FieldType} {pc : Nat} {ls : List (Nat × Value)} {st rest : List Value} {index : Nat} {y : MethodName} {bytes : ByteArray} {maxL : Nat} {rt : Option FieldType} {rm : Room} {As : List Value} {r1 : Option Value}
/-- behind a call: the world is the callee's -/
theorem x_run {p : Program} {l : Launch} {e : Env} {R : Room} {s : State} {m : MethodId} {args : Array Value} {below : List Frame} {meth : Method} {c : Code} {G : xG} {dom : xD} {nL : Nat} {H : Heap} {locs : List Loc} {lsa : Array Slot} {av : Array Value} (hS : va_S (xA G dom) s.heap H locs) (hl : lv_has lsa nL ls)
    (hr : va_Run p l e R s m args below meth c H locs 0 0 0 0 (F0 m pc lsa st) rest (xQ G dom r1 E1 av) (xA G dom)) (kk : X ((p, l, e, R, s, m, args, below, meth, c), G, dom, nL) rv E' E1 (pc + 3) ls (r1.toList ++ rest)) : W p l e R s m args below meth c H locs 0 0 (MQ below (xQ G dom rv E') args s 0 0 (xA G dom)) (F0 m pc lsa st) := by
  intro T hT XT
  obtain ⟨v, st₀, t, T', L, h0, X', hL, e1, e2, ⟨hv, hP1, hz, hk⟩, stp⟩ := hr T hT XT
  cases hv
  rw [h0] at hz hk
  obtain ⟨t2, a1, b1⟩ := kk T'.heap (locs ++ L) lsa (by rw [e1]; exact hP1)
    ⟨Nat.le_trans hS.1 (by rw [e1]; exact hz), fun q h1 h2 => by rw [e1, hk q (Nat.lt_of_lt_of_le h1 hS.1) h2]; exact hS.2.1 q h1 h2, fun q hq => by
      rcases List.mem_append.mp hq with h | h
      · exact hS.2.2 q h
      · exact hL q h⟩ hl T' rfl X'
  exact ⟨t2, stp t2 a1, b1⟩
theorem x_callV (C : xC Y own cc ret) (d : decode cc pc = .ok (.invokevirtual index, 3)) {k i ci n : Nat} {T : u_T} {N : Nat} {fs : List Value} (hM : xMet (xl Y) y (x_ws y bytes maxL rt) rm (xg Y) (xd Y) (.ref (xa Y k i) :: As) E r1 E1)
    (h1 : Cond.methodLink own index y ∈ gt_ws) (h2 : Cond.instanceMethod y ∈ gt_ws) (h3 : Cond.selects y.cls y y ∈ gt_ws) (h4 : Cond.initialized y.cls ∈ gt_ws) (h5 : Cond.code y bytes maxL rt ∈ gt_ws) (hc0 : rm.cells = 0 ∧ rm.slots = 0) (hd : y.cls ≠ "java/lang/invoke/MethodHandle" ∧ y.cls ≠ "java/lang/invoke/VarHandle" ∧ (parseMethodDescriptor y.desc).map (fun d => d.parameters.length) = some n)
    (hn : As.length = n) (hR : rm.frames + 1 ≤ (xR Y).frames ∧ 8 + (maxL + 11) + rm.locals ≤ (xR Y).locals) (hi : xd Y k i = true) (he : E k i = .inr (ci, fs)) (hc : vwCl[ci]? = some (y.cls, T, N)) (hst : st = As.reverse ++ .ref (xa Y k i) :: rest) (hw : (rest.map fun v => v.category).sum ≤ 8) (kk : X Y rv E' E1 (pc + 3) ls (r1.toList ++ rest)) : X Y rv E' E pc ls st := by
  obtain ⟨⟨p, l, e, R, s, m, args, below, meth, c⟩, G, dom, nL⟩ := Y
  obtain ⟨hx, hb, hml, hown, hts, hK, hJ, hlk, hrt, hNt⟩ := C
  intro H locs lsa hP hS hl
  refine x_run hS hl (va_runV (As := As) (rest := rest) (n := n) (mc := 0) (ms := 0) ⟨hx, hb, hml, hown, hts⟩ hM ⟨callB_of n hts (x_goodin h5) rfl hc0.1 hc0.2 (hts _ h4) (hts _ h1) hd hR, hts _ h2, hts _ h3⟩ ⟨xPre.blind, ?_, fun U hU hW => ⟨rfl, by rw [hU]; exact hP, va_K.moved hW.alike hK, hJ, hNt.warm hW⟩⟩ rfl hn hl.1 hst (lv_room hw) d ⟨Nat.zero_le _, Nat.zero_le _⟩) kk
  have h0 : va_P G.1 vwCl [(G.2.1 k i, E k i)] H := fun q x hx => by
    cases q with
    | zero => cases hx; exact hP k i hi
    | succ q => cases hx
  exact va_recv hK h0 (ci := ci) (q0 := 0) hc (by rw [he]; rfl)
theorem x_callVN (C : xC Y own cc ret) {host : String} (d : decode cc pc = .ok (.invokevirtual index, 3)) {k i ci n : Nat} {T : u_T} {N : Nat} {fs : List Value} (hM : xMet (xl Y) y (x_ws y bytes maxL rt) rm (xg Y) (xd Y) (.ref (xa Y k i) :: As) E r1 E1)
    (h1 : Cond.methodLinkNest own index y host ∈ nt_ws) (h2 : Cond.instanceMethod y ∈ gt_ws) (h3 : Cond.selects y.cls y y ∈ gt_ws) (h4 : Cond.initialized y.cls ∈ gt_ws) (h5 : Cond.code y bytes maxL rt ∈ gt_ws) (hc0 : rm.cells = 0 ∧ rm.slots = 0) (hd : y.cls ≠ "java/lang/invoke/MethodHandle" ∧ y.cls ≠ "java/lang/invoke/VarHandle" ∧ (parseMethodDescriptor y.desc).map (fun d => d.parameters.length) = some n)
    (hn : As.length = n) (hR : rm.frames + 1 ≤ (xR Y).frames ∧ 8 + (maxL + 11) + rm.locals ≤ (xR Y).locals) (hi : xd Y k i = true) (he : E k i = .inr (ci, fs)) (hc : vwCl[ci]? = some (y.cls, T, N)) (hst : st = As.reverse ++ .ref (xa Y k i) :: rest) (hw : (rest.map fun v => v.category).sum ≤ 8) (kk : X Y rv E' E1 (pc + 3) ls (r1.toList ++ rest)) : X Y rv E' E pc ls st := by
  obtain ⟨⟨p, l, e, R, s, m, args, below, meth, c⟩, G, dom, nL⟩ := Y
  obtain ⟨hx, hb, hml, hown, hts, hK, hJ, hlk, hrt, hNt⟩ := C
  intro H locs lsa hP hS hl
  refine x_run hS hl (va_runVN (As := As) (rest := rest) (n := n) (mc := 0) (ms := 0) (host := host) (C := y.cls) ⟨hx, hb, hml, hown, hts⟩ hM ⟨va_cnB n hts (x_goodin h5) rfl hc0.1 hc0.2 (hNt _ h1) (hts _ h4) hd hR, hts _ h2, hts _ h3⟩ ⟨xPre.blind, ?_, fun U hU hW => ⟨rfl, by rw [hU]; exact hP, va_K.moved hW.alike hK, hJ, hNt.warm hW⟩⟩ rfl hn hl.1 hst (lv_room hw) d ⟨Nat.zero_le _, Nat.zero_le _⟩) kk
  have h0 : va_P G.1 vwCl [(G.2.1 k i, E k i)] H := fun q x hx => by
    cases q with
    | zero => cases hx; exact hP k i hi
    | succ q => cases hx
  exact va_recv hK h0 (ci := ci) (q0 := 0) hc (by rw [he]; rfl)
theorem x_callS (C : xC Y own cc ret) (d : decode cc pc = .ok (.invokestatic index, 3)) {n : Nat} (hM : xMet (xl Y) y (x_ws y bytes maxL rt) rm (xg Y) (xd Y) As E r1 E1)
    (h1 : Cond.methodLink own index y ∈ gt_ws) (h2 : Cond.static y ∈ gt_ws) (h4 : Cond.initialized y.cls ∈ gt_ws) (h5 : Cond.code y bytes maxL rt ∈ gt_ws) (hc0 : rm.cells = 0 ∧ rm.slots = 0) (hd : y.cls ≠ "java/lang/invoke/MethodHandle" ∧ y.cls ≠ "java/lang/invoke/VarHandle" ∧ (parseMethodDescriptor y.desc).map (fun d => d.parameters.length) = some n)
    (hn : As.length = n) (hR : rm.frames + 1 ≤ (xR Y).frames ∧ 8 + (maxL + 11) + rm.locals ≤ (xR Y).locals) (hst : st = As.reverse ++ rest) (hw : (rest.map fun v => v.category).sum ≤ 8) (kk : X Y rv E' E1 (pc + 3) ls (r1.toList ++ rest)) : X Y rv E' E pc ls st := by
  obtain ⟨⟨p, l, e, R, s, m, args, below, meth, c⟩, G, dom, nL⟩ := Y
  obtain ⟨hx, hb, hml, hown, hts, hK, hJ, hlk, hrt, hNt⟩ := C
  intro H locs lsa hP hS hl
  exact x_run hS hl (va_runS (As := As) (rest := rest) (n := n) (mc := 0) (ms := 0) ⟨hx, hb, hml, hown, hts⟩ hM ⟨callB_of n hts (x_goodin h5) rfl hc0.1 hc0.2 (hts _ h4) (hts _ h1) hd hR, hts _ h2⟩ ⟨xPre.blind, fun U hU hW => ⟨rfl, by rw [hU]; exact hP, va_K.moved hW.alike hK, hJ, hNt.warm hW⟩⟩ rfl hn hl.1 hst (lv_room hw) d ⟨Nat.zero_le _, Nat.zero_le _⟩) kk
end XK
