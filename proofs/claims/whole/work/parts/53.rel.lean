/-! THE RELATION between the class's state and the reference's -/
def bnd (b : Int) (x : Int32) : Prop := -b ≤ x.toInt ∧ x.toInt ≤ b
def vM (v : Nat → Int32) : Nat := (v 1).toNatClampNeg
/-- a bench whose numbers are in their bounds (v: the reference's row 'now') -/
def Wf (v : Nat → Int32) : Prop := (∃ T : Nat, 1 ≤ T ∧ T ≤ 4095 ∧ v 0 = nI T) ∧ (∃ M : Nat, M ≤ 8 ∧ v 1 = nI M) ∧ ∀ m : Nat, m < vM v → (∃ K : Nat, K ≤ 4 ∧ v (2 + m) = nI K) ∧ (∃ C : Nat, C ≤ 16 ∧ v (10 + m) = nI C) ∧ ∀ k : Nat, k < vcn v m → bnd 8000 (v (pa m k)) ∧ bnd 500 (v (pa m k + 1)) ∧ bnd 8500 (v (pa m k + 2)) ∧ bnd 8000 (v (pa m k + 3))
/-- two benches that agree in all that is there -/
def Lv (a b : Nat → Int32) : Prop := a 0 = b 0 ∧ a 1 = b 1 ∧ ∀ m : Nat, m < vM b → a (2 + m) = b (2 + m) ∧ a (10 + m) = b (10 + m) ∧ ∀ k : Nat, k < vcn b m → ∀ c : Nat, c < 4 → a (pa m k + c) = b (pa m k + c)
/-- the class's bench as such a row -/
def vC (s : cS) : Nat → Int32 := fun j => if j = 0 then s.1 0 0 else if j = 1 then s.1 1 0 else if j < 10 then s.1 5 (j - 2) else if j < 18 then s.1 6 (j - 10) else s.1 (10 + (j - 18) % 4) ((j - 18) / 4)
def vput (v : Nat → Int32) (i : Nat) (x : Int32) : Nat → Int32 := fun j => if j = i then x else v j
/-- WORTHS of METER m's first C PARTS become w -/
def tbw (v : Nat → Int32) (m C : Nat) (w : Nat → Int32) : Nat → Int32 := fun j => if pa m 0 ≤ j ∧ j < pa m C ∧ (j - 18) % 4 = 2 then w ((j - pa m 0) / 4) else v j
/-- an act taken back -/
def tb (v : Nat → Int32) (what : Int32) (m k : Nat) (old : Int32) (w : Nat → Int32) : Nat → Int32 :=
  if what = 0 then vput v 0 old
  else if what = 1 then vput v 1 (v 1 - 1)
  else if what = 2 then tbw (vput v (10 + m) (v (10 + m) - 1)) m (vcn v m - 1) w
  else if what = 3 then vput v (pa m k + 1) old
  else if what = 4 then vput v (pa m k + 2) old
  else tbw v m (vcn v m) w
def ActOk (v : Nat → Int32) (what : Int32) (m k : Nat) : Prop :=
  what = 0 ∨ (what = 1 ∧ 0 < vM v) ∨ (what = 2 ∧ m < vM v ∧ 0 < vcn v m) ∨ ((what = 3 ∨ what = 4) ∧ m < vM v ∧ k < vcn v m) ∨ (what = 5 ∧ m < vM v)
def am (s : cS) (a : Nat) : Nat := (s.1 32 a).toNatClampNeg
def ak (s : cS) (a : Nat) : Nat := (s.1 33 a).toNatClampNeg
def tbS (s : cS) (v : Nat → Int32) (a : Nat) : Nat → Int32 := tb v (s.1 31 a) (am s a) (ak s a) (s.1 34 a) (s.2.2 a)
/-- the bench before the latest i acts; the next act's place is nx -/
def hV (s : cS) (v : Nat → Int32) (nx : Nat) : Nat → Nat → Int32
  | 0 => v
  | i + 1 => tbS s (hV s v nx i) ((nx + 59 - i) % 60)
def row (t : mS) (r : Nat) : Nat → Int32 := fun j => t 1 (530 * r + j)
/-- an act's METER and PART are numbers -/
def ActN (s : cS) (a : Nat) : Prop := s.1 31 a = 0 ∨ s.1 31 a = 1 ∨ (s.1 32 a = nI (am s a) ∧ (s.1 31 a = 2 ∨ s.1 31 a = 5 ∨ s.1 33 a = nI (ak s a)))
def Hist (s : cS) (t : mS) : Prop := ∃ h nx : Nat, h ≤ 60 ∧ nx < 60 ∧ s.1 30 0 = nI h ∧ s.1 29 0 = nI nx ∧ t 2 0 = nI h ∧ ∀ i : Nat, i < h → ActOk (hV s (vC s) nx i) (s.1 31 ((nx + 59 - i) % 60)) (am s ((nx + 59 - i) % 60)) (ak s ((nx + 59 - i) % 60)) ∧ ActN s ((nx + 59 - i) % 60) ∧ Lv (hV s (vC s) nx (i + 1)) (row t (h - 1 - i)) ∧ Wf (row t (h - 1 - i))
def RNoise (s : cS) (t : mS) : Prop := ∃ h : Nat, h ≤ 8 ∧ s.1 16 0 = nI h ∧ t 10 0 = nI h ∧ ∀ i : Nat, i < h → s.1 17 i = t 5 i ∧ s.1 18 i = t 6 i ∧ bnd 100 (t 5 i) ∧ 1 ≤ (t 6 i).toInt ∧ (t 6 i).toInt ≤ 1000
def RFault (s : cS) (t : mS) : Prop := ∃ F : Nat, F ≤ 10 ∧ s.1 2 0 = nI F ∧ t 11 0 = nI F ∧ ∀ i : Nat, i < F → s.1 19 i = t 7 i ∧ s.1 20 i = t 8 i ∧ s.1 21 i = t 9 i ∧ bnd 500 (t 9 i) ∧ ∃ m k : Nat, t 7 i = nI m ∧ t 8 i = nI k ∧ m < vM (t 0) ∧ k < vcn (t 0) m
def RelA (s : cS) (t : mS) : Prop := Wf (t 0) ∧ Lv (vC s) (t 0) ∧ s.1 3 0 = t 3 0 ∧ RNoise s t ∧ RFault s t ∧ Hist s t
/-- the class's row of codes is that of the METER it names -/
def Tab (s : cS) (t : mS) : Prop := s.1 4 0 = -1 ∨ ∃ m : Nat, m < vM (t 0) ∧ s.1 4 0 = nI m ∧ s.1 14 0 = t 0 0 ∧ ∀ x : Nat, x ≤ (t 0 0).toNatClampNeg → s.1 15 x = (cdq (t 0) m (nI x)).1
def Rel (s : cS) (t : mS) : Prop := RelA s t ∧ Tab s t
-- what counts of a state
def eC (f : Nat) : Prop := f ≠ 4 ∧ f ≠ 7 ∧ f ≠ 8 ∧ f ≠ 9 ∧ f ≠ 14 ∧ f ≠ 15 ∧ (f < 22 ∨ 28 < f)
def eM (f : Nat) : Prop := f < 12 ∧ f ≠ 4
theorem vC_congr {s s' : cS} (hs : ∀ f, eC f → s'.1 f = s.1 f) : vC s' = vC s := by
  funext j
  unfold vC
  rw [hs 0 (by unfold eC; omega), hs 1 (by unfold eC; omega), hs 5 (by unfold eC; omega), hs 6 (by unfold eC; omega), hs (10 + (j - 18) % 4) (by unfold eC; omega)]
theorem hV_congr {s s' : cS} (hs : ∀ f, eC f → s'.1 f = s.1 f) (hw : s'.2.2 = s.2.2) (v : Nat → Int32) (nx : Nat) : ∀ i, hV s' v nx i = hV s v nx i := by
  intro i
  induction i with
  | zero => rfl
  | succ i ih =>
    simp only [hV, tbS, am, ak]
    rw [ih, hw, hs 31 (by unfold eC; omega), hs 32 (by unfold eC; omega), hs 33 (by unfold eC; omega), hs 34 (by unfold eC; omega)]
theorem RelA.of {s s' : cS} {t t' : mS} (h : RelA s t) (hs : ∀ f, eC f → s'.1 f = s.1 f) (hw : s'.2.2 = s.2.2) (ht : ∀ f, eM f → t' f = t f) : RelA s' t' := by
  obtain ⟨h1, h2, h3, ⟨n, hn⟩, ⟨F, hF⟩, ⟨hh, nx, hH⟩⟩ := h
  have t0 := ht 0 (by unfold eM; omega)
  have t1 := ht 1 (by unfold eM; omega)
  have hrow : row t' = row t := by funext r j; unfold row; rw [t1]
  refine ⟨by rw [t0]; exact h1, by rw [t0, vC_congr hs]; exact h2, by rw [hs 3 (by unfold eC; omega), ht 3 (by unfold eM; omega)]; exact h3, ⟨n, ?_⟩, ⟨F, ?_⟩, ⟨hh, nx, ?_⟩⟩
  · rw [hs 16 (by unfold eC; omega), hs 17 (by unfold eC; omega), hs 18 (by unfold eC; omega), ht 10 (by unfold eM; omega), ht 5 (by unfold eM; omega), ht 6 (by unfold eM; omega)]
    exact hn
  · rw [hs 2 (by unfold eC; omega), hs 19 (by unfold eC; omega), hs 20 (by unfold eC; omega), hs 21 (by unfold eC; omega), ht 11 (by unfold eM; omega), ht 7 (by unfold eM; omega), ht 8 (by unfold eM; omega), ht 9 (by unfold eM; omega), t0]
    exact hF
  · unfold ActN am ak
    simp only [vC_congr hs, hV_congr hs hw, hs 29 (by unfold eC; omega), hs 30 (by unfold eC; omega), hs 31 (by unfold eC; omega), hs 32 (by unfold eC; omega), hs 33 (by unfold eC; omega), ht 2 (by unfold eM; omega), hrow]
    exact hH
-- reading changes code, TRAIL and REST alone
def Sc (s s' : cS) : Prop := (∀ f, f ≠ 7 → f ≠ 8 → f ≠ 9 → s'.1 f = s.1 f) ∧ s'.2 = s.2
def Sm (t t' : mS) : Prop := ∀ f, f ≠ 4 → f ≠ 12 → f ≠ 13 → f ≠ 14 → t' f = t f
theorem Sc.rf (s : cS) : Sc s s := ⟨fun _ _ _ _ => rfl, rfl⟩
theorem Sm.rf (t : mS) : Sm t t := fun _ _ _ _ _ => rfl
theorem Sc.tr {a b c : cS} (h1 : Sc a b) (h2 : Sc b c) : Sc a c := ⟨fun f x y z => (h2.1 f x y z).trans (h1.1 f x y z), h2.2.trans h1.2⟩
theorem Sm.tr {a b c : mS} (h1 : Sm a b) (h2 : Sm b c) : Sm a c := fun f w x y z => (h2 f w x y z).trans (h1 f w x y z)
theorem sc_c3 (s : cS) (o : Nat) (c d r : Int32) : Sc s (c3 s o c d r) := ⟨fun f x y z => by funext i; exact c3_o s o c d r (by omega) i, rfl⟩
theorem sm_m3 (t : mS) (c d r : Int32) : Sm t (m3 t c d r) := fun f w x y z => by funext i; exact m3_o t c d r (by omega) i
theorem Sm.thrown (t : mS) (v : Int32) : Sm t (mu t 4 0 v) := fun f w _ _ _ => by funext i; rw [mu_rd, if_neg (fun q => w q.1)]
theorem Rel.sc {s s' : cS} {t t' : mS} (h : Rel s t) (hs : Sc s s') (ht : Sm t t') : Rel s' t' := by
  refine ⟨h.1.of (fun f hf => hs.1 f hf.2.1 hf.2.2.1 hf.2.2.2.1) (by rw [hs.2]) (fun f hf => ht f hf.2 (by have := hf.1; omega) (by have := hf.1; omega) (by have := hf.1; omega)), ?_⟩
  have := h.2
  unfold Tab at this ⊢
  rw [hs.1 4 (by omega) (by omega) (by omega), hs.1 14 (by omega) (by omega) (by omega), hs.1 15 (by omega) (by omega) (by omega), ht 0 (by omega) (by omega) (by omega) (by omega)]
  exact this
theorem RelA.sc {s s' : cS} {t t' : mS} (h : RelA s t) (hs : Sc s s') (ht : Sm t t') : RelA s' t' := h.of (fun f hf => hs.1 f hf.2.1 hf.2.2.1 hf.2.2.2.1) (by rw [hs.2]) (fun f hf => ht f hf.2 (by have := hf.1; omega) (by have := hf.1; omega) (by have := hf.1; omega))
-- both tell the same of a number
theorem vC_pa (s : cS) (m k c : Nat) (hc : c < 4) : vC s (pa m k + c) = s.1 (10 + c) (16 * m + k) := by
  unfold vC pa
  rw [if_neg (by omega), if_neg (by omega), if_neg (by omega), if_neg (by omega)]
  rw [show (18 + 4 * (16 * m + k) + c - 18) % 4 = c by omega, show (18 + 4 * (16 * m + k) + c - 18) / 4 = 16 * m + k by omega]
theorem vC_2 (s : cS) {m : Nat} (hm : m < 8) : vC s (2 + m) = s.1 5 m := by
  unfold vC
  rw [if_neg (by omega), if_neg (by omega), if_pos (by omega)]
  rw [show 2 + m - 2 = m by omega]
theorem vC_10 (s : cS) {m : Nat} (hm : m < 8) : vC s (10 + m) = s.1 6 m := by
  unfold vC
  rw [if_neg (by omega), if_neg (by omega), if_neg (by omega), if_pos (by omega)]
  rw [show 10 + m - 10 = m by omega]
/-- RANGE and METERS of both -/
theorem RelA.base {s : cS} {t : mS} (h : RelA s t) : ∃ T M : Nat, 1 ≤ T ∧ T ≤ 4095 ∧ M ≤ 8 ∧ s.1 0 0 = nI T ∧ t 0 0 = nI T ∧ s.1 1 0 = nI M ∧ t 0 1 = nI M ∧ vM (t 0) = M ∧ (t 0 0).toNatClampNeg = T := by
  obtain ⟨⟨⟨T, hT1, hT2, eT⟩, ⟨M, hM, eM⟩, -⟩, ⟨l0, l1, -⟩, -⟩ := h
  exact ⟨T, M, hT1, hT2, hM, l0.trans eT, eT, l1.trans eM, eM, by unfold vM; rw [eM, nI_clamp (by omega)], by rw [eT, nI_clamp (by omega)]⟩
theorem wf_mOk {v : Nat → Int32} (h : Wf v) {m : Nat} (hm : m < vM v) : mOk v m := by
  obtain ⟨-, ⟨M, hM, eM⟩, h3⟩ := h
  have hv : vM v = M := by unfold vM; rw [eM, nI_clamp (by omega)]
  exact ⟨by omega, (h3 m hm).1, (h3 m hm).2.1⟩
theorem Wf.cn {v : Nat → Int32} (h : Wf v) {m : Nat} (hm : m < vM v) : vcn v m ≤ 16 ∧ v (10 + m) = nI (vcn v m) := by
  obtain ⟨-, -, C, hC, eC⟩ := (wf_mOk h hm)
  unfold vcn
  rw [eC, nI_clamp (by omega)]
  exact ⟨hC, rfl⟩
theorem RelA.part {s : cS} {t : mS} (h : RelA s t) {m : Nat} (hm : m < vM (t 0)) {k : Nat} (hk : k < vcn (t 0) m) : s.1 10 (16 * m + k) = t 0 (pa m k) ∧ s.1 11 (16 * m + k) = t 0 (pa m k + 1) ∧ s.1 12 (16 * m + k) = t 0 (pa m k + 2) ∧ s.1 13 (16 * m + k) = t 0 (pa m k + 3) := by
  have hl := (h.2.1.2.2 m hm).2.2 k hk
  refine ⟨?_, ?_, ?_, ?_⟩
  · have := hl 0 (by omega); rw [vC_pa s m k 0 (by omega)] at this; exact this
  · have := hl 1 (by omega); rw [vC_pa s m k 1 (by omega)] at this; exact this
  · have := hl 2 (by omega); rw [vC_pa s m k 2 (by omega)] at this; exact this
  · have := hl 3 (by omega); rw [vC_pa s m k 3 (by omega)] at this; exact this
theorem RelA.meter {s : cS} {t : mS} (h : RelA s t) {m : Nat} (hm : m < vM (t 0)) : m < 8 ∧ s.1 5 m = t 0 (2 + m) ∧ s.1 6 m = t 0 (10 + m) := by
  have hk := (wf_mOk h.1 hm)
  have hl := h.2.1.2.2 m hm
  exact ⟨hk.1, by rw [← vC_2 s hk.1]; exact hl.1, by rw [← vC_10 s hk.1]; exact hl.2.1⟩
theorem relA_cOk {s : cS} {t : mS} (h : RelA s t) {m : Nat} (hm : m < vM (t 0)) : cOk s m (vcn (t 0) m) := by
  have hk := (wf_mOk h.1 hm)
  have hc := h.1.cn hm
  have hme := h.meter hm
  refine ⟨hk.1, hc.1, by rw [hme.2.2]; exact hc.2, by rw [hme.2.1]; exact hk.2.1, fun j hj => ?_⟩
  have hp := h.part hm hj
  have hb := (h.1.2.2 m hm).2.2 j hj
  unfold sis
  rw [hp.1, hp.2.1]
  obtain ⟨⟨b1, b2⟩, ⟨b3, b4⟩, -⟩ := hb
  rw [fb_addI (by omega) (by omega)]
  omega
theorem RelA.same {s : cS} {t : mS} (h : RelA s t) {m : Nat} (hm : m < vM (t 0)) (x : Int32) : ccq s m (vcn (t 0) m) x = cdq (t 0) m x := by
  unfold ccq cdq
  rw [(h.meter hm).2.1]
  refine rdS_congr _ _ _ (fun k hk => ?_)
  have hp := h.part hm hk
  exact ⟨by unfold sis vis; rw [hp.1, hp.2.1], by unfold swo vwo; rw [hp.2.2.1], by unfold sbo vbo; rw [hp.2.2.2]⟩
theorem sc_cOk {s s' : cS} (hs : Sc s s') {m C : Nat} (h : cOk s m C) : cOk s' m C := by
  unfold cOk sis at h ⊢
  rw [hs.1 6 (by omega) (by omega) (by omega), hs.1 5 (by omega) (by omega) (by omega), hs.1 10 (by omega) (by omega) (by omega), hs.1 11 (by omega) (by omega) (by omega)]
  exact h
theorem sc_ccq {s s' : cS} (hs : Sc s s') (m C : Nat) (x : Int32) : ccq s' m C x = ccq s m C x := by
  unfold ccq
  have e1 : sis s' = sis s := by funext a b; unfold sis; rw [hs.1 10 (by omega) (by omega) (by omega), hs.1 11 (by omega) (by omega) (by omega)]
  have e2 : swo s' = swo s := by funext a b; unfold swo; rw [hs.1 12 (by omega) (by omega) (by omega)]
  have e3 : sbo s' = sbo s := by funext a b; unfold sbo; rw [hs.1 13 (by omega) (by omega) (by omega)]
  rw [e1, e2, e3, hs.1 5 (by omega) (by omega) (by omega)]
/-- the class's answer, from any state that differs in code, TRAIL, REST alone -/
theorem c_code {N : Nat} (hN : 100 ≤ N) {s : cS} {t : mS} (h : RelA s t) {m : Nat} (hm : m < vM (t 0)) {x : Int32} (hx : -1000000 ≤ x.toInt ∧ x.toInt ≤ 1000000) {s' : cS} (hs : Sc s s') : ∃ s'', Sc s s'' ∧ f3_codeOf N m x s' = some ((cdq (t 0) m x).1, s'') ∧ s''.1 8 m = (cdq (t 0) m x).2.1 ∧ s''.1 9 m = (cdq (t 0) m x).2.2.1 := by
  refine ⟨_, hs.tr (sc_c3 s' m (cdq (t 0) m x).1 (cdq (t 0) m x).2.1 (cdq (t 0) m x).2.2.1), ?_, c3_8 _ _ _ _ _, c3_9 _ _ _ _ _⟩
  rw [codeOf_some hN (sc_cOk hs (relA_cOk h hm)) hx, sc_ccq hs, h.same hm]
theorem m_reads {N : Nat} (hN : 100 ≤ N) {t : mS} {m : Nat} (h : mOk (t 0) m) (x : Int32) {t' : mS} (ht : Sm t t') : ∃ t'', Sm t t'' ∧ f9_reads N (nI m) x t' = some t'' ∧ t'' 12 0 = (cdq (t 0) m x).1 ∧ t'' 13 0 = (cdq (t 0) m x).2.1 ∧ t'' 14 0 = (cdq (t 0) m x).2.2.1 := by
  have e : t' 0 = t 0 := ht 0 (by omega) (by omega) (by omega) (by omega)
  rw [← e] at h
  refine ⟨_, ht.tr (sm_m3 t' (cdq (t 0) m x).1 (cdq (t 0) m x).2.1 (cdq (t 0) m x).2.2.1), ?_, m3_12 _ _ _ _, m3_13 _ _ _ _, m3_14 _ _ _ _⟩
  rw [reads_some hN h, e]
theorem m_code {N : Nat} (hN : 100 ≤ N) {t : mS} {m : Nat} (h : mOk (t 0) m) (x : Int32) {t' : mS} (ht : Sm t t') : ∃ t'', Sm t t'' ∧ f9_codeOf N (nI m) x t' = some ((cdq (t 0) m x).1, t'') := by
  obtain ⟨t'', h1, h2, h3, -, -⟩ := m_reads hN h x ht
  exact ⟨t'', h1, by unfold f9_codeOf; rw [h2]; simp only [Option.bind_some, h3]⟩
