/-! the history after a new act -/
section O
variable {N : Nat} {s s2 : cS} {t t1 t2 : mS}
theorem wk_hV (hA : RelA s t) {h nx : Nat} (hH : ∀ i : Nat, i < h → ActOk (hV s (vC s) nx i) (s.1 31 ((nx + 59 - i) % 60)) (am s ((nx + 59 - i) % 60)) (ak s ((nx + 59 - i) % 60)) ∧ ActN s ((nx + 59 - i) % 60) ∧ Lv (hV s (vC s) nx (i + 1)) (row t (h - 1 - i)) ∧ Wf (row t (h - 1 - i))) {i : Nat} (hi : i ≤ h) : Wf (hV s (vC s) nx i) := by
  cases i with
  | zero => exact wf_lv hA.1 hA.2.1
  | succ i => exact wf_lv (hH i (by omega)).2.2.2 (hH i (by omega)).2.2.1
theorem new_hist (hA : RelA s t) {h nx : Nat} (hh : h ≤ 60) (hx : nx < 60) (hH : ∀ i : Nat, i < h → ActOk (hV s (vC s) nx i) (s.1 31 ((nx + 59 - i) % 60)) (am s ((nx + 59 - i) % 60)) (ak s ((nx + 59 - i) % 60)) ∧ ActN s ((nx + 59 - i) % 60) ∧ Lv (hV s (vC s) nx (i + 1)) (row t (h - 1 - i)) ∧ Wf (row t (h - 1 - i)))
    (ra : ∀ j, j < 530 → row t1 (hm1 h) j = t 0 j) (rb : ∀ r, r < hm1 h → ∀ j, j < 530 → row t1 r j = row t (r + (h - hm1 h)) j)
    (e29 : s2.1 29 0 = nI ((nx + 1) % 60)) (e30 : s2.1 30 0 = nI (hm1 h + 1)) (e2 : t2 2 0 = nI (hm1 h + 1)) (e1 : t2 1 = t1 1)
    (same : ∀ a, a ≠ nx → s2.1 31 a = s.1 31 a ∧ s2.1 32 a = s.1 32 a ∧ s2.1 33 a = s.1 33 a ∧ s2.1 34 a = s.1 34 a ∧ s2.2.2 a = s.2.2 a)
    (ok : ActOk (vC s2) (s2.1 31 nx) (am s2 nx) (ak s2 nx)) (an : ActN s2 nx) (bk : Lv (tbS s2 (vC s2) nx) (t 0)) : Hist s2 t2 := by
  obtain ⟨hm59, hmh, hhm⟩ := hm1_le hh
  have slot0 : ((nx + 1) % 60 + 59 - 0) % 60 = nx := by omega
  have slot : ∀ i, i + 1 ≤ 59 → ((nx + 1) % 60 + 59 - (i + 1)) % 60 = (nx + 59 - i) % 60 ∧ (nx + 59 - i) % 60 ≠ nx := by
    intro i hi; omega
  have data : ∀ a, a ≠ nx → (∀ v, tbS s2 v a = tbS s v a) ∧ s2.1 31 a = s.1 31 a ∧ am s2 a = am s a ∧ ak s2 a = ak s a ∧ (ActN s a → ActN s2 a) := by
    intro a ha
    obtain ⟨d1, d2, d3, d4, d5⟩ := same a ha
    refine ⟨fun v => ?_, d1, ?_, ?_, fun q => ?_⟩
    · unfold tbS am ak; rw [d1, d2, d3, d4, d5]
    · unfold am; rw [d2]
    · unfold ak; rw [d3]
    · unfold ActN am ak at q ⊢; rw [d1, d2, d3]; exact q
  have row2 : row t2 = row t1 := by funext r j; unfold row; rw [e1]
  have C : ∀ i, i ≤ hm1 h → Lv (hV s2 (vC s2) ((nx + 1) % 60) (i + 1)) (hV s (vC s) nx i) := by
    intro i
    induction i with
    | zero =>
      intro _
      show Lv (tbS s2 (vC s2) (((nx + 1) % 60 + 59 - 0) % 60)) (vC s)
      rw [slot0]
      exact bk.tr hA.2.1.sy
    | succ i ih =>
      intro hi
      have ih := ih (by omega)
      obtain ⟨s1, s3⟩ := slot i (by omega)
      show Lv (tbS s2 (hV s2 (vC s2) ((nx + 1) % 60) (i + 1)) (((nx + 1) % 60 + 59 - (i + 1)) % 60)) (tbS s (hV s (vC s) nx i) ((nx + 59 - i) % 60))
      rw [s1, (data _ s3).1]
      exact tb_lv ih (wk_hV hA hH (show i ≤ h by omega)).wk (hH i (by omega)).1
  refine ⟨hm1 h + 1, (nx + 1) % 60, by omega, by omega, e30, e29, e2, fun i hi => ?_⟩
  rw [row2]
  cases i with
  | zero =>
    rw [slot0]
    have hr : Lv (row t1 (hm1 h)) (t 0) := row_cg hA.1 ra
    refine ⟨ok, an, ?_, ?_⟩
    · have := (C 0 (Nat.zero_le _)).tr (hA.2.1.tr hr.sy)
      exact this
    · exact wf_lv hA.1 hr
  | succ i =>
    obtain ⟨s1, s3⟩ := slot i (by omega)
    obtain ⟨d0, d1, d2, d3, d4⟩ := data _ s3
    obtain ⟨o1, o2, o3, o4⟩ := hH i (by omega)
    have hr : Lv (row t1 (hm1 h + 1 - 1 - (i + 1))) (row t (h - 1 - i)) := by
      refine row_cg o4 (fun j hj => ?_)
      rw [rb _ (by omega) j hj]
      congr 1
      omega
    rw [s1]
    refine ⟨?_, d4 o2, ?_, wf_lv o4 hr⟩
    · rw [d1, d2, d3]
      exact o1.lv (C i (by omega))
    · exact (C (i + 1) (by omega)).tr (o3.tr hr.sy)
/-- METERS and PARTS that were there are there still -/
theorem RFault.grow (h : RFault s t) (e : ∀ f, f = 2 ∨ f = 19 ∨ f = 20 ∨ f = 21 → s2.1 f = s.1 f) (e' : ∀ f, f = 11 ∨ f = 7 ∨ f = 8 ∨ f = 9 → t2 f = t f) (g : ∀ m, m < vM (t 0) → m < vM (t2 0) ∧ vcn (t 0) m ≤ vcn (t2 0) m) : RFault s2 t2 := by
  obtain ⟨n, hn, h1, h2, h3⟩ := h
  refine ⟨n, hn, ?_⟩
  rw [e 2 (by omega), e 19 (by omega), e 20 (by omega), e 21 (by omega), e' 11 (by omega), e' 7 (by omega), e' 8 (by omega), e' 9 (by omega)]
  refine ⟨h1, h2, fun i hi => ?_⟩
  obtain ⟨g1, g2, g3, g4, m, k, g5, g6, g7, g8⟩ := h3 i hi
  have := g m g7
  exact ⟨g1, g2, g3, g4, m, k, g5, g6, this.1, by omega⟩
/-- all of it, after an act: the class's bench and the place's old value are new -/
theorem act_rel (hN : 40000 ≤ N) (h : Rel s t) (p1 p2 p3 : Int32) : ∃ nx s1 t1, nx < 60 ∧ f8_newAct N p1 p2 p3 (cu s 3 0 0) = some (some nx, s1) ∧ f9_act N t = some t1 ∧ (∀ f, f ≠ 3 → f ≠ 4 → f ≠ 29 → f ≠ 30 → f ≠ 31 → f ≠ 32 → f ≠ 33 → s1.1 f = s.1 f) ∧ s1.2 = s.2 ∧ (∀ f, f ≠ 1 → f ≠ 2 → f ≠ 3 → t1 f = t f) ∧ t1 3 0 = 0 ∧ s1.1 31 nx = p1 ∧ s1.1 32 nx = p2 ∧ s1.1 33 nx = p3 ∧
    ∀ s2 t2, (∀ f, f = 3 ∨ f = 2 ∨ f = 4 ∨ (16 ≤ f ∧ f ≤ 18) ∨ (19 ≤ f ∧ f ≤ 21) ∨ (29 ≤ f ∧ f ≤ 33) → s2.1 f = s1.1 f) → (∀ a, a ≠ nx → s2.1 34 a = s1.1 34 a ∧ s2.2.2 a = s1.2.2 a) → (∀ f, f ≠ 0 → t2 f = t1 f) → Wf (t2 0) → Lv (vC s2) (t2 0) → (∀ m, m < vM (t 0) → m < vM (t2 0) ∧ vcn (t 0) m ≤ vcn (t2 0) m) → ActOk (vC s2) (s2.1 31 nx) (am s2 nx) (ak s2 nx) → ActN s2 nx → Lv (tbS s2 (vC s2) nx) (t 0) → Rel s2 t2 := by
  obtain ⟨hA, hT⟩ := h
  obtain ⟨hw, hl, h3, hno, hfa, hq, nx, hh, hx, q1, q2, q3, hH⟩ := id hA
  obtain ⟨s1, a1, a2', a3, a4, a5, a6, a7, a8, a9, a10⟩ := newAct_some (s := cu s 3 0 0) N hh hx (by rw [cu_ne _ _ _ (show 30 ≠ 3 by omega)]; exact q1) (by rw [cu_ne _ _ _ (show 29 ≠ 3 by omega)]; exact q2) p1 p2 p3
  have a2 : ∀ f, f ≠ 3 → f ≠ 4 → f ≠ 29 → f ≠ 30 → f ≠ 31 → f ≠ 32 → f ≠ 33 → s1.1 f = s.1 f := fun f x3 x4 x29 x30 x31 x32 x33 => by rw [a2' f x4 x29 x30 x31 x32 x33, cu_ne _ _ _ x3]
  have a33 : s1.1 3 0 = 0 := by rw [a2' 3 (by omega) (by omega) (by omega) (by omega) (by omega) (by omega), cu_at]
  have a3 : s1.2 = s.2 := a3
  obtain ⟨t1, b1, b2, b3, b4, b5, b6⟩ := act_some hN hh q3
  refine ⟨nx, s1, t1, hx, a1, b1, a2, a3, b2, b3, a7, a8, a9, fun s2 t2 c1 c2 c3 c5 c6 c7 c8 c9 c10 => ?_⟩
  have f1 : ∀ f, f = 2 ∨ (16 ≤ f ∧ f ≤ 18) ∨ (19 ≤ f ∧ f ≤ 21) → s2.1 f = s.1 f := fun f hf => by
    rw [c1 f (by omega), a2 f (by omega) (by omega) (by omega) (by omega) (by omega) (by omega) (by omega)]
  have f2 : ∀ f, f ≠ 0 → f ≠ 1 → f ≠ 2 → f ≠ 3 → t2 f = t f := fun f x0 x1 x2 x3 => by rw [c3 f x0, b2 f x1 x2 x3]
  refine ⟨⟨c5, c6, ?_, hno.fr (fun f hf => f1 f (by omega)) (fun f hf => f2 f (by omega) (by omega) (by omega) (by omega)), hfa.grow (fun f hf => f1 f (by omega)) (fun f hf => f2 f (by omega) (by omega) (by omega) (by omega)) c7, ?_⟩, Or.inl ?_⟩
  · rw [c1 3 (by omega), a33, c3 3 (by omega), b3]
  · refine new_hist hA hh hx hH b5 b6 ?_ ?_ ?_ (c3 1 (by omega)) (fun a ha => ?_) c8 c9 c10
    · rw [c1 29 (by omega)]; exact a5
    · rw [c1 30 (by omega)]; exact a6
    · rw [c3 2 (by omega)]; exact b4
    · obtain ⟨d1, d2, d3⟩ := a10 a ha
      obtain ⟨d4, d5⟩ := c2 a ha
      rw [cu_ne _ _ _ (show 31 ≠ 3 by omega)] at d1
      rw [cu_ne _ _ _ (show 32 ≠ 3 by omega)] at d2
      rw [cu_ne _ _ _ (show 33 ≠ 3 by omega)] at d3
      refine ⟨by rw [c1 31 (by omega), d1], by rw [c1 32 (by omega), d2], by rw [c1 33 (by omega), d3], ?_, by rw [d5, a3]⟩
      rw [d4, a2 34 (by omega) (by omega) (by omega) (by omega) (by omega) (by omega) (by omega)]
  · rw [c1 4 (by omega)]; exact a4
end O
