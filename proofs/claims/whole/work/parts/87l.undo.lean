section O
variable {N : Nat} {s : cS} {t : mS}
theorem latest_place {x : Nat} (hx : x < 60) : nI x + 60 - 1 - (nI x + 60 - 1) / 60 * 60 = nI ((x + 59) % 60) := by
  rw [show nI x + 60 = nI (x + 60) from nI_add x 60, show nI (x + 60) - 1 = nI (x + 59) from nI_pred (x + 59)]
  exact pk_rem (a := x + 59) (d := 60) (by omega) (by omega) (by omega)
theorem o_undo (hN : 40000 ≤ N) (h : Rel s t) : ∃ r s1 t1, f8_undo N s = some (r, s1) ∧ f9_undo N t = some (r, t1) ∧ Rel s1 t1 := by
  have h := h.thrown
  unfold f8_undo f9_undo
  generalize mu t 4 0 0 = t at h ⊢
  obtain ⟨hA, hT⟩ := h
  obtain ⟨hw, hl, h3, hno, hfa, hq, nx, hh, hx, q1, q2, q3, hH⟩ := id hA
  unfold f6_latest
  rw [q1, q3]
  cases hq with
  | zero =>
    rw [if_pos (show nI 0 ≤ (0 : Int32) from Int32.le_refl _), if_pos (show nI 0 = 0 from rfl)]
    exact ⟨_, _, _, rfl, rfl, ⟨hA, hT⟩⟩
  | succ e =>
    have n0 : ¬ nI (e + 1) ≤ (0 : Int32) := nI_ge (a := 0) (by omega) (by omega)
    rw [if_neg n0, if_neg (nI_ne0 (by omega) (by omega)), nI_pred]
    unfold f6_latestPlace f6_slotAt
    simp only [Option.bind_some]
    rw [q2, latest_place hx]
    have ha : (nx + 59) % 60 < 60 := by omega
    have hi := ix ((nx + 59) % 60) 60 ha (by omega)
    rw [if_neg (nI_pos (by omega)), if_neg (show ¬ (60 : Int32) ≤ nI ((nx + 59) % 60) from nI_ge (b := 60) ha (by omega)), if_pos hi.1, hi.2]
    simp only [Option.bind_some]
    obtain ⟨ok, an, bk, wr⟩ := hH 0 (by omega)
    rw [show (nx + 59 - 0) % 60 = (nx + 59) % 60 from rfl] at ok an
    have bk : Lv (tbS s (vC s) ((nx + 59) % 60)) (row t e) := bk
    have wr : Wf (row t e) := wr
    generalize hna : (nx + 59) % 60 = a at ha hi ok an bk ⊢
    obtain ⟨s2, a1, a2, a3, a4⟩ := take_some (N := N) (by omega) hA ha ok an
    rw [a1]
    simp only [Option.bind_some]
    have s30 : s2.1 30 0 = nI (e + 1) := by rw [a2 30 (by omega) (by omega) (by omega) (by omega) (by omega)]; exact q1
    have s29 : s2.1 29 0 = nI nx := by rw [a2 29 (by omega) (by omega) (by omega) (by omega) (by omega)]; exact q2
    have dl : f6_dropLatest N s2 = some (cu (cu s2 29 0 (nI a)) 30 0 (nI e)) := by
      unfold f6_dropLatest f6_latestPlace
      rw [s30, if_neg n0]
      simp only [Option.bind_some]
      rw [s29, latest_place hx, hna, cu_ne _ _ _ (show 30 ≠ 29 by omega), s30, nI_pred]
    rw [dl]
    simp only [Option.bind_some]
    obtain ⟨t1, b1, b2, b3⟩ := copy_some (N := N) (t := mu t 2 0 (nI e)) hN (show e < 60 by omega) (mu_at _ _ _ _)
    rw [b1]
    have rw1 : row (mu t 2 0 (nI e)) = row t := by
      funext r j; unfold row; rw [mu_ne _ _ _ (show 1 ≠ 2 by omega)]
    rw [rw1] at b3
    have lr : Lv (t1 0) (row t e) := row_cg wr b3
    have w1 : Wf (t1 0) := wf_lv wr lr
    have t1f : ∀ f, f ≠ 0 → f ≠ 2 → t1 f = t f := fun f x0 x2 => by rw [b2 f x0, mu_ne _ _ _ x2]
    have t12 : t1 2 0 = nI e := by rw [b2 2 (by omega)]; exact mu_at _ _ _ _
    have s3f : ∀ f, f ≠ 29 → f ≠ 30 → (cu (cu s2 29 0 (nI a)) 30 0 (nI e)).1 f = s2.1 f := fun f x29 x30 => by rw [cu_ne _ _ _ x30, cu_ne _ _ _ x29]
    have v3 : vC (cu (cu s2 29 0 (nI a)) 30 0 (nI e)) = tbS s (vC s) a := by
      rw [vC_fr (s := s2) (fun f hf => s3f f (by omega) (by omega))]; exact a4
    have e29 : (cu (cu s2 29 0 (nI a)) 30 0 (nI e)).1 29 0 = nI a := by rw [cu_ne _ _ _ (show 29 ≠ 30 by omega), cu_at]
    have e30 : (cu (cu s2 29 0 (nI a)) 30 0 (nI e)).1 30 0 = nI e := cu_at _ _ _ _
    have l3 : Lv (vC (cu (cu s2 29 0 (nI a)) 30 0 (nI e))) (t1 0) := by rw [v3]; exact bk.tr lr.sy
    have e2 : (cu (cu s2 29 0 (nI a)) 30 0 (nI e)).2 = s.2 := a3
    have sf : ∀ f, f ≠ 0 → f ≠ 1 → f ≠ 6 → f ≠ 11 → f ≠ 12 → f ≠ 29 → f ≠ 30 → (cu (cu s2 29 0 (nI a)) 30 0 (nI e)).1 f = s.1 f := fun f x0 x1 x6 x11 x12 x29 x30 => by rw [s3f f x29 x30, a2 f x0 x1 x6 x11 x12]
    generalize cu (cu s2 29 0 (nI a)) 30 0 (nI e) = s3 at v3 e29 e30 l3 e2 sf ⊢
    obtain ⟨F, hF, f1, f2, f3⟩ := hfa
    obtain ⟨s4, t4, c1, c2, c3, c4, c5, c6⟩ := drop_some (N := N) (s := s3) (t := t1) (by omega) hF (by rw [sf 2 (by omega) (by omega) (by omega) (by omega) (by omega) (by omega) (by omega)]; exact f1) (by rw [t1f 11 (by omega) (by omega)]; exact f2) (fun i hi => by
      obtain ⟨g1, g2, g3, g4, -⟩ := f3 i hi
      unfold FsB
      rw [sf 19 (by omega) (by omega) (by omega) (by omega) (by omega) (by omega) (by omega), sf 20 (by omega) (by omega) (by omega) (by omega) (by omega) (by omega) (by omega), sf 21 (by omega) (by omega) (by omega) (by omega) (by omega) (by omega) (by omega), t1f 7 (by omega) (by omega), t1f 8 (by omega) (by omega), t1f 9 (by omega) (by omega)]
      exact ⟨g1, g2, g3, g4⟩) w1 l3
    rw [c1, c2]
    simp only [Option.bind_some]
    have k4 : ∀ f, f ≠ 4 → (cu s4 4 0 (-1)).1 f = s4.1 f := fun f hf => cu_ne _ _ _ hf
    have k3 : ∀ f, f ≠ 2 → f ≠ 4 → f ≠ 19 → f ≠ 20 → f ≠ 21 → (cu s4 4 0 (-1)).1 f = s3.1 f := fun f x2 x4 x19 x20 x21 => by rw [k4 f x4, c3 f x2 x19 x20 x21]
    have ks : ∀ f, (3 = f ∨ (16 ≤ f ∧ f ≤ 18) ∨ (31 ≤ f ∧ f ≤ 34)) → (cu s4 4 0 (-1)).1 f = s.1 f := fun f hf => by rw [k3 f (by omega) (by omega) (by omega) (by omega) (by omega), sf f (by omega) (by omega) (by omega) (by omega) (by omega) (by omega) (by omega)]
    have k2 : (cu s4 4 0 (-1)).2 = s.2 := by rw [cu_2, c4, e2]
    have kv : vC (cu s4 4 0 (-1)) = tbS s (vC s) a := by
      rw [vC_fr (s := s3) (fun f hf => k3 f (by omega) (by omega) (by omega) (by omega) (by omega))]; exact v3
    have tk : ∀ f, f ≠ 0 → f ≠ 2 → f ≠ 7 → f ≠ 8 → f ≠ 9 → f ≠ 11 → t4 f = t f := fun f x0 x2 x7 x8 x9 x11 => by rw [c5 f x7 x8 x9 x11, t1f f x0 x2]
    have t40 : t4 0 = t1 0 := c5 0 (by omega) (by omega) (by omega) (by omega)
    have k29 : (cu s4 4 0 (-1)).1 29 0 = nI a := by rw [k3 29 (by omega) (by omega) (by omega) (by omega) (by omega)]; exact e29
    have k30 : (cu s4 4 0 (-1)).1 30 0 = nI e := by rw [k3 30 (by omega) (by omega) (by omega) (by omega) (by omega)]; exact e30
    have kT : (cu s4 4 0 (-1)).1 4 0 = -1 := cu_at _ _ _ _
    have kF : RFault (cu s4 4 0 (-1)) t4 := c6.fr (fun f hf => k4 f (by omega)) (fun f _ => rfl)
    refine ⟨_, _, _, rfl, rfl, ?_⟩
    generalize cu s4 4 0 (-1) = s5 at k29 k30 kT kF kv k2 ks ⊢
    refine ⟨⟨by rw [t40]; exact w1, by rw [kv, t40]; exact bk.tr lr.sy, ?_, hno.fr (fun f hf => ks f (by omega)) (fun f hf => tk f (by omega) (by omega) (by omega) (by omega) (by omega) (by omega)), kF, ?_⟩, Or.inl kT⟩
    · rw [ks 3 (by omega), tk 3 (by omega) (by omega) (by omega) (by omega) (by omega) (by omega)]; exact h3
    · have slot : ∀ i, i < e → (a + 59 - i) % 60 = (nx + 59 - (i + 1)) % 60 := by
        intro i hi; omega
      have row4 : row t4 = row t := by
        funext r j; unfold row; rw [tk 1 (by omega) (by omega) (by omega) (by omega) (by omega) (by omega)]
      have hv : ∀ i, i ≤ e → hV s5 (vC s5) a i = hV s (vC s) nx (i + 1) := by
        intro i
        rw [hV_fr (s := s) (fun f hf => ks f (by omega)) (by rw [k2])]
        induction i with
        | zero =>
          intro _
          show vC s5 = tbS s (vC s) ((nx + 59 - 0) % 60)
          rw [show (nx + 59 - 0) % 60 = a from hna]; exact kv
        | succ i ih =>
          intro hi
          show tbS s (hV s (vC s5) a i) ((a + 59 - i) % 60) = tbS s (hV s (vC s) nx (i + 1)) ((nx + 59 - (i + 1)) % 60)
          rw [ih (by omega), slot i (by omega)]
      refine ⟨e, a, by omega, ha, k30, k29, ?_, fun i hi => ?_⟩
      · rw [c5 2 (by omega) (by omega) (by omega) (by omega)]; exact t12
      · obtain ⟨o1, o2, o3, o4⟩ := hH (i + 1) (by omega)
        have eam : ∀ b, am s5 b = am s b := fun b => by unfold am; rw [ks 32 (by omega)]
        have eak : ∀ b, ak s5 b = ak s b := fun b => by unfold ak; rw [ks 33 (by omega)]
        have ean : ∀ b, ActN s b → ActN s5 b := fun b q => by
          unfold ActN at q ⊢
          rw [eam, eak, ks 31 (by omega), ks 32 (by omega), ks 33 (by omega)]
          exact q
        rw [hv i (by omega), hv (i + 1) (by omega), slot i hi, row4, eam, eak, ks 31 (by omega)]
        rw [show e + 1 - 1 - (i + 1) = e - 1 - i by omega] at o3 o4
        exact ⟨o1, ean _ o2, o3, o4⟩
end O
