/-! LINE: both meet the same codes in the same order -/
section R
variable {N T : Nat} {c : Nat → Int32} {s : cS} {t : mS}
def xo (T : Nat) (c : Nat → Int32) (k : Nat) : Nat := fa_first (fun x => decide (nI k ≤ c x)) (T + 1)
theorem xo_lt {G : Nat} (hG : c T = nI G) (hb : G < 2 ^ 31) {k : Nat} (hk : k ≤ G) : xo T c k ≤ T ∧ nI k ≤ c (xo T c k) ∧ ∀ x, x < xo T c k → ¬ nI k ≤ c x := by
  have h2 : ∀ x, x < xo T c k → ¬ nI k ≤ c x := fun x hx => of_decide_eq_false (fa_first_no _ (T + 1) x hx)
  have h1 : xo T c k < T + 1 := by
    rcases Nat.lt_or_ge (xo T c k) (T + 1) with q | q
    · exact q
    · exact absurd (by rw [hG]; exact nI_le hk hb) (h2 T (by omega))
  exact ⟨by omega, of_decide_eq_true (fa_first_yes _ (T + 1) h1), h2⟩
def er (T : Nat) (c : Nat → Int32) (G e1 eG k : Nat) : Int32 := jabs ((nI G - 1) * (nI (xo T c k) - nI e1) - (nI k - 1) * (nI eG - nI e1))
def wk (T : Nat) (c : Nat → Int32) (G e1 eG : Nat) : Nat → Int32 × Int32
  | 0 => (0, 1)
  | k + 1 => if er T c G e1 eG (k + 1) ≤ (wk T c G e1 eG k).1 then wk T c G e1 eG k else (er T c G e1 eG (k + 1), nI (k + 1))
def wans (w : Int32) (q : Int32 × Int32) : Int32 := if w = 0 then q.1 else q.2
theorem xo_mono {G : Nat} (hG : c T = nI G) (hb : G < 2 ^ 31) {k : Nat} (hk : k + 1 ≤ G) : xo T c k ≤ xo T c (k + 1) := by
  obtain ⟨a1, a2, a3⟩ := xo_lt hG hb hk
  obtain ⟨b1, b2, b3⟩ := xo_lt hG hb (show k ≤ G by omega)
  rcases Nat.lt_or_ge (xo T c (k + 1)) (xo T c k) with q | q
  · refine absurd ?_ (b3 _ q)
    exact Int32.le_trans (nI_le (show k ≤ k + 1 by omega) (by omega)) a2
  · exact q
theorem mline_in (hN : 200000 ≤ N) (h : Row s t T c) {G e1 eG : Nat} (hG : c T = nI G) (hb : G ≤ 136000) (p w : Int32) (kk : Int32 → Int32 → Int32 → Int32 → Int32 → Int32 → Int32 → mS → Option (Int32 × mS)) {k : Nat} (hk : k + 1 ≤ G) {x : Nat} (hx : x ≤ xo T c (k + 1)) : f9_line_l109 N p w kk N (nI G) (nI e1) (nI eG) (wk T c G e1 eG k).1 (wk T c G e1 eG k).2 (nI x) (nI (k + 1)) t = kk (nI G) (nI e1) (nI eG) (wk T c G e1 eG (k + 1)).1 (wk T c G e1 eG (k + 1)).2 (nI (xo T c (k + 1))) (nI (k + 2)) t := by
  have hT := h.2.1
  obtain ⟨a1, a2, a3⟩ := xo_lt hG (by omega) hk
  refine iter_ind (P := fun j (f : Int32 → Int32 → Int32 → Int32 → Int32 → Int32 → Int32 → mS → Option (Int32 × mS)) => f (nI G) (nI e1) (nI eG) (wk T c G e1 eG k).1 (wk T c G e1 eG k).2 (nI (x + j)) (nI (k + 1)) t = kk (nI G) (nI e1) (nI eG) (wk T c G e1 eG (k + 1)).1 (wk T c G e1 eG (k + 1)).2 (nI (xo T c (k + 1))) (nI (k + 2)) t) (e := xo T c (k + 1) - x) ?_ ?_ (show xo T c (k + 1) - x < N by omega)
  · intro k'
    have hi := ix (xo T c (k + 1)) 4096 (by omega) (by omega)
    unfold f9_line_l109b
    rw [show x + (xo T c (k + 1) - x) = xo T c (k + 1) by omega, if_pos hi.1, hi.2, m15 h a1, if_pos a2]
    have e : (if 0 ≤ ((nI G - 1) * (nI (xo T c (k + 1)) - nI e1) - (nI (k + 1) - 1) * (nI eG - nI e1)) then f9_line_b162 N p w kk (nI G) (nI e1) (nI eG) (wk T c G e1 eG k).1 (wk T c G e1 eG k).2 (nI (xo T c (k + 1))) (nI (k + 1)) ((nI G - 1) * (nI (xo T c (k + 1)) - nI e1) - (nI (k + 1) - 1) * (nI eG - nI e1)) t else f9_line_b162 N p w kk (nI G) (nI e1) (nI eG) (wk T c G e1 eG k).1 (wk T c G e1 eG k).2 (nI (xo T c (k + 1))) (nI (k + 1)) (-((nI G - 1) * (nI (xo T c (k + 1)) - nI e1) - (nI (k + 1) - 1) * (nI eG - nI e1))) t) = f9_line_b162 N p w kk (nI G) (nI e1) (nI eG) (wk T c G e1 eG k).1 (wk T c G e1 eG k).2 (nI (xo T c (k + 1))) (nI (k + 1)) (er T c G e1 eG (k + 1)) t := by
      unfold er jabs
      split
      · rfl
      · rw [Int32.zero_sub]
    rw [e]
    unfold f9_line_b162
    rw [nI_1]
    simp only [wk]
    by_cases z : er T c G e1 eG (k + 1) ≤ (wk T c G e1 eG k).1
    · rw [if_pos z, if_neg (Int32.not_lt.mpr z)]
    · rw [if_neg z, if_pos (fa_of_nle z)]
  · intro j hj k' ih
    have hi := ix (x + j) 4096 (by omega) (by omega)
    unfold f9_line_l109b
    rw [if_pos hi.1, hi.2, m15 h (by omega), if_neg (a3 (x + j) (by omega)), nI_1]
    exact ih
theorem mline (hN : 200000 ≤ N) (h : Row s t T c) {G e1 eG : Nat} (hG : c T = nI G) (hb : G ≤ 136000) (p w : Int32) : f9_line_l103 N p w N (nI G) (nI e1) (nI eG) 0 1 0 1 t = some (wans w (wk T c G e1 eG G), t) := by
  have key : ∀ x, (0 < G → x ≤ xo T c (0 + 1)) → f9_line_l103 N p w N (nI G) (nI e1) (nI eG) (wk T c G e1 eG 0).1 (wk T c G e1 eG 0).2 (nI x) (nI (0 + 1)) t = some (wans w (wk T c G e1 eG G), t) := by
    refine iter_ind (P := fun j (f : Int32 → Int32 → Int32 → Int32 → Int32 → Int32 → Int32 → mS → Option (Int32 × mS)) => ∀ x, (j < G → x ≤ xo T c (j + 1)) → f (nI G) (nI e1) (nI eG) (wk T c G e1 eG j).1 (wk T c G e1 eG j).2 (nI x) (nI (j + 1)) t = some (wans w (wk T c G e1 eG G), t)) (e := G) ?_ ?_ (show G < N by omega)
    · intro k x hx
      unfold f9_line_l103b wans
      rw [if_pos (nI_lt (by omega) (by omega))]
      split <;> rfl
    · intro j hj k ih x hx
      unfold f9_line_l103b
      rw [if_neg (nI_nlt (by omega) (by omega)), mline_in hN h hG hb p w k (by omega) (hx hj)]
      exact ih _ (fun hl => xo_mono hG (by omega) (by omega))
  exact key 0 (fun _ => Nat.zero_le _)
theorem cline_in (hN : 200000 ≤ N) (h : Row s t T c) {G e1 eG : Nat} (hG : c T = nI G) (hb : G ≤ 136000) (hm : ∀ x, x ≤ T → c x ≤ nI G) (w : Int32) (kk : Int32 → Int32 → Int32 → Int32 → Int32 → Int32 → cS → Option (Int32 × cS)) {x : Nat} (hx : x ≤ T) (ih : ∀ k, k ≤ G → (k < G → x + 1 ≤ xo T c (k + 1)) → kk (nI e1) (nI eG - nI e1) (wk T c G e1 eG k).1 (wk T c G e1 eG k).2 (nI (k + 1)) (nI (x + 1)) s = some (wans w (wk T c G e1 eG G), s)) {k : Nat} (hk : k ≤ G) (hx2 : k < G → x ≤ xo T c (k + 1)) : f7_worstOfLine_l36 N (nI G) w kk N (nI e1) (nI eG - nI e1) (wk T c G e1 eG k).1 (wk T c G e1 eG k).2 (nI (k + 1)) (nI x) s = some (wans w (wk T c G e1 eG G), s) := by
  have key : (k + 0 < G → x ≤ xo T c (k + 0 + 1)) → f7_worstOfLine_l36 N (nI G) w kk N (nI e1) (nI eG - nI e1) (wk T c G e1 eG (k + 0)).1 (wk T c G e1 eG (k + 0)).2 (nI (k + 0 + 1)) (nI x) s = some (wans w (wk T c G e1 eG G), s) := by
    refine iter_ind (P := fun j (f : Int32 → Int32 → Int32 → Int32 → Int32 → Int32 → cS → Option (Int32 × cS)) => (k + j < G → x ≤ xo T c (k + j + 1)) → f (nI e1) (nI eG - nI e1) (wk T c G e1 eG (k + j)).1 (wk T c G e1 eG (k + j)).2 (nI (k + j + 1)) (nI x) s = some (wans w (wk T c G e1 eG G), s)) (e := G - k) ?_ ?_ (show G - k < N by omega)
    · intro k' hl
      unfold f7_worstOfLine_l36b
      rw [codeAt_some h hx]
      simp only [Option.bind_some]
      have : c x < nI (k + (G - k) + 1) := by
        have a := hm x hx
        have b : nI G < nI (k + (G - k) + 1) := nI_lt (by omega) (by omega)
        rw [fa_lt] at b ⊢; rw [fa_le] at a; omega
      rw [if_pos this, nI_1]
      exact ih _ (by omega) (fun q => absurd q (by omega))
    · intro j hj k' ih' hl
      have hl := hl (by omega)
      obtain ⟨a1, a2, a3⟩ := xo_lt hG (by omega) (show k + j + 1 ≤ G by omega)
      unfold f7_worstOfLine_l36b
      rw [codeAt_some h hx]
      simp only [Option.bind_some]
      by_cases z : c x < nI (k + j + 1)
      · rw [if_pos z, nI_1]
        refine ih _ (by omega) (fun _ => ?_)
        rcases Nat.lt_or_ge x (xo T c (k + j + 1)) with q | q
        · exact q
        · have e : x = xo T c (k + j + 1) := by omega
          rw [e] at z
          exact absurd a2 (fa_of_lt z).2.1
      · rw [if_neg z]
        have e : x = xo T c (k + j + 1) := by
          rcases Nat.lt_or_ge x (xo T c (k + j + 1)) with q | q
          · exact absurd (fa_of_nlt z) (a3 x q)
          · omega
        have e2 : jabs ((nI G - 1) * (nI x - nI e1) - (nI (k + j + 1) - 1) * (nI eG - nI e1)) = er T c G e1 eG (k + j + 1) := by
          unfold er; rw [← e]
        have nx := ih' (fun q => by
          have := xo_mono hG (by omega) (show k + j + 1 + 1 ≤ G by omega)
          show x ≤ xo T c (k + j + 1 + 1)
          omega)
        rw [e2, nI_1]
        replace nx : k' (nI e1) (nI eG - nI e1) (wk T c G e1 eG (k + j + 1)).1 (wk T c G e1 eG (k + j + 1)).2 (nI (k + j + 1 + 1)) (nI x) s = some (wans w (wk T c G e1 eG G), s) := nx
        simp only [wk] at nx
        by_cases y : er T c G e1 eG (k + j + 1) ≤ (wk T c G e1 eG (k + j)).1
        · rw [if_pos y] at nx ⊢
          exact nx
        · rw [if_neg y] at nx ⊢
          exact nx
  exact key hx2
theorem cline (hN : 200000 ≤ N) (h : Row s t T c) {G e1 eG : Nat} (hG : c T = nI G) (h1 : 1 ≤ G) (hb : G ≤ 136000) (hm : ∀ x, x ≤ T → c x ≤ nI G) (w : Int32) (he : e1 ≤ xo T c 1) : f7_worstOfLine_l27 N (nI G) w N (nI e1) (nI eG - nI e1) 0 1 1 (nI e1) s = some (wans w (wk T c G e1 eG G), s) := by
  have hT := h.2.1
  have l1 := (xo_lt hG (by omega) h1).1
  have key : ∀ k, k ≤ G → (k < G → e1 + 0 ≤ xo T c (k + 1)) → f7_worstOfLine_l27 N (nI G) w N (nI e1) (nI eG - nI e1) (wk T c G e1 eG k).1 (wk T c G e1 eG k).2 (nI (k + 1)) (nI (e1 + 0)) s = some (wans w (wk T c G e1 eG G), s) := by
    refine iter_ind (P := fun j (f : Int32 → Int32 → Int32 → Int32 → Int32 → Int32 → cS → Option (Int32 × cS)) => ∀ k, k ≤ G → (k < G → e1 + j ≤ xo T c (k + 1)) → f (nI e1) (nI eG - nI e1) (wk T c G e1 eG k).1 (wk T c G e1 eG k).2 (nI (k + 1)) (nI (e1 + j)) s = some (wans w (wk T c G e1 eG G), s)) (e := T + 1 - e1) ?_ ?_ (show T + 1 - e1 < N by omega)
    · intro k' k hk hl
      have : k = G := by
        rcases Nat.lt_or_ge k G with q | q
        · have := hl q
          have := (xo_lt hG (by omega) (show k + 1 ≤ G by omega)).1
          omega
        · omega
      subst this
      unfold f7_worstOfLine_l27b wans
      rw [h.2.2.1, if_pos (nI_lt (by omega) (by omega))]
      split <;> rfl
    · intro j hj k' ih k hk hl
      unfold f7_worstOfLine_l27b
      rw [h.2.2.1, if_neg (nI_nlt (by omega) (by omega))]
      exact cline_in (x := e1 + j) hN h hG hb hm w k' (show e1 + j ≤ T by omega) (fun k hk hl => ih k hk hl) hk hl
  exact key 0 (Nat.zero_le _) (fun _ => he)
theorem great_some (hN : 5000 ≤ N) (h : Row s t T c) : ∃ g, g ≤ T ∧ f7_greatestCode N s = some (c g, s) ∧ ∀ x, x ≤ T → c x ≤ c g := by
  have hT := h.2.1
  have hT1 := h.1
  unfold f7_greatestCode
  rw [show f7_codeAt N 0 s = some (c 0, s) from codeAt_some h (Nat.zero_le T)]
  simp only [Option.bind_some]
  have key2 : ∀ g, g ≤ 0 → (∀ x, x ≤ 0 → c x ≤ c g) → ∃ g', g' ≤ T ∧ f7_greatestCode_l8 N N (c g) (nI (0 + 1)) s = some (c g', s) ∧ ∀ x, x ≤ T → c x ≤ c g' := by
    refine iter_ind (P := fun j (f : Int32 → Int32 → cS → Option (Int32 × cS)) => ∀ g, g ≤ j → (∀ x, x ≤ j → c x ≤ c g) → ∃ g', g' ≤ T ∧ f (c g) (nI (j + 1)) s = some (c g', s) ∧ ∀ x, x ≤ T → c x ≤ c g') (e := T) ?_ ?_ (show T < N by omega)
    · intro k g hg hx
      unfold f7_greatestCode_l8b
      rw [h.2.2.1, if_pos (nI_lt (by omega) (by omega))]
      exact ⟨g, hg, rfl, hx⟩
    · intro j hj k ih g hg hx
      unfold f7_greatestCode_l8b
      rw [h.2.2.1, if_neg (nI_nlt (by omega) (by omega)), codeAt_some h (by omega)]
      simp only [Option.bind_some]
      unfold jmax
      by_cases z : c g < c (j + 1)
      · rw [if_pos z, nI_1]
        refine ih (j + 1) (Nat.le_refl _) (fun x hl => ?_)
        by_cases q : x = j + 1
        · rw [q]; exact Int32.le_refl _
        · exact Int32.le_trans (hx x (by omega)) (fa_of_lt z).1
      · rw [if_neg z, nI_1]
        refine ih g (by omega) (fun x hl => ?_)
        by_cases q : x = j + 1
        · rw [q]; exact fa_of_nlt z
        · exact hx x (by omega)
  exact key2 0 (Nat.le_refl 0) (fun x hx => by rw [show x = 0 by omega]; exact Int32.le_refl _)
theorem mono_le (hm : ∀ x, x < T → c x ≤ c (x + 1)) : ∀ d x, x + d = T → c x ≤ c T := by
  intro d
  induction d with
  | zero => intro x hx; rw [show x = T by omega]; exact Int32.le_refl _
  | succ d ih => intro x hx; exact Int32.le_trans (hm x (by omega)) (ih (x + 1) (by omega))
theorem line_pure (hN : 200000 ≤ N) (h : Row s t T c) (p w : Int32) (hm : ∀ x, x < T → c x ≤ c (x + 1)) (h2 : ¬ c T < 2) : ∃ r e1 eG, f7_worstOfLine N (c T) w s = some (r, s) ∧ f9_edgeOf N 1 t = some (e1, t) ∧ f9_edgeOf N (c T) t = some (eG, t) ∧ f9_line_l103 N p w N (c T) e1 eG 0 1 0 1 t = some (r, t) := by
  obtain ⟨b1, b2⟩ := h.2.2.2.2.2.2 T
  have h2' : 2 ≤ (c T).toInt := by
    have := (fa_le _ _).mp (fa_of_nlt h2)
    rw [show (2 : Int32).toInt = 2 by decide +kernel] at this
    exact this
  obtain ⟨G, hG0, hG⟩ := nI_of (x := c T) (by rw [fa_lt, i0]; omega)
  have hGb : G ≤ 136000 := by
    rw [hG, nI_toInt hG0] at b2; omega
  have hG2 : 2 ≤ G := by
    rw [hG, nI_toInt hG0] at h2'; omega
  obtain ⟨e1, x1, x2, x3, x4, x5⟩ := edge_pure (N := N) (by omega) h 1
  obtain ⟨eG, y1, y2, y3, y4, y5⟩ := edge_pure (N := N) (by omega) h (nI G)
  have he : e1 ≤ xo T c 1 := by
    obtain ⟨z1, z2, z3⟩ := xo_lt hG (by omega) (show 1 ≤ G by omega)
    rcases Nat.lt_or_ge (xo T c 1) e1 with q | q
    · exact absurd z2 (fa_of_lt (x2 _ q)).2.1
    · exact q
  refine ⟨wans w (wk T c G e1 eG G), nI e1, nI eG, ?_, x5, ?_, ?_⟩
  · unfold f7_worstOfLine
    rw [x4]
    simp only [Option.bind_some]
    rw [hG, y4]
    simp only [Option.bind_some]
    exact cline hN h hG (by omega) hGb (fun x hx => by rw [← hG]; exact mono_le hm (T - x) x (by omega)) w he
  · rw [hG]; exact y5
  · rw [hG]; exact mline hN h hG hGb p w
theorem o_line (hN : 200000 ≤ N) (h : Rel s t) (p q : Int32) : ∃ r s1 t1, f8_line N p q s = some (r, s1) ∧ f9_line N p q t = some (r, t1) ∧ Rel s1 t1 := by
  have h := h.thrown
  unfold f8_line f9_line
  generalize mu t 4 0 0 = t at h ⊢
  have k1 : ¬ (1 : Int32) = 0 := by decide
  have k5 : ¬ (5 : Int32) = 0 := by decide
  rcases meter_of N h.1 p with ⟨h1, h2⟩ | ⟨m, hm, h8, rfl, h1, h2⟩
  · have : f8_isTabled N p s = some (0, cu s 3 0 2) := by unfold f8_isTabled f8_fillTable; rw [h1]; rfl
    rw [this, h2]; exact ⟨_, _, _, rfl, rfl, h.tr 2⟩
  obtain ⟨T, M, hT1, hT2, hM, e1, e2, e3, e4, e5, e6⟩ := h.1.base
  obtain ⟨s0, a1, a2, a3, a4⟩ := fill_some (N := N) (by omega) h hm
  obtain ⟨t1, b1, b2, b3⟩ := readAll_some (N := N) (by omega) h hm
  have t0 : t1 0 = t 0 := b2 0 (by omega) (by omega) (by omega) (by omega) (by omega)
  have hR0 : Rel s0 t1 := ⟨b2.rel a2.1, a2.2.fr (fun _ _ => rfl) t0⟩
  have hr0 : Row s0 t1 T (fun x => (cdq (t 0) m (nI x)).1) := ⟨hT1, hT2, by rw [a3, e2], by rw [t0, e2], fun x hx => a4 x (by omega), fun x hx => b3 x (by omega), fun x => code_bnd h.1.1 hm _⟩
  have rc : ∀ v, Row (cu s0 3 0 v) t1 T (fun x => (cdq (t 0) m (nI x)).1) := fun v => ⟨hT1, hT2, by rw [cu_ne s0 0 v (by omega)]; exact hr0.2.2.1, hr0.2.2.2.1, by rw [cu_ne s0 0 v (by omega)]; exact hr0.2.2.2.2.1, hr0.2.2.2.2.2⟩
  have rb : ∀ v u, Row (cu s0 3 0 v) (mu t1 3 0 u) T (fun x => (cdq (t 0) m (nI x)).1) := fun v u => ⟨hT1, hT2, (rc v).2.2.1, by rw [mu_ne t1 0 u (show 0 ≠ 3 by omega)]; exact (rc v).2.2.2.1, (rc v).2.2.2.2.1, by rw [mu_ne t1 0 u (show 15 ≠ 3 by omega)]; exact (rc v).2.2.2.2.2.1, (rc v).2.2.2.2.2.2⟩
  have ht : f8_isTabled N (nI m) s = some (1, cu s0 3 0 0) := by unfold f8_isTabled; rw [a1]; rfl
  rw [ht, h2]
  simp only [Option.bind_some]
  rw [if_neg k1, if_neg k1]
  obtain ⟨g, g1, g2, g3⟩ := great_some (N := N) (by omega) (rc 0)
  rw [g2]
  simp only [Option.bind_some]
  unfold f9_in
  by_cases q0 : q < 0
  · rw [if_pos q0, if_pos q0]
    unfold f8_line_b54
    rw [cu_cu, cu_at, if_neg k1]
    exact ⟨_, _, _, rfl, rfl, ⟨a2.1, a2.2⟩ |> fun r : Rel s0 t => r.tr 1⟩
  by_cases q1 : 1 < q
  · rw [if_neg q0, if_neg (fa_of_lt q1).2.1, if_neg q0, if_pos q1]
    unfold f8_line_b54
    rw [cu_cu, cu_at, if_neg k1]
    exact ⟨_, _, _, rfl, rfl, a2.tr 1⟩
  rw [if_neg q0, if_pos (fa_of_nlt q1), if_neg q0, if_neg q1]
  simp only [Option.bind_some]
  rw [if_neg k1, b1]
  simp only [Option.bind_some]
  have iT := ix T 4096 (by omega) (by omega)
  rw [tc0, t0, e2, if_pos iT.1, iT.2, b3 T (by omega)]
  obtain ⟨r, r1, r2, r3⟩ := back_pure (N := N) (by omega) (rc 0)
  rw [r2]
  simp only [Option.bind_some]
  -- the greatest code, or a step back
  by_cases z : r = -2
  · have hmo := r3 z
    have gT : (cdq (t 0) m (nI g)).1 = (cdq (t 0) m (nI T)).1 := by
      have u1 := mono_le hmo (T - g) g (by omega)
      have u2 := g3 T (Nat.le_refl T)
      rw [fa_eq]; rw [fa_le] at u1 u2
      omega
    rw [if_pos z]
    simp only [gT]
    by_cases z2 : (cdq (t 0) m (nI T)).1 < 2
    · rw [if_pos z2, if_neg (fa_of_lt z2).2.1]
      unfold f8_line_b54 f9_line_b66 f9_no
      rw [cu_cu, cu_at, if_neg k5]
      exact ⟨_, _, _, rfl, rfl, hR0.tr 5⟩
    · rw [if_neg z2, if_pos (fa_of_nlt z2), r1]
      simp only [Option.bind_some]
      rw [if_pos z]
      unfold f8_line_b54 f8_line_b79
      rw [cu_cu, cu_at, if_pos rfl]
      obtain ⟨a, u1, u2, v1, v2, v3, v4⟩ := line_pure hN (rb 0 0) (nI m) q hmo z2
      rw [v2]
      simp only [Option.bind_some]
      rw [v3]
      simp only [Option.bind_some]
      have hq : (if q = 1 then (f7_worstOfLine N (cdq (t 0) m (nI T)).1 1 (cu s0 3 0 0)).bind (fun x => some (x.1, x.2)) else (f7_worstOfLine N (cdq (t 0) m (nI T)).1 0 (cu s0 3 0 0)).bind (fun x => some (x.1, x.2))) = (f7_worstOfLine N (cdq (t 0) m (nI T)).1 q (cu s0 3 0 0)).bind (fun x => some (x.1, x.2)) := by
        by_cases y : q = 1
        · rw [if_pos y, y]
        · have : q = 0 := by
            rw [fa_eq, i0]; rw [fa_eq, i1] at y; rw [fa_lt, i0] at q0; rw [fa_lt, i1] at q1; omega
          rw [if_neg y, this]
      refine ⟨_, _, _, hq.trans ?_, v4, hR0.tr 0⟩
      rw [v1]; rfl
  · rw [if_neg z]
    have fin : f8_line_b54 N (nI m) q (cdq (t 0) m (nI g)).1 5 (cu s0 3 0 0) = some (-1, cu s0 3 0 5) := by
      unfold f8_line_b54
      rw [cu_cu, cu_at, if_neg k5]
    unfold f9_line_b66 f9_no
    by_cases z2 : (cdq (t 0) m (nI g)).1 < 2
    · rw [if_pos z2, fin]
      exact ⟨_, _, _, rfl, rfl, hR0.tr 5⟩
    · rw [if_neg z2, r1]
      simp only [Option.bind_some]
      rw [if_neg z, fin]
      exact ⟨_, _, _, rfl, rfl, hR0.tr 5⟩
end R
