section Mm3
variable {fu k : Nat} {σ σ1 : gSt} {v : gV}
theorem pt_1 {i : Nat} (hi : i < 20) (t x : Int32) : ∀ (n w : Nat) (τ : gSt), w ≤ 13 → 13 - w < n → (∀ c, c ≠ k + 5 → τ c = σ c) → (∀ j, j < w → τ (k + 5) j = σ (k + 1) (13 * i + j)) →
    ∃ υ, f_X10_part_W68 fu k (nI i) t x n (nI w) τ = f_X10_part_L68 fu k (nI i) t x (fun _ _ => none) (nI 13) υ ∧ (∀ c, c ≠ k + 5 → υ c = σ c) ∧ (∀ j, j < 13 → υ (k + 5) j = σ (k + 1) (13 * i + j))
  | 0, _, _, _, q, _, _ => absurd q (by omega)
  | n + 1, w, τ, h1, h2, g1, g2 => by
    rw [f_X10_part_W68_s]
    rcases Nat.lt_or_ge w 13 with q | q
    · unfold f_X10_part_L68
      rw [if_neg (show ¬ 13 ≤ nI w from zo_le (n := 13) q (by omega)), zm_of rfl (by omega), bd_some, wrN w rfl (by omega) (by omega), bd_some, z_add1, g1 (k + 1) (by omega)]
      obtain ⟨υ, u0, u1, u2⟩ := pt_1 hi t x n (w + 1) (gu τ (k + 5) (upd (τ (k + 5)) w (σ (k + 1) (13 * i + w)))) q (by omega) (fun c hc => by rw [gu_n _ _ hc]; exact g1 c hc) (fun j hj => by
        rw [gu_s]
        by_cases e : j = w
        · subst e
          rw [up_e]
        · rw [up_n _ _ e]
          exact g2 j (by omega))
      unfold f_X10_part_L68 at u0
      exact ⟨υ, u0, u1, u2⟩
    · have e : w = 13 := by omega
      subst e
      refine ⟨τ, ?_, g1, g2⟩
      unfold f_X10_part_L68
      rw [if_pos (show 13 ≤ nI 13 by decide), if_pos (show 13 ≤ nI 13 by decide)]
theorem pt_2 {m : Nat} (hm : m < 20) (p t x : Int32) : ∀ (n w : Nat) (τ : gSt), w ≤ 13 → 13 - w < n → (∀ c, c ≠ k + 1 → τ c = σ c) → (∀ j, j < w → τ (k + 1) (13 * m + j) = σ (k + 5) j) → (∀ j, j < 13 * m ∨ 13 * m + w ≤ j → τ (k + 1) j = σ (k + 1) j) →
    ∃ υ, f_X10_part_W119 fu k p t x (nI m) n (nI w) τ = f_X10_part_L119 fu k p t x (nI m) (fun _ _ => none) (nI 13) υ ∧ (∀ c, c ≠ k + 1 → υ c = σ c) ∧ (∀ j, j < 13 → υ (k + 1) (13 * m + j) = σ (k + 5) j) ∧ (∀ j, j < 13 * m ∨ 13 * m + 13 ≤ j → υ (k + 1) j = σ (k + 1) j)
  | 0, _, _, _, q, _, _, _ => absurd q (by omega)
  | n + 1, w, τ, h1, h2, g1, g2, g3 => by
    rw [f_X10_part_W119_s]
    rcases Nat.lt_or_ge w 13 with q | q
    · unfold f_X10_part_L119
      rw [if_neg (show ¬ 13 ≤ nI w from zo_le (n := 13) q (by omega)), rdN w rfl (by omega) (by omega), bd_some, zm_sets rfl (by omega), bd_some, z_add1, g1 (k + 5) (by omega)]
      obtain ⟨υ, u0, u1, u2, u3⟩ := pt_2 hm p t x n (w + 1) (gu τ (k + 1) (upd (τ (k + 1)) (13 * m + w) (σ (k + 5) w))) q (by omega) (fun c hc => by rw [gu_n _ _ hc]; exact g1 c hc) (fun j hj => by
        rw [gu_s]
        by_cases e : j = w
        · subst e
          rw [up_e]
        · rw [up_n _ _ (by omega)]
          exact g2 j (by omega)) (fun j hj => by
        rw [gu_s, up_n _ _ (by omega)]
        exact g3 j (by omega))
      unfold f_X10_part_L119 at u0
      exact ⟨υ, u0, u1, u2, u3⟩
    · have e : w = 13 := by omega
      subst e
      refine ⟨τ, ?_, g1, g2, g3⟩
      unfold f_X10_part_L119
      rw [if_pos (show 13 ≤ nI 13 by decide), if_pos (show 13 ≤ nI 13 by decide)]
theorem pt_3 {m C x : Nat} (hm : m < 20) (hC : C ≤ 8) (hx : x ≤ C) (p t : Int32) (h4 : σ (k + 5) 4 = nI C) : ∀ (n l : Nat) (τ : gSt), x ≤ l → l ≤ C → C - l < n → (∀ c, c ≠ k + 1 → τ c = σ c) → (∀ j, j < l - x → τ (k + 1) (13 * m + 5 + j) = σ (k + 5) (5 + x + j)) → (∀ j, j < 13 * m + 5 ∨ 13 * m + 5 + (l - x) ≤ j → τ (k + 1) j = σ (k + 1) j) →
    ∃ υ, f_X10_part_W173 fu k p t (nI x) (nI m) n (nI l) τ = some (nI m, υ) ∧ (∀ c, c ≠ k + 1 → υ c = σ c) ∧ (∀ j, j < C - x → υ (k + 1) (13 * m + 5 + j) = σ (k + 5) (5 + x + j)) ∧ (∀ j, j < 13 * m + 5 ∨ 13 * m + 5 + (C - x) ≤ j → υ (k + 1) j = σ (k + 1) j)
  | 0, _, _, _, _, q, _, _, _ => absurd q (by omega)
  | n + 1, l, τ, h0, h1, h2, g1, g2, g3 => by
    rw [f_X10_part_W173_s]
    unfold f_X10_part_L173
    rw [g1 (k + 5) (by omega), h4]
    rcases Nat.lt_or_ge l C with q | q
    · rw [if_neg (zl_le q (by omega)), rdN (5 + l) (z_plus 5 l) (by omega) (by omega), bd_some, zm_sets (w := 5 + l - x) ((congrArg (· - nI x) (z_plus 5 l)).trans (z_sub (by omega))) (by omega), bd_some, z_add1, g1 (k + 5) (by omega)]
      refine pt_3 hm hC hx p t h4 n (l + 1) _ (by omega) q (by omega) (fun c hc => by rw [gu_n _ _ hc]; exact g1 c hc) (fun j hj => ?_) (fun j hj => ?_)
      · rw [gu_s]
        by_cases e : j = l - x
        · subst e
          rw [show 13 * m + 5 + (l - x) = 13 * m + (5 + l - x) by omega, up_e, show 5 + x + (l - x) = 5 + l by omega]
        · rw [up_n _ _ (by omega)]
          exact g2 j (by omega)
      · rw [gu_s, up_n _ _ (by omega)]
        exact g3 j (by omega)
    · have e : l = C := by omega
      subst e
      rw [if_pos (zl_ge (Nat.le_refl _) (by omega))]
      exact ⟨τ, rfl, g1, g2, g3⟩
theorem RR_end {r : Nat → Int32} (h : RR v r) (hw : WT v) {i : Nat} (hi : i < vn v) (x : Int32) : RR (endV v i x) (upd r (13 * i + 1) x) := by
  have h20 := hw.1
  refine ⟨?_, fun l hl => ?_, fun s hs => ?_, fun s hs => ?_, ?_⟩
  · rw [up_n _ _ (by omega)]
    exact h.1
  · have hl' : l < vn v := hl
    obtain ⟨g1, g2, g3, g4, g5, g6⟩ := h.2.1 l hl'
    have h8 := (hw.2.2 l hl').1
    show _ ∧ _ = uF (vE v) i x l ∧ _ ∧ _ ∧ _ ∧ ∀ j, j < vC v l → _
    by_cases q : l = i
    · subst q
      rw [uF_e]
      simp (disch := omega) only [up_n, up_e]
      exact ⟨g1, trivial, g3, g4, g5, fun j hj => g6 j hj⟩
    · rw [uF_n _ _ q]
      simp (disch := omega) only [up_n]
      refine ⟨g1, g2, g3, g4, g5, fun j hj => ?_⟩
      rw [up_n _ _ (by omega)]
      exact g6 j hj
  · rw [up_n _ _ (by omega)]
    exact h.2.2.1 s hs
  · rw [up_n _ _ (by omega)]
    exact h.2.2.2.1 s hs
  · rw [up_n _ _ (by omega)]
    exact h.2.2.2.2
theorem RR_cut {r : Nat → Int32} (h : RR v r) (hw : WT v) {i : Nat} (hi : i < vn v) {x : Nat} (hx : x ≤ vC v i) : RR (sayV v i x (vQ v i)) (upd r (13 * i + 4) (nI x)) := by
  have h20 := hw.1
  refine ⟨?_, fun l hl => ?_, fun s hs => ?_, fun s hs => ?_, ?_⟩
  · rw [up_n _ _ (by omega)]
    exact h.1
  · have hl' : l < vn v := hl
    obtain ⟨g1, g2, g3, g4, g5, g6⟩ := h.2.1 l hl'
    have h8 := (hw.2.2 l hl').1
    show _ ∧ _ ∧ _ ∧ _ ∧ _ = nI (uF (vC v) i x l) ∧ ∀ j, j < uF (vC v) i x l → _ = nI (uF (vQ v) i (vQ v i) l j)
    by_cases q : l = i
    · subst q
      rw [uF_e, uF_e]
      simp (disch := omega) only [up_n, up_e]
      exact ⟨g1, g2, g3, g4, trivial, fun j hj => g6 j (by omega)⟩
    · rw [uF_n _ _ q, uF_n _ _ q]
      simp (disch := omega) only [up_n]
      refine ⟨g1, g2, g3, g4, g5, fun j hj => ?_⟩
      rw [up_n _ _ (by omega)]
      exact g6 j hj
  · rw [up_n _ _ (by omega)]
    exact h.2.2.1 s hs
  · rw [up_n _ _ (by omega)]
    exact h.2.2.2.1 s hs
  · rw [up_n _ _ (by omega)]
    exact h.2.2.2.2
theorem WT_end (hw : WT v) {i : Nat} (hi : i < vn v) {t : Nat} (h1 : nb v i < t) (h2 : t ≤ 1999) : WT (endV v i (nI t)) := by
  refine ⟨hw.1, fun l hl => ?_, hw.2.2⟩
  have hl' : l < vn v := hl
  show ∃ b e p : Nat, vB v l = nI b ∧ uF (vE v) i (nI t) l = nI e ∧ vP v l = nI p ∧ b < e ∧ e ≤ 1999 ∧ 50 ≤ p ∧ p ≤ 500
  by_cases q : l = i
  · subst q
    rw [uF_e]
    obtain ⟨b1, b2, b3, b4⟩ := wt_nat hw hi
    obtain ⟨p1, p2, p3⟩ := wt_np hw hi
    exact ⟨nb v l, t, np v l, b1, rfl, p1, h1, h2, p2, p3⟩
  · rw [uF_n _ _ q]
    exact hw.2.1 l hl'
theorem mm_part (hf : 300 < fu) (h : RR v (σ (k + 1))) (hW : WF v) (hc : f_X10_changes fu σ k = some σ1) (e1 : σ1 (k + 1) = σ (k + 1)) (p t x : Int32) : MMut k σ σ1 (f_X10_part fu σ k p t x) (opPart v p t x) := by
  obtain ⟨hw, hs, ho, -⟩ := hW
  have h20 := hw.1
  have h1 : RR v (σ1 (k + 1)) := by rw [e1]; exact h
  unfold f_X10_part opPart
  rcases ix_cases (vn v) p (by omega) with ⟨i, hi, rfl, hx⟩ | ⟨hp, hx⟩
  · have h8 := (hw.2.2 i hi).1
    rw [hx, el_s, zm_isTurn_in (zr_to h) hw hi, bd_some, if_neg (show ¬ (1 : Int32) = 0 by decide), zm_B (zr_to h) hw hi, bd_some, zm_E (zr_to h) hw hi, bd_some, zm_C (zr_to h) hw hi, bd_some, zm_in, bd_some, h.1]
    by_cases h2 : t ≤ vB v i
    · rw [if_pos h2, if_neg (fun q => (z_nlt.mpr h2) q.1.1)]
      exact MMut_0 (by decide) h
    · rw [if_neg h2]
      by_cases h3 : vE v i ≤ t
      · rw [if_pos h3, if_neg (fun q => (z_nlt.mpr h3) q.1.2)]
        exact MMut_0 (by decide) h
      · rw [if_neg h3]
        by_cases h4 : 0 ≤ x ∧ x ≤ nI (vC v i)
        · rw [if_neg (fun z => bi_0.mp z h4), if_pos (show (vB v i < t ∧ t < vE v i) ∧ (0 ≤ x ∧ x ≤ nI (vC v i)) from ⟨⟨z_nle.mp h2, z_nle.mp h3⟩, h4⟩)]
          by_cases q : vn v = 20
          · rw [if_pos q, q, if_pos (show nI 20 = 20 from rfl)]
            exact MMut_0 (by decide) h
          · obtain ⟨y, hy, rfl⟩ : ∃ y, y ≤ vC v i ∧ x = nI y := by
              rcases z_ix x (n := vC v i + 1) (by omega) with ⟨y, y1, y2⟩ | hx
              · exact ⟨y, by omega, y2⟩
              · exfalso
                obtain ⟨a1, a2⟩ := h4
                rcases hx with z | z
                · exact (z_nle.mpr z) a1
                · rw [z_lei] at a2 z
                  rw [nI_toInt (by omega)] at a2 z
                  omega
            obtain ⟨b1, b2, b3, b4⟩ := wt_nat hw hi
            obtain ⟨p1, p2, p3⟩ := wt_np hw hi
            obtain ⟨c, rfl, c1, c2⟩ : ∃ c, t = nI c ∧ nb v i < c ∧ c < ne v i := by
              have g1 := z_nle.mp h2
              have g2 := z_nle.mp h3
              rw [b1] at g1
              rw [b2] at g2
              exact z_btw (by omega) (by omega) g1 g2
            rw [if_neg q, if_neg (show ¬ nI (vn v) = 20 from fun z => q ((z_eq (b := 20) (by omega) (by omega)).mp z)), hc, bd_some, nI_clamp (by omega)]
            obtain ⟨τ, t0, t1, t2⟩ := pt_1 (fu := fu) (k := k) (σ := σ1) (show i < 20 by omega) (nI c) (nI y) fu 0 σ1 (by omega) (by omega) (fun _ _ => rfl) (fun j hj => absurd hj (Nat.not_lt_zero j))
            rw [show f_X10_part_W68 fu k (nI i) (nI c) (nI y) fu 0 σ1 = _ from t0]
            unfold f_X10_part_L68
            rw [if_pos (show 13 ≤ nI 13 by decide), zm_sets (y := 1) (w := 1) rfl (by omega), bd_some, zm_sets (y := 4) (w := 4) rfl (by omega), bd_some]
            have eτ : τ (k + 1) = σ1 (k + 1) := t1 _ (by omega)
            have hwc : WT (sayV v i y (vQ v i)) := WT_say hw (by omega) (fun j hj => (hw.2.2 i hi).2 j (by omega))
            have hwe : WT (endV (sayV v i y (vQ v i)) i (nI c)) := WT_end hwc hi c1 (by omega)
            have hr0 : RR (endV (sayV v i y (vQ v i)) i (nI c)) (gu (gu τ (k + 1) (upd (τ (k + 1)) (13 * i + 1) (nI c))) (k + 1) (upd (gu τ (k + 1) (upd (τ (k + 1)) (13 * i + 1) (nI c)) (k + 1)) (13 * i + 4) (nI y)) (k + 1)) := by
              rw [gu_s, gu_s, eτ]
              exact RR_cut (RR_end h1 hw hi (nI c)) (WT_end hw hi c1 (by omega)) hi hy
            obtain ⟨υ, u0, u1, u2, u3, u4⟩ := zm_opens (fu := fu) hf hr0 hwe ho (show vn v < 20 by omega) (nI c)
            have hpl : plV (endV (sayV v i y (vQ v i)) i (nI c)) (nI c) = plV v (nI c) := rfl
            rw [hpl] at u0 u3 u4
            have hmn := plV_le v (nI c)
            have hmi : i < plV v (nI c) := plV_gt hw ho hi (z_nle.mp h2)
            rw [u0, b2_some]
            unfold cutV
            generalize plV v (nI c) = m at *
            have hυ5 : ∀ j, j < 13 → υ (k + 5) j = σ1 (k + 1) (13 * i + j) := fun j hj => by
              rw [u1 _ (by omega), gu_n _ _ (by omega), gu_n _ _ (by omega)]
              exact t2 j hj
            obtain ⟨φ, f0, f1, f2, f3⟩ := pt_2 (fu := fu) (k := k) (σ := υ) (show m < 20 by omega) (nI i) (nI c) (nI y) fu 0 υ (by omega) (by omega) (fun _ _ => rfl) (fun j hj => absurd hj (Nat.not_lt_zero j)) (fun _ _ => rfl)
            rw [show f_X10_part_W119 fu k (nI i) (nI c) (nI y) (nI m) fu 0 υ = _ from f0]
            unfold f_X10_part_L119
            obtain ⟨g1, g2, g3, g4, g5, g6⟩ := h1.2.1 i hi
            have hφ4 : φ (k + 5) 4 = nI (vC v i) := by rw [f1 _ (by omega), hυ5 4 (by omega)]; exact g5
            rw [if_pos (show 13 ≤ nI 13 by decide), zm_sets (y := 0) (w := 0) rfl (by omega), bd_some, gu_n _ _ (show k + 5 ≠ k + 1 by omega), hφ4, z_sub hy, zm_sets (y := 4) (w := 4) rfl (by omega), bd_some]
            obtain ⟨ψ, s0, s1, s2, s3⟩ := pt_3 (fu := fu) (k := k) (σ := gu (gu φ (k + 1) (upd (φ (k + 1)) (13 * m + 0) (nI c))) (k + 1) (upd (gu φ (k + 1) (upd (φ (k + 1)) (13 * m + 0) (nI c)) (k + 1)) (13 * m + 4) (nI (vC v i - y)))) (show m < 20 by omega) h8 hy (nI i) (nI c) (by rw [gu_n _ _ (by omega), gu_n _ _ (by omega)]; exact hφ4) fu y _ (Nat.le_refl _) hy (by omega) (fun _ _ => rfl) (fun j hj => absurd hj (by omega)) (fun _ _ => rfl)
            rw [s0]
            simp (disch := omega) only [gu_s, gu_n] at s2 s3
            refine MMut_1 (nI_pos (by omega)) ?_ (fun d d1 d2 d3 => ?_)
            · refine RR_ins hr0 hwe (show m ≤ vn v from hmn) (show vn v < 20 by omega) ?_ (fun j j1 j2 => ?_) (fun j j1 => ?_) (fun j j1 j2 => ?_) ?_ ?_ ?_ ?_ ?_ (fun j hj => ?_)
              · rw [s3 _ (Or.inr (by omega)), up_n _ _ (by omega), up_n _ _ (by omega), f3 _ (Or.inr (by omega))]
                exact u2
              · rw [s3 _ (Or.inr (by omega)), up_n _ _ (by omega), up_n _ _ (by omega), f3 _ (Or.inr (by omega))]
                exact u3 j j1 j2
              · rw [s3 _ (Or.inl (by omega)), up_n _ _ (by omega), up_n _ _ (by omega), f3 _ (Or.inl j1)]
                exact u4 j (Or.inl j1)
              · rw [s3 _ (Or.inr (by omega)), up_n _ _ (by omega), up_n _ _ (by omega), f3 _ (Or.inr (by omega))]
                exact u4 j (Or.inr ⟨by show 13 * (vn v + 1) ≤ j; omega, j2⟩)
              · rw [s3 _ (Or.inl (by omega)), up_n _ _ (by omega), show 13 * m + 0 = 13 * m from rfl, up_e]
              · rw [s3 _ (Or.inl (by omega)), up_n _ _ (by omega), up_n _ _ (by omega), f2 1 (by omega), hυ5 1 (by omega)]
                exact g2
              · rw [s3 _ (Or.inl (by omega)), up_n _ _ (by omega), up_n _ _ (by omega), f2 2 (by omega), hυ5 2 (by omega)]
                exact g3
              · rw [s3 _ (Or.inl (by omega)), up_n _ _ (by omega), up_n _ _ (by omega), f2 3 (by omega), hυ5 3 (by omega)]
                exact g4
              · rw [s3 _ (Or.inl (by omega)), up_e]
              · rw [s2 j hj, f1 _ (by omega), hυ5 _ (by omega), show 13 * i + (5 + y + j) = 13 * i + 5 + (y + j) by omega]
                exact g6 (y + j) (by omega)
            · rw [s1 d d1, gu_n _ _ d1, gu_n _ _ d1, f1 d d1, u1 d d1, gu_n _ _ d1, gu_n _ _ d1]
              exact t1 d d2
        · rw [if_pos (bi_0.mpr h4), if_neg (fun z => h4 z.2)]
          exact MMut_0 (by decide) h
  · rw [hx, el_n, zm_isTurn (zr_to h) hw, hx, bd_some, if_pos (by decide)]
    exact MMut_0 (by decide) h
end Mm3
