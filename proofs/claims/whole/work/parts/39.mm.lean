/-! ===== a transcript's changes: the model's side ===== -/
def RR (v : gV) (r : Nat → Int32) : Prop := r 282 = nI (vn v) ∧ (∀ i, i < vn v → r (13 * i) = vB v i ∧ r (13 * i + 1) = vE v i ∧ r (13 * i + 2) = vP v i ∧ r (13 * i + 3) = vO v i ∧ r (13 * i + 4) = nI (vC v i) ∧ ∀ j, j < vC v i → r (13 * i + 5 + j) = nI (vQ v i j)) ∧
  (∀ t, t < 16 → r (260 + t) = en (vT v t)) ∧ (∀ s, s < 6 → r (276 + s) = vS v s) ∧ r 283 = vA v
theorem RR_eq {v w : gV} {r : Nat → Int32} (h : RR v r) (hn : vn w = vn v) (hr : ∀ i, i < vn v → vB w i = vB v i ∧ vE w i = vE v i ∧ vP w i = vP v i ∧ vO w i = vO v i ∧ vC w i = vC v i ∧ ∀ j, j < vC v i → vQ w i j = vQ v i j) (e1 : vT w = vT v) (e2 : vS w = vS v) (e3 : vA w = vA v) : RR w r := by
  refine ⟨by rw [hn]; exact h.1, fun i hi => ?_, by rw [e1]; exact h.2.2.1, by rw [e2]; exact h.2.2.2.1, by rw [e3]; exact h.2.2.2.2⟩
  rw [hn] at hi
  obtain ⟨r1, r2, r3, r4, r5, r6⟩ := hr i hi
  obtain ⟨g1, g2, g3, g4, g5, g6⟩ := h.2.1 i hi
  rw [r1, r2, r3, r4, r5]
  exact ⟨g1, g2, g3, g4, g5, fun j hj => by rw [r6 j hj]; exact g6 j hj⟩
theorem RR_ins {v : gV} {r R : Nat → Int32} (h : RR v r) (hw : WT v) {p : Nat} (hp : p ≤ vn v) (hn : vn v < 20) {x e pi o : Int32} {c : Nat} {q : Nat → Nat} (e0 : R 282 = nI (vn v + 1)) (hs : ∀ j, 13 * (p + 1) ≤ j → j < 13 * (vn v + 1) → R j = r (j - 13)) (hl : ∀ j, j < 13 * p → R j = r j) (hh : ∀ j, 260 ≤ j → j ≠ 282 → R j = r j)
    (h0 : R (13 * p) = x) (h1 : R (13 * p + 1) = e) (h2 : R (13 * p + 2) = pi) (h3 : R (13 * p + 3) = o) (h4 : R (13 * p + 4) = nI c) (h5 : ∀ j, j < c → R (13 * p + 5 + j) = nI (q j)) : RR (insV v p x e pi o c q) R := by
  refine ⟨e0, fun i hi => ?_, fun t ht => ?_, fun s h6 => ?_, ?_⟩
  · have hi' : i < vn v + 1 := hi
    show R (13 * i) = inF (vB v) p x i ∧ R (13 * i + 1) = inF (vE v) p e i ∧ R (13 * i + 2) = inF (vP v) p pi i ∧ R (13 * i + 3) = inF (vO v) p o i ∧ R (13 * i + 4) = nI (inF (vC v) p c i) ∧ ∀ j, j < inF (vC v) p c i → R (13 * i + 5 + j) = nI (inF (vQ v) p q i j)
    rcases Nat.lt_trichotomy i p with z | z | z
    · obtain ⟨g1, g2, g3, g4, g5, g6⟩ := h.2.1 i (by omega)
      have h8 := (hw.2.2 i (by omega)).1
      rw [inF_l _ _ z, inF_l _ _ z, inF_l _ _ z, inF_l _ _ z, inF_l _ _ z, inF_l _ _ z, hl _ (by omega), hl _ (by omega), hl _ (by omega), hl _ (by omega), hl _ (by omega)]
      exact ⟨g1, g2, g3, g4, g5, fun j hj => by rw [hl _ (by omega)]; exact g6 j hj⟩
    · subst z
      rw [inF_e, inF_e, inF_e, inF_e, inF_e, inF_e]
      exact ⟨h0, h1, h2, h3, h4, h5⟩
    · obtain ⟨g1, g2, g3, g4, g5, g6⟩ := h.2.1 (i - 1) (by omega)
      have h8 := (hw.2.2 (i - 1) (by omega)).1
      rw [inF_g _ _ z, inF_g _ _ z, inF_g _ _ z, inF_g _ _ z, inF_g _ _ z, inF_g _ _ z, hs _ (by omega) (by omega), hs _ (by omega) (by omega), hs _ (by omega) (by omega), hs _ (by omega) (by omega), hs _ (by omega) (by omega), show 13 * i - 13 = 13 * (i - 1) by omega, show 13 * i + 1 - 13 = 13 * (i - 1) + 1 by omega, show 13 * i + 2 - 13 = 13 * (i - 1) + 2 by omega, show 13 * i + 3 - 13 = 13 * (i - 1) + 3 by omega, show 13 * i + 4 - 13 = 13 * (i - 1) + 4 by omega]
      exact ⟨g1, g2, g3, g4, g5, fun j hj => by rw [hs _ (by omega) (by omega), show 13 * i + 5 + j - 13 = 13 * (i - 1) + 5 + j by omega]; exact g6 j hj⟩
  · rw [hh _ (by omega) (by omega)]
    exact h.2.2.1 t ht
  · rw [hh _ (by omega) (by omega)]
    exact h.2.2.2.1 s h6
  · rw [hh _ (by omega) (by omega)]
    exact h.2.2.2.2
theorem RR_del {v : gV} {r R : Nat → Int32} (h : RR v r) (hw : WT v) {p : Nat} (hp : p < vn v) (e0 : R 282 = nI (vn v - 1)) (hs : ∀ j, 13 * p ≤ j → j < 13 * (vn v - 1) → R j = r (j + 13)) (hl : ∀ j, j < 13 * p → R j = r j) (hh : ∀ j, 260 ≤ j → j ≠ 282 → R j = r j) : RR (delV v p) R := by
  have h20 := hw.1
  refine ⟨e0, fun i hi => ?_, fun t ht => ?_, fun s h6 => ?_, ?_⟩
  · have hi' : i < vn v - 1 := hi
    show R (13 * i) = deF (vB v) p i ∧ R (13 * i + 1) = deF (vE v) p i ∧ R (13 * i + 2) = deF (vP v) p i ∧ R (13 * i + 3) = deF (vO v) p i ∧ R (13 * i + 4) = nI (deF (vC v) p i) ∧ ∀ j, j < deF (vC v) p i → R (13 * i + 5 + j) = nI (deF (vQ v) p i j)
    rcases Nat.lt_or_ge i p with z | z
    · obtain ⟨g1, g2, g3, g4, g5, g6⟩ := h.2.1 i (by omega)
      have h8 := (hw.2.2 i (by omega)).1
      rw [deF_l _ z, deF_l _ z, deF_l _ z, deF_l _ z, deF_l _ z, deF_l _ z, hl _ (by omega), hl _ (by omega), hl _ (by omega), hl _ (by omega), hl _ (by omega)]
      exact ⟨g1, g2, g3, g4, g5, fun j hj => by rw [hl _ (by omega)]; exact g6 j hj⟩
    · obtain ⟨g1, g2, g3, g4, g5, g6⟩ := h.2.1 (i + 1) (by omega)
      have h8 := (hw.2.2 (i + 1) (by omega)).1
      rw [deF_g _ z, deF_g _ z, deF_g _ z, deF_g _ z, deF_g _ z, deF_g _ z, hs _ (by omega) (by omega), hs _ (by omega) (by omega), hs _ (by omega) (by omega), hs _ (by omega) (by omega), hs _ (by omega) (by omega), show 13 * i + 13 = 13 * (i + 1) by omega, show 13 * i + 1 + 13 = 13 * (i + 1) + 1 by omega, show 13 * i + 2 + 13 = 13 * (i + 1) + 2 by omega, show 13 * i + 3 + 13 = 13 * (i + 1) + 3 by omega, show 13 * i + 4 + 13 = 13 * (i + 1) + 4 by omega]
      exact ⟨g1, g2, g3, g4, g5, fun j hj => by rw [hs _ (by omega) (by omega), show 13 * i + 5 + j + 13 = 13 * (i + 1) + 5 + j by omega]; exact g6 j hj⟩
  · rw [hh _ (by omega) (by omega)]
    exact h.2.2.1 t ht
  · rw [hh _ (by omega) (by omega)]
    exact h.2.2.2.1 s h6
  · rw [hh _ (by omega) (by omega)]
    exact h.2.2.2.2
def MMut (k : Nat) (σ σ1 : gSt) (o : Option (Int32 × gSt)) (r : Int32 × gV) : Prop := ∃ τ, o = some (r.1, τ) ∧ RR r.2 (τ (k + 1)) ∧ ∀ c, c ≠ k + 1 → c ≠ k + 5 → c ≠ k + 6 → τ c = (if r.1 < 0 then σ else σ1) c
theorem MMut_0 {k : Nat} {σ σ1 : gSt} {v : gV} {x : Int32} (hx : x < 0) (h : RR v (σ (k + 1))) : MMut k σ σ1 (some (x, σ)) (x, v) := ⟨σ, rfl, h, fun _ _ _ _ => by rw [if_pos hx]⟩
theorem MMut_1 {k : Nat} {σ σ1 τ : gSt} {v : gV} {x : Int32} (hx : ¬ x < 0) (h : RR v (τ (k + 1))) (hf : ∀ c, c ≠ k + 1 → c ≠ k + 5 → c ≠ k + 6 → τ c = σ1 c) : MMut k σ σ1 (some (x, τ)) (x, v) := ⟨τ, rfl, h, fun c h1 h2 h3 => by rw [if_neg hx]; exact hf c h1 h2 h3⟩
theorem z_x13 (i : Nat) : 13 * nI i = nI (13 * i) := (Int32.ofNat_mul 13 i).symm
section Mm
variable {fu k : Nat} {σ σ1 : gSt} {v : gV}
theorem zr_to (h : RR v (σ (k + 1))) : RM (k + 1) 0 v σ := by
  unfold RM
  simp only [Nat.zero_add]
  exact h
theorem zr_of (h : RM (k + 1) 0 v σ) : RR v (σ (k + 1)) := by
  unfold RM at h
  simp only [Nat.zero_add] at h
  exact h
theorem zm_sets {i w : Nat} {y : Int32} (hy : y = nI w) (hi : 13 * i + w < 284) (x : Int32) : f_X10_sets fu σ k (nI i) y x = some (gu σ (k + 1) (upd (σ (k + 1)) (13 * i + w) x)) := by
  subst hy
  unfold f_X10_sets
  rw [z_13, wrN (13 * i + w) rfl hi (by omega), bd_some]
theorem op_1 (h : RR v (σ (k + 1))) (hw : WT v) (ho : WO v) (hn : vn v < 20) (x : Int32) : ∀ (n q : Nat), plV v x ≤ q → q ≤ vn v → q - plV v x < n → f_X10_opens_W9 fu k x σ n (nI q) = f_X10_opens_J31 fu k x (nI (plV v x)) σ
  | 0, _, _, _, z => absurd z (by omega)
  | n + 1, q, h1, h2, h3 => by
    have hp := plV_le v x
    rw [f_X10_opens_W9_s]
    unfold f_X10_opens_L9
    rcases Nat.eq_zero_or_pos q with q0 | q0
    · subst q0
      rw [if_pos (show nI 0 ≤ 0 by decide), show plV v x = 0 by omega]
    · obtain ⟨m, rfl⟩ : ∃ m, q = m + 1 := ⟨q - 1, by omega⟩
      rw [if_neg (show ¬ nI (m + 1) ≤ 0 from zl_le (i := 0) (n := m + 1) (by omega) (by omega)), nI_pred, zm_B (zr_to h) hw (show m < vn v by omega), bd_some]
      rcases Nat.lt_or_ge m (plV v x) with z | z
      · rw [if_pos (z_nlt.mp (plF_lo (vB v) x (vn v) 0 m (Nat.zero_le _) z)), show plV v x = m + 1 by omega]
      · have h4 : x < vB v (plV v x) := plF_hi (vB v) x (vn v) 0 (by show plV v x < 0 + vn v; omega)
        have h5 : vB v (plV v x) ≤ vB v m := by
          rcases Nat.lt_or_ge (plV v x) m with y | y
          · exact ho _ _ y (by omega)
          · rw [show plV v x = m by omega, z_lei]
            omega
        rw [if_neg (z_nle.mpr (by rw [z_lti] at h4 ⊢; rw [z_lei] at h5; omega)), z_less1]
        exact op_1 h hw ho hn x n m z (by omega) (by omega)
theorem op_2 {p N : Nat} (hp : p ≤ N) (hN : N < 20) (x : Int32) (e0 : σ (k + 1) 282 = nI N) : ∀ (n m : Nat) (τ : gSt), 13 * p ≤ m → m ≤ 13 * N → m - 13 * p < n → (∀ c, c ≠ k + 1 → τ c = σ c) → (∀ j, m + 13 ≤ j → j < 13 * (N + 1) → τ (k + 1) j = σ (k + 1) (j - 13)) → (∀ j, j < m + 13 ∨ 13 * (N + 1) ≤ j → τ (k + 1) j = σ (k + 1) j) →
    ∃ υ, f_X10_opens_W45 fu k x (nI p) n (nI m - 1) τ = some (nI p, υ) ∧ (∀ c, c ≠ k + 1 → υ c = σ c) ∧ υ (k + 1) 282 = nI (N + 1) ∧ (∀ j, 13 * (p + 1) ≤ j → j < 13 * (N + 1) → υ (k + 1) j = σ (k + 1) (j - 13)) ∧ (∀ j, j < 13 * p ∨ (13 * (N + 1) ≤ j ∧ j ≠ 282) → υ (k + 1) j = σ (k + 1) j)
  | 0, _, _, _, _, z, _, _, _ => absurd z (by omega)
  | n + 1, m, τ, h1, h2, h3, g1, g2, g3 => by
    rw [f_X10_opens_W45_s]
    unfold f_X10_opens_L45
    rw [z_x13]
    rcases Nat.lt_or_ge (13 * p) m with z | z
    · obtain ⟨q, rfl⟩ : ∃ q, m = q + 1 := ⟨m - 1, by omega⟩
      rw [nI_pred, if_neg (zl_nlt (by omega) (by omega)), rdN q rfl (by omega) (by omega), bd_some, g3 q (Or.inl (by omega)), show nI q + 13 = nI (q + 13) from nI_add q 13, wrN (q + 13) rfl (by omega) (by omega), bd_some, show nI q + (-1) = nI q - 1 from (Int32.sub_eq_add_neg (nI q) 1).symm]
      refine op_2 hp hN x e0 n q _ (by omega) (by omega) (by omega) (fun c hc => ?_) (fun j j1 j2 => ?_) (fun j j1 => ?_)
      · rw [gu_n _ _ hc]
        exact g1 c hc
      · rw [gu_s]
        by_cases y : j = q + 13
        · subst y
          rw [up_e, show q + 13 - 13 = q by omega]
        · rw [up_n _ _ y]
          exact g2 j (by omega) j2
      · rw [gu_s, up_n _ _ (by omega)]
        exact g3 j (by omega)
    · have hm : m = 13 * p := by omega
      subst hm
      have hlt : nI (13 * p) - 1 < nI (13 * p) := by
        rcases Nat.eq_zero_or_pos p with y | y
        · subst y
          decide
        · obtain ⟨q, hq⟩ : ∃ q, 13 * p = q + 1 := ⟨13 * p - 1, by omega⟩
          rw [hq, nI_pred]
          exact zl_lt (by omega) (by omega)
      rw [if_pos hlt, g3 282 (Or.inr (by omega)), e0, z_add1, wrN (i := 282) 282 rfl (by omega) (by omega), bd_some]
      refine ⟨_, rfl, fun c hc => ?_, ?_, fun j j1 j2 => ?_, fun j j1 => ?_⟩
      · rw [gu_n _ _ hc]
        exact g1 c hc
      · rw [gu_s, up_e]
      · rw [gu_s, up_n _ _ (by omega)]
        exact g2 j (by omega) j2
      · rw [gu_s, up_n _ _ (by omega)]
        exact g3 j (by omega)
theorem zm_opens (hf : 300 < fu) (h : RR v (σ (k + 1))) (hw : WT v) (ho : WO v) (hn : vn v < 20) (x : Int32) : ∃ υ, f_X10_opens fu σ k x = some (nI (plV v x), υ) ∧ (∀ c, c ≠ k + 1 → υ c = σ c) ∧ υ (k + 1) 282 = nI (vn v + 1) ∧ (∀ j, 13 * (plV v x + 1) ≤ j → j < 13 * (vn v + 1) → υ (k + 1) j = σ (k + 1) (j - 13)) ∧ (∀ j, j < 13 * plV v x ∨ (13 * (vn v + 1) ≤ j ∧ j ≠ 282) → υ (k + 1) j = σ (k + 1) j) := by
  have hp := plV_le v x
  unfold f_X10_opens
  rw [h.1, op_1 h hw ho hn x fu (vn v) hp (Nat.le_refl _) (by omega)]
  unfold f_X10_opens_J31
  rw [h.1, z_x13, lt_eq]
  exact op_2 hp hn x h.1 fu (13 * vn v) σ (by omega) (Nat.le_refl _) (by omega) (fun _ _ => rfl) (fun j j1 j2 => absurd j1 (by omega)) (fun _ _ => rfl)
theorem mm_turn (hf : 300 < fu) (h : RR v (σ (k + 1))) (hW : WF v) (hc : f_X10_changes fu σ k = some σ1) (e1 : σ1 (k + 1) = σ (k + 1)) (x e p : Int32) : MMut k σ σ1 (f_X10_turn fu σ k x e p) (opTurn v x e p) := by
  obtain ⟨hw, hs, ho, hT, hA, a, ha, hva⟩ := hW
  unfold f_X10_turn opTurn
  rw [zm_in, bd_some, zm_in, bd_some, zm_in, bd_some]
  by_cases hx : 0 ≤ x ∧ x ≤ 1998
  · rw [if_neg (fun z => bi_0.mp z hx)]
    obtain ⟨b, hb, rfl⟩ : ∃ b, b < 1999 ∧ x = nI b := by
      rcases z_ix x (n := 1999) (by omega) with ⟨b, b1, b2⟩ | q
      · exact ⟨b, b1, b2⟩
      · exact absurd (z_bo (m := 1998) (by omega) q) (fun z => bi_0.mp z hx)
    rw [z_add1]
    by_cases he : nI (b + 1) ≤ e ∧ e ≤ 1999
    · rw [if_neg (fun z => bi_0.mp z he)]
      have hlt : nI b < e := by
        have := he.1
        rw [z_lei, nI_toInt (by omega)] at this
        rw [z_lti, nI_toInt (by omega)]
        omega
      rcases z_pitch p with ⟨y, rfl, y1, y2, hp⟩ | hp
      · rw [if_neg (fun z => bi_0.mp z hp), if_pos (show (0 ≤ nI b ∧ nI b < e ∧ e ≤ 1999) ∧ 50 ≤ nI y ∧ nI y ≤ 500 from ⟨⟨hx.1, hlt, he.2⟩, hp⟩), h.1]
        by_cases q : vn v = 20
        · rw [if_pos q, q, if_pos (show nI 20 = 20 from rfl)]
          exact MMut_0 (by decide) h
        · have h20 := hw.1
          rw [if_neg q, if_neg (show ¬ nI (vn v) = 20 from fun z => q ((z_eq (b := 20) (by omega) (by omega)).mp z)), hc, bd_some]
          have h1 : RR v (σ1 (k + 1)) := by rw [e1]; exact h
          obtain ⟨υ, u0, u1, u2, u3, u4⟩ := zm_opens hf h1 hw ho (by omega) (nI b)
          have hpl := plV_le v (nI b)
          rw [u0, b2_some]
          generalize plV v (nI b) = m at *
          rw [zm_sets (y := 0) (w := 0) rfl (by omega), bd_some, zm_sets (y := 1) (w := 1) rfl (by omega), bd_some, zm_sets (y := 2) (w := 2) rfl (by omega), bd_some]
          rw [zm_voiceFor (v := v) (a := a) (by omega) (fun s h6 => by
            simp (disch := omega) only [gu_s, up_n]
            rw [u4 _ (Or.inr ⟨by omega, by omega⟩)]
            exact h1.2.2.2.1 s h6) hs (by omega) ha (by
            simp (disch := omega) only [gu_s, up_n]
            rw [u4 _ (Or.inr ⟨by omega, by omega⟩)]
            exact h1.2.2.2.2.trans hva), bd_some, zm_sets (y := 3) (w := 3) rfl (by omega), bd_some, zm_sets (y := 4) (w := 4) rfl (by omega), bd_some, hva]
          refine MMut_1 (nI_pos (by omega)) ?_ (fun c c1 c2 c3 => ?_)
          · refine RR_ins h1 hw hpl (by omega) ?_ (fun j j1 j2 => ?_) (fun j j1 => ?_) (fun j j1 j2 => ?_) ?_ ?_ ?_ ?_ ?_ (fun j hj => absurd hj (Nat.not_lt_zero j))
            · simp (disch := omega) only [gu_s, up_n]
              exact u2
            · simp (disch := omega) only [gu_s, up_n]
              exact u3 j j1 j2
            · simp (disch := omega) only [gu_s, up_n]
              exact u4 j (Or.inl j1)
            · simp (disch := omega) only [gu_s, up_n]
              exact u4 j (Or.inr ⟨by omega, j2⟩)
            · simp (disch := omega) only [gu_s, up_n, Nat.add_zero, up_e]
            · simp (disch := omega) only [gu_s, up_n, up_e]
            · simp (disch := omega) only [gu_s, up_n, up_e]
            · simp (disch := omega) only [gu_s, up_n, up_e]
            · simp (disch := omega) only [gu_s, up_n, up_e]
              rfl
          · simp (disch := omega) only [gu_n]
            exact u1 c c1
      · rw [if_pos (bi_0.mpr hp), if_neg (fun z => hp z.2)]
        exact MMut_0 (by decide) h
    · rw [if_pos (bi_0.mpr he), if_neg (fun z => he ⟨by
        have := z.1.2.1
        rw [z_lti, nI_toInt (by omega)] at this
        rw [z_lei, nI_toInt (by omega)]
        omega, z.1.2.2⟩)]
      exact MMut_0 (by decide) h
  · rw [if_pos (bi_0.mpr hx), if_neg (fun z => hx ⟨z.1.1, by
      have a1 := z.1.2.1
      have a2 := z.1.2.2
      rw [z_lti] at a1
      rw [z_lei] at a2 ⊢
      rw [show (1999 : Int32).toInt = 1999 by decide] at a2
      rw [show (1998 : Int32).toInt = 1998 by decide]
      omega⟩)]
    exact MMut_0 (by decide) h
theorem mm_say (h : RR v (σ (k + 1))) (hW : WF v) (hc : f_X10_changes fu σ k = some σ1) (e1 : σ1 (k + 1) = σ (k + 1)) (p t : Int32) : MMut k σ σ1 (f_X10_say fu σ k p t) (opSay v p t) := by
  obtain ⟨hw, hs, -⟩ := hW
  have h20 := hw.1
  unfold f_X10_say opSay
  rcases ix_cases (vn v) p (by omega) with ⟨i, hi, rfl, hx⟩ | ⟨hp, hx⟩
  · have h8 := (hw.2.2 i hi).1
    rw [hx, el_s, zm_isTurn_in (zr_to h) hw hi, bd_some, if_neg (show ¬ (1 : Int32) = 0 by decide), zm_isTerm, bd_some, zm_C (zr_to h) hw hi, bd_some]
    rcases z_ix16 t with ⟨u, hu, rfl, ht⟩ | ⟨ht, -⟩
    · rw [if_neg (fun z => bi_0.mp z ht), if_pos ht, nI_clamp (by omega)]
      by_cases q : vC v i = 8
      · rw [if_pos q, q, if_pos (show nI 8 = 8 from rfl)]
        exact MMut_0 (by decide) h
      · rw [if_neg q, if_neg (show ¬ nI (vC v i) = 8 from fun z => q ((z_eq (b := 8) (by omega) (by omega)).mp z)), hc, bd_some, zm_sets (w := 5 + vC v i) (z_plus 5 _) (by omega), bd_some, z_add1, zm_sets (y := 4) (w := 4) rfl (by omega), bd_some]
        refine MMut_1 (nI_pos (by omega)) ?_ (fun c c1 c2 c3 => by simp (disch := omega) only [gu_n])
        rw [gu_s, gu_s, e1]
        refine ⟨?_, fun l hl => ?_, fun r h6 => ?_, fun r h6 => ?_, ?_⟩
        · simp (disch := omega) only [up_n]
          exact h.1
        · have hl' : l < vn v := hl
          obtain ⟨g1, g2, g3, g4, g5, g6⟩ := h.2.1 l hl'
          have h8' := (hw.2.2 l hl').1
          show _ ∧ _ ∧ _ ∧ _ ∧ _ = nI (uF (vC v) i (vC v i + 1) l) ∧ ∀ j, j < uF (vC v) i (vC v i + 1) l → _ = nI (uF (vQ v) i (uF (vQ v i) (vC v i) u) l j)
          by_cases q : l = i
          · subst q
            rw [uF_e, uF_e]
            simp (disch := omega) only [up_n, up_e]
            refine ⟨g1, g2, g3, g4, trivial, fun j hj => ?_⟩
            by_cases z : j = vC v l
            · subst z
              rw [uF_e, show 13 * l + 5 + vC v l = 13 * l + (5 + vC v l) by omega, up_e]
            · rw [uF_n _ _ z, up_n _ _ (by omega)]
              exact g6 j (by omega)
          · rw [uF_n _ _ q, uF_n _ _ q]
            simp (disch := omega) only [up_n]
            refine ⟨g1, g2, g3, g4, g5, fun j hj => ?_⟩
            rw [up_n _ _ (by omega), up_n _ _ (by omega)]
            exact g6 j hj
        · simp (disch := omega) only [up_n]
          exact h.2.2.1 r h6
        · simp (disch := omega) only [up_n]
          exact h.2.2.2.1 r h6
        · simp (disch := omega) only [up_n]
          exact h.2.2.2.2
    · rw [if_pos (bi_0.mpr ht), if_neg ht]
      exact MMut_0 (by decide) h
  · rw [hx, el_n, zm_isTurn (zr_to h) hw, hx, bd_some, if_pos (by decide)]
    exact MMut_0 (by decide) h
end Mm
