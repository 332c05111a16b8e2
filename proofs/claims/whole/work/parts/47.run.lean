/-! ===== a run of orders ===== -/
theorem b2_id {α β : Type} (o : Option (α × β)) : (b2 o fun v σ => some (v, σ)) = o := by cases o <;> rfl
section Same
variable {v : gV}
theorem same_turn (hW : WF v) (b e p : Int32) (h : (opTurn v b e p).1 < 0) : (opTurn v b e p).2 = v := by
  have h1 := plV_le v b
  have h20 := hW.1.1
  unfold opTurn at h ⊢
  by_cases c : (0 ≤ b ∧ b < e ∧ e ≤ 1999) ∧ 50 ≤ p ∧ p ≤ 500
  · rw [if_pos c] at h ⊢
    by_cases q : vn v = 20
    · rw [if_pos q]
    · rw [if_neg q] at h
      exact absurd h (nI_pos (by omega))
  · rw [if_neg c]
theorem same_say (hW : WF v) (p t : Int32) (h : (opSay v p t).1 < 0) : (opSay v p t).2 = v := by
  have h20 := hW.1.1
  unfold opSay at h ⊢
  rcases ix_cases (vn v) p (by omega) with ⟨i, hi, rfl, hx⟩ | ⟨hp, hx⟩
  · rw [hx, el_s] at h ⊢
    have h8 := (hW.1.2.2 i hi).1
    by_cases c : 0 ≤ t ∧ t ≤ 15
    · rw [if_pos c] at h ⊢
      by_cases q : vC v i = 8
      · rw [if_pos q]
      · rw [if_neg q] at h
        exact absurd h (nI_pos (by omega))
    · rw [if_neg c]
  · rw [hx, el_n]
theorem same_part (hW : WF v) (p t x : Int32) (h : (opPart v p t x).1 < 0) : (opPart v p t x).2 = v := by
  have h20 := hW.1.1
  have h1 := plV_le v t
  unfold opPart at h ⊢
  rcases ix_cases (vn v) p (by omega) with ⟨i, hi, rfl, hx⟩ | ⟨hp, hx⟩
  · rw [hx, el_s] at h ⊢
    by_cases c : (vB v i < t ∧ t < vE v i) ∧ 0 ≤ x ∧ x ≤ nI (vC v i)
    · rw [if_pos c] at h ⊢
      by_cases q : vn v = 20
      · rw [if_pos q]
      · rw [if_neg q] at h
        exact absurd h (nI_pos (by omega))
    · rw [if_neg c]
  · rw [hx, el_n]
theorem same_rem (hW : WF v) (p : Int32) (h : (opRem v p).1 < 0) : (opRem v p).2 = v := by
  have h20 := hW.1.1
  unfold opRem at h ⊢
  rcases ix_cases (vn v) p (by omega) with ⟨i, hi, rfl, hx⟩ | ⟨hp, hx⟩
  · rw [hx, el_s] at h
    exact absurd h (nI_pos (by omega))
  · rw [hx, el_n]
theorem rsN_le (hW : WF v) {t u : Nat} (ht : t < 16) (hu16 : u ≤ 16) (hu : u = 0 ∨ (u - 1 < 16 ∧ ¬ hits (vT v) (u - 1) t)) : rsN v t (zEnd (vT v) t u) ≤ 160 := by
  obtain ⟨hw, hs, ho, hT, hA, -⟩ := hW
  have h20 := hw.1
  have := chg_le hw (uF (vT v) t u)
  rw [chg_eq hw hT (tb_of hT hA) ht hu16 hu] at this
  omega
theorem same_cor (hW : WF v) (x y : Int32) (h : (opCor v x y).1 < 0) : (opCor v x y).2 = v := by
  have hb := tb_of hW.2.2.2.1 hW.2.2.2.2.1
  unfold opCor at h ⊢
  by_cases e : spErr (vT v) x y = 0
  · obtain ⟨t, u, ht, hu, rfl, rfl, htu, hl⟩ := spErr_0 e
    have ok := cor_ok hb hu hl
    rw [if_pos e, nI_clamp (by omega), nI_clamp (by omega)] at h
    have hle := rsN_le hW ht (by omega) ok
    rw [show zEnd (vT v) t (u + 1) = sh (vT v) u from if_neg (by omega)] at hle
    exact absurd h (nI_pos (by omega))
  · rw [if_neg e]
theorem same_unc (hW : WF v) (x : Int32) (h : (opUnc v x).1 < 0) : (opUnc v x).2 = v := by
  unfold opUnc at h ⊢
  rcases z_ix16 x with ⟨t, ht, rfl, hx⟩ | ⟨hx, -⟩
  · rw [if_pos hx, nI_clamp (by omega)] at h ⊢
    by_cases q : vT v t = 0
    · rw [if_pos q]
    · rw [if_neg q] at h
      have hle := rsN_le hW ht (by omega) (u := 0) (Or.inl rfl)
      rw [show zEnd (vT v) t 0 = t from rfl] at hle
      exact absurd h (nI_pos (by omega))
  · rw [if_neg hx]
theorem same_spk (p : Int32) (h : (opSpk v p).1 < 0) : (opSpk v p).2 = v := by
  have h6 := (frS_le (vS v) 6 0).2
  unfold opSpk at h ⊢
  by_cases c : 50 ≤ p ∧ p ≤ 500
  · rw [if_pos c] at h ⊢
    by_cases q : frS (vS v) 0 6 = 6
    · rw [if_pos q]
    · rw [if_neg q] at h
      exact absurd h (nI_pos (by omega))
  · rw [if_neg c]
theorem same_giv (hW : WF v) (p s : Int32) (h : (opGiv v p s).1 < 0) : (opGiv v p s).2 = v := by
  have h20 := hW.1.1
  unfold opGiv at h ⊢
  rcases ix_cases (vn v) p (by omega) with ⟨i, hi, rfl, hx⟩ | ⟨hp, hx⟩
  · rw [hx, el_s] at h ⊢
    rcases vx_cases (vS v) s with ⟨a, h6, rfl, a0, hv⟩ | ⟨hv, -⟩
    · rw [hv, el_s] at h ⊢
      by_cases q : vO v i = nI a
      · rw [if_pos q]
      · rw [if_neg q] at h
        obtain ⟨m, hm, m1, m2⟩ := mn_in (w := ownV v (uF (vO v) i (nI a))) hW.1 (nI a) (d := vS v a) (by
          rcases hW.2.1.2 a h6 with z | z
          · exact absurd z a0
          · exact z)
        have h' : mnV (ownV v (uF (vO v) i (nI a))) (nI a) (vS v a) < 0 := h
        rw [hm] at h'
        exact absurd h' (nI_pos (by omega))
    · rw [hv, el_n]
  · rw [hx, el_n]
theorem same_joi (hW : WF v) (s o : Int32) (h : (opJoi v s o).1 < 0) : (opJoi v s o).2 = v := by
  have h20 := hW.1.1
  unfold opJoi at h ⊢
  rcases vx_cases (vS v) s with ⟨a, a6, rfl, a0, hv⟩ | ⟨hv, -⟩
  · rw [hv, el_s] at h ⊢
    rcases vx_cases (vS v) o with ⟨u, u6, rfl, u0, hu⟩ | ⟨hu, -⟩
    · rw [hu, el_s] at h ⊢
      by_cases q : nI a = nI u
      · rw [if_pos q]
      · rw [if_neg q] at h
        have hcn := cnt_le (vn v) (fun i => decide (vO (toV v a u) i = nI u))
        have h' : ctS (vn v) (fun i => decide (vO (toV v a u) i = nI u)) 0 < 0 := h
        rw [show ctS (vn v) (fun i => decide (vO (toV v a u) i = nI u)) 0 = nI (0 + sumN (vn v) (fun i => on1 (decide (vO (toV v a u) i = nI u)))) from ctS_sum _ 0 _] at h'
        exact absurd h' (nI_pos (by omega))
    · rw [hu, el_n]
  · rw [hv, el_n]
theorem same_set (hW : WF v) (w x : Int32) (h : (opSet v w x).1 < 0) : (opSet v w x).2 = v := by
  obtain ⟨a, ha, hva⟩ := hW.2.2.2.2.2
  unfold opSet at h ⊢
  by_cases c : w = 0
  · rw [if_pos c] at h ⊢
    by_cases q : 0 ≤ x ∧ x ≤ 200
    · rw [if_pos q] at h
      have h' : vA v < 0 := h
      rw [hva] at h'
      exact absurd h' (nI_pos (by omega))
    · rw [if_neg q]
  · rw [if_neg c]
end Same
def doOp (c : Int32) (N : Nat → Int32) (v : gV) : Int32 × gV := if c = 99 then opCor v (N 0) (N 1) else if c = 103 then opGiv v (N 0) (N 1) else if c = 115 then opSpk v (N 0) else if c = 116 then opTurn v (N 0) (N 1) (N 2) else opSay v (N 0) (N 1)
def runS (X : Nat → Int32) (L : Nat) : Nat → Nat → Nat → gV → Nat × Nat × Int32 × Int32 × gV
  | 0, p, c, v => (p, c, 0, 0, v)
  | f + 1, p, c, v => if p < L then (if (pO X L p).1 = true then (if (doOp (X p) (pO X L p).2.2 v).1 < 0 then (p, c, 2, (doOp (X p) (pO X L p).2.2 v).1, v) else runS X L f (pO X L p).2.1 (c + 1) (doOp (X p) (pO X L p).2.2 v).2) else (p, c, 1, nI ((pO X L p).2.1 - p), v)) else (p, c, 0, 0, v)
theorem do_cases (c : Int32) (h : wN c ≠ 0) : c = 99 ∨ c = 103 ∨ c = 115 ∨ c = 116 ∨ c = 119 := by
  unfold wN at h
  by_cases h1 : c = 99
  · exact Or.inl h1
  · rw [if_neg h1] at h
    by_cases h2 : c = 103
    · exact Or.inr (Or.inl h2)
    · rw [if_neg h2] at h
      by_cases h3 : c = 115
      · exact Or.inr (Or.inr (Or.inl h3))
      · rw [if_neg h3] at h
        by_cases h4 : c = 116
        · exact Or.inr (Or.inr (Or.inr (Or.inl h4)))
        · rw [if_neg h4] at h
          by_cases h5 : c = 119
          · exact Or.inr (Or.inr (Or.inr (Or.inr h5)))
          · rw [if_neg h5] at h
            exact absurd rfl h
theorem pO_ok {X : Nat → Int32} {L p : Nat} (h : (pO X L p).1 = true) : wN (X p) ≠ 0 := fun e => by
  unfold pO at h
  rw [if_pos e] at h
  exact absurd (show false = true from h) (by decide)
theorem prs_ok (X : Nat → Int32) (L : Nat) : ∀ (r k q : Nat) (N : Nat → Int32), (prs X L (r + 1) k q N).1 = true → (prs X L (r + 1) k q N).2.1 ≤ L
  | r, k, q, N => by
    intro h
    unfold prs at h ⊢
    by_cases h1 : (rNum X L q 4 0).1 = q
    · rw [if_pos h1] at h
      exact absurd (show false = true from h) (by decide)
    · rw [if_neg h1] at h ⊢
      by_cases h2 : sgB X L (rNum X L q 4 0).1 (if r = 0 then 59 else 44) = true
      · rw [if_pos h2] at h ⊢
        cases r with
        | zero => exact (sgB_t.mp h2).1
        | succ r => exact prs_ok X L r (k + 1) _ _ h
      · rw [if_neg h2] at h
        exact absurd (show false = true from h) (by decide)
theorem pO_le {X : Nat → Int32} {L p : Nat} (h : (pO X L p).1 = true) : (pO X L p).2.1 ≤ L := by
  have hw := pO_ok h
  unfold pO at h ⊢
  rw [if_neg hw] at h ⊢
  obtain ⟨m, hm⟩ : ∃ m, wN (X p) = m + 1 := ⟨wN (X p) - 1, by omega⟩
  rw [hm] at h ⊢
  exact prs_ok X L m 0 (p + 1) _ h
section Do
variable {fu : Nat} {σ : gSt} {v : gV} {X : Nat → Int32} {L : Nat}
theorem same_do (hW : WF v) {c : Int32} {N : Nat → Int32} (h : (doOp c N v).1 < 0) : (doOp c N v).2 = v := by
  unfold doOp at h ⊢
  by_cases h1 : c = 99
  · rw [if_pos h1] at h ⊢
    exact same_cor hW _ _ h
  · rw [if_neg h1] at h ⊢
    by_cases h2 : c = 103
    · rw [if_pos h2] at h ⊢
      exact same_giv hW _ _ h
    · rw [if_neg h2] at h ⊢
      by_cases h3 : c = 115
      · rw [if_pos h3] at h ⊢
        exact same_spk _ h
      · rw [if_neg h3] at h ⊢
        by_cases h4 : c = 116
        · rw [if_pos h4] at h ⊢
          exact same_turn hW _ _ _ h
        · rw [if_neg h4] at h ⊢
          exact same_say hW _ _ h
theorem wf_do (hW : WF v) (c : Int32) (N : Nat → Int32) : WF (doOp c N v).2 := by
  unfold doOp
  by_cases h1 : c = 99
  · rw [if_pos h1]
    exact wf_cor hW _ _
  · rw [if_neg h1]
    by_cases h2 : c = 103
    · rw [if_pos h2]
      exact wf_giv hW _ _
    · rw [if_neg h2]
      by_cases h3 : c = 115
      · rw [if_pos h3]
        exact wf_spk hW _
      · rw [if_neg h3]
        by_cases h4 : c = 116
        · rw [if_pos h4]
          exact wf_turn hW _ _ _
        · rw [if_neg h4]
          exact wf_say hW _ _
theorem cm_do (hf : 20 < fu) (h : RC 82 v σ) (hW : WF v) {c : Int32} {N : Nat → Int32} (hc : wN c ≠ 0) (e1 : σ 4 1 = c) (hN : ∀ j, j < wN c → σ 5 j = N j) : CMut 82 σ (f_X2_doOn fu σ 4 82) (doOp c N v) := by
  unfold f_X2_doOn doOp
  simp only [b2_id]
  rw [e1]
  rcases do_cases c hc with rfl | rfl | rfl | rfl | rfl
  · rw [if_pos rfl, if_pos rfl, show σ (4 + 1) 0 = N 0 from hN 0 (by decide), show σ (4 + 1) 1 = N 1 from hN 1 (by decide)]
    exact cm_cor hf h hW _ _
  · rw [if_neg (show ¬ (103 : Int32) = 99 by decide), if_neg (show ¬ (103 : Int32) = 99 by decide), if_pos rfl, if_pos rfl, show σ (4 + 1) 0 = N 0 from hN 0 (by decide), show σ (4 + 1) 1 = N 1 from hN 1 (by decide)]
    exact cm_giv hf h hW _ _
  · rw [if_neg (show ¬ (115 : Int32) = 99 by decide), if_neg (show ¬ (115 : Int32) = 99 by decide), if_neg (show ¬ (115 : Int32) = 103 by decide), if_neg (show ¬ (115 : Int32) = 103 by decide), if_pos rfl, if_pos rfl, show σ (4 + 1) 0 = N 0 from hN 0 (by decide)]
    exact cm_spk (by omega) h _
  · rw [if_neg (show ¬ (116 : Int32) = 99 by decide), if_neg (show ¬ (116 : Int32) = 99 by decide), if_neg (show ¬ (116 : Int32) = 103 by decide), if_neg (show ¬ (116 : Int32) = 103 by decide), if_neg (show ¬ (116 : Int32) = 115 by decide), if_neg (show ¬ (116 : Int32) = 115 by decide), if_pos rfl, if_pos rfl, show σ (4 + 1) 0 = N 0 from hN 0 (by decide), show σ (4 + 1) 1 = N 1 from hN 1 (by decide), show σ (4 + 1) 2 = N 2 from hN 2 (by decide)]
    exact cm_turn hf h hW _ _ _
  · rw [if_neg (show ¬ (119 : Int32) = 99 by decide), if_neg (show ¬ (119 : Int32) = 99 by decide), if_neg (show ¬ (119 : Int32) = 103 by decide), if_neg (show ¬ (119 : Int32) = 103 by decide), if_neg (show ¬ (119 : Int32) = 115 by decide), if_neg (show ¬ (119 : Int32) = 115 by decide), if_neg (show ¬ (119 : Int32) = 116 by decide), if_neg (show ¬ (119 : Int32) = 116 by decide), if_pos rfl, show σ (4 + 1) 0 = N 0 from hN 0 (by decide), show σ (4 + 1) 1 = N 1 from hN 1 (by decide)]
    exact cm_say h hW _ _
theorem mm_do (hf : 300 < fu) (h : RR v (σ 95)) (hW : WF v) {c : Int32} {N : Nat → Int32} (hc : wN c ≠ 0) (hch : f_X10_changes fu σ 94 = some σ) (e1 : σ 94 14 = c) (hN : ∀ j, j < wN c → σ 101 j = N j) : MMut 94 σ σ (f_X10_calls fu σ 94) (doOp c N v) := by
  unfold f_X10_calls doOp
  simp only [b2_id]
  rw [e1]
  rcases do_cases c hc with rfl | rfl | rfl | rfl | rfl
  · rw [if_pos rfl, if_pos rfl, show σ (94 + 7) 0 = N 0 from hN 0 (by decide), show σ (94 + 7) 1 = N 1 from hN 1 (by decide)]
    exact mm_cor (k := 94) (by omega) h hW hch rfl _ _
  · simp only [if_neg (show ¬ (103 : Int32) = 99 by decide), if_neg (show ¬ (103 : Int32) = 115 by decide), if_neg (show ¬ (103 : Int32) = 116 by decide), if_neg (show ¬ (103 : Int32) = 119 by decide), if_true]
    rw [show σ (94 + 7) 0 = N 0 from hN 0 (by decide), show σ (94 + 7) 1 = N 1 from hN 1 (by decide)]
    exact mm_giv (k := 94) (by omega) h hW hch rfl _ _
  · simp only [if_neg (show ¬ (115 : Int32) = 99 by decide), if_neg (show ¬ (115 : Int32) = 103 by decide), if_true]
    rw [show σ (94 + 7) 0 = N 0 from hN 0 (by decide)]
    exact mm_spk (k := 94) (by omega) h hW hch rfl _
  · simp only [if_neg (show ¬ (116 : Int32) = 99 by decide), if_neg (show ¬ (116 : Int32) = 103 by decide), if_neg (show ¬ (116 : Int32) = 115 by decide), if_true]
    rw [show σ (94 + 7) 0 = N 0 from hN 0 (by decide), show σ (94 + 7) 1 = N 1 from hN 1 (by decide), show σ (94 + 7) 2 = N 2 from hN 2 (by decide)]
    exact mm_turn (k := 94) hf h hW hch rfl _ _ _
  · simp only [if_neg (show ¬ (119 : Int32) = 99 by decide), if_neg (show ¬ (119 : Int32) = 103 by decide), if_neg (show ¬ (119 : Int32) = 115 by decide), if_neg (show ¬ (119 : Int32) = 116 by decide), if_true]
    rw [show σ (94 + 7) 0 = N 0 from hN 0 (by decide), show σ (94 + 7) 1 = N 1 from hN 1 (by decide)]
    exact mm_say (k := 94) h hW hch rfl _ _
theorem runS_done {f p c : Nat} (h : L ≤ p) : runS X L f p c v = (p, c, 0, 0, v) := by
  cases f with
  | zero => rfl
  | succ f => exact if_neg (by omega)
/-- the cells of a review -/
def FrX (σ τ : gSt) : Prop := ∀ d, d < 3 ∨ (5 < d ∧ d < 82) ∨ 94 ≤ d → τ d = σ d
theorem xr_W (hf : 20 < fu) (hL : L ≤ 60) : ∀ (f p c n : Nat) (v : gV) (σ : gSt), f + 1 < n → L ≤ p + f → p ≤ L → c ≤ p → σ 3 3 = nI p → σ 3 4 = nI c → σ 3 5 = 0 → σ 3 6 = 0 → RC 82 v σ → WF v → TC X L σ →
    ∃ τ, f_X3_run_W28 fu 3 10 n σ = some τ ∧ FrX σ τ ∧ τ 3 3 = nI (runS X L f p c v).1 ∧ τ 3 4 = nI (runS X L f p c v).2.1 ∧ τ 3 5 = (runS X L f p c v).2.2.1 ∧ τ 3 6 = (runS X L f p c v).2.2.2.1 ∧ RC 82 (runS X L f p c v).2.2.2.2 τ
  | f, p, c, 0, _, _, z, _, _, _, _, _, _, _, _, _, _ => absurd z (by omega)
  | f, p, c, n + 1, v, σ, hn, hLp, hpL, hcp, e3, e4, e5, e6, h, hW, hT => by
    rcases Nat.lt_or_ge p L with q | q
    · obtain ⟨f', rfl⟩ : ∃ f', f = f' + 1 := ⟨f - 1, by omega⟩
      have hb := pO_b X L p
      rw [f_X3_run_W28_s]
      unfold f_X3_run_L28 f_X6_length f_X2_isWhole
      rw [e4, if_neg (show ¬ 60 ≤ nI c from zo_le (n := 60) (by omega) (by omega)), bd_some, show σ (3 + 3) 1 = nI L from hT.1, e3, if_neg (zl_le q (by omega)), if_pos e5]
      obtain ⟨τ, t0, t1, t2, t3, t4, t5⟩ := zx_read (fu := fu) (by omega) hL q hT
      rw [show f_X2_readFrom fu σ (3 + 1) (3 + 3) (nI p) = _ from t0, bd_some, show τ (3 + 1) 3 = _ from t4, bi_zb, bd_some]
      have hr : RC 82 v τ := RC_fr h (fun d d1 d2 => t1 d (by omega) (by omega))
      by_cases ok : (pO X L p).1 = true
      · rw [if_neg (fun y => bi_0.mp y ok)]
        obtain ⟨υ, u0, u1, u2⟩ := cm_do (fu := fu) hf hr hW (pO_ok ok) t2 (t5 ok)
        rw [show f_X2_doOn fu τ (3 + 1) (3 + 79) = _ from u0, b2_some]
        unfold f_X3_run_J99 f_X3_noteAnswer f_X2_isWhole f_X2_length
        have e43 : υ (3 + 1) 3 = 1 := by
          rw [show (3 + 1) = 4 from rfl, u2 4 (by omega), t4]
          exact bi_t ok
        have e42 : υ (3 + 1) 2 = nI ((pO X L p).2.1 - p) := by
          rw [show (3 + 1) = 4 from rfl, u2 4 (by omega)]
          exact t3
        have e3' : υ 3 = σ 3 := by rw [u2 3 (by omega), t1 3 (by omega) (by omega)]
        rw [e43, zb_1, bd_some, if_neg (show ¬ (1 : Int32) = 0 by decide)]
        by_cases neg : (doOp (X p) (pO X L p).2.2 v).1 < 0
        · rw [if_neg (z_nle.mpr neg), lt_eq, lt_eq, bd_some]
          obtain ⟨n', rfl⟩ : ∃ n', n = n' + 1 := ⟨n - 1, by omega⟩
          rw [f_X3_run_W28_s]
          unfold f_X3_run_L28 f_X6_length
          simp (disch := omega) only [gu_s, up_n, up_e]
          rw [bd_some, if_neg (show ¬ (2 : Int32) = 0 by decide)]
          have hR : runS X L (f' + 1) p c v = (p, c, 2, (doOp (X p) (pO X L p).2.2 v).1, v) := by
            show (if p < L then _ else _) = _
            rw [if_pos q, if_pos ok, if_pos neg]
          have hall : ∀ (P Q : Prop) [Decidable P] [Decidable Q] (s : gSt), (if P then some s else if Q then some s else some s) = some s := by
            intro P Q _ _ s
            by_cases hP : P
            · rw [if_pos hP]
            · rw [if_neg hP]
              by_cases hQ : Q
              · rw [if_pos hQ]
              · rw [if_neg hQ]
          rw [hall, hR]
          refine ⟨_, rfl, fun d hd => ?_, ?_, ?_, ?_, ?_, ?_⟩
          · simp (disch := omega) only [gu_n]
            rw [u2 d (by omega), t1 d (by omega) (by omega)]
          · simp (disch := omega) only [gu_s, up_n]
            rw [e3', e3]
          · simp (disch := omega) only [gu_s, up_n]
            rw [e3', e4]
          · simp (disch := omega) only [gu_s, up_n, up_e]
          · simp (disch := omega) only [gu_s, up_e]
          · have := same_do hW neg
            rw [this] at u1
            exact RC_fr u1 (fun d d1 d2 => by simp (disch := omega) only [gu_n])
        · rw [if_pos (z_nlt.mp neg), bd_some, lt_eq, lt_eq, bd_some]
          have hR : runS X L (f' + 1) p c v = runS X L f' (pO X L p).2.1 (c + 1) (doOp (X p) (pO X L p).2.2 v).2 := by
            show (if p < L then _ else _) = _
            rw [if_pos q, if_pos ok, if_neg neg]
          have hlt := hb.2.2 ok
          have hle : (pO X L p).2.1 ≤ L := pO_le ok
          rw [hR]
          obtain ⟨φ, g0, g1, g2, g3, g4, g5, g6⟩ := xr_W hf hL f' (pO X L p).2.1 (c + 1) n (doOp (X p) (pO X L p).2.2 v).2 (gu (gu υ 3 (upd (υ 3) 3 (υ 3 3 + υ (3 + 1) 2))) 3 (upd (gu υ 3 (upd (υ 3) 3 (υ 3 3 + υ (3 + 1) 2)) 3) 4 (gu υ 3 (upd (υ 3) 3 (υ 3 3 + υ (3 + 1) 2)) 3 4 + 1))) (by omega) (by omega) hle (by omega)
            (by simp (disch := omega) only [gu_s, up_n, up_e]; rw [e3', e3, e42, nI_add]; congr 1; omega)
            (by simp (disch := omega) only [gu_s, up_n, up_e]; rw [e3', e4, z_add1])
            (by simp (disch := omega) only [gu_s, up_n]; rw [e3']; exact e5)
            (by simp (disch := omega) only [gu_s, up_n]; rw [e3']; exact e6)
            (RC_fr u1 (fun d d1 d2 => by simp (disch := omega) only [gu_n])) (wf_do hW _ _)
            (TC_fr hT (by simp (disch := omega) only [gu_n]; rw [u2 6 (by omega), t1 6 (by omega) (by omega)]) (by simp (disch := omega) only [gu_n]; rw [u2 7 (by omega), t1 7 (by omega) (by omega)]))
          refine ⟨φ, g0, fun d hd => ?_, g2, g3, g4, g5, g6⟩
          rw [g1 d hd]
          simp (disch := omega) only [gu_n]
          rw [u2 d (by omega), t1 d (by omega) (by omega)]
      · rw [if_pos (bi_0.mpr ok)]
        unfold f_X3_run_J99 f_X3_noteAnswer f_X2_isWhole f_X2_length
        have e43 : τ (3 + 1) 3 = 0 := t4.trans (bi_f ok)
        rw [e43, zb_0, bd_some, if_pos rfl, lt_eq, bd_some, lt_eq, bd_some]
        obtain ⟨n', rfl⟩ : ∃ n', n = n' + 1 := ⟨n - 1, by omega⟩
        rw [f_X3_run_W28_s]
        unfold f_X3_run_L28 f_X6_length
        simp (disch := omega) only [gu_s, gu_n, up_n, up_e]
        rw [bd_some, if_neg (show ¬ (1 : Int32) = 0 by decide)]
        have e3' : τ 3 = σ 3 := t1 3 (by omega) (by omega)
        have hR : runS X L (f' + 1) p c v = (p, c, 1, nI ((pO X L p).2.1 - p), v) := by
          show (if p < L then _ else _) = _
          rw [if_pos q, if_neg ok]
        have hall : ∀ (P Q : Prop) [Decidable P] [Decidable Q] (s : gSt), (if P then some s else if Q then some s else some s) = some s := by
          intro P Q _ _ s
          by_cases hP : P
          · rw [if_pos hP]
          · rw [if_neg hP]
            by_cases hQ : Q
            · rw [if_pos hQ]
            · rw [if_neg hQ]
        rw [hall, hR]
        refine ⟨_, rfl, fun d hd => ?_, ?_, ?_, ?_, ?_, ?_⟩
        · simp (disch := omega) only [gu_n]
          exact t1 d (by omega) (by omega)
        · simp (disch := omega) only [gu_s, up_n]
          rw [e3', e3]
        · simp (disch := omega) only [gu_s, up_n]
          rw [e3', e4]
        · simp (disch := omega) only [gu_s, up_n, up_e]
        · simp (disch := omega) only [gu_s, up_e]
          exact t3
        · exact RC_fr hr (fun d d1 d2 => by simp (disch := omega) only [gu_n])
    · have hpe : p = L := by omega
      rw [f_X3_run_W28_s, runS_done q]
      unfold f_X3_run_L28 f_X6_length
      rw [bd_some, show σ (3 + 3) 1 = nI L from hT.1, e3, if_pos (zl_ge q (by omega))]
      have : (if 60 ≤ σ 3 4 then some σ else some σ) = some σ := by split <;> rfl
      rw [this]
      exact ⟨σ, rfl, fun _ _ => rfl, e3, e4, e5, e6, h⟩
end Do
