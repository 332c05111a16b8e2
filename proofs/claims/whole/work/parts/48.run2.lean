section Do2
variable {fu : Nat} {σ : gSt} {v : gV} {X : Nat → Int32} {L : Nat}
theorem zx_run (hf : 70 < fu) (hL : L ≤ 60) (h : RC 10 v σ) (hW : WF v) (hT : TC X L σ) : ∃ τ, f_X3_run fu σ 3 10 = some τ ∧ FrX σ τ ∧ τ 3 3 = nI (runS X L 60 0 0 v).1 ∧ τ 3 4 = nI (runS X L 60 0 0 v).2.1 ∧ τ 3 5 = (runS X L 60 0 0 v).2.2.1 ∧ τ 3 6 = (runS X L 60 0 0 v).2.2.2.1 ∧ RC 82 (runS X L 60 0 0 v).2.2.2.2 τ := by
  unfold f_X3_run
  obtain ⟨τ, t0, t1, t2⟩ := zc_take (fu := fu) (σ := σ) (k0 := 82) (k1 := 10) (by omega) h hW.1
  rw [show f_X7_takeFrom fu σ (3 + 79) 10 = _ from t0, bd_some, lt_eq, lt_eq, lt_eq, lt_eq]
  obtain ⟨φ, g0, g1, g2⟩ := xr_W (fu := fu) (by omega) hL 60 0 0 fu v (gu (gu (gu (gu τ 3 (upd (τ 3) 3 0)) 3 (upd (gu τ 3 (upd (τ 3) 3 0) 3) 4 0)) 3 (upd (gu (gu τ 3 (upd (τ 3) 3 0)) 3 (upd (gu τ 3 (upd (τ 3) 3 0) 3) 4 0) 3) 5 0)) 3 (upd (gu (gu (gu τ 3 (upd (τ 3) 3 0)) 3 (upd (gu τ 3 (upd (τ 3) 3 0) 3) 4 0)) 3 (upd (gu (gu τ 3 (upd (τ 3) 3 0)) 3 (upd (gu τ 3 (upd (τ 3) 3 0) 3) 4 0) 3) 5 0) 3) 6 0)) (by omega) (by omega) (by omega) (by omega)
    (by simp (disch := omega) only [gu_s, up_n, up_e]; rfl) (by simp (disch := omega) only [gu_s, up_n, up_e]; rfl) (by simp (disch := omega) only [gu_s, up_n, up_e]) (by simp (disch := omega) only [gu_s, up_e])
    (RC_fr t1 (fun d d1 d2 => by simp (disch := omega) only [gu_n])) hW
    (TC_fr hT (by simp (disch := omega) only [gu_n]; exact t2 6 (by omega)) (by simp (disch := omega) only [gu_n]; exact t2 7 (by omega)))
  refine ⟨φ, g0, fun d hd => ?_, g2⟩
  rw [g1 d hd]
  simp (disch := omega) only [gu_n]
  exact t2 d (by omega)
/-- the cells of the model that a run of its orders touches -/
def FrP (σ τ : gSt) : Prop := (∀ d, d ≠ 94 → d ≠ 95 → d ≠ 99 → d ≠ 100 → d ≠ 101 → τ d = σ d) ∧ ∀ f, f ≠ 4 → f < 9 → τ 94 f = σ 94 f
theorem FrP_t {σ τ υ : gSt} (h1 : FrP σ τ) (h2 : FrP τ υ) : FrP σ υ := ⟨fun d d1 d2 d3 d4 d5 => (h2.1 d d1 d2 d3 d4 d5).trans (h1.1 d d1 d2 d3 d4 d5), fun f f1 f2 => (h2.2 f f1 f2).trans (h1.2 f f1 f2)⟩
theorem FrP_94 (σ : gSt) (i : Nat) (x : Int32) (h : i = 4 ∨ 9 ≤ i) : FrP σ (gu σ 94 (upd (σ 94) i x)) := ⟨fun d d1 _ _ _ _ => gu_n _ _ d1, fun f f1 f2 => by rw [gu_s, up_n _ _ (by omega)]⟩
theorem FrP_N {σ τ : gSt} (h : FrN σ τ) : FrP σ τ := ⟨fun d d1 _ _ _ d5 => h.1 d d1 d5, fun f f1 f2 => h.2 f (by omega) (by omega)⟩
theorem zp_end (fu : Nat) (σ : gSt) {x : Int32} (hx : x = 0 ∨ x = 1) : f_X10_plays_J124 fu 94 x σ = some (x, gu σ 94 (upd (σ 94) 4 0)) := by
  unfold f_X10_plays_J124
  rcases hx with rfl | rfl <;> rfl
theorem zp_stop (σ : gSt) (n : Nat) : f_X10_plays_W22 fu 94 (n + 1) 0 σ = some (0, gu σ 94 (upd (σ 94) 4 0)) := by
  rw [f_X10_plays_W22_s]
  unfold f_X10_plays_L22
  rw [zp_end fu σ (Or.inl rfl)]
  by_cases q : σ 94 6 ≤ σ 94 9
  · rw [if_pos q]
  · rw [if_neg q, if_pos rfl]
theorem zp_W (hf : 300 < fu) (hL : L ≤ 60) : ∀ (f p c n : Nat) (v : gV) (σ : gSt), f + 1 < n → L ≤ p + f → p ≤ L → σ 94 9 = nI p → σ 94 13 = nI c → σ 94 4 = 1 → RR v (σ 95) → WF v → TM X L σ →
    ∃ τ, f_X10_plays_W22 fu 94 n 1 σ = some (bi ((runS X L f p c v).2.2.1 = 0), τ) ∧ FrP σ τ ∧ τ 94 4 = 0 ∧ RR (runS X L f p c v).2.2.2.2 (τ 95) ∧ ((runS X L f p c v).2.2.1 = 0 → τ 94 13 = nI (runS X L f p c v).2.1) ∧ ((runS X L f p c v).2.2.1 ≠ 0 → τ 94 10 = nI (runS X L f p c v).1 ∧ τ 94 11 = (runS X L f p c v).2.2.1 ∧ τ 94 12 = (runS X L f p c v).2.2.2.1)
  | f, p, c, 0, _, _, z, _, _, _, _, _, _, _, _ => absurd z (by omega)
  | f, p, c, n + 1, v, σ, hn, hLp, hpL, e9, e13, e4, h, hW, hT => by
    rw [f_X10_plays_W22_s]
    unfold f_X10_plays_L22
    rw [hT.1, e9]
    rcases Nat.lt_or_ge p L with q | q
    · obtain ⟨f', rfl⟩ : ∃ f', f = f' + 1 := ⟨f - 1, by omega⟩
      have hb := pO_b X L p
      rw [if_neg (zl_le q (by omega)), if_neg (show ¬ (1 : Int32) = 0 by decide), lt_eq]
      have hT1 : TM X L (gu σ 94 (upd (σ 94) 10 (nI p))) := TM_fr hT (by rw [gu_s, up_n _ _ (by omega)]) (gu_n _ _ (by omega))
      obtain ⟨τ, t0, t1, t2, t3⟩ := zn_read (fu := fu) (by omega) hL q hT1 (by rw [gu_s, up_n _ _ (by omega)]; exact e9)
      have f1 : FrP σ τ := FrP_t (FrP_94 σ 10 _ (by omega)) (FrP_N t1)
      have hr : RR v (τ 95) := by rw [t1.1 95 (by omega) (by omega), gu_n _ _ (by omega)]; exact h
      have hT2 : TM X L τ := TM_fr hT1 (t1.2 6 (by omega) (by omega)) (t1.1 98 (by omega) (by omega))
      have e10 : τ 94 10 = nI p := by rw [t1.2 10 (by omega) (by omega), gu_s, up_e]
      have e4' : τ 94 4 = 1 := by rw [t1.2 4 (by omega) (by omega), gu_s, up_n _ _ (by omega)]; exact e4
      have e13' : τ 94 13 = nI c := by rw [t1.2 13 (by omega) (by omega), gu_s, up_n _ _ (by omega)]; exact e13
      obtain ⟨n', rfl⟩ : ∃ n', n = n' + 1 := ⟨n - 1, by omega⟩
      rw [t0, b2_some]
      by_cases ok : (pO X L p).1 = true
      · rw [if_neg (fun y => bi_0.mp y ok), bi_t ok]
        obtain ⟨k14, kN⟩ := t3 ok
        have hch : f_X10_changes fu τ 94 = some τ := by
          unfold f_X10_changes
          rw [e4', if_neg (by decide)]
        obtain ⟨υ, u0, u1, u2⟩ := mm_do (fu := fu) hf hr hW (pO_ok ok) hch k14 kN
        have u2' : ∀ d, d ≠ 95 → d ≠ 99 → d ≠ 100 → υ d = τ d := fun d d1 d2 d3 => by
          have := u2 d d1 d2 d3
          rw [this]
          split <;> rfl
        have f2 : FrP σ υ := FrP_t f1 ⟨fun d d1 d2 d3 d4 _ => u2' d d2 d3 d4, fun g g1 g2 => by rw [u2' 94 (by omega) (by omega) (by omega)]⟩
        have e94 : υ 94 = τ 94 := u2' 94 (by omega) (by omega) (by omega)
        rw [u0, b2_some]
        unfold f_X10_plays_J62 f_X10_plays_J76 f_X10_plays_J87 f_X10_plays_J108
        simp only [lt_eq, if_neg (show ¬ (1 : Int32) = 0 by decide)]
        by_cases neg : (doOp (X p) (pO X L p).2.2 v).1 < 0
        · rw [if_pos neg, zp_stop]
          have hR : runS X L (f' + 1) p c v = (p, c, 2, (doOp (X p) (pO X L p).2.2 v).1, v) := by
            show (if p < L then _ else _) = _
            rw [if_pos q, if_pos ok, if_pos neg]
          rw [hR]
          refine ⟨_, by rw [bi_f (show ¬ (2 : Int32) = 0 by decide)], ?_, ?_, ?_, fun y => absurd (show (2 : Int32) = 0 from y) (by decide), fun _ => ⟨?_, ?_, ?_⟩⟩
          · exact FrP_t f2 (FrP_t (FrP_94 _ _ _ (by omega)) (FrP_t (FrP_94 _ _ _ (by omega)) (FrP_t (FrP_94 _ _ _ (by omega)) (FrP_94 _ _ _ (by omega)))))
          · rw [gu_s, up_e]
          · simp (disch := omega) only [gu_n]
            have := same_do hW neg
            rw [this] at u1
            exact u1
          · simp (disch := omega) only [gu_s, up_n]
            rw [e94]
            exact e10
          · simp (disch := omega) only [gu_s, up_n, up_e]
          · simp (disch := omega) only [gu_s, up_n, up_e]
        · rw [if_neg neg]
          have hR : runS X L (f' + 1) p c v = runS X L f' (pO X L p).2.1 (c + 1) (doOp (X p) (pO X L p).2.2 v).2 := by
            show (if p < L then _ else _) = _
            rw [if_pos q, if_pos ok, if_neg neg]
          have hlt := hb.2.2 ok
          rw [hR]
          have fr3 := FrP_t (FrP_94 υ 11 2 (by omega)) (FrP_t (FrP_94 _ 12 (doOp (X p) (pO X L p).2.2 v).1 (by omega)) (FrP_94 _ 13 (gu (gu υ 94 (upd (υ 94) 11 2)) 94 (upd (gu υ 94 (upd (υ 94) 11 2) 94) 12 (doOp (X p) (pO X L p).2.2 v).1) 94 13 + 1) (by omega)))
          obtain ⟨φ, g0, g1, g2, g3, g4, g5⟩ := zp_W hf hL f' (pO X L p).2.1 (c + 1) (n' + 1) (doOp (X p) (pO X L p).2.2 v).2 _ (by omega) (by omega) (pO_le ok)
            (by simp (disch := omega) only [gu_s, up_n]; rw [e94]; exact t2)
            (by simp (disch := omega) only [gu_s, up_n, up_e]; rw [e94, e13', z_add1])
            (by simp (disch := omega) only [gu_s, up_n]; rw [e94]; exact e4')
            (by simp (disch := omega) only [gu_n]; exact u1) (wf_do hW _ _)
            (TM_fr hT2 ((fr3.2 6 (by omega) (by omega)).trans (by rw [e94])) ((fr3.1 98 (by omega) (by omega) (by omega) (by omega) (by omega)).trans (u2' 98 (by omega) (by omega) (by omega))))
          exact ⟨φ, g0, FrP_t f2 (FrP_t fr3 g1), g2, g3, g4, g5⟩
      · rw [if_pos (bi_0.mpr ok), bi_f ok]
        unfold f_X10_plays_J62 f_X10_plays_J76 f_X10_plays_J87 f_X10_plays_J108
        simp only [lt_eq, if_true]
        rw [zp_stop]
        have hR : runS X L (f' + 1) p c v = (p, c, 1, nI ((pO X L p).2.1 - p), v) := by
          show (if p < L then _ else _) = _
          rw [if_pos q, if_neg ok]
        rw [hR]
        refine ⟨_, by rw [bi_f (show ¬ (1 : Int32) = 0 by decide)], ?_, ?_, ?_, fun y => absurd (show (1 : Int32) = 0 from y) (by decide), fun _ => ⟨?_, ?_, ?_⟩⟩
        · exact FrP_t f1 (FrP_t (FrP_94 _ _ _ (by omega)) (FrP_t (FrP_94 _ _ _ (by omega)) (FrP_t (FrP_94 _ _ _ (by omega)) (FrP_94 _ _ _ (by omega)))))
        · rw [gu_s, up_e]
        · simp (disch := omega) only [gu_n]
          exact hr
        · simp (disch := omega) only [gu_s, up_n]
          exact e10
        · simp (disch := omega) only [gu_s, up_n, up_e]
        · simp (disch := omega) only [gu_s, up_n, up_e]
          rw [t2, e10]
          exact z_sub hb.1
    · have hpe : p = L := by omega
      rw [if_pos (zl_ge q (by omega)), runS_done q, zp_end fu σ (Or.inr rfl)]
      refine ⟨_, rfl, FrP_94 σ 4 0 (by omega), by rw [gu_s, up_e], by rw [gu_n _ _ (by omega)]; exact h, fun _ => by rw [gu_s, up_n _ _ (by omega)]; exact e13, fun y => absurd rfl y⟩
theorem zm_plays (hf : 300 < fu) (hL : L ≤ 60) (h : RR v (σ 95)) (hW : WF v) (hT : TM X L σ) : ∃ τ, f_X10_plays fu σ 94 = some (bi ((runS X L 60 0 0 v).2.2.1 = 0), τ) ∧ FrP σ τ ∧ τ 94 4 = 0 ∧ RR (runS X L 60 0 0 v).2.2.2.2 (τ 95) ∧ ((runS X L 60 0 0 v).2.2.1 = 0 → τ 94 13 = nI (runS X L 60 0 0 v).2.1) ∧ ((runS X L 60 0 0 v).2.2.1 ≠ 0 → τ 94 10 = nI (runS X L 60 0 0 v).1 ∧ τ 94 11 = (runS X L 60 0 0 v).2.2.1 ∧ τ 94 12 = (runS X L 60 0 0 v).2.2.2.1) := by
  unfold f_X10_plays
  simp only [lt_eq]
  have fr := FrP_t (FrP_94 σ 4 1 (by omega)) (FrP_t (FrP_94 _ 9 0 (by omega)) (FrP_t (FrP_94 _ 10 0 (by omega)) (FrP_94 _ 13 0 (by omega))))
  obtain ⟨φ, g0, g1, g2⟩ := zp_W (fu := fu) hf hL 60 0 0 fu v _ (by omega) (by omega) (by omega)
    (by simp (disch := omega) only [gu_s, up_n, up_e]; rfl) (by simp (disch := omega) only [gu_s, up_e]; rfl) (by simp (disch := omega) only [gu_s, up_n, up_e])
    (by simp (disch := omega) only [gu_n]; exact h) hW (TM_fr hT (fr.2 6 (by omega) (by omega)) (fr.1 98 (by omega) (by omega) (by omega) (by omega) (by omega)))
  exact ⟨φ, g0, FrP_t fr g1, g2⟩
theorem cp_W {k0 k1 : Nat} (hk : k0 ≠ k1) : ∀ (n i : Nat) (τ : gSt), i ≤ 284 → 284 - i < n → (∀ c, c ≠ k1 → τ c = σ c) → (∀ j, j < i → τ k1 j = σ k0 j) → ∃ υ, f_X10_copies_W2 fu k0 284 k1 284 n (nI i) τ = some υ ∧ (∀ c, c ≠ k1 → υ c = σ c) ∧ ∀ j, j < 284 → υ k1 j = σ k0 j
  | 0, _, _, _, q, _, _ => absurd q (by omega)
  | n + 1, i, τ, h1, h2, g1, g2 => by
    rw [f_X10_copies_W2_s]
    unfold f_X10_copies_L2
    rcases Nat.lt_or_ge i 284 with q | q
    · rw [if_neg (show ¬ 284 ≤ nI i from zo_le (n := 284) q (by omega)), rdN i rfl q (by omega), bd_some, wrN i rfl q (by omega), bd_some, z_add1]
      refine cp_W hk n (i + 1) _ q (by omega) (fun c hc => by rw [gu_n _ _ hc]; exact g1 c hc) (fun j hj => ?_)
      rw [gu_s]
      by_cases e : j = i
      · subst e
        rw [up_e, g1 k0 hk]
      · rw [up_n _ _ e]
        exact g2 j (by omega)
    · have e : i = 284 := by omega
      subst e
      rw [if_pos (show 284 ≤ nI 284 by decide)]
      exact ⟨τ, rfl, g1, g2⟩
theorem zm_copies (hf : 300 < fu) {k0 k1 : Nat} (hk : k0 ≠ k1) : ∃ υ, f_X10_copies fu σ k0 284 k1 284 = some υ ∧ (∀ c, c ≠ k1 → υ c = σ c) ∧ ∀ j, j < 284 → υ k1 j = σ k0 j :=
  cp_W hk fu 0 σ (by omega) (by omega) (fun _ _ => rfl) (fun j hj => absurd hj (Nat.not_lt_zero j))
end Do2
