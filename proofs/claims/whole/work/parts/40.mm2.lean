section Mm2
variable {fu k : Nat} {σ σ1 : gSt} {v : gV}
theorem op_del {p N : Nat} (hp : p < N) (hN : N ≤ 20) : ∀ (n m : Nat) (τ : gSt), 13 * p ≤ m → m ≤ 13 * (N - 1) → 13 * (N - 1) - m < n → (∀ c, c ≠ k + 1 → τ c = σ c) → τ (k + 1) 282 = nI (N - 1) → (∀ j, 13 * p ≤ j → j < m → τ (k + 1) j = σ (k + 1) (j + 13)) → (∀ j, j < 13 * p ∨ m ≤ j → j ≠ 282 → τ (k + 1) j = σ (k + 1) j) →
    ∃ υ, f_X10_remove_W32 fu k (nI p) n (nI m) τ = some (nI (N - 1), υ) ∧ (∀ c, c ≠ k + 1 → υ c = σ c) ∧ υ (k + 1) 282 = nI (N - 1) ∧ (∀ j, 13 * p ≤ j → j < 13 * (N - 1) → υ (k + 1) j = σ (k + 1) (j + 13)) ∧ (∀ j, j < 13 * p ∨ 13 * (N - 1) ≤ j → j ≠ 282 → υ (k + 1) j = σ (k + 1) j)
  | 0, _, _, _, _, z, _, _, _, _ => absurd z (by omega)
  | n + 1, m, τ, h1, h2, h3, g1, g0, g2, g3 => by
    rw [f_X10_remove_W32_s]
    unfold f_X10_remove_L32
    rw [g0, z_x13]
    rcases Nat.lt_or_ge m (13 * (N - 1)) with z | z
    · rw [if_neg (zl_le z (by omega)), show nI m + 13 = nI (m + 13) from nI_add m 13, rdN (m + 13) rfl (by omega) (by omega), bd_some, g3 (m + 13) (Or.inr (by omega)) (by omega), wrN m rfl (by omega) (by omega), bd_some, z_add1]
      refine op_del hp hN n (m + 1) _ (by omega) z (by omega) (fun c hc => ?_) ?_ (fun j j1 j2 => ?_) (fun j j1 j2 => ?_)
      · rw [gu_n _ _ hc]
        exact g1 c hc
      · rw [gu_s, up_n _ _ (by omega)]
        exact g0
      · rw [gu_s]
        by_cases y : j = m
        · subst y
          rw [up_e]
        · rw [up_n _ _ y]
          exact g2 j j1 (by omega)
      · rw [gu_s, up_n _ _ (by omega)]
        exact g3 j (by omega) j2
    · have hm : m = 13 * (N - 1) := by omega
      subst hm
      rw [if_pos (zl_ge (Nat.le_refl _) (by omega))]
      exact ⟨τ, rfl, g1, g0, g2, g3⟩
theorem mm_rem (hf : 300 < fu) (h : RR v (σ (k + 1))) (hW : WF v) (hc : f_X10_changes fu σ k = some σ1) (e1 : σ1 (k + 1) = σ (k + 1)) (p : Int32) : MMut k σ σ1 (f_X10_remove fu σ k p) (opRem v p) := by
  obtain ⟨hw, hs, -⟩ := hW
  have h20 := hw.1
  have h1 : RR v (σ1 (k + 1)) := by rw [e1]; exact h
  unfold f_X10_remove opRem
  rcases ix_cases (vn v) p (by omega) with ⟨i, hi, rfl, hx⟩ | ⟨hp, hx⟩
  · rw [hx, el_s, zm_isTurn_in (zr_to h) hw hi, bd_some, if_neg (show ¬ (1 : Int32) = 0 by decide), hc, bd_some, h1.1, show nI (vn v) - 1 = nI (vn v - 1) from z_sub (b := 1) (by omega), wrN (i := 282) 282 rfl (by omega) (by omega), bd_some, z_x13]
    obtain ⟨υ, u0, u1, u2, u3, u4⟩ := op_del (fu := fu) (k := k) (σ := σ1) hi h20 fu (13 * i) (gu σ1 (k + 1) (upd (σ1 (k + 1)) 282 (nI (vn v - 1)))) (Nat.le_refl _) (by omega) (by omega) (fun c hc => gu_n _ _ hc) (by rw [gu_s, up_e]) (fun j j1 j2 => absurd j1 (by omega)) (fun j j1 j2 => by rw [gu_s, up_n _ _ j2])
    rw [u0]
    exact MMut_1 (nI_pos (by omega)) (RR_del h1 hw hi u2 u3 (fun j j1 => u4 j (Or.inl j1) (by omega)) (fun j j1 j2 => u4 j (Or.inr (by omega)) j2)) (fun c c1 _ _ => u1 c c1)
  · rw [hx, el_n, zm_isTurn (zr_to h) hw, hx, bd_some, if_pos (by decide)]
    exact MMut_0 (by decide) h
theorem RR_S {r : Nat → Int32} (h : RR v r) (hw : vn v ≤ 20) (hc : ∀ i, i < vn v → vC v i ≤ 8) {s : Nat} (hs : s < 6) (x : Int32) : RR (pitV v (uF (vS v) s x)) (upd r (276 + s) x) := by
  refine ⟨?_, fun l hl => ?_, fun t ht => ?_, fun t ht => ?_, ?_⟩
  · rw [up_n _ _ (by omega)]
    exact h.1
  · have hl' : l < vn v := hl
    obtain ⟨g1, g2, g3, g4, g5, g6⟩ := h.2.1 l hl'
    have h8 := hc l hl'
    simp (disch := omega) only [up_n]
    refine ⟨g1, g2, g3, g4, g5, fun j hj => ?_⟩
    have hj' : j < vC v l := hj
    rw [up_n _ _ (by omega)]
    exact g6 j hj
  · rw [up_n _ _ (by omega)]
    exact h.2.2.1 t ht
  · show upd r (276 + s) x (276 + t) = uF (vS v) s x t
    by_cases q : t = s
    · subst q
      rw [up_e, uF_e]
    · rw [up_n _ _ (by omega), uF_n _ _ q]
      exact h.2.2.2.1 t ht
  · rw [up_n _ _ (by omega)]
    exact h.2.2.2.2
theorem RR_T {r : Nat → Int32} (h : RR v r) (hw : WT v) {t : Nat} (ht : t < 16) (u : Nat) : RR (tgtV v (uF (vT v) t u)) (upd r (260 + t) (en u)) := by
  have h20 := hw.1
  refine ⟨?_, fun l hl => ?_, fun s hs => ?_, fun s hs => ?_, ?_⟩
  · rw [up_n _ _ (by omega)]
    exact h.1
  · have hl' : l < vn v := hl
    obtain ⟨g1, g2, g3, g4, g5, g6⟩ := h.2.1 l hl'
    have h8 := (hw.2.2 l hl').1
    simp (disch := omega) only [up_n]
    refine ⟨g1, g2, g3, g4, g5, fun j hj => ?_⟩
    have hj' : j < vC v l := hj
    rw [up_n _ _ (by omega)]
    exact g6 j hj
  · show upd r (260 + t) (en u) (260 + s) = en (uF (vT v) t u s)
    by_cases q : s = t
    · subst q
      rw [up_e, uF_e]
    · rw [up_n _ _ (by omega), uF_n _ _ q]
      exact h.2.2.1 s hs
  · rw [up_n _ _ (by omega)]
    exact h.2.2.2.1 s hs
  · rw [up_n _ _ (by omega)]
    exact h.2.2.2.2
theorem RR_O {r : Nat → Int32} (h : RR v r) (hw : WT v) {i : Nat} (hi : i < vn v) (x : Int32) : RR (ownV v (uF (vO v) i x)) (upd r (13 * i + 3) x) := by
  have h20 := hw.1
  refine ⟨?_, fun l hl => ?_, fun s hs => ?_, fun s hs => ?_, ?_⟩
  · rw [up_n _ _ (by omega)]
    exact h.1
  · have hl' : l < vn v := hl
    obtain ⟨g1, g2, g3, g4, g5, g6⟩ := h.2.1 l hl'
    have h8 := (hw.2.2 l hl').1
    show _ ∧ _ ∧ _ ∧ _ = uF (vO v) i x l ∧ _ ∧ ∀ j, j < vC v l → _
    by_cases q : l = i
    · subst q
      rw [uF_e]
      simp (disch := omega) only [up_n, up_e]
      exact ⟨g1, g2, g3, trivial, g5, fun j hj => g6 j hj⟩
    · rw [uF_n _ _ q]
      simp (disch := omega) only [up_n]
      refine ⟨g1, g2, g3, g4, g5, fun j hj => ?_⟩
      rw [up_n _ _ (by omega)]
      exact g6 j hj
  · rw [up_n _ _ (by omega)]
    exact h.2.2.1 s hs
  · rw [up_n _ _ (by omega)]
    exact h.2.2.2.1 s hs
  · rw [up_n _ _ (by omega)]
    exact h.2.2.2.2
theorem mm_set (h : RR v (σ (k + 1))) (hW : WF v) (hc : f_X10_changes fu σ k = some σ1) (e1 : σ1 (k + 1) = σ (k + 1)) (w x : Int32) : MMut k σ σ1 (f_X10_set fu σ k w x) (opSet v w x) := by
  obtain ⟨hw, hs, ho, hT, hA, a, ha, hva⟩ := hW
  have h20 := hw.1
  unfold f_X10_set opSet
  by_cases hw0 : w = 0
  · rw [if_pos hw0, if_pos hw0, zm_in, bd_some]
    by_cases hx : 0 ≤ x ∧ x ≤ 200
    · rw [if_neg (fun z => bi_0.mp z hx), if_pos hx, hc, bd_some, wrN (i := 283) 283 rfl (by omega) (by omega), bd_some, e1, h.2.2.2.2]
      refine MMut_1 (by rw [hva]; exact nI_pos (by omega)) ?_ (fun c c1 _ _ => gu_n _ _ c1)
      rw [gu_s]
      refine ⟨?_, fun l hl => ?_, fun s hs => ?_, fun s hs => ?_, ?_⟩
      · rw [up_n _ _ (by omega)]
        exact h.1
      · have hl' : l < vn v := hl
        obtain ⟨g1, g2, g3, g4, g5, g6⟩ := h.2.1 l hl'
        have h8 := (hw.2.2 l hl').1
        simp (disch := omega) only [up_n]
        refine ⟨g1, g2, g3, g4, g5, fun j hj => ?_⟩
        have hj' : j < vC v l := hj
        rw [up_n _ _ (by omega)]
        exact g6 j hj
      · rw [up_n _ _ (by omega)]
        exact h.2.2.1 s hs
      · rw [up_n _ _ (by omega)]
        exact h.2.2.2.1 s hs
      · rw [up_e]
        rfl
    · rw [if_pos (bi_0.mpr hx), if_neg hx]
      exact MMut_0 (by decide) h
  · rw [if_neg hw0, if_neg hw0]
    exact MMut_0 (by decide) h
theorem sp_1 (h : RR v (σ (k + 1))) (hs : WS v) (p : Int32) : ∀ (n s : Nat), s ≤ 6 → 6 - s < n → f_X10_speaker_W17 fu k p σ n (nI s) = f_X10_speaker_J42 fu k p (nI (frS (vS v) s (6 - s))) σ
  | 0, _, _, q => absurd q (by omega)
  | n + 1, s, h1, h2 => by
    rw [f_X10_speaker_W17_s]
    unfold f_X10_speaker_L17
    rcases Nat.lt_or_ge s 6 with q | q
    · rw [if_neg (show ¬ 6 ≤ nI s from zo_le (n := 6) q (by omega)), zm_rdS (zr_to h) q, bd_some, show 6 - s = (6 - (s + 1)) + 1 by omega]
      unfold frS
      by_cases e : vS v s = 0
      · rw [if_pos ((sS0 hs q).mpr e), if_pos e]
      · rw [if_neg (fun z => e ((sS0 hs q).mp z)), if_neg e, z_add1]
        exact sp_1 h hs p n (s + 1) (by omega) (by omega)
    · have e : s = 6 := by omega
      subst e
      rw [if_pos (show 6 ≤ nI 6 by decide)]
      rfl
theorem mm_spk (hf : 6 < fu) (h : RR v (σ (k + 1))) (hW : WF v) (hc : f_X10_changes fu σ k = some σ1) (e1 : σ1 (k + 1) = σ (k + 1)) (p : Int32) : MMut k σ σ1 (f_X10_speaker fu σ k p) (opSpk v p) := by
  obtain ⟨hw, hs, -⟩ := hW
  have h6 := (frS_le (vS v) 6 0).2
  have h1 : RR v (σ1 (k + 1)) := by rw [e1]; exact h
  unfold f_X10_speaker opSpk
  rw [zm_in, bd_some]
  by_cases hp : 50 ≤ p ∧ p ≤ 500
  · rw [if_neg (fun z => bi_0.mp z hp), if_pos hp, show f_X10_speaker_W17 fu k p σ fu 0 = _ from sp_1 h hs p fu 0 (by omega) (by omega)]
    unfold f_X10_speaker_J42
    by_cases q : frS (vS v) 0 6 = 6
    · rw [if_pos q, show 6 - 0 = 6 from rfl, q, if_pos (show nI 6 = 6 from rfl)]
      exact MMut_0 (by decide) h
    · rw [if_neg q, show 6 - 0 = 6 from rfl, if_neg (show ¬ nI (frS (vS v) 0 6) = 6 from fun z => q ((z_eq (b := 6) (by omega) (by omega)).mp z)), hc, bd_some, wrN (276 + frS (vS v) 0 6) (z_plus 276 _) (by omega) (by omega), bd_some]
      refine MMut_1 (nI_pos (by omega)) ?_ (fun c c1 _ _ => gu_n _ _ c1)
      rw [gu_s]
      exact RR_S h1 hw.1 (fun i hi => (hw.2.2 i hi).1) (by omega) p
  · rw [if_pos (bi_0.mpr hp), if_neg hp]
    exact MMut_0 (by decide) h
theorem zm_tunes (hf : 20 < fu) (h : RR v (σ (k + 1))) (hw : WT v) {s : Nat} (h6 : s < 6) : f_X10_tunes fu σ k (nI s) = some (gu σ (k + 1) (upd (σ (k + 1)) (276 + s) (mnV v (nI s) (vS v s)))) := by
  have h20 := hw.1
  have hcn := cnt_le (vn v) (fun i => decide (vO v i = nI s))
  have key := lpU0 (fun n i t => f_X10_tunes_W4 fu k (nI s) σ n t (nI i)) (vn v) (fun i acc => if decide (vO v i = nI s) = true then acc + vP v i else acc) (fun t => some (gu σ (k + 1) (upd (σ (k + 1)) (276 + s) (if sumN (vn v) (fun i => on1 (decide (vO v i = nI s))) = 0 then vS v s else t / nI (sumN (vn v) (fun i => on1 (decide (vO v i = nI s)))))))) (fun n i t hi => ?_) (fun n t => ?_) fu 0 (by omega)
  · exact key
  · rw [f_X10_tunes_W4_s]
    unfold f_X10_tunes_L4
    rw [h.1, if_neg (zl_le hi (by omega)), zm_O (zr_to h) hw hi, bd_some, zm_P (zr_to h) hw hi, bd_some, z_add1]
    by_cases e : vO v i = nI s
    · rw [if_pos e, if_pos (decide_eq_true e)]
    · rw [if_neg e, if_neg (fun z => e (of_decide_eq_true z)), Int32.add_zero]
  · rw [f_X10_tunes_W4_s]
    unfold f_X10_tunes_L4 f_X10_tunes_J80
    rw [h.1, if_pos (zl_ge (Nat.le_refl _) (by omega)), zm_turnsOf hf (zr_to h) hw, bd_some, show ctS (vn v) (fun i => decide (vO v i = nI s)) 0 = nI (0 + sumN (vn v) (fun i => on1 (decide (vO v i = nI s)))) from ctS_sum _ 0 _, Nat.zero_add]
    by_cases q : sumN (vn v) (fun i => on1 (decide (vO v i = nI s))) = 0
    · rw [if_pos ((nI_0iff (by omega)).mpr q), if_pos q, zm_rdS (zr_to h) h6, bd_some, wrN (276 + s) (z_plus 276 s) (by omega) (by omega), bd_some]
    · rw [if_neg (fun z => q ((nI_0iff (by omega)).mp z)), if_neg q]
      unfold dv
      rw [if_neg (z_ne0 (by omega) (by omega)), bd_some, wrN (276 + s) (z_plus 276 s) (by omega) (by omega), bd_some]
theorem sum_lin {g : Nat → Nat} {c : Nat → Bool} : ∀ n, (∀ i, i < n → 50 ≤ g i ∧ g i ≤ 500) → 50 * sumN n (fun i => on1 (c i)) ≤ sumN n (fun i => if c i = true then g i else 0) ∧ sumN n (fun i => if c i = true then g i else 0) ≤ 500 * sumN n (fun i => on1 (c i))
  | 0, _ => ⟨Nat.le_refl _, Nat.le_refl _⟩
  | n + 1, h => by
    have h1 := sum_lin n (fun i hi => h i (by omega)) (g := g) (c := c)
    have h2 := h n (by omega)
    show 50 * (sumN n (fun i => on1 (c i)) + on1 (c n)) ≤ sumN n (fun i => if c i = true then g i else 0) + (if c n = true then g n else 0) ∧ sumN n (fun i => if c i = true then g i else 0) + (if c n = true then g n else 0) ≤ 500 * (sumN n (fun i => on1 (c i)) + on1 (c n))
    by_cases q : c n = true
    · rw [on1_t q, if_pos q]
      omega
    · rw [on1_f q, if_neg q]
      omega
theorem mn_in {w : gV} (hw : WT w) (s : Int32) {d : Int32} (hd : ∃ p : Nat, d = nI p ∧ 50 ≤ p ∧ p ≤ 500) : ∃ p : Nat, mnV w s d = nI p ∧ 50 ≤ p ∧ p ≤ 500 := by
  have h20 := hw.1
  unfold mnV
  have hcn := cnt_le (vn w) (fun i => decide (vO w i = s))
  have hl := sum_lin (g := np w) (c := fun i => decide (vO w i = s)) (vn w) (fun i hi => (wt_np hw hi).2)
  have e : smS (vn w) (fun i => decide (vO w i = s)) (vP w) = nI (sumN (vn w) (fun i => if decide (vO w i = s) = true then np w i else 0)) := smS_nat (fun i hi => (wt_np hw hi).1)
  by_cases q : sumN (vn w) (fun i => on1 (decide (vO w i = s))) = 0
  · rw [if_pos q]
    exact hd
  · rw [if_neg q, e]
    have q' : 0 < sumN (vn w) (fun i => on1 (decide (vO w i = s))) := by omega
    generalize sumN (vn w) (fun i => on1 (decide (vO w i = s))) = C at *
    generalize sumN (vn w) (fun i => if decide (vO w i = s) = true then np w i else 0) = S at *
    refine ⟨S / C, pk_div (by omega) (by omega) (by omega), ?_, ?_⟩
    · rw [Nat.le_div_iff_mul_le q']
      exact hl.1
    · have := Nat.div_le_div_right (c := C) hl.2
      rw [Nat.mul_div_cancel _ q'] at this
      exact this
theorem mm_giv (hf : 20 < fu) (h : RR v (σ (k + 1))) (hW : WF v) (hc : f_X10_changes fu σ k = some σ1) (e1 : σ1 (k + 1) = σ (k + 1)) (p s : Int32) : MMut k σ σ1 (f_X10_give fu σ k p s) (opGiv v p s) := by
  obtain ⟨hw, hs, -⟩ := hW
  have h20 := hw.1
  have h1 : RR v (σ1 (k + 1)) := by rw [e1]; exact h
  unfold f_X10_give opGiv
  rcases ix_cases (vn v) p (by omega) with ⟨i, hi, rfl, hx⟩ | ⟨hp, hx⟩
  · rw [hx, el_s, zm_isTurn_in (zr_to h) hw hi, bd_some, if_neg (show ¬ (1 : Int32) = 0 by decide), zm_isVoice (zr_to h) hs, bd_some, zm_O (zr_to h) hw hi, bd_some]
    rcases vx_cases (vS v) s with ⟨a, h6, rfl, h0, hv⟩ | ⟨hv, -⟩
    · rw [hv, el_s, if_neg (show ¬ bi ((some a).isSome = true) = 0 from fun q => bi_0.mp q rfl)]
      by_cases q : vO v i = nI a
      · rw [if_pos q, if_pos q]
        exact MMut_0 (by decide) h
      · rw [if_neg q, if_neg q, hc, bd_some, zm_sets (y := 3) (w := 3) rfl (by omega), bd_some]
        have h2 : RR (ownV v (uF (vO v) i (nI a))) (gu σ1 (k + 1) (upd (σ1 (k + 1)) (13 * i + 3) (nI a)) (k + 1)) := by
          rw [gu_s]
          exact RR_O h1 hw hi (nI a)
        obtain ⟨m, hm, m1, m2⟩ := mn_in (w := ownV v (uF (vO v) i (nI a))) hw (nI a) (d := vS v a) (by
          rcases hs.2 a h6 with z | z
          · exact absurd z h0
          · exact z)
        rw [zm_tunes hf h2 hw h6, bd_some, rdN (276 + a) (z_plus 276 a) (by omega) (by omega), gu_s, up_e, bd_some]
        refine MMut_1 (by show ¬ mnV (ownV v (uF (vO v) i (nI a))) (nI a) (vS v a) < 0; rw [hm]; exact nI_pos (by omega)) ?_ (fun c c1 _ _ => by simp (disch := omega) only [gu_n])
        rw [gu_s]
        exact RR_S h2 h20 (fun i hi => (hw.2.2 i hi).1) h6 _
    · rw [hv, el_n, if_pos (by decide)]
      exact MMut_0 (by decide) h
  · rw [hx, el_n, zm_isTurn (zr_to h) hw, hx, bd_some, if_pos (by decide)]
    exact MMut_0 (by decide) h
theorem jo_W (hf : 20 < fu) (hw : WT v) {a u : Nat} (ha : a < 6) (hu : u < 6) (hau : u ≠ a) : ∀ (n i : Nat) (τ : gSt), RR (ownV v (fun j => if j < i ∧ vO v j = nI a then nI u else vO v j)) (τ (k + 1)) → (∀ c, c ≠ k + 1 → τ c = σ c) → i ≤ vn v → vn v - i < n → ∃ υ, f_X10_join_W30 fu k (nI a) (nI u) n (nI i) τ = some (ctS (vn v) (fun i => decide (vO (toV v a u) i = nI u)) 0, υ) ∧ RR (joiV v a u) (υ (k + 1)) ∧ ∀ c, c ≠ k + 1 → υ c = σ c
  | 0, _, _, _, _, _, q => absurd q (by omega)
  | n + 1, i, τ, h, g, hi, hn => by
    have h20 := hw.1
    rw [f_X10_join_W30_s]
    unfold f_X10_join_L30 f_X10_join_J65
    rw [show τ (k + 1) 282 = nI (vn v) from h.1]
    rcases Nat.lt_or_ge i (vn v) with q | q
    · have eo : f_X10_of fu τ k (nI i) 3 = some (vO v i) := by
        rw [zm_O (zr_to h) hw q]
        show some (if i < i ∧ vO v i = nI a then nI u else vO v i) = _
        rw [if_neg (fun z => absurd z.1 (Nat.lt_irrefl i))]
      rw [if_neg (zl_le q (by omega)), eo, bd_some, bd_some, zm_sets (y := 3) (w := 3) rfl (by omega), zm_sets (y := 3) (w := 3) rfl (by omega), bd_some, bd_some, z_add1]
      have key : ∀ x, x = (if vO v i = nI a then nI u else vO v i) → ∃ υ, f_X10_join_W30 fu k (nI a) (nI u) n (nI (i + 1)) (gu τ (k + 1) (upd (τ (k + 1)) (13 * i + 3) x)) = some (ctS (vn v) (fun i => decide (vO (toV v a u) i = nI u)) 0, υ) ∧ RR (joiV v a u) (υ (k + 1)) ∧ ∀ c, c ≠ k + 1 → υ c = σ c := by
        intro x hx
        refine jo_W hf hw ha hu hau n (i + 1) _ ?_ (fun c c1 => by rw [gu_n _ _ c1]; exact g c c1) q (by omega)
        rw [gu_s]
        refine RR_eq (RR_O h hw q x) rfl (fun l hl => ⟨rfl, rfl, rfl, ?_, rfl, fun j _ => rfl⟩) rfl rfl rfl
        show (if l < i + 1 ∧ vO v l = nI a then nI u else vO v l) = uF (fun j => if j < i ∧ vO v j = nI a then nI u else vO v j) i x l
        by_cases z : l = i
        · subst z
          rw [uF_e, hx]
          by_cases y : vO v l = nI a
          · rw [if_pos ⟨by omega, y⟩, if_pos y]
          · rw [if_neg (fun w => y w.2), if_neg y]
        · rw [uF_n _ _ z]
          by_cases y : l < i ∧ vO v l = nI a
          · rw [if_pos ⟨by omega, y.2⟩, if_pos y]
          · rw [if_neg (fun w => y ⟨by omega, w.2⟩), if_neg y]
      by_cases e : vO v i = nI a
      · rw [if_pos e]
        exact key _ (by rw [if_pos e])
      · rw [if_neg e]
        exact key _ (by rw [if_neg e])
    · have hT : RR (toV v a u) (τ (k + 1)) := RR_eq h rfl (fun l hl => ⟨rfl, rfl, rfl, by
        have hl' : l < vn v := hl
        show (if vO v l = nI a then nI u else vO v l) = if l < i ∧ vO v l = nI a then nI u else vO v l
        by_cases y : vO v l = nI a
        · rw [if_pos y, if_pos ⟨by omega, y⟩]
        · rw [if_neg y, if_neg (fun x => y x.2)], rfl, fun j _ => rfl⟩) rfl rfl rfl
      rw [if_pos (zl_ge q (by omega)), wrN (276 + a) (z_plus 276 a) (by omega) (by omega), bd_some]
      have h2 : RR (pitV (toV v a u) (uF (vS v) a 0)) (gu τ (k + 1) (upd (τ (k + 1)) (276 + a) 0) (k + 1)) := by
        rw [gu_s]
        exact RR_S hT h20 (fun i hi => (hw.2.2 i hi).1) ha 0
      rw [zm_tunes hf h2 hw hu, bd_some]
      have h3 : RR (joiV v a u) (gu (gu τ (k + 1) (upd (τ (k + 1)) (276 + a) 0)) (k + 1) (upd (gu τ (k + 1) (upd (τ (k + 1)) (276 + a) 0) (k + 1)) (276 + u) (mnV (pitV (toV v a u) (uF (vS v) a 0)) (nI u) (vS (pitV (toV v a u) (uF (vS v) a 0)) u))) (k + 1)) := by
        rw [gu_s]
        have e : vS (pitV (toV v a u) (uF (vS v) a 0)) u = vS v u := uF_n _ _ hau
        have := RR_S h2 h20 (fun i hi => (hw.2.2 i hi).1) hu (mnV (pitV (toV v a u) (uF (vS v) a 0)) (nI u) (vS (pitV (toV v a u) (uF (vS v) a 0)) u))
        rw [e] at this ⊢
        exact this
      rw [zm_turnsOf hf (zr_to h3) (show WT (joiV v a u) from hw), bd_some]
      exact ⟨_, rfl, h3, fun c c1 => by rw [gu_n _ _ c1, gu_n _ _ c1]; exact g c c1⟩
theorem mm_joi (hf : 20 < fu) (h : RR v (σ (k + 1))) (hW : WF v) (hc : f_X10_changes fu σ k = some σ1) (e1 : σ1 (k + 1) = σ (k + 1)) (s o : Int32) : MMut k σ σ1 (f_X10_join fu σ k s o) (opJoi v s o) := by
  obtain ⟨hw, hs, -⟩ := hW
  have h20 := hw.1
  have h1 : RR v (σ1 (k + 1)) := by rw [e1]; exact h
  unfold f_X10_join opJoi
  rw [zm_isVoice (zr_to h) hs, bd_some, zm_isVoice (zr_to h) hs, bd_some]
  rcases vx_cases (vS v) s with ⟨a, a6, rfl, a0, hv⟩ | ⟨hv, -⟩
  · rw [hv, el_s, if_neg (show ¬ bi ((some a).isSome = true) = 0 from fun q => bi_0.mp q rfl)]
    rcases vx_cases (vS v) o with ⟨u, u6, rfl, u0, hu⟩ | ⟨hu, -⟩
    · rw [hu, el_s, if_neg (show ¬ bi ((some u).isSome = true) = 0 from fun q => bi_0.mp q rfl)]
      by_cases q : nI a = nI u
      · rw [if_pos q, if_pos q]
        exact MMut_0 (by decide) h
      · have hau : u ≠ a := fun z => q (by rw [z])
        rw [if_neg q, if_neg q, hc, bd_some]
        obtain ⟨υ, w0, w1, w2⟩ := jo_W (fu := fu) (k := k) (σ := σ1) hf hw a6 u6 hau fu 0 σ1 (RR_eq h1 rfl (fun l hl => ⟨rfl, rfl, rfl, show (if l < 0 ∧ vO v l = nI a then nI u else vO v l) = vO v l from if_neg (fun x => absurd x.1 (Nat.not_lt_zero l)), rfl, fun j _ => rfl⟩) rfl rfl rfl) (fun _ _ => rfl) (Nat.zero_le _) (by omega)
        rw [show f_X10_join_W30 fu k (nI a) (nI u) fu 0 σ1 = _ from w0]
        refine MMut_1 ?_ w1 (fun c c1 _ _ => w2 c c1)
        have hcn := cnt_le (vn v) (fun i => decide (vO (toV v a u) i = nI u))
        rw [show ctS (vn v) (fun i => decide (vO (toV v a u) i = nI u)) 0 = nI (0 + sumN (vn v) (fun i => on1 (decide (vO (toV v a u) i = nI u)))) from ctS_sum _ 0 _]
        exact nI_pos (by omega)
    · rw [hu, el_n, if_pos (by decide)]
      exact MMut_0 (by decide) h
  · rw [hv, el_n, if_pos (by decide)]
    exact MMut_0 (by decide) h
end Mm2
