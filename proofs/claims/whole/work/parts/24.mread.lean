/-! ===== LectureTurnsModel: what it reads ===== -/
section MRead
variable {fu k : Nat} {σ : gSt} {v : gV}
theorem rmN (h : RM (k + 1) 0 v σ) : σ (k + 1) 282 = nI (vn v) := by
  have := h.1
  rwa [Nat.zero_add] at this
theorem rmI (h : RM (k + 1) 0 v σ) {i : Nat} (hi : i < vn v) : σ (k + 1) (13 * i) = vB v i ∧ σ (k + 1) (13 * i + 1) = vE v i ∧ σ (k + 1) (13 * i + 2) = vP v i ∧ σ (k + 1) (13 * i + 3) = vO v i ∧ σ (k + 1) (13 * i + 4) = nI (vC v i) ∧ ∀ j, j < vC v i → σ (k + 1) (13 * i + 5 + j) = nI (vQ v i j) := by
  have := h.2.1 i hi
  rwa [Nat.zero_add] at this
theorem rmT (h : RM (k + 1) 0 v σ) {t : Nat} (ht : t < 16) : σ (k + 1) (260 + t) = en (vT v t) := by
  have := h.2.2.1 t ht
  rwa [Nat.zero_add] at this
theorem rmS (h : RM (k + 1) 0 v σ) {s : Nat} (hs : s < 6) : σ (k + 1) (276 + s) = vS v s := by
  have := h.2.2.2.1 s hs
  rwa [Nat.zero_add] at this
theorem rmA (h : RM (k + 1) 0 v σ) : σ (k + 1) 283 = vA v := by
  have := h.2.2.2.2
  rwa [Nat.zero_add] at this
theorem z_13 (i w : Nat) : 13 * nI i + nI w = nI (13 * i + w) := by
  rw [show (13 : Int32) = nI 13 from rfl, pk_mul, nI_add]
theorem z_plus (a b : Nat) : (OfNat.ofNat a : Int32) + nI b = nI (a + b) := nI_add a b
theorem zm_of {i w : Nat} {x : Int32} (hx : x = nI w) (hi : 13 * i + w < 284) : f_X10_of fu σ k (nI i) x = some (σ (k + 1) (13 * i + w)) := by
  subst hx
  unfold f_X10_of
  rw [rdN (13 * i + w) (z_13 i w) hi (by omega), bd_some]
theorem zm_B (h : RM (k + 1) 0 v σ) (hw : WT v) {i : Nat} (hi : i < vn v) : f_X10_of fu σ k (nI i) 0 = some (vB v i) := by
  have hn := hw.1
  rw [zm_of (x := 0) (w := 0) rfl (by omega)]
  show some (σ (k + 1) (13 * i)) = _
  rw [(rmI h hi).1]
theorem zm_E (h : RM (k + 1) 0 v σ) (hw : WT v) {i : Nat} (hi : i < vn v) : f_X10_of fu σ k (nI i) 1 = some (vE v i) := by
  have hn := hw.1
  rw [zm_of (x := 1) (w := 1) rfl (by omega), (rmI h hi).2.1]
theorem zm_P (h : RM (k + 1) 0 v σ) (hw : WT v) {i : Nat} (hi : i < vn v) : f_X10_of fu σ k (nI i) 2 = some (vP v i) := by
  have hn := hw.1
  rw [zm_of (x := 2) (w := 2) rfl (by omega), (rmI h hi).2.2.1]
theorem zm_O (h : RM (k + 1) 0 v σ) (hw : WT v) {i : Nat} (hi : i < vn v) : f_X10_of fu σ k (nI i) 3 = some (vO v i) := by
  have hn := hw.1
  rw [zm_of (x := 3) (w := 3) rfl (by omega), (rmI h hi).2.2.2.1]
theorem zm_C (h : RM (k + 1) 0 v σ) (hw : WT v) {i : Nat} (hi : i < vn v) : f_X10_of fu σ k (nI i) 4 = some (nI (vC v i)) := by
  have hn := hw.1
  rw [zm_of (x := 4) (w := 4) rfl (by omega), (rmI h hi).2.2.2.2.1]
theorem zm_Q (h : RM (k + 1) 0 v σ) (hw : WT v) {i j : Nat} (hi : i < vn v) (hj : j < vC v i) : f_X10_of fu σ k (nI i) (5 + nI j) = some (nI (vQ v i j)) := by
  have hn := hw.1
  have hc := (hw.2.2 i hi).1
  rw [zm_of (w := 5 + j) (z_plus 5 j) (by omega), show 13 * i + (5 + j) = 13 * i + 5 + j by omega, (rmI h hi).2.2.2.2.2 j hj]
theorem zm_in (x a b : Int32) : f_X10_in fu σ x a b = some (bi (a ≤ x ∧ x ≤ b)) := z_within fu σ x a b
theorem zm_isTerm (x : Int32) : f_X10_isTerm fu σ x = some (bi (0 ≤ x ∧ x ≤ 15)) := by
  unfold f_X10_isTerm
  rw [zm_in, bd_some, bi_zb]
theorem zm_isTurn (h : RM (k + 1) 0 v σ) (hw : WT v) (x : Int32) : f_X10_isTurn fu σ k x = some (bi ((ix (vn v) x).isSome = true)) := by
  have hn := hw.1
  unfold f_X10_isTurn
  rw [rmN h]
  rcases ix_cases (vn v) x (by omega) with ⟨i, h1, rfl, h2⟩ | ⟨h1, h2⟩
  · rw [if_neg (z_neg (by omega)), if_neg (zl_le h1 (by omega)), h2]
    rfl
  · rw [h2]
    rcases h1 with q | q
    · rw [if_pos q]
      rfl
    · by_cases h0 : x < 0
      · rw [if_pos h0]
        rfl
      · rw [if_neg h0, if_pos q]
        rfl
theorem zm_isTurn_in (h : RM (k + 1) 0 v σ) (hw : WT v) {i : Nat} (hi : i < vn v) : f_X10_isTurn fu σ k (nI i) = some 1 := by
  rw [zm_isTurn h hw, ix_in hi (by have := hw.1; omega)]
  rfl
theorem sS0 (hs : WS v) {s : Nat} (h6 : s < 6) : vS v s ≤ 0 ↔ vS v s = 0 := by
  rcases hs.2 s h6 with h | ⟨p, h, h1, h2⟩
  · rw [h]
    decide
  · rw [h]
    constructor
    · intro q
      have := (z_le (a := p) (b := 0) (by omega) (by omega)).mp q
      omega
    · intro q
      have := (z_eq (a := p) (b := 0) (by omega) (by omega)).mp q
      omega
theorem sO0 (hs : WS v) {i : Nat} (hi : i < vn v) : vO v i < 0 ↔ vO v i = -1 := by
  rcases hs.1 i hi with h | ⟨s, h1, h, -⟩
  · rw [h]
    decide
  · rw [h]
    exact ⟨fun q => absurd q (z_neg (by omega)), fun q => absurd q (z_m1 s (by omega))⟩
theorem zm_rdS (h : RM (k + 1) 0 v σ) {s : Nat} (hs : s < 6) : rd 284 σ (k + 1) (276 + nI s) = some (vS v s) := by
  rw [rdN (276 + s) (z_plus 276 s) (by omega) (by omega), rmS h hs]
theorem zm_rdT (h : RM (k + 1) 0 v σ) {t : Nat} (ht : t < 16) : rd 284 σ (k + 1) (260 + nI t) = some (en (vT v t)) := by
  rw [rdN (260 + t) (z_plus 260 t) (by omega) (by omega), rmT h ht]
theorem vx_in (S : Nat → Int32) {s : Nat} (h6 : s < 6) : vx S (nI s) = if S s = 0 then none else some s := by
  unfold vx
  rw [ix_in h6 (by omega)]
theorem vx_out (S : Nat → Int32) {x : Int32} (h : x < 0 ∨ nI 6 ≤ x) : vx S x = none := by
  unfold vx
  rw [ix_out h]
theorem zm_isVoice (h : RM (k + 1) 0 v σ) (hs : WS v) (x : Int32) : f_X10_isVoice fu σ k x = some (bi ((vx (vS v) x).isSome = true)) := by
  unfold f_X10_isVoice
  rw [zm_in, bd_some]
  rcases z_ix6 x with ⟨s, h6, rfl, hx⟩ | ⟨hx, ho⟩
  · rw [if_neg (fun q => bi_0.mp q hx), zm_rdS h h6, bd_some]
    rw [vx_in _ h6]
    by_cases h0 : vS v s = 0
    · rw [if_pos ((sS0 hs h6).mpr h0), if_pos h0]
      rfl
    · rw [if_neg (fun q => h0 ((sS0 hs h6).mp q)), if_neg h0]
      rfl
  · rw [if_pos (bi_0.mpr hx), vx_out _ ho]
    rfl
theorem zm_far (x y : Int32) : f_X10_far fu σ x y = some (dist x y) := by
  unfold f_X10_far dist
  split <;> rfl
theorem zm_shown_W (h : RM (k + 1) 0 v σ) (hw : TW (vT v)) (p : Int32) : ∀ (m n t : Nat), t < 16 → vT v (shn (vT v) m t) = 0 → m < n → f_X10_shown_W2 fu σ k p n (nI t) = some (nI (shn (vT v) m t))
  | m, 0, t, _, _, q => absurd q (by omega)
  | m, n + 1, t, ht, h0, hn => by
    rw [f_X10_shown_W2_s]
    unfold f_X10_shown_L2
    rw [zm_rdT h ht, bd_some]
    by_cases q : vT v t = 0
    · rw [if_pos ((en_neg (hw t ht)).mpr q), shn_stop q]
    · rw [if_neg (fun z => q ((en_neg (hw t ht)).mp z)), bd_some]
      cases m with
      | zero => exact absurd h0 q
      | succ m =>
        rw [shn_go q] at h0 ⊢
        unfold en
        rw [if_neg q]
        exact zm_shown_W h hw p m n _ (by have := hw t ht; omega) h0 (by omega)
theorem zm_shown (hf : 16 < fu) (h : RM (k + 1) 0 v σ) (hw : TW (vT v)) (hb : TB (vT v)) {t : Nat} (ht : t < 16) : f_X10_shown fu σ k (nI t) = some (nI (sh (vT v) t)) :=
  zm_shown_W h hw (nI t) 16 fu t ht (sh_end hb ht) hf
theorem zm_isOn_J {g t : Nat} (hg : g < 16) (ht : t < 16) (p : Int32) : f_X10_isOn_J34 fu σ k (nI g) p (nI t) = some (bi (t = g)) := by
  unfold f_X10_isOn_J34 bi
  by_cases q : t = g
  · rw [if_pos q, if_pos (by rw [q])]
  · rw [if_neg q, if_neg (fun e => q ((z_eq (by omega) (by omega)).mp e))]
theorem zm_isOn_W (h : RM (k + 1) 0 v σ) (hw : TW (vT v)) (p : Int32) {g : Nat} (hg : g < 16) : ∀ (m n t : Nat), t < 16 → vT v (shn (vT v) m t) = 0 → m < n → f_X10_isOn_W2 fu σ k (nI g) p n (nI t) = some (bi (ldn (vT v) g m t = true))
  | m, 0, t, _, _, q => absurd q (by omega)
  | m, n + 1, t, ht, h0, hn => by
    rw [f_X10_isOn_W2_s]
    unfold f_X10_isOn_L2
    by_cases hg0 : t = g
    · subst hg0
      rw [if_pos rfl, zm_isOn_J hg ht]
      exact congrArg some (bi_congr ⟨fun _ => ldn_self _ _, fun _ => rfl⟩)
    · rw [if_neg (fun e => hg0 ((z_eq (by omega) (by omega)).mp e)), zm_rdT h ht, bd_some]
      by_cases q : vT v t = 0
      · rw [if_pos ((en_neg (hw t ht)).mpr q), zm_isOn_J hg ht]
        exact congrArg some (bi_congr (by rw [ldn_stop q]; simp))
      · rw [if_neg (fun z => q ((en_neg (hw t ht)).mp z)), bd_some]
        cases m with
        | zero => exact absurd h0 q
        | succ m =>
          rw [shn_go q] at h0
          unfold en
          rw [if_neg q, zm_isOn_W h hw p hg m n _ (by have := hw t ht; omega) h0 (by omega)]
          exact congrArg some (bi_congr (by rw [ldn_go q hg0]))
theorem zm_isOn (hf : 16 < fu) (h : RM (k + 1) 0 v σ) (hw : TW (vT v)) (hb : TB (vT v)) {t g : Nat} (ht : t < 16) (hg : g < 16) : f_X10_isOn fu σ k (nI g) (nI t) = some (bi (ldn (vT v) g 16 t = true)) :=
  zm_isOn_W h hw (nI t) hg 16 fu t ht (sh_end hb ht) hf
theorem zm_mayCorrect (hf : 16 < fu) (h : RM (k + 1) 0 v σ) (hw : TW (vT v)) (hb : TB (vT v)) (x y : Int32) : f_X10_mayCorrect fu σ k x y = some (spErr (vT v) x y) := by
  unfold f_X10_mayCorrect spErr
  rw [zm_isTerm, bd_some, zm_isTerm, bd_some]
  rcases z_ix16 x with ⟨t, ht, rfl, hx⟩ | ⟨hx, -⟩
  · rw [if_neg (fun q => bi_0.mp q hx), if_pos hx]
    rcases z_ix16 y with ⟨u, hu, rfl, hy⟩ | ⟨hy, -⟩
    · rw [if_neg (fun q => bi_0.mp q hy), if_pos hy]
      by_cases e : nI t = nI u
      · rw [if_pos e, if_pos e]
      · rw [if_neg e, if_neg e, zm_isOn hf h hw hb hu ht, bd_some, nI_clamp (by omega), nI_clamp (by omega)]
        by_cases q : ldn (vT v) t 16 u = true
        · rw [if_neg (fun z => bi_0.mp z q), if_pos q]
        · rw [if_pos (bi_0.mpr q), if_neg q]
    · rw [if_pos (bi_0.mpr hy), if_neg hy]
  · rw [if_pos (bi_0.mpr hx), if_neg hx]
theorem chn_stop {T : Nat → Nat} {t : Nat} (h : T t = 0) (m : Nat) : chn T m t = 0 := by cases m <;> simp [chn, h]
theorem chn_go {T : Nat → Nat} {t : Nat} (h : T t ≠ 0) (m : Nat) : chn T (m + 1) t = chn T m (T t - 1) + 1 := by
  show (if T t = 0 then 0 else chn T m (T t - 1) + 1) = _
  rw [if_neg h]
theorem zm_chain_W (h : RM (k + 1) 0 v σ) (hw : TW (vT v)) (p : Int32) : ∀ (m n t a : Nat), t < 16 → vT v (shn (vT v) m t) = 0 → m < n → f_X10_chain_W4 fu σ k p n (nI a) (nI t) = some (nI (a + chn (vT v) m t))
  | m, 0, t, _, _, _, q => absurd q (by omega)
  | m, n + 1, t, a, ht, h0, hn => by
    rw [f_X10_chain_W4_s]
    unfold f_X10_chain_L4
    rw [zm_rdT h ht, bd_some]
    by_cases q : vT v t = 0
    · rw [if_pos ((en_neg (hw t ht)).mpr q), chn_stop q]
      rfl
    · rw [if_neg (fun z => q ((en_neg (hw t ht)).mp z)), bd_some]
      cases m with
      | zero => exact absurd h0 q
      | succ m =>
        rw [shn_go q] at h0
        rw [chn_go q]
        unfold en
        rw [if_neg q, z_add1, zm_chain_W h hw p m n _ (a + 1) (by have := hw t ht; omega) h0 (by omega), show a + 1 + chn (vT v) m (vT v t - 1) = a + (chn (vT v) m (vT v t - 1) + 1) by omega]
theorem zm_chain (hf : 16 < fu) (h : RM (k + 1) 0 v σ) (hw : TW (vT v)) (hb : TB (vT v)) {t : Nat} (ht : t < 16) : f_X10_chain fu σ k (nI t) = some (nI (chn (vT v) 16 t)) := by
  have h1 := zm_chain_W (fu := fu) h hw (nI t) 16 fu t 0 ht (sh_end hb ht) hf
  rw [Nat.zero_add] at h1
  exact h1
theorem z_or0 (x : Int32) : x ||| 0 = x := by
  apply Int32.toBitVec_inj.mp
  simp
theorem zm_shownAs (hf : 16 < fu) (h : RM (k + 1) 0 v σ) (hw : TW (vT v)) (hb : TB (vT v)) (x : Int32) : f_X10_shownAs fu σ k x = some (spShownAs (vT v) x) := by
  refine lpU0 (fun n i t => f_X10_shownAs_W4 fu σ k x n t (nI i)) 16 _ some (fun n i t hi => ?_) (fun n t => ?_) fu 0 hf
  · rw [f_X10_shownAs_W4_s]
    unfold f_X10_shownAs_L4
    rw [if_neg (zo_le (n := 16) hi (by omega)), zm_shown hf h hw hb hi, bd_some, lt_eq, z_add1]
    by_cases e : nI (sh (vT v) i) = x
    · rw [if_pos e, if_pos e]
    · rw [if_neg e, if_neg e, z_or0]
  · rw [f_X10_shownAs_W4_s]
    unfold f_X10_shownAs_L4
    rw [if_pos (zo_ge (n := 16) (i := 16) (by omega) (by omega))]
theorem zm_corrections (hf : 16 < fu) (h : RM (k + 1) 0 v σ) (hw : TW (vT v)) : f_X10_corrections fu σ k = some (spCorrs (vT v)) := by
  refine lpU0 (fun n i t => f_X10_corrections_W4 fu σ k n t (nI i)) 16 _ some (fun n i t hi => ?_) (fun n t => ?_) fu 0 hf
  · rw [f_X10_corrections_W4_s]
    unfold f_X10_corrections_L4
    rw [if_neg (zo_le (n := 16) hi (by omega)), zm_rdT h hi, bd_some, lt_eq, z_add1]
    by_cases e : vT v i = 0
    · rw [if_pos e, if_pos ((en_neg (hw i hi)).mpr e), Int32.add_zero]
    · rw [if_neg e, if_neg (fun z => e ((en_neg (hw i hi)).mp z))]
  · rw [f_X10_corrections_W4_s]
    unfold f_X10_corrections_L4
    rw [if_pos (zo_ge (n := 16) (i := 16) (by omega) (by omega))]
theorem zm_turnsOf (hf : 20 < fu) (h : RM (k + 1) 0 v σ) (hw : WT v) (x : Int32) : f_X10_turnsOf fu σ k x = some (ctS (vn v) (fun i => decide (vO v i = x)) 0) := by
  have hn := hw.1
  refine lpU0 (fun n i t => f_X10_turnsOf_W4 fu σ k x n t (nI i)) (vn v) _ some (fun n i t hi => ?_) (fun n t => ?_) fu 0 (by omega)
  · rw [f_X10_turnsOf_W4_s]
    unfold f_X10_turnsOf_L4
    rw [rmN h, if_neg (zl_le hi (by omega)), zm_O h hw hi, bd_some, lt_eq, z_add1]
    by_cases e : vO v i = x
    · rw [if_pos e, if_pos (by simp [e])]
    · rw [if_neg e, if_neg (by simp [e]), Int32.add_zero]
  · rw [f_X10_turnsOf_W4_s]
    unfold f_X10_turnsOf_L4
    rw [rmN h, if_pos (zl_ge (Nat.le_refl _) (by omega))]
theorem zm_overlap (h : RM (k + 1) 0 v σ) (hw : WT v) {i j : Nat} (hi : i < vn v) (hj : j < vn v) : f_X10_overlap fu σ k (nI i) (nI j) = some (bi (ov v i j = true)) := by
  have hn := hw.1
  unfold f_X10_overlap
  rw [zm_B h hw hi, zm_B h hw hj, zm_E h hw hi, zm_E h hw hj]
  simp only [bd_some]
  by_cases q : i = j
  · rw [if_pos (by rw [q]), bi_f (by simp [ov, q])]
  · rw [if_neg (fun e => q ((z_eq (by omega) (by omega)).mp e))]
    by_cases q1 : vE v j ≤ vB v i
    · rw [if_pos q1, bi_f (by simp [ov, q]; intro z; exact absurd q1 (Int32.not_le.mpr z))]
    · rw [if_neg q1]
      by_cases q2 : vE v i ≤ vB v j
      · rw [if_pos q2, bi_f (by simp [ov, q]; intro _; exact q2)]
      · rw [if_neg q2, bi_t (by simp only [ov, decide_eq_true_eq]; exact ⟨q, Int32.not_le.mp q1, Int32.not_le.mp q2⟩)]
theorem zm_interrupt_J (h : RM (k + 1) 0 v σ) (hw : WT v) (hs : WS v) {i j : Nat} (hi : i < vn v) (hj : j < vn v) : f_X10_interrupt_J35 fu σ k (nI i) (nI j) 1 = some (bi (vO v i ≠ -1 ∧ vO v j ≠ -1 ∧ vO v i ≠ vO v j)) := by
  unfold f_X10_interrupt_J35
  rw [zm_O h hw hi, zm_O h hw hj, if_neg (by decide)]
  simp only [bd_some]
  by_cases q3 : vO v i = -1
  · rw [if_pos ((sO0 hs hi).mpr q3), bi_f (fun z => z.1 q3)]
  · rw [if_neg (fun z => q3 ((sO0 hs hi).mp z))]
    by_cases q4 : vO v j = -1
    · rw [if_pos ((sO0 hs hj).mpr q4), bi_f (fun z => z.2.1 q4)]
    · rw [if_neg (fun z => q4 ((sO0 hs hj).mp z))]
      by_cases q5 : vO v i = vO v j
      · rw [if_pos q5, bi_f (fun z => z.2.2 q5)]
      · rw [if_neg q5, bi_t ⟨q3, q4, q5⟩]
theorem zm_interrupt (h : RM (k + 1) 0 v σ) (hw : WT v) (hs : WS v) {i j : Nat} (hi : i < vn v) (hj : j < vn v) : f_X10_interrupt fu σ k (nI i) (nI j) = some (bi (itp v i j = true)) := by
  have e0 : f_X10_interrupt_J35 fu σ k (nI i) (nI j) 0 = some 0 := rfl
  unfold f_X10_interrupt
  rw [zm_B h hw hi, zm_B h hw hj, zm_E h hw hj]
  simp only [bd_some, lt_eq]
  by_cases q1 : vB v i ≤ vB v j
  · rw [if_pos q1, e0, bi_f (by simp only [itp, decide_eq_true_eq]; exact fun z => absurd q1 (Int32.not_le.mpr z.1))]
  · rw [if_neg q1]
    by_cases q2 : vE v j ≤ vB v i
    · rw [if_pos q2, e0, bi_f (by simp only [itp, decide_eq_true_eq]; exact fun z => absurd q2 (Int32.not_le.mpr z.2.1))]
    · rw [if_neg q2, zm_interrupt_J h hw hs hi hj]
      refine congrArg some (bi_congr ?_)
      simp only [itp, decide_eq_true_eq]
      exact ⟨fun z => ⟨Int32.not_le.mp q1, Int32.not_le.mp q2, z⟩, fun z => z.2.2⟩
theorem zm_overlapping0 (hf : 20 < fu) (h : RM (k + 1) 0 v σ) (hw : WT v) {p : Nat} (hp : p < vn v) : f_X10_overlapping fu σ k (nI p) 0 = some (orS (vn v) (ov v p)) := by
  have hn := hw.1
  refine lpU0 (fun n i t => f_X10_overlapping_W5 fu σ k (nI p) 0 n t (nI i)) (vn v) _ some (fun n i t hi => ?_) (fun n t => ?_) fu 0 (by omega)
  · rw [f_X10_overlapping_W5_s]
    unfold f_X10_overlapping_L5
    rw [rmN h, if_neg (zl_le hi (by omega)), if_pos rfl, zm_overlap h hw hp hi, bd_some, lt_eq, z_add1]
    by_cases e : ov v p i = true
    · rw [if_neg (fun q => bi_0.mp q e), if_pos e]
    · rw [if_pos (bi_0.mpr e), if_neg e, z_or0]
  · rw [f_X10_overlapping_W5_s]
    unfold f_X10_overlapping_L5
    rw [rmN h, if_pos (zl_ge (Nat.le_refl _) (by omega))]
theorem zm_overlapping1 (hf : 20 < fu) (h : RM (k + 1) 0 v σ) (hw : WT v) (hs : WS v) {p : Nat} (hp : p < vn v) : f_X10_overlapping fu σ k (nI p) 1 = some (orS (vn v) (itp v p)) := by
  have hn := hw.1
  refine lpU0 (fun n i t => f_X10_overlapping_W5 fu σ k (nI p) 1 n t (nI i)) (vn v) _ some (fun n i t hi => ?_) (fun n t => ?_) fu 0 (by omega)
  · rw [f_X10_overlapping_W5_s]
    unfold f_X10_overlapping_L5
    rw [rmN h, if_neg (zl_le hi (by omega)), if_neg (by decide), zm_interrupt h hw hs hp hi, bd_some, lt_eq, z_add1]
    by_cases e : itp v p i = true
    · rw [if_neg (fun q => bi_0.mp q e), if_pos e]
    · rw [if_pos (bi_0.mpr e), if_neg e, z_or0]
  · rw [f_X10_overlapping_W5_s]
    unfold f_X10_overlapping_L5
    rw [rmN h, if_pos (zl_ge (Nat.le_refl _) (by omega))]
theorem zm_goesOn (h : RM (k + 1) 0 v σ) (hw : WT v) {i : Nat} (hi : i < vn v) (t : Int32) : f_X10_goesOn fu σ k (nI i) t = some (bi (onT v t i = true)) := by
  unfold f_X10_goesOn
  rw [zm_B h hw hi, zm_E h hw hi]
  simp only [bd_some]
  by_cases q1 : t < vB v i
  · rw [if_pos q1, bi_f (by simp only [onT, decide_eq_true_eq]; exact fun z => absurd q1 (Int32.not_lt.mpr z.1))]
  · rw [if_neg q1]
    by_cases q2 : vE v i ≤ t
    · rw [if_pos q2, bi_f (by simp only [onT, decide_eq_true_eq]; exact fun z => absurd q2 (Int32.not_le.mpr z.2))]
    · rw [if_neg q2, bi_t (by simp only [onT, decide_eq_true_eq]; exact ⟨Int32.not_lt.mp q1, Int32.not_le.mp q2⟩)]
theorem zm_going (hf : 20 < fu) (h : RM (k + 1) 0 v σ) (hw : WT v) (x : Int32) : f_X10_going fu σ k x = some (orS (vn v) (onT v x)) := by
  have hn := hw.1
  refine lpU0 (fun n i t => f_X10_going_W4 fu σ k x n t (nI i)) (vn v) _ some (fun n i t hi => ?_) (fun n t => ?_) fu 0 (by omega)
  · rw [f_X10_going_W4_s]
    unfold f_X10_going_L4
    rw [rmN h, if_neg (zl_le hi (by omega)), zm_goesOn h hw hi, bd_some, lt_eq, z_add1]
    by_cases e : onT v x i = true
    · rw [if_neg (fun q => bi_0.mp q e), if_pos e]
    · rw [if_pos (bi_0.mpr e), if_neg e, z_or0]
  · rw [f_X10_going_W4_s]
    unfold f_X10_going_L4
    rw [rmN h, if_pos (zl_ge (Nat.le_refl _) (by omega))]
theorem zm_voicesAll (hf : 6 < fu) (h : RM (k + 1) 0 v σ) (hs : WS v) : f_X10_voicesAll fu σ k = some (spSet (vS v)) := by
  unfold spSet orS
  refine lpU0 (fun n i t => f_X10_voicesAll_W4 fu σ k n t (nI i)) 6 _ some (fun n i t hi => ?_) (fun n t => ?_) fu 0 hf
  · rw [f_X10_voicesAll_W4_s]
    unfold f_X10_voicesAll_L4
    rw [if_neg (zo_le (n := 6) hi (by omega)), zm_rdS h hi, bd_some, lt_eq, z_add1]
    by_cases e : vS v i = 0
    · rw [if_pos ((sS0 hs hi).mpr e), if_neg (by simp [e]), z_or0]
    · rw [if_neg (fun q => e ((sS0 hs hi).mp q)), if_pos (by simp [e])]
  · rw [f_X10_voicesAll_W4_s]
    unfold f_X10_voicesAll_L4
    rw [if_pos (zo_ge (n := 6) (i := 6) (by omega) (by omega))]
end MRead
