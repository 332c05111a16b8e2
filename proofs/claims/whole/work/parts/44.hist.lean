/-! ===== states kept: a ring of four on one side, a shifted array on the other ===== -/
section Hist
variable {fu : Nat} {σ : gSt} {v : gV}
theorem RR_ext {r s : Nat → Int32} (h : RR v r) (hw : WT v) (e : ∀ i, i < 284 → s i = r i) : RR v s := by
  have h20 := hw.1
  refine ⟨by rw [e _ (by omega)]; exact h.1, fun i hi => ?_, fun t ht => by rw [e _ (by omega)]; exact h.2.2.1 t ht, fun t ht => by rw [e _ (by omega)]; exact h.2.2.2.1 t ht, by rw [e _ (by omega)]; exact h.2.2.2.2⟩
  obtain ⟨g1, g2, g3, g4, g5, g6⟩ := h.2.1 i hi
  have h8 := (hw.2.2 i hi).1
  rw [e _ (by omega), e _ (by omega), e _ (by omega), e _ (by omega), e _ (by omega)]
  exact ⟨g1, g2, g3, g4, g5, fun j hj => by rw [e _ (by omega)]; exact g6 j hj⟩
theorem RC_fr {b : Nat} {τ : gSt} (h : RC b v σ) (e : ∀ c, b ≤ c → c < b + 12 → τ c = σ c) : RC b v τ := RC_same h e
theorem zt_take {k0 k1 : Nat} (hd : k0 + 7 ≤ k1 ∨ k1 + 7 ≤ k0) (h : RCt k1 v σ) (hw : WT v) : ∃ τ, f_X8_takeFrom fu σ k0 k1 = some τ ∧ RCt k0 v τ ∧ FrT k0 σ τ := by
  have h20 := hw.1
  unfold f_X8_takeFrom
  rw [cpyN (sp := 0) (dp := 0) (n := 20) 0 0 20 rfl rfl rfl (by omega) (by omega) (by omega) (by omega), bd_some, cpyN (sp := 0) (dp := 0) (n := 20) 0 0 20 rfl rfl rfl (by omega) (by omega) (by omega) (by omega), bd_some, cpyN (sp := 0) (dp := 0) (n := 20) 0 0 20 rfl rfl rfl (by omega) (by omega) (by omega) (by omega), bd_some, cpyN (sp := 0) (dp := 0) (n := 20) 0 0 20 rfl rfl rfl (by omega) (by omega) (by omega) (by omega), bd_some, cpyN (sp := 0) (dp := 0) (n := 20) 0 0 20 rfl rfl rfl (by omega) (by omega) (by omega) (by omega), bd_some, cpyN (sp := 0) (dp := 0) (n := 160) 0 0 160 rfl rfl rfl (by omega) (by omega) (by omega) (by omega), bd_some, lt_eq]
  refine ⟨_, rfl, ⟨?_, fun i hi => ?_⟩, fun c hc => ?_⟩
  · simp (disch := omega) only [gu_n, gu_s, up_e]
    exact h.1
  · obtain ⟨g1, g2, g3, g4, g5, g6⟩ := h.2 i hi
    have h8 := (hw.2.2 i hi).1
    simp (disch := omega) only [gu_n, gu_s]
    rw [cp_i _ _ (by omega) (by omega), cp_i _ _ (by omega) (by omega), cp_i _ _ (by omega) (by omega), cp_i _ _ (by omega) (by omega), cp_i _ _ (by omega) (by omega), show 0 + (i - 0) = i by omega]
    refine ⟨g1, g2, g3, g4, g5, fun j hj => ?_⟩
    rw [cp_i _ _ (by omega) (by omega), show 0 + (8 * i + j - 0) = 8 * i + j by omega]
    exact g6 j hj
  · simp (disch := omega) only [gu_n]
theorem zc_take {k0 k1 : Nat} (hd : k0 + 12 ≤ k1 ∨ k1 + 12 ≤ k0) (h : RC k1 v σ) (hw : WT v) : ∃ τ, f_X7_takeFrom fu σ k0 k1 = some τ ∧ RC k0 v τ ∧ FrC k0 σ τ := by
  unfold f_X7_takeFrom f_X0_takeFrom f_X4_takeFrom
  obtain ⟨τ, t0, t1, t2⟩ := zt_take (fu := fu) (σ := σ) (k0 := k0 + 1) (k1 := k1 + 1) (by omega) h.1 hw
  rw [t0, bd_some, cpyN (sp := 0) (dp := 0) (n := 16) 0 0 16 rfl rfl rfl (by omega) (by omega) (by omega) (by omega), bd_some, bd_some, cpyN (sp := 0) (dp := 0) (n := 6) 0 0 6 rfl rfl rfl (by omega) (by omega) (by omega) (by omega), bd_some, bd_some, lt_eq]
  refine ⟨_, rfl, ⟨RCt_fr t1 (fun c c1 c2 => by simp (disch := omega) only [gu_n]), fun t ht => ?_, fun s hs => ?_, ?_⟩, fun c hc => ?_⟩
  · simp (disch := omega) only [gu_n, gu_s]
    rw [cp_i _ _ (by omega) (by omega), show 0 + (t - 0) = t by omega, t2 _ (by omega)]
    exact h.2.1 t ht
  · simp (disch := omega) only [gu_n, gu_s]
    rw [cp_i _ _ (by omega) (by omega), show 0 + (s - 0) = s by omega, t2 _ (by omega)]
    exact h.2.2.1 s hs
  · simp (disch := omega) only [gu_n, gu_s, up_e]
    rw [t2 _ (by omega)]
    exact h.2.2.2
  · simp (disch := omega) only [gu_n]
    exact t2 c (by omega)
theorem z_rm4 (m : Nat) (hm : m < 4096) : rm (nI m) 4 = some (nI (m % 4)) := by
  unfold rm
  have e : nI (m / 4) * 4 = nI (4 * (m / 4)) := by rw [Nat.mul_comm]; exact (Int32.ofNat_mul (m / 4) 4).symm
  rw [if_neg (by decide), show nI m / 4 = nI (m / 4) from pk_div (d := 4) (by omega) (by omega) (by omega), e, z_sub (by omega), show m - 4 * (m / 4) = m % 4 by omega]
theorem z_x4 : ∀ m, m < 8 → (0 : Int32) ≤ nI m ^^^ 4 := by decide
theorem z_fm4 (m : Nat) (hm : m < 8) : f_J9_floorMod_7cf53 fu σ (nI m) 4 = some (nI (m % 4)) := by
  unfold f_J9_floorMod_7cf53
  rw [z_rm4 m (by omega), bd_some, if_pos (z_x4 m hm)]
theorem zh_at {o a : Nat} (ho : o < 4) (ha : a ≤ 4) (h : σ 8 1 = nI o) : f_X1_stateAt fu σ 8 (nI a) = some (10 + 12 * (2 + (o + a) % 4)) := by
  unfold f_X1_stateAt
  rw [h, nI_add, z_fm4 _ (by omega), bd_some, rdqN ((o + a) % 4) rfl (by omega) (by omega), bd_some]
  exact congrArg some (by omega)
def HC (n o : Nat) (w : Nat → gV) (σ : gSt) : Prop := σ 8 2 = nI n ∧ σ 8 1 = nI o ∧ ∀ j, j < n → RC (10 + 12 * (2 + (o + j) % 4)) (w j) σ
def HM (n : Nat) (w : Nat → gV) (σ : gSt) : Prop := σ 94 3 = nI n ∧ ∀ j, j < n → RR (w j) (fun i => σ 96 (284 * j + i))
def puN (n : Nat) : Nat := if n < 4 then n + 1 else 4
def puW (n : Nat) (w : Nat → gV) (u : gV) : Nat → gV := fun j => if n < 4 then (if j = n then u else w j) else (if j = 3 then u else w (j + 1))
theorem HC_fr {n o : Nat} {w : Nat → gV} {τ : gSt} (h : HC n o w σ) (e8 : τ 8 = σ 8) (e : ∀ c, 34 ≤ c → c < 82 → τ c = σ c) : HC n o w τ :=
  ⟨by rw [e8]; exact h.1, by rw [e8]; exact h.2.1, fun j hj => RC_fr (h.2.2 j hj) (fun c c1 c2 => e c (by omega) (by omega))⟩
theorem HM_fr {n : Nat} {w : Nat → gV} {τ : gSt} (h : HM n w σ) (e3 : τ 94 3 = σ 94 3) (e : τ 96 = σ 96) : HM n w τ :=
  ⟨by rw [e3]; exact h.1, fun j hj => by rw [e]; exact h.2 j hj⟩
theorem hc_push {n o : Nat} {w : Nat → gV} {u : gV} (hn : n ≤ 4) (ho : o < 4) (h : HC n o w σ) (hu : RC 22 u σ) (hw : WT u) : ∃ τ o', f_X1_keep fu σ 8 22 = some τ ∧ o' < 4 ∧ HC (puN n) o' (puW n w u) τ ∧ ∀ c, c ≠ 8 → c < 34 ∨ 82 ≤ c → τ c = σ c := by
  unfold f_X1_keep f_X1_copy
  rw [h.1, zh_at ho hn h.2.1, bd_some]
  obtain ⟨τ, t0, t1, t2⟩ := zc_take (fu := fu) (σ := σ) (k0 := 10 + 12 * (2 + (o + n) % 4)) (k1 := 22) (by omega) hu hw
  rw [t0, bd_some, bd_some, t2 8 (by omega), h.1]
  have keepj : ∀ j, j < n → (o + j) % 4 ≠ (o + n) % 4 → RC (10 + 12 * (2 + (o + j) % 4)) (w j) τ := fun j hj hne => RC_fr (h.2.2 j hj) (fun c c1 c2 => t2 c (by omega))
  rcases Nat.lt_or_ge n 4 with q | q
  · rw [if_neg (show ¬ 4 ≤ nI n from zo_le (n := 4) q (by omega)), lt_eq]
    refine ⟨_, o, rfl, ho, ⟨?_, ?_, fun j hj => ?_⟩, fun c c1 c2 => ?_⟩
    · rw [gu_s, up_e, z_add1]
      unfold puN
      rw [if_pos q]
    · rw [gu_s, up_n _ _ (by omega)]
      exact h.2.1
    · unfold puN at hj
      rw [if_pos q] at hj
      unfold puW
      rw [if_pos q]
      refine RC_fr (σ := τ) ?_ (fun c c1 c2 => gu_n _ _ (by omega))
      by_cases e : j = n
      · rw [if_pos e, e]
        exact t1
      · rw [if_neg e]
        exact keepj j (by omega) (by omega)
    · rw [gu_n _ _ c1]
      exact t2 c (by omega)
  · have e4 : n = 4 := by omega
    subst e4
    rw [if_pos (show (4 : Int32) ≤ nI 4 by decide), h.2.1, z_add1, z_rm4 _ (by omega), bd_some, lt_eq]
    refine ⟨_, (o + 1) % 4, rfl, by omega, ⟨?_, ?_, fun j hj => ?_⟩, fun c c1 c2 => ?_⟩
    · rw [gu_s, up_n _ _ (by omega)]
      exact h.1
    · rw [gu_s, up_e]
    · have hj' : j < 4 := hj
      unfold puW
      rw [if_neg (by omega)]
      refine RC_fr (σ := τ) ?_ (fun c c1 c2 => gu_n _ _ (by omega))
      by_cases e : j = 3
      · rw [if_pos e, e, show ((o + 1) % 4 + 3) % 4 = (o + 4) % 4 by omega]
        exact t1
      · rw [if_neg e, show ((o + 1) % 4 + j) % 4 = (o + (j + 1)) % 4 by omega]
        exact keepj (j + 1) (by omega) (by omega)
    · rw [gu_n _ _ c1]
      exact t2 c (by omega)
theorem z_284 (p i : Nat) : 284 * nI p + nI i = nI (284 * p + i) := by
  rw [show 284 * nI p = nI (284 * p) from (Int32.ofNat_mul 284 p).symm, nI_add]
theorem ch_1 : ∀ (n i : Nat) (τ : gSt), i ≤ 852 → 852 - i < n → (∀ c, c ≠ 96 → τ c = σ c) → (∀ j, j < i → τ 96 j = σ 96 (j + 284)) → (∀ j, i ≤ j → τ 96 j = σ 96 j) →
    ∃ υ, f_X10_changes_W18 fu 94 n (nI i) τ = f_X10_changes_L18 fu 94 (fun _ _ => none) (nI 852) υ ∧ (∀ c, c ≠ 96 → υ c = σ c) ∧ (∀ j, j < 852 → υ 96 j = σ 96 (j + 284)) ∧ (∀ j, 852 ≤ j → υ 96 j = σ 96 j)
  | 0, _, _, _, q, _, _, _ => absurd q (by omega)
  | n + 1, i, τ, h1, h2, g1, g2, g3 => by
    rw [f_X10_changes_W18_s]
    rcases Nat.lt_or_ge i 852 with q | q
    · unfold f_X10_changes_L18
      rw [if_neg (show ¬ 852 ≤ nI i from zo_le (n := 852) q (by omega)), show nI i + 284 = nI (i + 284) from nI_add i 284, rdN (i + 284) rfl (by omega) (by omega), bd_some, wrN i rfl (by omega) (by omega), bd_some, z_add1]
      obtain ⟨υ, u0, u1, u2, u3⟩ := ch_1 n (i + 1) (gu τ 96 (upd (τ 96) i (τ 96 (i + 284)))) q (by omega) (fun c hc => by rw [gu_n _ _ hc]; exact g1 c hc) (fun j hj => by
        rw [gu_s]
        by_cases e : j = i
        · subst e
          rw [up_e]
          exact g3 _ (by omega)
        · rw [up_n _ _ e]
          exact g2 j (by omega)) (fun j hj => by
        rw [gu_s, up_n _ _ (by omega)]
        exact g3 j (by omega))
      unfold f_X10_changes_L18 at u0
      exact ⟨υ, u0, u1, u2, u3⟩
    · have e : i = 852 := by omega
      subst e
      refine ⟨τ, ?_, g1, g2, g3⟩
      unfold f_X10_changes_L18
      rw [if_pos (show 852 ≤ nI 852 by decide), if_pos (show 852 ≤ nI 852 by decide)]
theorem ch_2 {p : Nat} (hp : p < 4) (h3 : σ 94 3 = nI p) : ∀ (n i : Nat) (τ : gSt), i ≤ 284 → 284 - i < n → (∀ c, c ≠ 96 → τ c = σ c) → (∀ j, j < i → τ 96 (284 * p + j) = σ 95 j) → (∀ j, j < 284 * p ∨ 284 * p + i ≤ j → τ 96 j = σ 96 j) →
    ∃ υ, f_X10_changes_W59 fu 94 n (nI i) τ = some υ ∧ (∀ c, c ≠ 94 → c ≠ 96 → υ c = σ c) ∧ (∀ f, f ≠ 3 → υ 94 f = σ 94 f) ∧ υ 94 3 = nI (p + 1) ∧ (∀ j, j < 284 → υ 96 (284 * p + j) = σ 95 j) ∧ (∀ j, j < 284 * p → υ 96 j = σ 96 j)
  | 0, _, _, _, q, _, _, _ => absurd q (by omega)
  | n + 1, i, τ, h1, h2, g1, g2, g3 => by
    rw [f_X10_changes_W59_s]
    unfold f_X10_changes_L59
    rcases Nat.lt_or_ge i 284 with q | q
    · rw [if_neg (show ¬ 284 ≤ nI i from zo_le (n := 284) q (by omega)), rdN i rfl (by omega) (by omega), bd_some, g1 94 (by omega), h3, z_284, wrN (284 * p + i) rfl (by omega) (by omega), bd_some, z_add1]
      refine ch_2 hp h3 n (i + 1) _ q (by omega) (fun c hc => by rw [gu_n _ _ hc]; exact g1 c hc) (fun j hj => ?_) (fun j hj => ?_)
      · rw [show (94 + 2) = 96 from rfl, gu_s]
        by_cases e : j = i
        · subst e
          rw [up_e]
          exact congrFun (g1 95 (by omega)) j
        · rw [up_n _ _ (by omega)]
          exact g2 j (by omega)
      · rw [show (94 + 2) = 96 from rfl, gu_s, up_n _ _ (by omega)]
        exact g3 j (by omega)
    · have e : i = 284 := by omega
      subst e
      rw [if_pos (show 284 ≤ nI 284 by decide), lt_eq]
      refine ⟨_, rfl, fun c c1 c2 => ?_, fun f hf => ?_, ?_, fun j hj => ?_, fun j hj => ?_⟩
      · rw [gu_n _ _ c1]
        exact g1 c c2
      · rw [gu_s, up_n _ _ hf, g1 94 (by omega)]
      · rw [gu_s, up_e, g1 94 (by omega), h3, z_add1]
      · rw [gu_n _ _ (by omega)]
        exact g2 j hj
      · rw [gu_n _ _ (by omega)]
        exact g3 j (Or.inl hj)
theorem hm_push (hf : 900 < fu) {n : Nat} {w : Nat → gV} {u : gV} (hn : n ≤ 4) (h : HM n w σ) (hww : ∀ j, j < n → WT (w j)) (hu : RR u (σ 95)) (hw : WT u) (hr : σ 94 4 = 0) : ∃ τ, f_X10_changes fu σ 94 = some τ ∧ HM (puN n) (puW n w u) τ ∧ (∀ c, c ≠ 94 → c ≠ 96 → τ c = σ c) ∧ (∀ f, f ≠ 3 → τ 94 f = σ 94 f) := by
  unfold f_X10_changes
  rw [if_pos hr, h.1]
  rcases Nat.lt_or_ge n 4 with q | q
  · rw [if_neg (show ¬ nI n = 4 from fun z => absurd ((z_eq (b := 4) (by omega) (by omega)).mp z) (by omega))]
    obtain ⟨υ, u0, u1, u2, u3, u4, u5⟩ := ch_2 (fu := fu) q h.1 fu 0 σ (by omega) (by omega) (fun _ _ => rfl) (fun j hj => absurd hj (Nat.not_lt_zero j)) (fun _ _ => rfl)
    refine ⟨υ, u0, ⟨?_, fun j hj => ?_⟩, u1, u2⟩
    · unfold puN
      rw [if_pos q]
      exact u3
    · unfold puN at hj
      rw [if_pos q] at hj
      unfold puW
      rw [if_pos q]
      by_cases e : j = n
      · subst e
        rw [if_pos rfl]
        exact RR_ext hu hw (fun i hi => u4 i hi)
      · rw [if_neg e]
        exact RR_ext (h.2 j (by omega)) (hww j (by omega)) (fun i hi => u5 _ (by omega))
  · have e4 : n = 4 := by omega
    subst e4
    rw [if_pos (show nI 4 = 4 from rfl)]
    obtain ⟨φ, f0, f1, f2, f3⟩ := ch_1 (fu := fu) (σ := σ) fu 0 σ (by omega) (by omega) (fun _ _ => rfl) (fun j hj => absurd hj (Nat.not_lt_zero j)) (fun _ _ => rfl)
    rw [show f_X10_changes_W18 fu 94 fu 0 σ = _ from f0]
    unfold f_X10_changes_L18
    have e3 : gu φ 94 (upd (φ 94) 3 (φ 94 3 - 1)) 94 3 = nI 3 := by
      rw [gu_s, up_e, f1 94 (by omega), h.1]
      rfl
    rw [if_pos (show 852 ≤ nI 852 by decide), lt_eq]
    obtain ⟨υ, u0, u1, u2, u3, u4, u5⟩ := ch_2 (fu := fu) (show 3 < 4 by omega) e3 fu 0 _ (by omega) (by omega) (fun _ _ => rfl) (fun j hj => absurd hj (Nat.not_lt_zero j)) (fun _ _ => rfl)
    refine ⟨υ, u0, ⟨u3, fun j hj => ?_⟩, fun c c1 c2 => ?_, fun f hf => ?_⟩
    · have hj' : j < 4 := hj
      unfold puW
      rw [if_neg (by omega)]
      by_cases e : j = 3
      · subst e
        rw [if_pos rfl]
        refine RR_ext hu hw (fun i hi => ?_)
        rw [u4 i hi, gu_n _ _ (by omega), f1 95 (by omega)]
      · rw [if_neg e]
        refine RR_ext (h.2 (j + 1) (by omega)) (hww (j + 1) (by omega)) (fun i hi => ?_)
        rw [u5 _ (by omega), gu_n _ _ (by omega), f2 _ (by omega), show 284 * j + i + 284 = 284 * (j + 1) + i by omega]
    · rw [u1 c c1 c2, gu_n _ _ c1]
      exact f1 c c2
    · rw [u2 f hf, gu_s, up_n _ _ hf, f1 94 (by omega)]
theorem un_1 {p : Nat} (hp : p < 4) (h3 : σ 94 3 = nI p) : ∀ (n i : Nat) (τ : gSt), i ≤ 284 → 284 - i < n → (∀ c, c ≠ 95 → τ c = σ c) → (∀ j, j < i → τ 95 j = σ 96 (284 * p + j)) →
    ∃ υ, f_X10_undo_W22 fu 94 n (nI i) τ = some (nI p, υ) ∧ (∀ c, c ≠ 95 → υ c = σ c) ∧ (∀ j, j < 284 → υ 95 j = σ 96 (284 * p + j))
  | 0, _, _, _, q, _, _ => absurd q (by omega)
  | n + 1, i, τ, h1, h2, g1, g2 => by
    rw [f_X10_undo_W22_s]
    unfold f_X10_undo_L22
    rw [g1 94 (by omega), h3]
    rcases Nat.lt_or_ge i 284 with q | q
    · rw [if_neg (show ¬ 284 ≤ nI i from zo_le (n := 284) q (by omega)), z_284, rdN (284 * p + i) rfl (by omega) (by omega), bd_some, wrN i rfl (by omega) (by omega), bd_some, z_add1]
      refine un_1 hp h3 n (i + 1) _ q (by omega) (fun c hc => by rw [gu_n _ _ hc]; exact g1 c hc) (fun j hj => ?_)
      rw [show (94 + 1) = 95 from rfl, gu_s]
      by_cases e : j = i
      · subst e
        rw [up_e]
        exact congrFun (g1 96 (by omega)) _
      · rw [up_n _ _ (by omega)]
        exact g2 j (by omega)
    · have e : i = 284 := by omega
      subst e
      rw [if_pos (show 284 ≤ nI 284 by decide)]
      exact ⟨τ, rfl, g1, g2⟩
theorem hm_undo (hf : 300 < fu) {n : Nat} {w : Nat → gV} (hn : n < 4) (h : HM (n + 1) w σ) (hw : WT (w n)) : ∃ τ, f_X10_undo fu σ 94 = some (nI n, τ) ∧ RR (w n) (τ 95) ∧ HM n w τ ∧ (∀ c, c ≠ 94 → c ≠ 95 → τ c = σ c) ∧ (∀ f, f ≠ 3 → τ 94 f = σ 94 f) := by
  unfold f_X10_undo
  rw [h.1, if_neg (show ¬ nI (n + 1) = 0 from z_ne0 (by omega) (by omega)), lt_eq, nI_pred]
  obtain ⟨υ, u0, u1, u2⟩ := un_1 (fu := fu) hn (σ := gu σ 94 (upd (σ 94) 3 (nI n))) (by rw [gu_s, up_e]) fu 0 _ (by omega) (by omega) (fun _ _ => rfl) (fun j hj => absurd hj (Nat.not_lt_zero j))
  refine ⟨υ, u0, ?_, ⟨?_, fun j hj => ?_⟩, fun c c1 c2 => ?_, fun f hf => ?_⟩
  · refine RR_ext (h.2 n (by omega)) hw (fun i hi => ?_)
    rw [u2 i hi, gu_n _ _ (by omega)]
  · rw [u1 94 (by omega), gu_s, up_e]
  · rw [u1 96 (by omega), gu_n _ _ (by omega)]
    exact h.2 j (by omega)
  · rw [u1 c c2, gu_n _ _ c1]
  · rw [u1 94 (by omega), gu_s, up_n _ _ hf]
theorem hm_undo0 {w : Nat → gV} (h : HM 0 w σ) : f_X10_undo fu σ 94 = some (-1000002, σ) := by
  unfold f_X10_undo
  rw [h.1, if_pos (show nI 0 = 0 from rfl)]
theorem hc_undo0 {o : Nat} {w : Nat → gV} (h : HC 0 o w σ) : f_X9_undo fu σ 0 = some (-1000002, σ) := by
  unfold f_X9_undo f_X1_isEmpty
  rw [show σ (0 + 8) 2 = nI 0 from h.1, if_pos (show nI 0 = 0 from rfl), bd_some, if_neg (by decide)]
theorem hc_undo {n o : Nat} {w : Nat → gV} (hn : n < 4) (ho : o < 4) (h : HC (n + 1) o w σ) (hw : WT (w n)) : ∃ τ, f_X9_undo fu σ 0 = some (nI n, τ) ∧ RC 10 (w n) τ ∧ HC n o w τ ∧ (∀ c, c ≠ 8 → c < 10 ∨ 22 ≤ c → τ c = σ c) := by
  unfold f_X9_undo f_X1_isEmpty f_X1_restoreLatest f_X1_copy
  rw [show σ (0 + 8) 2 = nI (n + 1) from h.1, if_neg (show ¬ nI (n + 1) = 0 from z_ne0 (by omega) (by omega)), bd_some, if_pos rfl, if_neg (show ¬ nI (n + 1) ≤ 0 from zl_le (i := 0) (n := n + 1) (by omega) (by omega)), nI_pred, lt_eq]
  have e2 : gu σ (0 + 8) (upd (σ (0 + 8)) 2 (nI n)) (0 + 8) 2 = nI n := by rw [gu_s, up_e]
  have e1 : gu σ 8 (upd (σ 8) 2 (nI n)) 8 1 = nI o := by rw [gu_s, up_n _ _ (by omega)]; exact h.2.1
  rw [e2, show f_X1_stateAt fu (gu σ (0 + 8) (upd (σ (0 + 8)) 2 (nI n))) (0 + 8) (nI n) = _ from zh_at (fu := fu) ho (by omega) e1, bd_some]
  obtain ⟨τ, t0, t1, t2⟩ := zc_take (fu := fu) (σ := gu σ 8 (upd (σ 8) 2 (nI n))) (k0 := 10) (k1 := 10 + 12 * (2 + (o + n) % 4)) (by omega) (RC_fr (h.2.2 n (by omega)) (fun c c1 c2 => gu_n _ _ (by omega))) hw
  rw [show f_X7_takeFrom fu (gu σ (0 + 8) (upd (σ (0 + 8)) 2 (nI n))) (0 + 10) (10 + 12 * (2 + (o + n) % 4)) = _ from t0, bd_some, bd_some]
  have e8 : τ 8 = upd (σ 8) 2 (nI n) := by rw [t2 8 (by omega), gu_s]
  rw [show τ (0 + 8) 2 = nI n by rw [show (0 + 8) = 8 from rfl, e8, up_e], b2_some]
  refine ⟨τ, rfl, t1, ⟨by rw [e8, up_e], by rw [e8, up_n _ _ (by omega)]; exact h.2.1, fun j hj => ?_⟩, fun c c1 c2 => ?_⟩
  · exact RC_fr (h.2.2 j (by omega)) (fun c c1 c2 => by rw [t2 c (by omega), gu_n _ _ (by omega)])
  · rw [t2 c (by omega), gu_n _ _ c1]
end Hist
