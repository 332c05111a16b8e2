/-! ===== seconds, by sweeps ===== -/
def nb (v : gV) (i : Nat) : Nat := (vB v i).toNatClampNeg
def ne (v : gV) (i : Nat) : Nat := (vE v i).toNatClampNeg
def onN (v : gV) (t i : Nat) : Bool := decide (nb v i ≤ t ∧ t < ne v i)
/-- how many of the first i turns go on at t -/
def cvN (v : gV) (i t : Nat) : Nat := sumN i (fun j => on1 (onN v t j))
theorem z_max (fu : Nat) (σ : gSt) {a b : Nat} (ha : a < 4096) (hb : b < 4096) : f_J9_max_7cf53 fu σ (nI a) (nI b) = some (nI (max a b)) := by
  unfold f_J9_max_7cf53
  by_cases h : a < b
  · rw [if_pos (zl_lt h (by omega)), Nat.max_eq_right (by omega)]
  · rw [if_neg (zl_nlt (by omega) (by omega)), Nat.max_eq_left (by omega)]
theorem z_min (fu : Nat) (σ : gSt) {a b : Nat} (ha : a < 4096) (hb : b < 4096) : f_J9_min_7cf53 fu σ (nI a) (nI b) = some (nI (min a b)) := by
  unfold f_J9_min_7cf53
  by_cases h : b < a
  · rw [if_pos (zl_lt h (by omega)), Nat.min_eq_right (by omega)]
  · rw [if_neg (zl_nlt (by omega) (by omega)), Nat.min_eq_left (by omega)]
theorem z_max0 (fu : Nat) (σ : gSt) {a b : Nat} (ha : a < 4096) (hb : b < 4096) : f_J9_max_7cf53 fu σ 0 (nI a - nI b) = some (nI (a - b)) := by
  unfold f_J9_max_7cf53
  rcases Nat.lt_or_ge b a with h | h
  · rw [pk_sub (by omega), if_pos (show (0 : Int32) < nI (a - b) from zl_lt (i := 0) (by omega) (by omega))]
  · by_cases e : a = b
    · subst e
      rw [Int32.sub_self, if_neg (by decide), Nat.sub_self]
      rfl
    · have := pk_sneg (a := a) (b := b) (by omega) (by omega)
      rw [if_neg (fun q => by rw [z_lti] at this q; omega), show a - b = 0 by omega]
      rfl
theorem sumN_range (M : Nat) : ∀ (a e : Nat), e ≤ M → sumN M (fun t => on1 (decide (a ≤ t ∧ t < e))) = e - a := by
  intro a
  induction M with
  | zero => intro e h; rw [show e - a = 0 by omega]; rfl
  | succ M ih =>
    intro e h
    show sumN M (fun t => on1 (decide (a ≤ t ∧ t < e))) + on1 (decide (a ≤ M ∧ M < e)) = e - a
    by_cases q : e ≤ M
    · rw [ih e q, on1_f (by simp; omega), Nat.add_zero]
    · have e1 : e = M + 1 := by omega
      subst e1
      have h1 : sumN M (fun t => on1 (decide (a ≤ t ∧ t < M + 1))) = sumN M (fun t => on1 (decide (a ≤ t ∧ t < M))) := sumN_congr M (fun t ht => by
        by_cases z : a ≤ t
        · rw [on1_t (by simp; omega), on1_t (by simp; omega)]
        · rw [on1_f (by simp; omega), on1_f (by simp; omega)])
      rw [h1, ih M (Nat.le_refl _)]
      by_cases z : a ≤ M
      · rw [on1_t (by simp; omega)]
        omega
      · rw [on1_f (by simp; omega)]
        omega
/-- adding a part that was not there -/
theorem sumN_part (M : Nat) (A B : Nat → Bool) (a e : Nat) (he : e ≤ M) (h : ∀ t, t < M → (B t = true ↔ A t = true ∨ (a ≤ t ∧ t < e)) ∧ ¬ (A t = true ∧ a ≤ t ∧ t < e)) : sumN M (fun t => on1 (B t)) = sumN M (fun t => on1 (A t)) + (e - a) := by
  rw [← sumN_range M a e he, ← sumN_add]
  refine sumN_congr M (fun t ht => ?_)
  obtain ⟨h1, h2⟩ := h t ht
  by_cases q : A t = true
  · rw [on1_t (h1.mpr (Or.inl q)), on1_t q, on1_f (fun z => h2 ⟨q, of_decide_eq_true z⟩)]
  · by_cases q2 : a ≤ t ∧ t < e
    · rw [on1_t (h1.mpr (Or.inr q2)), on1_f q, on1_t (decide_eq_true q2)]
    · rw [on1_f (fun z => by rcases h1.mp z with z | z; exact q z; exact q2 z), on1_f q, on1_f (fun z => q2 (of_decide_eq_true z))]
theorem onN_t {v : gV} {t i : Nat} (hb : nb v i ≤ t) (q : t < ne v i) : onN v t i = true := decide_eq_true ⟨hb, q⟩
theorem onN_e {v : gV} {t i : Nat} (q : ¬ t < ne v i) : ¬ onN v t i = true := fun z => q (of_decide_eq_true z).2
theorem onN_b {v : gV} {t i : Nat} (q : ¬ nb v i ≤ t) : ¬ onN v t i = true := fun z => q (of_decide_eq_true z).1
section Sweep
variable {fu k : Nat} {σ : gSt} {v : gV}
theorem wt_nat (hw : WT v) {i : Nat} (hi : i < vn v) : vB v i = nI (nb v i) ∧ vE v i = nI (ne v i) ∧ nb v i < ne v i ∧ ne v i ≤ 1999 := by
  obtain ⟨b, e, p, h1, h2, -, h3, h4, -⟩ := hw.2.1 i hi
  unfold nb ne
  rw [h1, h2, nI_clamp (by omega), nI_clamp (by omega)]
  exact ⟨rfl, rfl, h3, h4⟩
theorem wo_nat (hw : WT v) (ho : WO v) {i j : Nat} (hij : i ≤ j) (hj : j < vn v) : nb v i ≤ nb v j := by
  rcases Nat.lt_or_ge i j with q | q
  · have h := ho i j q hj
    obtain ⟨h1, -, h2, h3⟩ := wt_nat hw (i := i) (by omega)
    obtain ⟨h4, -, h5, h6⟩ := wt_nat hw hj
    rw [h1, h4, z_le (by omega) (by omega)] at h
    exact h
  · rw [show i = j by omega]
    exact Nat.le_refl _
theorem onT_N (hw : WT v) {i t : Nat} (hi : i < vn v) (ht : t < 4096) : onT v (nI t) i = onN v t i := by
  obtain ⟨h1, h2, h3, h4⟩ := wt_nat hw hi
  unfold onT onN
  rw [h1, h2]
  apply decide_eq_decide.mpr
  rw [z_le (by omega) ht, z_lt ht (by omega)]
theorem cvN_step (i t : Nat) : cvN v (i + 1) t = cvN v i t + on1 (onN v t i) := rfl
/-- what the sweep knows when it stands behind i turns -/
def swI (v : gV) (i c d : Nat) : Prop := ∀ t, (∀ j, j < i → nb v j ≤ t) → (1 ≤ cvN v i t ↔ t < c) ∧ (2 ≤ cvN v i t ↔ t < d)
theorem swI_0 : swI v 0 0 0 := fun t _ => ⟨⟨fun h => absurd h (show ¬ 1 ≤ 0 by decide), fun h => absurd h (Nat.not_lt_zero t)⟩, ⟨fun h => absurd h (show ¬ 2 ≤ 0 by decide), fun h => absurd h (Nat.not_lt_zero t)⟩⟩
theorem swI_s (hw : WT v) (ho : WO v) {i c d : Nat} (hi : i < vn v) (h : swI v i c d) : swI v (i + 1) (max c (ne v i)) (max d (min (ne v i) c)) := by
  intro t ht
  obtain ⟨h1, h2⟩ := h t (fun j hj => ht j (by omega))
  have hb := ht i (Nat.lt_succ_self i)
  rw [cvN_step]
  by_cases q : t < ne v i
  · rw [on1_t (onN_t hb q)]
    constructor
    · constructor
      · intro _
        omega
      · intro _
        omega
    · constructor
      · intro z
        have : t < c := h1.mp (by omega)
        omega
      · intro z
        rcases Nat.lt_or_ge t d with z1 | z1
        · have := h2.mpr z1
          omega
        · have : t < c := by omega
          have := h1.mpr this
          omega
  · rw [on1_f (onN_e q), Nat.add_zero]
    constructor
    · rw [h1]
      omega
    · rw [h2]
      omega
/-- the seconds in which at least m of the first i go on -/
def scN (v : gV) (m i : Nat) : Nat := sumN 2000 (fun t => on1 (decide (m ≤ cvN v i t)))
theorem any_s (hw : WT v) (ho : WO v) {i c d : Nat} (hi : i < vn v) (h : swI v i c d) : scN v 1 (i + 1) = scN v 1 i + (ne v i - max c (nb v i)) := by
  have hn := (wt_nat hw hi).2.2
  refine sumN_part 2000 (fun t => decide (1 ≤ cvN v i t)) (fun t => decide (1 ≤ cvN v (i + 1) t)) _ _ (by omega) (fun t ht => ?_)
  simp only [decide_eq_true_eq]
  rw [cvN_step]
  by_cases hb : nb v i ≤ t
  · obtain ⟨h1, -⟩ := h t (fun j hj => Nat.le_trans (wo_nat hw ho (Nat.le_of_lt hj) hi) hb)
    by_cases q : t < ne v i
    · rw [on1_t (onN_t hb q)]
      exact ⟨⟨fun _ => by omega, fun _ => by omega⟩, fun ⟨z1, z2, z3⟩ => by have := h1.mp z1; omega⟩
    · rw [on1_f (onN_e q)]
      exact ⟨⟨fun z => Or.inl (by omega), fun z => by rcases z with z | z; omega; omega⟩, fun ⟨z1, z2, z3⟩ => q z3⟩
  · rw [on1_f (onN_b hb)]
    exact ⟨⟨fun z => Or.inl (by omega), fun z => by rcases z with z | z; omega; omega⟩, fun ⟨z1, z2, z3⟩ => hb (by omega)⟩
theorem sev_s (hw : WT v) (ho : WO v) {i c d : Nat} (hi : i < vn v) (h : swI v i c d) : scN v 2 (i + 1) = scN v 2 i + (min (ne v i) c - max d (nb v i)) := by
  have hn := (wt_nat hw hi).2.2
  refine sumN_part 2000 (fun t => decide (2 ≤ cvN v i t)) (fun t => decide (2 ≤ cvN v (i + 1) t)) _ _ (by omega) (fun t ht => ?_)
  simp only [decide_eq_true_eq]
  rw [cvN_step]
  by_cases hb : nb v i ≤ t
  · obtain ⟨h1, h2⟩ := h t (fun j hj => Nat.le_trans (wo_nat hw ho (Nat.le_of_lt hj) hi) hb)
    by_cases q : t < ne v i
    · rw [on1_t (onN_t hb q)]
      refine ⟨⟨fun z => ?_, fun z => ?_⟩, fun ⟨z1, z2, z3⟩ => by have := h2.mp z1; omega⟩
      · by_cases z1 : 2 ≤ cvN v i t
        · exact Or.inl z1
        · have := h1.mp (by omega)
          have hd : ¬ t < d := fun z2 => z1 (h2.mpr z2)
          exact Or.inr (by omega)
      · rcases z with z | z
        · omega
        · have := h1.mpr (by omega)
          omega
    · rw [on1_f (onN_e q)]
      exact ⟨⟨fun z => Or.inl (by omega), fun z => by rcases z with z | z; omega; omega⟩, fun ⟨z1, z2, z3⟩ => q (by omega)⟩
  · rw [on1_f (onN_b hb)]
    exact ⟨⟨fun z => Or.inl (by omega), fun z => by rcases z with z | z; omega; omega⟩, fun ⟨z1, z2, z3⟩ => hb (by omega)⟩
theorem cvN_0 (t : Nat) : cvN v 0 t = 0 := rfl
theorem scN_0 (m : Nat) (hm : 0 < m) : scN v m 0 = 0 := by
  unfold scN
  rw [sumN_congr (g := fun _ => 0) 2000 (fun t _ => on1_f (by rw [cvN_0]; simp; omega)), sumN_0]
theorem scN_le (m i : Nat) : scN v m i ≤ 2000 := by
  have : scN v m i ≤ 2000 * 1 := sumN_le 2000 (fun t _ => by
    by_cases q : decide (m ≤ cvN v i t) = true
    · rw [on1_t q]
      exact Nat.le_refl _
    · rw [on1_f q]
      exact Nat.zero_le _)
  omega
theorem zt_any (hf : 20 < fu) (h : RCt k v σ) (hw : WT v) (ho : WO v) : f_X8_secondsWithAny fu σ k = some (nI (scN v 1 (vn v))) := by
  have h20 := hw.1
  have key : ∀ (n i c d : Nat), i ≤ vn v → vn v - i < n → c ≤ 1999 → swI v i c d → f_X8_secondsWithAny_W6 fu σ k n (nI c) (nI (scN v 1 i)) (nI i) = some (nI (scN v 1 (vn v))) := by
    intro n
    induction n with
    | zero => intro i c d _ q; exact absurd q (Nat.not_lt_zero _)
    | succ n ih =>
      intro i c d hi hn hc hI
      rw [f_X8_secondsWithAny_W6_s]
      unfold f_X8_secondsWithAny_L6
      rw [h.1]
      rcases Nat.lt_or_ge i (vn v) with q | q
      · obtain ⟨e1, e2, e3, e4⟩ := wt_nat hw q
        rw [if_neg (zl_le q (by omega)), zt_end h hw q, zt_begin h hw q, e1, e2, bd_some, bd_some, z_max fu σ (by omega) (by omega), bd_some, z_max0 fu σ (by omega) (by omega), bd_some, bd_some, z_max fu σ (by omega) (by omega), bd_some, nI_add, ← any_s hw ho q hI, z_add1]
        exact ih (i + 1) _ _ q (by omega) (by omega) (swI_s hw ho q hI)
      · rw [if_pos (zl_ge q (by omega)), show i = vn v by omega]
  have := key fu 0 0 0 (Nat.zero_le _) (by omega) (by omega) swI_0
  rw [scN_0 1 (by omega)] at this
  exact this
theorem zt_sev (hf : 20 < fu) (h : RCt k v σ) (hw : WT v) (ho : WO v) : f_X8_secondsWithSeveral fu σ k = some (nI (scN v 2 (vn v))) := by
  have h20 := hw.1
  have key : ∀ (n i c d : Nat), i ≤ vn v → vn v - i < n → c ≤ 1999 → d ≤ 1999 → swI v i c d → f_X8_secondsWithSeveral_W9 fu σ k n (nI c) (nI d) (nI (scN v 2 i)) (nI i) = some (nI (scN v 2 (vn v))) := by
    intro n
    induction n with
    | zero => intro i c d _ q; exact absurd q (Nat.not_lt_zero _)
    | succ n ih =>
      intro i c d hi hn hc hd hI
      rw [f_X8_secondsWithSeveral_W9_s]
      unfold f_X8_secondsWithSeveral_L9
      rw [h.1]
      rcases Nat.lt_or_ge i (vn v) with q | q
      · obtain ⟨e1, e2, e3, e4⟩ := wt_nat hw q
        rw [if_neg (zl_le q (by omega)), zt_end h hw q, zt_begin h hw q, e1, e2, bd_some, z_min fu σ (by omega) (by omega), bd_some, bd_some, z_max fu σ (by omega) (by omega), bd_some, z_max0 fu σ (by omega) (by omega), bd_some, z_max fu σ (by omega) (by omega), bd_some, bd_some, z_max fu σ (by omega) (by omega), bd_some, nI_add, ← sev_s hw ho q hI, z_add1]
        exact ih (i + 1) _ _ q (by omega) (by omega) (by omega) (swI_s hw ho q hI)
      · rw [if_pos (zl_ge q (by omega)), show i = vn v by omega]
  have := key fu 0 0 0 (Nat.zero_le _) (by omega) (by omega) (by omega) swI_0
  rw [scN_0 2 (by omega)] at this
  exact this
/-- a turn goes on alone -/
def alT (v : gV) (p t : Nat) : Bool := decide ((nb v p ≤ t ∧ t < ne v p) ∧ ∀ j, j < vn v → j ≠ p → ¬ (nb v j ≤ t ∧ t < ne v j))
def alN (v : gV) (p : Nat) : Nat := sumN 2000 (fun t => on1 (alT v p t))
def alI (v : gV) (p i c : Nat) : Prop := nb v p ≤ c ∧ ∀ j, j < i → j ≠ p → ne v j ≤ c
theorem al_s (hw : WT v) (ho : WO v) {p i c : Nat} (hp : p < vn v) (hi : i < vn v) (hne : i ≠ p) (h : alI v p i c) : sumN 2000 (fun t => on1 (decide (alT v p t = true ∧ t < max c (ne v i)))) = sumN 2000 (fun t => on1 (decide (alT v p t = true ∧ t < c))) + (min (nb v i) (ne v p) - c) := by
  have hn := (wt_nat hw hp).2.2
  have hni := (wt_nat hw hi).2.2
  refine sumN_part 2000 (fun t => decide (alT v p t = true ∧ t < c)) (fun t => decide (alT v p t = true ∧ t < max c (ne v i))) _ _ (by omega) (fun t ht => ?_)
  simp only [decide_eq_true_eq]
  refine ⟨⟨fun ⟨z1, z2⟩ => ?_, fun z => ?_⟩, fun ⟨z1, z2, z3⟩ => by omega⟩
  · rcases Nat.lt_or_ge t c with q | q
    · exact Or.inl ⟨z1, q⟩
    · have z3 := of_decide_eq_true z1
      have z4 := z3.2 i hi hne
      exact Or.inr (by omega)
  · rcases z with ⟨z1, z2⟩ | ⟨z1, z2⟩
    · exact ⟨z1, by omega⟩
    · refine ⟨decide_eq_true ⟨⟨by have := h.1; omega, by omega⟩, fun j hj hjp z3 => ?_⟩, by omega⟩
      rcases Nat.lt_or_ge j i with q | q
      · have := h.2 j q hjp
        omega
      · have := wo_nat hw ho q hj
        omega
theorem zt_alone (hf : 20 < fu) (h : RCt k v σ) (hw : WT v) (ho : WO v) {p : Nat} (hp : p < vn v) : f_X8_secondsAlone fu σ k (nI p) = some (nI (alN v p)) := by
  have h20 := hw.1
  obtain ⟨a1, a2, a3, a4⟩ := wt_nat hw hp
  have key : ∀ (n i c : Nat), i ≤ vn v → vn v - i < n → c ≤ 1999 → alI v p i c → f_X8_secondsAlone_W11 fu σ k (nI p) n (nI c) (nI (sumN 2000 (fun t => on1 (decide (alT v p t = true ∧ t < c))))) (nI i) = some (nI (alN v p)) := by
    intro n
    induction n with
    | zero => intro i c _ q; exact absurd q (Nat.not_lt_zero _)
    | succ n ih =>
      intro i c hi hn hc hI
      rw [f_X8_secondsAlone_W11_s]
      unfold f_X8_secondsAlone_L11
      rw [h.1]
      rcases Nat.lt_or_ge i (vn v) with q | q
      · obtain ⟨e1, e2, e3, e4⟩ := wt_nat hw q
        rw [if_neg (zl_le q (by omega))]
        by_cases hne : i = p
        · rw [if_pos (by rw [hne]), z_add1]
          exact ih (i + 1) c q (by omega) hc ⟨hI.1, fun j hj hjp => hI.2 j (by omega) hjp⟩
        · rw [if_neg (fun e => hne ((z_eq (by omega) (by omega)).mp e)), zt_begin h hw q, zt_end h hw hp, zt_end h hw q, e1, e2, a2, bd_some, bd_some, z_min fu σ (by omega) (by omega), bd_some, z_max0 fu σ (by omega) (by omega), bd_some, bd_some, z_max fu σ (by omega) (by omega), bd_some, nI_add, ← al_s hw ho hp q hne hI, z_add1]
          refine ih (i + 1) _ q (by omega) (by omega) ⟨Nat.le_trans hI.1 (Nat.le_max_left _ _), fun j hj hjp => ?_⟩
          by_cases e : j = i
          · subst e
            exact Nat.le_max_right _ _
          · exact Nat.le_trans (hI.2 j (by omega) hjp) (Nat.le_max_left _ _)
      · rw [if_pos (zl_ge q (by omega)), zt_end h hw hp, a2, bd_some, z_max0 fu σ (by omega) (by omega), bd_some, nI_add]
        have hall : i = vn v := by omega
        subst hall
        refine congrArg (fun x => some (nI x)) ?_
        symm
        refine sumN_part 2000 (fun t => decide (alT v p t = true ∧ t < c)) (fun t => alT v p t) _ _ (by omega) (fun t ht => ?_)
        simp only [decide_eq_true_eq]
        refine ⟨⟨fun z => ?_, fun z => ?_⟩, fun ⟨z1, z2, z3⟩ => by omega⟩
        · rcases Nat.lt_or_ge t c with q1 | q1
          · exact Or.inl ⟨z, q1⟩
          · exact Or.inr ⟨q1, (of_decide_eq_true z).1.2⟩
        · rcases z with ⟨z1, z2⟩ | ⟨z1, z2⟩
          · exact z1
          · refine decide_eq_true ⟨⟨by have := hI.1; omega, z2⟩, fun j hj hjp z3 => ?_⟩
            have := hI.2 j hj hjp
            omega
  unfold f_X8_secondsAlone
  rw [zt_begin h hw hp, a1, bd_some]
  have h0 : sumN 2000 (fun t => on1 (decide (alT v p t = true ∧ t < nb v p))) = 0 := by
    rw [sumN_congr (g := fun _ => 0) 2000 (fun t _ => on1_f (fun z => by
      have z := of_decide_eq_true z
      have := (of_decide_eq_true z.1).1.1
      omega)), sumN_0]
  have := key fu 0 (nb v p) (Nat.zero_le _) (by omega) (by omega) ⟨Nat.le_refl _, fun j hj _ => absurd hj (Nat.not_lt_zero j)⟩
  rw [h0] at this
  exact this
end Sweep
