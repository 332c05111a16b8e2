/-! ===== chains of corrections ===== -/
theorem php : ∀ (n : Nat) (f : Nat → Nat), (∀ i, i ≤ n → f i < n) → ∃ i j, i < j ∧ j ≤ n ∧ f i = f j
  | 0, f, h => absurd (h 0 (Nat.le_refl _)) (Nat.not_lt_zero _)
  | n + 1, f, h => by
    by_cases hq : ∃ i, i ≤ n ∧ f i = f (n + 1)
    · obtain ⟨i, h1, h2⟩ := hq
      exact ⟨i, n + 1, by omega, Nat.le_refl _, h2⟩
    · have hne : ∀ i, i ≤ n → f i ≠ f (n + 1) := fun i hi e => hq ⟨i, hi, e⟩
      obtain ⟨i, j, h1, h2, h3⟩ := php n (fun i => if f i = n then f (n + 1) else f i) (fun i hi => by
        show (if f i = n then f (n + 1) else f i) < n
        have a := h i (by omega)
        have b := h (n + 1) (Nat.le_refl _)
        have c := hne i hi
        by_cases e : f i = n
        · rw [if_pos e]
          omega
        · rw [if_neg e]
          omega)
      have h3 : (if f i = n then f (n + 1) else f i) = (if f j = n then f (n + 1) else f j) := h3
      refine ⟨i, j, h1, by omega, ?_⟩
      by_cases e1 : f i = n
      · by_cases e2 : f j = n
        · rw [e1, e2]
        · rw [if_pos e1, if_neg e2] at h3
          exact absurd h3.symm (hne j h2)
      · by_cases e2 : f j = n
        · rw [if_neg e1, if_pos e2] at h3
          exact absurd h3 (hne i (by omega))
        · rw [if_neg e1, if_neg e2] at h3
          exact h3
section Chain
variable {T : Nat → Nat}
theorem shn_0 (t : Nat) : shn T 0 t = t := rfl
theorem shn_stop {t : Nat} (h : T t = 0) : ∀ k, shn T k t = t
  | 0 => rfl
  | k + 1 => by
    unfold shn
    rw [if_pos h]
theorem shn_go {t : Nat} (h : T t ≠ 0) (k : Nat) : shn T (k + 1) t = shn T k (T t - 1) := by
  show (if T t = 0 then t else shn T k (T t - 1)) = _
  rw [if_neg h]
theorem shn_add (a : Nat) : ∀ (b t : Nat), shn T (b + a) t = shn T a (shn T b t)
  | 0, t => by rw [Nat.zero_add, shn_0]
  | b + 1, t => by
    by_cases h : T t = 0
    · rw [shn_stop h, shn_stop h, shn_stop h]
    · rw [show b + 1 + a = (b + a) + 1 by omega, shn_go h, shn_go h, shn_add a b]
theorem shn_lt (hw : TW T) : ∀ (k t : Nat), t < 16 → shn T k t < 16
  | 0, t, h => h
  | k + 1, t, h => by
    by_cases h0 : T t = 0
    · rw [shn_stop h0]
      exact h
    · rw [shn_go h0]
      exact shn_lt hw k _ (by have := hw t h; omega)
/-- every chain ends within fifteen steps -/
def TB (T : Nat → Nat) : Prop := ∀ t, t < 16 → T (shn T 15 t) = 0
theorem tb_of (hw : TW T) (ha : TA T) : TB T := by
  intro t ht
  rcases Nat.eq_zero_or_pos (T (shn T 15 t)) with h0 | h0
  · exact h0
  · exfalso
    have hk : ∀ k, k ≤ 15 → T (shn T k t) ≠ 0 := fun k hk e => by
      have h1 : shn T 15 t = shn T k t := by
        rw [show 15 = k + (15 - k) by omega, shn_add, shn_stop e]
      rw [h1] at h0
      omega
    obtain ⟨i, j, h1, h2, h3⟩ := php 16 (fun k => shn T k t) (fun k _ => shn_lt hw k t ht)
    have h3 : shn T i t = shn T j t := h3
    have hall : ∀ k, T (shn T k t) ≠ 0 := by
      intro k
      induction k using Nat.strongRecOn with
      | ind k ih =>
        rcases Nat.lt_or_ge k 16 with q | q
        · exact hk k (by omega)
        · have e : shn T k t = shn T (i + (k - j)) t := by
            rw [show k = j + (k - j) by omega, shn_add, ← h3, shn_add, show j + (k - j) - j = k - j by omega]
          rw [e]
          exact ih _ (by omega)
    obtain ⟨k, hk2⟩ := ha t ht
    exact hall k hk2
theorem sh_end (hb : TB T) {t : Nat} (ht : t < 16) : T (sh T t) = 0 := by
  have h := hb t ht
  have e : sh T t = shn T 15 t := by
    show shn T (15 + 1) t = _
    rw [shn_add, shn_stop h]
  rw [e]
  exact h
theorem ldn_self (g k : Nat) : ldn T g k g = true := by cases k <;> simp [ldn]
theorem ldn_stop {g t : Nat} (h : T t = 0) (k : Nat) : ldn T g k t = (t == g) := by cases k <;> simp [ldn, h]
theorem ldn_go {g t : Nat} (h : T t ≠ 0) (hg : t ≠ g) (k : Nat) : ldn T g (k + 1) t = ldn T g k (T t - 1) := by
  have e1 : (t == g) = false := beq_false_of_ne hg
  have e2 : (T t != 0) = true := bne_iff_ne.mpr h
  show (t == g || (T t != 0 && ldn T g k (T t - 1))) = _
  rw [e1, e2]
  rfl
theorem ldn_iff (g : Nat) : ∀ (k t : Nat), ldn T g k t = true ↔ ∃ j, j ≤ k ∧ shn T j t = g
  | 0, t => by
    constructor
    · intro h
      exact ⟨0, Nat.le_refl _, by rw [shn_0]; simpa [ldn] using h⟩
    · rintro ⟨j, h1, h2⟩
      have : j = 0 := by omega
      subst this
      simpa [ldn, shn] using h2
  | k + 1, t => by
    by_cases hg : t = g
    · subst hg
      exact ⟨fun _ => ⟨0, by omega, rfl⟩, fun _ => ldn_self _ _⟩
    · by_cases h0 : T t = 0
      · rw [ldn_stop h0]
        constructor
        · intro h
          exact absurd (by simpa using h) hg
        · rintro ⟨j, -, h2⟩
          rw [shn_stop h0] at h2
          exact absurd h2 hg
      · rw [ldn_go h0 hg, ldn_iff g k]
        constructor
        · rintro ⟨j, h1, h2⟩
          exact ⟨j + 1, by omega, by rw [shn_go h0]; exact h2⟩
        · rintro ⟨j, h1, h2⟩
          cases j with
          | zero => exact absurd h2 hg
          | succ j => exact ⟨j, by omega, by rw [shn_go h0] at h2; exact h2⟩
/-- in a world without comings back sixteen steps see all -/
theorem ld_all (hb : TB T) {t : Nat} (ht : t < 16) (g : Nat) : ldn T g 16 t = true ↔ ∃ j, shn T j t = g := by
  rw [ldn_iff]
  constructor
  · rintro ⟨j, -, h⟩
    exact ⟨j, h⟩
  · rintro ⟨j, h⟩
    rcases Nat.lt_or_ge 16 j with q | q
    · refine ⟨15, by omega, ?_⟩
      rw [show j = 15 + (j - 15) by omega, shn_add, shn_stop (hb t ht)] at h
      exact h
    · exact ⟨j, q, h⟩
theorem sh_same (hb : TB T) {t : Nat} (ht : t < 16) {m : Nat} (hm : T (shn T m t) = 0) : shn T m t = sh T t := by
  rcases Nat.lt_or_ge m 16 with q | q
  · show _ = shn T 16 t
    rw [show 16 = m + (16 - m) by omega, shn_add, shn_stop hm]
  · show shn T m t = shn T 16 t
    rw [show m = 16 + (m - 16) by omega, shn_add, shn_stop (sh_end hb ht)]
end Chain
