/-! ===== how many bits a set has ===== -/
def popF : Nat → Nat → Nat
  | 0, _ => 0
  | k + 1, m => m % 2 + popF k (m / 2)
theorem popF_0 : ∀ k, popF k 0 = 0
  | 0 => rfl
  | k + 1 => by
    show 0 % 2 + popF k (0 / 2) = 0
    rw [Nat.zero_div, popF_0 k]
theorem popF_clear : ∀ (k m : Nat), 0 < m → m < 2 ^ k → popF k (m &&& (m - 1)) + 1 = popF k m
  | 0, m, h, h2 => absurd h2 (by simp; omega)
  | k + 1, m, h, h2 => by
    show (m &&& (m - 1)) % 2 + popF k ((m &&& (m - 1)) / 2) + 1 = m % 2 + popF k (m / 2)
    have hp : 2 ^ (k + 1) = 2 * 2 ^ k := by rw [Nat.pow_succ, Nat.mul_comm]
    have hz : (m &&& (m - 1)) % 2 = 0 := by
      rcases Nat.mod_two_eq_zero_or_one (m &&& (m - 1)) with q | q
      · exact q
      · have := Nat.and_mod_two_eq_one.mp q
        omega
    rw [hz, Nat.and_div_two, Nat.zero_add]
    rcases Nat.mod_two_eq_zero_or_one m with q | q
    · rw [q, Nat.zero_add, show (m - 1) / 2 = m / 2 - 1 by omega]
      exact popF_clear k (m / 2) (by omega) (by omega)
    · rw [q, show (m - 1) / 2 = m / 2 by omega, Nat.and_self, Nat.add_comm]
/-- a set as a number -/
def bitN (n : Nat) (c : Nat → Bool) : Nat := sumN n (fun i => if c i = true then 2 ^ i else 0)
theorem bitN_lt (c : Nat → Bool) : ∀ n, bitN n c < 2 ^ n
  | 0 => by simp [bitN, sumN]
  | n + 1 => by
    have h := bitN_lt c n
    show sumN n _ + (if c n = true then 2 ^ n else 0) < 2 ^ (n + 1)
    have hp : 2 ^ (n + 1) = 2 * 2 ^ n := by rw [Nat.pow_succ, Nat.mul_comm]
    have h' : sumN n (fun i => if c i = true then 2 ^ i else 0) < 2 ^ n := h
    split <;> omega
theorem popF_add : ∀ (k n m : Nat), m < 2 ^ n → n < k → popF k (m + 2 ^ n) = popF k m + 1
  | 0, n, m, _, h => absurd h (Nat.not_lt_zero n)
  | k + 1, 0, m, h, _ => by
    have : m = 0 := by simp at h; exact h
    subst this
    show 1 + popF k 0 = (0 + popF k 0) + 1
    rw [popF_0]
  | k + 1, n + 1, m, h, hk => by
    have hp : 2 ^ (n + 1) = 2 * 2 ^ n := by rw [Nat.pow_succ, Nat.mul_comm]
    show (m + 2 ^ (n + 1)) % 2 + popF k ((m + 2 ^ (n + 1)) / 2) = m % 2 + popF k (m / 2) + 1
    rw [show (m + 2 ^ (n + 1)) % 2 = m % 2 by omega, show (m + 2 ^ (n + 1)) / 2 = m / 2 + 2 ^ n by omega, popF_add k n (m / 2) (by omega) (by omega), Nat.add_assoc]
theorem pop_bitN (c : Nat → Bool) (k : Nat) : ∀ n, n ≤ k → popF k (bitN n c) = sumN n (fun i => on1 (c i))
  | 0, _ => popF_0 k
  | n + 1, h => by
    have ih := pop_bitN c k n (by omega)
    show popF k (bitN n c + (if c n = true then 2 ^ n else 0)) = sumN n _ + on1 (c n)
    by_cases q : c n = true
    · rw [if_pos q, popF_add k n _ (bitN_lt c n) (by omega), ih, show on1 (c n) = 1 from if_pos q]
    · rw [if_neg q, Nat.add_zero, ih, show on1 (c n) = 0 from if_neg q, Nat.add_zero]
theorem z_shl1 {i : Nat} (h : i < 31) : (1 : Int32) <<< (nI i &&& 31) = nI (2 ^ i) := by
  have := pk_shlN (n := 1) (nI i &&& 31) i (s_l i (by omega)) (by rw [Nat.one_mul]; exact Nat.pow_lt_pow_right (by omega) (by omega))
  rw [Nat.one_mul] at this
  exact this
theorem nI_or (a b : Nat) : nI a ||| nI b = nI (a ||| b) := by
  apply Int32.toBitVec_inj.1
  show BitVec.ofNat 32 a ||| BitVec.ofNat 32 b = BitVec.ofNat 32 (a ||| b)
  apply BitVec.eq_of_getLsbD_eq
  intro i hi
  simp [hi]
theorem orS_bitN (c : Nat → Bool) : ∀ n, n ≤ 31 → orS n c = nI (bitN n c)
  | 0, _ => rfl
  | n + 1, h => by
    have ih := orS_bitN c n (by omega)
    unfold orS at ih ⊢
    rw [itr_snoc, Nat.zero_add, ih]
    show _ = nI (bitN n c + (if c n = true then 2 ^ n else 0))
    by_cases q : c n = true
    · have e := Nat.two_pow_add_eq_or_of_lt (bitN_lt c n) 1
      rw [Nat.mul_one] at e
      rw [if_pos q, if_pos q, z_shl1 (by omega), nI_or, Nat.or_comm, ← e, Nat.add_comm]
    · rw [if_neg q, if_neg q, Nat.add_zero]
theorem ones_W (fu : Nat) (σ : gSt) (x : Int32) (K : Nat) (hK : K ≤ 31) : ∀ (k n m a : Nat), m < 2 ^ K → popF K m ≤ k → k < n → f_X10_ones_W4 fu σ x n (nI a) (nI m) = some (nI (a + popF K m)) := by
  intro k n
  induction n generalizing k with
  | zero => intro m a _ _ q; exact absurd q (Nat.not_lt_zero k)
  | succ n ih =>
    intro m a hm hk hn
    have hm2 : m < 2 ^ 31 := Nat.lt_of_lt_of_le hm (Nat.pow_le_pow_right (by omega) hK)
    rw [f_X10_ones_W4_s]
    unfold f_X10_ones_L4
    rcases Nat.eq_zero_or_pos m with q | q
    · subst q
      rw [if_pos (show nI 0 = 0 from rfl), popF_0]
      rfl
    · have hc := popF_clear K m q hm
      have hle : m &&& (m - 1) ≤ m := Nat.and_le_left
      have hne : ¬ nI m = 0 := fun e => by
        have := (nI_eq (a := m) (b := 0) hm2 (by omega)).mp e
        omega
      rw [if_neg hne, z_add1, show (1 : Int32) = nI 1 from rfl, pk_sub q, nx_and]
      cases k with
      | zero => omega
      | succ k =>
        rw [ih k (m &&& (m - 1)) (a + 1) (Nat.lt_of_le_of_lt hle hm) (by omega) (by omega), show a + 1 + popF K (m &&& (m - 1)) = a + popF K m by omega]
theorem popF_le : ∀ k m, popF k m ≤ k
  | 0, _ => Nat.le_refl _
  | k + 1, m => by
    have := popF_le k (m / 2)
    show m % 2 + popF k (m / 2) ≤ k + 1
    omega
theorem zm_ones {fu : Nat} (hf : 31 < fu) (σ : gSt) {n : Nat} (hn : n ≤ 31) (c : Nat → Bool) : f_X10_ones fu σ (orS n c) = some (nI (sumN n (fun i => on1 (c i)))) := by
  rw [orS_bitN c n hn]
  have h := ones_W fu σ (nI (bitN n c)) n hn n fu (bitN n c) 0 (bitN_lt c n) (popF_le _ _) (by omega)
  rw [Nat.zero_add, pop_bitN c n n (Nat.le_refl _)] at h
  exact h
section MRead2
variable {fu k : Nat} {σ : gSt} {v : gV}
theorem zm_often (hf : 20 < fu) (h : RM (k + 1) 0 v σ) (hw : WT v) (hs : WS v) (a b : Int32) (c : Nat → Nat → Bool) (hc : ∀ i j, i < vn v → j < vn v → c i j = (decide (a < 0 ∨ vO v i = a) && decide (b < 0 ∨ vO v j = b) && itp v i j)) : f_X10_often fu σ k a b = some (nI (ct2 (vn v) (fun _ => vn v) c)) := by
  have hn := hw.1
  rw [← itr_ct2]
  refine lpU0 (fun n i t => f_X10_often_W5 fu σ k a b n t (nI i)) (vn v) _ some (fun n i t hi => ?_) (fun n t => ?_) fu 0 (by omega)
  · rw [f_X10_often_W5_s]
    unfold f_X10_often_L5
    rw [rmN h, if_neg (zl_le hi (by omega))]
    refine lpU0 (fun m j t => f_X10_often_W21 fu σ k a b (f_X10_often_W5 fu σ k a b n) (nI i) m t (nI j)) (vn v) _ (fun t => f_X10_often_W5 fu σ k a b n t (nI (i + 1))) (fun m j t hj => ?_) (fun m t => ?_) fu t (by omega)
    · have e0 : ∀ s : Int32, s = 0 → f_X10_often_J69 fu σ k a b (f_X10_often_W5 fu σ k a b n) (f_X10_often_W21 fu σ k a b (f_X10_often_W5 fu σ k a b n) (nI i) m) t (nI i) (nI j) s = f_X10_often_W21 fu σ k a b (f_X10_often_W5 fu σ k a b n) (nI i) m t (nI (j + 1)) := fun s hs => by
        unfold f_X10_often_J69
        rw [if_pos hs, Int32.add_zero, z_add1]
      have e1 : ∀ s : Int32, ¬ s = 0 → f_X10_often_J69 fu σ k a b (f_X10_often_W5 fu σ k a b n) (f_X10_often_W21 fu σ k a b (f_X10_often_W5 fu σ k a b n) (nI i) m) t (nI i) (nI j) s = f_X10_often_W21 fu σ k a b (f_X10_often_W5 fu σ k a b n) (nI i) m (if itp v i j = true then t + 1 else t) (nI (j + 1)) := fun s hs0 => by
        unfold f_X10_often_J69
        rw [if_neg hs0, zm_interrupt h hw hs hi hj, bd_some, lt_eq, z_add1]
        by_cases e3 : itp v i j = true
        · rw [if_neg (fun q => bi_0.mp q e3), if_pos e3]
        · rw [if_pos (bi_0.mpr e3), if_neg e3, Int32.add_zero]
      have ej : f_X10_often_J49 fu σ k a b (f_X10_often_W5 fu σ k a b n) (f_X10_often_W21 fu σ k a b (f_X10_often_W5 fu σ k a b n) (nI i) m) t (nI i) (nI j) = f_X10_often_W21 fu σ k a b (f_X10_often_W5 fu σ k a b n) (nI i) m (if (b < 0 ∨ vO v j = b) ∧ itp v i j = true then t + 1 else t) (nI (j + 1)) := by
        unfold f_X10_often_J49
        by_cases q : b < 0
        · rw [if_pos q, e1 1 (by decide)]
          by_cases e3 : itp v i j = true
          · rw [if_pos e3, if_pos ⟨Or.inl q, e3⟩]
          · rw [if_neg e3, if_neg (fun z => e3 z.2)]
        · rw [if_neg q, zm_O h hw hj, bd_some, lt_eq]
          by_cases q2 : vO v j = b
          · rw [if_pos q2, e1 1 (by decide)]
            by_cases e3 : itp v i j = true
            · rw [if_pos e3, if_pos ⟨Or.inr q2, e3⟩]
            · rw [if_neg e3, if_neg (fun z => e3 z.2)]
          · rw [if_neg q2, e0 0 rfl, if_neg (fun z => by rcases z.1 with z | z; exact q z; exact q2 z)]
      show f_X10_often_W21 fu σ k a b (f_X10_often_W5 fu σ k a b n) (nI i) (m + 1) t (nI j) = f_X10_often_W21 fu σ k a b (f_X10_often_W5 fu σ k a b n) (nI i) m (if c i j = true then t + 1 else t) (nI (j + 1))
      rw [f_X10_often_W21_s]
      unfold f_X10_often_L21
      rw [rmN h, if_neg (zl_le hj (by omega)), hc i j hi hj]
      by_cases q : a < 0
      · rw [if_pos q, ej]
        by_cases e3 : (b < 0 ∨ vO v j = b) ∧ itp v i j = true
        · rw [if_pos e3, if_pos (by simp [q, e3.1, e3.2])]
        · rw [if_neg e3, if_neg (fun z => e3 (by simp at z; exact ⟨z.1.2, z.2⟩))]
      · rw [if_neg q, zm_O h hw hi, bd_some]
        by_cases q2 : vO v i = a
        · rw [if_pos q2, ej]
          by_cases e3 : (b < 0 ∨ vO v j = b) ∧ itp v i j = true
          · rw [if_pos e3, if_pos (by simp [q2, e3.1, e3.2])]
          · rw [if_neg e3, if_neg (fun z => e3 (by simp at z; exact ⟨z.1.2, z.2⟩))]
        · rw [if_neg q2, e0 0 rfl, if_neg (fun z => by
            simp at z
            rcases z.1.1 with z | z
            · exact q z
            · exact q2 z)]
    · rw [f_X10_often_W21_s]
      unfold f_X10_often_L21
      rw [rmN h, if_pos (zl_ge (Nat.le_refl _) (by omega)), z_add1]
  · rw [f_X10_often_W5_s]
    unfold f_X10_often_L5
    rw [rmN h, if_pos (zl_ge (Nat.le_refl _) (by omega))]
theorem zm_shows (hf : 20 < fu) (h : RM (k + 1) 0 v σ) (hw : WT v) (hT : TW (vT v)) (hb : TB (vT v)) {i t : Nat} (hi : i < vn v) (ht : t < 16) : f_X10_shows fu σ k (nI i) (nI t) = some (nI (shc v i t)) := by
  have hc := (hw.2.2 i hi).1
  have e1 := itr_sum (g := fun j x => x + nI (on1 (sh (vT v) (vQ v i j) == t))) (vC v i) 0 (fun i x _ => rfl)
  rw [Nat.zero_add] at e1
  unfold shc
  rw [← e1]
  refine lpU0 (fun n j x => f_X10_shows_W5 fu σ k (nI i) (nI t) n x (nI j)) (vC v i) _ some (fun n j x hj => ?_) (fun n x => ?_) fu 0 (by omega)
  · have hq := (hw.2.2 i hi).2 j hj
    have := sh_lt hT hq
    rw [f_X10_shows_W5_s]
    unfold f_X10_shows_L5
    rw [zm_C h hw hi, bd_some, if_neg (zl_le hj (by omega)), zm_Q h hw hi hj, bd_some, zm_shown (by omega) h hT hb hq, bd_some, lt_eq, z_add1]
    by_cases e : sh (vT v) (vQ v i j) = t
    · rw [if_pos (by rw [e]), show on1 (sh (vT v) (vQ v i j) == t) = 1 from if_pos (by simp [e])]
      rfl
    · rw [if_neg (fun q => e ((z_eq (by omega) (by omega)).mp q)), show on1 (sh (vT v) (vQ v i j) == t) = 0 from if_neg (by simp [e])]
      rfl
  · rw [f_X10_shows_W5_s]
    unfold f_X10_shows_L5
    rw [zm_C h hw hi, bd_some, if_pos (zl_ge (Nat.le_refl _) (by omega))]
theorem shc_le (hw : WT v) {i : Nat} (hi : i < vn v) (t : Nat) : shc v i t ≤ 8 := by
  have hc := (hw.2.2 i hi).1
  have h1 : shc v i t ≤ vC v i * 1 := sumN_le (vC v i) (fun j _ => by
    show on1 _ ≤ 1
    by_cases q : (sh (vT v) (vQ v i j) == t) = true
    · rw [show on1 (sh (vT v) (vQ v i j) == t) = 1 from if_pos q]
      exact Nat.le_refl _
    · rw [show on1 (sh (vT v) (vQ v i j) == t) = 0 from if_neg q]
      exact Nat.zero_le _)
  omega
theorem nI_0iff {a : Nat} (h : a < 4096) : nI a = 0 ↔ a = 0 := z_eq (b := 0) h (by omega)
theorem nI_le0 {a : Nat} (h : a < 4096) : nI a ≤ 0 ↔ a = 0 := by
  have := z_le (a := a) (b := 0) h (by omega)
  exact ⟨fun q => by have := this.mp q; omega, fun q => this.mpr (by omega)⟩
theorem zm_showing_J (fu k : Nat) (σ : gSt) (p w : Int32) (ag : Int32 → Int32 → Option Int32) (x i c s : Int32) : f_X10_showing_J50 fu σ k p w ag x i c s = ag (if w = 3 then x + c else if c = 0 then x else if w = 4 then x ||| (1 <<< (i &&& 31)) else x ||| s) (i + 1) := rfl
theorem zm_showing3 (hf : 20 < fu) (h : RM (k + 1) 0 v σ) (hw : WT v) (hs : WS v) (hT : TW (vT v)) (hb : TB (vT v)) {t : Nat} (ht : t < 16) : f_X10_showing fu σ k (nI t) 3 = some (nI (sumN (vn v) (fun i => shc v i t))) := by
  have hn := hw.1
  have e1 := itr_sum (g := fun i x => x + nI (shc v i t)) (vn v) 0 (fun i x _ => rfl)
  rw [Nat.zero_add] at e1
  rw [← e1]
  refine lpU0 (fun n i x => f_X10_showing_W5 fu σ k (nI t) 3 n x (nI i)) (vn v) _ some (fun n i x hi => ?_) (fun n x => ?_) fu 0 (by omega)
  · rw [f_X10_showing_W5_s]
    unfold f_X10_showing_L5
    rw [rmN h, if_neg (zl_le hi (by omega)), zm_shows hf h hw hT hb hi ht, bd_some, zm_O h hw hi]
    rw [bd_some, bd_some, zm_showing_J, zm_showing_J, z_add1]
    by_cases q : vO v i < 0
    · rw [if_pos q, if_pos (show (3 : Int32) = 3 from rfl)]
    · rw [if_neg q, if_pos (show (3 : Int32) = 3 from rfl)]
  · rw [f_X10_showing_W5_s]
    unfold f_X10_showing_L5
    rw [rmN h, if_pos (zl_ge (Nat.le_refl _) (by omega))]
theorem zm_showing4 (hf : 20 < fu) (h : RM (k + 1) 0 v σ) (hw : WT v) (hs : WS v) (hT : TW (vT v)) (hb : TB (vT v)) {t : Nat} (ht : t < 16) : f_X10_showing fu σ k (nI t) 4 = some (orS (vn v) (fun i => decide (0 < shc v i t))) := by
  have hn := hw.1
  refine lpU0 (fun n i x => f_X10_showing_W5 fu σ k (nI t) 4 n x (nI i)) (vn v) _ some (fun n i x hi => ?_) (fun n x => ?_) fu 0 (by omega)
  · have hl := shc_le hw hi t
    rw [f_X10_showing_W5_s]
    unfold f_X10_showing_L5
    rw [rmN h, if_neg (zl_le hi (by omega)), zm_shows hf h hw hT hb hi ht, bd_some, zm_O h hw hi]
    rw [bd_some, bd_some, zm_showing_J, zm_showing_J, z_add1]
    have e4 : ∀ s : Int32, (if (4 : Int32) = 3 then x + nI (shc v i t) else if nI (shc v i t) = 0 then x else if (4 : Int32) = 4 then x ||| (1 <<< (nI i &&& 31)) else x ||| s) = if decide (0 < shc v i t) = true then x ||| (1 <<< (nI i &&& 31)) else x := fun s => by
      rw [if_neg (by decide), if_pos rfl]
      by_cases q : shc v i t = 0
      · rw [if_pos ((nI_0iff (by omega)).mpr q), if_neg (by simp [q])]
      · rw [if_neg (fun z => q ((nI_0iff (by omega)).mp z)), if_pos (by simp; omega)]
    by_cases q : vO v i < 0
    · rw [if_pos q, e4]
    · rw [if_neg q, e4]
  · rw [f_X10_showing_W5_s]
    unfold f_X10_showing_L5
    rw [rmN h, if_pos (zl_ge (Nat.le_refl _) (by omega))]
theorem zm_showing5 (hf : 20 < fu) (h : RM (k + 1) 0 v σ) (hw : WT v) (hs : WS v) (hT : TW (vT v)) (hb : TB (vT v)) {t : Nat} (ht : t < 16) : f_X10_showing fu σ k (nI t) 5 = some (orO v (fun i => decide (0 < shc v i t))) := by
  have hn := hw.1
  refine lpU0 (fun n i x => f_X10_showing_W5 fu σ k (nI t) 5 n x (nI i)) (vn v) _ some (fun n i x hi => ?_) (fun n x => ?_) fu 0 (by omega)
  · have hl := shc_le hw hi t
    rw [f_X10_showing_W5_s]
    unfold f_X10_showing_L5
    rw [rmN h, if_neg (zl_le hi (by omega)), zm_shows hf h hw hT hb hi ht, bd_some, zm_O h hw hi]
    rw [bd_some, bd_some, zm_showing_J, zm_showing_J, z_add1]
    by_cases q : vO v i < 0
    · rw [if_pos q, if_neg (show ¬ (5 : Int32) = 3 by decide), if_neg (show ¬ (5 : Int32) = 4 by decide), z_or0]
      have hno : ¬ ((fun i => decide (0 < shc v i t)) i = true ∧ vO v i ≠ -1) := fun z => z.2 ((sO0 hs hi).mp q)
      rw [if_neg hno]
      by_cases q2 : nI (shc v i t) = 0
      · rw [if_pos q2]
      · rw [if_neg q2]
    · rw [if_neg q, if_neg (show ¬ (5 : Int32) = 3 by decide), if_neg (show ¬ (5 : Int32) = 4 by decide)]
      by_cases q2 : shc v i t = 0
      · rw [if_pos ((nI_0iff (by omega)).mpr q2), if_neg (by simp [q2])]
      · rw [if_neg (fun z => q2 ((nI_0iff (by omega)).mp z)), if_pos ⟨by simp; omega, fun z => q ((sO0 hs hi).mpr z)⟩]
  · rw [f_X10_showing_W5_s]
    unfold f_X10_showing_L5
    rw [rmN h, if_pos (zl_ge (Nat.le_refl _) (by omega))]
theorem zm_voices (hf : 20 < fu) (h : RM (k + 1) 0 v σ) (hw : WT v) (hs : WS v) (c : Nat → Bool) : f_X10_voices fu σ k (orS (vn v) c) = some (orO v c) := by
  have hn := hw.1
  refine lpU0 (fun n i x => f_X10_voices_W4 fu σ k (orS (vn v) c) n x (nI i)) (vn v) _ some (fun n i x hi => ?_) (fun n x => ?_) fu 0 (by omega)
  · rw [f_X10_voices_W4_s]
    unfold f_X10_voices_L4
    rw [rmN h, if_neg (zl_le hi (by omega)), zm_O h hw hi]
    simp only [bd_some, z_add1, z_or0, lt_eq]
    by_cases q : c i = true
    · rw [if_pos ((b_test1 (by omega)).mpr ((orS_bt (by omega) c (by omega)).mpr ⟨hi, q⟩))]
      by_cases q2 : vO v i < 0
      · rw [if_pos q2, if_neg (fun z => z.2 ((sO0 hs hi).mp q2))]
      · rw [if_neg q2, if_pos ⟨q, fun z => q2 ((sO0 hs hi).mpr z)⟩]
    · rw [if_neg (fun z => q ((orS_bt (by omega) c (by omega)).mp ((b_test1 (by omega)).mp z)).2), if_neg (fun z => q z.1)]
  · rw [f_X10_voices_W4_s]
    unfold f_X10_voices_L4
    rw [rmN h, if_pos (zl_ge (Nat.le_refl _) (by omega))]
theorem zm_secondsOf (hf : 20 < fu) (h : RM (k + 1) 0 v σ) (hw : WT v) (x : Int32) : f_X10_secondsOf fu σ k x = some (smS (vn v) (fun i => decide (vO v i = x)) (fun i => vE v i - vB v i)) := by
  have hn := hw.1
  refine lpU0 (fun n i t => f_X10_secondsOf_W4 fu σ k x n t (nI i)) (vn v) _ some (fun n i t hi => ?_) (fun n t => ?_) fu 0 (by omega)
  · rw [f_X10_secondsOf_W4_s]
    unfold f_X10_secondsOf_L4
    rw [rmN h, if_neg (zl_le hi (by omega)), zm_O h hw hi, zm_E h hw hi, zm_B h hw hi]
    simp only [bd_some, z_add1, Int32.add_zero]
    by_cases e : vO v i = x
    · rw [if_pos e, if_pos (by simp [e])]
    · rw [if_neg e, if_neg (by simp [e])]
  · rw [f_X10_secondsOf_W4_s]
    unfold f_X10_secondsOf_L4
    rw [rmN h, if_pos (zl_ge (Nat.le_refl _) (by omega))]
theorem zm_termsOf0 (hf : 20 < fu) (h : RM (k + 1) 0 v σ) (hw : WT v) (x : Int32) : f_X10_termsOf fu σ k x 0 = some (smS (vn v) (fun i => decide (vO v i = x)) (fun i => nI (vC v i))) := by
  have hn := hw.1
  refine lpU0 (fun n i t => f_X10_termsOf_W5 fu σ k x 0 n t (nI i)) (vn v) _ some (fun n i t hi => ?_) (fun n t => ?_) fu 0 (by omega)
  · rw [f_X10_termsOf_W5_s]
    unfold f_X10_termsOf_L5
    rw [rmN h, if_neg (zl_le hi (by omega)), zm_O h hw hi, bd_some, zm_C h hw hi, bd_some, z_add1]
    by_cases e : vO v i = x
    · rw [if_pos e, if_pos rfl, if_pos (by simp [e])]
      unfold f_X10_termsOf_J45
      cases fu with
      | zero => omega
      | succ fu =>
        rw [f_X10_termsOf_W50_s]
        unfold f_X10_termsOf_L50
        rw [zm_C h hw hi, bd_some, if_pos rfl, z_add1]
        by_cases q : nI (vC v i) ≤ 0
        · rw [if_pos q]
        · rw [if_neg q]
    · rw [if_neg e, if_neg (by simp [e])]
  · rw [f_X10_termsOf_W5_s]
    unfold f_X10_termsOf_L5
    rw [rmN h, if_pos (zl_ge (Nat.le_refl _) (by omega))]
theorem z_orA (a b c : Int32) : a ||| b ||| c = a ||| (b ||| c) := Int32.or_assoc a b c
theorem itr_or {g : Nat → Int32} : ∀ (c j : Nat) (a : Int32), itr (fun k x => x ||| g k) j c a = a ||| itr (fun k x => x ||| g k) j c 0
  | 0, j, a => (z_or0 a).symm
  | c + 1, j, a => by
    show itr (fun k x => x ||| g k) (j + 1) c (a ||| g j) = a ||| itr (fun k x => x ||| g k) (j + 1) c (0 ||| g j)
    rw [itr_or c (j + 1) (a ||| g j), itr_or c (j + 1) (0 ||| g j), ← z_orA a, ← z_orA a, z_or0]
theorem zm_termsOf1 (hf : 20 < fu) (h : RM (k + 1) 0 v σ) (hw : WT v) (hT : TW (vT v)) (hb : TB (vT v)) (x : Int32) : f_X10_termsOf fu σ k x 1 = some (spShownBy v x) := by
  have hn := hw.1
  refine lpU0 (fun n i t => f_X10_termsOf_W5 fu σ k x 1 n t (nI i)) (vn v) _ some (fun n i t hi => ?_) (fun n t => ?_) fu 0 (by omega)
  · have hc := (hw.2.2 i hi).1
    rw [f_X10_termsOf_W5_s]
    unfold f_X10_termsOf_L5
    rw [rmN h, if_neg (zl_le hi (by omega)), zm_O h hw hi, bd_some, z_add1]
    by_cases e : vO v i = x
    · rw [if_pos e, if_neg (by decide), if_pos e]
      unfold f_X10_termsOf_J45 shI
      rw [Int32.add_zero, ← itr_or]
      refine lpU0 (fun m j t => f_X10_termsOf_W50 fu σ k x 1 (f_X10_termsOf_W5 fu σ k x 1 n) (nI i) m t (nI j)) (vC v i) _ (fun t => f_X10_termsOf_W5 fu σ k x 1 n t (nI (i + 1))) (fun m j t hj => ?_) (fun m t => ?_) fu t (by omega)
      · have hq := (hw.2.2 i hi).2 j hj
        rw [f_X10_termsOf_W50_s]
        unfold f_X10_termsOf_L50
        rw [zm_C h hw hi, bd_some, if_neg (zl_le hj (by omega)), if_neg (by decide), zm_Q h hw hi hj, bd_some, zm_shown (by omega) h hT hb hq, bd_some, lt_eq, z_add1]
      · rw [f_X10_termsOf_W50_s]
        unfold f_X10_termsOf_L50
        rw [zm_C h hw hi, bd_some, if_pos (zl_ge (Nat.le_refl _) (by omega)), z_add1]
    · rw [if_neg e, if_neg e]
  · rw [f_X10_termsOf_W5_s]
    unfold f_X10_termsOf_L5
    rw [rmN h, if_pos (zl_ge (Nat.le_refl _) (by omega))]
theorem zm_both (hf : 20 < fu) (h : RM (k + 1) 0 v σ) (hw : WT v) (hT : TW (vT v)) (hb : TB (vT v)) {l g : Nat} (hl : l < 16) (hg : g < 16) : f_X10_both fu σ k (nI l) (nI g) = some (nI (bth v l g)) := by
  have hn := hw.1
  have e1 := itr_sum (g := fun i x => x + nI (on1 (decide (0 < shc v i l) && decide (0 < shc v i g)))) (vn v) 0 (fun i x _ => rfl)
  rw [Nat.zero_add] at e1
  unfold bth
  rw [← e1]
  refine lpU0 (fun n i x => f_X10_both_W5 fu σ k (nI l) (nI g) n x (nI i)) (vn v) _ some (fun n i x hi => ?_) (fun n x => ?_) fu 0 (by omega)
  · have h1 := shc_le hw hi l
    have h2 := shc_le hw hi g
    rw [f_X10_both_W5_s]
    unfold f_X10_both_L5
    rw [rmN h, if_neg (zl_le hi (by omega)), zm_shows hf h hw hT hb hi hl, zm_shows hf h hw hT hb hi hg]
    simp only [bd_some, z_add1, lt_eq]
    by_cases q1 : shc v i l = 0
    · rw [if_pos ((nI_le0 (by omega)).mpr q1), show on1 (decide (0 < shc v i l) && decide (0 < shc v i g)) = 0 from if_neg (by simp [q1])]
      rfl
    · rw [if_neg (fun z => q1 ((nI_le0 (by omega)).mp z))]
      by_cases q2 : shc v i g = 0
      · rw [if_pos ((nI_le0 (by omega)).mpr q2), show on1 (decide (0 < shc v i l) && decide (0 < shc v i g)) = 0 from if_neg (by simp [q2])]
        rfl
      · rw [if_neg (fun z => q2 ((nI_le0 (by omega)).mp z)), show on1 (decide (0 < shc v i l) && decide (0 < shc v i g)) = 1 from if_pos (by simp; omega)]
        rfl
  · rw [f_X10_both_W5_s]
    unfold f_X10_both_L5
    rw [rmN h, if_pos (zl_ge (Nat.le_refl _) (by omega))]
theorem zm_together (hf : 20 < fu) (h : RM (k + 1) 0 v σ) (hw : WT v) (hT : TW (vT v)) (hb : TB (vT v)) (w : Int32) : f_X10_together fu σ k w = some (spTog v w) := by
  unfold f_X10_together spTog
  rw [zm_in, bd_some]
  by_cases hq : 0 ≤ w ∧ w ≤ 2
  · rw [if_neg (fun q => bi_0.mp q hq), if_pos hq]
    have key := lpU0 (fun n i (t : Int32 × Int32 × Int32) => f_X10_together_W22 fu σ k w n t.1 t.2.1 t.2.2 (nI i)) 16 (fun l t => itr (fun h t => tgStep v l h t) (l + 1) (16 - (l + 1)) t) (fun t => some (if t.2.2 = 0 then -1000004 else if w = 0 then t.1 else if w = 1 then t.2.1 else t.2.2)) (fun n i t hi => ?_) (fun n t => ?_) fu (0, 0, 0) (by omega)
    · unfold tgS
      exact key
    · show f_X10_together_W22 fu σ k w (n + 1) t.1 t.2.1 t.2.2 (nI i) = _
      rw [f_X10_together_W22_s]
      unfold f_X10_together_L22
      rw [if_neg (zo_le (n := 16) hi (by omega)), z_add1]
      refine lpU (fun m j (t : Int32 × Int32 × Int32) => f_X10_together_W35 fu σ k w (f_X10_together_W22 fu σ k w n) (nI i) m t.1 t.2.1 t.2.2 (nI j)) 16 (fun h t => tgStep v i h t) (fun t => f_X10_together_W22 fu σ k w n t.1 t.2.1 t.2.2 (nI (i + 1))) (fun _ _ => True) (fun m j t hj _ => ?_) (fun m t _ => ?_) fu (i + 1) t (by omega) (by omega) trivial
      · refine ⟨?_, trivial⟩
        show f_X10_together_W35 fu σ k w (f_X10_together_W22 fu σ k w n) (nI i) (m + 1) t.1 t.2.1 t.2.2 (nI j) = _
        rw [f_X10_together_W35_s]
        unfold f_X10_together_L35 f_X10_together_J65 f_X10_together_J79 tgStep
        rw [if_neg (zo_le (n := 16) hj (by omega)), zm_both hf h hw hT hb hi hj]
        simp only [bd_some, lt_eq, z_add1]
        by_cases q : nI (bth v i j) ≤ t.2.2
        · rw [if_pos q, if_pos q, if_pos q, if_pos q]
        · rw [if_neg q, if_neg q, if_neg q, if_neg q]
      · show f_X10_together_W35 fu σ k w (f_X10_together_W22 fu σ k w n) (nI i) (m + 1) t.1 t.2.1 t.2.2 (nI 16) = _
        rw [f_X10_together_W35_s]
        unfold f_X10_together_L35
        rw [if_pos (zo_ge (n := 16) (i := 16) (by omega) (by omega)), z_add1]
    · show f_X10_together_W22 fu σ k w (n + 1) t.1 t.2.1 t.2.2 (nI 16) = _
      rw [f_X10_together_W22_s]
      unfold f_X10_together_L22
      rw [if_pos (zo_ge (n := 16) (i := 16) (by omega) (by omega))]
      by_cases c1 : t.2.2 = 0
      · rw [if_pos c1, if_pos c1]
      · rw [if_neg c1, if_neg c1]
        by_cases c2 : w = 0
        · rw [if_pos c2, if_pos c2]
        · rw [if_neg c2, if_neg c2]
          by_cases c3 : w = 1
          · rw [if_pos c3, if_pos c3]
          · rw [if_neg c3, if_neg c3]
  · rw [if_pos (bi_0.mpr hq), if_neg hq]
end MRead2
