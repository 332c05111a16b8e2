def bt (x : Int32) (i : Nat) : Bool := x.toBitVec.getLsbD i
theorem b_ext {x y : Int32} (h : ∀ i, i < 32 → bt x i = bt y i) : x = y := Int32.toBitVec_inj.mp (BitVec.eq_of_getLsbD_eq (fun i hi => h i hi))
theorem b_or (x y : Int32) (i : Nat) : bt (x ||| y) i = (bt x i || bt y i) := by unfold bt; rw [Int32.toBitVec_or, BitVec.getLsbD_or]
theorem b_and (x y : Int32) (i : Nat) : bt (x &&& y) i = (bt x i && bt y i) := by unfold bt; rw [Int32.toBitVec_and, BitVec.getLsbD_and]
theorem b_xor (x y : Int32) (i : Nat) : bt (x ^^^ y) i = (bt x i ^^ bt y i) := by unfold bt; rw [Int32.toBitVec_xor, BitVec.getLsbD_xor]
theorem b_big {x : Int32} {i : Nat} (h : 32 ≤ i) : bt x i = false := BitVec.getLsbD_of_ge _ _ h
theorem b_255 (i : Nat) : bt 255 i = decide (i < 8) := by
  rcases Nat.lt_or_ge i 32 with h | h
  · exact (by decide +kernel : ∀ i, i < 32 → bt 255 i = decide (i < 8)) i h
  · rw [b_big h, decide_eq_false (by omega)]
theorem b_65535 (i : Nat) : bt 65535 i = decide (i < 16) := by
  rcases Nat.lt_or_ge i 32 with h | h
  · exact (by decide +kernel : ∀ i, i < 32 → bt 65535 i = decide (i < 16)) i h
  · rw [b_big h, decide_eq_false (by omega)]
theorem b_m1 : ∀ i, i < 32 → bt (-1) i = true := by decide +kernel
theorem b_0 (i : Nat) : bt 0 i = false := BitVec.getLsbD_zero
theorem s_l : ∀ n, n < 32 → ((nI n &&& 31).toBitVec.smod 32).toNat = n := by decide +kernel
theorem b_shl (n : Nat) (hn : n < 32) (x : Int32) {i : Nat} (hi : i < 32) : bt (x <<< (nI n &&& 31)) i = (decide (n ≤ i) && bt x (i - n)) := by
  unfold bt
  rw [Int32.toBitVec_shiftLeft]
  show (x.toBitVec <<< ((nI n &&& 31).toBitVec.smod 32).toNat).getLsbD i = _
  rw [s_l n hn, BitVec.getLsbD_shiftLeft]
  rcases Nat.lt_or_ge i n with h | h
  · simp [h, Nat.not_le.mpr h]
  · simp [hi, h, Nat.not_lt.mpr h]
theorem b_sshr (n : Nat) (hn : n < 32) (x : Int32) {i : Nat} (hi : i < 32) : bt (x >>> (nI n &&& 31)) i = if n + i < 32 then bt x (n + i) else bt x 31 := by
  unfold bt
  rw [Int32.toBitVec_shiftRight]
  show (x.toBitVec.sshiftRight ((nI n &&& 31).toBitVec.smod 32).toNat).getLsbD i = _
  rw [s_l n hn, BitVec.getLsbD_sshiftRight, BitVec.msb_eq_getLsbD_last]
  simp [hi]
theorem nx_and (a b : Nat) : nI a &&& nI b = nI (a &&& b) := by
  apply Int32.toBitVec_inj.1
  show BitVec.ofNat 32 a &&& BitVec.ofNat 32 b = BitVec.ofNat 32 (a &&& b)
  apply BitVec.eq_of_getLsbD_eq
  intro i hi
  simp [hi]
/-! ===== sums and sets ===== -/
def sumN : Nat → (Nat → Nat) → Nat
  | 0, _ => 0
  | n + 1, f => sumN n f + f n
abbrev on1 (b : Bool) : Nat := if b = true then 1 else 0
theorem sumN_congr {f g : Nat → Nat} : ∀ (n : Nat), (∀ i, i < n → f i = g i) → sumN n f = sumN n g
  | 0, _ => rfl
  | n + 1, h => by
    show sumN n f + f n = sumN n g + g n
    rw [sumN_congr n (fun i hi => h i (by omega)), h n (Nat.lt_succ_self n)]
theorem sumN_add (f g : Nat → Nat) : ∀ n, sumN n (fun i => f i + g i) = sumN n f + sumN n g
  | 0 => rfl
  | n + 1 => by
    show sumN n (fun i => f i + g i) + (f n + g n) = (sumN n f + f n) + (sumN n g + g n)
    rw [sumN_add f g n]
    omega
theorem sumN_0 : ∀ n, sumN n (fun _ => 0) = 0
  | 0 => rfl
  | n + 1 => by
    show sumN n (fun _ => 0) + 0 = 0
    rw [sumN_0 n]
theorem sumN_comm (f : Nat → Nat → Nat) (m : Nat) : ∀ n, sumN n (fun i => sumN m (fun j => f i j)) = sumN m (fun j => sumN n (fun i => f i j))
  | 0 => (sumN_0 m).symm
  | n + 1 => by
    show sumN n (fun i => sumN m (fun j => f i j)) + sumN m (fun j => f n j) = sumN m (fun j => sumN n (fun i => f i j) + f n j)
    rw [sumN_comm f m n, sumN_add]
theorem sumN_le {f : Nat → Nat} {b : Nat} : ∀ n, (∀ i, i < n → f i ≤ b) → sumN n f ≤ n * b
  | 0, _ => by simp [sumN]
  | n + 1, h => by
    have h1 := sumN_le n (fun i hi => h i (by omega))
    have h2 := h n (Nat.lt_succ_self n)
    show sumN n f + f n ≤ (n + 1) * b
    rw [Nat.add_mul]
    omega
theorem sumN_pos {f : Nat → Nat} : ∀ n, 0 < sumN n f ↔ ∃ i, i < n ∧ 0 < f i
  | 0 => ⟨fun h => absurd h (Nat.lt_irrefl 0), fun ⟨i, h, _⟩ => absurd h (Nat.not_lt_zero i)⟩
  | n + 1 => by
    show 0 < sumN n f + f n ↔ _
    constructor
    · intro h
      rcases Nat.eq_zero_or_pos (f n) with q | q
      · obtain ⟨i, h1, h2⟩ := (sumN_pos (f := f) n).mp (by omega)
        exact ⟨i, by omega, h2⟩
      · exact ⟨n, Nat.lt_succ_self n, q⟩
    · rintro ⟨i, h1, h2⟩
      by_cases e : i = n
      · subst e
        omega
      · have := (sumN_pos (f := f) n).mpr ⟨i, by omega, h2⟩
        omega
/-- the one that is meant -/
theorem sumN_pick (f : Nat → Nat) (a : Nat) : ∀ n, sumN n (fun i => if i = a then f i else 0) = if a < n then f a else 0
  | 0 => by rw [if_neg (Nat.not_lt_zero a)]; rfl
  | n + 1 => by
    show sumN n (fun i => if i = a then f i else 0) + (if n = a then f n else 0) = _
    rw [sumN_pick f a n]
    by_cases h : n = a
    · subst h
      rw [if_neg (Nat.lt_irrefl n), if_pos rfl, if_pos (Nat.lt_succ_self n), Nat.zero_add]
    · rw [if_neg h, Nat.add_zero]
      by_cases h1 : a < n
      · rw [if_pos h1, if_pos (by omega)]
      · rw [if_neg h1, if_neg (by omega)]
theorem itr_sum {g : Nat → Int32 → Int32} {f : Nat → Nat} : ∀ (n a : Nat), (∀ i x, i < n → g i x = x + nI (f i)) → itr g 0 n (nI a) = nI (a + sumN n f)
  | 0, _, _ => rfl
  | n + 1, a, h => by
    rw [itr_snoc, Nat.zero_add, itr_sum n a (fun i x hi => h i x (by omega)), h n _ (Nat.lt_succ_self n), nI_add]
    show nI (a + sumN n f + f n) = nI (a + (sumN n f + f n))
    rw [Nat.add_assoc]
theorem ctS_sum (n a : Nat) (c : Nat → Bool) : ctS n c (nI a) = nI (a + sumN n (fun i => on1 (c i))) := by
  unfold ctS
  refine itr_sum n a (fun i x _ => ?_)
  by_cases h : c i = true
  · rw [if_pos h, show on1 (c i) = 1 from if_pos h]
    rfl
  · rw [if_neg h, show on1 (c i) = 0 from if_neg h]
    exact (Int32.add_zero x).symm
/-- pairs of which c holds -/
def ct2 (n : Nat) (m : Nat → Nat) (c : Nat → Nat → Bool) : Nat := sumN n (fun i => sumN (m i) (fun j => on1 (c i j)))
theorem itr_ct2 (n : Nat) (m : Nat → Nat) (c : Nat → Nat → Bool) : itr (fun i t => ctS (m i) (c i) t) 0 n 0 = nI (ct2 n m c) := by
  have h : ∀ (k a : Nat), itr (fun i t => ctS (m i) (c i) t) 0 k (nI a) = nI (a + sumN k (fun i => sumN (m i) (fun j => on1 (c i j)))) := by
    intro k
    induction k with
    | zero => intro a; rfl
    | succ k ih =>
      intro a
      rw [itr_snoc, Nat.zero_add, ih, ctS_sum]
      show nI (a + _ + _) = nI (a + (_ + _))
      rw [Nat.add_assoc]
  have := h n 0
  rw [Nat.zero_add] at this
  exact this
theorem b_1 (i : Nat) : bt 1 i = decide (i = 0) := by
  rcases Nat.lt_or_ge i 32 with h | h
  · exact (by decide +kernel : ∀ i, i < 32 → bt 1 i = decide (i = 0)) i h
  · rw [b_big h, decide_eq_false (by omega)]
theorem b_one {s i : Nat} (hs : s < 32) (hi : i < 32) : bt ((1 : Int32) <<< (nI s &&& 31)) i = decide (i = s) := by
  rw [b_shl s hs 1 hi, b_1]
  by_cases h : i = s
  · subst h
    simp
  · by_cases h1 : s ≤ i
    · simp [h, h1]
      omega
    · simp [h, h1]
theorem b_test {x : Int32} {t : Nat} (ht : t < 31) : ((x >>> (nI t &&& 31)) &&& 1) = if bt x t = true then 1 else 0 := by
  apply b_ext
  intro i hi
  rw [b_and, b_1, b_sshr t (by omega) x hi]
  by_cases h0 : i = 0
  · subst h0
    rw [if_pos (by omega), Nat.add_zero]
    by_cases h : bt x t = true
    · rw [if_pos h, h]
      rfl
    · rw [if_neg h, Bool.not_eq_true _ |>.mp h]
      rfl
  · rw [decide_eq_false h0, Bool.and_false]
    by_cases h : bt x t = true
    · rw [if_pos h, b_1, decide_eq_false h0]
    · rw [if_neg h, b_0]
theorem b_test1 {x : Int32} {t : Nat} (ht : t < 31) : ((x >>> (nI t &&& 31)) &&& 1) = 1 ↔ bt x t = true := by
  rw [b_test ht]
  by_cases h : bt x t = true
  · rw [if_pos h]
    exact ⟨fun _ => h, fun _ => rfl⟩
  · rw [if_neg h]
    exact ⟨fun q => absurd q (by decide), fun q => absurd q h⟩
/-- or over steps -/
theorem itr_or_bt {g : Nat → Int32} {i : Nat} (hi : i < 32) : ∀ (c j : Nat) (a : Int32), bt (itr (fun k x => x ||| g k) j c a) i = true ↔ bt a i = true ∨ ∃ k, j ≤ k ∧ k < j + c ∧ bt (g k) i = true
  | 0, j, a => ⟨fun h => Or.inl h, fun h => by
      rcases h with h | ⟨k, h1, h2, -⟩
      · exact h
      · omega⟩
  | c + 1, j, a => by
    show bt (itr (fun k x => x ||| g k) (j + 1) c (a ||| g j)) i = true ↔ _
    rw [itr_or_bt hi c (j + 1), b_or, Bool.or_eq_true]
    constructor
    · rintro ((h | h) | ⟨k, h1, h2, h3⟩)
      · exact Or.inl h
      · exact Or.inr ⟨j, Nat.le_refl _, by omega, h⟩
      · exact Or.inr ⟨k, by omega, by omega, h3⟩
    · rintro (h | ⟨k, h1, h2, h3⟩)
      · exact Or.inl (Or.inl h)
      · by_cases e : k = j
        · subst e
          exact Or.inl (Or.inr h3)
        · exact Or.inr ⟨k, by omega, by omega, h3⟩
theorem orS_or (n : Nat) (c : Nat → Bool) : orS n c = itr (fun k x => x ||| (if c k = true then 1 <<< (nI k &&& 31) else 0)) 0 n 0 :=
  itr_congr n 0 0 (fun j t _ _ => by
    by_cases h : c j = true
    · rw [if_pos h, if_pos h]
    · rw [if_neg h, if_neg h, z_or0])
theorem orS_bt {n : Nat} (hn : n ≤ 31) (c : Nat → Bool) {i : Nat} (hi : i < 32) : bt (orS n c) i = true ↔ i < n ∧ c i = true := by
  rw [orS_or, itr_or_bt hi, b_0]
  constructor
  · rintro (h | ⟨k, -, h2, h3⟩)
    · cases h
    · by_cases hc : c k = true
      · rw [if_pos hc, b_one (by omega) hi, decide_eq_true_eq] at h3
        subst h3
        exact ⟨by omega, hc⟩
      · rw [if_neg hc, b_0] at h3
        cases h3
  · rintro ⟨h1, h2⟩
    exact Or.inr ⟨i, Nat.zero_le _, by omega, by rw [if_pos h2, b_one hi hi, decide_eq_true_eq]⟩
