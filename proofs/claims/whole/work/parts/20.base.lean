/-! ===== plain facts for the pure part ===== -/
theorem rdN {n : Nat} {σ : gSt} {k : Nat} {i : Int32} (j : Nat) (hi : i = nI j) (hj : j < n) (hn : n ≤ 4096) : rd n σ k i = some (σ k j) := by
  subst hi
  unfold rd
  rw [if_neg, nI_clamp (by omega)]
  rintro (h | h)
  · exact nI_pos (by omega) h
  · rw [nI_clamp (by omega)] at h
    omega
theorem wrN {n : Nat} {σ : gSt} {k : Nat} {i v : Int32} (j : Nat) (hi : i = nI j) (hj : j < n) (hn : n ≤ 4096) : wr n σ k i v = some (gu σ k (upd (σ k) j v)) := by
  subst hi
  unfold wr
  rw [if_neg, nI_clamp (by omega)]
  rintro (h | h)
  · exact nI_pos (by omega) h
  · rw [nI_clamp (by omega)] at h
    omega
theorem rdqN {n k : Nat} {i : Int32} (j : Nat) (hi : i = nI j) (hj : j < n) (hn : n ≤ 4096) : rdq n k i = some (k + 25 + 12 * j) := by
  subst hi
  unfold rdq
  rw [if_neg, nI_clamp (by omega)]
  rintro (h | h)
  · exact nI_pos (by omega) h
  · rw [nI_clamp (by omega)] at h
    omega
theorem cpyN {n0 n1 : Nat} {σ : gSt} {k0 k1 : Nat} {sp dp n : Int32} (a b c : Nat) (hsp : sp = nI a) (hdp : dp = nI b) (hn : n = nI c) (h0 : a + c ≤ n0) (h1 : b + c ≤ n1) (g0 : n0 ≤ 4096) (g1 : n1 ≤ 4096) : cpy n0 n1 σ k0 sp k1 dp n = some (gu σ k1 (va_cpy (σ k0) (σ k1) a b c)) := by
  subst hsp; subst hdp; subst hn
  unfold cpy
  rw [if_neg, nI_clamp (by omega), nI_clamp (by omega), nI_clamp (by omega)]
  rw [nI_clamp (by omega), nI_clamp (by omega), nI_clamp (by omega)]
  rintro (h | h | h | h | h)
  · exact nI_pos (by omega) h
  · exact nI_pos (by omega) h
  · exact nI_pos (by omega) h
  · omega
  · omega
/-- from i on, c steps up -/
def itr {τ : Type} (f : Nat → τ → τ) : Nat → Nat → τ → τ
  | _, 0, t => t
  | i, c + 1, t => itr f (i + 1) c (f i t)
theorem itr_congr {τ : Type} {f g : Nat → τ → τ} : ∀ (c i : Nat) (t : τ), (∀ j t, i ≤ j → j < i + c → f j t = g j t) → itr f i c t = itr g i c t
  | 0, _, _, _ => rfl
  | c + 1, i, t, h => by
    show itr f (i + 1) c (f i t) = itr g (i + 1) c (g i t)
    rw [h i t (Nat.le_refl _) (by omega)]
    exact itr_congr c (i + 1) _ (fun j t h1 h2 => h j t (by omega) (by omega))
theorem itr_inv {τ : Type} {f : Nat → τ → τ} (I : Nat → τ → Prop) : ∀ (c i : Nat) (t : τ), I i t → (∀ j t, i ≤ j → j < i + c → I j t → I (j + 1) (f j t)) → I (i + c) (itr f i c t)
  | 0, _, _, h, _ => h
  | c + 1, i, t, h, hs => by
    have h1 := itr_inv I c (i + 1) (f i t) (hs i t (Nat.le_refl _) (by omega) h) (fun j t h1 h2 => hs j t (by omega) (by omega))
    rw [show i + (c + 1) = i + 1 + c by omega]
    exact h1
theorem itr_snoc {τ : Type} {f : Nat → τ → τ} : ∀ (c i : Nat) (t : τ), itr f i (c + 1) t = f (i + c) (itr f i c t)
  | 0, _, _ => rfl
  | c + 1, i, t => by
    show itr f (i + 1) (c + 1) (f i t) = f (i + (c + 1)) (itr f (i + 1) c (f i t))
    rw [itr_snoc c (i + 1) (f i t), show i + (c + 1) = i + 1 + c by omega]
/-- two runs side by side -/
theorem itr_rel {τ υ : Type} {f : Nat → τ → τ} {g : Nat → υ → υ} (R : Nat → τ → υ → Prop) : ∀ (c i : Nat) (t : τ) (u : υ), R i t u → (∀ j t u, i ≤ j → j < i + c → R j t u → R (j + 1) (f j t) (g j u)) → R (i + c) (itr f i c t) (itr g i c u)
  | 0, _, _, _, h, _ => h
  | c + 1, i, t, u, h, hs => by
    have h1 := itr_rel R c (i + 1) (f i t) (g i u) (hs i t u (Nat.le_refl _) (by omega) h) (fun j t u h1 h2 => hs j t u (by omega) (by omega))
    rw [show i + (c + 1) = i + 1 + c by omega]
    exact h1
/-- a loop that counts up to N -/
theorem lpU {τ ρ : Type} (W : Nat → Nat → τ → Option ρ) (N : Nat) (f : Nat → τ → τ) (k : τ → Option ρ) (I : Nat → τ → Prop) (hs : ∀ n i t, i < N → I i t → W (n + 1) i t = W n (i + 1) (f i t) ∧ I (i + 1) (f i t)) (he : ∀ n t, I N t → W (n + 1) N t = k t) :
    ∀ (n i : Nat) (t : τ), i ≤ N → N - i < n → I i t → W n i t = k (itr f i (N - i) t)
  | 0, _, _, _, h, _ => absurd h (by omega)
  | n + 1, i, t, hi, hn, hI => by
    rcases Nat.lt_or_ge i N with q | q
    · obtain ⟨h1, h2⟩ := hs n i t q hI
      rw [h1, lpU W N f k I hs he n (i + 1) (f i t) q (by omega) h2, show N - i = (N - (i + 1)) + 1 by omega]
      rfl
    · have e : i = N := by omega
      subst e
      rw [he n t hI, Nat.sub_self]
      rfl
/-- the same, from 0 on, with nothing kept -/
theorem lpU0 {τ ρ : Type} (W : Nat → Nat → τ → Option ρ) (N : Nat) (f : Nat → τ → τ) (k : τ → Option ρ) (hs : ∀ n i t, i < N → W (n + 1) i t = W n (i + 1) (f i t)) (he : ∀ n t, W (n + 1) N t = k t) (n : Nat) (t : τ) (hn : N < n) : W n 0 t = k (itr f 0 N t) :=
  lpU W N f k (fun _ _ => True) (fun n i t h _ => ⟨hs n i t h, trivial⟩) (fun n t _ => he n t) n 0 t (Nat.zero_le _) (by omega) trivial
theorem z_add1 (i : Nat) : nI i + 1 = nI (i + 1) := nI_1 i
theorem z_lit (n : Nat) : (OfNat.ofNat n : Int32) = nI n := rfl
theorem z_m1 (n : Nat) (hn : n < 4096) : nI n ≠ (-1 : Int32) := fun h => by
  have h1 := congrArg Int32.toInt h
  rw [nI_toInt (by omega), show (-1 : Int32).toInt = -1 by decide] at h1
  omega
theorem z_le {a b : Nat} (ha : a < 4096) (hb : b < 4096) : nI a ≤ nI b ↔ a ≤ b := nI_leI (by omega) (by omega)
theorem z_lt {a b : Nat} (ha : a < 4096) (hb : b < 4096) : nI a < nI b ↔ a < b := nI_ltI (by omega) (by omega)
theorem z_eq {a b : Nat} (ha : a < 4096) (hb : b < 4096) : nI a = nI b ↔ a = b := nI_eq (by omega) (by omega)
theorem z_neg {a : Nat} (ha : a < 4096) : ¬ nI a < 0 := nI_pos (by omega)
/-- an int against a bound: it is a place below n, or it isn't -/
theorem z_ix (p : Int32) {n : Nat} (hn : n < 4096) : (∃ i, i < n ∧ p = nI i) ∨ (p < 0 ∨ nI n ≤ p) := by
  rcases pk_ix p (n := n) (by omega) with h | h | ⟨j, h1, h2⟩
  · exact Or.inr (Or.inl h)
  · exact Or.inr (Or.inr h)
  · exact Or.inl ⟨j, h1, h2⟩
theorem z_out {p : Int32} {n : Nat} (h : p < 0 ∨ nI n ≤ p) {i : Nat} (hi : i < n) (hn : n < 4096) : p ≠ nI i := by
  rintro rfl
  rcases h with h | h
  · exact z_neg (by omega) h
  · rw [z_le (by omega) (by omega)] at h
    omega
/-- a place as a number -/
def ix (n : Nat) (p : Int32) : Option Nat := if p < 0 then none else if nI n ≤ p then none else some p.toNatClampNeg
theorem ix_in {n i : Nat} (hi : i < n) (hn : n < 4096) : ix n (nI i) = some i := by
  unfold ix
  rw [if_neg (z_neg (by omega)), if_neg (by rw [z_le (by omega) (by omega)]; omega), nI_clamp (by omega)]
theorem ix_out {n : Nat} {p : Int32} (h : p < 0 ∨ nI n ≤ p) : ix n p = none := by
  unfold ix
  rcases h with h | h
  · rw [if_pos h]
  · by_cases h0 : p < 0
    · rw [if_pos h0]
    · rw [if_neg h0, if_pos h]
theorem ix_cases (n : Nat) (p : Int32) (hn : n < 4096) : (∃ i, i < n ∧ p = nI i ∧ ix n p = some i) ∨ ((p < 0 ∨ nI n ≤ p) ∧ ix n p = none) := by
  rcases z_ix p hn with ⟨i, h1, rfl⟩ | h
  · exact Or.inl ⟨i, h1, rfl, ix_in h1 hn⟩
  · exact Or.inr ⟨h, ix_out h⟩
/-- a reference to a number, 0 for none -/
def en (t : Nat) : Int32 := if t = 0 then -1 else nI (t - 1)
theorem en_0 : en 0 = -1 := rfl
theorem en_s (t : Nat) : en (t + 1) = nI t := rfl
theorem en_neg {t : Nat} (h : t ≤ 16) : en t < 0 ↔ t = 0 := by
  cases t with
  | zero => exact ⟨fun _ => rfl, fun _ => by decide⟩
  | succ t => exact ⟨fun q => absurd q (z_neg (by omega)), fun q => by omega⟩
theorem en_m1 {t : Nat} (h : t ≤ 16) : en t = -1 ↔ t = 0 := by
  cases t with
  | zero => exact ⟨fun _ => rfl, fun _ => rfl⟩
  | succ t => exact ⟨fun q => absurd q (z_m1 t (by omega)), fun q => by omega⟩
theorem en_nn {t : Nat} (h : t ≤ 16) : 0 ≤ en t ↔ t ≠ 0 := by
  cases t with
  | zero => exact ⟨fun q => absurd q (by decide), fun q => absurd rfl q⟩
  | succ t => exact ⟨fun _ => by omega, fun _ => nI_pos' (by omega)⟩
theorem b2_some {α β ρ : Type} {a : α} {b : β} {f : α → β → Option ρ} : b2 (some (a, b)) f = f a b := rfl
theorem bd_some {α β : Type} {a : α} {f : α → Option β} : (some a).bind f = f a := rfl
theorem lt_eq {α β : Type} (x : α) (f : α → β) : lt x f = f x := rfl
theorem zb_0 : zb 0 = some 0 := rfl
theorem zb_1 : zb 1 = some 1 := rfl
theorem ite_bind {α β : Type} {c : Prop} [Decidable c] {a b : Option α} {f : α → Option β} : (if c then a else b).bind f = if c then a.bind f else b.bind f := by split <;> rfl
/-- 0 or 1 -/
def bi (c : Prop) [Decidable c] : Int32 := if c then 1 else 0
theorem bi_t {c : Prop} [Decidable c] (h : c) : bi c = 1 := if_pos h
theorem bi_f {c : Prop} [Decidable c] (h : ¬ c) : bi c = 0 := if_neg h
theorem bi_0 {c : Prop} [Decidable c] : bi c = 0 ↔ ¬ c := by
  unfold bi
  split
  · next h => exact ⟨fun q => absurd q (by decide), fun q => absurd h q⟩
  · next h => exact ⟨fun _ => h, fun _ => rfl⟩
theorem bi_zb {c : Prop} [Decidable c] : zb (bi c) = some (bi c) := by
  unfold bi
  split <;> rfl
theorem bi_congr {c d : Prop} [Decidable c] [Decidable d] (h : c ↔ d) : bi c = bi d := by
  unfold bi
  by_cases hc : c
  · rw [if_pos hc, if_pos (h.mp hc)]
  · rw [if_neg hc, if_neg (fun q => hc (h.mpr q))]
theorem z_lei (a b : Int32) : a ≤ b ↔ a.toInt ≤ b.toInt := Int32.le_iff_toInt_le
theorem z_lti (a b : Int32) : a < b ↔ a.toInt < b.toInt := Int32.lt_iff_toInt_lt
theorem z_eqi (a b : Int32) : a = b ↔ a.toInt = b.toInt := Int32.toInt_inj.symm
