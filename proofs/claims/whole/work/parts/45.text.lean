/-! ===== orders as texts ===== -/
def dgB (X : Nat → Int32) (L q : Nat) : Bool := decide (q < L) && (decide (48 ≤ X q) && decide (X q ≤ 57))
def sgB (X : Nat → Int32) (L q : Nat) (c : Int32) : Bool := decide (q < L) && decide (X q = c)
/-- a number of at most d digits: where it ends, and its value -/
def rNum (X : Nat → Int32) (L : Nat) : Nat → Nat → Int32 → Nat × Int32
  | q, 0, a => (q, a)
  | q, d + 1, a => if dgB X L q = true then rNum X L (q + 1) d (a * 10 + X q - 48) else (q, a)
theorem rNum_b (X : Nat → Int32) (L : Nat) : ∀ (d q : Nat) (a : Int32), q ≤ (rNum X L q d a).1 ∧ (rNum X L q d a).1 ≤ q + d
  | 0, _, _ => ⟨Nat.le_refl _, Nat.le_refl _⟩
  | d + 1, q, a => by
    unfold rNum
    by_cases h : dgB X L q = true
    · rw [if_pos h]
      have := rNum_b X L d (q + 1) (a * 10 + X q - 48)
      omega
    · rw [if_neg h]
      exact ⟨Nat.le_refl _, by show q ≤ q + (d + 1); omega⟩
def prs (X : Nat → Int32) (L : Nat) : Nat → Nat → Nat → (Nat → Int32) → Bool × Nat × (Nat → Int32)
  | 0, _, q, N => (true, q, N)
  | r + 1, k, q, N => if (rNum X L q 4 0).1 = q then (false, (rNum X L q 4 0).1, uF N k (rNum X L q 4 0).2)
    else if sgB X L (rNum X L q 4 0).1 (if r = 0 then 59 else 44) = true then prs X L r (k + 1) ((rNum X L q 4 0).1 + 1) (uF N k (rNum X L q 4 0).2) else (false, (rNum X L q 4 0).1, uF N k (rNum X L q 4 0).2)
def wN (c : Int32) : Nat := if c = 99 then 2 else if c = 103 then 2 else if c = 115 then 1 else if c = 116 then 3 else if c = 119 then 2 else 0
theorem wN_le (c : Int32) : wN c ≤ 3 := by
  unfold wN
  repeat (first | (split; omega) | omega)
/-- an order at p: is it of the form, where it ends or breaks off, its numbers -/
def pO (X : Nat → Int32) (L p : Nat) : Bool × Nat × (Nat → Int32) := if wN (X p) = 0 then (false, p, fun _ => 0) else prs X L (wN (X p)) 0 (p + 1) (fun _ => 0)
theorem prs_b (X : Nat → Int32) (L : Nat) : ∀ (r k q : Nat) (N : Nat → Int32), q ≤ (prs X L r k q N).2.1 ∧ (prs X L r k q N).2.1 ≤ q + 5 * r
  | 0, _, _, _ => ⟨Nat.le_refl _, Nat.le_refl _⟩
  | r + 1, k, q, N => by
    have hb := rNum_b X L 4 q 0
    unfold prs
    by_cases h1 : (rNum X L q 4 0).1 = q
    · rw [if_pos h1]
      show q ≤ (rNum X L q 4 0).1 ∧ (rNum X L q 4 0).1 ≤ q + 5 * (r + 1)
      omega
    · rw [if_neg h1]
      by_cases h2 : sgB X L (rNum X L q 4 0).1 (if r = 0 then 59 else 44) = true
      · rw [if_pos h2]
        have := prs_b X L r (k + 1) ((rNum X L q 4 0).1 + 1) (uF N k (rNum X L q 4 0).2)
        omega
      · rw [if_neg h2]
        show q ≤ (rNum X L q 4 0).1 ∧ (rNum X L q 4 0).1 ≤ q + 5 * (r + 1)
        omega
theorem pO_b (X : Nat → Int32) (L p : Nat) : p ≤ (pO X L p).2.1 ∧ (pO X L p).2.1 ≤ p + 16 ∧ ((pO X L p).1 = true → p < (pO X L p).2.1) := by
  unfold pO
  by_cases h : wN (X p) = 0
  · rw [if_pos h]
    exact ⟨Nat.le_refl _, by show p ≤ p + 16; omega, fun z => absurd (show false = true from z) (by decide)⟩
  · rw [if_neg h]
    have := prs_b X L (wN (X p)) 0 (p + 1) (fun _ => 0)
    have := wN_le (X p)
    omega
/-- the text, on either side -/
def TC (X : Nat → Int32) (L : Nat) (σ : gSt) : Prop := σ 6 1 = nI L ∧ ∀ i, i < L → σ 7 i = X i
def TM (X : Nat → Int32) (L : Nat) (σ : gSt) : Prop := σ 94 6 = nI L ∧ ∀ i, i < L → σ 98 i = X i
theorem sgB_t {X : Nat → Int32} {L q : Nat} {c : Int32} : sgB X L q c = true ↔ q < L ∧ X q = c := by
  unfold sgB
  rw [Bool.and_eq_true, decide_eq_true_iff, decide_eq_true_iff]
theorem dgB_t {X : Nat → Int32} {L q : Nat} : dgB X L q = true ↔ q < L ∧ 48 ≤ X q ∧ X q ≤ 57 := by
  unfold dgB
  rw [Bool.and_eq_true, Bool.and_eq_true, decide_eq_true_iff, decide_eq_true_iff, decide_eq_true_iff]
section Text
variable {fu : Nat} {σ : gSt} {X : Nat → Int32} {L : Nat}
theorem TC_fr {τ : gSt} (h : TC X L σ) (e6 : τ 6 = σ 6) (e7 : τ 7 = σ 7) : TC X L τ := by
  unfold TC
  rw [e6, e7]
  exact h
theorem TM_fr {τ : gSt} (h : TM X L σ) (e6 : τ 94 6 = σ 94 6) (e7 : τ 98 = σ 98) : TM X L τ := by
  unfold TM
  rw [e6, e7]
  exact h
theorem zx_char (h : TC X L σ) (hL : L ≤ 60) {q : Nat} (hq : q < 4096) : f_X6_characterAt fu σ 6 (nI q) = some (if q < L then X q else -1) := by
  unfold f_X6_characterAt
  rw [if_neg (z_neg (by omega)), h.1]
  by_cases e : q < L
  · rw [if_neg (zl_le e (by omega)), if_neg (show ¬ (60 : Int32) ≤ nI q from zo_le (n := 60) (by omega) (by omega)), if_pos e, rdN q rfl (by omega) (by omega), bd_some]
    exact congrArg some (h.2 q e)
  · rw [if_pos (zl_ge (by omega) (by omega)), if_neg e]
theorem cn_W (hL : L ≤ 60) {p k : Nat} (hp : p ≤ 100) : ∀ (n d q : Nat) (a : Int32) (σ : gSt), TC X L σ → σ 4 2 = nI (q - p) → p ≤ q → q ≤ 200 → d ≤ 4 → 4 - d < n →
    ∃ τ, f_X2_readNumber_W6 fu 4 6 (nI p) (nI k) n a (nI d) σ = f_X2_readNumber_J69 fu 4 6 (nI p) (nI k) (rNum X L q (4 - d) a).2 (nI (d + ((rNum X L q (4 - d) a).1 - q))) τ ∧ (∀ c, c ≠ 4 → τ c = σ c) ∧ (∀ f, f ≠ 2 → τ 4 f = σ 4 f) ∧ τ 4 2 = nI ((rNum X L q (4 - d) a).1 - p)
  | 0, _, _, _, _, _, _, _, _, _, q => absurd q (by omega)
  | n + 1, d, q, a, σ, h, h2, hpq, hq, hd, hn => by
    rw [f_X2_readNumber_W6_s]
    unfold f_X2_readNumber_L6
    rcases Nat.lt_or_ge d 4 with z | z
    · rw [if_neg (show ¬ 4 ≤ nI d from zo_le (n := 4) z (by omega)), h2, nI_add, show p + (q - p) = q by omega, zx_char h hL (by omega), bd_some, z_within, bd_some, bd_some, show 4 - d = (4 - (d + 1)) + 1 by omega]
      unfold rNum
      by_cases e : dgB X L q = true
      · have e' := dgB_t.mp e
        rw [if_pos e, if_pos e'.1, if_neg (fun y => bi_0.mp y e'.2), lt_eq, z_add1, z_add1]
        obtain ⟨τ, t0, t1, t2, t3⟩ := cn_W hL hp n (d + 1) (q + 1) (a * 10 + X q - 48) (gu σ 4 (upd (σ 4) 2 (nI (q - p + 1)))) (TC_fr h (gu_n _ _ (by omega)) (gu_n _ _ (by omega))) (by rw [gu_s, up_e]; congr 1; omega) (by omega) (by have := e'.1; omega) (by omega) (by omega)
        have hb := rNum_b X L (4 - (d + 1)) (q + 1) (a * 10 + X q - 48)
        rw [show d + 1 + ((rNum X L (q + 1) (4 - (d + 1)) (a * 10 + X q - 48)).1 - (q + 1)) = d + ((rNum X L (q + 1) (4 - (d + 1)) (a * 10 + X q - 48)).1 - q) by omega] at t0
        exact ⟨τ, t0, fun c hc => by rw [t1 c hc, gu_n _ _ hc], fun f hf => by rw [t2 f hf, gu_s, up_n _ _ hf], t3⟩
      · have e' : ¬ (q < L ∧ 48 ≤ X q ∧ X q ≤ 57) := fun y => e (dgB_t.mpr y)
        rw [if_neg e]
        refine ⟨σ, ?_, fun _ _ => rfl, fun _ _ => rfl, h2⟩
        have hno : ¬ (48 ≤ (if q < L then X q else -1) ∧ (if q < L then X q else -1) ≤ 57) := fun y => by
          by_cases y2 : q < L
          · rw [if_pos y2] at y
            exact e' ⟨y2, y⟩
          · rw [if_neg y2] at y
            exact absurd y.1 (by decide)
        rw [if_pos (bi_0.mpr hno), Nat.sub_self]
        rfl
    · have e : d = 4 := by omega
      subst e
      rw [if_pos (show (4 : Int32) ≤ nI 4 by decide)]
      refine ⟨σ, ?_, fun _ _ => rfl, fun _ _ => rfl, h2⟩
      rw [Nat.sub_self]
      show _ = f_X2_readNumber_J69 fu 4 6 (nI p) (nI k) a (nI (4 + (q - q))) σ
      rw [Nat.sub_self]
theorem zx_num (hf : 10 < fu) (hL : L ≤ 60) {p k q : Nat} (hp : p ≤ 100) (hk : k < 3) (h : TC X L σ) (h2 : σ 4 2 = nI (q - p)) (hpq : p ≤ q) (hq : q ≤ 200) : ∃ τ, f_X2_readNumber fu σ 4 6 (nI p) (nI k) = some (bi ((rNum X L q 4 0).1 ≠ q), τ) ∧ (∀ c, c ≠ 4 → c ≠ 5 → τ c = σ c) ∧ (∀ f, f ≠ 2 → τ 4 f = σ 4 f) ∧ τ 4 2 = nI ((rNum X L q 4 0).1 - p) ∧ τ 5 = upd (σ 5) k (rNum X L q 4 0).2 := by
  have hb := rNum_b X L 4 q 0
  obtain ⟨τ, t0, t1, t2, t3⟩ := cn_W (fu := fu) (k := k) hL hp fu 0 q 0 σ h h2 hpq hq (by omega) (by omega)
  unfold f_X2_readNumber
  rw [show f_X2_readNumber_W6 fu 4 6 (nI p) (nI k) fu 0 0 σ = _ from t0]
  unfold f_X2_readNumber_J69 f_X2_readNumber_J86
  rw [z_within, bd_some, if_neg (show ¬ bi (0 ≤ nI k ∧ nI k ≤ 2) = 0 from z_bl (m := 2) (by omega) (by omega)), wrN k rfl hk (by omega), bd_some, show 4 - 0 = 4 from rfl, Nat.zero_add]
  refine ⟨gu τ 5 (upd (τ 5) k (rNum X L q 4 0).2), ?_, fun c c1 c2 => by rw [gu_n _ _ c2]; exact t1 c c1, fun f hf => by rw [gu_n _ _ (by omega)]; exact t2 f hf, by rw [gu_n _ _ (by omega)]; exact t3, by rw [gu_s, t1 5 (by omega)]⟩
  by_cases e : (rNum X L q 4 0).1 = q
  · rw [if_pos ((nI_le0 (by omega)).mpr (by omega)), bi_f (fun y => y e)]
  · rw [if_neg (fun y => e (by have := (nI_le0 (by omega)).mp y; omega)), bi_t e]
theorem ro_W (hf : 10 < fu) (hL : L ≤ 60) {p m : Nat} (hp : p ≤ 100) (hm : m ≤ 3) : ∀ (r k q n : Nat) (N : Nat → Int32) (σ : gSt), k + r = m → r < n → TC X L σ → σ 4 2 = nI (q - p) → σ 4 3 = 0 → p ≤ q → q + 5 * r ≤ 200 → (∀ j, j < k → σ 5 j = N j) →
    ∃ τ, f_X2_readFrom_W40 fu 4 6 (nI p) (nI m) n (nI k) σ = some τ ∧ (∀ c, c ≠ 4 → c ≠ 5 → τ c = σ c) ∧ τ 4 1 = σ 4 1 ∧ τ 4 2 = nI ((prs X L r k q N).2.1 - p) ∧ τ 4 3 = bi ((prs X L r k q N).1 = true) ∧ ((prs X L r k q N).1 = true → ∀ j, j < m → τ 5 j = (prs X L r k q N).2.2 j)
  | _, _, _, 0, _, _, _, z, _, _, _, _, _, _ => absurd z (by omega)
  | 0, k, q, n + 1, N, σ, hkm, hn, h, h2, h3, hpq, hq, hN => by
    rw [f_X2_readFrom_W40_s]
    unfold f_X2_readFrom_L40 prs
    have e : k = m := by omega
    subst e
    rw [if_pos (zl_ge (Nat.le_refl _) (by omega)), lt_eq]
    refine ⟨_, rfl, fun c c1 _ => gu_n _ _ c1, by rw [gu_s, up_n _ _ (by omega)], by rw [gu_s, up_n _ _ (by omega)]; exact h2, by rw [gu_s, up_e]; rfl, fun _ j hj => by rw [gu_n _ _ (by omega)]; exact hN j hj⟩
  | r + 1, k, q, n + 1, N, σ, hkm, hn, h, h2, h3, hpq, hq, hN => by
    have hb := rNum_b X L 4 q 0
    rw [f_X2_readFrom_W40_s]
    unfold f_X2_readFrom_L40 f_X2_readFrom_J61 prs
    obtain ⟨τ, t0, t1, t2, t3, t4⟩ := zx_num (fu := fu) hf hL hp (show k < 3 by omega) h h2 hpq (by omega)
    have hNt : ∀ j, j < k + 1 → τ 5 j = uF N k (rNum X L q 4 0).2 j := fun j hj => by
      rw [t4]
      by_cases e : j = k
      · subst e
        rw [up_e, uF_e]
      · rw [up_n _ _ e, uF_n _ _ e]
        exact hN j (by omega)
    have hs : (if nI m - 1 ≤ nI k then (59 : Int32) else 44) = if r = 0 then 59 else 44 := by
      rw [show nI m - 1 = nI (m - 1) from z_sub (b := 1) (show 1 ≤ m by omega)]
      by_cases e : r = 0
      · rw [if_pos e, if_pos ((z_le (by omega) (by omega)).mpr (by omega))]
      · rw [if_neg e, if_neg (fun y => e (by have := (z_le (by omega) (by omega)).mp y; omega))]
    rw [if_neg (zl_le (show k < m by omega) (by omega)), lt_eq, hs, t0, b2_some]
    by_cases e : (rNum X L q 4 0).1 = q
    · rw [if_pos (bi_0.mpr (fun y => y e)), if_pos e]
      exact ⟨τ, rfl, t1, t2 1 (by omega), t3, by rw [t2 3 (by omega), h3]; rfl, fun y => absurd (show false = true from y) (by decide)⟩
    · rw [if_neg (fun y => bi_0.mp y e), if_neg e, t3, nI_add, show p + ((rNum X L q 4 0).1 - p) = (rNum X L q 4 0).1 by omega, zx_char (TC_fr h (t1 6 (by omega) (by omega)) (t1 7 (by omega) (by omega))) hL (by omega), bd_some]
      by_cases g : sgB X L (rNum X L q 4 0).1 (if r = 0 then 59 else 44) = true
      · have g' := sgB_t.mp g
        rw [if_pos g, if_pos g'.1, if_pos g'.2, lt_eq, z_add1, z_add1]
        obtain ⟨υ, u0, u1, u2, u3, u4, u5⟩ := ro_W hf hL hp hm r (k + 1) ((rNum X L q 4 0).1 + 1) n (uF N k (rNum X L q 4 0).2) (gu τ 4 (upd (τ 4) 2 (nI ((rNum X L q 4 0).1 - p + 1)))) (by omega) (by omega) (TC_fr h (by rw [gu_n _ _ (by omega)]; exact t1 6 (by omega) (by omega)) (by rw [gu_n _ _ (by omega)]; exact t1 7 (by omega) (by omega))) (by rw [gu_s, up_e]; congr 1; omega) (by rw [gu_s, up_n _ _ (by omega), t2 3 (by omega)]; exact h3) (by omega) (by omega) (fun j hj => by rw [gu_n _ _ (by omega)]; exact hNt j hj)
        exact ⟨υ, u0, fun c c1 c2 => by rw [u1 c c1 c2, gu_n _ _ c1]; exact t1 c c1 c2, by rw [u2, gu_s, up_n _ _ (by omega)]; exact t2 1 (by omega), u3, u4, u5⟩
      · have g' : ¬ (if (rNum X L q 4 0).1 < L then X (rNum X L q 4 0).1 else -1) = if r = 0 then 59 else 44 := fun y => by
          by_cases y2 : (rNum X L q 4 0).1 < L
          · rw [if_pos y2] at y
            exact g (sgB_t.mpr ⟨y2, y⟩)
          · rw [if_neg y2] at y
            by_cases y3 : r = 0
            · rw [if_pos y3] at y
              exact absurd y (by decide)
            · rw [if_neg y3] at y
              exact absurd y (by decide)
        rw [if_neg g, if_neg g']
        exact ⟨τ, rfl, t1, t2 1 (by omega), t3, by rw [t2 3 (by omega), h3]; rfl, fun y => absurd (show false = true from y) (by decide)⟩
theorem zx_wN (c : Int32) : f_X2_numbersOf fu σ c = some (nI (wN c)) := by
  unfold f_X2_numbersOf wN
  split
  · rfl
  · split
    · rfl
    · split
      · rfl
      · split
        · rfl
        · split
          · rfl
          · rfl
theorem zx_read (hf : 10 < fu) (hL : L ≤ 60) {p : Nat} (hp : p < L) (h : TC X L σ) : ∃ τ, f_X2_readFrom fu σ 4 6 (nI p) = some τ ∧ (∀ c, c ≠ 4 → c ≠ 5 → τ c = σ c) ∧ τ 4 1 = X p ∧ τ 4 2 = nI ((pO X L p).2.1 - p) ∧ τ 4 3 = bi ((pO X L p).1 = true) ∧ ((pO X L p).1 = true → ∀ j, j < wN (X p) → τ 5 j = (pO X L p).2.2 j) := by
  have hw := wN_le (X p)
  unfold f_X2_readFrom pO
  rw [zx_char h hL (by omega), bd_some, if_pos hp, lt_eq, lt_eq, lt_eq, zx_wN, bd_some]
  simp (disch := omega) only [gu_s, up_n, up_e]
  by_cases e : wN (X p) = 0
  · rw [if_pos ((nI_0iff (by omega)).mpr e), if_pos e]
    refine ⟨_, rfl, fun c c1 _ => by rw [gu_n _ _ c1, gu_n _ _ c1, gu_n _ _ c1], ?_, ?_, ?_, fun y => absurd (show false = true from y) (by decide)⟩
    · simp (disch := omega) only [gu_s, up_n, up_e]
    · simp (disch := omega) only [gu_s, up_n, up_e]
      show (0 : Int32) = nI (p - p)
      rw [Nat.sub_self]
      rfl
    · simp (disch := omega) only [gu_s, up_n, up_e]
      rfl
  · rw [if_neg (fun y => e ((nI_0iff (by omega)).mp y)), if_neg e, lt_eq]
    obtain ⟨τ, t0, t1, t2, t3, t4, t5⟩ := ro_W (fu := fu) hf hL (show p ≤ 100 by omega) hw (wN (X p)) 0 (p + 1) fu (fun _ => 0) (gu (gu (gu (gu σ 4 (upd (σ 4) 1 (X p))) 4 (upd (upd (σ 4) 1 (X p)) 2 0)) 4 (upd (upd (upd (σ 4) 1 (X p)) 2 0) 3 0)) 4 (upd (upd (upd (upd (σ 4) 1 (X p)) 2 0) 3 0) 2 1)) (by omega) (by omega) (TC_fr h (by simp (disch := omega) only [gu_n]) (by simp (disch := omega) only [gu_n])) (by rw [gu_s, up_e, show p + 1 - p = 1 by omega]; rfl) (by simp (disch := omega) only [gu_s, up_n, up_e]) (by omega) (by omega) (fun j hj => absurd hj (Nat.not_lt_zero j))
    refine ⟨τ, t0, fun c c1 c2 => by rw [t1 c c1 c2, gu_n _ _ c1, gu_n _ _ c1, gu_n _ _ c1, gu_n _ _ c1], ?_, t3, t4, t5⟩
    rw [t2]
    simp (disch := omega) only [gu_s, up_n, up_e]
end Text
