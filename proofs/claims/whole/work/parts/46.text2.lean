/-! ===== orders as texts: the model's side ===== -/
section Text2
variable {fu : Nat} {σ : gSt} {X : Nat → Int32} {L : Nat}
/-- nothing but the reading changes -/
def FrM (σ τ : gSt) : Prop := (∀ c, c ≠ 94 → c ≠ 101 → τ c = σ c) ∧ ∀ f, f ≠ 9 → τ 94 f = σ 94 f
theorem FrM_0 (σ : gSt) : FrM σ σ := ⟨fun _ _ _ => rfl, fun _ _ => rfl⟩
theorem FrM_t {σ τ υ : gSt} (h1 : FrM σ τ) (h2 : FrM τ υ) : FrM σ υ := ⟨fun c c1 c2 => (h2.1 c c1 c2).trans (h1.1 c c1 c2), fun f hf => (h2.2 f hf).trans (h1.2 f hf)⟩
theorem FrM_9 (σ : gSt) (x : Int32) : FrM σ (gu σ 94 (upd (σ 94) 9 x)) := ⟨fun c c1 _ => gu_n _ _ c1, fun f hf => by rw [gu_s, up_n _ _ hf]⟩
theorem FrM_101 (σ : gSt) (f : Nat → Int32) : FrM σ (gu σ 101 f) := ⟨fun c _ c2 => gu_n _ _ c2, fun f _ => by rw [gu_n _ _ (by omega)]⟩
theorem TM_M {τ : gSt} (h : TM X L σ) (f : FrM σ τ) : TM X L τ := TM_fr h (f.2 6 (by omega)) (f.1 98 (by omega) (by omega))
theorem zn_at (h : TM X L σ) (hL : L ≤ 60) {q : Nat} (hq : q < 4096) (h9 : σ 94 9 = nI q) (a b : Int32) : f_X10_isAt fu σ 94 a b = some (bi (q < L ∧ a ≤ X q ∧ X q ≤ b)) := by
  unfold f_X10_isAt
  rw [h.1, h9]
  rcases Nat.lt_or_ge q L with e | e
  · rw [if_neg (zl_le e (by omega)), rdN q rfl (by omega) (by omega), bd_some, zm_in, bd_some, show σ (94 + 4) q = X q from h.2 q e]
    by_cases g : a ≤ X q ∧ X q ≤ b
    · rw [if_neg (fun y => bi_0.mp y g), bi_t ⟨e, g⟩]
    · rw [if_pos (bi_0.mpr g), bi_f (fun y => g y.2)]
  · rw [if_pos (zl_ge e (by omega)), bi_f (fun y => by have := y.1; omega)]
theorem zn_W (hL : L ≤ 60) {q0 k : Nat} (hq0 : q0 ≤ 200) (hk : k < 3) : ∀ (n q : Nat) (a : Int32) (σ : gSt), TM X L σ → σ 94 9 = nI q → q0 ≤ q → q ≤ q0 + 4 → σ 101 k = a → 4 - (q - q0) < n →
    ∃ τ, f_X10_number_W12 fu 94 (nI k) (nI q0) n σ = some (bi ((rNum X L q (4 - (q - q0)) a).1 ≠ q0), τ) ∧ FrM σ τ ∧ τ 94 9 = nI (rNum X L q (4 - (q - q0)) a).1 ∧ τ 101 k = (rNum X L q (4 - (q - q0)) a).2 ∧ ∀ j, j ≠ k → τ 101 j = σ 101 j
  | 0, _, _, _, _, _, _, _, _, z => absurd z (by omega)
  | n + 1, q, a, σ, h, h9, h1, h2, ha, hn => by
    rw [f_X10_number_W12_s]
    unfold f_X10_number_L12 f_X10_number_J74
    rw [zn_at h hL (by omega) h9, bd_some, h9, z_sub h1]
    have fin : (if nI q ≤ nI q0 then some ((0 : Int32), σ) else some (1, σ)) = some (bi (q ≠ q0), σ) := by
      by_cases e : q = q0
      · rw [e, if_pos (zl_ge (Nat.le_refl _) (by omega)), bi_f (fun y => y rfl)]
      · rw [if_neg (zl_le (by omega) (by omega)), bi_t e]
    rcases Nat.lt_or_ge (q - q0) 4 with z | z
    · rw [show 4 - (q - q0) = (4 - (q + 1 - q0)) + 1 by omega]
      unfold rNum
      by_cases e : dgB X L q = true
      · have e' := dgB_t.mp e
        rw [if_pos e, if_neg (fun y => bi_0.mp y e'), if_neg (show ¬ 4 ≤ nI (q - q0) from zo_le (n := 4) z (by omega)), rdN k rfl hk (by omega), bd_some, rdN q rfl (by omega) (by omega), bd_some, wrN k rfl hk (by omega), bd_some, lt_eq, show σ (94 + 4) q = X q from h.2 q e'.1, show σ (94 + 7) k = a from ha]
        obtain ⟨τ, t0, t1, t2, t3, t4⟩ := zn_W hL hq0 hk n (q + 1) (a * 10 + X q - 48) (gu (gu σ (94 + 7) (upd (σ (94 + 7)) k (10 * a + X q - 48))) 94 (upd (gu σ (94 + 7) (upd (σ (94 + 7)) k (10 * a + X q - 48)) 94) 9 (gu σ (94 + 7) (upd (σ (94 + 7)) k (10 * a + X q - 48)) 94 9 + 1))) (TM_M (TM_M h (FrM_101 σ _)) (FrM_9 _ _)) (by rw [gu_s, up_e, gu_n _ _ (by omega), h9, z_add1]) (by omega) (by omega) (by rw [gu_n _ _ (by omega), gu_s, up_e, Int32.mul_comm]) (by omega)
        rw [t0]
        refine ⟨τ, rfl, FrM_t (FrM_t (FrM_101 σ _) (FrM_9 _ _)) t1, t2, t3, fun j hj => ?_⟩
        rw [t4 j hj, gu_n _ _ (by omega), gu_s, up_n _ _ hj]
      · have e' : ¬ (q < L ∧ 48 ≤ X q ∧ X q ≤ 57) := fun y => e (dgB_t.mpr y)
        rw [if_neg e, if_pos (bi_0.mpr e'), fin]
        exact ⟨σ, rfl, FrM_0 σ, h9, ha, fun _ _ => rfl⟩
    · have e4 : q - q0 = 4 := by omega
      rw [e4, if_pos (show (4 : Int32) ≤ nI 4 by decide), fin]
      have er : rNum X L q (4 - 4) a = (q, a) := rfl
      rw [er]
      have hres : ∃ τ, some (bi (q ≠ q0), σ) = some (bi ((q, a).1 ≠ q0), τ) ∧ FrM σ τ ∧ τ 94 9 = nI (q, a).1 ∧ τ 101 k = (q, a).2 ∧ ∀ j, j ≠ k → τ 101 j = σ 101 j := ⟨σ, rfl, FrM_0 σ, h9, ha, fun _ _ => rfl⟩
      by_cases g : bi (q < L ∧ 48 ≤ X q ∧ X q ≤ 57) = 0
      · rw [if_pos g]
        exact hres
      · rw [if_neg g]
        exact hres
theorem zn_num (hf : 10 < fu) (hL : L ≤ 60) {k q : Nat} (hk : k < 3) (h : TM X L σ) (h9 : σ 94 9 = nI q) (hq : q ≤ 200) : ∃ τ, f_X10_number fu σ 94 (nI k) = some (bi ((rNum X L q 4 0).1 ≠ q), τ) ∧ FrM σ τ ∧ τ 94 9 = nI (rNum X L q 4 0).1 ∧ τ 101 k = (rNum X L q 4 0).2 ∧ ∀ j, j ≠ k → τ 101 j = σ 101 j := by
  unfold f_X10_number
  rw [wrN k rfl hk (by omega), bd_some, h9]
  obtain ⟨τ, t0, t1, t2, t3, t4⟩ := zn_W (fu := fu) hL hq hk fu q 0 (gu σ (94 + 7) (upd (σ (94 + 7)) k 0)) (TM_M h (FrM_101 σ _)) (by rw [gu_n _ _ (by omega)]; exact h9) (Nat.le_refl _) (by omega) (by rw [gu_s, up_e]) (by omega)
  rw [Nat.sub_self] at t0 t2 t3
  refine ⟨τ, t0, FrM_t (FrM_101 σ _) t1, t2, t3, fun j hj => ?_⟩
  rw [t4 j hj, gu_s, up_n _ _ hj]
theorem zn_sign (hL : L ≤ 60) {q : Nat} (hq : q ≤ 400) (h : TM X L σ) (h9 : σ 94 9 = nI q) (c : Int32) : ∃ τ, f_X10_sign fu σ 94 c = some (bi (sgB X L q c = true), τ) ∧ FrM σ τ ∧ τ 94 9 = nI (if sgB X L q c = true then q + 1 else q) ∧ τ 101 = σ 101 := by
  unfold f_X10_sign f_X10_sign_J21
  have e : bi (q < L ∧ c ≤ X q ∧ X q ≤ c) = bi (sgB X L q c = true) := bi_congr (by
    rw [sgB_t]
    refine and_congr_right (fun _ => ⟨fun y => ?_, fun y => ?_⟩)
    · have y1 := y.1
      have y2 := y.2
      rw [z_lei] at y1 y2
      apply Int32.toInt_inj.mp
      omega
    · rw [y, z_lei]
      omega)
  rw [zn_at h hL (by omega) h9, bd_some, lt_eq, lt_eq, h9, e, bi_zb, bd_some]
  refine ⟨_, rfl, FrM_9 σ _, ?_, gu_n _ _ (by omega)⟩
  rw [gu_s, up_e]
  by_cases g : sgB X L q c = true
  · rw [if_pos g, if_neg (fun y => bi_0.mp y g), z_add1]
  · rw [if_neg g, if_pos (bi_0.mpr g), Int32.add_zero]
/-- what stands behind a number that was read -/
def post (X : Nat → Int32) (L r k q : Nat) (N : Nat → Int32) : Bool × Nat × (Nat → Int32) := if (rNum X L q 4 0).1 = q then (false, (rNum X L q 4 0).1, uF N k (rNum X L q 4 0).2)
    else if sgB X L (rNum X L q 4 0).1 (if r = 0 then 59 else 44) = true then prs X L r (k + 1) ((rNum X L q 4 0).1 + 1) (uF N k (rNum X L q 4 0).2) else (false, (rNum X L q 4 0).1, uF N k (rNum X L q 4 0).2)
theorem prs_s (X : Nat → Int32) (L r k q : Nat) (N : Nat → Int32) : prs X L (r + 1) k q N = post X L r k q N := rfl
theorem zn_W60 (hf : 10 < fu) (hL : L ≤ 60) {m : Nat} (hm : m ≤ 3) : ∀ (r k q n : Nat) (N : Nat → Int32) (σ : gSt), k + 1 + r = m → r + 2 < n → TM X L σ → σ 94 9 = nI (rNum X L q 4 0).1 → q + 5 * (r + 1) ≤ 200 → σ 101 k = (rNum X L q 4 0).2 → (∀ j, j < k → σ 101 j = N j) →
    ∃ τ, f_X10_reads_W60 fu 94 (nI m) n (bi ((rNum X L q 4 0).1 ≠ q)) (nI (k + 1)) σ = some (bi ((post X L r k q N).1 = true), τ) ∧ FrM σ τ ∧ τ 94 9 = nI (post X L r k q N).2.1 ∧ ((post X L r k q N).1 = true → ∀ j, j < m → τ 101 j = (post X L r k q N).2.2 j)
  | _, _, _, 0, _, _, _, z, _, _, _, _, _ => absurd z (by omega)
  | 0, k, q, n + 1, N, σ, hkm, hn, h, h9, hq, hv, hN => by
    have hb := rNum_b X L 4 q 0
    rw [f_X10_reads_W60_s]
    unfold f_X10_reads_L60 f_X10_reads_J98 post
    have e : k + 1 = m := by omega
    subst e
    rw [if_pos (zl_ge (Nat.le_refl _) (by omega))]
    by_cases g : (rNum X L q 4 0).1 = q
    · rw [if_pos (bi_0.mpr (fun y => y g)), if_pos g]
      exact ⟨σ, rfl, FrM_0 σ, h9, fun y => absurd (show false = true from y) (by decide)⟩
    · rw [if_neg (fun y => bi_0.mp y g), if_neg g, if_pos (show 0 = 0 from rfl)]
      obtain ⟨τ, t0, t1, t2, t3⟩ := zn_sign (fu := fu) hL (by omega) h h9 59
      rw [t0, b2_some]
      by_cases s : sgB X L (rNum X L q 4 0).1 59 = true
      · rw [if_neg (fun y => bi_0.mp y s), if_pos s]
        rw [if_pos s] at t2
        refine ⟨τ, rfl, t1, t2, fun _ j hj => ?_⟩
        rw [t3]
        show σ 101 j = uF N k (rNum X L q 4 0).2 j
        by_cases e : j = k
        · subst e
          rw [uF_e]
          exact hv
        · rw [uF_n _ _ e]
          exact hN j (by omega)
      · rw [if_pos (bi_0.mpr s), if_neg s]
        rw [if_neg s] at t2
        exact ⟨τ, rfl, t1, t2, fun y => absurd (show false = true from y) (by decide)⟩
  | r + 1, k, q, n + 1, N, σ, hkm, hn, h, h9, hq, hv, hN => by
    have hb := rNum_b X L 4 q 0
    rw [f_X10_reads_W60_s]
    unfold f_X10_reads_L60 post
    rw [if_neg (zl_le (show k + 1 < m by omega) (by omega))]
    by_cases g : (rNum X L q 4 0).1 = q
    · rw [if_pos (bi_0.mpr (fun y => y g)), if_pos g]
      unfold f_X10_reads_J98
      rw [if_pos (bi_0.mpr (fun y => y g))]
      exact ⟨σ, rfl, FrM_0 σ, h9, fun y => absurd (show false = true from y) (by decide)⟩
    · rw [if_neg (fun y => bi_0.mp y g), if_neg g, if_neg (show ¬ r + 1 = 0 by omega)]
      obtain ⟨τ, t0, t1, t2, t3⟩ := zn_sign (fu := fu) hL (by omega) h h9 44
      rw [t0, b2_some]
      by_cases s : sgB X L (rNum X L q 4 0).1 44 = true
      · rw [if_neg (fun y => bi_0.mp y s), if_pos s, prs_s]
        rw [if_pos s] at t2
        obtain ⟨υ, u0, u1, u2, u3, u4⟩ := zn_num (fu := fu) hf hL (k := k + 1) (by omega) (TM_M h t1) t2 (by omega)
        rw [u0, b2_some, lt_eq, z_add1]
        have eb : (if bi ((rNum X L ((rNum X L q 4 0).1 + 1) 4 0).1 ≠ (rNum X L q 4 0).1 + 1) = 0 then (0 : Int32) else 1) = bi ((rNum X L ((rNum X L q 4 0).1 + 1) 4 0).1 ≠ (rNum X L q 4 0).1 + 1) := by
          by_cases y : (rNum X L ((rNum X L q 4 0).1 + 1) 4 0).1 ≠ (rNum X L q 4 0).1 + 1
          · rw [bi_t y]
            rfl
          · rw [bi_f y]
            rfl
        rw [eb]
        obtain ⟨φ, f0, f1, f2, f3⟩ := zn_W60 hf hL hm r (k + 1) ((rNum X L q 4 0).1 + 1) n (uF N k (rNum X L q 4 0).2) υ (by omega) (by omega) (TM_M (TM_M h t1) u1) u2 (by omega) u3 (fun j hj => by
          rw [u4 j (by omega), t3]
          by_cases e : j = k
          · subst e
            rw [uF_e]
            exact hv
          · rw [uF_n _ _ e]
            exact hN j (by omega))
        exact ⟨φ, f0, FrM_t (FrM_t t1 u1) f1, f2, f3⟩
      · rw [if_pos (bi_0.mpr s), if_neg s, z_add1]
        rw [if_neg s] at t2
        obtain ⟨n', rfl⟩ : ∃ n', n = n' + 1 := ⟨n - 1, by omega⟩
        rw [f_X10_reads_W60_s]
        unfold f_X10_reads_L60 f_X10_reads_J98
        by_cases y : nI m ≤ nI (k + 1 + 1)
        · rw [if_pos y]
          exact ⟨τ, rfl, t1, t2, fun y => absurd (show false = true from y) (by decide)⟩
        · rw [if_neg y]
          exact ⟨τ, rfl, t1, t2, fun y => absurd (show false = true from y) (by decide)⟩
theorem zn_wN (c : Int32) : f_X10_numbersOf fu σ c = some (nI (wN c)) := by
  unfold f_X10_numbersOf wN
  by_cases h1 : c = 116
  · subst h1
    rfl
  · by_cases h2 : c = 119
    · subst h2
      rfl
    · by_cases h3 : c = 99
      · subst h3
        rfl
      · by_cases h4 : c = 103
        · subst h4
          rfl
        · by_cases h5 : c = 115
          · subst h5
            rfl
          · rw [if_neg h1, if_neg h2, if_neg h3, if_neg h4, if_neg h5, if_neg h3, if_neg h4, if_neg h5, if_neg h1, if_neg h2]
            rfl
theorem wN_in {c : Int32} (h : ¬ (33 ≤ c ∧ c ≤ 126)) : wN c = 0 := by
  unfold wN
  rw [if_neg (fun e => h (by rw [e]; decide)), if_neg (fun e => h (by rw [e]; decide)), if_neg (fun e => h (by rw [e]; decide)), if_neg (fun e => h (by rw [e]; decide)), if_neg (fun e => h (by rw [e]; decide))]
/-- the same, but for the letter too -/
def FrN (σ τ : gSt) : Prop := (∀ c, c ≠ 94 → c ≠ 101 → τ c = σ c) ∧ ∀ f, f ≠ 9 → f ≠ 14 → τ 94 f = σ 94 f
theorem zn_read (hf : 10 < fu) (hL : L ≤ 60) {p : Nat} (hp : p < L) (h : TM X L σ) (h9 : σ 94 9 = nI p) : ∃ τ, f_X10_reads fu σ 94 = some (bi ((pO X L p).1 = true), τ) ∧ FrN σ τ ∧ τ 94 9 = nI (pO X L p).2.1 ∧ ((pO X L p).1 = true → τ 94 14 = X p ∧ ∀ j, j < wN (X p) → τ 101 j = (pO X L p).2.2 j) := by
  have hw := wN_le (X p)
  unfold f_X10_reads f_X10_reads_J25 pO
  rw [zn_at h hL (by omega) h9, bd_some, h9, rdN p rfl (by omega) (by omega), bd_some, show σ (94 + 4) p = X p from h.2 p hp]
  have hc : ∀ c : Int32, wN c = wN (X p) → (c = X p ∨ wN c = 0) → ∃ τ, (lt (gu σ 94 (upd (σ 94) 14 c)) fun σ25 => ((f_X10_numbersOf fu σ25 (σ25 94 14)).bind fun v32 => (if v32 = 0 then (some ((0 : Int32), σ25)) else (lt (gu σ25 94 (upd (σ25 94) 9 ((σ25 94 9) + 1))) fun σ49 => (b2 (f_X10_number fu σ49 94 0) fun v54 σ54 => (f_X10_reads_W60 fu 94 v32 fu v54 1 σ54)))))) = some (bi ((if wN (X p) = 0 then (false, p, fun _ => (0 : Int32)) else prs X L (wN (X p)) 0 (p + 1) (fun _ => 0)).1 = true), τ) ∧ FrN σ τ ∧ τ 94 9 = nI (if wN (X p) = 0 then (false, p, fun _ => (0 : Int32)) else prs X L (wN (X p)) 0 (p + 1) (fun _ => 0)).2.1 ∧ ((if wN (X p) = 0 then (false, p, fun _ => (0 : Int32)) else prs X L (wN (X p)) 0 (p + 1) (fun _ => 0)).1 = true → τ 94 14 = X p ∧ ∀ j, j < wN (X p) → τ 101 j = (if wN (X p) = 0 then (false, p, fun _ => (0 : Int32)) else prs X L (wN (X p)) 0 (p + 1) (fun _ => 0)).2.2 j) := by
    intro c hcw hcx
    rw [lt_eq, zn_wN, bd_some, gu_s, up_e, hcw]
    have f0 : FrN σ (gu σ 94 (upd (σ 94) 14 c)) := ⟨fun d d1 _ => gu_n _ _ d1, fun f _ f2 => by rw [gu_s, up_n _ _ f2]⟩
    by_cases e : wN (X p) = 0
    · rw [if_pos ((nI_0iff (by omega)).mpr e), if_pos e]
      exact ⟨_, rfl, f0, by rw [gu_s, up_n _ _ (by omega)]; exact h9, fun y => absurd (show false = true from y) (by decide)⟩
    · rw [if_neg (fun y => e ((nI_0iff (by omega)).mp y)), if_neg e, lt_eq]
      have hX : c = X p := by
        rcases hcx with y | y
        · exact y
        · exact absurd (hcw.symm.trans y) e
      obtain ⟨m, hm⟩ : ∃ m, wN (X p) = m + 1 := ⟨wN (X p) - 1, by omega⟩
      obtain ⟨τ, t0, t1, t2, t3, t4⟩ := zn_num (fu := fu) (σ := gu (gu σ 94 (upd (σ 94) 14 c)) 94 (upd (upd (σ 94) 14 c) 9 (upd (σ 94) 14 c 9 + 1))) hf hL (k := 0) (q := p + 1) (by omega) (TM_fr h (by rw [gu_s, up_n _ _ (by omega), up_n _ _ (by omega)]) (by rw [gu_n _ _ (by omega), gu_n _ _ (by omega)])) (by rw [gu_s, up_e, up_n _ _ (by omega), h9, z_add1]) (by omega)
      rw [show f_X10_number fu (gu (gu σ 94 (upd (σ 94) 14 c)) 94 (upd (upd (σ 94) 14 c) 9 (upd (σ 94) 14 c 9 + 1))) 94 0 = _ from t0, b2_some, hm, prs_s]
      obtain ⟨φ, g0, g1, g2, g3⟩ := zn_W60 (fu := fu) hf hL (show m + 1 ≤ 3 by omega) m 0 (p + 1) fu (fun _ => 0) τ (by omega) (by omega) (TM_M (TM_fr h (by rw [gu_s, up_n _ _ (by omega), up_n _ _ (by omega)]) (by rw [gu_n _ _ (by omega), gu_n _ _ (by omega)])) t1) t2 (by omega) t3 (fun j hj => absurd hj (Nat.not_lt_zero j))
      refine ⟨φ, g0, ⟨fun d d1 d2 => ?_, fun f f1 f2 => ?_⟩, g2, fun y => ⟨?_, g3 y⟩⟩
      · rw [g1.1 d d1 d2, t1.1 d d1 d2, gu_n _ _ d1, gu_n _ _ d1]
      · rw [g1.2 f f1, t1.2 f f1, gu_s, up_n _ _ f1, up_n _ _ f2]
      · rw [g1.2 14 (by omega), t1.2 14 (by omega), gu_s, up_n _ _ (by omega), up_e]
        exact hX
  by_cases g : 33 ≤ X p ∧ X p ≤ 126
  · rw [if_neg (fun y => bi_0.mp y ⟨hp, g⟩)]
    exact hc (X p) rfl (Or.inl rfl)
  · rw [if_pos (bi_0.mpr (fun y => g y.2))]
    exact hc 0 (by rw [wN_in g]; rfl) (Or.inr rfl)
end Text2
