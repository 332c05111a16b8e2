/-! ===== what a transcript is, for both: how many turns; begins, ends, pitches, speakers, counts of terms, terms; corrections (0: none); pitches of speakers; the setting ===== -/
abbrev gV : Type := Nat × (Nat → Int32) × (Nat → Int32) × (Nat → Int32) × (Nat → Int32) × (Nat → Nat) × (Nat → Nat → Nat) × (Nat → Nat) × (Nat → Int32) × Int32
abbrev vn (v : gV) : Nat := v.1
abbrev vB (v : gV) : Nat → Int32 := v.2.1
abbrev vE (v : gV) : Nat → Int32 := v.2.2.1
abbrev vP (v : gV) : Nat → Int32 := v.2.2.2.1
abbrev vO (v : gV) : Nat → Int32 := v.2.2.2.2.1
abbrev vC (v : gV) : Nat → Nat := v.2.2.2.2.2.1
abbrev vQ (v : gV) : Nat → Nat → Nat := v.2.2.2.2.2.2.1
abbrev vT (v : gV) : Nat → Nat := v.2.2.2.2.2.2.2.1
abbrev vS (v : gV) : Nat → Int32 := v.2.2.2.2.2.2.2.2.1
abbrev vA (v : gV) : Int32 := v.2.2.2.2.2.2.2.2.2
/-- corrections -/
def shn (T : Nat → Nat) : Nat → Nat → Nat
  | 0, t => t
  | k + 1, t => if T t = 0 then t else shn T k (T t - 1)
abbrev sh (T : Nat → Nat) (t : Nat) : Nat := shn T 16 t
def chn (T : Nat → Nat) : Nat → Nat → Nat
  | 0, _ => 0
  | k + 1, t => if T t = 0 then 0 else chn T k (T t - 1) + 1
def ldn (T : Nat → Nat) (g : Nat) : Nat → Nat → Bool
  | 0, t => t == g
  | k + 1, t => t == g || (T t != 0 && ldn T g k (T t - 1))
def TW (T : Nat → Nat) : Prop := ∀ t, t < 16 → T t ≤ 16
/-- no chain comes back -/
def TA (T : Nat → Nat) : Prop := ∀ t, t < 16 → ∃ k, T (shn T k t) = 0
/-- what holds of a transcript -/
def WT (v : gV) : Prop := vn v ≤ 20 ∧ (∀ i, i < vn v → ∃ b e p : Nat, vB v i = nI b ∧ vE v i = nI e ∧ vP v i = nI p ∧ b < e ∧ e ≤ 1999 ∧ 50 ≤ p ∧ p ≤ 500) ∧ (∀ i, i < vn v → vC v i ≤ 8 ∧ ∀ j, j < vC v i → vQ v i j < 16)
def WS (v : gV) : Prop := (∀ i, i < vn v → vO v i = -1 ∨ ∃ s, s < 6 ∧ vO v i = nI s ∧ vS v s ≠ 0) ∧ (∀ s, s < 6 → vS v s = 0 ∨ ∃ p : Nat, vS v s = nI p ∧ 50 ≤ p ∧ p ≤ 500)
def WO (v : gV) : Prop := ∀ i j, i < j → j < vn v → vB v i ≤ vB v j
def WF (v : gV) : Prop := WT v ∧ WS v ∧ WO v ∧ TW (vT v) ∧ TA (vT v) ∧ ∃ a : Nat, a ≤ 200 ∧ vA v = nI a
/-- how LectureTurns holds it: the objects Turns, Corrections, Speakers, Transcript -/
def RCt (k : Nat) (v : gV) (σ : gSt) : Prop := σ k 6 = nI (vn v) ∧ ∀ i, i < vn v → σ (k + 1) i = vB v i ∧ σ (k + 2) i = vE v i ∧ σ (k + 3) i = vP v i ∧ σ (k + 4) i = vO v i ∧ σ (k + 5) i = nI (vC v i) ∧ ∀ j, j < vC v i → σ (k + 6) (8 * i + j) = nI (vQ v i j)
def RCc (k : Nat) (T : Nat → Nat) (σ : gSt) : Prop := ∀ t, t < 16 → σ (k + 1) t = en (T t)
def RCs (k : Nat) (S : Nat → Int32) (σ : gSt) : Prop := ∀ s, s < 6 → σ (k + 1) s = S s
def RC (b : Nat) (v : gV) (σ : gSt) : Prop := RCt (b + 1) v σ ∧ RCc (b + 8) (vT v) σ ∧ RCs (b + 10) (vS v) σ ∧ σ b 3 = vA v
/-- how LectureTurnsModel holds it: an array of 284, from a place o of the cell c on -/
def RM (c o : Nat) (v : gV) (σ : gSt) : Prop := σ c (o + 282) = nI (vn v) ∧ (∀ i, i < vn v → σ c (o + 13 * i) = vB v i ∧ σ c (o + 13 * i + 1) = vE v i ∧ σ c (o + 13 * i + 2) = vP v i ∧ σ c (o + 13 * i + 3) = vO v i ∧ σ c (o + 13 * i + 4) = nI (vC v i) ∧ ∀ j, j < vC v i → σ c (o + 13 * i + 5 + j) = nI (vQ v i j)) ∧
  (∀ t, t < 16 → σ c (o + 260 + t) = en (vT v t)) ∧ (∀ s, s < 6 → σ c (o + 276 + s) = vS v s) ∧ σ c (o + 283) = vA v
/-! comparisons of written numbers -/
theorem zl_le {i n : Nat} (h : i < n) (hn : n ≤ 4095) : ¬ nI n ≤ nI i := by
  rw [z_le (by omega) (by omega)]
  omega
theorem zl_ge {i n : Nat} (h : n ≤ i) (hn : i ≤ 4095) : nI n ≤ nI i := by
  rw [z_le (by omega) (by omega)]
  exact h
theorem zl_lt {i n : Nat} (h : i < n) (hn : n ≤ 4095) : nI i < nI n := by
  rw [z_lt (by omega) (by omega)]
  exact h
theorem zl_nlt {i n : Nat} (h : n ≤ i) (hn : i ≤ 4095) : ¬ nI i < nI n := by
  rw [z_lt (by omega) (by omega)]
  omega
theorem zo_le {i n : Nat} (h : i < n) (hn : n ≤ 4095) : ¬ (OfNat.ofNat n : Int32) ≤ nI i := zl_le h hn
theorem zo_ge {i n : Nat} (h : n ≤ i) (hn : i ≤ 4095) : (OfNat.ofNat n : Int32) ≤ nI i := zl_ge h hn
theorem zo_lt {i n : Nat} (h : i < n) (hn : n ≤ 4095) : nI i < (OfNat.ofNat n : Int32) := zl_lt h hn
theorem zo_nlt {i n : Nat} (h : n ≤ i) (hn : i ≤ 4095) : ¬ nI i < (OfNat.ofNat n : Int32) := zl_nlt h hn
theorem z_within (fu : Nat) (σ : gSt) (x a b : Int32) : f_X9_isWithin fu σ x a b = some (bi (a ≤ x ∧ x ≤ b)) := by
  unfold f_X9_isWithin bi
  by_cases h1 : x < a
  · rw [if_pos h1, if_neg (fun q => by have := q.1; rw [z_lei] at this; rw [z_lti] at h1; omega)]
  · rw [if_neg h1]
    by_cases h2 : b < x
    · rw [if_pos h2, if_neg (fun q => by have := q.2; rw [z_lei] at this; rw [z_lti] at h2; omega)]
    · rw [if_neg h2, if_pos ⟨by rw [z_lei]; rw [z_lti] at h1; omega, by rw [z_lei]; rw [z_lti] at h2; omega⟩]
theorem z_term (fu : Nat) (σ : gSt) (x : Int32) : f_X0_isTerm fu σ x = some (bi (0 ≤ x ∧ x ≤ 15)) := by
  unfold f_X0_isTerm
  rw [z_within, bd_some, bi_zb]
theorem z_ix16 (x : Int32) : (∃ t, t < 16 ∧ x = nI t ∧ (0 ≤ x ∧ x ≤ 15)) ∨ (¬ (0 ≤ x ∧ x ≤ 15) ∧ (x < 0 ∨ nI 16 ≤ x)) := by
  rcases z_ix x (n := 16) (by omega) with ⟨t, h1, rfl⟩ | h
  · exact Or.inl ⟨t, h1, rfl, nI_pos' (by omega), (zl_ge (i := 15) (n := t) (by omega) (by omega) : nI t ≤ nI 15)⟩
  · refine Or.inr ⟨fun q => ?_, h⟩
    obtain ⟨q1, q2⟩ := q
    rw [z_lei] at q1 q2
    rcases h with h | h
    · rw [z_lti] at h
      omega
    · rw [z_lei, nI_toInt (by omega)] at h
      have : (15 : Int32).toInt = 15 := by decide
      omega
section Corr
variable {fu k : Nat} {σ : gSt} {T : Nat → Nat}
theorem zc_isCorrected (h : RCc k T σ) (hw : TW T) {t : Nat} (ht : t < 16) : f_X0_isCorrected fu σ k (nI t) = some (bi (T t ≠ 0)) := by
  unfold f_X0_isCorrected
  rw [if_neg (z_neg (by omega)), if_neg (zo_le (n := 16) ht (by omega)), rdN t rfl ht (by omega), bd_some, h t ht]
  unfold bi
  by_cases h0 : T t = 0
  · rw [if_pos ((en_m1 (hw t ht)).mpr h0), if_neg (fun q => q h0)]
  · rw [if_neg (fun q => h0 ((en_m1 (hw t ht)).mp q)), if_pos h0]
theorem zc_isCorrected_out {x : Int32} (hx : x < 0 ∨ nI 16 ≤ x) : f_X0_isCorrected fu σ k x = some 0 := by
  unfold f_X0_isCorrected
  rcases hx with q | q
  · rw [if_pos q]
  · by_cases h0 : x < 0
    · rw [if_pos h0]
    · rw [if_neg h0, if_pos (show (16 : Int32) ≤ x from q)]
theorem zc_tgt (h : RCc k T σ) {t : Nat} (ht : t < 16) (h0 : T t ≠ 0) : rd 16 σ (k + 1) (nI t) = some (nI (T t - 1)) := by
  rw [rdN t rfl ht (by omega), h t ht]
  unfold en
  rw [if_neg h0]
theorem zc_shown_W (h : RCc k T σ) (hw : TW T) (p : Int32) : ∀ (n t s : Nat), t < 16 → s ≤ 16 → 16 - s < n → f_X0_shown_W4 fu σ k p n (nI t) (nI s) = some (nI (shn T (16 - s) t))
  | 0, _, _, _, _, q => absurd q (by omega)
  | n + 1, t, s, ht, hs, hn => by
    rw [f_X0_shown_W4_s]
    unfold f_X0_shown_L4
    rcases Nat.lt_or_ge s 16 with q | q
    · rw [if_neg (zo_le (n := 16) q (by omega)), zc_isCorrected h hw ht, bd_some, show 16 - s = (16 - (s + 1)) + 1 by omega]
      unfold shn
      by_cases h0 : T t = 0
      · rw [if_pos (bi_0.mpr (fun q => q h0)), if_pos h0]
      · rw [if_neg (fun q => bi_0.mp q h0), if_neg h0, zc_tgt h ht h0, bd_some, z_add1]
        exact zc_shown_W h hw p n _ _ (by have := hw t ht; omega) (by omega) (by omega)
    · have e : s = 16 := by omega
      subst e
      rw [if_pos (zo_ge (n := 16) (i := 16) (by omega) (by omega))]
      rfl
theorem zc_shown (hf : 16 < fu) (h : RCc k T σ) (hw : TW T) {t : Nat} (ht : t < 16) : f_X0_shown fu σ k (nI t) = some (nI (sh T t)) :=
  zc_shown_W h hw (nI t) fu t 0 ht (by omega) (by omega)
theorem zc_chain_W (h : RCc k T σ) (hw : TW T) (p : Int32) : ∀ (n t s : Nat), t < 16 → s ≤ 16 → 16 - s < n → f_X0_chainOf_W4 fu σ k p n (nI t) (nI s) = some (nI (s + chn T (16 - s) t))
  | 0, _, _, _, _, q => absurd q (by omega)
  | n + 1, t, s, ht, hs, hn => by
    rw [f_X0_chainOf_W4_s]
    unfold f_X0_chainOf_L4
    rcases Nat.lt_or_ge s 16 with q | q
    · rw [if_neg (zo_le (n := 16) q (by omega)), zc_isCorrected h hw ht, bd_some, show 16 - s = (16 - (s + 1)) + 1 by omega]
      unfold chn
      by_cases h0 : T t = 0
      · rw [if_pos (bi_0.mpr (fun q => q h0)), if_pos h0]
        rfl
      · rw [if_neg (fun q => bi_0.mp q h0), if_neg h0, zc_tgt h ht h0, bd_some, z_add1, zc_chain_W h hw p n _ _ (by have := hw t ht; omega) (by omega) (by omega)]
        rw [show s + 1 + chn T (16 - (s + 1)) (T t - 1) = s + (chn T (16 - (s + 1)) (T t - 1) + 1) by omega]
    · have e : s = 16 := by omega
      subst e
      rw [if_pos (zo_ge (n := 16) (i := 16) (by omega) (by omega))]
      rfl
theorem zc_chain (hf : 16 < fu) (h : RCc k T σ) (hw : TW T) {t : Nat} (ht : t < 16) : f_X0_chainOf fu σ k (nI t) = some (nI (chn T 16 t)) := by
  have h1 := zc_chain_W (fu := fu) h hw (nI t) fu t 0 ht (by omega) (by omega)
  rw [Nat.zero_add] at h1
  exact h1
theorem zc_leads_J {g t : Nat} (hg : g < 16) (ht : t < 16) (p : Int32) : f_X0_leadsTo_J38 fu σ k p (nI g) (nI t) = some (bi (t = g)) := by
  unfold f_X0_leadsTo_J38 bi
  by_cases q : t = g
  · rw [if_pos q, if_pos (by rw [q])]
  · rw [if_neg q, if_neg (fun e => q ((z_eq (by omega) (by omega)).mp e))]
theorem zc_leads_W (h : RCc k T σ) (hw : TW T) (p : Int32) {g : Nat} (hg : g < 16) : ∀ (n t s : Nat), t < 16 → s ≤ 16 → 16 - s < n → f_X0_leadsTo_W5 fu σ k p (nI g) n (nI t) (nI s) = some (bi (ldn T g (16 - s) t = true))
  | 0, _, _, _, _, q => absurd q (by omega)
  | n + 1, t, s, ht, hs, hn => by
    rw [f_X0_leadsTo_W5_s]
    unfold f_X0_leadsTo_L5
    rcases Nat.lt_or_ge s 16 with q | q
    · rw [if_neg (zo_le (n := 16) q (by omega)), show 16 - s = (16 - (s + 1)) + 1 by omega]
      unfold ldn
      by_cases hg0 : t = g
      · subst hg0
        rw [if_pos rfl, zc_leads_J hg ht]
        exact congrArg some (bi_congr ⟨fun _ => by simp, fun _ => rfl⟩)
      · rw [if_neg (fun e => hg0 ((z_eq (by omega) (by omega)).mp e)), zc_isCorrected h hw ht, bd_some]
        by_cases h0 : T t = 0
        · rw [if_pos (bi_0.mpr (fun q => q h0)), zc_leads_J hg ht]
          exact congrArg some (bi_congr ⟨fun q => absurd q hg0, fun q => by simp [hg0, h0] at q⟩)
        · rw [if_neg (fun q => bi_0.mp q h0), zc_tgt h ht h0, bd_some, z_add1, zc_leads_W h hw p hg n _ _ (by have := hw t ht; omega) (by omega) (by omega)]
          exact congrArg some (bi_congr (by simp [hg0, h0]))
    · have e : s = 16 := by omega
      subst e
      rw [if_pos (zo_ge (n := 16) (i := 16) (by omega) (by omega)), zc_leads_J hg ht]
      exact congrArg some (bi_congr (by simp [ldn]))
theorem zc_leads (hf : 16 < fu) (h : RCc k T σ) (hw : TW T) {t g : Nat} (ht : t < 16) (hg : g < 16) : f_X0_leadsTo fu σ k (nI t) (nI g) = some (bi (ldn T g 16 t = true)) :=
  zc_leads_W h hw (nI t) hg fu t 0 ht (by omega) (by omega)
/-- what mayCorrect and errorOf say -/
def spErr (T : Nat → Nat) (x y : Int32) : Int32 := if 0 ≤ x ∧ x ≤ 15 then (if 0 ≤ y ∧ y ≤ 15 then (if x = y then -1000001 else if ldn T x.toNatClampNeg 16 y.toNatClampNeg = true then -1000002 else 0) else -1000001) else -1000001
theorem zc_error (hf : 16 < fu) (h : RCc k T σ) (hw : TW T) (x y : Int32) : f_X0_errorOf fu σ k x y = some (spErr T x y) := by
  unfold f_X0_errorOf spErr
  rw [z_term, bd_some, z_term, bd_some]
  rcases z_ix16 x with ⟨t, ht, rfl, hx⟩ | ⟨hx, -⟩
  · rw [if_neg (fun q => bi_0.mp q hx), if_pos hx]
    rcases z_ix16 y with ⟨u, hu, rfl, hy⟩ | ⟨hy, -⟩
    · rw [if_neg (fun q => bi_0.mp q hy), if_pos hy]
      by_cases e : nI t = nI u
      · rw [if_pos e, if_pos e]
      · rw [if_neg e, if_neg e, zc_leads hf h hw hu ht, bd_some, nI_clamp (by omega), nI_clamp (by omega)]
        by_cases q : ldn T t 16 u = true
        · rw [if_neg (fun z => bi_0.mp z q), if_pos q]
        · rw [if_pos (bi_0.mpr q), if_neg q]
    · rw [if_pos (bi_0.mpr hy), if_neg hy]
  · rw [if_pos (bi_0.mpr hx), if_neg hx]
theorem zc_targetOf (h : RCc k T σ) (hw : TW T) {t : Nat} (ht : t < 16) : f_X0_targetOf fu σ k (nI t) = some (en (T t)) := by
  unfold f_X0_targetOf
  rw [zc_isCorrected h hw ht, bd_some]
  by_cases h0 : T t = 0
  · rw [if_pos (bi_0.mpr (fun q => q h0)), h0]
    rfl
  · rw [if_neg (fun q => bi_0.mp q h0), rdN t rfl ht (by omega), bd_some, h t ht]
/-- terms that are shown as one, as a set -/
def spShownAs (T : Nat → Nat) (x : Int32) : Int32 := itr (fun i acc => if nI (sh T i) = x then acc ||| (1 <<< (nI i &&& 31)) else acc) 0 16 0
theorem zc_shownAs (hf : 16 < fu) (h : RCc k T σ) (hw : TW T) (x : Int32) : f_X0_shownAs fu σ k x = some (spShownAs T x) := by
  refine lpU0 (fun n i t => f_X0_shownAs_W4 fu σ k x n t (nI i)) 16 _ some (fun n i t hi => ?_) (fun n t => ?_) fu 0 hf
  · rw [f_X0_shownAs_W4_s]
    unfold f_X0_shownAs_L4
    rw [if_neg (zo_le (n := 16) hi (by omega)), zc_shown hf h hw hi, bd_some]
    by_cases e : nI (sh T i) = x
    · rw [if_pos e, if_pos e, lt_eq, z_add1]
    · rw [if_neg e, if_neg e, z_add1]
  · rw [f_X0_shownAs_W4_s]
    unfold f_X0_shownAs_L4
    rw [if_pos (zo_ge (n := 16) (i := 16) (by omega) (by omega))]
def spCorrs (T : Nat → Nat) : Int32 := itr (fun i acc => if T i = 0 then acc else acc + 1) 0 16 0
theorem zc_size (hf : 16 < fu) (h : RCc k T σ) (hw : TW T) : f_X0_size fu σ k = some (spCorrs T) := by
  refine lpU0 (fun n i t => f_X0_size_W4 fu σ k n t (nI i)) 16 _ some (fun n i t hi => ?_) (fun n t => ?_) fu 0 hf
  · rw [f_X0_size_W4_s]
    unfold f_X0_size_L4
    rw [if_neg (zo_le (n := 16) hi (by omega)), zc_isCorrected h hw hi, bd_some]
    by_cases e : T i = 0
    · rw [if_pos e, if_pos (bi_0.mpr (fun q => q e)), z_add1]
    · rw [if_neg e, if_neg (fun q => bi_0.mp q e), z_add1]
  · rw [f_X0_size_W4_s]
    unfold f_X0_size_L4
    rw [if_pos (zo_ge (n := 16) (i := 16) (by omega) (by omega))]
end Corr
