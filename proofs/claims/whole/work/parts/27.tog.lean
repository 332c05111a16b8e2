/-! ===== LectureTurns: the terms that are shown together ===== -/
theorem RC_same {b : Nat} {v : gV} {σ τ : gSt} (h : RC b v σ) (e : ∀ c, b ≤ c → c < b + 12 → τ c = σ c) : RC b v τ := by
  obtain ⟨⟨h1, h2⟩, h3, h4, h5⟩ := h
  refine ⟨⟨?_, fun i hi => ?_⟩, fun t ht => ?_, fun s hs => ?_, ?_⟩
  · rw [e (b + 1) (by omega) (by omega)]
    exact h1
  · rw [e (b + 1 + 1) (by omega) (by omega), e (b + 1 + 2) (by omega) (by omega), e (b + 1 + 3) (by omega) (by omega), e (b + 1 + 4) (by omega) (by omega), e (b + 1 + 5) (by omega) (by omega), e (b + 1 + 6) (by omega) (by omega)]
    exact h2 i hi
  · rw [e (b + 8 + 1) (by omega) (by omega)]
    exact h3 t ht
  · rw [e (b + 10 + 1) (by omega) (by omega)]
    exact h4 s hs
  · rw [e b (by omega) (by omega)]
    exact h5
def bth (v : gV) (l h : Nat) : Nat := sumN (vn v) (fun i => on1 (decide (0 < shc v i l) && decide (0 < shc v i h)))
def tgStep (v : gV) (l h : Nat) (t : Int32 × Int32 × Int32) : Int32 × Int32 × Int32 := if nI (bth v l h) ≤ t.2.2 then t else (nI l, nI h, nI (bth v l h))
def tgS (v : gV) : Int32 × Int32 × Int32 := itr (fun l t => itr (fun h t => tgStep v l h t) (l + 1) (16 - (l + 1)) t) 0 16 (0, 0, 0)
def spTog (v : gV) (w : Int32) : Int32 := if 0 ≤ w ∧ w ≤ 2 then (if (tgS v).2.2 = 0 then -1000004 else if w = 0 then (tgS v).1 else if w = 1 then (tgS v).2.1 else (tgS v).2.2) else -1000001
section Tog
variable {fu : Nat} {v : gV}
theorem zy_note_W (hf : 20 < fu) (hw : WT v) (hT : TW (vT v)) : ∀ (n i : Nat) (σ : gSt), RC 10 v σ → i ≤ vn v → vn v - i < n → (∀ j, j < i → σ 2 j = shI v j) → ∃ σ', f_X5_noteShownSets_W2 fu 1 n (nI i) σ = some σ' ∧ (∀ c, c ≠ 2 → σ' c = σ c) ∧ ∀ j, j < vn v → σ' 2 j = shI v j
  | 0, _, _, _, _, q, _ => absurd q (by omega)
  | n + 1, i, σ, h, hi, hn, hp => by
    have h20 := hw.1
    rw [f_X5_noteShownSets_W2_s]
    unfold f_X5_noteShownSets_L2
    rw [zy_size h, bd_some]
    rcases Nat.lt_or_ge i (vn v) with q | q
    · rw [if_neg (zl_le q (by omega)), if_neg (zo_le (n := 20) (by omega) (by omega)), zy_shownIn hf h hw hT q, bd_some, wrN i rfl (by omega) (by omega), bd_some, z_add1]
      have hsame : ∀ c, c ≠ 2 → gu σ (1 + 1) (upd (σ (1 + 1)) i (shI v i)) c = σ c := fun c hc => gu_n _ _ hc
      obtain ⟨σ', h1, h2, h3⟩ := zy_note_W hf hw hT n (i + 1) (gu σ (1 + 1) (upd (σ (1 + 1)) i (shI v i))) (RC_same h (fun c h1 h2 => hsame c (by omega))) q (by omega) (fun j hj => by
        show gu σ 2 (upd (σ 2) i (shI v i)) 2 j = _
        rw [gu_s]
        by_cases e : j = i
        · subst e
          exact pk_us
        · rw [pk_un e]
          exact hp j (by omega))
      exact ⟨σ', h1, fun c hc => (h2 c hc).trans (hsame c hc), h3⟩
    · rw [if_pos (zl_ge q (by omega))]
      exact ⟨σ, rfl, fun _ _ => rfl, fun j hj => hp j (by omega)⟩
theorem b_both {x : Int32} {l h : Nat} (hl : l < 31) (hh : h < 31) : (x &&& ((1 <<< (nI l &&& 31)) ||| (1 <<< (nI h &&& 31)))) = ((1 : Int32) <<< (nI l &&& 31)) ||| (1 <<< (nI h &&& 31)) ↔ bt x l = true ∧ bt x h = true := by
  constructor
  · intro e
    have h1 := congrArg (fun z => bt z l) e
    have h2 := congrArg (fun z => bt z h) e
    simp only [b_and, b_or] at h1 h2
    rw [b_one (s := l) (i := l) (by omega) (by omega), decide_eq_true rfl, Bool.true_or, Bool.and_true] at h1
    rw [b_one (s := h) (i := h) (by omega) (by omega), decide_eq_true rfl, Bool.or_true, Bool.and_true] at h2
    exact ⟨h1, h2⟩
  · rintro ⟨h1, h2⟩
    apply b_ext
    intro i hi
    rw [b_and, b_or, b_one (by omega) hi, b_one (by omega) hi]
    by_cases e1 : i = l
    · subst e1
      rw [h1, decide_eq_true rfl]
      rfl
    · by_cases e2 : i = h
      · subst e2
        rw [h2, Bool.true_and]
      · rw [decide_eq_false e1, decide_eq_false e2]
        exact Bool.and_false _
theorem zy_both (hf : 20 < fu) {σ : gSt} (h : RC 10 v σ) (hw : WT v) (hT : TW (vT v)) (hp : ∀ j, j < vn v → σ 2 j = shI v j) {l g : Nat} (hl : l < 16) (hg : g < 16) : f_X5_turnsWithBoth fu σ 1 (nI l) (nI g) = some (nI (bth v l g)) := by
  have h20 := hw.1
  have e1 := itr_sum (g := fun i x => x + nI (on1 (decide (0 < shc v i l) && decide (0 < shc v i g)))) (vn v) 0 (fun i x _ => rfl)
  rw [Nat.zero_add] at e1
  unfold bth f_X5_turnsWithBoth
  rw [← e1, lt_eq]
  refine lpU0 (fun n i x => f_X5_turnsWithBoth_W14 fu σ 1 (nI l) (nI g) _ n x (nI i)) (vn v) _ some (fun n i x hi => ?_) (fun n x => ?_) fu 0 (by omega)
  · rw [f_X5_turnsWithBoth_W14_s]
    unfold f_X5_turnsWithBoth_L14
    rw [zy_size h, bd_some, if_neg (zl_le hi (by omega)), if_neg (zo_le (n := 20) (by omega) (by omega)), rdN i rfl (by omega) (by omega), bd_some, hp i hi, z_add1]
    by_cases q : 0 < shc v i l ∧ 0 < shc v i g
    · rw [if_pos ((b_both (by omega) (by omega)).mpr ⟨(shI_bt hw hT hi hl).mpr q.1, (shI_bt hw hT hi hg).mpr q.2⟩), show on1 (decide (0 < shc v i l) && decide (0 < shc v i g)) = 1 from if_pos (by simp [q.1, q.2])]
      rfl
    · rw [if_neg (fun z => q ⟨(shI_bt hw hT hi hl).mp ((b_both (by omega) (by omega)).mp z).1, (shI_bt hw hT hi hg).mp ((b_both (by omega) (by omega)).mp z).2⟩), show on1 (decide (0 < shc v i l) && decide (0 < shc v i g)) = 0 from if_neg (fun z => q (by simpa using z))]
      show _ = f_X5_turnsWithBoth_W14 fu σ 1 (nI l) (nI g) _ n (x + 0) (nI (i + 1))
      rw [Int32.add_zero]
  · rw [f_X5_turnsWithBoth_W14_s]
    unfold f_X5_turnsWithBoth_L14
    rw [zy_size h, bd_some, if_pos (zl_ge (Nat.le_refl _) (by omega))]
theorem z_ix3 (x : Int32) : (∃ t, t < 3 ∧ x = nI t ∧ (0 ≤ x ∧ x ≤ 2)) ∨ ¬ (0 ≤ x ∧ x ≤ 2) := by
  rcases z_ix x (n := 3) (by omega) with ⟨t, h1, rfl⟩ | h
  · exact Or.inl ⟨t, h1, rfl, nI_pos' (by omega), (zl_ge (i := 2) (n := t) (by omega) (by omega) : nI t ≤ nI 2)⟩
  · refine Or.inr (fun q => ?_)
    obtain ⟨q1, q2⟩ := q
    rw [z_lei] at q1 q2
    rcases h with h | h
    · rw [z_lti] at h
      omega
    · rw [z_lei, nI_toInt (by omega)] at h
      have : (2 : Int32).toInt = 2 := by decide
      omega
theorem zy_ofPairs (hf : 20 < fu) {σ : gSt} (h : RC 10 v σ) (hw : WT v) (hT : TW (vT v)) (w : Int32) : ∃ σ', f_X5_ofPairs fu σ 1 w = some (spTog v w, σ') ∧ ∀ c, c ≠ 2 → σ' c = σ c := by
  have h20 := hw.1
  unfold f_X5_ofPairs spTog
  rw [z_within, bd_some]
  by_cases hq : 0 ≤ w ∧ w ≤ 2
  · obtain ⟨τ, e1, e2, e3⟩ := zy_note_W (fu := fu) hf hw hT fu 0 σ h (Nat.zero_le _) (by omega) (fun j hj => absurd hj (Nat.not_lt_zero j))
    have hR : RC 10 v τ := RC_same h (fun c h1 h2 => e2 c (by omega))
    rw [if_neg (fun q => bi_0.mp q hq), if_pos hq]
    unfold f_X5_noteShownSets
    rw [show f_X5_noteShownSets_W2 fu 1 fu 0 σ = some τ from e1, bd_some]
    refine ⟨τ, ?_, e2⟩
    have key := lpU0 (fun n i (t : Int32 × Int32 × Int32) => f_X5_ofPairs_W26 fu 1 w τ n t.1 t.2.1 t.2.2 (nI i)) 16 (fun l t => itr (fun h t => tgStep v l h t) (l + 1) (16 - (l + 1)) t) (fun t => some ((if t.2.2 = 0 then -1000004 else if w = 0 then t.1 else if w = 1 then t.2.1 else t.2.2), τ)) (fun n i t hi => ?_) (fun n t => ?_) fu (0, 0, 0) (by omega)
    · unfold tgS
      exact key
    · show f_X5_ofPairs_W26 fu 1 w τ (n + 1) t.1 t.2.1 t.2.2 (nI i) = _
      rw [f_X5_ofPairs_W26_s]
      unfold f_X5_ofPairs_L26
      rw [if_neg (zo_le (n := 16) hi (by omega)), z_add1]
      refine lpU (fun m j (t : Int32 × Int32 × Int32) => f_X5_ofPairs_W39 fu 1 w (f_X5_ofPairs_W26 fu 1 w τ n) τ (nI i) m t.1 t.2.1 t.2.2 (nI j)) 16 (fun h t => tgStep v i h t) (fun t => f_X5_ofPairs_W26 fu 1 w τ n t.1 t.2.1 t.2.2 (nI (i + 1))) (fun _ _ => True) (fun m j t hj _ => ?_) (fun m t _ => ?_) fu (i + 1) t (by omega) (by omega) trivial
      · refine ⟨?_, trivial⟩
        show f_X5_ofPairs_W39 fu 1 w (f_X5_ofPairs_W26 fu 1 w τ n) τ (nI i) (m + 1) t.1 t.2.1 t.2.2 (nI j) = _
        rw [f_X5_ofPairs_W39_s]
        unfold f_X5_ofPairs_L39 tgStep
        rw [if_neg (zo_le (n := 16) hj (by omega)), zy_both hf hR hw hT e3 hi hj, bd_some, z_add1]
        by_cases q : nI (bth v i j) ≤ t.2.2
        · rw [if_pos q, if_pos q]
        · rw [if_neg q, if_neg q]
      · show f_X5_ofPairs_W39 fu 1 w (f_X5_ofPairs_W26 fu 1 w τ n) τ (nI i) (m + 1) t.1 t.2.1 t.2.2 (nI 16) = _
        rw [f_X5_ofPairs_W39_s]
        unfold f_X5_ofPairs_L39
        rw [if_pos (zo_ge (n := 16) (i := 16) (by omega) (by omega)), z_add1]
    · show f_X5_ofPairs_W26 fu 1 w τ (n + 1) t.1 t.2.1 t.2.2 (nI 16) = _
      rw [f_X5_ofPairs_W26_s]
      unfold f_X5_ofPairs_L26
      rw [if_pos (zo_ge (n := 16) (i := 16) (by omega) (by omega))]
      by_cases c1 : t.2.2 = 0
      · rw [if_pos c1, if_pos c1]
      · rw [if_neg c1, if_neg c1]
        by_cases c2 : w = 0
        · rw [if_pos c2, if_pos c2]
        · rw [if_neg c2, if_neg c2]
          by_cases c3 : w = 1
          · rw [if_pos c3, if_pos c3]
          · rw [if_neg c3, if_neg c3]
  · rw [if_pos (bi_0.mpr hq), if_neg hq]
    exact ⟨σ, rfl, fun _ _ => rfl⟩
end Tog
