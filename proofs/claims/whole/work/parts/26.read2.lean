/-! ===== LectureTurns: counts over pairs ===== -/
/-- how often a speaker interrupts another one -/
def ipC (v : gV) (a b : Int32) (i j : Nat) : Bool := decide (vO v i = a ∧ vO v j = b) && itp v i j
def ipt (v : gV) (a b : Int32) : Nat := ct2 (vn v) (fun _ => vn v) (ipC v a b)
/-- how often a term is told -/
def tt (v : gV) (t : Nat) : Nat := ct2 (vn v) (vC v) (fun i j => vQ v i j == t)
/-- in how many places of a turn a term is shown -/
def shc (v : gV) (i t : Nat) : Nat := sumN (vC v i) (fun j => on1 (sh (vT v) (vQ v i j) == t))
/-- the terms that a turn shows -/
def shI (v : gV) (i : Nat) : Int32 := itr (fun j x => x ||| (1 <<< (nI (sh (vT v) (vQ v i j)) &&& 31))) 0 (vC v i) 0
theorem sh_lt {v : gV} (hT : TW (vT v)) {t : Nat} (ht : t < 16) : sh (vT v) t < 16 := shn_lt hT 16 t ht
theorem shI_bt {v : gV} (hw : WT v) (hT : TW (vT v)) {i t : Nat} (hi : i < vn v) (ht : t < 16) : bt (shI v i) t = true ↔ 0 < shc v i t := by
  unfold shI shc
  rw [itr_or_bt (by omega), b_0, sumN_pos]
  constructor
  · rintro (h | ⟨j, -, h2, h3⟩)
    · cases h
    · have hq := (hw.2.2 i hi).2 j (by omega)
      have := sh_lt hT hq
      rw [b_one (by omega) (by omega), decide_eq_true_eq] at h3
      exact ⟨j, by omega, by rw [← h3]; simp [on1]⟩
  · rintro ⟨j, h1, h2⟩
    have hq := (hw.2.2 i hi).2 j h1
    have := sh_lt hT hq
    by_cases e : (sh (vT v) (vQ v i j) == t) = true
    · refine Or.inr ⟨j, Nat.zero_le _, by omega, ?_⟩
      rw [b_one (by omega) (by omega), decide_eq_true_eq]
      exact (beq_iff_eq.mp e).symm
    · rw [show on1 (sh (vT v) (vQ v i j) == t) = 0 from if_neg e] at h2
      exact absurd h2 (Nat.lt_irrefl 0)
section Nest
variable {fu k : Nat} {σ : gSt} {v : gV}
theorem zt_interruptions (hf : 20 < fu) (h : RCt k v σ) (hw : WT v) (a b : Int32) : f_X8_interruptions fu σ k a b = some (nI (ipt v a b)) := by
  have hn := hw.1
  unfold ipt
  rw [← itr_ct2]
  refine lpU0 (fun n i t => f_X8_interruptions_W5 fu σ k a b n t (nI i)) (vn v) _ some (fun n i t hi => ?_) (fun n t => ?_) fu 0 (by omega)
  · rw [f_X8_interruptions_W5_s]
    unfold f_X8_interruptions_L5
    rw [h.1, if_neg (zl_le hi (by omega))]
    refine lpU0 (fun m j t => f_X8_interruptions_W17 fu σ k a b (f_X8_interruptions_W5 fu σ k a b n) (nI i) m t (nI j)) (vn v) _ (fun t => f_X8_interruptions_W5 fu σ k a b n t (nI (i + 1))) (fun m j t hj => ?_) (fun m t => ?_) fu t (by omega)
    · rw [f_X8_interruptions_W17_s]
      unfold f_X8_interruptions_L17
      rw [h.1, if_neg (zl_le hj (by omega)), zt_owner h hw hi, zt_owner h hw hj, zt_interrupt h hw hi hj]
      simp only [bd_some, z_add1]
      unfold ipC
      by_cases e1 : vO v i = a
      · rw [if_pos e1]
        by_cases e2 : vO v j = b
        · rw [if_pos e2]
          by_cases e3 : itp v i j = true
          · rw [if_neg (fun q => bi_0.mp q e3), if_pos (by simp [e1, e2, e3])]
          · rw [if_pos (bi_0.mpr e3), if_neg (by simp [e3])]
        · rw [if_neg e2, if_neg (by simp [e2])]
      · rw [if_neg e1, if_neg (by simp [e1])]
    · rw [f_X8_interruptions_W17_s]
      unfold f_X8_interruptions_L17
      rw [h.1, if_pos (zl_ge (Nat.le_refl _) (by omega)), z_add1]
  · rw [f_X8_interruptions_W5_s]
    unfold f_X8_interruptions_L5
    rw [h.1, if_pos (zl_ge (Nat.le_refl _) (by omega))]
theorem zt_timesTold (hf : 20 < fu) (h : RCt k v σ) (hw : WT v) {t : Nat} (ht : t < 16) : f_X8_timesTold fu σ k (nI t) = some (nI (tt v t)) := by
  have hn := hw.1
  unfold tt
  rw [← itr_ct2]
  refine lpU0 (fun n i x => f_X8_timesTold_W4 fu σ k (nI t) n x (nI i)) (vn v) _ some (fun n i x hi => ?_) (fun n x => ?_) fu 0 (by omega)
  · have hc := (hw.2.2 i hi).1
    rw [f_X8_timesTold_W4_s]
    unfold f_X8_timesTold_L4
    rw [h.1, if_neg (zl_le hi (by omega)), if_neg (zo_le (n := 20) (by omega) (by omega))]
    refine lpU0 (fun m j x => f_X8_timesTold_W21 fu σ k (nI t) (f_X8_timesTold_W4 fu σ k (nI t) n) (nI i) m x (nI j)) (vC v i) _ (fun x => f_X8_timesTold_W4 fu σ k (nI t) n x (nI (i + 1))) (fun m j x hj => ?_) (fun m x => ?_) fu x (by omega)
    · have hq := (hw.2.2 i hi).2 j hj
      rw [f_X8_timesTold_W21_s]
      unfold f_X8_timesTold_L21
      rw [zt_rdc h hw hi, bd_some, if_neg (zl_le hj (by omega)), if_neg (zo_le (n := 8) (by omega) (by omega)), zt_rdq h hw hi hj]
      simp only [bd_some, z_add1]
      by_cases e : vQ v i j = t
      · rw [if_pos (by rw [e]), if_pos (by simp [e])]
      · rw [if_neg (fun q => e ((z_eq (by omega) (by omega)).mp q)), if_neg (by simp [e])]
    · rw [f_X8_timesTold_W21_s]
      unfold f_X8_timesTold_L21
      rw [zt_rdc h hw hi, bd_some, if_pos (zl_ge (Nat.le_refl _) (by omega)), z_add1]
  · rw [f_X8_timesTold_W4_s]
    unfold f_X8_timesTold_L4
    rw [h.1, if_pos (zl_ge (Nat.le_refl _) (by omega))]
theorem zt_pairs (hf : 20 < fu) (h : RCt k v σ) (hw : WT v) : f_X8_overlappingPairs fu σ k = some (nI (ct2 (vn v) (fun i => i) (ov v))) := by
  have hn := hw.1
  rw [← itr_ct2]
  refine lpU0 (fun n i t => f_X8_overlappingPairs_W4 fu σ k n t (nI i)) (vn v) _ some (fun n i t hi => ?_) (fun n t => ?_) fu 0 (by omega)
  · rw [f_X8_overlappingPairs_W4_s]
    unfold f_X8_overlappingPairs_L4
    rw [h.1, if_neg (zl_le hi (by omega))]
    refine lpU0 (fun m j t => f_X8_overlappingPairs_W14 fu σ k (f_X8_overlappingPairs_W4 fu σ k n) (nI i) m t (nI j)) i _ (fun t => f_X8_overlappingPairs_W4 fu σ k n t (nI (i + 1))) (fun m j t hj => ?_) (fun m t => ?_) fu t (by omega)
    · rw [f_X8_overlappingPairs_W14_s]
      unfold f_X8_overlappingPairs_L14
      rw [if_neg (zl_le hj (by omega)), zt_overlap h hw hi (by omega)]
      simp only [bd_some, z_add1]
      by_cases e : ov v i j = true
      · rw [if_neg (fun q => bi_0.mp q e), if_pos e]
      · rw [if_pos (bi_0.mpr e), if_neg e]
    · rw [f_X8_overlappingPairs_W14_s]
      unfold f_X8_overlappingPairs_L14
      rw [if_pos (zl_ge (Nat.le_refl _) (by omega)), z_add1]
  · rw [f_X8_overlappingPairs_W4_s]
    unfold f_X8_overlappingPairs_L4
    rw [h.1, if_pos (zl_ge (Nat.le_refl _) (by omega))]
/-- how many places are shown anew -/
def rsN (v : gV) (t u : Nat) : Nat := if sh (vT v) t = u then 0 else sumN 16 (fun x => if ldn (vT v) t 16 x = true then tt v x else 0)
theorem zc_reshown (hf : 20 < fu) (h : RC k v σ) (hw : WT v) (hT : TW (vT v)) {t u : Nat} (ht : t < 16) (hu : u < 16) : f_X7_placesReshown fu σ k (nI t) (nI u) = some (nI (rsN v t u)) := by
  have := sh_lt hT ht
  unfold f_X7_placesReshown rsN
  rw [zc_shown (by omega) h.2.1 hT ht, bd_some]
  by_cases e : sh (vT v) t = u
  · rw [if_pos (by rw [e]), if_pos e]
    rfl
  · rw [if_neg (fun q => e ((z_eq (by omega) (by omega)).mp q)), if_neg e]
    have e1 := itr_sum (g := fun i x => x + nI (if ldn (vT v) t 16 i = true then tt v i else 0)) 16 0 (fun i x _ => rfl)
    rw [Nat.zero_add] at e1
    rw [← e1]
    refine lpU0 (fun n i x => f_X7_placesReshown_W19 fu σ k (nI t) (nI u) n x (nI i)) 16 _ some (fun n i x hi => ?_) (fun n x => ?_) fu 0 (by omega)
    · rw [f_X7_placesReshown_W19_s]
      unfold f_X7_placesReshown_L19
      rw [if_neg (zo_le (n := 16) hi (by omega)), zc_leads (by omega) h.2.1 hT hi ht, bd_some, zt_timesTold hf h.1 hw hi, bd_some, z_add1]
      by_cases e2 : ldn (vT v) t 16 i = true
      · rw [if_neg (fun q => bi_0.mp q e2), if_pos e2]
      · rw [if_pos (bi_0.mpr e2), if_neg e2]
        show _ = f_X7_placesReshown_W19 fu σ k (nI t) (nI u) n (x + 0) (nI (i + 1))
        rw [Int32.add_zero]
    · rw [f_X7_placesReshown_W19_s]
      unfold f_X7_placesReshown_L19
      rw [if_pos (zo_ge (n := 16) (i := 16) (by omega) (by omega))]
end Nest
/-! Survey over the cell 1, the transcript at 10 -/
section Surv
variable {fu : Nat} {σ : gSt} {v : gV}
theorem zy_shownIn (hf : 20 < fu) (h : RC 10 v σ) (hw : WT v) (hT : TW (vT v)) {i : Nat} (hi : i < vn v) : f_X5_shownIn fu σ 1 (nI i) = some (shI v i) := by
  have hc := (hw.2.2 i hi).1
  refine lpU0 (fun n j x => f_X5_shownIn_W4 fu σ 1 (nI i) n x (nI j)) (vC v i) _ some (fun n j x hj => ?_) (fun n x => ?_) fu 0 (by omega)
  · have hq := (hw.2.2 i hi).2 j hj
    rw [f_X5_shownIn_W4_s]
    unfold f_X5_shownIn_L4
    rw [zt_count (k := 11) h.1 hw hi, bd_some, if_neg (zl_le hj (by omega)), zt_told (k := 11) h.1 hw hi hj, bd_some, zc_shown (k := 18) (by omega) h.2.1 hT hq, bd_some, lt_eq, z_add1]
  · rw [f_X5_shownIn_W4_s]
    unfold f_X5_shownIn_L4
    rw [zt_count (k := 11) h.1 hw hi, bd_some, if_pos (zl_ge (Nat.le_refl _) (by omega))]
theorem zy_isShownIn (hf : 20 < fu) (h : RC 10 v σ) (hw : WT v) (hT : TW (vT v)) {i t : Nat} (hi : i < vn v) (ht : t < 16) : f_X5_isShownIn fu σ 1 (nI i) (nI t) = some (bi (0 < shc v i t)) := by
  unfold f_X5_isShownIn
  rw [zy_shownIn hf h hw hT hi, bd_some]
  by_cases e : 0 < shc v i t
  · rw [if_pos ((b_test1 (by omega)).mpr ((shI_bt hw hT hi ht).mpr e)), bi_t e]
  · rw [if_neg (fun q => e ((shI_bt hw hT hi ht).mp ((b_test1 (by omega)).mp q))), bi_f e]
theorem zy_size (h : RC 10 v σ) : f_X8_size fu σ 11 = some (nI (vn v)) := by
  unfold f_X8_size
  rw [h.1.1]
theorem zy_turnsShowing (hf : 20 < fu) (h : RC 10 v σ) (hw : WT v) (hT : TW (vT v)) {t : Nat} (ht : t < 16) : f_X5_turnsShowing fu σ 1 (nI t) = some (orS (vn v) (fun i => decide (0 < shc v i t))) := by
  have hn := hw.1
  refine lpU0 (fun n i x => f_X5_turnsShowing_W4 fu σ 1 (nI t) n x (nI i)) (vn v) _ some (fun n i x hi => ?_) (fun n x => ?_) fu 0 (by omega)
  · rw [f_X5_turnsShowing_W4_s]
    unfold f_X5_turnsShowing_L4
    rw [zy_size h, bd_some, if_neg (zl_le hi (by omega)), zy_isShownIn hf h hw hT hi ht, bd_some, z_add1]
    by_cases e : 0 < shc v i t
    · rw [if_neg (fun q => bi_0.mp q e), if_pos (by simp [e]), lt_eq]
    · rw [if_pos (bi_0.mpr e), if_neg (by simp [e])]
  · rw [f_X5_turnsShowing_W4_s]
    unfold f_X5_turnsShowing_L4
    rw [zy_size h, bd_some, if_pos (zl_ge (Nat.le_refl _) (by omega))]
theorem zy_speakersShowing (hf : 20 < fu) (h : RC 10 v σ) (hw : WT v) (hT : TW (vT v)) {t : Nat} (ht : t < 16) : f_X5_speakersShowing fu σ 1 (nI t) = some (orO v (fun i => decide (0 < shc v i t))) := by
  have hn := hw.1
  refine lpU0 (fun n i x => f_X5_speakersShowing_W4 fu σ 1 (nI t) n x (nI i)) (vn v) _ some (fun n i x hi => ?_) (fun n x => ?_) fu 0 (by omega)
  · rw [f_X5_speakersShowing_W4_s]
    unfold f_X5_speakersShowing_L4
    rw [zy_size h, bd_some, if_neg (zl_le hi (by omega)), zt_owner (k := 11) h.1 hw hi, bd_some, zy_isShownIn hf h hw hT hi ht, bd_some, bd_some, z_add1]
    by_cases e0 : vO v i = -1
    · rw [if_pos e0, if_neg (fun q => q.2 e0)]
    · rw [if_neg e0]
      by_cases e : 0 < shc v i t
      · rw [if_neg (fun q => bi_0.mp q e), if_pos ⟨by simp [e], e0⟩, lt_eq]
      · rw [if_pos (bi_0.mpr e), if_neg (fun q => e (by simpa using q.1))]
  · rw [f_X5_speakersShowing_W4_s]
    unfold f_X5_speakersShowing_L4
    rw [zy_size h, bd_some, if_pos (zl_ge (Nat.le_refl _) (by omega))]
/-- the terms that the turns of a speaker show -/
def spShownBy (v : gV) (s : Int32) : Int32 := itr (fun i x => if vO v i = s then x ||| shI v i else x) 0 (vn v) 0
theorem zy_termsShownBy (hf : 20 < fu) (h : RC 10 v σ) (hw : WT v) (hT : TW (vT v)) (s : Int32) : f_X5_termsShownBy fu σ 1 s = some (spShownBy v s) := by
  have hn := hw.1
  refine lpU0 (fun n i x => f_X5_termsShownBy_W4 fu σ 1 s n x (nI i)) (vn v) _ some (fun n i x hi => ?_) (fun n x => ?_) fu 0 (by omega)
  · rw [f_X5_termsShownBy_W4_s]
    unfold f_X5_termsShownBy_L4
    rw [zy_size h, bd_some, if_neg (zl_le hi (by omega)), zt_owner (k := 11) h.1 hw hi, bd_some, zy_shownIn hf h hw hT hi, bd_some, z_add1]
    by_cases e : vO v i = s
    · rw [if_pos e, if_pos e]
    · rw [if_neg e, if_neg e]
  · rw [f_X5_termsShownBy_W4_s]
    unfold f_X5_termsShownBy_L4
    rw [zy_size h, bd_some, if_pos (zl_ge (Nat.le_refl _) (by omega))]
theorem zy_placesShowing (hf : 20 < fu) (h : RC 10 v σ) (hw : WT v) (hT : TW (vT v)) {t : Nat} (ht : t < 16) : f_X5_placesShowing fu σ 1 (nI t) = some (nI (sumN 16 (fun x => if sh (vT v) x = t then tt v x else 0))) := by
  have e1 := itr_sum (g := fun i x => x + nI (if sh (vT v) i = t then tt v i else 0)) 16 0 (fun i x _ => rfl)
  rw [Nat.zero_add] at e1
  rw [← e1]
  refine lpU0 (fun n i x => f_X5_placesShowing_W4 fu σ 1 (nI t) n x (nI i)) 16 _ some (fun n i x hi => ?_) (fun n x => ?_) fu 0 (by omega)
  · have := sh_lt hT hi
    rw [f_X5_placesShowing_W4_s]
    unfold f_X5_placesShowing_L4
    rw [if_neg (zo_le (n := 16) hi (by omega)), zc_shown (k := 18) (by omega) h.2.1 hT hi, bd_some, zt_timesTold (k := 11) hf h.1 hw hi, bd_some, z_add1]
    by_cases e : sh (vT v) i = t
    · rw [if_pos (by rw [e]), if_pos e]
    · rw [if_neg (fun q => e ((z_eq (by omega) (by omega)).mp q)), if_neg e]
      show _ = f_X5_placesShowing_W4 fu σ 1 (nI t) n (x + 0) (nI (i + 1))
      rw [Int32.add_zero]
  · rw [f_X5_placesShowing_W4_s]
    unfold f_X5_placesShowing_L4
    rw [if_pos (zo_ge (n := 16) (i := 16) (by omega) (by omega))]
theorem zy_interruptionsBy (hf : 20 < fu) (h : RC 10 v σ) (hw : WT v) (s : Int32) : f_X5_interruptionsBy fu σ 1 s = some (nI (sumN 6 (fun o => ipt v s (nI o)))) := by
  have e1 := itr_sum (g := fun i x => x + nI (ipt v s (nI i))) 6 0 (fun i x _ => rfl)
  rw [Nat.zero_add] at e1
  rw [← e1]
  refine lpU0 (fun n i x => f_X5_interruptionsBy_W4 fu σ 1 s n x (nI i)) 6 _ some (fun n i x hi => ?_) (fun n x => ?_) fu 0 (by omega)
  · rw [f_X5_interruptionsBy_W4_s]
    unfold f_X5_interruptionsBy_L4
    rw [if_neg (zo_le (n := 6) hi (by omega)), zt_interruptions (k := 11) hf h.1 hw, bd_some, z_add1]
  · rw [f_X5_interruptionsBy_W4_s]
    unfold f_X5_interruptionsBy_L4
    rw [if_pos (zo_ge (n := 6) (i := 6) (by omega) (by omega))]
theorem zy_interruptionsOf (hf : 20 < fu) (h : RC 10 v σ) (hw : WT v) (s : Int32) : f_X5_interruptionsOf fu σ 1 s = some (nI (sumN 6 (fun o => ipt v (nI o) s))) := by
  have e1 := itr_sum (g := fun i x => x + nI (ipt v (nI i) s)) 6 0 (fun i x _ => rfl)
  rw [Nat.zero_add] at e1
  rw [← e1]
  refine lpU0 (fun n i x => f_X5_interruptionsOf_W4 fu σ 1 s n x (nI i)) 6 _ some (fun n i x hi => ?_) (fun n x => ?_) fu 0 (by omega)
  · rw [f_X5_interruptionsOf_W4_s]
    unfold f_X5_interruptionsOf_L4
    rw [if_neg (zo_le (n := 6) hi (by omega)), zt_interruptions (k := 11) hf h.1 hw, bd_some, z_add1]
  · rw [f_X5_interruptionsOf_W4_s]
    unfold f_X5_interruptionsOf_L4
    rw [if_pos (zo_ge (n := 6) (i := 6) (by omega) (by omega))]
end Surv
