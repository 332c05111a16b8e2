/-! ===== seconds, one by one; silence; doubt ===== -/
theorem sumN_shift (f : Nat → Nat) : ∀ (c a : Nat), sumN (a + c) f = sumN a f + sumN c (fun i => f (a + i))
  | 0, a => rfl
  | c + 1, a => by
    show sumN (a + c) f + f (a + c) = sumN a f + (sumN c (fun i => f (a + i)) + f (a + c))
    rw [sumN_shift f c a, Nat.add_assoc]
theorem itr_sumFrom {g : Nat → Int32 → Int32} {f : Nat → Nat} : ∀ (n s a : Nat), (∀ i x, s ≤ i → i < s + n → g i x = x + nI (f i)) → itr g s n (nI a) = nI (a + sumN n (fun i => f (s + i)))
  | 0, _, _, _ => rfl
  | n + 1, s, a, h => by
    rw [itr_snoc, itr_sumFrom n s a (fun i x h1 h2 => h i x h1 (by omega)), h (s + n) _ (by omega) (by omega), nI_add]
    show nI (a + _ + f (s + n)) = nI (a + (_ + f (s + n)))
    rw [Nat.add_assoc]
section Sweep2
variable {fu k : Nat} {σ : gSt} {v : gV}
theorem cv_on (hw : WT v) {t : Nat} (ht : t < 4096) : sumN (vn v) (fun i => on1 (onT v (nI t) i)) = cvN v (vn v) t :=
  sumN_congr _ (fun i hi => by rw [onT_N hw hi ht])
theorem cvN_le : ∀ (i t : Nat), cvN v i t ≤ i
  | 0, _ => Nat.le_refl _
  | i + 1, t => by
    have h := cvN_le i t
    rw [cvN_step]
    by_cases q : onN v t i = true
    · rw [on1_t q]
      omega
    · rw [on1_f q]
      omega
theorem zm_seconds (hf : 2000 < fu) (h : RM (k + 1) 0 v σ) (hw : WT v) {m : Nat} (hm : m < 100) : f_X10_seconds fu σ k (nI m) = some (nI (scN v m (vn v))) := by
  have h20 := hw.1
  have e1 := itr_sum (g := fun i x => x + nI (on1 (decide (m ≤ cvN v (vn v) i)))) 2000 0 (fun i x _ => rfl)
  rw [Nat.zero_add] at e1
  unfold scN
  rw [← e1]
  refine lpU0 (fun n i x => f_X10_seconds_W4 fu σ k (nI m) n x (nI i)) 2000 _ some (fun n i x hi => ?_) (fun n x => ?_) fu 0 (by omega)
  · have hc := cvN_le (v := v) (vn v) i
    rw [f_X10_seconds_W4_s]
    unfold f_X10_seconds_L4
    rw [if_neg (show ¬ (1999 : Int32) < nI i from zl_nlt (i := 1999) (n := i) (by omega) (by omega)), zm_going (by omega) h hw, bd_some, zm_ones (by omega) σ (by omega), bd_some, cv_on hw (by omega), lt_eq, z_add1]
    by_cases q : m ≤ cvN v (vn v) i
    · rw [if_neg (zl_nlt q (by omega)), on1_t (decide_eq_true q)]
      rfl
    · rw [if_pos (zl_lt (by omega) (by omega)), on1_f (by simpa using q)]
      rfl
  · rw [f_X10_seconds_W4_s]
    unfold f_X10_seconds_L4
    rw [if_pos (show (1999 : Int32) < nI 2000 from zl_lt (i := 1999) (n := 2000) (by omega) (by omega))]
theorem z_shl_ne (p : Nat) (hp : p < 31) : ∀ c : Nat → Bool, ∀ n, p < n → n ≤ 31 → (orS n c = (1 : Int32) <<< (nI p &&& 31) ↔ ∀ j, j < n → (c j = true ↔ j = p)) := by
  intro c n hpn hn
  constructor
  · intro e j hj
    have h1 := congrArg (fun x => bt x j) e
    simp only [b_one (s := p) (i := j) (by omega) (by omega)] at h1
    have h2 := orS_bt hn c (i := j) (by omega)
    rw [h1, decide_eq_true_eq] at h2
    exact ⟨fun q => h2.mpr ⟨hj, q⟩, fun q => (h2.mp q).2⟩
  · intro e
    apply b_ext
    intro i hi
    rw [b_one (by omega) hi]
    have h2 := orS_bt hn c hi
    by_cases q : i = p
    · subst q
      rw [decide_eq_true rfl]
      exact h2.mpr ⟨hpn, (e i hpn).mpr rfl⟩
    · rw [decide_eq_false q]
      cases hb : bt (orS n c) i with
      | false => rfl
      | true =>
        have h3 := h2.mp hb
        exact absurd ((e i h3.1).mp h3.2) q
theorem zm_alone (hf : 2000 < fu) (h : RM (k + 1) 0 v σ) (hw : WT v) {p : Nat} (hp : p < vn v) : f_X10_alone fu σ k (nI p) = some (nI (alN v p)) := by
  have h20 := hw.1
  obtain ⟨a1, a2, a3, a4⟩ := wt_nat hw hp
  have e1 := itr_sumFrom (g := fun i x => x + nI (on1 (alT v p i))) (ne v p - nb v p) (nb v p) 0 (fun i x _ _ => rfl)
  rw [Nat.zero_add] at e1
  have e2 : alN v p = sumN (ne v p - nb v p) (fun i => on1 (alT v p (nb v p + i))) := by
    unfold alN
    rw [show (2000 : Nat) = nb v p + ((ne v p - nb v p) + (2000 - ne v p)) by omega, sumN_shift _ _ (nb v p), sumN_shift _ (2000 - ne v p) (ne v p - nb v p)]
    have z1 : sumN (nb v p) (fun t => on1 (alT v p t)) = 0 := by
      rw [sumN_congr (g := fun _ => 0) _ (fun t ht => on1_f (fun z => by have := (of_decide_eq_true z).1.1; omega)), sumN_0]
    have z2 : sumN (2000 - ne v p) (fun i => on1 (alT v p (nb v p + (ne v p - nb v p + i)))) = 0 := by
      rw [sumN_congr (g := fun _ => 0) _ (fun t ht => on1_f (fun z => by have := (of_decide_eq_true z).1.2; omega)), sumN_0]
    rw [z1, z2, Nat.zero_add, Nat.add_zero]
  rw [e2, ← e1]
  unfold f_X10_alone
  rw [zm_B h hw hp, a1, bd_some]
  refine lpU (fun n i x => f_X10_alone_W9 fu σ k (nI p) n x (nI i)) (ne v p) _ some (fun i _ => nb v p ≤ i) (fun n i x hi hb => ?_) (fun n x _ => ?_) fu (nb v p) 0 (by omega) (by omega) (Nat.le_refl _)
  · refine ⟨?_, by omega⟩
    rw [f_X10_alone_W9_s]
    unfold f_X10_alone_L9
    rw [zm_E h hw hp, a2, bd_some, if_neg (zl_le hi (by omega)), zm_going (by omega) h hw, bd_some, lt_eq, z_add1]
    have hiff := z_shl_ne p (by omega) (onT v (nI i)) (vn v) hp (by omega)
    by_cases q : alT v p i = true
    · have q2 := of_decide_eq_true q
      rw [if_pos (hiff.mpr (fun j hj => by
        rw [onT_N hw hj (by omega)]
        constructor
        · intro z
          by_cases e : j = p
          · exact e
          · exact absurd (of_decide_eq_true z) (q2.2 j hj e)
        · intro e
          subst e
          exact onN_t q2.1.1 q2.1.2)), on1_t q]
      rfl
    · rw [if_neg (fun z => q (decide_eq_true ⟨⟨hb, hi⟩, fun j hj hjp z2 => hjp ((hiff.mp z j hj).mp (by
        rw [onT_N hw hj (by omega)]
        exact onN_t z2.1 z2.2))⟩)), on1_f q]
      rfl
  · rw [f_X10_alone_W9_s]
    unfold f_X10_alone_L9
    rw [zm_E h hw hp, a2, bd_some, if_pos (zl_ge (Nat.le_refl _) (by omega))]
/-! silence: what the sweep by turns finds: (covered, first, longest) -/
def siStep (v : gV) (i : Nat) (t : Nat × Nat × Nat) : Nat × Nat × Nat := if t.2.2 < nb v i - t.1 then (max t.1 (ne v i), t.1, nb v i - t.1) else (max t.1 (ne v i), t.2.1, t.2.2)
def siN (v : gV) : Nat × Nat × Nat := itr (siStep v) 0 (vn v) (if vn v = 0 then 0 else nb v 0, 0, 0)
def siI (v : gV) (i : Nat) (t : Nat × Nat × Nat) : Prop := t.1 ≤ 1999 ∧ t.2.1 ≤ 1999 ∧ t.2.2 ≤ 1999
theorem siStep_I (hw : WT v) {i : Nat} {t : Nat × Nat × Nat} (hi : i < vn v) (h : siI v i t) : siI v (i + 1) (siStep v i t) := by
  obtain ⟨e1, e2, e3, e4⟩ := wt_nat hw hi
  obtain ⟨h1, h2, h3⟩ := h
  unfold siStep
  split
  · exact ⟨by show max t.1 (ne v i) ≤ 1999; omega, h1, by show nb v i - t.1 ≤ 1999; omega⟩
  · exact ⟨by show max t.1 (ne v i) ≤ 1999; omega, h2, h3⟩
theorem zt_silence (hf : 20 < fu) (h : RCt k v σ) (hw : WT v) (w : Int32) : f_X8_longestSilence fu σ k w = some (if w = 0 then nI (siN v).2.1 else nI (siN v).2.2) := by
  have h20 := hw.1
  have h0 : f_X8_beginOf fu σ k 0 = some (nI (if vn v = 0 then 0 else nb v 0)) := by
    by_cases q : vn v = 0
    · rw [if_pos q]
      unfold f_X8_beginOf
      rw [zt_has_out h (x := 0) (Or.inr (by rw [q]; exact Int32.le_refl 0)), bd_some, if_pos rfl]
      rfl
    · rw [if_neg q, ← (wt_nat hw (i := 0) (by omega)).1]
      exact zt_begin h hw (i := 0) (by omega)
  unfold f_X8_longestSilence
  rw [h0, bd_some]
  have hb0 : siI v 0 (if vn v = 0 then 0 else nb v 0, 0, 0) := by
    refine ⟨?_, Nat.zero_le _, Nat.zero_le _⟩
    show (if vn v = 0 then 0 else nb v 0) ≤ 1999
    by_cases q : vn v = 0
    · rw [if_pos q]
      omega
    · rw [if_neg q]
      have := (wt_nat hw (i := 0) (by omega)).2.2
      omega
  have key := lpU (fun n i (t : Nat × Nat × Nat) => f_X8_longestSilence_W14 fu σ k w n (nI t.1) (nI t.2.1) (nI t.2.2) (nI i)) (vn v) (siStep v) (fun t => some (if w = 0 then nI t.2.1 else nI t.2.2)) (siI v) (fun n i t hi hI => ?_) (fun n t hI => ?_) fu 0 (if vn v = 0 then 0 else nb v 0, 0, 0) (Nat.zero_le _) (by omega) hb0
  · unfold siN
    exact key
  · refine ⟨?_, siStep_I hw hi hI⟩
    obtain ⟨h1, h2, h3⟩ := hI
    obtain ⟨e1, e2, e3, e4⟩ := wt_nat hw hi
    show f_X8_longestSilence_W14 fu σ k w (n + 1) (nI t.1) (nI t.2.1) (nI t.2.2) (nI i) = _
    rw [f_X8_longestSilence_W14_s]
    unfold f_X8_longestSilence_L14 f_X8_longestSilence_J48
    rw [h.1, if_neg (zl_le hi (by omega)), zt_begin h hw hi, zt_end h hw hi, e1, e2]
    rw [bd_some, bd_some, z_max fu σ (by omega) (by omega), bd_some, z_add1]
    unfold siStep
    by_cases q : t.2.2 < nb v i - t.1
    · rw [if_pos q, pk_sub (by omega), if_neg (zl_le q (by omega)), bd_some, bd_some, z_max fu σ (by omega) (by omega), bd_some, pk_sub (by omega)]
    · rw [if_neg q, if_pos (by
        rcases Nat.lt_or_ge (nb v i) t.1 with z | z
        · have z1 := pk_sneg (a := nb v i) (b := t.1) (by omega) z
          rw [z_lti] at z1
          rw [z_lei, nI_toInt (by omega)]
          have : (0 : Int32).toInt = 0 := by decide
          omega
        · rw [pk_sub z]
          exact zl_ge (by omega) (by omega))]
  · show f_X8_longestSilence_W14 fu σ k w (n + 1) (nI t.1) (nI t.2.1) (nI t.2.2) (nI (vn v)) = _
    rw [f_X8_longestSilence_W14_s]
    unfold f_X8_longestSilence_L14
    rw [h.1, if_pos (zl_ge (Nat.le_refl _) (by omega))]
    by_cases q : w = 0
    · rw [if_pos q, if_pos q]
    · rw [if_neg q, if_neg q]
end Sweep2
