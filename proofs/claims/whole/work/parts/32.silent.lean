/-! ===== the reference's silence, second by second ===== -/
def lastN (v : gV) : Nat := itr (fun i x => max x (ne v i)) 0 (vn v) 0
theorem lastN_ge (v : gV) : ∀ n, ∀ j, j < n → ne v j ≤ itr (fun i x => max x (ne v i)) 0 n 0
  | 0, j, h => absurd h (Nat.not_lt_zero j)
  | n + 1, j, h => by
    rw [itr_snoc, Nat.zero_add]
    by_cases e : j = n
    · subst e
      exact Nat.le_max_right _ _
    · exact Nat.le_trans (lastN_ge v n j (by omega)) (Nat.le_max_left _ _)
theorem lastN_is (v : gV) : ∀ n, 0 < n → (∀ i, i < n → 0 < ne v i) → ∃ j, j < n ∧ itr (fun i x => max x (ne v i)) 0 n 0 = ne v j
  | 0, h, _ => absurd h (Nat.lt_irrefl 0)
  | n + 1, _, hp => by
    rw [itr_snoc, Nat.zero_add]
    rcases Nat.eq_zero_or_pos n with q | q
    · subst q
      exact ⟨0, by omega, by have := hp 0 (by omega); show max 0 (ne v 0) = _; omega⟩
    · obtain ⟨j, h1, h2⟩ := lastN_is v n q (fun i hi => hp i (by omega))
      rw [h2]
      rcases Nat.le_total (ne v j) (ne v n) with z | z
      · exact ⟨n, by omega, Nat.max_eq_right z⟩
      · exact ⟨j, by omega, Nat.max_eq_left z⟩
theorem z_bump (t j : Nat) : nI (t + j) - nI (j + 1) + 1 = nI t := by
  rw [← nI_add, ← nI_add]
  apply Int32.toBitVec_inj.mp
  show (nI t).toBitVec + (nI j).toBitVec - ((nI j).toBitVec + (1 : Int32).toBitVec) + (1 : Int32).toBitVec = (nI t).toBitVec
  generalize (nI t).toBitVec = a
  generalize (nI j).toBitVec = b
  generalize (1 : Int32).toBitVec = c
  have e : a + b - (b + c) + c = a + ((b + c) - (b + c)) := by
    simp only [BitVec.sub_eq_add_neg]
    ac_rfl
  rw [e, BitVec.sub_self, BitVec.add_zero]
section Silent
variable {fu k : Nat} {σ : gSt} {v : gV}
theorem go_0 (hw : WT v) {t : Nat} (ht : t < 4096) : orS (vn v) (onT v (nI t)) = 0 ↔ ∀ j, j < vn v → ¬ onN v t j = true := by
  have h20 := hw.1
  constructor
  · intro e j hj z
    have h1 := (orS_bt (n := vn v) (by omega) (onT v (nI t)) (i := j) (by omega)).mpr ⟨hj, by rw [onT_N hw hj ht]; exact z⟩
    rw [e, b_0] at h1
    cases h1
  · intro h
    apply b_ext
    intro i hi
    rw [b_0]
    cases hb : bt (orS (vn v) (onT v (nI t))) i with
    | false => rfl
    | true =>
      have h3 := (orS_bt (n := vn v) (by omega) (onT v (nI t)) hi).mp hb
      rw [onT_N hw h3.1 ht] at h3
      exact absurd h3.2 (h i h3.1)
theorem zm_last (hf : 20 < fu) (h : RM (k + 1) 0 v σ) (hw : WT v) : f_X10_lastEnd fu σ k = some (nI (lastN v)) := by
  have h20 := hw.1
  have key := lpU (fun n i (x : Nat) => f_X10_lastEnd_W4 fu σ k n (nI x) (nI i)) (vn v) (fun i x => max x (ne v i)) (fun x => some (nI x)) (fun _ x => x ≤ 1999) (fun n i x hi hx => ?_) (fun n x _ => ?_) fu 0 0 (Nat.zero_le _) (by omega) (Nat.zero_le _)
  · exact key
  · obtain ⟨e1, e2, e3, e4⟩ := wt_nat hw hi
    refine ⟨?_, by omega⟩
    rw [f_X10_lastEnd_W4_s]
    unfold f_X10_lastEnd_L4
    rw [rmN h, if_neg (zl_le hi (by omega)), zm_E h hw hi, e2, bd_some, bd_some, z_add1]
    by_cases q : ne v i ≤ x
    · rw [if_pos (zl_ge q (by omega)), Nat.max_eq_left q]
    · rw [if_neg (zl_le (by omega) (by omega)), Nat.max_eq_right (by omega)]
  · rw [f_X10_lastEnd_W4_s]
    unfold f_X10_lastEnd_L4
    rw [rmN h, if_pos (zl_ge (Nat.le_refl _) (by omega))]
theorem si_step (hf : 20 < fu) (h : RM (k + 1) 0 v σ) (hw : WT v) (w : Int32) {L t n f m x : Nat} (hL : L ≤ 1999) (ht : t < L) (hn0 : 0 < vn v) (hm : m ≤ 1999) (hx : x ≤ 1999) :
    f_X10_silence_W33 fu σ k w (nI L) (n + 1) (nI f) (nI m) (nI x) (nI t) = if ∀ j, j < vn v → ¬ onN v t j = true then f_X10_silence_W33 fu σ k w (nI L) n (if x + 1 ≤ m then nI f else nI t - nI (x + 1) + 1) (nI (if x + 1 ≤ m then m else x + 1)) (nI (x + 1)) (nI (t + 1)) else f_X10_silence_W33 fu σ k w (nI L) n (nI f) (nI m) 0 (nI (t + 1)) := by
  have h20 := hw.1
  rw [f_X10_silence_W33_s]
  unfold f_X10_silence_L33 f_X10_silence_J68 f_X10_silence_J87
  rw [if_neg (zl_le ht (by omega)), rmN h, if_neg (show ¬ nI (vn v) ≤ 0 from zl_le (n := vn v) (i := 0) hn0 (by omega)), zm_going hf h hw, bd_some, lt_eq, lt_eq, lt_eq, z_add1, z_add1]
  by_cases q : ∀ j, j < vn v → ¬ onN v t j = true
  · rw [if_pos ((go_0 hw (by omega)).mpr q), if_pos q]
    by_cases q2 : x + 1 ≤ m
    · rw [if_pos (zl_ge q2 (by omega)), if_pos (zl_ge q2 (by omega)), if_pos q2, if_pos q2]
    · rw [if_neg (zl_le (by omega) (by omega)), if_neg (zl_le (by omega) (by omega)), if_neg q2, if_neg q2]
  · rw [if_neg (fun z => q ((go_0 hw (by omega)).mp z)), if_neg q, if_pos (show (0 : Int32) ≤ nI m from nI_pos' (by omega)), if_pos (show (0 : Int32) ≤ nI m from nI_pos' (by omega))]
/-- through a silence that begins at t -/
theorem si_run (hf : 20 < fu) (h : RM (k + 1) 0 v σ) (hw : WT v) (w : Int32) {L t f m : Nat} (hL : L ≤ 1999) (hn0 : 0 < vn v) (hm : m ≤ 1999) : ∀ (g n : Nat), t + g ≤ L → (∀ s, t ≤ s → s < t + g → ∀ j, j < vn v → ¬ onN v s j = true) →
    f_X10_silence_W33 fu σ k w (nI L) (n + g) (nI f) (nI m) 0 (nI t) = f_X10_silence_W33 fu σ k w (nI L) n (nI (if m < g then t else f)) (nI (if m < g then g else m)) (nI g) (nI (t + g))
  | 0, n, _, _ => by
    rw [if_neg (Nat.not_lt_zero m), if_neg (Nat.not_lt_zero m)]
    rfl
  | g + 1, n, hg, hs => by
    have ih := si_run hf h hw w (t := t) (f := f) hL hn0 hm g (n + 1) (by omega) (fun s h1 h2 => hs s h1 (by omega))
    rw [show n + (g + 1) = n + 1 + g by omega, ih, si_step hf h hw w hL (by omega) hn0 (by split <;> omega) (by omega), if_pos (hs (t + g) (by omega) (by omega)), z_bump]
    rw [show t + g + 1 = t + (g + 1) by omega]
    rcases Nat.lt_or_ge m g with q | q
    · have c1 : ¬ g + 1 ≤ g := by omega
      have c2 : m < g + 1 := by omega
      rw [if_pos q, if_pos q, if_neg c1, if_neg c1, if_pos c2, if_pos c2]
    · have c0 : ¬ m < g := by omega
      rw [if_neg c0, if_neg c0]
      by_cases q2 : g + 1 ≤ m
      · have c2 : ¬ m < g + 1 := by omega
        rw [if_pos q2, if_pos q2, if_neg c2, if_neg c2]
      · have c2 : m < g + 1 := by omega
        rw [if_neg q2, if_neg q2, if_pos c2, if_pos c2]
/-- through seconds in which somebody speaks -/
theorem si_talk (hf : 20 < fu) (h : RM (k + 1) 0 v σ) (hw : WT v) (w : Int32) {L f m : Nat} (hL : L ≤ 1999) (hn0 : 0 < vn v) (hm : m ≤ 1999) : ∀ (g t n x : Nat), x ≤ 1999 → t + g ≤ L → (∀ s, t ≤ s → s < t + g → ∃ j, j < vn v ∧ onN v s j = true) →
    f_X10_silence_W33 fu σ k w (nI L) (n + g) (nI f) (nI m) (nI x) (nI t) = f_X10_silence_W33 fu σ k w (nI L) n (nI f) (nI m) (nI (if g = 0 then x else 0)) (nI (t + g))
  | 0, t, n, x, _, _, _ => rfl
  | g + 1, t, n, x, hx, hg, hs => by
    rw [show n + (g + 1) = (n + g) + 1 by omega, si_step hf h hw w hL (by omega) hn0 hm hx, if_neg (fun z => by
      obtain ⟨j, h1, h2⟩ := hs t (Nat.le_refl _) (by omega)
      exact z j h1 h2)]
    have ih := si_talk hf h hw w (f := f) hL hn0 hm g (t + 1) n 0 (Nat.zero_le _) (by omega) (fun s h1 h2 => hs s (by omega) (by omega))
    rw [show (0 : Int32) = nI 0 from rfl, ih, if_neg (Nat.succ_ne_zero g), show t + 1 + g = t + (g + 1) by omega]
    congr 1
    split <;> rfl
/-- the sweep's place: all that came before ends there, and one of them does -/
def siC (v : gV) (i c : Nat) : Prop := nb v 0 ≤ c ∧ (∀ j, j < i → ne v j ≤ c) ∧ (0 < i → ∃ j, j < i ∧ c = ne v j) ∧ (i = 0 → c = nb v 0)
theorem siC_s {i c : Nat} (hw : WT v) (hi : i < vn v) (h : siC v i c) : siC v (i + 1) (max c (ne v i)) := by
  obtain ⟨h1, h2, h3, h4⟩ := h
  refine ⟨by omega, fun j hj => ?_, fun _ => ?_, fun z => absurd z (Nat.succ_ne_zero i)⟩
  · by_cases e : j = i
    · subst e
      exact Nat.le_max_right _ _
    · exact Nat.le_trans (h2 j (by omega)) (Nat.le_max_left _ _)
  · rcases Nat.le_total c (ne v i) with z | z
    · exact ⟨i, by omega, Nat.max_eq_right z⟩
    · rcases Nat.eq_zero_or_pos i with q | q
      · subst q
        have h5 := (wt_nat hw hi).2.2
        have h6 := h4 rfl
        exact absurd z (by omega)
      · obtain ⟨j, h7, h5⟩ := h3 q
        exact ⟨j, by omega, by rw [Nat.max_eq_left z]; exact h5⟩
theorem si_block (hf : 20 < fu) (h : RM (k + 1) 0 v σ) (hw : WT v) (ho : WO v) (w : Int32) {L i : Nat} {t : Nat × Nat × Nat} (hL : L ≤ 1999) (hLm : ∀ j, j < vn v → ne v j ≤ L) (hi : i < vn v) (hI : siI v i t) (hC : siC v i t.1) (hc1 : t.1 ≤ L) (hn0 : 0 < vn v) (n : Nat) :
    f_X10_silence_W33 fu σ k w (nI L) (n + (max t.1 (ne v i) - t.1)) (nI t.2.1) (nI t.2.2) 0 (nI t.1) = f_X10_silence_W33 fu σ k w (nI L) n (nI (siStep v i t).2.1) (nI (siStep v i t).2.2) 0 (nI (siStep v i t).1) := by
  obtain ⟨e1, e2, e3, e4⟩ := wt_nat hw hi
  obtain ⟨hI1, hI2, hI3⟩ := hI
  obtain ⟨hC1, hC2, hC3, hC4⟩ := hC
  have hLi := hLm i hi
  unfold siStep
  rcases Nat.lt_or_ge t.1 (nb v i) with q | q
  · -- a gap, then the turn
    have hrun := si_run hf h hw w (t := t.1) (f := t.2.1) (m := t.2.2) hL hn0 hI3 (nb v i - t.1) (n + (ne v i - nb v i)) (by omega) (fun s h1 h2 j hj z => by
      have z := of_decide_eq_true z
      rcases Nat.lt_or_ge j i with q1 | q1
      · have := hC2 j q1
        omega
      · have := wo_nat hw ho q1 hj
        omega)
    rw [show n + (max t.1 (ne v i) - t.1) = n + (ne v i - nb v i) + (nb v i - t.1) by omega, hrun, show t.1 + (nb v i - t.1) = nb v i by omega]
    have hne0 : ¬ ne v i - nb v i = 0 := by omega
    by_cases q2 : t.2.2 < nb v i - t.1
    · rw [if_pos q2, if_pos q2, if_pos q2, si_talk hf h hw w hL hn0 (m := nb v i - t.1) (by omega) (ne v i - nb v i) (nb v i) n (nb v i - t.1) (by omega) (by omega) (fun s h1 h2 => ⟨i, hi, onN_t h1 (by omega)⟩), if_neg hne0, show nb v i + (ne v i - nb v i) = ne v i by omega]
      show _ = f_X10_silence_W33 fu σ k w (nI L) n (nI t.1) (nI (nb v i - t.1)) 0 (nI (max t.1 (ne v i)))
      rw [show max t.1 (ne v i) = ne v i by omega]
      rfl
    · rw [if_neg q2, if_neg q2, if_neg q2, si_talk hf h hw w hL hn0 (m := t.2.2) (by omega) (ne v i - nb v i) (nb v i) n (nb v i - t.1) (by omega) (by omega) (fun s h1 h2 => ⟨i, hi, onN_t h1 (by omega)⟩), if_neg hne0, show nb v i + (ne v i - nb v i) = ne v i by omega]
      show _ = f_X10_silence_W33 fu σ k w (nI L) n (nI t.2.1) (nI t.2.2) 0 (nI (max t.1 (ne v i)))
      rw [show max t.1 (ne v i) = ne v i by omega]
      rfl
  · rw [show (0 : Int32) = nI 0 from rfl, si_talk hf h hw w hL hn0 hI3 (max t.1 (ne v i) - t.1) t.1 n 0 (Nat.zero_le _) (by omega) (fun s h1 h2 => ⟨i, hi, onN_t (by omega) (by omega)⟩), if_neg (show ¬ t.2.2 < nb v i - t.1 by omega), show t.1 + (max t.1 (ne v i) - t.1) = max t.1 (ne v i) by omega]
    congr 1
    split <;> rfl
theorem si_all (hf : 20 < fu) (h : RM (k + 1) 0 v σ) (hw : WT v) (ho : WO v) (w : Int32) (hn0 : 0 < vn v) : ∀ (d i : Nat) (t : Nat × Nat × Nat) (n : Nat), i + d = vn v → siI v i t → siC v i t.1 → lastN v - t.1 < n → lastN v ≤ 1999 →
    f_X10_silence_W33 fu σ k w (nI (lastN v)) n (nI t.2.1) (nI t.2.2) 0 (nI t.1) = f_X10_silence_J107 fu σ k w (nI (itr (siStep v) i d t).2.1) (nI (itr (siStep v) i d t).2.2)
  | 0, i, t, n, hid, hI, hC, hn, hL => by
    have e : i = vn v := by omega
    subst e
    obtain ⟨j, h1, h2⟩ := hC.2.2.1 hn0
    have h3 := lastN_ge v (vn v) j h1
    have h4 : lastN v ≤ t.1 := by
      obtain ⟨j2, h5, h6⟩ := lastN_is v (vn v) hn0 (fun i hi => by have := (wt_nat hw hi).2.2; omega)
      unfold lastN
      rw [h6]
      exact hC.2.1 j2 h5
    cases n with
    | zero => omega
    | succ n =>
      rw [f_X10_silence_W33_s]
      unfold f_X10_silence_L33
      rw [if_pos (zl_ge h4 (by have := hI.1; omega))]
      rfl
  | d + 1, i, t, n, hid, hI, hC, hn, hL => by
    have hi : i < vn v := by omega
    have hLm : ∀ j, j < vn v → ne v j ≤ lastN v := fun j hj => lastN_ge v (vn v) j hj
    have hLi := hLm i hi
    have hc1 : t.1 ≤ lastN v := by
      rcases Nat.eq_zero_or_pos i with q | q
      · rw [hC.2.2.2 q]
        have h5 := (wt_nat hw hn0).2.2
        have h6 := hLm 0 hn0
        omega
      · obtain ⟨j, h1, h2⟩ := hC.2.2.1 q
        rw [h2]
        exact hLm j (by omega)
    obtain ⟨n2, hn2⟩ : ∃ n2, n = n2 + (max t.1 (ne v i) - t.1) := ⟨n - (max t.1 (ne v i) - t.1), by omega⟩
    subst hn2
    rw [si_block hf h hw ho w hL hLm hi hI hC hc1 hn0]
    have e1 : (siStep v i t).1 = max t.1 (ne v i) := by unfold siStep; split <;> rfl
    exact si_all hf h hw ho w hn0 d (i + 1) (siStep v i t) n2 (by omega) (siStep_I hw hi hI) (by rw [e1]; exact siC_s hw hi hC) (by rw [e1]; omega) hL
/-- the longest silence -/
def spSil (v : gV) (w : Int32) : Int32 := if 0 ≤ w ∧ w ≤ 1 then (if (siN v).2.2 = 0 then -1000004 else if w = 0 then nI (siN v).2.1 else nI (siN v).2.2) else -1000001
theorem siN_I (hw : WT v) : siI v (vn v) (siN v) := by
  have h20 := hw.1
  have h := itr_inv (f := siStep v) (siI v) (vn v) 0 (if vn v = 0 then 0 else nb v 0, 0, 0) (by
    refine ⟨?_, Nat.zero_le _, Nat.zero_le _⟩
    show (if vn v = 0 then 0 else nb v 0) ≤ 1999
    by_cases q : vn v = 0
    · rw [if_pos q]
      omega
    · rw [if_neg q]
      have := (wt_nat hw (i := 0) (by omega)).2.2
      omega) (fun j t _ h2 hI => siStep_I hw (by omega) hI)
  rw [Nat.zero_add] at h
  exact h
theorem si_J (fu k : Nat) (σ : gSt) (w : Int32) {f m : Nat} (hm : m ≤ 1999) : f_X10_silence_J107 fu σ k w (nI f) (nI m) = some (if m = 0 then -1000004 else if w = 0 then nI f else nI m) := by
  unfold f_X10_silence_J107
  by_cases q : m = 0
  · rw [if_pos ((nI_0iff (by omega)).mpr q), if_pos q]
  · rw [if_neg (fun z => q ((nI_0iff (by omega)).mp z)), if_neg q]
    by_cases q2 : w = 0
    · rw [if_pos q2, if_pos q2]
    · rw [if_neg q2, if_neg q2]
theorem lastN_le (hw : WT v) : lastN v ≤ 1999 := by
  rcases Nat.eq_zero_or_pos (vn v) with q | q
  · unfold lastN
    rw [q]
    exact Nat.zero_le _
  · obtain ⟨j, h1, h2⟩ := lastN_is v (vn v) q (fun i hi => by have := (wt_nat hw hi).2.2; omega)
    unfold lastN
    rw [h2]
    exact (wt_nat hw h1).2.2.2
theorem zm_silence (hf : 2000 < fu) (h : RM (k + 1) 0 v σ) (hw : WT v) (ho : WO v) (w : Int32) : f_X10_silence fu σ k w = some (spSil v w) := by
  have h20 := hw.1
  have hI := siN_I hw
  unfold f_X10_silence spSil
  rw [zm_in, bd_some]
  by_cases hq : 0 ≤ w ∧ w ≤ 1
  · rw [if_neg (fun q => bi_0.mp q hq), if_pos hq, zm_last (by omega) h hw, bd_some]
    rcases Nat.eq_zero_or_pos (vn v) with q | q
    · have e0 : siN v = (0, 0, 0) := by
        unfold siN
        rw [q]
        rfl
      have eL : lastN v = 0 := by
        unfold lastN
        rw [q]
        rfl
      rw [show (0 : Int32) = nI 0 from rfl, zm_of (i := 0) (x := nI 0) (w := 0) rfl (by omega), bd_some, eL, e0]
      cases fu with
      | zero => omega
      | succ fu =>
        rw [f_X10_silence_W33_s]
        unfold f_X10_silence_L33
        rw [rmN h, q]
        have e1 := si_J (fu + 1) k σ w (f := 0) (m := 0) (by omega)
        by_cases z : nI 0 ≤ σ (k + 1) (13 * 0 + 0)
        · rw [if_pos z, e1]
          rfl
        · rw [if_neg z, if_pos (show nI 0 ≤ (0 : Int32) from Int32.le_refl _), e1]
          rfl
    · have e2 := si_all (show 20 < fu by omega) h hw ho w q (vn v) 0 (if vn v = 0 then 0 else nb v 0, 0, 0) fu (by omega) (by
        refine ⟨?_, Nat.zero_le _, Nat.zero_le _⟩
        show (if vn v = 0 then 0 else nb v 0) ≤ 1999
        rw [if_neg (by omega)]
        have := (wt_nat hw (i := 0) (by omega)).2.2
        omega) (by
        show siC v 0 (if vn v = 0 then 0 else nb v 0)
        rw [if_neg (by omega)]
        exact ⟨Nat.le_refl _, fun j hj => absurd hj (Nat.not_lt_zero j), fun z => absurd z (Nat.lt_irrefl 0), fun _ => rfl⟩) (by have := lastN_le hw; omega) (lastN_le hw)
      have e3 : f_X10_of fu σ k 0 0 = some (nI (if vn v = 0 then 0 else nb v 0)) := by
        have e4 := zm_B h hw (i := 0) (fu := fu) q
        rw [if_neg (by omega), ← (wt_nat hw q).1]
        exact e4
      rw [e3, bd_some]
      unfold siN at hI ⊢
      refine Eq.trans e2 (si_J fu k σ w hI.2.2)
  · rw [if_pos (bi_0.mpr hq), if_neg hq]
end Silent
theorem zy_silence {fu : Nat} {σ : gSt} {v : gV} (hf : 20 < fu) (h : RC 10 v σ) (hw : WT v) (w : Int32) : f_X5_ofSilence fu σ 1 w = some (spSil v w) := by
  have hI := siN_I hw
  unfold f_X5_ofSilence spSil
  rw [z_within, bd_some]
  by_cases hq : 0 ≤ w ∧ w ≤ 1
  · rw [if_neg (fun q => bi_0.mp q hq), if_pos hq, zt_silence (k := 11) hf h.1 hw, bd_some, zt_silence (k := 11) hf h.1 hw, if_neg (show ¬ (1 : Int32) = 0 by decide), bd_some]
    have := hI.2.2
    by_cases q : (siN v).2.2 = 0
    · rw [if_pos ((nI_0iff (by omega)).mpr q), if_pos q]
    · rw [if_neg (fun z => q ((nI_0iff (by omega)).mp z)), if_neg q]
  · rw [if_pos (bi_0.mpr hq), if_neg hq]
