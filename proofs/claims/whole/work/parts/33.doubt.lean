/-! ===== doubt; sums over turns ===== -/
def dN (a b : Nat) : Nat := if b ≤ a then a - b else b - a
theorem dist_N {a b : Nat} (ha : a < 4096) (hb : b < 4096) : dist (nI a) (nI b) = nI (dN a b) := by
  unfold dist dN
  by_cases h : b ≤ a
  · rw [if_pos (zl_ge h (by omega)), if_pos h, pk_sub h]
  · rw [if_neg (zl_le (by omega) (by omega)), if_neg h, pk_sub (by omega)]
theorem dN_comm (a b : Nat) : dN a b = dN b a := by
  unfold dN
  split <;> split <;> omega
theorem dN_lt {a b : Nat} (ha : a < 4096) (hb : b < 4096) : dN a b < 4096 := by
  unfold dN
  split <;> omega
def np (v : gV) (i : Nat) : Nat := (vP v i).toNatClampNeg
def ns (v : gV) (s : Nat) : Nat := (vS v s).toNatClampNeg
def no (v : gV) (i : Nat) : Nat := (vO v i).toNatClampNeg
def dbStep (v : gV) (i : Nat) (t : Option (Nat × Nat)) : Option (Nat × Nat) := if vO v i = -1 then t else match t with
  | none => some (i, dN (ns v (no v i)) (np v i))
  | some q => if q.2 < dN (ns v (no v i)) (np v i) then some (i, dN (ns v (no v i)) (np v i)) else t
def dbN (v : gV) : Option (Nat × Nat) := itr (dbStep v) 0 (vn v) none
def dbI (v : gV) (_ : Nat) (t : Option (Nat × Nat)) : Prop := match t with
  | none => True
  | some q => q.1 < 20 ∧ q.2 < 4096
def db1 (x : Int32) (t : Option (Nat × Nat)) : Int32 := match t with
  | none => x
  | some q => nI q.1
def db2 (t : Option (Nat × Nat)) : Int32 := match t with
  | none => -1
  | some q => nI q.2
def spDou (v : gV) (w : Int32) : Int32 := if 0 ≤ w ∧ w ≤ 1 then (match dbN v with
  | none => -1000004
  | some q => if w = 0 then nI q.1 else nI q.2) else -1000001
section Doubt
variable {fu k : Nat} {σ : gSt} {v : gV}
theorem wt_np (hw : WT v) {i : Nat} (hi : i < vn v) : vP v i = nI (np v i) ∧ 50 ≤ np v i ∧ np v i ≤ 500 := by
  obtain ⟨b, e, p, -, -, h3, -, -, h6, h7⟩ := hw.2.1 i hi
  unfold np
  rw [h3, nI_clamp (by omega)]
  exact ⟨rfl, h6, h7⟩
theorem ws_ns (hs : WS v) {s : Nat} (h6 : s < 6) : vS v s = nI (ns v s) ∧ ns v s ≤ 500 := by
  unfold ns
  rcases hs.2 s h6 with h | ⟨p, h, h1, h2⟩
  · rw [h]
    exact ⟨rfl, Nat.zero_le _⟩
  · rw [h, nI_clamp (by omega)]
    exact ⟨rfl, h2⟩
theorem ws_no (hs : WS v) {i : Nat} (hi : i < vn v) : vO v i = -1 ∨ (vO v i = nI (no v i) ∧ no v i < 6 ∧ vS v (no v i) ≠ 0) := by
  unfold no
  rcases hs.1 i hi with h | ⟨s, h1, h, h2⟩
  · exact Or.inl h
  · rw [h, nI_clamp (by omega)]
    exact Or.inr ⟨rfl, h1, h2⟩
theorem dbStep_I (hw : WT v) (hs : WS v) {i : Nat} {t : Option (Nat × Nat)} (hi : i < vn v) (h : dbI v i t) : dbI v (i + 1) (dbStep v i t) := by
  have h20 := hw.1
  unfold dbStep
  by_cases q : vO v i = -1
  · rw [if_pos q]
    exact h
  · rw [if_neg q]
    have hlt : dN (ns v (no v i)) (np v i) < 4096 := by
      rcases ws_no hs hi with z | ⟨-, z, -⟩
      · exact absurd z q
      · have h1 := (ws_ns hs z).2
        have h2 := (wt_np hw hi).2.2
        exact dN_lt (by omega) (by omega)
    cases t with
    | none => exact ⟨by show i < 20; omega, hlt⟩
    | some p =>
      show dbI v (i + 1) (if p.2 < dN (ns v (no v i)) (np v i) then some (i, dN (ns v (no v i)) (np v i)) else some p)
      by_cases z : p.2 < dN (ns v (no v i)) (np v i)
      · rw [if_pos z]
        exact ⟨by show i < 20; omega, hlt⟩
      · rw [if_neg z]
        exact h
theorem dbN_I (hw : WT v) (hs : WS v) : dbI v (vn v) (dbN v) := by
  have h := itr_inv (f := dbStep v) (dbI v) (vn v) 0 none trivial (fun j t _ h2 hI => dbStep_I hw hs (by omega) hI)
  rw [Nat.zero_add] at h
  exact h
/-- one turn of the search -/
theorem db_cmp {t : Option (Nat × Nat)} {d : Nat} (h : dbI v 0 t) (hd : d < 4096) : nI d ≤ db2 t ↔ ∃ q, t = some q ∧ ¬ q.2 < d := by
  cases t with
  | none =>
    constructor
    · intro z
      have z : nI d ≤ -1 := z
      rw [z_lei, nI_toInt (by omega)] at z
      have : (-1 : Int32).toInt = -1 := by decide
      omega
    · rintro ⟨q, h1, -⟩
      cases h1
  | some p =>
    have h2 : p.2 < 4096 := h.2
    show nI d ≤ nI p.2 ↔ _
    rw [z_le hd h2]
    constructor
    · intro z
      exact ⟨p, rfl, by omega⟩
    · rintro ⟨q, h1, h3⟩
      cases h1
      omega
theorem zm_doubtful (hf : 20 < fu) (h : RM (k + 1) 0 v σ) (hw : WT v) (hs : WS v) (w : Int32) : f_X10_doubtful fu σ k w = some (spDou v w) := by
  have h20 := hw.1
  unfold f_X10_doubtful spDou
  rw [zm_in, bd_some]
  by_cases hq : 0 ≤ w ∧ w ≤ 1
  · rw [if_neg (fun q => bi_0.mp q hq), if_pos hq]
    have key := lpU (fun n i (t : Option (Nat × Nat)) => f_X10_doubtful_W20 fu σ k w n (db1 (-1000004) t) (db2 t) (nI i)) (vn v) (dbStep v) (fun t => some (match t with
      | none => -1000004
      | some q => if w = 0 then nI q.1 else nI q.2)) (dbI v) (fun n i t hi hI => ?_) (fun n t hI => ?_) fu 0 none (Nat.zero_le _) (by omega) trivial
    · unfold dbN
      exact key
    · refine ⟨?_, dbStep_I hw hs hi hI⟩
      show f_X10_doubtful_W20 fu σ k w (n + 1) (db1 (-1000004) t) (db2 t) (nI i) = f_X10_doubtful_W20 fu σ k w n (db1 (-1000004) (dbStep v i t)) (db2 (dbStep v i t)) (nI (i + 1))
      rw [f_X10_doubtful_W20_s]
      unfold f_X10_doubtful_L20 f_X10_doubtful_J73 f_X10_doubtful_J87
      rw [rmN h, if_neg (zl_le hi (by omega)), zm_O h hw hi, bd_some, z_add1]
      rcases ws_no hs hi with q | ⟨q, q6, q0⟩
      · have hn0 : ¬ (0 : Int32) ≤ vO v i := by rw [q]; decide
        have hc : (-1 : Int32) ≤ db2 t := by
          cases t with
          | none => exact Int32.le_refl _
          | some p =>
            show (-1 : Int32) ≤ nI p.2
            have h2 : p.2 < 4096 := hI.2
            rw [z_lei, nI_toInt (by omega)]
            have : (-1 : Int32).toInt = -1 := by decide
            omega
        unfold dbStep
        rw [if_neg hn0, lt_eq, lt_eq, if_pos hc, if_pos hc, if_pos q]
      · have hne : ¬ vO v i = -1 := by rw [q]; exact z_m1 _ (by omega)
        have hp0 : (0 : Int32) ≤ vO v i := by rw [q]; exact nI_pos' (by omega)
        obtain ⟨s1, s2⟩ := ws_ns hs q6
        obtain ⟨p1, p2, p3⟩ := wt_np hw hi
        unfold dbStep
        rw [if_pos hp0, bd_some, if_neg hne]
        rw [show rd 284 σ (k + 1) (276 + vO v i) = some (vS v (no v i)) by rw [q]; exact zm_rdS h q6, bd_some, zm_P h hw hi, bd_some, zm_far, bd_some, s1, p1, dist_N (by omega) (by omega), lt_eq, lt_eq]
        have hlt : dN (ns v (no v i)) (np v i) < 4096 := dN_lt (by omega) (by omega)
        have hcmp := db_cmp (v := v) (t := t) (d := dN (ns v (no v i)) (np v i)) hI hlt
        cases t with
        | none =>
          have hc : ¬ nI (dN (ns v (no v i)) (np v i)) ≤ db2 none := fun z => by
            obtain ⟨_, z, -⟩ := hcmp.mp z
            cases z
          rw [if_neg hc, if_neg hc]
          rfl
        | some p =>
          by_cases z : p.2 < dN (ns v (no v i)) (np v i)
          · have hc : ¬ nI (dN (ns v (no v i)) (np v i)) ≤ db2 (some p) := fun y => by
              obtain ⟨_, y, y2⟩ := hcmp.mp y
              cases y
              exact y2 z
            rw [if_neg hc, if_neg hc]
            show f_X10_doubtful_W20 fu σ k w n (nI i) (nI (dN (ns v (no v i)) (np v i))) (nI (i + 1)) = f_X10_doubtful_W20 fu σ k w n (db1 (-1000004) (if p.2 < dN (ns v (no v i)) (np v i) then some (i, dN (ns v (no v i)) (np v i)) else some p)) (db2 (if p.2 < dN (ns v (no v i)) (np v i) then some (i, dN (ns v (no v i)) (np v i)) else some p)) (nI (i + 1))
            rw [if_pos z]
            rfl
          · have hc : nI (dN (ns v (no v i)) (np v i)) ≤ db2 (some p) := hcmp.mpr ⟨p, rfl, z⟩
            rw [if_pos hc, if_pos hc]
            show f_X10_doubtful_W20 fu σ k w n (db1 (-1000004) (some p)) (db2 (some p)) (nI (i + 1)) = f_X10_doubtful_W20 fu σ k w n (db1 (-1000004) (if p.2 < dN (ns v (no v i)) (np v i) then some (i, dN (ns v (no v i)) (np v i)) else some p)) (db2 (if p.2 < dN (ns v (no v i)) (np v i) then some (i, dN (ns v (no v i)) (np v i)) else some p)) (nI (i + 1))
            rw [if_neg z]
    · show f_X10_doubtful_W20 fu σ k w (n + 1) (db1 (-1000004) t) (db2 t) (nI (vn v)) = _
      rw [f_X10_doubtful_W20_s]
      unfold f_X10_doubtful_L20
      rw [rmN h, if_pos (zl_ge (Nat.le_refl _) (by omega))]
      cases t with
      | none =>
        rw [if_pos (show db1 (-1000004) none < 0 by decide)]
        rfl
      | some p =>
        have h1 : p.1 < 20 := hI.1
        rw [if_neg (show ¬ db1 (-1000004) (some p) < 0 from z_neg (by omega))]
        show (if w = 0 then some (nI p.1) else some (nI p.2)) = some (if w = 0 then nI p.1 else nI p.2)
        split <;> rfl
  · rw [if_pos (bi_0.mpr hq), if_neg hq]
theorem zy_doubtful (hf : 20 < fu) (h : RC 10 v σ) (hw : WT v) (hs : WS v) (w : Int32) : f_X5_ofDoubt fu σ 1 w = some (spDou v w) := by
  have h20 := hw.1
  unfold f_X5_ofDoubt spDou
  rw [z_within, bd_some]
  by_cases hq : 0 ≤ w ∧ w ≤ 1
  · rw [if_neg (fun q => bi_0.mp q hq), if_pos hq]
    have key := lpU (fun n i (t : Option (Nat × Nat)) => f_X5_ofDoubt_W19 fu σ 1 w n (db1 (-1) t) (db2 t) (nI i)) (vn v) (dbStep v) (fun t => some (match t with
      | none => -1000004
      | some q => if w = 0 then nI q.1 else nI q.2)) (dbI v) (fun n i t hi hI => ?_) (fun n t hI => ?_) fu 0 none (Nat.zero_le _) (by omega) trivial
    · unfold dbN
      exact key
    · refine ⟨?_, dbStep_I hw hs hi hI⟩
      show f_X5_ofDoubt_W19 fu σ 1 w (n + 1) (db1 (-1) t) (db2 t) (nI i) = f_X5_ofDoubt_W19 fu σ 1 w n (db1 (-1) (dbStep v i t)) (db2 (dbStep v i t)) (nI (i + 1))
      rw [f_X5_ofDoubt_W19_s]
      unfold f_X5_ofDoubt_L19
      rw [zy_size h, bd_some, if_neg (zl_le hi (by omega)), zt_owner (k := 11) h.1 hw hi, bd_some, zt_pitch (k := 11) h.1 hw hi, bd_some, z_add1]
      obtain ⟨p1, p2, p3⟩ := wt_np hw hi
      rcases ws_no hs hi with q | ⟨q, q6, q0⟩
      · rw [q, show f_X4_pitchOf fu σ (1 + 19) (-1) = some 0 from zs_pitch_out (Or.inl (by decide)), bd_some, p1, show (0 : Int32) = nI 0 from rfl, z_abs fu σ (by omega) (by omega), bd_some]
        unfold dbStep
        rw [if_pos rfl, if_pos q]
      · have hne : ¬ vO v i = -1 := by rw [q]; exact z_m1 _ (by omega)
        obtain ⟨s1, s2⟩ := ws_ns hs q6
        have hpo : f_X4_pitchOf fu σ (1 + 19) (vO v i) = some (vS v (no v i)) := by
          rw [q]
          exact zs_pitch (k := 20) h.2.2.1 q6
        have hlt : dN (ns v (no v i)) (np v i) < 4096 := dN_lt (by omega) (by omega)
        have hcmp := db_cmp (v := v) (t := t) (d := dN (ns v (no v i)) (np v i)) hI hlt
        rw [hpo, bd_some, s1, p1, z_abs fu σ (by omega) (by omega), bd_some, dist_N (by omega) (by omega), dN_comm, if_neg hne]
        unfold dbStep
        rw [if_neg hne]
        cases t with
        | none =>
          have hc : ¬ nI (dN (ns v (no v i)) (np v i)) ≤ db2 none := fun z => by
            obtain ⟨_, z, -⟩ := hcmp.mp z
            cases z
          rw [if_neg hc]
          rfl
        | some p =>
          by_cases z : p.2 < dN (ns v (no v i)) (np v i)
          · have hc : ¬ nI (dN (ns v (no v i)) (np v i)) ≤ db2 (some p) := fun y => by
              obtain ⟨_, y, y2⟩ := hcmp.mp y
              cases y
              exact y2 z
            rw [if_neg hc]
            show f_X5_ofDoubt_W19 fu σ 1 w n (nI i) (nI (dN (ns v (no v i)) (np v i))) (nI (i + 1)) = f_X5_ofDoubt_W19 fu σ 1 w n (db1 (-1) (if p.2 < dN (ns v (no v i)) (np v i) then some (i, dN (ns v (no v i)) (np v i)) else some p)) (db2 (if p.2 < dN (ns v (no v i)) (np v i) then some (i, dN (ns v (no v i)) (np v i)) else some p)) (nI (i + 1))
            rw [if_pos z]
            rfl
          · have hc : nI (dN (ns v (no v i)) (np v i)) ≤ db2 (some p) := hcmp.mpr ⟨p, rfl, z⟩
            rw [if_pos hc]
            show f_X5_ofDoubt_W19 fu σ 1 w n (db1 (-1) (some p)) (db2 (some p)) (nI (i + 1)) = f_X5_ofDoubt_W19 fu σ 1 w n (db1 (-1) (if p.2 < dN (ns v (no v i)) (np v i) then some (i, dN (ns v (no v i)) (np v i)) else some p)) (db2 (if p.2 < dN (ns v (no v i)) (np v i) then some (i, dN (ns v (no v i)) (np v i)) else some p)) (nI (i + 1))
            rw [if_neg z]
    · show f_X5_ofDoubt_W19 fu σ 1 w (n + 1) (db1 (-1) t) (db2 t) (nI (vn v)) = _
      rw [f_X5_ofDoubt_W19_s]
      unfold f_X5_ofDoubt_L19 f_X5_ofDoubt_J99 f_X5_orNotFound
      rw [zy_size h, bd_some, if_pos (zl_ge (Nat.le_refl _) (by omega)), lt_eq]
      cases t with
      | none =>
        have e : (if w = 0 then db1 (-1) none else db2 none) = (-1 : Int32) := by split <;> rfl
        rw [e, if_pos rfl]
        rfl
      | some p =>
        have h1 : p.1 < 20 := hI.1
        have h2 : p.2 < 4096 := hI.2
        show ((if (if w = 0 then nI p.1 else nI p.2) = -1 then some (-1000004) else some (if w = 0 then nI p.1 else nI p.2)).bind fun v99 => some v99) = some (if w = 0 then nI p.1 else nI p.2)
        by_cases q : w = 0
        · rw [if_pos q, if_neg (z_m1 _ (by omega))]
          rfl
        · rw [if_neg q, if_neg (z_m1 _ (by omega))]
          rfl
  · rw [if_pos (bi_0.mpr hq), if_neg hq]
/-! sums over turns -/
theorem zm_ofTurns2 (hf : 20 < fu) (h : RM (k + 1) 0 v σ) (hw : WT v) : f_X10_ofTurns fu σ k 2 = some (smS (vn v) (fun _ => true) (fun i => nI (vC v i))) := by
  have hn := hw.1
  refine lpU0 (fun n i t => f_X10_ofTurns_W4 fu σ k 2 n t (nI i)) (vn v) _ some (fun n i t hi => ?_) (fun n t => ?_) fu 0 (by omega)
  · rw [f_X10_ofTurns_W4_s]
    unfold f_X10_ofTurns_L4
    rw [rmN h, if_neg (zl_le hi (by omega)), if_pos (show (2 : Int32) = 2 from rfl), zm_C h hw hi, bd_some, if_pos rfl, z_add1]
  · rw [f_X10_ofTurns_W4_s]
    unfold f_X10_ofTurns_L4
    rw [rmN h, if_pos (zl_ge (Nat.le_refl _) (by omega)), if_neg (by decide)]
theorem zm_ofTurns4 (hf : 20 < fu) (h : RM (k + 1) 0 v σ) (hw : WT v) (hs : WS v) : f_X10_ofTurns fu σ k 4 = some (ctS (vn v) (fun i => decide (vO v i = -1)) 0) := by
  have hn := hw.1
  refine lpU0 (fun n i t => f_X10_ofTurns_W4 fu σ k 4 n t (nI i)) (vn v) _ some (fun n i t hi => ?_) (fun n t => ?_) fu 0 (by omega)
  · rw [f_X10_ofTurns_W4_s]
    unfold f_X10_ofTurns_L4
    rw [rmN h, if_neg (zl_le hi (by omega)), if_neg (show ¬ (4 : Int32) = 2 by decide), if_pos (show (4 : Int32) = 4 from rfl), zm_O h hw hi, bd_some, lt_eq, z_add1]
    by_cases q : vO v i = -1
    · rw [if_neg (by rw [q]; decide), if_pos (by simp [q])]
    · rw [if_pos (Int32.not_lt.mp (fun z => q ((sO0 hs hi).mp z))), if_neg (by simp [q]), Int32.add_zero]
  · rw [f_X10_ofTurns_W4_s]
    unfold f_X10_ofTurns_L4
    rw [rmN h, if_pos (zl_ge (Nat.le_refl _) (by omega)), if_neg (by decide)]
theorem zm_ofTurns5 (hf : 31 < fu) (h : RM (k + 1) 0 v σ) (hw : WT v) : f_X10_ofTurns fu σ k 5 = some (nI (ct2 (vn v) (fun i => i) (ov v))) := by
  have hn := hw.1
  have e1 := itr_sum (g := fun i x => x + nI (sumN (vn v) (fun j => on1 (ov v i j)))) (vn v) 0 (fun i x _ => rfl)
  rw [Nat.zero_add] at e1
  have key := lpU0 (fun n i t => f_X10_ofTurns_W4 fu σ k 5 n t (nI i)) (vn v) (fun i x => x + nI (sumN (vn v) (fun j => on1 (ov v i j)))) (fun t => dv t 2) (fun n i t hi => ?_) (fun n t => ?_) fu 0 (by omega)
  · refine Eq.trans key ?_
    rw [show (0 : Int32) = nI 0 from rfl, e1, pairs_eq]
    have hb : sumN (vn v) (fun i => sumN i (fun j => on1 (ov v i j))) ≤ vn v * 20 := sumN_le _ (fun i hi => by
      have : sumN i (fun j => on1 (ov v i j)) ≤ i * 1 := sumN_le i (fun j _ => by
        by_cases q : ov v i j = true
        · rw [on1_t q]
          exact Nat.le_refl _
        · rw [on1_f q]
          exact Nat.zero_le _)
      omega)
    have hb2 : vn v * 20 ≤ 400 := by omega
    unfold dv ct2
    rw [if_neg (by decide), show (2 : Int32) = nI 2 from rfl, pk_div (by omega) (by omega) (by omega), Nat.mul_div_cancel_left _ (by omega)]
  · rw [f_X10_ofTurns_W4_s]
    unfold f_X10_ofTurns_L4
    rw [rmN h, if_neg (zl_le hi (by omega)), if_neg (show ¬ (5 : Int32) = 2 by decide), if_neg (show ¬ (5 : Int32) = 4 by decide), zm_overlapping0 (by omega) h hw hi, bd_some, zm_ones hf σ (by omega), bd_some, z_add1]
  · rw [f_X10_ofTurns_W4_s]
    unfold f_X10_ofTurns_L4
    rw [rmN h, if_pos (zl_ge (Nat.le_refl _) (by omega)), if_pos rfl]
    cases dv t 2 <;> rfl
/-- the two bit counts are alike on sets of six -/
theorem z_bitCount (fu : Nat) (σ : gSt) : ∀ m, m < 64 → f_J6_bitCount_0f7a4 fu σ (nI m) = some (nI (popF 6 m)) := by
  intro m hm
  have e : f_J6_bitCount_0f7a4 fu σ (nI m) = f_J6_bitCount_0f7a4 0 (fun _ _ => 0) (nI m) := rfl
  rw [e]
  exact (by decide +kernel : ∀ m, m < 64 → f_J6_bitCount_0f7a4 0 (fun _ _ => 0) (nI m) = some (nI (popF 6 m))) m hm
theorem z_bitSet (fu : Nat) (σ : gSt) (S : Nat → Int32) : f_J6_bitCount_0f7a4 fu σ (spSet S) = some (nI (sumN 6 (fun i => on1 (decide (S i ≠ 0))))) := by
  unfold spSet
  rw [orS_bitN _ 6 (by omega), z_bitCount fu σ _ (bitN_lt _ 6), pop_bitN _ 6 6 (Nat.le_refl _)]
end Doubt
