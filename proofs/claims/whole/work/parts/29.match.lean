/-! ===== the same, counted otherwise ===== -/
theorem on1_t {b : Bool} (h : b = true) : on1 b = 1 := if_pos h
theorem on1_f {b : Bool} (h : ¬ b = true) : on1 b = 0 := if_neg h
theorem sumN_comm3 (f : Nat → Nat → Nat → Nat) (c : Nat) (n : Nat) (m : Nat → Nat) : sumN c (fun x => sumN n (fun i => sumN (m i) (fun j => f x i j))) = sumN n (fun i => sumN (m i) (fun j => sumN c (fun x => f x i j))) := by
  rw [sumN_comm (fun x i => sumN (m i) (fun j => f x i j)) n c]
  refine sumN_congr n (fun i _ => ?_)
  exact sumN_comm (fun x j => f x i j) (m i) c
section Match
variable {v : gV}
/-- by terms or by places -/
theorem tt_sum (hw : WT v) (P : Nat → Bool) : sumN 16 (fun x => if P x = true then tt v x else 0) = sumN (vn v) (fun i => sumN (vC v i) (fun j => on1 (P (vQ v i j)))) := by
  have e : sumN 16 (fun x => if P x = true then tt v x else 0) = sumN 16 (fun x => sumN (vn v) (fun i => sumN (vC v i) (fun j => if x = vQ v i j then on1 (P x) else 0))) := by
    refine sumN_congr 16 (fun x _ => ?_)
    by_cases h : P x = true
    · rw [if_pos h]
      refine sumN_congr _ (fun i _ => sumN_congr _ (fun j _ => ?_))
      by_cases q : vQ v i j = x
      · rw [on1_t (by simp [q]), if_pos q.symm, on1_t h]
      · rw [on1_f (by simp [q]), if_neg (fun z => q z.symm)]
    · rw [if_neg h]
      have e0 : ∀ i j, (if x = vQ v i j then on1 (P x) else 0) = 0 := fun i j => by
        rw [on1_f h]
        exact ite_self 0
      rw [sumN_congr (f := fun i => sumN (vC v i) (fun j => if x = vQ v i j then on1 (P x) else 0)) (g := fun _ => 0) (vn v) (fun i _ => by
        rw [sumN_congr (g := fun _ => 0) (vC v i) (fun j _ => e0 i j), sumN_0]), sumN_0]
  rw [e, sumN_comm3]
  refine sumN_congr _ (fun i hi => sumN_congr _ (fun j hj => ?_))
  have hq := (hw.2.2 i hi).2 j hj
  rw [sumN_pick (fun x => on1 (P x)) (vQ v i j) 16, if_pos hq]
theorem places_eq (hw : WT v) (t : Nat) : sumN 16 (fun x => if sh (vT v) x = t then tt v x else 0) = sumN (vn v) (fun i => shc v i t) := by
  have h := tt_sum hw (fun x => sh (vT v) x == t)
  have e : sumN 16 (fun x => if (sh (vT v) x == t) = true then tt v x else 0) = sumN 16 (fun x => if sh (vT v) x = t then tt v x else 0) := sumN_congr 16 (fun x _ => by
    by_cases q : sh (vT v) x = t
    · rw [if_pos q, if_pos (by simp [q])]
    · rw [if_neg q, if_neg (by simp [q])])
  rw [← e, h]
  rfl
theorem by_eq (hs : WS v) (a : Int32) (c : Nat → Nat → Bool) (hc : ∀ i j, i < vn v → j < vn v → c i j = (decide (vO v i = a) && itp v i j)) : sumN 6 (fun o => ipt v a (nI o)) = ct2 (vn v) (fun _ => vn v) c := by
  unfold ipt ct2
  rw [sumN_comm3]
  refine sumN_congr _ (fun i hi => sumN_congr _ (fun j hj => ?_))
  rw [hc i j hi hj]
  by_cases h3 : itp v i j = true
  · have h4 := h3
    simp only [itp, decide_eq_true_eq] at h4
    rcases hs.1 j hj with q | ⟨s, h6, q, -⟩
    · exact absurd q h4.2.2.2.1
    · have e : sumN 6 (fun o => on1 (ipC v a (nI o) i j)) = sumN 6 (fun o => if o = s then on1 (decide (vO v i = a)) else 0) := sumN_congr 6 (fun o ho => by
        unfold ipC
        rw [h3, q, Bool.and_true]
        by_cases e1 : o = s
        · subst e1
          rw [if_pos rfl]
          by_cases e2 : vO v i = a
          · rw [on1_t (by simp [e2]), on1_t (by simp [e2])]
          · rw [on1_f (by simp [e2]), on1_f (by simp [e2])]
        · rw [if_neg e1, on1_f (fun z => by
            have z := (of_decide_eq_true z).2
            exact e1 ((z_eq (by omega) (by omega)).mp z).symm)])
      rw [e, sumN_pick (fun _ => on1 (decide (vO v i = a))) s 6, if_pos h6, h3, Bool.and_true]
  · have e : sumN 6 (fun o => on1 (ipC v a (nI o) i j)) = sumN 6 (fun _ => 0) := sumN_congr 6 (fun o _ => on1_f (by unfold ipC; simp [h3]))
    rw [e, sumN_0, on1_f (by simp [h3])]
theorem of_eq (hs : WS v) (b : Int32) (c : Nat → Nat → Bool) (hc : ∀ i j, i < vn v → j < vn v → c i j = (decide (vO v j = b) && itp v i j)) : sumN 6 (fun o => ipt v (nI o) b) = ct2 (vn v) (fun _ => vn v) c := by
  unfold ipt ct2
  rw [sumN_comm3]
  refine sumN_congr _ (fun i hi => sumN_congr _ (fun j hj => ?_))
  rw [hc i j hi hj]
  by_cases h3 : itp v i j = true
  · have h4 := h3
    simp only [itp, decide_eq_true_eq] at h4
    rcases hs.1 i hi with q | ⟨s, h6, q, -⟩
    · exact absurd q h4.2.2.1
    · have e : sumN 6 (fun o => on1 (ipC v (nI o) b i j)) = sumN 6 (fun o => if o = s then on1 (decide (vO v j = b)) else 0) := sumN_congr 6 (fun o ho => by
        unfold ipC
        rw [h3, q, Bool.and_true]
        by_cases e1 : o = s
        · subst e1
          rw [if_pos rfl]
          by_cases e2 : vO v j = b
          · rw [on1_t (by simp [e2]), on1_t (by simp [e2])]
          · rw [on1_f (by simp [e2]), on1_f (by simp [e2])]
        · rw [if_neg e1, on1_f (fun z => by
            have z := (of_decide_eq_true z).1
            exact e1 ((z_eq (by omega) (by omega)).mp z).symm)])
      rw [e, sumN_pick (fun _ => on1 (decide (vO v j = b))) s 6, if_pos h6, h3, Bool.and_true]
  · have e : sumN 6 (fun o => on1 (ipC v (nI o) b i j)) = sumN 6 (fun _ => 0) := sumN_congr 6 (fun o _ => on1_f (by unfold ipC; simp [h3]))
    rw [e, sumN_0, on1_f (by simp [h3])]
theorem ov_comm (i j : Nat) : ov v i j = ov v j i := by
  unfold ov
  apply decide_eq_decide.mpr
  exact ⟨fun ⟨a, b, c⟩ => ⟨fun e => a e.symm, c, b⟩, fun ⟨a, b, c⟩ => ⟨fun e => a e.symm, c, b⟩⟩
theorem pairs_eq : ∀ n, sumN n (fun i => sumN n (fun j => on1 (ov v i j))) = 2 * sumN n (fun i => sumN i (fun j => on1 (ov v i j)))
  | 0 => rfl
  | n + 1 => by
    have ih := pairs_eq n
    have e0 : on1 (ov v n n) = 0 := on1_f (by simp [ov])
    have e1 : sumN n (fun i => sumN (n + 1) (fun j => on1 (ov v i j))) = sumN n (fun i => sumN n (fun j => on1 (ov v i j))) + sumN n (fun i => on1 (ov v n i)) := by
      rw [← sumN_add]
      refine sumN_congr n (fun i _ => ?_)
      show sumN n (fun j => on1 (ov v i j)) + on1 (ov v i n) = _
      rw [ov_comm i n]
    show sumN n (fun i => sumN (n + 1) (fun j => on1 (ov v i j))) + (sumN n (fun j => on1 (ov v n j)) + on1 (ov v n n)) = 2 * (sumN n (fun i => sumN i (fun j => on1 (ov v i j))) + sumN n (fun j => on1 (ov v n j)))
    rw [e1, e0, ih]
    omega
theorem sub_sum (n : Nat) (c : Nat → Bool) (f g : Nat → Int32) : smS n c f - smS n c g = smS n c (fun i => f i - g i) := by
  unfold smS
  induction n with
  | zero => exact Int32.sub_self 0
  | succ n ih =>
    rw [itr_snoc, itr_snoc, itr_snoc, Nat.zero_add, ← ih]
    by_cases h : c n = true
    · rw [if_pos h, if_pos h, if_pos h]
      generalize itr (fun i acc => if c i = true then acc + f i else acc) 0 n 0 = x
      generalize itr (fun i acc => if c i = true then acc + g i else acc) 0 n 0 = y
      apply Int32.toBitVec_inj.mp
      show x.toBitVec + (f n).toBitVec - (y.toBitVec + (g n).toBitVec) = x.toBitVec - y.toBitVec + ((f n).toBitVec - (g n).toBitVec)
      generalize x.toBitVec = a
      generalize y.toBitVec = b
      generalize (f n).toBitVec = d
      generalize (g n).toBitVec = e
      simp only [BitVec.sub_eq_add_neg, BitVec.neg_add]
      ac_rfl
    · rw [if_neg h, if_neg h, if_neg h]
end Match
