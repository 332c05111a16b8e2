/-! ===== the questions, both sides ===== -/
theorem bd_id {α : Type} (x : Option α) : (x.bind fun v => some v) = x := by cases x <;> rfl
def QA (a b : Option Int32) : Prop := ∃ r, a = some r ∧ b = some r
theorem qa_of {a b : Option Int32} {r : Int32} (h1 : a = some r) (h2 : b = some r) : QA a b := ⟨r, h1, h2⟩
theorem z_sub {a b : Nat} (h : b ≤ a) : nI a - nI b = nI (a - b) := by
  have e : nI a = nI (a - b) + nI b := by rw [nI_add]; congr 1; omega
  rw [e, Int32.add_sub_cancel]
theorem z_gt0 {n : Nat} (h0 : 0 < n) (h : n < 2 ^ 31) : 0 < nI n := by
  rw [z_lti, nI_toInt h]
  have e0 : (0 : Int32).toInt = 0 := by decide
  omega
theorem z_ne0 {n : Nat} (h0 : 0 < n) (h : n < 2 ^ 31) : ¬ nI n = 0 := fun q => by
  have h1 := congrArg Int32.toInt q
  rw [nI_toInt h] at h1
  have e0 : (0 : Int32).toInt = 0 := by decide
  omega
theorem smS_nat {n : Nat} {c : Nat → Bool} {f : Nat → Int32} {g : Nat → Nat} (h : ∀ i, i < n → f i = nI (g i)) : smS n c f = nI (sumN n (fun i => if c i = true then g i else 0)) := by
  have := itr_sum (g := fun i acc => if c i = true then acc + f i else acc) (f := fun i => if c i = true then g i else 0) n 0 (fun i x hi => by
    by_cases q : c i = true
    · rw [if_pos q, if_pos q, h i hi]
    · rw [if_neg q, if_neg q]
      exact (Int32.add_zero x).symm)
  rw [Nat.zero_add] at this
  exact this
theorem z_bl {j m : Nat} (hj : j ≤ m) (hm : m ≤ 4095) : ¬ bi (0 ≤ nI j ∧ nI j ≤ nI m) = 0 := fun z => bi_0.mp z ⟨nI_pos' (by omega), by rw [z_le (by omega) (by omega)]; exact hj⟩
theorem z_bo {q : Int32} {m : Nat} (hm : m < 4095) (h : q < 0 ∨ nI (m + 1) ≤ q) : bi (0 ≤ q ∧ q ≤ nI m) = 0 := bi_0.mpr (fun z => by
  obtain ⟨z1, z2⟩ := z
  rw [z_lei] at z1 z2
  rw [nI_toInt (by omega)] at z2
  have e0 : (0 : Int32).toInt = 0 := by decide
  rcases h with h | h
  · rw [z_lti] at h
    omega
  · rw [z_lei, nI_toInt (by omega)] at h
    omega)
section Query
variable {fu k : Nat} {σ : gSt} {v : gV}
theorem zm_rdS' (hS : ∀ s, s < 6 → σ (k + 1) (276 + s) = vS v s) {s : Nat} (hs : s < 6) : rd 284 σ (k + 1) (276 + nI s) = some (vS v s) := by
  rw [rdN (276 + s) (z_plus 276 s) (by omega) (by omega), hS s hs]
theorem zm_voiceFor (hf : 6 < fu) (hS : ∀ s, s < 6 → σ (k + 1) (276 + s) = vS v s) (hs : WS v) {p a : Nat} (hp : p < 4096) (ha : a ≤ 200) (hA : σ (k + 1) 283 = nI a) : f_X10_voiceFor fu σ k (nI p) = some (clS (vS v) (nI p) (nI a)).1 := by
  have key := lpU (fun n i (t : Int32 × Int32) => f_X10_voiceFor_W4 fu σ k (nI p) n t.1 (nI i)) 6 (fun i t => if vS v i ≠ 0 ∧ dist (vS v i) (nI p) < t.2 then (nI i, dist (vS v i) (nI p)) else t) (fun t => some t.1) (fun _ t => t = (-1, nI a + 1) ∨ ∃ b d : Nat, b < 6 ∧ d ≤ a ∧ t = (nI b, nI d) ∧ dist (vS v b) (nI p) = nI d) (fun n i t hi hI => ?_) (fun n t hI => ?_) fu 0 (-1, nI a + 1) (by omega) (by omega) (Or.inl rfl)
  · exact key
  · show f_X10_voiceFor_W4 fu σ k (nI p) (n + 1) t.1 (nI i) = f_X10_voiceFor_W4 fu σ k (nI p) n (if vS v i ≠ 0 ∧ dist (vS v i) (nI p) < t.2 then (nI i, dist (vS v i) (nI p)) else t).1 (nI (i + 1)) ∧ ((if vS v i ≠ 0 ∧ dist (vS v i) (nI p) < t.2 then (nI i, dist (vS v i) (nI p)) else t) = (-1, nI a + 1) ∨ ∃ b d : Nat, b < 6 ∧ d ≤ a ∧ (if vS v i ≠ 0 ∧ dist (vS v i) (nI p) < t.2 then (nI i, dist (vS v i) (nI p)) else t) = (nI b, nI d) ∧ dist (vS v b) (nI p) = nI d)
    obtain ⟨s1, s2⟩ := ws_ns hs hi
    have hdl : dN (ns v i) p < 4096 := dN_lt (by omega) hp
    have hd : dist (vS v i) (nI p) = nI (dN (ns v i) p) := (congrArg (fun x => dist x (nI p)) s1).trans (dist_N (by omega) hp)
    rw [f_X10_voiceFor_W4_s]
    unfold f_X10_voiceFor_L4 f_X10_voiceFor_J53
    rw [if_neg (show ¬ 6 ≤ nI i from zo_le (n := 6) hi (by omega)), zm_rdS' hS hi, bd_some, hA, z_add1]
    by_cases h0 : vS v i = 0
    · rw [if_pos ((sS0 hs hi).mpr h0), if_pos rfl, if_neg (show ¬ (vS v i ≠ 0 ∧ dist (vS v i) (nI p) < t.2) from fun q => q.1 h0)]
      exact ⟨rfl, hI⟩
    · rw [if_neg (fun q => h0 ((sS0 hs hi).mp q)), bd_some, zm_far, bd_some, hd, lt_eq]
      rcases hI with rfl | ⟨b, d, hb, hda, rfl, hbd⟩
      · by_cases q : dN (ns v i) p ≤ a
        · rw [if_neg (show ¬ nI a < nI (dN (ns v i) p) by rw [z_lt (by omega) (by omega)]; omega), if_neg (show ¬ (1 : Int32) = 0 by decide), if_pos (show ((-1 : Int32), nI a + 1).1 < 0 from (by decide : (-1 : Int32) < 0)), if_pos (show vS v i ≠ 0 ∧ nI (dN (ns v i) p) < ((-1 : Int32), nI a + 1).2 from ⟨h0, by show nI (dN (ns v i) p) < nI a + 1; rw [z_add1, z_lt (by omega) (by omega)]; omega⟩)]
          exact ⟨rfl, Or.inr ⟨i, _, hi, q, rfl, hd⟩⟩
        · rw [if_pos (show nI a < nI (dN (ns v i) p) by rw [z_lt (by omega) (by omega)]; omega), if_pos rfl, if_neg (show ¬ (vS v i ≠ 0 ∧ nI (dN (ns v i) p) < ((-1 : Int32), nI a + 1).2) from fun z => by have z2 : nI (dN (ns v i) p) < nI a + 1 := z.2; rw [z_add1, z_lt (by omega) (by omega)] at z2; omega)]
          exact ⟨rfl, Or.inl rfl⟩
      · by_cases q : dN (ns v i) p ≤ a
        · rw [if_neg (show ¬ nI a < nI (dN (ns v i) p) by rw [z_lt (by omega) (by omega)]; omega), if_neg (show ¬ (1 : Int32) = 0 by decide), if_neg (show ¬ (nI b, nI d).1 < 0 from z_neg (by omega)), bd_some, zm_far, bd_some, hd, show rd 284 σ (k + 1) (276 + (nI b, nI d).1) = some (vS v b) from zm_rdS' hS hb, bd_some, zm_far, bd_some, hbd, lt_eq]
          by_cases c : dN (ns v i) p < d
          · rw [if_neg (show ¬ nI d ≤ nI (dN (ns v i) p) by rw [z_le (by omega) (by omega)]; omega), if_pos (show vS v i ≠ 0 ∧ nI (dN (ns v i) p) < (nI b, nI d).2 from ⟨h0, by show nI (dN (ns v i) p) < nI d; rw [z_lt (by omega) (by omega)]; exact c⟩)]
            exact ⟨rfl, Or.inr ⟨i, _, hi, q, rfl, hd⟩⟩
          · rw [if_pos (show nI d ≤ nI (dN (ns v i) p) by rw [z_le (by omega) (by omega)]; omega), if_neg (show ¬ (vS v i ≠ 0 ∧ nI (dN (ns v i) p) < (nI b, nI d).2) from fun z => by have z2 : nI (dN (ns v i) p) < nI d := z.2; rw [z_lt (by omega) (by omega)] at z2; omega)]
            exact ⟨rfl, Or.inr ⟨b, d, hb, hda, rfl, hbd⟩⟩
        · rw [if_pos (show nI a < nI (dN (ns v i) p) by rw [z_lt (by omega) (by omega)]; omega), if_pos rfl, if_neg (show ¬ (vS v i ≠ 0 ∧ nI (dN (ns v i) p) < (nI b, nI d).2) from fun z => by have z2 : nI (dN (ns v i) p) < nI d := z.2; rw [z_lt (by omega) (by omega)] at z2; omega)]
          exact ⟨rfl, Or.inr ⟨b, d, hb, hda, rfl, hbd⟩⟩
  · show f_X10_voiceFor_W4 fu σ k (nI p) (n + 1) t.1 (nI 6) = some t.1
    rw [f_X10_voiceFor_W4_s]
    unfold f_X10_voiceFor_L4
    rw [if_pos (show 6 ≤ nI 6 by decide)]
/-- the closest speaker, or none -/
theorem clS_v (hs : WS v) {p a : Nat} (hp : p < 4096) (ha : a ≤ 200) : (clS (vS v) (nI p) (nI a)).1 = -1 ∨ ∃ b, b < 6 ∧ (clS (vS v) (nI p) (nI a)).1 = nI b ∧ vS v b ≠ 0 := by
  have key := itr_inv (f := fun i (t : Int32 × Int32) => if vS v i ≠ 0 ∧ dist (vS v i) (nI p) < t.2 then (nI i, dist (vS v i) (nI p)) else t) (fun _ t => t.1 = -1 ∨ ∃ b, b < 6 ∧ t.1 = nI b ∧ vS v b ≠ 0) 6 0 (-1, nI a + 1) (Or.inl rfl) (fun j t _ hj hI => by
    show (if vS v j ≠ 0 ∧ dist (vS v j) (nI p) < t.2 then (nI j, dist (vS v j) (nI p)) else t).1 = -1 ∨ ∃ b, b < 6 ∧ (if vS v j ≠ 0 ∧ dist (vS v j) (nI p) < t.2 then (nI j, dist (vS v j) (nI p)) else t).1 = nI b ∧ vS v b ≠ 0
    split
    · next q => exact Or.inr ⟨j, by omega, rfl, q.1⟩
    · exact hI)
  exact key
end Query
section Query2
variable {fu : Nat} {σ : gSt} {v : gV}
theorem q_turnOf (hf : 2000 < fu) (h : RC 10 v σ) (h' : RM 95 0 v σ) (hW : WF v) (p q : Int32) : QA (f_X9_turnOf fu σ 0 p q) (f_X10_turnOf fu σ 94 p q) := by
  obtain ⟨hw, hs, ho, hT, hA, a, ha, hva⟩ := hW
  have hb := tb_of hT hA
  have h20 := hw.1
  unfold f_X9_turnOf f_X10_turnOf f_X5_ofTurn f_X10_turnOf_J77 f_X10_turnOf_J90 f_X10_turnOf_J100
  simp only [bd_id]
  rcases ix_cases (vn v) p (by omega) with ⟨i, hi, rfl, -⟩ | ⟨hp, hpn⟩
  · rw [show f_X8_has fu σ (0 + 1 + 10) (nI i) = some 1 from zt_has (k := 11) h.1 hw hi, bd_some, if_neg (show ¬ (1 : Int32) = 0 by decide), zm_isTurn_in (k := 94) h' hw hi, bd_some, if_neg (show ¬ (1 : Int32) = 0 by decide), zm_in, bd_some]
    rcases z_ix q (n := 8) (by omega) with ⟨j, hj, rfl⟩ | hq
    · rw [if_neg (show ¬ bi (0 ≤ nI j ∧ nI j ≤ 7) = 0 from z_bl (m := 7) (by omega) (by omega))]
      match j, hj with
      | 0, _ =>
        simp only [if_pos (show nI 0 = 0 from rfl), if_neg (show ¬ nI 0 = 1 by decide), if_neg (show ¬ nI 0 = 2 by decide), if_neg (show ¬ nI 0 = 3 by decide), if_neg (show ¬ nI 0 = 4 by decide), if_neg (show ¬ nI 0 = 5 by decide), if_neg (show ¬ nI 0 = 6 by decide), if_neg (show ¬ nI 0 = 7 by decide), if_neg (show ¬ nI 0 = 8 by decide)]
        exact qa_of (zt_begin (k := 11) h.1 hw hi) (zm_B (k := 94) h' hw hi)
      | 1, _ =>
        simp only [if_neg (show ¬ nI 1 = 0 by decide), if_pos (show nI 1 = 1 from rfl), if_neg (show ¬ nI 1 = 2 by decide), if_neg (show ¬ nI 1 = 3 by decide), if_neg (show ¬ nI 1 = 4 by decide), if_neg (show ¬ nI 1 = 5 by decide), if_neg (show ¬ nI 1 = 6 by decide), if_neg (show ¬ nI 1 = 7 by decide), if_neg (show ¬ nI 1 = 8 by decide)]
        exact qa_of (zt_end (k := 11) h.1 hw hi) (zm_E (k := 94) h' hw hi)
      | 2, _ =>
        simp only [if_neg (show ¬ nI 2 = 0 by decide), if_neg (show ¬ nI 2 = 1 by decide), if_pos (show nI 2 = 2 from rfl), if_neg (show ¬ nI 2 = 3 by decide), if_neg (show ¬ nI 2 = 4 by decide), if_neg (show ¬ nI 2 = 5 by decide), if_neg (show ¬ nI 2 = 6 by decide), if_neg (show ¬ nI 2 = 7 by decide), if_neg (show ¬ nI 2 = 8 by decide)]
        exact qa_of (zt_pitch (k := 11) h.1 hw hi) (zm_P (k := 94) h' hw hi)
      | 3, _ =>
        simp only [if_neg (show ¬ nI 3 = 0 by decide), if_neg (show ¬ nI 3 = 1 by decide), if_neg (show ¬ nI 3 = 2 by decide), if_pos (show nI 3 = 3 from rfl), if_neg (show ¬ nI 3 = 4 by decide), if_neg (show ¬ nI 3 = 5 by decide), if_neg (show ¬ nI 3 = 6 by decide), if_neg (show ¬ nI 3 = 7 by decide), if_neg (show ¬ nI 3 = 8 by decide)]
        rw [show f_X8_ownerOf fu σ (0 + 1 + 10) (nI i) = some (vO v i) from zt_owner (k := 11) h.1 hw hi, bd_some, zm_O (k := 94) h' hw hi, bd_some]
        unfold f_X5_orNotFound
        rcases ws_no hs hi with q | ⟨q, q6, -⟩
        · rw [q, if_pos rfl, if_neg (by decide)]
          exact ⟨_, rfl, rfl⟩
        · rw [q, if_neg (z_m1 _ (by omega)), if_pos (nI_pos' (by omega))]
          exact ⟨_, rfl, rfl⟩
      | 4, _ =>
        simp only [if_neg (show ¬ nI 4 = 0 by decide), if_neg (show ¬ nI 4 = 1 by decide), if_neg (show ¬ nI 4 = 2 by decide), if_neg (show ¬ nI 4 = 3 by decide), if_pos (show nI 4 = 4 from rfl), if_neg (show ¬ nI 4 = 5 by decide), if_neg (show ¬ nI 4 = 6 by decide), if_neg (show ¬ nI 4 = 7 by decide), if_neg (show ¬ nI 4 = 8 by decide)]
        exact qa_of (zt_count (k := 11) h.1 hw hi) (zm_C (k := 94) h' hw hi)
      | 5, _ =>
        simp only [if_neg (show ¬ nI 5 = 0 by decide), if_neg (show ¬ nI 5 = 1 by decide), if_neg (show ¬ nI 5 = 2 by decide), if_neg (show ¬ nI 5 = 3 by decide), if_neg (show ¬ nI 5 = 4 by decide), if_pos (show nI 5 = 5 from rfl), if_neg (show ¬ nI 5 = 6 by decide), if_neg (show ¬ nI 5 = 7 by decide), if_neg (show ¬ nI 5 = 8 by decide)]
        rw [lt_eq, zm_overlapping0 (k := 94) (by omega) h' hw hi]
        exact qa_of (zt_overlapping (k := 11) (by omega) h.1 hw hi) rfl
      | 6, _ =>
        simp only [if_neg (show ¬ nI 6 = 0 by decide), if_neg (show ¬ nI 6 = 1 by decide), if_neg (show ¬ nI 6 = 2 by decide), if_neg (show ¬ nI 6 = 3 by decide), if_neg (show ¬ nI 6 = 4 by decide), if_neg (show ¬ nI 6 = 5 by decide), if_pos (show nI 6 = 6 from rfl), if_neg (show ¬ nI 6 = 7 by decide), if_neg (show ¬ nI 6 = 8 by decide)]
        rw [lt_eq, zm_overlapping1 (k := 94) (by omega) h' hw hs hi]
        exact qa_of (zt_interruptedBy (k := 11) (by omega) h.1 hw hi) rfl
      | 7, _ =>
        simp only [if_neg (show ¬ nI 7 = 0 by decide), if_neg (show ¬ nI 7 = 1 by decide), if_neg (show ¬ nI 7 = 2 by decide), if_neg (show ¬ nI 7 = 3 by decide), if_neg (show ¬ nI 7 = 4 by decide), if_neg (show ¬ nI 7 = 5 by decide), if_neg (show ¬ nI 7 = 6 by decide), if_pos (show nI 7 = 7 from rfl), if_neg (show ¬ nI 7 = 8 by decide)]
        exact qa_of (zt_alone (k := 11) (by omega) h.1 hw ho hi) (zm_alone (k := 94) hf h' hw hi)
    · rw [if_pos (show bi (0 ≤ q ∧ q ≤ 7) = 0 from z_bo (m := 7) (by omega) hq)]
      simp only [if_neg (show ¬ q = 0 from z_out hq (i := 0) (by omega) (by omega)), if_neg (show ¬ q = 1 from z_out hq (i := 1) (by omega) (by omega)), if_neg (show ¬ q = 2 from z_out hq (i := 2) (by omega) (by omega)), if_neg (show ¬ q = 3 from z_out hq (i := 3) (by omega) (by omega)), if_neg (show ¬ q = 4 from z_out hq (i := 4) (by omega) (by omega)), if_neg (show ¬ q = 5 from z_out hq (i := 5) (by omega) (by omega)), if_neg (show ¬ q = 6 from z_out hq (i := 6) (by omega) (by omega)), if_neg (show ¬ q = 7 from z_out hq (i := 7) (by omega) (by omega))]
      exact ⟨_, rfl, rfl⟩
  · rw [show f_X8_has fu σ (0 + 1 + 10) p = some 0 from zt_has_out (k := 11) h.1 hp, bd_some, if_pos rfl, zm_isTurn (k := 94) h' hw, hpn, bd_some, if_pos (by decide)]
    exact ⟨_, rfl, rfl⟩
theorem q_termAt (hf : 2000 < fu) (h : RC 10 v σ) (h' : RM 95 0 v σ) (hW : WF v) (p i q : Int32) : QA (f_X9_termAt fu σ 0 p i q) (f_X10_termAt fu σ 94 p i q) := by
  obtain ⟨hw, hs, ho, hT, hA, a, ha, hva⟩ := hW
  have hb := tb_of hT hA
  have h20 := hw.1
  unfold f_X9_termAt f_X10_termAt f_X5_ofPlace
  simp only [bd_id]
  rcases ix_cases (vn v) p (by omega) with ⟨j, hj, rfl, -⟩ | ⟨hp, hpn⟩
  · have h8 := (hw.2.2 j hj).1
    rw [show f_X8_has fu σ (0 + 1 + 10) (nI j) = some 1 from zt_has (k := 11) h.1 hw hj, bd_some, if_neg (show ¬ (1 : Int32) = 0 by decide), zm_isTurn_in (k := 94) h' hw hj, bd_some, if_neg (show ¬ (1 : Int32) = 0 by decide), zm_in, z_within]
    by_cases hi : i < 0
    · rw [if_pos hi, if_pos hi]
      exact ⟨_, rfl, rfl⟩
    · rw [if_neg hi, if_neg hi, bd_some, bd_some, show f_X8_termCountOf fu σ (0 + 1 + 10) (nI j) = some (nI (vC v j)) from zt_count (k := 11) h.1 hw hj, bd_some, zm_C (k := 94) h' hw hj, bd_some]
      by_cases hq : 0 ≤ q ∧ q ≤ 1
      · rw [if_neg (fun z => bi_0.mp z hq), if_neg (fun z => bi_0.mp z hq)]
        rcases z_ix i (n := vC v j) (by omega) with ⟨l, hl, rfl⟩ | hl
        · have hq16 := (hw.2.2 j hj).2 l hl
          rw [if_pos (zl_lt hl (by omega)), if_pos (zl_lt hl (by omega)), show f_X8_toldTerm fu σ (0 + 1 + 10) (nI j) (nI l) = some (nI (vQ v j l)) from zt_told (k := 11) h.1 hw hj hl, bd_some, zm_Q (k := 94) h' hw hj hl, bd_some]
          by_cases q0 : q = 0
          · rw [if_pos q0, if_pos q0]
            exact ⟨_, rfl, rfl⟩
          · rw [if_neg q0, if_neg q0]
            exact qa_of (zc_shown (k := 18) (by omega) h.2.1 hT hq16) (zm_shown (k := 94) (by omega) h' hT hb hq16)
        · have hn : ¬ i < nI (vC v j) := by
            rcases hl with hl | hl
            · exact absurd hl hi
            · intro z
              rw [z_lei] at hl
              rw [z_lti] at z
              omega
          rw [if_neg hn, if_neg hn]
          exact ⟨_, rfl, rfl⟩
      · rw [if_pos (bi_0.mpr hq), if_pos (bi_0.mpr hq)]
        exact ⟨_, rfl, rfl⟩
  · rw [show f_X8_has fu σ (0 + 1 + 10) p = some 0 from zt_has_out (k := 11) h.1 hp, bd_some, if_pos rfl, zm_isTurn (k := 94) h' hw, hpn, bd_some, if_pos (by decide)]
    exact ⟨_, rfl, rfl⟩
theorem q_termOf (hf : 2000 < fu) (h : RC 10 v σ) (h' : RM 95 0 v σ) (hW : WF v) (p q : Int32) : QA (f_X9_termOf fu σ 0 p q) (f_X10_termOf fu σ 94 p q) := by
  obtain ⟨hw, hs, ho, hT, hA, a, ha, hva⟩ := hW
  have hb := tb_of hT hA
  have h20 := hw.1
  unfold f_X9_termOf f_X10_termOf f_X5_ofTerm f_X10_termOf_J111
  simp only [bd_id]
  rw [z_term, bd_some, zm_isTerm, bd_some, zm_in, bd_some]
  rcases z_ix16 p with ⟨i, hi, rfl, hp⟩ | ⟨hp, -⟩
  · rw [if_neg (fun z => bi_0.mp z hp), if_neg (fun z => bi_0.mp z hp)]
    rcases z_ix q (n := 7) (by omega) with ⟨j, hj, rfl⟩ | hq
    · rw [if_neg (show ¬ bi (0 ≤ nI j ∧ nI j ≤ 6) = 0 from z_bl (m := 6) (by omega) (by omega))]
      match j, hj with
      | 0, _ =>
        simp only [if_pos (show nI 0 = 0 from rfl), if_neg (show ¬ nI 0 = 1 by decide), if_neg (show ¬ nI 0 = 2 by decide), if_neg (show ¬ nI 0 = 3 by decide), if_neg (show ¬ nI 0 = 4 by decide), if_neg (show ¬ nI 0 = 5 by decide), if_neg (show ¬ nI 0 = 6 by decide), if_neg (show ¬ nI 0 = 7 by decide), if_neg (show ¬ nI 0 = 8 by decide)]
        rw [show f_X0_targetOf fu σ (0 + 1 + 17) (nI i) = some (en (vT v i)) from zc_targetOf (k := 18) h.2.1 hT hi, bd_some, zm_rdT (k := 94) h' hi, bd_some]
        unfold f_X5_orNotFound
        have ht := hT i hi
        by_cases q : vT v i = 0
        · rw [if_pos ((en_m1 ht).mpr q), if_neg (fun z => (en_nn ht).mp z q)]
          exact ⟨_, rfl, rfl⟩
        · rw [if_neg (fun z => q ((en_m1 ht).mp z)), if_pos ((en_nn ht).mpr q)]
          exact ⟨_, rfl, rfl⟩
      | 1, _ =>
        simp only [if_neg (show ¬ nI 1 = 0 by decide), if_pos (show nI 1 = 1 from rfl), if_neg (show ¬ nI 1 = 2 by decide), if_neg (show ¬ nI 1 = 3 by decide), if_neg (show ¬ nI 1 = 4 by decide), if_neg (show ¬ nI 1 = 5 by decide), if_neg (show ¬ nI 1 = 6 by decide), if_neg (show ¬ nI 1 = 7 by decide), if_neg (show ¬ nI 1 = 8 by decide)]
        exact qa_of (zc_shown (k := 18) (by omega) h.2.1 hT hi) (zm_shown (k := 94) (by omega) h' hT hb hi)
      | 2, _ =>
        simp only [if_neg (show ¬ nI 2 = 0 by decide), if_neg (show ¬ nI 2 = 1 by decide), if_pos (show nI 2 = 2 from rfl), if_neg (show ¬ nI 2 = 3 by decide), if_neg (show ¬ nI 2 = 4 by decide), if_neg (show ¬ nI 2 = 5 by decide), if_neg (show ¬ nI 2 = 6 by decide), if_neg (show ¬ nI 2 = 7 by decide), if_neg (show ¬ nI 2 = 8 by decide)]
        exact qa_of (zc_chain (k := 18) (by omega) h.2.1 hT hi) (zm_chain (k := 94) (by omega) h' hT hb hi)
      | 3, _ =>
        simp only [if_neg (show ¬ nI 3 = 0 by decide), if_neg (show ¬ nI 3 = 1 by decide), if_neg (show ¬ nI 3 = 2 by decide), if_pos (show nI 3 = 3 from rfl), if_neg (show ¬ nI 3 = 4 by decide), if_neg (show ¬ nI 3 = 5 by decide), if_neg (show ¬ nI 3 = 6 by decide), if_neg (show ¬ nI 3 = 7 by decide), if_neg (show ¬ nI 3 = 8 by decide)]
        exact qa_of ((zy_placesShowing (by omega) h hw hT hi).trans (by rw [places_eq hw])) (zm_showing3 (k := 94) (by omega) h' hw hs hT hb hi)
      | 4, _ =>
        simp only [if_neg (show ¬ nI 4 = 0 by decide), if_neg (show ¬ nI 4 = 1 by decide), if_neg (show ¬ nI 4 = 2 by decide), if_neg (show ¬ nI 4 = 3 by decide), if_pos (show nI 4 = 4 from rfl), if_neg (show ¬ nI 4 = 5 by decide), if_neg (show ¬ nI 4 = 6 by decide), if_neg (show ¬ nI 4 = 7 by decide), if_neg (show ¬ nI 4 = 8 by decide)]
        exact qa_of (zy_turnsShowing (by omega) h hw hT hi) (zm_showing4 (k := 94) (by omega) h' hw hs hT hb hi)
      | 5, _ =>
        simp only [if_neg (show ¬ nI 5 = 0 by decide), if_neg (show ¬ nI 5 = 1 by decide), if_neg (show ¬ nI 5 = 2 by decide), if_neg (show ¬ nI 5 = 3 by decide), if_neg (show ¬ nI 5 = 4 by decide), if_pos (show nI 5 = 5 from rfl), if_neg (show ¬ nI 5 = 6 by decide), if_neg (show ¬ nI 5 = 7 by decide), if_neg (show ¬ nI 5 = 8 by decide)]
        exact qa_of (zy_speakersShowing (by omega) h hw hT hi) (zm_showing5 (k := 94) (by omega) h' hw hs hT hb hi)
      | 6, _ =>
        simp only [if_neg (show ¬ nI 6 = 0 by decide), if_neg (show ¬ nI 6 = 1 by decide), if_neg (show ¬ nI 6 = 2 by decide), if_neg (show ¬ nI 6 = 3 by decide), if_neg (show ¬ nI 6 = 4 by decide), if_neg (show ¬ nI 6 = 5 by decide), if_pos (show nI 6 = 6 from rfl), if_neg (show ¬ nI 6 = 7 by decide), if_neg (show ¬ nI 6 = 8 by decide)]
        exact qa_of (zc_shownAs (k := 18) (by omega) h.2.1 hT (nI i)) (zm_shownAs (k := 94) (by omega) h' hT hb (nI i))
    · rw [if_pos (show bi (0 ≤ q ∧ q ≤ 6) = 0 from z_bo (m := 6) (by omega) hq)]
      simp only [if_neg (show ¬ q = 0 from z_out hq (i := 0) (by omega) (by omega)), if_neg (show ¬ q = 1 from z_out hq (i := 1) (by omega) (by omega)), if_neg (show ¬ q = 2 from z_out hq (i := 2) (by omega) (by omega)), if_neg (show ¬ q = 3 from z_out hq (i := 3) (by omega) (by omega)), if_neg (show ¬ q = 4 from z_out hq (i := 4) (by omega) (by omega)), if_neg (show ¬ q = 5 from z_out hq (i := 5) (by omega) (by omega)), if_neg (show ¬ q = 6 from z_out hq (i := 6) (by omega) (by omega))]
      exact ⟨_, rfl, rfl⟩
  · rw [if_pos (bi_0.mpr hp), if_pos (bi_0.mpr hp)]
    exact ⟨_, rfl, rfl⟩
theorem q_secs (h : RC 10 v σ) (hw : WT v) (hf : 20 < fu) (x : Int32) : f_X8_secondsOfAll fu σ 11 x = some (smS (vn v) (fun i => decide (vO v i = x)) (fun i => vE v i - vB v i)) := by
  unfold f_X8_secondsOfAll
  rw [show f_X8_sumOf fu σ 11 (11 + 2) 20 x = some (smS (vn v) (fun i => decide (vO v i = x)) (vE v)) from zt_sumOf (k := 11) hf h.1 hw x 13 (fun i hi => (h.1.2 i hi).2.1), bd_some, show f_X8_sumOf fu σ 11 (11 + 1) 20 x = some (smS (vn v) (fun i => decide (vO v i = x)) (vB v)) from zt_sumOf (k := 11) hf h.1 hw x 12 (fun i hi => (h.1.2 i hi).1), bd_some, sub_sum]
theorem q_terms (h : RC 10 v σ) (hw : WT v) (hf : 20 < fu) (x : Int32) : f_X8_termsOfAll fu σ 11 x = some (smS (vn v) (fun i => decide (vO v i = x)) (fun i => nI (vC v i))) := by
  unfold f_X8_termsOfAll
  rw [show f_X8_sumOf fu σ 11 (11 + 5) 20 x = some (smS (vn v) (fun i => decide (vO v i = x)) (fun i => nI (vC v i))) from zt_sumOf (k := 11) hf h.1 hw x 16 (fun i hi => (h.1.2 i hi).2.2.2.2.1), bd_some]
theorem q_rate (hf : 2000 < fu) (h : RC 10 v σ) (h' : RM 95 0 v σ) (hW : WF v) (x : Int32) : QA (f_X5_bitsOfTermsByMinute fu σ 1 x) (f_X10_byMinute fu σ 94 x) := by
  obtain ⟨hw, hs, ho, hT, hA, a, ha, hva⟩ := hW
  have hb := tb_of hT hA
  have h20 := hw.1
  unfold f_X5_bitsOfTermsByMinute f_X10_byMinute f_X10_byMinute_J25
  simp only [bd_id]
  have eS : smS (vn v) (fun i => decide (vO v i = x)) (fun i => vE v i - vB v i) = nI (sumN (vn v) (fun i => if decide (vO v i = x) = true then ne v i - nb v i else 0)) := smS_nat (fun i hi => by
    obtain ⟨b1, b2, b3, b4⟩ := wt_nat hw hi
    have : vE v i - vB v i = nI (ne v i) - nI (nb v i) := congr (congrArg _ b2) b1
    rw [this, z_sub (by omega)])
  have eC : smS (vn v) (fun i => decide (vO v i = x)) (fun i => nI (vC v i)) = nI (sumN (vn v) (fun i => if decide (vO v i = x) = true then vC v i else 0)) := smS_nat (fun i _ => rfl)
  have bS : sumN (vn v) (fun i => if decide (vO v i = x) = true then ne v i - nb v i else 0) ≤ vn v * 1999 := sumN_le _ (fun i hi => by
    obtain ⟨b1, b2, b3, b4⟩ := wt_nat hw hi
    show (if decide (vO v i = x) = true then ne v i - nb v i else 0) ≤ 1999
    split <;> omega)
  have bC : sumN (vn v) (fun i => if decide (vO v i = x) = true then vC v i else 0) ≤ vn v * 8 := sumN_le _ (fun i hi => by
    have := (hw.2.2 i hi).1
    show (if decide (vO v i = x) = true then vC v i else 0) ≤ 8
    split <;> omega)
  rw [show f_X8_secondsOfAll fu σ (1 + 10) x = _ from q_secs h hw (by omega) x, bd_some, show f_X8_termsOfAll fu σ (1 + 10) x = _ from q_terms h hw (by omega) x, bd_some, zm_secondsOf (k := 94) (by omega) h' hw, bd_some, zm_termsOf0 (k := 94) (by omega) h' hw, bd_some, eS, eC]
  generalize sumN (vn v) (fun i => if decide (vO v i = x) = true then ne v i - nb v i else 0) = S at *
  generalize sumN (vn v) (fun i => if decide (vO v i = x) = true then vC v i else 0) = C at *
  rcases Nat.eq_zero_or_pos S with q | q
  · subst q
    obtain ⟨y, z, e1, e2, -, -⟩ := fl_rate (fu := fu) (σ := σ) (by omega) (a := C) (s := 1) (by omega) (by omega) (by omega)
    rw [if_neg (by decide), e1, bd_some, lt_eq, if_pos (show nI 0 = 0 from rfl), show FP.fdiv y (FP.i2f 1) = FP.fdiv y (FP.i2f (nI 1)) from rfl, e2, bd_some, if_pos (show nI 0 = 0 from rfl)]
    exact ⟨_, rfl, rfl⟩
  · obtain ⟨y, z, e1, e2, e3, e4⟩ := fl_rate (fu := fu) (σ := σ) (by omega) (a := C) (s := S) (by omega) q (by omega)
    rw [if_pos (z_gt0 q (by omega)), e1, bd_some, bd_some, lt_eq, if_neg (z_ne0 q (by omega)), e2, bd_some, bd_some, if_neg (z_ne0 q (by omega)), e3, e4]
    exact ⟨_, rfl, rfl⟩
theorem q_speakerOf (hf : 2000 < fu) (h : RC 10 v σ) (h' : RM 95 0 v σ) (hW : WF v) (p q : Int32) : QA (f_X9_speakerOf fu σ 0 p q) (f_X10_speakerOf fu σ 94 p q) := by
  have hW0 := hW
  obtain ⟨hw, hs, ho, hT, hA, a, ha, hva⟩ := hW
  have hb := tb_of hT hA
  have h20 := hw.1
  unfold f_X9_speakerOf f_X10_speakerOf f_X5_ofSpeaker
  simp only [bd_id]
  rw [show f_X4_has fu σ (0 + 1 + 19) p = some (bi ((vx (vS v) p).isSome = true)) from zs_hasx (k := 20) h.2.2.1 p, bd_some, zm_isVoice (k := 94) h' hs, bd_some, zm_in, bd_some]
  rcases vx_cases (vS v) p with ⟨s, h6, rfl, h0, hx⟩ | ⟨hx, -⟩
  · rw [hx, if_neg (show ¬ bi ((some s).isSome = true) = 0 from fun q => bi_0.mp q rfl), if_neg (show ¬ bi ((some s).isSome = true) = 0 from fun q => bi_0.mp q rfl)]
    rcases z_ix q (n := 7) (by omega) with ⟨j, hj, rfl⟩ | hq
    · rw [if_neg (show ¬ bi (0 ≤ nI j ∧ nI j ≤ 6) = 0 from z_bl (m := 6) (by omega) (by omega))]
      match j, hj with
      | 0, _ =>
        simp only [if_pos (show nI 0 = 0 from rfl), if_neg (show ¬ nI 0 = 1 by decide), if_neg (show ¬ nI 0 = 2 by decide), if_neg (show ¬ nI 0 = 3 by decide), if_neg (show ¬ nI 0 = 4 by decide), if_neg (show ¬ nI 0 = 5 by decide), if_neg (show ¬ nI 0 = 6 by decide), if_neg (show ¬ nI 0 = 7 by decide), if_neg (show ¬ nI 0 = 8 by decide)]
        exact qa_of (zs_pitch (k := 20) h.2.2.1 h6) (zm_rdS (k := 94) h' h6)
      | 1, _ =>
        simp only [if_neg (show ¬ nI 1 = 0 by decide), if_pos (show nI 1 = 1 from rfl), if_neg (show ¬ nI 1 = 2 by decide), if_neg (show ¬ nI 1 = 3 by decide), if_neg (show ¬ nI 1 = 4 by decide), if_neg (show ¬ nI 1 = 5 by decide), if_neg (show ¬ nI 1 = 6 by decide), if_neg (show ¬ nI 1 = 7 by decide), if_neg (show ¬ nI 1 = 8 by decide)]
        exact qa_of (zt_turnsOf (k := 11) (by omega) h.1 hw (nI s)) (zm_turnsOf (k := 94) (by omega) h' hw (nI s))
      | 2, _ =>
        simp only [if_neg (show ¬ nI 2 = 0 by decide), if_neg (show ¬ nI 2 = 1 by decide), if_pos (show nI 2 = 2 from rfl), if_neg (show ¬ nI 2 = 3 by decide), if_neg (show ¬ nI 2 = 4 by decide), if_neg (show ¬ nI 2 = 5 by decide), if_neg (show ¬ nI 2 = 6 by decide), if_neg (show ¬ nI 2 = 7 by decide), if_neg (show ¬ nI 2 = 8 by decide)]
        exact qa_of (q_secs h hw (by omega) (nI s)) (zm_secondsOf (k := 94) (by omega) h' hw (nI s))
      | 3, _ =>
        simp only [if_neg (show ¬ nI 3 = 0 by decide), if_neg (show ¬ nI 3 = 1 by decide), if_neg (show ¬ nI 3 = 2 by decide), if_pos (show nI 3 = 3 from rfl), if_neg (show ¬ nI 3 = 4 by decide), if_neg (show ¬ nI 3 = 5 by decide), if_neg (show ¬ nI 3 = 6 by decide), if_neg (show ¬ nI 3 = 7 by decide), if_neg (show ¬ nI 3 = 8 by decide)]
        exact qa_of (zy_termsShownBy (by omega) h hw hT (nI s)) (zm_termsOf1 (k := 94) (by omega) h' hw hT hb (nI s))
      | 4, _ =>
        simp only [if_neg (show ¬ nI 4 = 0 by decide), if_neg (show ¬ nI 4 = 1 by decide), if_neg (show ¬ nI 4 = 2 by decide), if_neg (show ¬ nI 4 = 3 by decide), if_pos (show nI 4 = 4 from rfl), if_neg (show ¬ nI 4 = 5 by decide), if_neg (show ¬ nI 4 = 6 by decide), if_neg (show ¬ nI 4 = 7 by decide), if_neg (show ¬ nI 4 = 8 by decide)]
        exact qa_of ((zy_interruptionsBy (by omega) h hw (nI s)).trans (congrArg (fun x => some (nI x)) (by_eq hs (nI s) (fun i j => decide (vO v i = nI s) && itp v i j) (fun i j _ _ => rfl)))) (zm_often (k := 94) (by omega) h' hw hs (nI s) (-1) _ (fun i j _ _ => by simp [z_neg (show s < 4096 by omega)]))
      | 5, _ =>
        simp only [if_neg (show ¬ nI 5 = 0 by decide), if_neg (show ¬ nI 5 = 1 by decide), if_neg (show ¬ nI 5 = 2 by decide), if_neg (show ¬ nI 5 = 3 by decide), if_neg (show ¬ nI 5 = 4 by decide), if_pos (show nI 5 = 5 from rfl), if_neg (show ¬ nI 5 = 6 by decide), if_neg (show ¬ nI 5 = 7 by decide), if_neg (show ¬ nI 5 = 8 by decide)]
        exact qa_of ((zy_interruptionsOf (by omega) h hw (nI s)).trans (congrArg (fun x => some (nI x)) (of_eq hs (nI s) (fun i j => decide (vO v j = nI s) && itp v i j) (fun i j _ _ => rfl)))) (zm_often (k := 94) (by omega) h' hw hs (-1) (nI s) _ (fun i j _ _ => by simp [z_neg (show s < 4096 by omega)]))
      | 6, _ =>
        simp only [if_neg (show ¬ nI 6 = 0 by decide), if_neg (show ¬ nI 6 = 1 by decide), if_neg (show ¬ nI 6 = 2 by decide), if_neg (show ¬ nI 6 = 3 by decide), if_neg (show ¬ nI 6 = 4 by decide), if_neg (show ¬ nI 6 = 5 by decide), if_pos (show nI 6 = 6 from rfl), if_neg (show ¬ nI 6 = 7 by decide), if_neg (show ¬ nI 6 = 8 by decide)]
        exact q_rate hf h h' hW0 (nI s)
    · rw [if_pos (show bi (0 ≤ q ∧ q ≤ 6) = 0 from z_bo (m := 6) (by omega) hq)]
      simp only [if_neg (show ¬ q = 0 from z_out hq (i := 0) (by omega) (by omega)), if_neg (show ¬ q = 1 from z_out hq (i := 1) (by omega) (by omega)), if_neg (show ¬ q = 2 from z_out hq (i := 2) (by omega) (by omega)), if_neg (show ¬ q = 3 from z_out hq (i := 3) (by omega) (by omega)), if_neg (show ¬ q = 4 from z_out hq (i := 4) (by omega) (by omega)), if_neg (show ¬ q = 5 from z_out hq (i := 5) (by omega) (by omega)), if_neg (show ¬ q = 6 from z_out hq (i := 6) (by omega) (by omega))]
      exact ⟨_, rfl, rfl⟩
  · rw [hx, if_pos (by decide), if_pos (by decide)]
    exact ⟨_, rfl, rfl⟩
theorem q_during (hf : 2000 < fu) (h : RC 10 v σ) (h' : RM 95 0 v σ) (hW : WF v) (p q : Int32) : QA (f_X9_during fu σ 0 p q) (f_X10_during fu σ 94 p q) := by
  obtain ⟨hw, hs, ho, hT, hA, a, ha, hva⟩ := hW
  have hb := tb_of hT hA
  have h20 := hw.1
  unfold f_X9_during f_X10_during f_X5_ofSecond
  simp only [bd_id]
  rw [z_within, z_within, zm_in, zm_in, bd_some, bd_some, bd_some, bd_some]
  by_cases hp : 0 ≤ p ∧ p ≤ 1999
  · rw [if_neg (fun z => bi_0.mp z hp), if_neg (fun z => bi_0.mp z hp)]
    by_cases hq : 0 ≤ q ∧ q ≤ 1
    · rw [if_neg (fun z => bi_0.mp z hq), if_neg (fun z => bi_0.mp z hq)]
      by_cases q0 : q = 0
      · rw [if_pos q0, if_pos q0]
        exact qa_of (zt_goingOn (k := 11) (by omega) h.1 hw p) (zm_going (k := 94) (by omega) h' hw p)
      · rw [if_neg q0, if_neg q0, zm_going (k := 94) (by omega) h' hw p, bd_some]
        exact qa_of (zt_speakingAt (k := 11) (by omega) h.1 hw p) (zm_voices (k := 94) (by omega) h' hw hs _)
    · rw [if_pos (bi_0.mpr hq), if_pos (bi_0.mpr hq)]
      exact ⟨_, rfl, rfl⟩
  · rw [if_pos (bi_0.mpr hp), if_pos (bi_0.mpr hp)]
    exact ⟨_, rfl, rfl⟩
theorem q_interrupts (hf : 2000 < fu) (h : RC 10 v σ) (h' : RM 95 0 v σ) (hW : WF v) (p q : Int32) : QA (f_X9_interrupts fu σ 0 p q) (f_X10_interrupts fu σ 94 p q) := by
  obtain ⟨hw, hs, ho, hT, hA, a, ha, hva⟩ := hW
  have hb := tb_of hT hA
  have h20 := hw.1
  unfold f_X9_interrupts f_X10_interrupts f_X5_ofInterruptions
  simp only [bd_id]
  rw [show f_X4_has fu σ (0 + 1 + 19) p = some (bi ((vx (vS v) p).isSome = true)) from zs_hasx (k := 20) h.2.2.1 p, bd_some, zm_isVoice (k := 94) h' hs, bd_some, show f_X4_has fu σ (0 + 1 + 19) q = some (bi ((vx (vS v) q).isSome = true)) from zs_hasx (k := 20) h.2.2.1 q, bd_some, zm_isVoice (k := 94) h' hs, bd_some]
  by_cases hp : (vx (vS v) p).isSome = true
  · rw [if_neg (fun z => bi_0.mp z hp), if_neg (fun z => bi_0.mp z hp)]
    by_cases hq : (vx (vS v) q).isSome = true
    · rw [if_neg (fun z => bi_0.mp z hq), if_neg (fun z => bi_0.mp z hq)]
      by_cases e : p = q
      · rw [if_pos e, if_pos e]
        exact ⟨_, rfl, rfl⟩
      · rw [if_neg e, if_neg e]
        have hp0 : ¬ p < 0 := by
          rcases vx_cases (vS v) p with ⟨s, h6, rfl, -, -⟩ | ⟨z, -⟩
          · exact z_neg (by omega)
          · rw [z] at hp
            exact absurd hp (by decide)
        have hq0 : ¬ q < 0 := by
          rcases vx_cases (vS v) q with ⟨s, h6, rfl, -, -⟩ | ⟨z, -⟩
          · exact z_neg (by omega)
          · rw [z] at hq
            exact absurd hq (by decide)
        refine qa_of (zt_interruptions (k := 11) (by omega) h.1 hw p q) ((zm_often (k := 94) (by omega) h' hw hs p q (ipC v p q) (fun i j _ _ => ?_)).trans rfl)
        unfold ipC
        simp [hp0, hq0]
    · rw [if_pos (bi_0.mpr hq), if_pos (bi_0.mpr hq)]
      exact ⟨_, rfl, rfl⟩
  · rw [if_pos (bi_0.mpr hp), if_pos (bi_0.mpr hp)]
    exact ⟨_, rfl, rfl⟩
theorem z_pitch (x : Int32) : (∃ p : Nat, x = nI p ∧ 50 ≤ p ∧ p ≤ 500 ∧ (50 ≤ x ∧ x ≤ 500)) ∨ ¬ (50 ≤ x ∧ x ≤ 500) := by
  by_cases h : 50 ≤ x ∧ x ≤ 500
  · have h1 := h.1
    have h2 := h.2
    rw [z_lei] at h1 h2
    rw [show (50 : Int32).toInt = 50 by decide] at h1
    rw [show (500 : Int32).toInt = 500 by decide] at h2
    refine Or.inl ⟨x.toInt.toNat, ?_, by omega, by omega, h⟩
    apply Int32.toInt_inj.mp
    rw [nI_toInt (by omega)]
    omega
  · exact Or.inr h
theorem zy_closest (hf : 2000 < fu) (h : RC 10 v σ) (h' : RM 95 0 v σ) (hW : WF v) {p : Nat} (hp : p < 4096) : f_X7_closestSpeaker fu σ 10 (nI p) = some (clS (vS v) (nI p) (vA v)).1 := by
  obtain ⟨hw, hs, ho, hT, hA, a, ha, hva⟩ := hW
  have hb := tb_of hT hA
  have h20 := hw.1
  unfold f_X7_closestSpeaker
  rw [h.2.2.2, show f_X4_closestTo fu σ (10 + 10) (nI p) (vA v) = _ from zs_closest (k := 20) (by omega) h.2.2.1 hs.2 hp (vA v), bd_some]
theorem q_nearest (hf : 2000 < fu) (h : RC 10 v σ) (h' : RM 95 0 v σ) (hW : WF v) (p : Int32) : QA (f_X9_nearest fu σ 0 p) (f_X10_nearest fu σ 94 p) := by
  have hW0 := hW
  obtain ⟨hw, hs, ho, hT, hA, a, ha, hva⟩ := hW
  have hb := tb_of hT hA
  have h20 := hw.1
  unfold f_X9_nearest f_X10_nearest f_X5_ofPitch f_X7_isPitch
  simp only [bd_id]
  rw [z_within, bd_some, bi_zb, bd_some, zm_in, bd_some]
  rcases z_pitch p with ⟨x, rfl, x1, x2, hp⟩ | hp
  · rw [if_neg (fun z => bi_0.mp z hp), if_neg (fun z => bi_0.mp z hp), show f_X7_closestSpeaker fu σ (0 + 1 + 9) (nI x) = _ from zy_closest hf h h' hW0 (by omega), bd_some, zm_voiceFor (k := 94) (by omega) (fun s z => rmS (k := 94) h' z) hs (by omega) ha ((rmA (k := 94) h').trans hva), bd_some, hva]
    unfold f_X5_orNotFound
    rcases clS_v hs (p := x) (a := a) (by omega) ha with q | ⟨b, b6, q, -⟩
    · rw [q, if_pos rfl, if_neg (by decide)]
      exact ⟨_, rfl, rfl⟩
    · rw [q, if_neg (z_m1 _ (by omega)), if_pos (nI_pos' (by omega))]
      exact ⟨_, rfl, rfl⟩
  · rw [if_pos (bi_0.mpr hp), if_pos (bi_0.mpr hp)]
    exact ⟨_, rfl, rfl⟩
theorem q_silence (hf : 2000 < fu) (h : RC 10 v σ) (h' : RM 95 0 v σ) (hW : WF v) (p : Int32) : QA (f_X9_silence fu σ 0 p) (f_X10_silence fu σ 94 p) := by
  obtain ⟨hw, hs, ho, hT, hA, a, ha, hva⟩ := hW
  have hb := tb_of hT hA
  have h20 := hw.1
  unfold f_X9_silence
  simp only [bd_id]
  exact qa_of (zy_silence (by omega) h hw p) (zm_silence (k := 94) hf h' hw ho p)
theorem q_doubtful (hf : 2000 < fu) (h : RC 10 v σ) (h' : RM 95 0 v σ) (hW : WF v) (p : Int32) : QA (f_X9_doubtful fu σ 0 p) (f_X10_doubtful fu σ 94 p) := by
  obtain ⟨hw, hs, ho, hT, hA, a, ha, hva⟩ := hW
  have hb := tb_of hT hA
  have h20 := hw.1
  unfold f_X9_doubtful
  simp only [bd_id]
  exact qa_of (zy_doubtful (by omega) h hw hs p) (zm_doubtful (k := 94) (by omega) h' hw hs p)
theorem q_count (hf : 2000 < fu) (h : RC 10 v σ) (h' : RM 95 0 v σ) (hW : WF v) (e1 : σ 8 2 = σ 94 3) (e2 : σ 6 1 = σ 94 6) (q : Int32) : QA (f_X9_count fu σ 0 q) (f_X10_count fu σ 94 q) := by
  obtain ⟨hw, hs, ho, hT, hA, a, ha, hva⟩ := hW
  have hb := tb_of hT hA
  have h20 := hw.1
  unfold f_X9_count f_X10_count f_X5_ofAll f_X10_count_J117 f_X10_count_J128
  simp only [bd_id]
  rcases z_ix q (n := 21) (by omega) with ⟨j, hj, rfl⟩ | hq
  · match j, hj with
    | 0, _ =>
      simp only [if_pos (show nI 0 = 0 from rfl), if_neg (show ¬ nI 0 = 1 by decide), if_neg (show ¬ nI 0 = 2 by decide), if_neg (show ¬ nI 0 = 3 by decide), if_neg (show ¬ nI 0 = 4 by decide), if_neg (show ¬ nI 0 = 5 by decide), if_neg (show ¬ nI 0 = 6 by decide), if_neg (show ¬ nI 0 = 7 by decide), if_neg (show ¬ nI 0 = 8 by decide), if_neg (show ¬ nI 0 = 9 by decide), if_neg (show ¬ nI 0 = 10 by decide), if_neg (show ¬ nI 0 = 11 by decide), if_neg (show ¬ nI 0 = 12 by decide), if_neg (show ¬ nI 0 = 13 by decide), if_neg (show ¬ nI 0 = 14 by decide), if_neg (show ¬ nI 0 = 15 by decide), if_neg (show ¬ nI 0 = 16 by decide), if_neg (show ¬ nI 0 = 17 by decide), if_neg (show ¬ nI 0 = 18 by decide), if_neg (show ¬ nI 0 = 19 by decide), if_neg (show ¬ nI 0 = 20 by decide)]
      exact qa_of (zy_size h) (congrArg some (rmN (k := 94) h'))
    | 1, _ =>
      simp only [if_neg (show ¬ nI 1 = 0 by decide), if_pos (show nI 1 = 1 from rfl), if_neg (show ¬ nI 1 = 2 by decide), if_neg (show ¬ nI 1 = 3 by decide), if_neg (show ¬ nI 1 = 4 by decide), if_neg (show ¬ nI 1 = 5 by decide), if_neg (show ¬ nI 1 = 6 by decide), if_neg (show ¬ nI 1 = 7 by decide), if_neg (show ¬ nI 1 = 8 by decide), if_neg (show ¬ nI 1 = 9 by decide), if_neg (show ¬ nI 1 = 10 by decide), if_neg (show ¬ nI 1 = 11 by decide), if_neg (show ¬ nI 1 = 12 by decide), if_neg (show ¬ nI 1 = 13 by decide), if_neg (show ¬ nI 1 = 14 by decide), if_neg (show ¬ nI 1 = 15 by decide), if_neg (show ¬ nI 1 = 16 by decide), if_neg (show ¬ nI 1 = 17 by decide), if_neg (show ¬ nI 1 = 18 by decide), if_neg (show ¬ nI 1 = 19 by decide), if_neg (show ¬ nI 1 = 20 by decide)]
      rw [show f_X4_asSet fu σ (0 + 1 + 19) = _ from zs_asSet (k := 20) (by omega) h.2.2.1, bd_some, zm_voicesAll (k := 94) (by omega) h' hs, bd_some]
      exact qa_of (z_bitSet fu σ (vS v)) (zm_ones (by omega) σ (n := 6) (by omega) _)
    | 2, _ =>
      simp only [if_neg (show ¬ nI 2 = 0 by decide), if_neg (show ¬ nI 2 = 1 by decide), if_pos (show nI 2 = 2 from rfl), if_neg (show ¬ nI 2 = 3 by decide), if_neg (show ¬ nI 2 = 4 by decide), if_neg (show ¬ nI 2 = 5 by decide), if_neg (show ¬ nI 2 = 6 by decide), if_neg (show ¬ nI 2 = 7 by decide), if_neg (show ¬ nI 2 = 8 by decide), if_neg (show ¬ nI 2 = 9 by decide), if_neg (show ¬ nI 2 = 10 by decide), if_neg (show ¬ nI 2 = 11 by decide), if_neg (show ¬ nI 2 = 12 by decide), if_neg (show ¬ nI 2 = 13 by decide), if_neg (show ¬ nI 2 = 14 by decide), if_neg (show ¬ nI 2 = 15 by decide), if_neg (show ¬ nI 2 = 16 by decide), if_neg (show ¬ nI 2 = 17 by decide), if_neg (show ¬ nI 2 = 18 by decide), if_neg (show ¬ nI 2 = 19 by decide), if_neg (show ¬ nI 2 = 20 by decide)]
      exact qa_of (zt_places (k := 11) (by omega) h.1 hw) (zm_ofTurns2 (k := 94) (by omega) h' hw)
    | 3, _ =>
      simp only [if_neg (show ¬ nI 3 = 0 by decide), if_neg (show ¬ nI 3 = 1 by decide), if_neg (show ¬ nI 3 = 2 by decide), if_pos (show nI 3 = 3 from rfl), if_neg (show ¬ nI 3 = 4 by decide), if_neg (show ¬ nI 3 = 5 by decide), if_neg (show ¬ nI 3 = 6 by decide), if_neg (show ¬ nI 3 = 7 by decide), if_neg (show ¬ nI 3 = 8 by decide), if_neg (show ¬ nI 3 = 9 by decide), if_neg (show ¬ nI 3 = 10 by decide), if_neg (show ¬ nI 3 = 11 by decide), if_neg (show ¬ nI 3 = 12 by decide), if_neg (show ¬ nI 3 = 13 by decide), if_neg (show ¬ nI 3 = 14 by decide), if_neg (show ¬ nI 3 = 15 by decide), if_neg (show ¬ nI 3 = 16 by decide), if_neg (show ¬ nI 3 = 17 by decide), if_neg (show ¬ nI 3 = 18 by decide), if_neg (show ¬ nI 3 = 19 by decide), if_neg (show ¬ nI 3 = 20 by decide)]
      exact qa_of (zc_size (k := 18) (by omega) h.2.1 hT) (zm_corrections (k := 94) (by omega) h' hT)
    | 4, _ =>
      simp only [if_neg (show ¬ nI 4 = 0 by decide), if_neg (show ¬ nI 4 = 1 by decide), if_neg (show ¬ nI 4 = 2 by decide), if_neg (show ¬ nI 4 = 3 by decide), if_pos (show nI 4 = 4 from rfl), if_neg (show ¬ nI 4 = 5 by decide), if_neg (show ¬ nI 4 = 6 by decide), if_neg (show ¬ nI 4 = 7 by decide), if_neg (show ¬ nI 4 = 8 by decide), if_neg (show ¬ nI 4 = 9 by decide), if_neg (show ¬ nI 4 = 10 by decide), if_neg (show ¬ nI 4 = 11 by decide), if_neg (show ¬ nI 4 = 12 by decide), if_neg (show ¬ nI 4 = 13 by decide), if_neg (show ¬ nI 4 = 14 by decide), if_neg (show ¬ nI 4 = 15 by decide), if_neg (show ¬ nI 4 = 16 by decide), if_neg (show ¬ nI 4 = 17 by decide), if_neg (show ¬ nI 4 = 18 by decide), if_neg (show ¬ nI 4 = 19 by decide), if_neg (show ¬ nI 4 = 20 by decide)]
      exact qa_of (zt_turnsOf (k := 11) (by omega) h.1 hw (-1)) (zm_ofTurns4 (k := 94) (by omega) h' hw hs)
    | 5, _ =>
      simp only [if_neg (show ¬ nI 5 = 0 by decide), if_neg (show ¬ nI 5 = 1 by decide), if_neg (show ¬ nI 5 = 2 by decide), if_neg (show ¬ nI 5 = 3 by decide), if_neg (show ¬ nI 5 = 4 by decide), if_pos (show nI 5 = 5 from rfl), if_neg (show ¬ nI 5 = 6 by decide), if_neg (show ¬ nI 5 = 7 by decide), if_neg (show ¬ nI 5 = 8 by decide), if_neg (show ¬ nI 5 = 9 by decide), if_neg (show ¬ nI 5 = 10 by decide), if_neg (show ¬ nI 5 = 11 by decide), if_neg (show ¬ nI 5 = 12 by decide), if_neg (show ¬ nI 5 = 13 by decide), if_neg (show ¬ nI 5 = 14 by decide), if_neg (show ¬ nI 5 = 15 by decide), if_neg (show ¬ nI 5 = 16 by decide), if_neg (show ¬ nI 5 = 17 by decide), if_neg (show ¬ nI 5 = 18 by decide), if_neg (show ¬ nI 5 = 19 by decide), if_neg (show ¬ nI 5 = 20 by decide)]
      exact qa_of (zt_pairs (k := 11) (by omega) h.1 hw) (zm_ofTurns5 (k := 94) (by omega) h' hw)
    | 6, _ =>
      simp only [if_neg (show ¬ nI 6 = 0 by decide), if_neg (show ¬ nI 6 = 1 by decide), if_neg (show ¬ nI 6 = 2 by decide), if_neg (show ¬ nI 6 = 3 by decide), if_neg (show ¬ nI 6 = 4 by decide), if_neg (show ¬ nI 6 = 5 by decide), if_pos (show nI 6 = 6 from rfl), if_neg (show ¬ nI 6 = 7 by decide), if_neg (show ¬ nI 6 = 8 by decide), if_neg (show ¬ nI 6 = 9 by decide), if_neg (show ¬ nI 6 = 10 by decide), if_neg (show ¬ nI 6 = 11 by decide), if_neg (show ¬ nI 6 = 12 by decide), if_neg (show ¬ nI 6 = 13 by decide), if_neg (show ¬ nI 6 = 14 by decide), if_neg (show ¬ nI 6 = 15 by decide), if_neg (show ¬ nI 6 = 16 by decide), if_neg (show ¬ nI 6 = 17 by decide), if_neg (show ¬ nI 6 = 18 by decide), if_neg (show ¬ nI 6 = 19 by decide), if_neg (show ¬ nI 6 = 20 by decide)]
      exact qa_of (zt_any (k := 11) (by omega) h.1 hw ho) (zm_seconds (k := 94) hf h' hw (m := 1) (by omega))
    | 7, _ =>
      simp only [if_neg (show ¬ nI 7 = 0 by decide), if_neg (show ¬ nI 7 = 1 by decide), if_neg (show ¬ nI 7 = 2 by decide), if_neg (show ¬ nI 7 = 3 by decide), if_neg (show ¬ nI 7 = 4 by decide), if_neg (show ¬ nI 7 = 5 by decide), if_neg (show ¬ nI 7 = 6 by decide), if_pos (show nI 7 = 7 from rfl), if_neg (show ¬ nI 7 = 8 by decide), if_neg (show ¬ nI 7 = 9 by decide), if_neg (show ¬ nI 7 = 10 by decide), if_neg (show ¬ nI 7 = 11 by decide), if_neg (show ¬ nI 7 = 12 by decide), if_neg (show ¬ nI 7 = 13 by decide), if_neg (show ¬ nI 7 = 14 by decide), if_neg (show ¬ nI 7 = 15 by decide), if_neg (show ¬ nI 7 = 16 by decide), if_neg (show ¬ nI 7 = 17 by decide), if_neg (show ¬ nI 7 = 18 by decide), if_neg (show ¬ nI 7 = 19 by decide), if_neg (show ¬ nI 7 = 20 by decide)]
      exact qa_of (zt_sev (k := 11) (by omega) h.1 hw ho) (zm_seconds (k := 94) hf h' hw (m := 2) (by omega))
    | 8, _ =>
      simp only [if_neg (show ¬ nI 8 = 0 by decide), if_neg (show ¬ nI 8 = 1 by decide), if_neg (show ¬ nI 8 = 2 by decide), if_neg (show ¬ nI 8 = 3 by decide), if_neg (show ¬ nI 8 = 4 by decide), if_neg (show ¬ nI 8 = 5 by decide), if_neg (show ¬ nI 8 = 6 by decide), if_neg (show ¬ nI 8 = 7 by decide), if_pos (show nI 8 = 8 from rfl), if_neg (show ¬ nI 8 = 9 by decide), if_neg (show ¬ nI 8 = 10 by decide), if_neg (show ¬ nI 8 = 11 by decide), if_neg (show ¬ nI 8 = 12 by decide), if_neg (show ¬ nI 8 = 13 by decide), if_neg (show ¬ nI 8 = 14 by decide), if_neg (show ¬ nI 8 = 15 by decide), if_neg (show ¬ nI 8 = 16 by decide), if_neg (show ¬ nI 8 = 17 by decide), if_neg (show ¬ nI 8 = 18 by decide), if_neg (show ¬ nI 8 = 19 by decide), if_neg (show ¬ nI 8 = 20 by decide)]
      exact qa_of (congrArg some e1) rfl
    | 9, _ =>
      simp only [if_neg (show ¬ nI 9 = 0 by decide), if_neg (show ¬ nI 9 = 1 by decide), if_neg (show ¬ nI 9 = 2 by decide), if_neg (show ¬ nI 9 = 3 by decide), if_neg (show ¬ nI 9 = 4 by decide), if_neg (show ¬ nI 9 = 5 by decide), if_neg (show ¬ nI 9 = 6 by decide), if_neg (show ¬ nI 9 = 7 by decide), if_neg (show ¬ nI 9 = 8 by decide), if_pos (show nI 9 = 9 from rfl), if_neg (show ¬ nI 9 = 10 by decide), if_neg (show ¬ nI 9 = 11 by decide), if_neg (show ¬ nI 9 = 12 by decide), if_neg (show ¬ nI 9 = 13 by decide), if_neg (show ¬ nI 9 = 14 by decide), if_neg (show ¬ nI 9 = 15 by decide), if_neg (show ¬ nI 9 = 16 by decide), if_neg (show ¬ nI 9 = 17 by decide), if_neg (show ¬ nI 9 = 18 by decide), if_neg (show ¬ nI 9 = 19 by decide), if_neg (show ¬ nI 9 = 20 by decide)]
      exact qa_of (congrArg some e2) rfl
    | 10, _ =>
      simp only [if_neg (show ¬ nI 10 = 0 by decide), if_neg (show ¬ nI 10 = 1 by decide), if_neg (show ¬ nI 10 = 2 by decide), if_neg (show ¬ nI 10 = 3 by decide), if_neg (show ¬ nI 10 = 4 by decide), if_neg (show ¬ nI 10 = 5 by decide), if_neg (show ¬ nI 10 = 6 by decide), if_neg (show ¬ nI 10 = 7 by decide), if_neg (show ¬ nI 10 = 8 by decide), if_neg (show ¬ nI 10 = 9 by decide), if_pos (show nI 10 = 10 from rfl), if_neg (show ¬ nI 10 = 11 by decide), if_neg (show ¬ nI 10 = 12 by decide), if_neg (show ¬ nI 10 = 13 by decide), if_neg (show ¬ nI 10 = 14 by decide), if_neg (show ¬ nI 10 = 15 by decide), if_neg (show ¬ nI 10 = 16 by decide), if_neg (show ¬ nI 10 = 17 by decide), if_neg (show ¬ nI 10 = 18 by decide), if_neg (show ¬ nI 10 = 19 by decide), if_neg (show ¬ nI 10 = 20 by decide)]
      exact qa_of (zs_asSet (k := 20) (by omega) h.2.2.1) (zm_voicesAll (k := 94) (by omega) h' hs)
    | 11, _ =>
      simp only [if_neg (show ¬ nI 11 = 0 by decide), if_neg (show ¬ nI 11 = 1 by decide), if_neg (show ¬ nI 11 = 2 by decide), if_neg (show ¬ nI 11 = 3 by decide), if_neg (show ¬ nI 11 = 4 by decide), if_neg (show ¬ nI 11 = 5 by decide), if_neg (show ¬ nI 11 = 6 by decide), if_neg (show ¬ nI 11 = 7 by decide), if_neg (show ¬ nI 11 = 8 by decide), if_neg (show ¬ nI 11 = 9 by decide), if_neg (show ¬ nI 11 = 10 by decide), if_pos (show nI 11 = 11 from rfl), if_neg (show ¬ nI 11 = 12 by decide), if_neg (show ¬ nI 11 = 13 by decide), if_neg (show ¬ nI 11 = 14 by decide), if_neg (show ¬ nI 11 = 15 by decide), if_neg (show ¬ nI 11 = 16 by decide), if_neg (show ¬ nI 11 = 17 by decide), if_neg (show ¬ nI 11 = 18 by decide), if_neg (show ¬ nI 11 = 19 by decide), if_neg (show ¬ nI 11 = 20 by decide)]
      exact ⟨_, rfl, rfl⟩
    | 12, _ =>
      simp only [if_neg (show ¬ nI 12 = 0 by decide), if_neg (show ¬ nI 12 = 1 by decide), if_neg (show ¬ nI 12 = 2 by decide), if_neg (show ¬ nI 12 = 3 by decide), if_neg (show ¬ nI 12 = 4 by decide), if_neg (show ¬ nI 12 = 5 by decide), if_neg (show ¬ nI 12 = 6 by decide), if_neg (show ¬ nI 12 = 7 by decide), if_neg (show ¬ nI 12 = 8 by decide), if_neg (show ¬ nI 12 = 9 by decide), if_neg (show ¬ nI 12 = 10 by decide), if_neg (show ¬ nI 12 = 11 by decide), if_pos (show nI 12 = 12 from rfl), if_neg (show ¬ nI 12 = 13 by decide), if_neg (show ¬ nI 12 = 14 by decide), if_neg (show ¬ nI 12 = 15 by decide), if_neg (show ¬ nI 12 = 16 by decide), if_neg (show ¬ nI 12 = 17 by decide), if_neg (show ¬ nI 12 = 18 by decide), if_neg (show ¬ nI 12 = 19 by decide), if_neg (show ¬ nI 12 = 20 by decide)]
      exact ⟨_, rfl, rfl⟩
    | 13, _ =>
      simp only [if_neg (show ¬ nI 13 = 0 by decide), if_neg (show ¬ nI 13 = 1 by decide), if_neg (show ¬ nI 13 = 2 by decide), if_neg (show ¬ nI 13 = 3 by decide), if_neg (show ¬ nI 13 = 4 by decide), if_neg (show ¬ nI 13 = 5 by decide), if_neg (show ¬ nI 13 = 6 by decide), if_neg (show ¬ nI 13 = 7 by decide), if_neg (show ¬ nI 13 = 8 by decide), if_neg (show ¬ nI 13 = 9 by decide), if_neg (show ¬ nI 13 = 10 by decide), if_neg (show ¬ nI 13 = 11 by decide), if_neg (show ¬ nI 13 = 12 by decide), if_pos (show nI 13 = 13 from rfl), if_neg (show ¬ nI 13 = 14 by decide), if_neg (show ¬ nI 13 = 15 by decide), if_neg (show ¬ nI 13 = 16 by decide), if_neg (show ¬ nI 13 = 17 by decide), if_neg (show ¬ nI 13 = 18 by decide), if_neg (show ¬ nI 13 = 19 by decide), if_neg (show ¬ nI 13 = 20 by decide)]
      exact ⟨_, rfl, rfl⟩
    | 14, _ =>
      simp only [if_neg (show ¬ nI 14 = 0 by decide), if_neg (show ¬ nI 14 = 1 by decide), if_neg (show ¬ nI 14 = 2 by decide), if_neg (show ¬ nI 14 = 3 by decide), if_neg (show ¬ nI 14 = 4 by decide), if_neg (show ¬ nI 14 = 5 by decide), if_neg (show ¬ nI 14 = 6 by decide), if_neg (show ¬ nI 14 = 7 by decide), if_neg (show ¬ nI 14 = 8 by decide), if_neg (show ¬ nI 14 = 9 by decide), if_neg (show ¬ nI 14 = 10 by decide), if_neg (show ¬ nI 14 = 11 by decide), if_neg (show ¬ nI 14 = 12 by decide), if_neg (show ¬ nI 14 = 13 by decide), if_pos (show nI 14 = 14 from rfl), if_neg (show ¬ nI 14 = 15 by decide), if_neg (show ¬ nI 14 = 16 by decide), if_neg (show ¬ nI 14 = 17 by decide), if_neg (show ¬ nI 14 = 18 by decide), if_neg (show ¬ nI 14 = 19 by decide), if_neg (show ¬ nI 14 = 20 by decide)]
      exact ⟨_, rfl, rfl⟩
    | 15, _ =>
      simp only [if_neg (show ¬ nI 15 = 0 by decide), if_neg (show ¬ nI 15 = 1 by decide), if_neg (show ¬ nI 15 = 2 by decide), if_neg (show ¬ nI 15 = 3 by decide), if_neg (show ¬ nI 15 = 4 by decide), if_neg (show ¬ nI 15 = 5 by decide), if_neg (show ¬ nI 15 = 6 by decide), if_neg (show ¬ nI 15 = 7 by decide), if_neg (show ¬ nI 15 = 8 by decide), if_neg (show ¬ nI 15 = 9 by decide), if_neg (show ¬ nI 15 = 10 by decide), if_neg (show ¬ nI 15 = 11 by decide), if_neg (show ¬ nI 15 = 12 by decide), if_neg (show ¬ nI 15 = 13 by decide), if_neg (show ¬ nI 15 = 14 by decide), if_pos (show nI 15 = 15 from rfl), if_neg (show ¬ nI 15 = 16 by decide), if_neg (show ¬ nI 15 = 17 by decide), if_neg (show ¬ nI 15 = 18 by decide), if_neg (show ¬ nI 15 = 19 by decide), if_neg (show ¬ nI 15 = 20 by decide)]
      exact ⟨_, rfl, rfl⟩
    | 16, _ =>
      simp only [if_neg (show ¬ nI 16 = 0 by decide), if_neg (show ¬ nI 16 = 1 by decide), if_neg (show ¬ nI 16 = 2 by decide), if_neg (show ¬ nI 16 = 3 by decide), if_neg (show ¬ nI 16 = 4 by decide), if_neg (show ¬ nI 16 = 5 by decide), if_neg (show ¬ nI 16 = 6 by decide), if_neg (show ¬ nI 16 = 7 by decide), if_neg (show ¬ nI 16 = 8 by decide), if_neg (show ¬ nI 16 = 9 by decide), if_neg (show ¬ nI 16 = 10 by decide), if_neg (show ¬ nI 16 = 11 by decide), if_neg (show ¬ nI 16 = 12 by decide), if_neg (show ¬ nI 16 = 13 by decide), if_neg (show ¬ nI 16 = 14 by decide), if_neg (show ¬ nI 16 = 15 by decide), if_pos (show nI 16 = 16 from rfl), if_neg (show ¬ nI 16 = 17 by decide), if_neg (show ¬ nI 16 = 18 by decide), if_neg (show ¬ nI 16 = 19 by decide), if_neg (show ¬ nI 16 = 20 by decide)]
      exact ⟨_, rfl, rfl⟩
    | 17, _ =>
      simp only [if_neg (show ¬ nI 17 = 0 by decide), if_neg (show ¬ nI 17 = 1 by decide), if_neg (show ¬ nI 17 = 2 by decide), if_neg (show ¬ nI 17 = 3 by decide), if_neg (show ¬ nI 17 = 4 by decide), if_neg (show ¬ nI 17 = 5 by decide), if_neg (show ¬ nI 17 = 6 by decide), if_neg (show ¬ nI 17 = 7 by decide), if_neg (show ¬ nI 17 = 8 by decide), if_neg (show ¬ nI 17 = 9 by decide), if_neg (show ¬ nI 17 = 10 by decide), if_neg (show ¬ nI 17 = 11 by decide), if_neg (show ¬ nI 17 = 12 by decide), if_neg (show ¬ nI 17 = 13 by decide), if_neg (show ¬ nI 17 = 14 by decide), if_neg (show ¬ nI 17 = 15 by decide), if_neg (show ¬ nI 17 = 16 by decide), if_pos (show nI 17 = 17 from rfl), if_neg (show ¬ nI 17 = 18 by decide), if_neg (show ¬ nI 17 = 19 by decide), if_neg (show ¬ nI 17 = 20 by decide)]
      exact ⟨_, rfl, rfl⟩
    | 18, _ =>
      simp only [if_neg (show ¬ nI 18 = 0 by decide), if_neg (show ¬ nI 18 = 1 by decide), if_neg (show ¬ nI 18 = 2 by decide), if_neg (show ¬ nI 18 = 3 by decide), if_neg (show ¬ nI 18 = 4 by decide), if_neg (show ¬ nI 18 = 5 by decide), if_neg (show ¬ nI 18 = 6 by decide), if_neg (show ¬ nI 18 = 7 by decide), if_neg (show ¬ nI 18 = 8 by decide), if_neg (show ¬ nI 18 = 9 by decide), if_neg (show ¬ nI 18 = 10 by decide), if_neg (show ¬ nI 18 = 11 by decide), if_neg (show ¬ nI 18 = 12 by decide), if_neg (show ¬ nI 18 = 13 by decide), if_neg (show ¬ nI 18 = 14 by decide), if_neg (show ¬ nI 18 = 15 by decide), if_neg (show ¬ nI 18 = 16 by decide), if_neg (show ¬ nI 18 = 17 by decide), if_pos (show nI 18 = 18 from rfl), if_neg (show ¬ nI 18 = 19 by decide), if_neg (show ¬ nI 18 = 20 by decide)]
      exact ⟨_, rfl, rfl⟩
    | 19, _ =>
      simp only [if_neg (show ¬ nI 19 = 0 by decide), if_neg (show ¬ nI 19 = 1 by decide), if_neg (show ¬ nI 19 = 2 by decide), if_neg (show ¬ nI 19 = 3 by decide), if_neg (show ¬ nI 19 = 4 by decide), if_neg (show ¬ nI 19 = 5 by decide), if_neg (show ¬ nI 19 = 6 by decide), if_neg (show ¬ nI 19 = 7 by decide), if_neg (show ¬ nI 19 = 8 by decide), if_neg (show ¬ nI 19 = 9 by decide), if_neg (show ¬ nI 19 = 10 by decide), if_neg (show ¬ nI 19 = 11 by decide), if_neg (show ¬ nI 19 = 12 by decide), if_neg (show ¬ nI 19 = 13 by decide), if_neg (show ¬ nI 19 = 14 by decide), if_neg (show ¬ nI 19 = 15 by decide), if_neg (show ¬ nI 19 = 16 by decide), if_neg (show ¬ nI 19 = 17 by decide), if_neg (show ¬ nI 19 = 18 by decide), if_pos (show nI 19 = 19 from rfl), if_neg (show ¬ nI 19 = 20 by decide)]
      exact ⟨_, rfl, rfl⟩
    | 20, _ =>
      simp only [if_neg (show ¬ nI 20 = 0 by decide), if_neg (show ¬ nI 20 = 1 by decide), if_neg (show ¬ nI 20 = 2 by decide), if_neg (show ¬ nI 20 = 3 by decide), if_neg (show ¬ nI 20 = 4 by decide), if_neg (show ¬ nI 20 = 5 by decide), if_neg (show ¬ nI 20 = 6 by decide), if_neg (show ¬ nI 20 = 7 by decide), if_neg (show ¬ nI 20 = 8 by decide), if_neg (show ¬ nI 20 = 9 by decide), if_neg (show ¬ nI 20 = 10 by decide), if_neg (show ¬ nI 20 = 11 by decide), if_neg (show ¬ nI 20 = 12 by decide), if_neg (show ¬ nI 20 = 13 by decide), if_neg (show ¬ nI 20 = 14 by decide), if_neg (show ¬ nI 20 = 15 by decide), if_neg (show ¬ nI 20 = 16 by decide), if_neg (show ¬ nI 20 = 17 by decide), if_neg (show ¬ nI 20 = 18 by decide), if_neg (show ¬ nI 20 = 19 by decide), if_pos (show nI 20 = 20 from rfl)]
      exact qa_of (congrArg some h.2.2.2) (congrArg some (rmA (k := 94) h'))
    | j + 21, hj => exact absurd hj (by omega)
  · simp only [if_neg (show ¬ q = 0 from z_out hq (i := 0) (by omega) (by omega)), if_neg (show ¬ q = 1 from z_out hq (i := 1) (by omega) (by omega)), if_neg (show ¬ q = 2 from z_out hq (i := 2) (by omega) (by omega)), if_neg (show ¬ q = 3 from z_out hq (i := 3) (by omega) (by omega)), if_neg (show ¬ q = 4 from z_out hq (i := 4) (by omega) (by omega)), if_neg (show ¬ q = 5 from z_out hq (i := 5) (by omega) (by omega)), if_neg (show ¬ q = 6 from z_out hq (i := 6) (by omega) (by omega)), if_neg (show ¬ q = 7 from z_out hq (i := 7) (by omega) (by omega)), if_neg (show ¬ q = 8 from z_out hq (i := 8) (by omega) (by omega)), if_neg (show ¬ q = 9 from z_out hq (i := 9) (by omega) (by omega)), if_neg (show ¬ q = 10 from z_out hq (i := 10) (by omega) (by omega)), if_neg (show ¬ q = 11 from z_out hq (i := 11) (by omega) (by omega)), if_neg (show ¬ q = 12 from z_out hq (i := 12) (by omega) (by omega)), if_neg (show ¬ q = 13 from z_out hq (i := 13) (by omega) (by omega)), if_neg (show ¬ q = 14 from z_out hq (i := 14) (by omega) (by omega)), if_neg (show ¬ q = 15 from z_out hq (i := 15) (by omega) (by omega)), if_neg (show ¬ q = 16 from z_out hq (i := 16) (by omega) (by omega)), if_neg (show ¬ q = 17 from z_out hq (i := 17) (by omega) (by omega)), if_neg (show ¬ q = 18 from z_out hq (i := 18) (by omega) (by omega)), if_neg (show ¬ q = 19 from z_out hq (i := 19) (by omega) (by omega)), if_neg (show ¬ q = 20 from z_out hq (i := 20) (by omega) (by omega))]
    exact ⟨_, rfl, rfl⟩
end Query2
