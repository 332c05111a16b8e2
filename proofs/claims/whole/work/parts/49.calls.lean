/-! ===== both objects side by side ===== -/
def GI (v : gV) (n o : Nat) (w : Nat → gV) (X : Nat → Int32) (L : Nat) (σ : gSt) : Prop := WF v ∧ RC 10 v σ ∧ RR v (σ 95) ∧ n ≤ 4 ∧ o < 4 ∧ (∀ j, j < n → WF (w j)) ∧ HC n o w σ ∧ HM n w σ ∧ σ 94 4 = 0 ∧ L ≤ 60 ∧ TC X L σ ∧ TM X L σ
def GR (σ : gSt) : Prop := ∃ v n o w X L, GI v n o w X L σ
theorem GR_fr {σ τ : gSt} (h : GR σ) (e1 : ∀ c, (6 ≤ c ∧ c ≤ 8) ∨ (10 ≤ c ∧ c < 22) ∨ (34 ≤ c ∧ c < 82) ∨ (95 ≤ c ∧ c ≤ 96) ∨ c = 98 → τ c = σ c) (e2 : ∀ f, f = 3 ∨ f = 4 ∨ f = 6 → τ 94 f = σ 94 f) : GR τ := by
  obtain ⟨v, n, o, w, X, L, h1, h2, h3, h4, h5, h6, h7, h8, h9, h10, h11, h12⟩ := h
  refine ⟨v, n, o, w, X, L, h1, RC_fr h2 (fun c c1 c2 => e1 c (by omega)), by rw [e1 95 (by omega)]; exact h3, h4, h5, h6, HC_fr h7 (e1 8 (by omega)) (fun c c1 c2 => e1 c (by omega)), HM_fr h8 (e2 3 (by omega)) (e1 96 (by omega)), by rw [e2 4 (by omega)]; exact h9, h10, TC_fr h11 (e1 6 (by omega)) (e1 7 (by omega)), TM_fr h12 (e2 6 (by omega)) (e1 98 (by omega))⟩
theorem wf_pu {n : Nat} {w : Nat → gV} {u : gV} (hn : n ≤ 4) (h : ∀ j, j < n → WF (w j)) (hu : WF u) : ∀ j, j < puN n → WF (puW n w u j) := fun j hj => by
  unfold puN at hj
  unfold puW
  by_cases q : n < 4
  · rw [if_pos q] at hj ⊢
    by_cases e : j = n
    · rw [if_pos e]
      exact hu
    · rw [if_neg e]
      exact h j (by omega)
  · rw [if_neg q] at hj ⊢
    by_cases e : j = 3
    · rw [if_pos e]
      exact hu
    · rw [if_neg e]
      exact h (j + 1) (by omega)
theorem puN_le {n : Nat} : puN n ≤ 4 := by
  unfold puN
  split <;> omega
section Calls
variable {fu : Nat} {σ : gSt}
theorem call_mut (hf : 2000 < fu) (h : GR σ) {op : gV → Int32 × gV} {fc fm : gSt → Option (Int32 × gSt)} (hc : ∀ τ v, RC 10 v τ → WF v → CMut 10 τ (fc τ) (op v)) (hm : ∀ τ τ1 v, RR v (τ 95) → WF v → f_X10_changes fu τ 94 = some τ1 → τ1 95 = τ 95 → MMut 94 τ τ1 (fm τ) (op v)) (hw : ∀ v, WF v → WF (op v).2) (hs : ∀ v, WF v → (op v).1 < 0 → (op v).2 = v) :
    ∃ r τ υ, ((f_X7_takeFrom fu σ (0 + 22) (0 + 10)).bind fun σ8 => (b2 (fc σ8) fun v19 σ19 => (b2 (f_X9_recorded fu σ19 0 v19) fun v22 σ22 => (some (v22, σ22))))) = some (r, τ) ∧ fm τ = some (r, υ) ∧ GR υ := by
  obtain ⟨v, n, o, w, X, L, h1, h2, h3, h4, h5, h6, h7, h8, h9, h10, h11, h12⟩ := h
  simp only [b2_id]
  obtain ⟨τ1, a0, a1, a2⟩ := zc_take (fu := fu) (σ := σ) (k0 := 22) (k1 := 10) (by omega) h2 h1.1
  rw [show f_X7_takeFrom fu σ (0 + 22) (0 + 10) = _ from a0, bd_some]
  obtain ⟨τ2, b0, b1, b2'⟩ := hc τ1 v (RC_fr h2 (fun c c1 c2 => a2 c (by omega))) h1
  rw [b0, b2_some]
  have fr2 : ∀ c, c < 10 ∨ 34 ≤ c → τ2 c = σ c := fun c hc => by rw [b2' c (by omega), a2 c (by omega)]
  have k22 : RC 22 v τ2 := RC_fr a1 (fun c c1 c2 => b2' c (by omega))
  have hHC : HC n o w τ2 := HC_fr h7 (fr2 8 (by omega)) (fun c c1 c2 => fr2 c (by omega))
  unfold f_X9_recorded
  by_cases neg : (op v).1 < 0
  · have same := hs v h1 neg
    rw [if_pos neg]
    have r95 : RR v (τ2 95) := by rw [fr2 95 (by omega)]; exact h3
    obtain ⟨σ1, c0, c1, c2, c3⟩ := hm_push (fu := fu) (σ := τ2) (by omega) h4 (HM_fr h8 (by rw [fr2 94 (by omega)]) (fr2 96 (by omega))) (fun j hj => (h6 j hj).1) r95 h1.1 (by rw [fr2 94 (by omega)]; exact h9)
    obtain ⟨υ, u0, u1, u2⟩ := hm τ2 σ1 v r95 h1 c0 (c2 95 (by omega) (by omega))
    have fr3 : ∀ c, c ≠ 95 → c ≠ 99 → c ≠ 100 → υ c = τ2 c := fun c c1 c2 c3 => by
      have := u2 c c1 c2 c3
      rw [if_pos neg] at this
      exact this
    rw [same] at b1 u1
    refine ⟨_, τ2, υ, rfl, u0, v, n, o, w, X, L, h1, RC_fr b1 (fun c c1 c2 => fr3 c (by omega) (by omega) (by omega)), u1, h4, h5, h6, HC_fr hHC (fr3 8 (by omega) (by omega) (by omega)) (fun c c1 c2 => fr3 c (by omega) (by omega) (by omega)), HM_fr h8 (by rw [fr3 94 (by omega) (by omega) (by omega), fr2 94 (by omega)]) (by rw [fr3 96 (by omega) (by omega) (by omega), fr2 96 (by omega)]), by rw [fr3 94 (by omega) (by omega) (by omega), fr2 94 (by omega)]; exact h9, h10, TC_fr h11 (by rw [fr3 6 (by omega) (by omega) (by omega), fr2 6 (by omega)]) (by rw [fr3 7 (by omega) (by omega) (by omega), fr2 7 (by omega)]), TM_fr h12 (by rw [fr3 94 (by omega) (by omega) (by omega), fr2 94 (by omega)]) (by rw [fr3 98 (by omega) (by omega) (by omega), fr2 98 (by omega)])⟩
  · rw [if_neg neg]
    obtain ⟨τ3, o', d0, d1, d2, d3⟩ := hc_push (fu := fu) h4 h5 hHC k22 h1.1
    rw [show f_X1_keep fu τ2 (0 + 8) (0 + 22) = _ from d0, bd_some]
    have fr3 : ∀ c, c < 8 ∨ c = 9 ∨ 82 ≤ c → τ3 c = σ c := fun c hc => by rw [d3 c (by omega) (by omega), fr2 c (by omega)]
    have r95 : RR v (τ3 95) := by rw [fr3 95 (by omega)]; exact h3
    obtain ⟨σ1, c0, c1, c2, c3⟩ := hm_push (fu := fu) (σ := τ3) (by omega) h4 (HM_fr h8 (by rw [fr3 94 (by omega)]) (fr3 96 (by omega))) (fun j hj => (h6 j hj).1) r95 h1.1 (by rw [fr3 94 (by omega)]; exact h9)
    obtain ⟨υ, u0, u1, u2⟩ := hm τ3 σ1 v r95 h1 c0 (c2 95 (by omega) (by omega))
    have fr4 : ∀ c, c ≠ 95 → c ≠ 99 → c ≠ 100 → υ c = σ1 c := fun c c1 c2 c3 => by
      have := u2 c c1 c2 c3
      rw [if_neg neg] at this
      exact this
    have fr5 : ∀ c, c ≠ 94 → c ≠ 95 → c ≠ 96 → c ≠ 99 → c ≠ 100 → υ c = τ3 c := fun c q1 q2 q3 q4 q5 => by rw [fr4 c q2 q4 q5, c2 c q1 q3]
    refine ⟨_, τ3, υ, rfl, u0, (op v).2, puN n, o', puW n w v, X, L, hw v h1, RC_fr b1 (fun c c1 c2 => ?_), u1, puN_le, d1, wf_pu h4 h6 h1, HC_fr d2 (fr5 8 (by omega) (by omega) (by omega) (by omega) (by omega)) (fun c c1 c2 => fr5 c (by omega) (by omega) (by omega) (by omega) (by omega)), HM_fr c1 (by rw [fr4 94 (by omega) (by omega) (by omega)]) (fr4 96 (by omega) (by omega) (by omega)), ?_, h10, TC_fr h11 ?_ ?_, TM_fr h12 ?_ ?_⟩
    · rw [fr5 c (by omega) (by omega) (by omega) (by omega) (by omega), d3 c (by omega) (by omega)]
    · rw [fr4 94 (by omega) (by omega) (by omega), c3 4 (by omega), fr3 94 (by omega)]
      exact h9
    · rw [fr5 6 (by omega) (by omega) (by omega) (by omega) (by omega), fr3 6 (by omega)]
    · rw [fr5 7 (by omega) (by omega) (by omega) (by omega) (by omega), fr3 7 (by omega)]
    · rw [fr4 94 (by omega) (by omega) (by omega), c3 6 (by omega), fr3 94 (by omega)]
    · rw [fr5 98 (by omega) (by omega) (by omega) (by omega) (by omega), fr3 98 (by omega)]
/-- a call on both objects, with a state on either side -/
def CallII (a b : gSt → Option (Int32 × gSt)) (σ : gSt) : Prop := ∃ r τ υ, a σ = some (r, τ) ∧ b τ = some (r, υ) ∧ GR υ
def CallIP (a : gSt → Option (Int32 × gSt)) (b : gSt → Option Int32) (σ : gSt) : Prop := ∃ r τ, a σ = some (r, τ) ∧ b τ = some r ∧ GR τ
def CallPI (a : gSt → Option Int32) (b : gSt → Option (Int32 × gSt)) (σ : gSt) : Prop := ∃ r υ, a σ = some r ∧ b σ = some (r, υ) ∧ GR υ
def CallPP (a b : gSt → Option Int32) (σ : gSt) : Prop := ∃ r, a σ = some r ∧ b σ = some r
theorem k_turn (hf : 2000 < fu) (h : GR σ) (x e p : Int32) : CallII (fun σ => f_X9_turn fu σ 0 x e p) (fun σ => f_X10_turn fu σ 94 x e p) σ :=
  call_mut hf h (fun τ v a b => cm_turn (by omega) a b x e p) (fun τ τ1 v a b c d => mm_turn (by omega) a b c d x e p) (fun v a => wf_turn a x e p) (fun v a b => same_turn a x e p b)
theorem k_say (hf : 2000 < fu) (h : GR σ) (x e : Int32) : CallII (fun σ => f_X9_say fu σ 0 x e) (fun σ => f_X10_say fu σ 94 x e) σ :=
  call_mut hf h (fun τ v a b => cm_say a b x e) (fun τ τ1 v a b c d => mm_say a b c d x e) (fun v a => wf_say a x e) (fun v a b => same_say a x e b)
theorem k_part (hf : 2000 < fu) (h : GR σ) (x e p : Int32) : CallII (fun σ => f_X9_part fu σ 0 x e p) (fun σ => f_X10_part fu σ 94 x e p) σ :=
  call_mut hf h (fun τ v a b => cm_part (by omega) a b x e p) (fun τ τ1 v a b c d => mm_part (by omega) a b c d x e p) (fun v a => wf_part a x e p) (fun v a b => same_part a x e p b)
theorem k_remove (hf : 2000 < fu) (h : GR σ) (x : Int32) : CallII (fun σ => f_X9_remove fu σ 0 x) (fun σ => f_X10_remove fu σ 94 x) σ :=
  call_mut hf h (fun τ v a b => cm_rem a b x) (fun τ τ1 v a b c d => mm_rem (by omega) a b c d x) (fun v a => wf_rem a x) (fun v a b => same_rem a x b)
theorem k_correct (hf : 2000 < fu) (h : GR σ) (x e : Int32) : CallII (fun σ => f_X9_correct fu σ 0 x e) (fun σ => f_X10_correct fu σ 94 x e) σ :=
  call_mut hf h (fun τ v a b => cm_cor (by omega) a b x e) (fun τ τ1 v a b c d => mm_cor (by omega) a b c d x e) (fun v a => wf_cor a x e) (fun v a b => same_cor a x e b)
theorem k_uncorrect (hf : 2000 < fu) (h : GR σ) (x : Int32) : CallII (fun σ => f_X9_uncorrect fu σ 0 x) (fun σ => f_X10_uncorrect fu σ 94 x) σ :=
  call_mut hf h (fun τ v a b => cm_unc (by omega) a b x) (fun τ τ1 v a b c d => mm_unc (by omega) a b c d x) (fun v a => wf_unc a x) (fun v a b => same_unc a x b)
theorem k_speaker (hf : 2000 < fu) (h : GR σ) (x : Int32) : CallII (fun σ => f_X9_speaker fu σ 0 x) (fun σ => f_X10_speaker fu σ 94 x) σ :=
  call_mut hf h (fun τ v a b => cm_spk (by omega) a x) (fun τ τ1 v a b c d => mm_spk (by omega) a b c d x) (fun v a => wf_spk a x) (fun v a b => same_spk x b)
theorem k_give (hf : 2000 < fu) (h : GR σ) (x e : Int32) : CallII (fun σ => f_X9_give fu σ 0 x e) (fun σ => f_X10_give fu σ 94 x e) σ :=
  call_mut hf h (fun τ v a b => cm_giv (by omega) a b x e) (fun τ τ1 v a b c d => mm_giv (by omega) a b c d x e) (fun v a => wf_giv a x e) (fun v a b => same_giv a x e b)
theorem k_join (hf : 2000 < fu) (h : GR σ) (x e : Int32) : CallII (fun σ => f_X9_join fu σ 0 x e) (fun σ => f_X10_join fu σ 94 x e) σ :=
  call_mut hf h (fun τ v a b => cm_joi (by omega) a b x e) (fun τ τ1 v a b c d => mm_joi (by omega) a b c d x e) (fun v a => wf_joi a x e) (fun v a b => same_joi a x e b)
theorem k_set (hf : 2000 < fu) (h : GR σ) (x e : Int32) : CallII (fun σ => f_X9_set fu σ 0 x e) (fun σ => f_X10_set fu σ 94 x e) σ :=
  call_mut hf h (fun τ v a b => cm_set a x e) (fun τ τ1 v a b c d => mm_set a b c d x e) (fun v a => wf_set a x e) (fun v a b => same_set a x e b)
theorem gr_q (h : GR σ) : ∃ v, RC 10 v σ ∧ RM 95 0 v σ ∧ WF v := by
  obtain ⟨v, n, o, w, X, L, h1, h2, h3, -⟩ := h
  exact ⟨v, h2, zr_to (k := 94) h3, h1⟩
theorem k_turnOf (hf : 2000 < fu) (h : GR σ) (x e : Int32) : CallPP (fun σ => f_X9_turnOf fu σ 0 x e) (fun σ => f_X10_turnOf fu σ 94 x e) σ := by
  obtain ⟨v, a, b, c⟩ := gr_q h
  exact q_turnOf hf a b c x e
theorem k_termAt (hf : 2000 < fu) (h : GR σ) (x e p : Int32) : CallPP (fun σ => f_X9_termAt fu σ 0 x e p) (fun σ => f_X10_termAt fu σ 94 x e p) σ := by
  obtain ⟨v, a, b, c⟩ := gr_q h
  exact q_termAt hf a b c x e p
theorem k_termOf (hf : 2000 < fu) (h : GR σ) (x e : Int32) : CallPP (fun σ => f_X9_termOf fu σ 0 x e) (fun σ => f_X10_termOf fu σ 94 x e) σ := by
  obtain ⟨v, a, b, c⟩ := gr_q h
  exact q_termOf hf a b c x e
theorem k_speakerOf (hf : 2000 < fu) (h : GR σ) (x e : Int32) : CallPP (fun σ => f_X9_speakerOf fu σ 0 x e) (fun σ => f_X10_speakerOf fu σ 94 x e) σ := by
  obtain ⟨v, a, b, c⟩ := gr_q h
  exact q_speakerOf hf a b c x e
theorem k_during (hf : 2000 < fu) (h : GR σ) (x e : Int32) : CallPP (fun σ => f_X9_during fu σ 0 x e) (fun σ => f_X10_during fu σ 94 x e) σ := by
  obtain ⟨v, a, b, c⟩ := gr_q h
  exact q_during hf a b c x e
theorem k_interrupts (hf : 2000 < fu) (h : GR σ) (x e : Int32) : CallPP (fun σ => f_X9_interrupts fu σ 0 x e) (fun σ => f_X10_interrupts fu σ 94 x e) σ := by
  obtain ⟨v, a, b, c⟩ := gr_q h
  exact q_interrupts hf a b c x e
theorem k_nearest (hf : 2000 < fu) (h : GR σ) (x : Int32) : CallPP (fun σ => f_X9_nearest fu σ 0 x) (fun σ => f_X10_nearest fu σ 94 x) σ := by
  obtain ⟨v, a, b, c⟩ := gr_q h
  exact q_nearest hf a b c x
theorem k_silence (hf : 2000 < fu) (h : GR σ) (x : Int32) : CallPP (fun σ => f_X9_silence fu σ 0 x) (fun σ => f_X10_silence fu σ 94 x) σ := by
  obtain ⟨v, a, b, c⟩ := gr_q h
  exact q_silence hf a b c x
theorem k_doubtful (hf : 2000 < fu) (h : GR σ) (x : Int32) : CallPP (fun σ => f_X9_doubtful fu σ 0 x) (fun σ => f_X10_doubtful fu σ 94 x) σ := by
  obtain ⟨v, a, b, c⟩ := gr_q h
  exact q_doubtful hf a b c x
theorem k_count (hf : 2000 < fu) (h : GR σ) (x : Int32) : CallPP (fun σ => f_X9_count fu σ 0 x) (fun σ => f_X10_count fu σ 94 x) σ := by
  obtain ⟨v, n, o, w, X, L, h1, h2, h3, h4, h5, h6, h7, h8, h9, h10, h11, h12⟩ := h
  exact q_count hf h2 (zr_to (k := 94) h3) h1 (h7.1.trans h8.1.symm) (h11.1.trans h12.1.symm) x
theorem k_would (hf : 2000 < fu) (h : GR σ) (x e : Int32) : CallPI (fun σ => f_X9_would fu σ 0 x e) (fun σ => f_X10_would fu σ 94 x e) σ := by
  obtain ⟨v, a, b, c⟩ := gr_q h
  obtain ⟨τ, t0, t1⟩ := mm_would (k := 94) (fu := fu) (by omega) (zr_of (k := 94) b) c x e
  exact ⟨_, τ, zy_would (by omega) a c x e, t0, GR_fr h (fun c hc => t1 c (by omega)) (fun f _ => by rw [t1 94 (by omega)])⟩
theorem k_together (hf : 2000 < fu) (h : GR σ) (x : Int32) : CallIP (fun σ => f_X9_together fu σ 0 x) (fun σ => f_X10_together fu σ 94 x) σ := by
  obtain ⟨v, a, b, c⟩ := gr_q h
  obtain ⟨τ, t0, t1⟩ := zy_ofPairs (fu := fu) (by omega) a c.1 c.2.2.2.1 x
  have hg : GR τ := GR_fr h (fun c hc => t1 c (by omega)) (fun f _ => by rw [t1 94 (by omega)])
  refine ⟨spTog v x, τ, ?_, zm_together (k := 94) (by omega) ?_ c.1 c.2.2.2.1 (tb_of c.2.2.2.1 c.2.2.2.2.1) x, hg⟩
  · show f_X9_together fu σ 0 x = _
    unfold f_X9_together
    simp only [b2_id]
    exact t0
  · exact zr_to (k := 94) (by rw [t1 95 (by omega)]; exact zr_of (k := 94) b)
theorem k_undo (hf : 2000 < fu) (h : GR σ) : CallII (fun σ => f_X9_undo fu σ 0) (fun σ => f_X10_undo fu σ 94) σ := by
  have h0 := h
  obtain ⟨v, n, o, w, X, L, h1, h2, h3, h4, h5, h6, h7, h8, h9, h10, h11, h12⟩ := h
  cases n with
  | zero => exact ⟨_, σ, σ, hc_undo0 h7, hm_undo0 h8, h0⟩
  | succ n =>
    obtain ⟨τ, t0, t1, t2, t3⟩ := hc_undo (fu := fu) (show n < 4 by omega) h5 h7 (h6 n (by omega)).1
    have hm : HM (n + 1) w τ := HM_fr h8 (by rw [t3 94 (by omega) (by omega)]) (t3 96 (by omega) (by omega))
    obtain ⟨υ, u0, u1, u2, u3, u4⟩ := hm_undo (fu := fu) (by omega) (show n < 4 by omega) hm (h6 n (by omega)).1
    refine ⟨_, τ, υ, t0, u0, w n, n, o, w, X, L, h6 n (by omega), RC_fr t1 (fun c c1 c2 => u3 c (by omega) (by omega)), u1, by omega, h5, fun j hj => h6 j (by omega), HC_fr t2 (u3 8 (by omega) (by omega)) (fun c c1 c2 => u3 c (by omega) (by omega)), u2, ?_, h10, TC_fr h11 ?_ ?_, TM_fr h12 ?_ ?_⟩
    · rw [u4 4 (by omega), t3 94 (by omega) (by omega)]
      exact h9
    · rw [u3 6 (by omega) (by omega), t3 6 (by omega) (by omega)]
    · rw [u3 7 (by omega) (by omega), t3 7 (by omega) (by omega)]
    · rw [u4 6 (by omega), t3 94 (by omega) (by omega)]
    · rw [u3 98 (by omega) (by omega), t3 98 (by omega) (by omega)]
theorem k_type (h : GR σ) (x : Int32) : CallII (fun σ => f_X9_type fu σ 0 x) (fun σ => f_X10_type fu σ 94 x) σ := by
  have h0 := h
  obtain ⟨v, n, o, w, X, L, h1, h2, h3, h4, h5, h6, h7, h8, h9, h10, h11, h12⟩ := h
  unfold CallII f_X9_type f_X10_type f_X6_isFull f_X6_append
  simp only [b2_id]
  by_cases hx : 32 ≤ x ∧ x ≤ 126
  · rcases Nat.lt_or_ge L 60 with q | q
    · have e9 : (if σ 6 1 < 60 then some (0 : Int32) else some 1) = some 0 := by rw [h11.1, if_pos (show nI L < 60 from zo_lt (n := 60) q (by omega))]
      refine ⟨nI (L + 1), gu (gu σ 7 (upd (σ 7) L x)) 6 (upd (σ 6) 1 (nI (L + 1))), gu (gu (gu (gu σ 7 (upd (σ 7) L x)) 6 (upd (σ 6) 1 (nI (L + 1)))) 98 (upd (σ 98) L x)) 94 (upd (σ 94) 6 (nI (L + 1))), ?_, ?_, ?_⟩
      · rw [z_within, bd_some, if_neg (fun z => bi_0.mp z hx), show σ (0 + 6) 1 = nI L from h11.1, if_pos (show nI L < 60 from zo_lt (n := 60) q (by omega)), bd_some, if_pos rfl, z_within, bd_some, if_neg (show ¬ bi (0 ≤ nI L ∧ nI L ≤ 59) = 0 from z_bl (m := 59) (by omega) (by omega)), wrN L rfl (by omega) (by omega), bd_some, lt_eq, gu_s, up_e, gu_n _ _ (show 0 + 6 ≠ 0 + 6 + 1 by omega), show σ (0 + 6) 1 = nI L from h11.1, z_add1]
      · rw [zm_in, bd_some, if_neg (fun z => bi_0.mp z hx)]
        simp (disch := omega) only [gu_n]
        rw [h12.1, if_neg (show ¬ nI L = 60 from fun z => absurd ((z_eq (b := 60) (by omega) (by omega)).mp z) (by omega)), wrN L rfl (by omega) (by omega), bd_some, lt_eq]
        simp (disch := omega) only [gu_s, gu_n, up_e]
        rw [h12.1, z_add1]
      · refine ⟨v, n, o, w, fun i => if i = L then x else X i, L + 1, h1, RC_fr h2 (fun c c1 c2 => by simp (disch := omega) only [gu_n]), by simp (disch := omega) only [gu_n]; exact h3, h4, h5, h6, HC_fr h7 (by simp (disch := omega) only [gu_n]) (fun c c1 c2 => by simp (disch := omega) only [gu_n]), HM_fr h8 (by simp (disch := omega) only [gu_s, up_n]) (by simp (disch := omega) only [gu_n]), by simp (disch := omega) only [gu_s, up_n]; exact h9, by omega, ⟨?_, fun i hi => ?_⟩, ⟨?_, fun i hi => ?_⟩⟩
        · simp (disch := omega) only [gu_n, gu_s, up_e]
        · simp (disch := omega) only [gu_n, gu_s]
          by_cases e : i = L
          · subst e
            rw [up_e, if_pos rfl]
          · rw [up_n _ _ e, if_neg e]
            exact h11.2 i (by omega)
        · simp (disch := omega) only [gu_s, up_e]
        · simp (disch := omega) only [gu_n, gu_s]
          by_cases e : i = L
          · subst e
            rw [up_e, if_pos rfl]
          · rw [up_n _ _ e, if_neg e]
            exact h12.2 i (by omega)
    · have hL : L = 60 := by omega
      subst hL
      refine ⟨-1000003, σ, σ, ?_, ?_, h0⟩
      · rw [z_within, bd_some, if_neg (fun z => bi_0.mp z hx), show σ (0 + 6) 1 = nI 60 from h11.1, if_neg (show ¬ nI 60 < 60 by decide), bd_some, if_neg (show ¬ (1 : Int32) = 0 by decide)]
      · rw [zm_in, bd_some, if_neg (fun z => bi_0.mp z hx), h12.1, if_pos (show nI 60 = 60 from rfl)]
  · refine ⟨-1000001, σ, σ, ?_, ?_, h0⟩
    · rw [z_within, bd_some, if_pos (bi_0.mpr hx)]
    · rw [zm_in, bd_some, if_pos (bi_0.mpr hx)]
theorem k_clearText (h : GR σ) : CallII (fun σ => f_X9_clearText fu σ 0) (fun σ => f_X10_clearText fu σ 94) σ := by
  obtain ⟨v, n, o, w, X, L, h1, h2, h3, h4, h5, h6, h7, h8, h9, h10, h11, h12⟩ := h
  unfold CallII f_X9_clearText f_X10_clearText f_X6_empty
  simp only [b2_id]
  refine ⟨nI L, gu σ 6 (upd (σ 6) 1 0), gu (gu σ 6 (upd (σ 6) 1 0)) 94 (upd (σ 94) 6 0), ?_, ?_, ?_⟩
  · rw [lt_eq, show σ (0 + 6) 1 = nI L from h11.1]
  · rw [lt_eq]
    simp (disch := omega) only [gu_n]
    rw [h12.1]
  · refine ⟨v, n, o, w, X, 0, h1, RC_fr h2 (fun c c1 c2 => by simp (disch := omega) only [gu_n]), by simp (disch := omega) only [gu_n]; exact h3, h4, h5, h6, HC_fr h7 (by simp (disch := omega) only [gu_n]) (fun c c1 c2 => by simp (disch := omega) only [gu_n]), HM_fr h8 (by simp (disch := omega) only [gu_s, up_n]) (by simp (disch := omega) only [gu_n]), by simp (disch := omega) only [gu_s, up_n]; exact h9, by omega, ⟨?_, fun i hi => absurd hi (Nat.not_lt_zero i)⟩, ⟨?_, fun i hi => absurd hi (Nat.not_lt_zero i)⟩⟩
    · simp (disch := omega) only [gu_n, gu_s, up_e]
      rfl
    · simp (disch := omega) only [gu_s, up_e]
      rfl
theorem runS_c (X : Nat → Int32) (L : Nat) : ∀ (f p c : Nat) (v : gV), (runS X L f p c v).2.1 ≤ c + f
  | 0, _, _, _ => Nat.le_refl _
  | f + 1, p, c, v => by
    unfold runS
    by_cases h1 : p < L
    · rw [if_pos h1]
      by_cases h2 : (pO X L p).1 = true
      · rw [if_pos h2]
        by_cases h3 : (doOp (X p) (pO X L p).2.2 v).1 < 0
        · rw [if_pos h3]
          exact Nat.le_add_right c (f + 1)
        · rw [if_neg h3]
          have := runS_c X L f (pO X L p).2.1 (c + 1) (doOp (X p) (pO X L p).2.2 v).2
          omega
      · rw [if_neg h2]
        exact Nat.le_add_right c (f + 1)
    · rw [if_neg h1]
      exact Nat.le_add_right c (f + 1)
theorem wf_runS (X : Nat → Int32) (L : Nat) : ∀ (f p c : Nat) (v : gV), WF v → WF (runS X L f p c v).2.2.2.2
  | 0, _, _, _, h => h
  | f + 1, p, c, v, h => by
    unfold runS
    by_cases h1 : p < L
    · rw [if_pos h1]
      by_cases h2 : (pO X L p).1 = true
      · rw [if_pos h2]
        by_cases h3 : (doOp (X p) (pO X L p).2.2 v).1 < 0
        · rw [if_pos h3]
          exact h
        · rw [if_neg h3]
          exact wf_runS X L f _ _ _ (wf_do h _ _)
      · rw [if_neg h2]
        exact h
    · rw [if_neg h1]
      exact h
theorem k_fault (hf : 2000 < fu) (h : GR σ) (x : Int32) : CallII (fun σ => f_X9_fault fu σ 0 x) (fun σ => f_X10_fault fu σ 94 x) σ := by
  have h0 := h
  obtain ⟨v, n, o, w, X, L, h1, h2, h3, h4, h5, h6, h7, h8, h9, h10, h11, h12⟩ := h
  unfold CallII f_X9_fault f_X10_fault f_X3_foundFault f_X3_position f_X3_reason f_X3_cause
  by_cases hx : 0 ≤ x ∧ x ≤ 2
  · obtain ⟨τ, t0, t1, t2, t3, t4, t5, t6⟩ := zx_run (fu := fu) (by omega) h10 h2 h1 h11
    obtain ⟨φ, f0, f1, f2⟩ := zm_copies (fu := fu) (σ := τ) (by omega) (show 95 ≠ 97 by omega)
    have r95 : RR v (φ 95) := by rw [f1 95 (by omega), t1 95 (by omega)]; exact h3
    obtain ⟨ψ, p0, p1, p2, p3, p4, p5⟩ := zm_plays (fu := fu) (σ := φ) (by omega) h10 r95 h1 (TM_fr h12 (by rw [f1 94 (by omega), t1 94 (by omega)]) (by rw [f1 98 (by omega), t1 98 (by omega)]))
    obtain ⟨ω, o0, o1, o2⟩ := zm_copies (fu := fu) (σ := ψ) (by omega) (show 97 ≠ 95 by omega)
    have back : ∀ i, i < 284 → ω 95 i = σ 95 i := fun i hi => by
      rw [o2 i hi, p1.1 97 (by omega) (by omega) (by omega) (by omega) (by omega), f2 i hi, t1 95 (by omega)]
    have fr : ∀ c, c < 3 ∨ (5 < c ∧ c < 82) ∨ c = 96 ∨ c = 98 → ω c = σ c := fun c hc => by
      rw [o1 c (by omega), p1.1 c (by omega) (by omega) (by omega) (by omega) (by omega), f1 c (by omega), t1 c (by omega)]
    have fr94 : ∀ f, f = 3 ∨ f = 6 → ω 94 f = σ 94 f := fun f hf => by
      rw [o1 94 (by omega), p1.2 f (by omega) (by omega), f1 94 (by omega), t1 94 (by omega)]
    have hg : GR ω := ⟨v, n, o, w, X, L, h1, RC_fr h2 (fun c c1 c2 => fr c (by omega)), RR_ext h3 h1.1 back, h4, h5, h6, HC_fr h7 (fr 8 (by omega)) (fun c c1 c2 => fr c (by omega)), HM_fr h8 (fr94 3 (by omega)) (fr 96 (by omega)), by rw [o1 94 (by omega)]; exact p2, h10, TC_fr h11 (fr 6 (by omega)) (fr 7 (by omega)), TM_fr h12 (fr94 6 (by omega)) (fr 98 (by omega))⟩
    have m0 : ∀ r, (if (bi ((runS X L 60 0 0 v).2.2.1 = 0)) = 0 then (if x = 0 then (some ((ω 94 10), ω)) else (if x = 1 then (some ((ω 94 11), ω)) else (some ((ω 94 12), ω)))) else (some ((-1000004), ω))) = some (r, ω) → ((f_X10_in fu τ x 0 2).bind fun v3 => (if v3 = 0 then (some ((-1000001), τ)) else ((f_X10_copies fu τ (94 + 1) 284 (94 + 3) 284).bind fun σ20 => (b2 (f_X10_plays fu σ20 94) fun v24 σ24 => ((f_X10_copies fu σ24 (94 + 3) 284 (94 + 1) 284).bind fun σ36 => (if v24 = 0 then (if x = 0 then (some ((σ36 94 10), σ36)) else (if x = 1 then (some ((σ36 94 11), σ36)) else (some ((σ36 94 12), σ36)))) else (some ((-1000004), σ36)))))))) = some (r, ω) := fun r hr => by
      rw [zm_in, bd_some, if_neg (fun z => bi_0.mp z hx), show f_X10_copies fu τ (94 + 1) 284 (94 + 3) 284 = _ from f0, bd_some, p0, b2_some, show f_X10_copies fu ψ (94 + 3) 284 (94 + 1) 284 = _ from o0, bd_some]
      exact hr
    have c0 : ∀ r, (if τ 3 5 = 0 then (some ((-1000004 : Int32), τ)) else (if x = 0 then some (τ 3 3, τ) else (if x = 1 then some (τ 3 5, τ) else some (τ 3 6, τ)))) = some (r, τ) → ((f_X9_isWithin fu σ x 0 2).bind fun v3 => (if v3 = 0 then (some ((-1000001), σ)) else ((f_X3_run fu σ (0 + 3) (0 + 10)).bind fun σ20 => ((if σ20 (0 + 3) 5 = 0 then some (0 : Int32) else some 1).bind fun v27 => (if v27 = 0 then (some ((-1000004), σ20)) else (if x = 0 then ((some (σ20 (0 + 3) 3)).bind fun v68 => (some (v68, σ20))) else (if x = 1 then ((some (σ20 (0 + 3) 5)).bind fun v76 => (some (v76, σ20))) else ((some (σ20 (0 + 3) 6)).bind fun v84 => (some (v84, σ20)))))))))) = some (r, τ) := fun r hr => by
      rw [z_within, bd_some, if_neg (fun z => bi_0.mp z hx), show f_X3_run fu σ (0 + 3) (0 + 10) = _ from t0, bd_some, bd_some, bd_some, bd_some]
      by_cases e : τ 3 5 = 0
      · rw [if_pos e] at hr
        rw [show (if τ (0 + 3) 5 = 0 then some (0 : Int32) else some 1) = some 0 from if_pos e, bd_some, if_pos rfl]
        exact hr
      · rw [if_neg e] at hr
        rw [show (if τ (0 + 3) 5 = 0 then some (0 : Int32) else some 1) = some 1 from if_neg e, bd_some, if_neg (show ¬ (1 : Int32) = 0 by decide)]
        exact hr
    by_cases e : (runS X L 60 0 0 v).2.2.1 = 0
    · refine ⟨-1000004, τ, ω, c0 _ ?_, m0 _ ?_, hg⟩
      · rw [t4, if_pos e]
      · rw [if_neg (fun z => bi_0.mp z e)]
    · obtain ⟨q1, q2, q3⟩ := p5 e
      have ω10 : ω 94 10 = τ 3 3 := by rw [o1 94 (by omega), q1, t2]
      have ω11 : ω 94 11 = τ 3 5 := by rw [o1 94 (by omega), q2, t4]
      have ω12 : ω 94 12 = τ 3 6 := by rw [o1 94 (by omega), q3, t5]
      refine ⟨if x = 0 then τ 3 3 else if x = 1 then τ 3 5 else τ 3 6, τ, ω, c0 _ ?_, m0 _ ?_, hg⟩
      · rw [if_neg (show ¬ τ 3 5 = 0 by rw [t4]; exact e)]
        by_cases x0 : x = 0
        · rw [if_pos x0, if_pos x0]
        · rw [if_neg x0, if_neg x0]
          by_cases x1 : x = 1
          · rw [if_pos x1, if_pos x1]
          · rw [if_neg x1, if_neg x1]
      · rw [if_pos (bi_0.mpr e), ω10, ω11, ω12]
        by_cases x0 : x = 0
        · rw [if_pos x0, if_pos x0]
        · rw [if_neg x0, if_neg x0]
          by_cases x1 : x = 1
          · rw [if_pos x1, if_pos x1]
          · rw [if_neg x1, if_neg x1]
  · refine ⟨-1000001, σ, σ, ?_, ?_, h0⟩
    · show ((f_X9_isWithin fu σ x 0 2).bind _) = _
      rw [z_within, bd_some, if_pos (bi_0.mpr hx)]
    · show ((f_X10_in fu σ x 0 2).bind _) = _
      rw [zm_in, bd_some, if_pos (bi_0.mpr hx)]
theorem k_play (hf : 2000 < fu) (h : GR σ) : CallII (fun σ => f_X9_play fu σ 0) (fun σ => f_X10_play fu σ 94) σ := by
  obtain ⟨v, n, o, w, X, L, h1, h2, h3, h4, h5, h6, h7, h8, h9, h10, h11, h12⟩ := h
  obtain ⟨τ, t0, t1, t2, t3, t4, t5, t6⟩ := zx_run (fu := fu) (by omega) h10 h2 h1 h11
  have hwf := wf_runS X L 60 0 0 v h1
  have hcb := runS_c X L 60 0 0 v
  have two : ∀ τ', (∀ c, c = 94 ∨ c = 95 ∨ c = 96 ∨ c = 98 → τ' c = σ c) → ∃ ω, (∀ c, c ≠ 94 → c ≠ 95 → c ≠ 97 → c ≠ 99 → c ≠ 100 → c ≠ 101 → ω c = τ' c) ∧ (∀ i, i < 284 → ω 95 i = σ 95 i) ∧ (∀ f, f ≠ 4 → f < 9 → ω 94 f = σ 94 f) ∧ ω 94 4 = 0 ∧ f_X10_play fu τ' 94 = (if bi ((runS X L 60 0 0 v).2.2.1 = 0) = 0 then (some ((-1000002), ω)) else ((f_X10_changes fu ω 94).bind fun σ35 => (b2 (f_X10_plays fu σ35 94) fun v39 σ39 => (if v39 = 0 then (some ((-1000004), σ39)) else (some ((σ39 94 13), σ39)))))) := fun τ' hτ => by
    obtain ⟨φ, f0, f1, f2⟩ := zm_copies (fu := fu) (σ := τ') (by omega) (show 95 ≠ 97 by omega)
    have r95 : RR v (φ 95) := by rw [f1 95 (by omega), hτ 95 (by omega)]; exact h3
    obtain ⟨ψ, p0, p1, p2, p3, p4, p5⟩ := zm_plays (fu := fu) (σ := φ) (by omega) h10 r95 h1 (TM_fr h12 (by rw [f1 94 (by omega), hτ 94 (by omega)]) (by rw [f1 98 (by omega), hτ 98 (by omega)]))
    obtain ⟨ω, o0, o1, o2⟩ := zm_copies (fu := fu) (σ := ψ) (by omega) (show 97 ≠ 95 by omega)
    refine ⟨ω, fun c c1 c2 c3 c4 c5 c6 => ?_, fun i hi => ?_, fun f g1 g2 => ?_, ?_, ?_⟩
    · rw [o1 c c2, p1.1 c c1 c2 c4 c5 c6, f1 c c3]
    · rw [o2 i hi, p1.1 97 (by omega) (by omega) (by omega) (by omega) (by omega), f2 i hi, hτ 95 (by omega)]
    · rw [o1 94 (by omega), p1.2 f g1 g2, f1 94 (by omega), hτ 94 (by omega)]
    · rw [o1 94 (by omega)]
      exact p2
    · unfold f_X10_play
      rw [show f_X10_copies fu τ' (94 + 1) 284 (94 + 3) 284 = _ from f0, bd_some, p0, b2_some, show f_X10_copies fu ψ (94 + 3) 284 (94 + 1) 284 = _ from o0, bd_some]
  by_cases e : (runS X L 60 0 0 v).2.2.1 = 0
  · -- all orders are done
    obtain ⟨τ1, a0, a1, a2⟩ := zc_take (fu := fu) (σ := τ) (k0 := 22) (k1 := 10) (by omega) (RC_fr h2 (fun c c1 c2 => t1 c (by omega))) h1.1
    obtain ⟨τ2, b0, b1, b2'⟩ := zc_take (fu := fu) (σ := τ1) (k0 := 10) (k1 := 82) (by omega) (RC_fr t6 (fun c c1 c2 => a2 c (by omega))) hwf.1
    have fr2 : ∀ c, c < 3 ∨ (5 < c ∧ c < 10) ∨ (34 ≤ c ∧ c < 82) ∨ 94 ≤ c → τ2 c = σ c := fun c hc => by rw [b2' c (by omega), a2 c (by omega), t1 c (by omega)]
    have k22 : RC 22 v τ2 := RC_fr a1 (fun c c1 c2 => b2' c (by omega))
    obtain ⟨τ3, o', d0, d1, d2, d3⟩ := hc_push (fu := fu) (σ := τ2) h4 h5 (HC_fr h7 (fr2 8 (by omega)) (fun c c1 c2 => fr2 c (by omega))) k22 h1.1
    have fr3 : ∀ c, c < 3 ∨ c = 6 ∨ c = 7 ∨ 94 ≤ c → τ3 c = σ c := fun c hc => by rw [d3 c (by omega) (by omega), fr2 c (by omega)]
    obtain ⟨ω, w1, w2, w3, w4, w5⟩ := two τ3 (fun c hc => fr3 c (by omega))
    have r95 : RR v (ω 95) := RR_ext h3 h1.1 w2
    obtain ⟨σ1, c0, c1, c2, c3⟩ := hm_push (fu := fu) (σ := ω) (by omega) h4 (HM_fr h8 (w3 3 (by omega) (by omega)) (by rw [w1 96 (by omega) (by omega) (by omega) (by omega) (by omega) (by omega)]; exact fr3 96 (by omega))) (fun j hj => (h6 j hj).1) r95 h1.1 w4
    have hTM : TM X L σ1 := TM_fr h12 (by rw [c3 6 (by omega)]; exact w3 6 (by omega) (by omega)) (by rw [c2 98 (by omega) (by omega), w1 98 (by omega) (by omega) (by omega) (by omega) (by omega) (by omega)]; exact fr3 98 (by omega))
    obtain ⟨ψ, p0, p1, p2, p3, p4, p5⟩ := zm_plays (fu := fu) (σ := σ1) (by omega) h10 (by rw [c2 95 (by omega) (by omega)]; exact r95) h1 hTM
    have fr4 : ∀ c, c ≠ 94 → c ≠ 95 → c ≠ 96 → c ≠ 97 → c ≠ 99 → c ≠ 100 → c ≠ 101 → ψ c = τ3 c := fun c q1 q2 q3 q4 q5 q6 q7 => by
      rw [p1.1 c q1 q2 q5 q6 q7, c2 c q1 q3, w1 c q1 q2 q4 q5 q6 q7]
    refine ⟨nI (runS X L 60 0 0 v).2.1, τ3, ψ, ?_, ?_, (runS X L 60 0 0 v).2.2.2.2, puN n, o', puW n w v, X, L, hwf, RC_fr b1 (fun c c1 c2 => ?_), p3, puN_le, d1, wf_pu h4 h6 h1, HC_fr d2 ?_ (fun c c1 c2 => ?_), HM_fr c1 (p1.2 3 (by omega) (by omega)) (p1.1 96 (by omega) (by omega) (by omega) (by omega) (by omega)), p2, h10, TC_fr h11 ?_ ?_, TM_fr hTM (p1.2 6 (by omega) (by omega)) (p1.1 98 (by omega) (by omega) (by omega) (by omega) (by omega))⟩
    · show f_X9_play fu σ 0 = _
      unfold f_X9_play f_X3_foundFault f_X3_outcome f_X3_ordersDone f_X9_recorded
      rw [show f_X3_run fu σ (0 + 3) (0 + 10) = _ from t0, bd_some, show τ (0 + 3) 5 = 0 from t4.trans e, if_pos rfl, bd_some, if_pos rfl, show f_X7_takeFrom fu τ (0 + 22) (0 + 10) = _ from a0, bd_some, bd_some, show f_X7_takeFrom fu τ1 (0 + 10) (0 + 3 + 79) = _ from b0, bd_some, bd_some, show τ2 (0 + 3) 4 = nI (runS X L 60 0 0 v).2.1 by rw [show 0 + 3 = 3 from rfl, b2' 3 (by omega), a2 3 (by omega)]; exact t3, if_neg (nI_pos (by omega)), show f_X1_keep fu τ2 (0 + 8) (0 + 22) = _ from d0, bd_some, b2_some]
    · show f_X10_play fu τ3 94 = _
      rw [w5, if_neg (fun z => bi_0.mp z e), c0, bd_some, p0, b2_some, if_neg (fun z => bi_0.mp z e), p4 e]
    · rw [fr4 c (by omega) (by omega) (by omega) (by omega) (by omega) (by omega) (by omega), d3 c (by omega) (by omega)]
    · exact fr4 8 (by omega) (by omega) (by omega) (by omega) (by omega) (by omega) (by omega)
    · exact fr4 c (by omega) (by omega) (by omega) (by omega) (by omega) (by omega) (by omega)
    · rw [fr4 6 (by omega) (by omega) (by omega) (by omega) (by omega) (by omega) (by omega), fr3 6 (by omega)]
    · rw [fr4 7 (by omega) (by omega) (by omega) (by omega) (by omega) (by omega) (by omega), fr3 7 (by omega)]
  · obtain ⟨ω, w1, w2, w3, w4, w5⟩ := two τ (fun c hc => t1 c (by omega))
    have fr : ∀ c, c < 3 ∨ (5 < c ∧ c < 82) ∨ c = 96 ∨ c = 98 → ω c = σ c := fun c hc => by rw [w1 c (by omega) (by omega) (by omega) (by omega) (by omega) (by omega), t1 c (by omega)]
    refine ⟨-1000002, τ, ω, ?_, ?_, v, n, o, w, X, L, h1, RC_fr h2 (fun c c1 c2 => fr c (by omega)), RR_ext h3 h1.1 w2, h4, h5, h6, HC_fr h7 (fr 8 (by omega)) (fun c c1 c2 => fr c (by omega)), HM_fr h8 (w3 3 (by omega) (by omega)) (fr 96 (by omega)), w4, h10, TC_fr h11 (fr 6 (by omega)) (fr 7 (by omega)), TM_fr h12 (w3 6 (by omega) (by omega)) (fr 98 (by omega))⟩
    · show f_X9_play fu σ 0 = _
      unfold f_X9_play f_X3_foundFault
      rw [show f_X3_run fu σ (0 + 3) (0 + 10) = _ from t0, bd_some, if_neg (show ¬ τ (0 + 3) 5 = 0 from fun z => e (t4.symm.trans z)), bd_some, if_neg (show ¬ (1 : Int32) = 0 by decide)]
    · show f_X10_play fu τ 94 = _
      rw [w5, if_pos (bi_0.mpr e)]
end Calls
