/-! ===== changes of a transcript: LectureTurns' side ===== -/
section Mut2
variable {fu k : Nat} {σ : gSt} {v : gV}
theorem RCt_eq {w : gV} (h : RCt k v σ) (hn : vn w = vn v) (hr : ∀ i, i < vn v → vB w i = vB v i ∧ vE w i = vE v i ∧ vP w i = vP v i ∧ vO w i = vO v i ∧ vC w i = vC v i ∧ ∀ j, j < vC v i → vQ w i j = vQ v i j) : RCt k w σ := by
  refine ⟨by rw [hn]; exact h.1, fun i hi => ?_⟩
  rw [hn] at hi
  obtain ⟨r1, r2, r3, r4, r5, r6⟩ := hr i hi
  obtain ⟨g1, g2, g3, g4, g5, g6⟩ := h.2 i hi
  rw [r1, r2, r3, r4, r5]
  exact ⟨g1, g2, g3, g4, g5, fun j hj => by rw [r6 j hj]; exact g6 j hj⟩
theorem RCt_fr {τ : gSt} (h : RCt k v σ) (e : ∀ c, k ≤ c → c < k + 7 → τ c = σ c) : RCt k v τ := by
  unfold RCt
  rw [e k (by omega) (by omega), e (k + 1) (by omega) (by omega), e (k + 2) (by omega) (by omega), e (k + 3) (by omega) (by omega), e (k + 4) (by omega) (by omega), e (k + 5) (by omega) (by omega), e (k + 6) (by omega) (by omega)]
  exact h
theorem WT_say (hw : WT v) {i c : Nat} {q : Nat → Nat} (hc : c ≤ 8) (hq : ∀ j, j < c → q j < 16) : WT (sayV v i c q) := ⟨hw.1, hw.2.1, fun l hl => by
  show uF (vC v) i c l ≤ 8 ∧ ∀ j, j < uF (vC v) i c l → uF (vQ v) i q l j < 16
  by_cases e : l = i
  · subst e
    rw [uF_e, uF_e]
    exact ⟨hc, hq⟩
  · rw [uF_n _ _ e, uF_n _ _ e]
    exact hw.2.2 l hl⟩
theorem zt_cut (h : RCt k v σ) {i x : Nat} (hx : x ≤ vC v i) : RCt k (sayV v i x (vQ v i)) (gu σ (k + 5) (upd (σ (k + 5)) i (nI x))) := by
  refine ⟨?_, fun l hl => ?_⟩
  · simp (disch := omega) only [gu_n]
    exact h.1
  · have hl' : l < vn v := hl
    obtain ⟨g1, g2, g3, g4, g5, g6⟩ := h.2 l hl'
    simp (disch := omega) only [gu_n, gu_s]
    refine ⟨g1, g2, g3, g4, ?_, fun j hj => ?_⟩
    · show upd (σ (k + 5)) i (nI x) l = nI (uF (vC v) i x l)
      by_cases q : l = i
      · subst q
        rw [up_e, uF_e]
      · rw [up_n _ _ q, uF_n _ _ q, g5]
    · have hj' : j < uF (vC v) i x l := hj
      show σ (k + 6) (8 * l + j) = nI (uF (vQ v) i (vQ v i) l j)
      by_cases q : l = i
      · subst q
        rw [uF_e] at hj' ⊢
        exact g6 j (by omega)
      · rw [uF_n _ _ q] at hj' ⊢
        exact g6 j hj'
theorem zt_pass_W (hw : WT v) {i m x : Nat} (hi : i < vn v) (hm : m < vn v) (him : i ≠ m) (hx : x ≤ vC v i) : ∀ (n l : Nat) (σ : gSt), RCt k (sayV v m (l - x) (fun j => vQ v i (x + j))) σ → x ≤ l → l ≤ vC v i → vC v i - l < n → ∃ σ', f_X8_passTerms_W29 fu k (nI i) (nI x) (nI m) (nI (vC v i)) n (nI l) σ = some σ' ∧ RCt k (sayV (sayV v m (vC v i - x) (fun j => vQ v i (x + j))) i x (vQ v i)) σ' ∧ FrT k σ σ'
  | 0, _, _, _, _, _, q => absurd q (by omega)
  | n + 1, l, σ, h, h1, h2, hn => by
    have h20 := hw.1
    have h8 := (hw.2.2 i hi).1
    have hwl : WT (sayV v m (l - x) (fun j => vQ v i (x + j))) := WT_say hw (by omega) (fun j hj => (hw.2.2 i hi).2 _ (by omega))
    have eC : vC (sayV v m (l - x) (fun j => vQ v i (x + j))) i = vC v i := uF_n _ _ him
    have eQ : vQ (sayV v m (l - x) (fun j => vQ v i (x + j))) i = vQ v i := uF_n _ _ him
    rw [f_X8_passTerms_W29_s]
    unfold f_X8_passTerms_L29
    rcases Nat.lt_or_ge l (vC v i) with q | q
    · have eT : f_X8_toldTerm fu σ k (nI i) (nI l) = some (nI (vQ v i l)) := by
        rw [zt_told h hwl hi (show l < vC (sayV v m (l - x) (fun j => vQ v i (x + j))) i by rw [eC]; exact q), eQ]
      rw [if_neg (zl_le q (by omega)), eT, bd_some]
      have eM : vC (sayV v m (l - x) (fun j => vQ v i (x + j))) m = l - x := uF_e _ _ _
      obtain ⟨τ, t0, t1, t2⟩ := zt_append (fu := fu) (t := vQ v i l) h hwl (show m < vn (sayV v m (l - x) (fun j => vQ v i (x + j))) from hm) (by rw [eM]; omega)
      rw [t0, bd_some, z_add1]
      have t3 : RCt k (sayV v m (l + 1 - x) (fun j => vQ v i (x + j))) τ := RCt_eq t1 rfl (fun r hr => by
        refine ⟨rfl, rfl, rfl, rfl, ?_, fun j hj => ?_⟩
        · show uF (vC v) m (l + 1 - x) r = uF (uF (vC v) m (l - x)) m (vC (sayV v m (l - x) (fun j => vQ v i (x + j))) m + 1) r
          rw [eM]
          by_cases e : r = m
          · subst e
            rw [uF_e, uF_e]
            omega
          · rw [uF_n _ _ e, uF_n _ _ e, uF_n _ _ e]
        · have hj' : j < uF (uF (vC v) m (l - x)) m (vC (sayV v m (l - x) (fun j => vQ v i (x + j))) m + 1) r := hj
          show uF (vQ v) m (fun j => vQ v i (x + j)) r j = uF (uF (vQ v) m (fun j => vQ v i (x + j))) m (uF (vQ (sayV v m (l - x) (fun j => vQ v i (x + j))) m) (vC (sayV v m (l - x) (fun j => vQ v i (x + j))) m) (vQ v i l)) r j
          rw [eM, show vQ (sayV v m (l - x) (fun j => vQ v i (x + j))) m = (fun j => vQ v i (x + j)) from uF_e _ _ _]
          by_cases e : r = m
          · subst e
            rw [uF_e, uF_e]
            by_cases e2 : j = l - x
            · subst e2
              rw [uF_e]
              show vQ v i (x + (l - x)) = _
              rw [show x + (l - x) = l by omega]
            · rw [uF_n _ _ e2]
          · rw [uF_n _ _ e, uF_n _ _ e, uF_n _ _ e])
      obtain ⟨υ, u0, u1, u2⟩ := zt_pass_W hw hi hm him hx n (l + 1) τ t3 (by omega) q (by omega)
      exact ⟨υ, u0, u1, FrT_t t2 u2⟩
    · have e : l = vC v i := by omega
      rw [if_pos (zl_ge q (by omega)), wrN i rfl (by omega) (by omega), bd_some]
      refine ⟨_, rfl, ?_, fun c hc => gu_n _ _ (by omega)⟩
      have := zt_cut h (i := i) (x := x) (by rw [eC]; exact hx)
      rw [eQ, e] at this
      exact this
theorem zt_pass (hf : 20 < fu) (h : RCt k v σ) (hw : WT v) {i m x : Nat} (hi : i < vn v) (hm : m < vn v) (him : i ≠ m) (hx : x ≤ vC v i) (h0 : vC v m = 0) : ∃ σ', f_X8_passTerms fu σ k (nI i) (nI x) (nI m) = some σ' ∧ RCt k (sayV (sayV v m (vC v i - x) (fun j => vQ v i (x + j))) i x (vQ v i)) σ' ∧ FrT k σ σ' := by
  have h20 := hw.1
  have h8 := (hw.2.2 i hi).1
  unfold f_X8_passTerms
  rw [zt_count h hw hi, bd_some, zt_has h hw hi, bd_some, if_neg (show ¬ (1 : Int32) = 0 by decide), z_within, bd_some, if_neg (z_bl hx (by omega))]
  refine zt_pass_W hw hi hm him hx fu x σ ?_ (Nat.le_refl _) hx (by omega)
  refine RCt_eq h rfl (fun r hr => ⟨rfl, rfl, rfl, rfl, ?_, fun j hj => ?_⟩)
  · show uF (vC v) m (x - x) r = vC v r
    by_cases e : r = m
    · subst e
      rw [uF_e, h0, Nat.sub_self]
    · rw [uF_n _ _ e]
  · show uF (vQ v) m _ r j = vQ v r j
    by_cases e : r = m
    · subst e
      rw [h0] at hj
      exact absurd hj (Nat.not_lt_zero j)
    · rw [uF_n _ _ e]
theorem zt_endAt (h : RCt k v σ) (hw : WT v) {i : Nat} (hi : i < vn v) (x : Int32) : ∃ σ', f_X8_endAt fu σ k (nI i) x = some σ' ∧ RCt k (endV v i x) σ' ∧ FrT k σ σ' := by
  have h20 := hw.1
  unfold f_X8_endAt
  rw [zt_has h hw hi, bd_some, if_neg (show ¬ (1 : Int32) = 0 by decide), wrN i rfl (by omega) (by omega), bd_some]
  refine ⟨_, rfl, ⟨?_, fun l hl => ?_⟩, fun c hc => gu_n _ _ (by omega)⟩
  · simp (disch := omega) only [gu_n]
    exact h.1
  · have hl' : l < vn v := hl
    obtain ⟨g1, g2, g3, g4, g5, g6⟩ := h.2 l hl'
    simp (disch := omega) only [gu_n, gu_s]
    refine ⟨g1, ?_, g3, g4, g5, g6⟩
    show upd (σ (k + 2)) i x l = uF (vE v) i x l
    by_cases q : l = i
    · subst q
      rw [up_e, uF_e]
    · rw [up_n _ _ q, uF_n _ _ q, g2]
theorem zt_own (h : RCt k v σ) (hw : WT v) {i : Nat} (hi : i < vn v) (x : Int32) : ∃ σ', f_X8_own fu σ k (nI i) x = some σ' ∧ RCt k (ownV v (uF (vO v) i x)) σ' ∧ FrT k σ σ' := by
  have h20 := hw.1
  unfold f_X8_own
  rw [zt_has h hw hi, bd_some, if_neg (show ¬ (1 : Int32) = 0 by decide), wrN i rfl (by omega) (by omega), bd_some]
  refine ⟨_, rfl, ⟨?_, fun l hl => ?_⟩, fun c hc => gu_n _ _ (by omega)⟩
  · simp (disch := omega) only [gu_n]
    exact h.1
  · have hl' : l < vn v := hl
    obtain ⟨g1, g2, g3, g4, g5, g6⟩ := h.2 l hl'
    simp (disch := omega) only [gu_n, gu_s]
    refine ⟨g1, g2, g3, ?_, g5, g6⟩
    show upd (σ (k + 4)) i x l = uF (vO v) i x l
    by_cases q : l = i
    · subst q
      rw [up_e, uF_e]
    · rw [up_n _ _ q, uF_n _ _ q, g4]
theorem zt_passTurns_W (hw : WT v) (a b : Int32) : ∀ (n i : Nat) (σ : gSt), RCt k (ownV v (fun j => if j < i ∧ vO v j = a then b else vO v j)) σ → i ≤ vn v → vn v - i < n → ∃ σ', f_X8_passTurns_W2 fu k a b n (nI i) σ = some σ' ∧ RCt k (ownV v (fun j => if vO v j = a then b else vO v j)) σ' ∧ FrT k σ σ'
  | 0, _, _, _, _, q => absurd q (by omega)
  | n + 1, i, σ, h, hi, hn => by
    have h20 := hw.1
    rw [f_X8_passTurns_W2_s]
    unfold f_X8_passTurns_L2
    rw [show σ k 6 = nI (vn v) from h.1]
    rcases Nat.lt_or_ge i (vn v) with q | q
    · have eo : σ (k + 4) i = vO v i := by
        rw [(h.2 i q).2.2.2.1]
        exact if_neg (fun z => absurd z.1 (Nat.lt_irrefl i))
      rw [if_neg (zl_le q (by omega)), if_neg (zo_le (n := 20) (by omega) (by omega)), rdN i rfl (by omega) (by omega), bd_some, eo, z_add1]
      by_cases e : vO v i = a
      · rw [if_pos e, wrN i rfl (by omega) (by omega), bd_some]
        have t3 : RCt k (ownV v (fun j => if j < i + 1 ∧ vO v j = a then b else vO v j)) (gu σ (k + 4) (upd (σ (k + 4)) i b)) := by
          refine ⟨?_, fun l hl => ?_⟩
          · simp (disch := omega) only [gu_n]
            exact h.1
          · obtain ⟨g1, g2, g3, g4, g5, g6⟩ := h.2 l hl
            simp (disch := omega) only [gu_n, gu_s]
            refine ⟨g1, g2, g3, ?_, g5, g6⟩
            show upd (σ (k + 4)) i b l = if l < i + 1 ∧ vO v l = a then b else vO v l
            by_cases z : l = i
            · subst z
              rw [up_e, if_pos ⟨by omega, e⟩]
            · rw [up_n _ _ z, g4]
              show (if l < i ∧ vO v l = a then b else vO v l) = _
              by_cases y : l < i ∧ vO v l = a
              · rw [if_pos y, if_pos ⟨by omega, y.2⟩]
              · rw [if_neg y, if_neg (fun x => y ⟨by omega, x.2⟩)]
        obtain ⟨υ, u0, u1, u2⟩ := zt_passTurns_W hw a b n (i + 1) _ t3 q (by omega)
        exact ⟨υ, u0, u1, FrT_t (fun c hc => gu_n _ _ (by omega)) u2⟩
      · rw [if_neg e]
        have t3 : RCt k (ownV v (fun j => if j < i + 1 ∧ vO v j = a then b else vO v j)) σ := RCt_eq h rfl (fun l hl => ⟨rfl, rfl, rfl, by
          show (if l < i + 1 ∧ vO v l = a then b else vO v l) = if l < i ∧ vO v l = a then b else vO v l
          by_cases y : l < i ∧ vO v l = a
          · rw [if_pos y, if_pos ⟨by omega, y.2⟩]
          · rw [if_neg y, if_neg (fun x => y ⟨by
              rcases Nat.lt_or_ge l i with z | z
              · exact z
              · have : l = i := by omega
                subst this
                exact absurd x.2 e, x.2⟩)], rfl, fun j _ => rfl⟩)
        exact zt_passTurns_W hw a b n (i + 1) σ t3 q (by omega)
    · rw [if_pos (zl_ge q (by omega))]
      refine ⟨σ, rfl, RCt_eq h rfl (fun l hl => ⟨rfl, rfl, rfl, ?_, rfl, fun j _ => rfl⟩), FrT_0 k σ⟩
      have hl' : l < vn v := hl
      show (if vO v l = a then b else vO v l) = if l < i ∧ vO v l = a then b else vO v l
      by_cases y : vO v l = a
      · rw [if_pos y, if_pos ⟨by omega, y⟩]
      · rw [if_neg y, if_neg (fun x => y x.2)]
theorem zt_passTurns (hf : 20 < fu) (h : RCt k v σ) (hw : WT v) (a b : Int32) : ∃ σ', f_X8_passTurns fu σ k a b = some σ' ∧ RCt k (ownV v (fun j => if vO v j = a then b else vO v j)) σ' ∧ FrT k σ σ' := by
  have h20 := hw.1
  exact zt_passTurns_W hw a b fu 0 σ (RCt_eq h rfl (fun l hl => ⟨rfl, rfl, rfl, show (if l < 0 ∧ vO v l = a then b else vO v l) = vO v l from if_neg (fun x => absurd x.1 (Nat.not_lt_zero l)), rfl, fun j _ => rfl⟩)) (Nat.zero_le _) (by omega)
/-- the mean of the pitches of a speaker's turns, or another pitch -/
def mnV (v : gV) (s d : Int32) : Int32 := if sumN (vn v) (fun i => on1 (decide (vO v i = s))) = 0 then d else smS (vn v) (fun i => decide (vO v i = s)) (vP v) / nI (sumN (vn v) (fun i => on1 (decide (vO v i = s))))
theorem cnt_le (n : Nat) (c : Nat → Bool) : sumN n (fun i => on1 (c i)) ≤ n * 1 := sumN_le n (fun i _ => by
  by_cases q : c i = true
  · rw [on1_t q]
    exact Nat.le_refl _
  · rw [on1_f q]
    exact Nat.zero_le _)
theorem zt_mean (hf : 20 < fu) (h : RCt k v σ) (hw : WT v) (s d : Int32) : f_X8_meanPitchOf fu σ k s d = some (mnV v s d) := by
  have h20 := hw.1
  have hc := cnt_le (vn v) (fun i => decide (vO v i = s))
  unfold f_X8_meanPitchOf mnV
  rw [zt_turnsOf hf h hw s, bd_some, show ctS (vn v) (fun i => decide (vO v i = s)) 0 = nI (0 + sumN (vn v) (fun i => on1 (decide (vO v i = s)))) from ctS_sum _ 0 _, Nat.zero_add]
  by_cases q : sumN (vn v) (fun i => on1 (decide (vO v i = s))) = 0
  · rw [if_pos ((nI_le0 (by omega)).mpr q), if_pos q]
  · rw [if_neg (fun z => q ((nI_le0 (by omega)).mp z)), if_neg q, zt_sumOf hf h hw s (k + 3) (fun i hi => (h.2 i hi).2.2.1), bd_some]
    unfold dv
    rw [if_neg (z_ne0 (by omega) (by omega)), bd_some]
end Mut2
