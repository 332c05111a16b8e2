/-! ===== what holds of a transcript holds after each change ===== -/
section Wf
variable {v : gV}
theorem nI_ne {a b : Nat} (ha : a < 4096) (hb : b < 4096) (h : a ≠ b) : nI a ≠ nI b := fun z => h ((z_eq ha hb).mp z)
theorem wf_ins (h : WF v) (hn : vn v < 20) {x e pi o : Int32} {c : Nat} {q : Nat → Nat} (ht : ∃ b e' p' : Nat, x = nI b ∧ e = nI e' ∧ pi = nI p' ∧ b < e' ∧ e' ≤ 1999 ∧ 50 ≤ p' ∧ p' ≤ 500) (hO : o = -1 ∨ ∃ s, s < 6 ∧ o = nI s ∧ vS v s ≠ 0) (hc : c ≤ 8) (hq : ∀ j, j < c → q j < 16) : WF (insV v (plV v x) x e pi o c q) := by
  obtain ⟨hw, hs, ho, hT, hA, ha⟩ := h
  have hp := plV_le v x
  have lo : ∀ j, j < plV v x → vB v j ≤ x := fun j hj => z_nlt.mp (plF_lo (vB v) x (vn v) 0 j (Nat.zero_le _) hj)
  have hi : plV v x < vn v → x < vB v (plV v x) := fun z => plF_hi (vB v) x (vn v) 0 (by show plV v x < 0 + vn v; omega)
  refine ⟨WT_ins hw hn hp ht hc hq, ⟨fun i i1 => ?_, hs.2⟩, fun i j h1 h2 => ?_, hT, hA, ha⟩
  · have i1' : i < vn v + 1 := i1
    show inF (vO v) (plV v x) o i = -1 ∨ ∃ s, s < 6 ∧ inF (vO v) (plV v x) o i = nI s ∧ vS v s ≠ 0
    rcases Nat.lt_trichotomy i (plV v x) with z | z | z
    · rw [inF_l _ _ z]
      exact hs.1 i (by omega)
    · rw [z, inF_e]
      exact hO
    · rw [inF_g _ _ z]
      exact hs.1 (i - 1) (by omega)
  · have h2' : j < vn v + 1 := h2
    show inF (vB v) (plV v x) x i ≤ inF (vB v) (plV v x) x j
    generalize plV v x = p at *
    rcases Nat.lt_trichotomy i p with z | z | z
    · rw [inF_l _ _ z]
      rcases Nat.lt_trichotomy j p with y | y | y
      · rw [inF_l _ _ y]
        exact ho i j h1 (by omega)
      · rw [y, inF_e]
        exact lo i z
      · rw [inF_g _ _ y]
        exact ho i (j - 1) (by omega) (by omega)
    · subst z
      rw [inF_e, inF_g _ _ h1]
      have a1 := hi (by omega)
      rw [z_lti] at a1
      rcases Nat.lt_or_ge i (j - 1) with y | y
      · have a2 := ho i (j - 1) y (by omega)
        rw [z_lei] at a2 ⊢
        omega
      · rw [show j - 1 = i by omega, z_lei]
        omega
    · rw [inF_g _ _ z, inF_g _ _ (by omega)]
      exact ho (i - 1) (j - 1) (by omega) (by omega)
theorem wf_turn (h : WF v) (b e p : Int32) : WF (opTurn v b e p).2 := by
  have h0 := h
  obtain ⟨hw, hs, ho, hT, hA, a, ha, hva⟩ := h
  unfold opTurn
  by_cases h1 : (0 ≤ b ∧ b < e ∧ e ≤ 1999) ∧ 50 ≤ p ∧ p ≤ 500
  · rw [if_pos h1]
    by_cases q : vn v = 20
    · rw [if_pos q]
      exact h0
    · rw [if_neg q]
      obtain ⟨⟨c1, c2, c3⟩, c4⟩ := h1
      rcases z_pitch p with ⟨y, rfl, y1, y2, -⟩ | z
      · rw [z_lti] at c2
        rw [z_lei, show (1999 : Int32).toInt = 1999 by decide] at c3
        rw [z_lei, show (0 : Int32).toInt = 0 by decide] at c1
        have e1 : b = nI b.toInt.toNat := by
          apply Int32.toInt_inj.mp
          rw [nI_toInt (by omega)]
          omega
        have e2 : e = nI e.toInt.toNat := by
          apply Int32.toInt_inj.mp
          rw [nI_toInt (by omega)]
          omega
        refine wf_ins h0 (by have := hw.1; omega) ⟨_, _, y, e1, e2, rfl, by omega, by omega, y1, y2⟩ ?_ (by omega) (fun j hj => absurd hj (Nat.not_lt_zero j))
        rw [hva]
        rcases clS_v hs (p := y) (a := a) (by omega) ha with z | ⟨s, s6, z, z0⟩
        · exact Or.inl z
        · exact Or.inr ⟨s, s6, z, z0⟩
      · exact absurd c4 z
  · rw [if_neg h1]
    exact h0
theorem wf_say (h : WF v) (p t : Int32) : WF (opSay v p t).2 := by
  have h0 := h
  obtain ⟨hw, hs, ho, hT, hA, ha⟩ := h
  have h20 := hw.1
  unfold opSay
  rcases ix_cases (vn v) p (by omega) with ⟨i, hi, rfl, hx⟩ | ⟨hp, hx⟩
  · rw [hx, el_s]
    rcases z_ix16 t with ⟨u, hu, rfl, ht⟩ | ⟨ht, -⟩
    · rw [if_pos ht, nI_clamp (by omega)]
      by_cases q : vC v i = 8
      · rw [if_pos q]
        exact h0
      · rw [if_neg q]
        have h8 := (hw.2.2 i hi).1
        refine ⟨WT_say hw (by omega) (fun j hj => ?_), hs, ho, hT, hA, ha⟩
        by_cases e : j = vC v i
        · subst e
          rw [uF_e]
          exact hu
        · rw [uF_n _ _ e]
          exact (hw.2.2 i hi).2 j (by omega)
    · rw [if_neg ht]
      exact h0
  · rw [hx, el_n]
    exact h0
theorem wf_part (h : WF v) (p t x : Int32) : WF (opPart v p t x).2 := by
  have h0 := h
  obtain ⟨hw, hs, ho, hT, hA, ha⟩ := h
  have h20 := hw.1
  unfold opPart
  rcases ix_cases (vn v) p (by omega) with ⟨i, hi, rfl, hx⟩ | ⟨hp, hx⟩
  · rw [hx, el_s]
    have h8 := (hw.2.2 i hi).1
    by_cases h1 : (vB v i < t ∧ t < vE v i) ∧ 0 ≤ x ∧ x ≤ nI (vC v i)
    · rw [if_pos h1]
      by_cases q : vn v = 20
      · rw [if_pos q]
        exact h0
      · rw [if_neg q]
        obtain ⟨⟨c1, c2⟩, c3, c4⟩ := h1
        obtain ⟨b1, b2, b3, b4⟩ := wt_nat hw hi
        obtain ⟨p1, p2, p3⟩ := wt_np hw hi
        rw [b1] at c1
        rw [b2] at c2
        obtain ⟨c, rfl, d1, d2⟩ := z_btw (by omega) (by omega) c1 c2
        obtain ⟨y, hy, rfl⟩ : ∃ y, y ≤ vC v i ∧ x = nI y := by
          rcases z_ix x (n := vC v i + 1) (by omega) with ⟨y, y1, y2⟩ | hx
          · exact ⟨y, by omega, y2⟩
          · exfalso
            rcases hx with z | z
            · exact (z_nle.mpr z) c3
            · rw [z_lei] at c4 z
              rw [nI_toInt (by omega)] at c4 z
              omega
        rw [nI_clamp (by omega)]
        have hwc : WT (sayV v i y (vQ v i)) := WT_say hw (by omega) (fun j hj => (hw.2.2 i hi).2 j (by omega))
        have hwe : WT (endV (sayV v i y (vQ v i)) i (nI c)) := WT_end hwc hi d1 (by omega)
        exact wf_ins (v := endV (sayV v i y (vQ v i)) i (nI c)) ⟨hwe, hs, ho, hT, hA, ha⟩ (show vn v < 20 by omega) ⟨c, ne v i, np v i, rfl, b2, p1, d2, b4, p2, p3⟩ (hs.1 i hi) (by omega) (fun j hj => (hw.2.2 i hi).2 _ (by omega))
    · rw [if_neg h1]
      exact h0
  · rw [hx, el_n]
    exact h0
theorem wf_rem (h : WF v) (p : Int32) : WF (opRem v p).2 := by
  have h0 := h
  obtain ⟨hw, hs, ho, hT, hA, ha⟩ := h
  have h20 := hw.1
  unfold opRem
  rcases ix_cases (vn v) p (by omega) with ⟨i, hi, rfl, hx⟩ | ⟨hp, hx⟩
  · rw [hx, el_s]
    refine ⟨⟨show vn v - 1 ≤ 20 by omega, fun l hl => ?_, fun l hl => ?_⟩, ⟨fun l hl => ?_, hs.2⟩, fun l j h1 h2 => ?_, hT, hA, ha⟩
    · have hl' : l < vn v - 1 := hl
      show ∃ b e p : Nat, deF (vB v) i l = nI b ∧ deF (vE v) i l = nI e ∧ deF (vP v) i l = nI p ∧ b < e ∧ e ≤ 1999 ∧ 50 ≤ p ∧ p ≤ 500
      rcases Nat.lt_or_ge l i with z | z
      · rw [deF_l _ z, deF_l _ z, deF_l _ z]
        exact hw.2.1 l (by omega)
      · rw [deF_g _ z, deF_g _ z, deF_g _ z]
        exact hw.2.1 (l + 1) (by omega)
    · have hl' : l < vn v - 1 := hl
      show deF (vC v) i l ≤ 8 ∧ ∀ j, j < deF (vC v) i l → deF (vQ v) i l j < 16
      rcases Nat.lt_or_ge l i with z | z
      · rw [deF_l _ z, deF_l _ z]
        exact hw.2.2 l (by omega)
      · rw [deF_g _ z, deF_g _ z]
        exact hw.2.2 (l + 1) (by omega)
    · have hl' : l < vn v - 1 := hl
      show deF (vO v) i l = -1 ∨ ∃ s, s < 6 ∧ deF (vO v) i l = nI s ∧ vS v s ≠ 0
      rcases Nat.lt_or_ge l i with z | z
      · rw [deF_l _ z]
        exact hs.1 l (by omega)
      · rw [deF_g _ z]
        exact hs.1 (l + 1) (by omega)
    · have h2' : j < vn v - 1 := h2
      show deF (vB v) i l ≤ deF (vB v) i j
      rcases Nat.lt_or_ge l i with z | z
      · rw [deF_l _ z]
        rcases Nat.lt_or_ge j i with y | y
        · rw [deF_l _ y]
          exact ho l j h1 (by omega)
        · rw [deF_g _ y]
          exact ho l (j + 1) (by omega) (by omega)
      · rw [deF_g _ z, deF_g _ (by omega)]
        exact ho (l + 1) (j + 1) (by omega) (by omega)
  · rw [hx, el_n]
    exact h0
theorem wf_cor (h : WF v) (x y : Int32) : WF (opCor v x y).2 := by
  have h0 := h
  obtain ⟨hw, hs, ho, hT, hA, ha⟩ := h
  have hb := tb_of hT hA
  unfold opCor
  by_cases e : spErr (vT v) x y = 0
  · obtain ⟨t, u, ht, hu, rfl, rfl, htu, hl⟩ := spErr_0 e
    rw [if_pos e, nI_clamp (by omega), nI_clamp (by omega)]
    exact ⟨hw, hs, ho, uF_TW hT (by omega), uF_TA hT hb (cor_ok hb hu hl), ha⟩
  · rw [if_neg e]
    exact h0
theorem wf_unc (h : WF v) (x : Int32) : WF (opUnc v x).2 := by
  have h0 := h
  obtain ⟨hw, hs, ho, hT, hA, ha⟩ := h
  have hb := tb_of hT hA
  unfold opUnc
  rcases z_ix16 x with ⟨t, ht, rfl, hx⟩ | ⟨hx, -⟩
  · rw [if_pos hx, nI_clamp (by omega)]
    by_cases q : vT v t = 0
    · rw [if_pos q]
      exact h0
    · rw [if_neg q]
      exact ⟨hw, hs, ho, uF_TW hT (by omega), uF_TA hT hb (Or.inl rfl), ha⟩
  · rw [if_neg hx]
    exact h0
theorem ws_pit (hs : WS v) {s : Nat} (h6 : s < 6) {p : Nat} (h1 : 50 ≤ p) (h2 : p ≤ 500) : WS (pitV v (uF (vS v) s (nI p))) := by
  refine ⟨fun i hi => ?_, fun r hr => ?_⟩
  · show vO v i = -1 ∨ ∃ r, r < 6 ∧ vO v i = nI r ∧ uF (vS v) s (nI p) r ≠ 0
    rcases hs.1 i hi with z | ⟨r, r6, z, z0⟩
    · exact Or.inl z
    · refine Or.inr ⟨r, r6, z, ?_⟩
      by_cases e : r = s
      · subst e
        rw [uF_e]
        exact z_ne0 (by omega) (by omega)
      · rw [uF_n _ _ e]
        exact z0
  · show uF (vS v) s (nI p) r = 0 ∨ ∃ q : Nat, uF (vS v) s (nI p) r = nI q ∧ 50 ≤ q ∧ q ≤ 500
    by_cases e : r = s
    · subst e
      rw [uF_e]
      exact Or.inr ⟨p, rfl, h1, h2⟩
    · rw [uF_n _ _ e]
      exact hs.2 r hr
theorem wf_spk (h : WF v) (p : Int32) : WF (opSpk v p).2 := by
  have h0 := h
  obtain ⟨hw, hs, ho, hT, hA, ha⟩ := h
  have h6 := (frS_le (vS v) 6 0).2
  unfold opSpk
  rcases z_pitch p with ⟨y, rfl, y1, y2, hp⟩ | hp
  · rw [if_pos hp]
    by_cases q : frS (vS v) 0 6 = 6
    · rw [if_pos q]
      exact h0
    · rw [if_neg q]
      exact ⟨hw, ws_pit hs (by omega) y1 y2, ho, hT, hA, ha⟩
  · rw [if_neg hp]
    exact h0
theorem wf_giv (h : WF v) (p s : Int32) : WF (opGiv v p s).2 := by
  have h0 := h
  obtain ⟨hw, hs, ho, hT, hA, ha⟩ := h
  have h20 := hw.1
  unfold opGiv
  rcases ix_cases (vn v) p (by omega) with ⟨i, hi, rfl, hx⟩ | ⟨hp, hx⟩
  · rw [hx, el_s]
    rcases vx_cases (vS v) s with ⟨a, h6, rfl, a0, hv⟩ | ⟨hv, -⟩
    · rw [hv, el_s]
      by_cases q : vO v i = nI a
      · rw [if_pos q]
        exact h0
      · rw [if_neg q]
        obtain ⟨m, hm, m1, m2⟩ := mn_in (w := ownV v (uF (vO v) i (nI a))) hw (nI a) (d := vS v a) (by
          rcases hs.2 a h6 with z | z
          · exact absurd z a0
          · exact z)
        have hs1 : WS (ownV v (uF (vO v) i (nI a))) := ⟨fun l hl => by
          show uF (vO v) i (nI a) l = -1 ∨ ∃ r, r < 6 ∧ uF (vO v) i (nI a) l = nI r ∧ vS v r ≠ 0
          by_cases e : l = i
          · subst e
            rw [uF_e]
            exact Or.inr ⟨a, h6, rfl, a0⟩
          · rw [uF_n _ _ e]
            exact hs.1 l hl, hs.2⟩
        show WF (givV v i a)
        unfold givV
        rw [hm]
        exact ⟨hw, ws_pit hs1 h6 m1 m2, ho, hT, hA, ha⟩
    · rw [hv, el_n]
      exact h0
  · rw [hx, el_n]
    exact h0
theorem wf_joi (h : WF v) (s o : Int32) : WF (opJoi v s o).2 := by
  have h0 := h
  obtain ⟨hw, hs, ho, hT, hA, ha⟩ := h
  unfold opJoi
  rcases vx_cases (vS v) s with ⟨a, a6, rfl, a0, hv⟩ | ⟨hv, -⟩
  · rw [hv, el_s]
    rcases vx_cases (vS v) o with ⟨u, u6, rfl, u0, hu⟩ | ⟨hu, -⟩
    · rw [hu, el_s]
      by_cases q : nI a = nI u
      · rw [if_pos q]
        exact h0
      · have hau : u ≠ a := fun z => q (by rw [z])
        rw [if_neg q]
        obtain ⟨m, hm, m1, m2⟩ := mn_in (w := toV v a u) hw (nI u) (d := vS v u) (by
          rcases hs.2 u u6 with z | z
          · exact absurd z u0
          · exact z)
        have hs1 : WS (pitV (toV v a u) (uF (vS v) a 0)) := ⟨fun l hl => by
          show (if vO v l = nI a then nI u else vO v l) = -1 ∨ ∃ r, r < 6 ∧ (if vO v l = nI a then nI u else vO v l) = nI r ∧ uF (vS v) a 0 r ≠ 0
          by_cases e : vO v l = nI a
          · rw [if_pos e]
            exact Or.inr ⟨u, u6, rfl, by rw [uF_n _ _ hau]; exact u0⟩
          · rw [if_neg e]
            rcases hs.1 l hl with z | ⟨r, r6, z, z0⟩
            · exact Or.inl z
            · exact Or.inr ⟨r, r6, z, by rw [uF_n _ _ (fun y => e (by rw [z, y]))]; exact z0⟩, fun r hr => by
          show uF (vS v) a 0 r = 0 ∨ ∃ q : Nat, uF (vS v) a 0 r = nI q ∧ 50 ≤ q ∧ q ≤ 500
          by_cases e : r = a
          · subst e
            rw [uF_e]
            exact Or.inl rfl
          · rw [uF_n _ _ e]
            exact hs.2 r hr⟩
        show WF (joiV v a u)
        unfold joiV
        rw [hm]
        exact ⟨hw, ws_pit hs1 u6 m1 m2, ho, hT, hA, ha⟩
    · rw [hu, el_n]
      exact h0
  · rw [hv, el_n]
    exact h0
theorem wf_set (h : WF v) (w x : Int32) : WF (opSet v w x).2 := by
  have h0 := h
  obtain ⟨hw, hs, ho, hT, hA, ha⟩ := h
  unfold opSet
  by_cases hw0 : w = 0
  · rw [if_pos hw0]
    by_cases hx : 0 ≤ x ∧ x ≤ 200
    · rw [if_pos hx]
      rcases z_ix x (n := 201) (by omega) with ⟨y, y1, y2⟩ | q
      · exact ⟨hw, hs, ho, hT, hA, y, by omega, y2⟩
      · exact absurd (z_bo (m := 200) (by omega) q) (fun z => bi_0.mp z hx)
    · rw [if_neg hx]
      exact h0
  · rw [if_neg hw0]
    exact h0
end Wf
