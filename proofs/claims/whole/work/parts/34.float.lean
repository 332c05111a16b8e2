/-! ===== the rate by the minute: its bits ===== -/
section Fl
def nF (E m : Nat) : UInt32 := UInt32.ofNat (E * 2 ^ 23 + m)
theorem nF_toNat {E m : Nat} (h2 : E ≤ 255) (hm : m < 2 ^ 23) : (nF E m).toNat = E * 2 ^ 23 + m := by
  unfold nF
  rw [UInt32.toNat_ofNat_of_lt' (by show _ < 2 ^ 32; omega)]
theorem fl_val {E m : Nat} (h1 : 1 ≤ E) (h2 : E ≤ 254) (hm : m < 2 ^ 23) : FP.Core.val32 (nF E m) = .fin false (2 ^ 23 + m) ((E : Int) - 150) := by
  unfold FP.Core.val32
  rw [nF_toNat (by omega) hm]
  have h := FP.Core.decode_assemble FP.Core.b32 false E m (show E < 256 by omega) (show m < 2 ^ 23 from hm)
  rw [if_neg (show ¬ E = FP.Core.b32.exps - 1 from fun q => by rw [FP.Core.exps_b32] at q; omega), if_neg (show ¬ E = 0 by omega)] at h
  have e : FP.Core.assemble FP.Core.b32 false E m = E * 2 ^ 23 + m := by
    show (0 * 256 + E) * 2 ^ 23 + m = _
    omega
  rw [e] at h
  rw [h]
  show FP.Core.Datum.fin false (2 ^ 23 + m) ((-149 : Int) + ((E : Int) - 1)) = _
  congr 1
  omega
theorem fl_fits {m : Nat} {q : Int} (hm : m < 2 ^ 23) (h1 : -149 ≤ q) (h2 : q ≤ 104) : FP.Core.fits FP.Core.b32 (.fin false (2 ^ 23 + m) q) :=
  ⟨show 2 ^ 23 + m < 2 ^ 24 by omega, h1, h2, Or.inr (show 2 ^ 23 ≤ 2 ^ 23 + m by omega)⟩
theorem fl_nn {E m : Nat} (h1 : 1 ≤ E) (h2 : E ≤ 254) (hm : m < 2 ^ 23) : FP.Core.val32 (nF E m) ≠ .nan := by
  rw [fl_val h1 h2 hm]
  exact FP.Core.Datum.noConfusion
theorem fl_quo {s t : Bool} {c d : Nat} {q r : Int} (h : d ≠ 0) : FP.Core.quotient FP.Core.b32 (.fin s c q) (.fin t d r) = FP.Core.roundRatio FP.Core.b32 (s != t) c d (q - r) := if_neg h
theorem fl_half {E m : Nat} (h1 : 2 ≤ E) (h2 : E ≤ 254) (hm : m < 2 ^ 23) : FP.fdiv (nF E m) (nF 128 0) = nF (E - 1) m := by
  refine (FP.Core.val32_inj (fl_nn (by omega) (by omega) hm) ?_).symm
  show _ = FP.Core.val32 (FP.Core.fdiv _ _)
  rw [FP.Core.val32_fdiv, fl_val (by omega) h2 hm, fl_val (E := 128) (m := 0) (by omega) (by omega) (by omega), fl_val (by omega) (by omega) hm]
  symm
  rw [fl_quo (by omega)]
  show FP.Core.roundRatio FP.Core.b32 false (2 ^ 23 + m) (2 ^ 23 + 0) ((E : Int) - 150 - (((128 : Nat) : Int) - 150)) = _
  refine FP.Core.roundRatio_exact FP.Core.good_b32 (by omega) (fl_fits hm (by omega) (by omega)) ?_
  rw [show ((E : Int) - 150 - (((128 : Nat) : Int) - 150) - (((E - 1 : Nat) : Int) - 150)).toNat = 23 by omega, show ((((E - 1 : Nat) : Int) - 150) - ((E : Int) - 150 - (((128 : Nat) : Int) - 150))).toNat = 0 by omega]
  omega
theorem fl_twice {E m : Nat} (h1 : 1 ≤ E) (h2 : E ≤ 253) (hm : m < 2 ^ 23) : FP.fmul (nF E m) (nF 128 0) = nF (E + 1) m := by
  refine (FP.Core.val32_inj (fl_nn (by omega) (by omega) hm) ?_).symm
  show _ = FP.Core.val32 (FP.Core.fmul _ _)
  rw [FP.Core.val32_fmul, fl_val h1 (by omega) hm, fl_val (E := 128) (m := 0) (by omega) (by omega) (by omega), fl_val (by omega) (by omega) hm]
  symm
  show FP.Core.roundRatio FP.Core.b32 (false != false) ((2 ^ 23 + m) * (2 ^ 23 + 0)) 1 ((E : Int) - 150 + (((128 : Nat) : Int) - 150)) = _
  refine FP.Core.roundRatio_exact FP.Core.good_b32 (by omega) (fl_fits hm (by omega) (by omega)) ?_
  rw [show ((E : Int) - 150 + (((128 : Nat) : Int) - 150) - (((E + 1 : Nat) : Int) - 150)).toNat = 0 by omega, show ((((E + 1 : Nat) : Int) - 150) - ((E : Int) - 150 + (((128 : Nat) : Int) - 150))).toNat = 23 by omega]
  omega
theorem fl_cmpN {a b : UInt32} (ha : FP.Core.val32 a ≠ .nan) (hb : FP.Core.val32 b ≠ .nan) {X Y : Nat} (hx : a.toNat = X) (hy : b.toNat = Y) (hX : X < 2 ^ 31) (hY : Y < 2 ^ 31) (op : CmpOp) : Op.cmpValue (FP.fcmp a b) op = if X < Y then -1 else if X = Y then 0 else 1 := by
  have h : FP.fcmp a b = _ := FP.Core.fcmp_key ha hb
  have ea : FP.Core.fkey a = (X : Int) := by
    unfold FP.Core.fkey
    rw [hx, if_neg (by omega)]
  have eb : FP.Core.fkey b = (Y : Int) := by
    unfold FP.Core.fkey
    rw [hy, if_neg (by omega)]
  rw [h, ea, eb]
  unfold Op.cmpValue
  by_cases c1 : X < Y
  · rw [if_pos c1, (FP.Core.compare_lt_iff _ _).mpr (by omega)]
  · rw [if_neg c1]
    by_cases c2 : X = Y
    · rw [if_pos c2, (FP.Core.compare_eq_iff _ _).mpr (by omega)]
    · rw [if_neg c2, (FP.Core.compare_gt_iff _ _).mpr (by omega)]
theorem fl_cmp {E m F l : Nat} (h1 : 1 ≤ E) (h2 : E ≤ 254) (hm : m < 2 ^ 23) (g1 : 1 ≤ F) (g2 : F ≤ 254) (hl : l < 2 ^ 23) (op : CmpOp) : Op.cmpValue (FP.fcmp (nF E m) (nF F l)) op = if E * 2 ^ 23 + m < F * 2 ^ 23 + l then -1 else if E * 2 ^ 23 + m = F * 2 ^ 23 + l then 0 else 1 :=
  fl_cmpN (fl_nn h1 h2 hm) (fl_nn g1 g2 hl) (nF_toNat (by omega) hm) (nF_toNat (by omega) hl) (by omega) (by omega) op
theorem fl_cmpL {E m F l : Nat} (h1 : 1 ≤ E) (h2 : E ≤ 254) (hm : m < 2 ^ 23) (g1 : 1 ≤ F) (g2 : F ≤ 254) (hl : l < 2 ^ 23) (op : CmpOp) (h : E * 2 ^ 23 + m < F * 2 ^ 23 + l) : Op.cmpValue (FP.fcmp (nF E m) (nF F l)) op = -1 := by
  rw [fl_cmp h1 h2 hm g1 g2 hl, if_pos h]
theorem fl_cmpG {E m F l : Nat} (h1 : 1 ≤ E) (h2 : E ≤ 254) (hm : m < 2 ^ 23) (g1 : 1 ≤ F) (g2 : F ≤ 254) (hl : l < 2 ^ 23) (op : CmpOp) (h : ¬ E * 2 ^ 23 + m < F * 2 ^ 23 + l) : 0 ≤ Op.cmpValue (FP.fcmp (nF E m) (nF F l)) op ∧ ¬ Op.cmpValue (FP.fcmp (nF E m) (nF F l)) op < 0 := by
  rw [fl_cmp h1 h2 hm g1 g2 hl, if_neg h]
  by_cases q : E * 2 ^ 23 + m = F * 2 ^ 23 + l
  · rw [if_pos q]
    decide
  · rw [if_neg q]
    decide
theorem fl_fop {z : UInt32} (h : FP.Core.val32 z ≠ .nan) : fop z = some z := by
  have h1 := (FP.Core.ne_nan32 z).mp h
  unfold fop
  rw [if_pos]
  rw [UInt32.le_iff_toNat_le, FP.Core.mask_toNat32]
  exact h1
/-- a rounded ratio that is far inside -/
theorem fl_range {z : UInt32} {A B K L : Nat} {e : Int} (h : FP.Core.val32 z = FP.Core.roundRatio FP.Core.b32 false A B e) (hB : 0 < B) (he : -149 ≤ e) (hK : 1 ≤ K) (hL : L ≤ 252)
    (lo : 2 ^ 23 * 2 ^ (K - 1) * B ≤ A * 2 ^ (e + 149).toNat) (hi : A * 2 ^ (e + 149).toNat ≤ 2 ^ 23 * 2 ^ L * B) (hKL : K ≤ L + 1) : ∃ E m, K ≤ E ∧ E ≤ L + 1 ∧ m < 2 ^ 23 ∧ z = nF E m := by
  have hn : FP.Core.val32 z ≠ .nan := h ▸ FP.Core.roundRatio_ne_nan _ _ _ _ _
  have hs := FP.Core.sgn_bits32 hn
  rw [h, FP.Core.sgn_roundRatio] at hs
  have hs' : z.toNat < 2 ^ 31 := by
    have := of_decide_eq_false hs.symm
    omega
  have ht : FP.Core.b32.tails = 2 ^ 23 := FP.Core.tails_b32
  have hq : FP.Core.b32.qmin = -149 := FP.Core.qmin_b32
  have hm : FP.Core.mag FP.Core.b32 z.toNat = z.toNat := by rw [FP.Core.mag_toNat32]; omega
  have ex : (e - -149).toNat = (e + 149).toNat := by omega
  have ez : (-149 - (-149 : Int)).toNat = 0 := by omega
  have g1 : K * 2 ^ 23 ≤ z.toNat := by
    have := FP.Core.mag_ge FP.Core.good_b32 (n := z.toNat) (m := K * 2 ^ 23) (e0 := -149) h hB (by rw [hq]; omega) he (by rw [FP.Core.infBits_b32]; omega) (by
      have hu := FP.Core.unitsOf_start (f := FP.Core.b32) hK
      rw [ht] at hu
      rw [hu, hq, ez]
      unfold FP.Core.inUnits
      rw [ex, Nat.pow_zero, Nat.mul_one]
      exact lo)
    rw [hm] at this
    exact this
  have g2 : z.toNat ≤ (L + 1) * 2 ^ 23 := by
    have := FP.Core.mag_le FP.Core.good_b32 (n := z.toNat) (m := (L + 1) * 2 ^ 23) (e0 := -149) h hB (by rw [hq]; omega) he (by
      have hu := FP.Core.unitsOf_start (f := FP.Core.b32) (K := L + 1) (by omega)
      rw [ht] at hu
      rw [hu, hq, ez]
      unfold FP.Core.inUnits
      rw [ex, Nat.pow_zero, Nat.mul_one, show L + 1 - 1 = L by omega]
      exact hi)
    rw [hm] at this
    exact this
  refine ⟨z.toNat / 2 ^ 23, z.toNat % 2 ^ 23, by omega, by omega, by omega, ?_⟩
  apply UInt32.toNat_inj.mp
  rw [nF_toNat (by omega) (by omega)]
  omega
theorem fl_pow {a b : Nat} (h : a ≤ b) : 2 ^ a ≤ 2 ^ b := Nat.pow_le_pow_right (by omega) h
theorem fl_i2f {n : Nat} (h1 : 1 ≤ n) (h2 : n < 65536) : ∃ E m, 127 ≤ E ∧ E ≤ 143 ∧ m < 2 ^ 23 ∧ FP.i2f (nI n) = nF E m := by
  have h : FP.Core.val32 (FP.Core.i2f (nI n)) = _ := FP.Core.val32_i2f (nI n)
  rw [nI_toInt (by omega)] at h
  have h' : FP.Core.val32 (FP.Core.i2f (nI n)) = FP.Core.roundRatio FP.Core.b32 false n 1 0 := by
    rw [h]
    show FP.Core.roundRatio FP.Core.b32 (decide (((n : Nat) : Int) < 0)) ((n : Nat) : Int).natAbs 1 0 = _
    rw [decide_eq_false (by omega), Int.natAbs_natCast]
  refine fl_range (K := 127) (L := 142) h' (by omega) (by omega) (by omega) (by omega) ?_ ?_ (by omega)
  · show 2 ^ 23 * 2 ^ 126 * 1 ≤ n * 2 ^ 149
    omega
  · show n * 2 ^ 149 ≤ 2 ^ 23 * 2 ^ 142 * 1
    omega
theorem fl_sixty {E m : Nat} (h1 : 127 ≤ E) (h2 : E ≤ 143) (hm : m < 2 ^ 23) : ∃ F l, 127 ≤ F ∧ F ≤ 150 ∧ l < 2 ^ 23 ∧ FP.fmul (nF E m) 1114636288 = nF F l := by
  have e6 : (1114636288 : UInt32) = nF 132 7340032 := by decide
  have h : FP.Core.val32 (FP.Core.fmul (nF E m) (nF 132 7340032)) = _ := FP.Core.val32_fmul _ _
  rw [fl_val (by omega) (by omega) hm, fl_val (E := 132) (m := 7340032) (by omega) (by omega) (by omega)] at h
  have h' : FP.Core.val32 (FP.Core.fmul (nF E m) (nF 132 7340032)) = FP.Core.roundRatio FP.Core.b32 false ((2 ^ 23 + m) * (2 ^ 23 + 7340032)) 1 ((E : Int) - 150 + (((132 : Nat) : Int) - 150)) := h
  rw [e6]
  refine fl_range (K := 127) (L := 149) h' (by omega) (by omega) (by omega) (by omega) ?_ ?_ (by omega)
  · rw [show ((E : Int) - 150 + (((132 : Nat) : Int) - 150) + 149).toNat = E - 19 by omega]
    have a1 := fl_pow (show 108 ≤ E - 19 by omega)
    calc 2 ^ 23 * 2 ^ (127 - 1) * 1 ≤ (2 ^ 23 * (2 ^ 23 + 7340032)) * 2 ^ 108 := by decide
      _ ≤ (2 ^ 23 + m) * (2 ^ 23 + 7340032) * 2 ^ (E - 19) := Nat.mul_le_mul (Nat.mul_le_mul_right _ (by omega)) a1
  · rw [show ((E : Int) - 150 + (((132 : Nat) : Int) - 150) + 149).toNat = E - 19 by omega]
    have a1 := fl_pow (show E - 19 ≤ 124 by omega)
    calc (2 ^ 23 + m) * (2 ^ 23 + 7340032) * 2 ^ (E - 19) ≤ (2 ^ 24 * (2 ^ 23 + 7340032)) * 2 ^ 124 := Nat.mul_le_mul (Nat.mul_le_mul_right _ (by omega)) a1
      _ ≤ 2 ^ 23 * 2 ^ 149 * 1 := by decide
theorem fl_quot {E m F l : Nat} (h1 : 127 ≤ E) (h2 : E ≤ 150) (hm : m < 2 ^ 23) (g1 : 127 ≤ F) (g2 : F ≤ 143) (hl : l < 2 ^ 23) : ∃ G r, 100 ≤ G ∧ G ≤ 151 ∧ r < 2 ^ 23 ∧ FP.fdiv (nF E m) (nF F l) = nF G r := by
  have h : FP.Core.val32 (FP.Core.fdiv (nF E m) (nF F l)) = _ := FP.Core.val32_fdiv _ _
  rw [fl_val (by omega) (by omega) hm, fl_val (by omega) (by omega) hl] at h
  have h' : FP.Core.val32 (FP.Core.fdiv (nF E m) (nF F l)) = FP.Core.roundRatio FP.Core.b32 false (2 ^ 23 + m) (2 ^ 23 + l) ((E : Int) - 150 - ((F : Int) - 150)) := by
    rw [h, fl_quo (by omega)]
    rfl
  have ex : ((E : Int) - 150 - ((F : Int) - 150) + 149).toNat = E + 149 - F := by omega
  refine fl_range (K := 100) (L := 150) h' (by omega) (by omega) (by omega) (by omega) ?_ ?_ (by omega)
  · rw [ex]
    have a1 := fl_pow (show 133 ≤ E + 149 - F by omega)
    calc 2 ^ 23 * 2 ^ (100 - 1) * (2 ^ 23 + l) ≤ 2 ^ 23 * 2 ^ 99 * 2 ^ 24 := Nat.mul_le_mul_left _ (by omega)
      _ ≤ 2 ^ 23 * 2 ^ 133 := by decide
      _ ≤ (2 ^ 23 + m) * 2 ^ (E + 149 - F) := Nat.mul_le_mul (by omega) a1
  · rw [ex]
    have a1 := fl_pow (show E + 149 - F ≤ 172 by omega)
    calc (2 ^ 23 + m) * 2 ^ (E + 149 - F) ≤ 2 ^ 24 * 2 ^ 172 := Nat.mul_le_mul (by omega) a1
      _ ≤ 2 ^ 23 * 2 ^ 150 * 2 ^ 23 := by decide
      _ ≤ 2 ^ 23 * 2 ^ 150 * (2 ^ 23 + l) := Nat.mul_le_mul_left _ (by omega)
/-- the last digits -/
theorem fl_sub1 {m : Nat} (hm : m < 2 ^ 23) : ∃ c q, FP.Core.val32 (FP.fsub (nF 127 m) (nF 127 0)) = .fin false c q ∧ FP.Core.inUnits c q (-149) = m * 2 ^ 126 := by
  have h : FP.Core.val32 (FP.Core.fsub (nF 127 m) (nF 127 0)) = _ := FP.Core.val32_fsub _ _
  rw [fl_val (by omega) (by omega) hm, fl_val (E := 127) (m := 0) (by omega) (by omega) (by omega)] at h
  have hu : FP.Core.sumUnits false (2 ^ 23 + m) (((127 : Nat) : Int) - 150) true (2 ^ 23 + 0) (((127 : Nat) : Int) - 150) (min (((127 : Nat) : Int) - 150) (((127 : Nat) : Int) - 150)) = (m : Int) := by
    show (((2 ^ 23 + m) * 1 : Nat) : Int) + -(((2 ^ 23 + 0) * 1 : Nat) : Int) = (m : Int)
    omega
  have h' : FP.Core.val32 (FP.Core.fsub (nF 127 m) (nF 127 0)) = FP.Core.round FP.Core.b32 (.fin false m (-23)) := by
    rw [h]
    show FP.Core.round FP.Core.b32 (FP.Core.Datum.fin (FP.Core.sumSign false true (FP.Core.sumUnits false (2 ^ 23 + m) (((127 : Nat) : Int) - 150) true (2 ^ 23 + 0) (((127 : Nat) : Int) - 150) (min (((127 : Nat) : Int) - 150) (((127 : Nat) : Int) - 150)))) (FP.Core.sumUnits false (2 ^ 23 + m) (((127 : Nat) : Int) - 150) true (2 ^ 23 + 0) (((127 : Nat) : Int) - 150) (min (((127 : Nat) : Int) - 150) (((127 : Nat) : Int) - 150))).natAbs (-23)) = _
    rw [hu, Int.natAbs_natCast]
    have : FP.Core.sumSign false true (m : Int) = false := by
      unfold FP.Core.sumSign
      split
      · rfl
      · exact decide_eq_false (by omega)
    rw [this]
  obtain ⟨c, q, e1, e2⟩ := FP.Core.round_exact FP.Core.good_b32 false (c := m) (q := -23) (show m < 2 ^ 24 by omega) (by rw [FP.Core.qmin_b32]; omega) (by show (-23 : Int) ≤ 104; omega)
  rw [e1] at h'
  rw [FP.Core.qmin_b32] at e2
  exact ⟨c, q, h', e2⟩
theorem fl_last {m : Nat} (hm : m < 2 ^ 23) : ∃ z, fop (FP.fsub (nF 127 m) FP.fconst1) = some z ∧ ∃ y, fop (FP.fmul z 1258291200) = some y ∧ FP.f2i y = nI m := by
  obtain ⟨c, q, h1, h2⟩ := fl_sub1 hm
  have e1 : FP.fconst1 = nF 127 0 := by decide
  have e8 : (1258291200 : UInt32) = nF 150 0 := by decide
  refine ⟨FP.fsub (nF 127 m) (nF 127 0), by rw [e1]; exact fl_fop (by rw [h1]; exact FP.Core.Datum.noConfusion), ?_⟩
  obtain ⟨hc, hq1, hq2, -⟩ : FP.Core.fits FP.Core.b32 (.fin false c q) := h1 ▸ FP.Core.val32_fits _
  have hq1' : -149 ≤ q := by rw [← FP.Core.qmin_b32]; exact hq1
  have hc' : c < 2 ^ 24 := hc
  have hq2' : q ≤ 104 := hq2
  have hqq : q ≤ 0 ∨ c = 0 := by
    rcases Nat.eq_zero_or_pos c with q0 | q0
    · exact Or.inr q0
    · refine Or.inl (Int.not_lt.mp fun hq => ?_)
      unfold FP.Core.inUnits at h2
      have a1 := fl_pow (show 149 ≤ (q - -149).toNat by omega)
      have a2 : 2 ^ 149 ≤ c * 2 ^ (q - -149).toNat := Nat.le_trans a1 (Nat.le_mul_of_pos_left _ q0)
      have a3 : m * 2 ^ 126 < 2 ^ 149 := by omega
      omega
  have h : FP.Core.val32 (FP.Core.fmul (FP.fsub (nF 127 m) (nF 127 0)) (nF 150 0)) = _ := FP.Core.val32_fmul _ _
  rw [h1, fl_val (E := 150) (m := 0) (by omega) (by omega) (by omega)] at h
  have h' : FP.Core.val32 (FP.Core.fmul (FP.fsub (nF 127 m) (nF 127 0)) (nF 150 0)) = FP.Core.roundRatio FP.Core.b32 false (c * (2 ^ 23 + 0)) 1 (q + (((150 : Nat) : Int) - 150)) := h
  have hy : ∃ c' q', FP.Core.val32 (FP.Core.fmul (FP.fsub (nF 127 m) (nF 127 0)) (nF 150 0)) = .fin false c' q' ∧ FP.Core.inUnits c' q' (-149) = m * 2 ^ 149 := by
    rcases hqq with hq0 | hc0
    · obtain ⟨c', q', g1, g2⟩ := FP.Core.round_exact FP.Core.good_b32 false (c := c) (q := q + 23) hc (by rw [FP.Core.qmin_b32]; omega) (by show q + 23 ≤ 104; omega)
      refine ⟨c', q', ?_, ?_⟩
      · rw [h', ← g1]
        show _ = FP.Core.roundRatio FP.Core.b32 false c 1 (q + 23)
        refine FP.Core.roundRatio_congr (by omega) (by omega) ?_
        rw [show (q + (((150 : Nat) : Int) - 150) - (q + 23)).toNat = 0 by omega, show (q + 23 - (q + (((150 : Nat) : Int) - 150))).toNat = 23 by omega]
        omega
      · rw [FP.Core.qmin_b32] at g2
        rw [g2]
        unfold FP.Core.inUnits at h2 ⊢
        rw [show (q + 23 - -149).toNat = (q - -149).toNat + 23 by omega, Nat.pow_add, ← Nat.mul_assoc, h2, Nat.mul_assoc, ← Nat.pow_add]
    · have hm0 : m = 0 := by
        rw [hc0] at h2
        unfold FP.Core.inUnits at h2
        omega
      refine ⟨0, FP.Core.b32.qmin, ?_, ?_⟩
      · rw [h', hc0]
        rfl
      · rw [hm0]
        unfold FP.Core.inUnits
        rw [Nat.zero_mul, Nat.zero_mul]
  obtain ⟨c', q', hv, hu⟩ := hy
  have hnn : FP.Core.val32 (FP.Core.fmul (FP.fsub (nF 127 m) (nF 127 0)) (nF 150 0)) ≠ .nan := by rw [hv]; exact FP.Core.Datum.noConfusion
  refine ⟨FP.Core.fmul (FP.fsub (nF 127 m) (nF 127 0)) (nF 150 0), by rw [e8]; exact fl_fop hnn, ?_⟩
  have hi : (FP.Core.f2i (FP.Core.fmul (FP.fsub (nF 127 m) (nF 127 0)) (nF 150 0))).toInt = _ := FP.Core.f2i_val hnn
  rw [hv] at hi
  have hz : FP.Core.zmag FP.Core.b32 (.fin false c' q') = m * 2 ^ 149 := by
    show FP.Core.inUnits c' q' FP.Core.b32.qmin = _
    rw [FP.Core.qmin_b32, hu]
  rw [hz, show FP.Core.one32 = 2 ^ 149 from rfl, Nat.mul_div_cancel _ (by decide)] at hi
  apply Int32.toInt_inj.mp
  rw [nI_toInt (by omega)]
  refine hi.trans ?_
  show max (-2 ^ 31) (min (2 ^ 31 - 1) (m : Int)) = _
  omega
theorem fl_bits {E m : Nat} (h2 : E ≤ 254) (hm : m < 2 ^ 23) : (nI E <<< (23 &&& 31)) + nI m = (nF E m).toInt32 := by
  have e : ((23 : Int32) &&& 31) = 23 := by decide
  rw [e]
  apply Int32.toBitVec_inj.mp
  apply BitVec.eq_of_toNat_eq
  show ((nI E <<< (23 : Int32)) + nI m).toBitVec.toNat = (nF E m).toNat
  rw [nF_toNat (by omega) hm, Int32.toBitVec_add, BitVec.toNat_add]
  have a1 : (nI E <<< (23 : Int32)).toBitVec.toNat = (E * 2 ^ 23) % 2 ^ 32 := by
    show (((nI E).toBitVec) <<< (BitVec.smod (23 : Int32).toBitVec 32)).toNat = _
    rw [show BitVec.smod (23 : Int32).toBitVec 32 = 23#32 by decide, BitVec.shiftLeft_eq', BitVec.toNat_shiftLeft, Nat.shiftLeft_eq]
    rw [show (23#32).toNat = 23 by decide, show (nI E).toBitVec.toNat = E % 2 ^ 32 from BitVec.toNat_ofNat _ _]
    omega
  rw [a1, show (nI m).toBitVec.toNat = m % 2 ^ 32 from BitVec.toNat_ofNat _ _]
  omega
theorem fl_J {fu : Nat} {σ : gSt} {p : UInt32} {E m : Nat} (h2 : E ≤ 254) (hm : m < 2 ^ 23) : f_X5_bitsOf_J57 fu σ p (nF 127 m) (nI E) = some (nF E m).toInt32 := by
  obtain ⟨z, h1, y, h3, h4⟩ := fl_last hm
  unfold f_X5_bitsOf_J57
  rw [h1, bd_some, h3, bd_some, h4, fl_bits h2 hm]
theorem z_less1 (n : Nat) : nI (n + 1) + (-1) = nI n := (Int32.sub_eq_add_neg (nI (n + 1)) 1).symm.trans (nI_pred n)
theorem fl_W36 {fu : Nat} {σ : gSt} {p : UInt32} {m : Nat} (hm : m < 2 ^ 23) : ∀ (d n E : Nat), 2 ≤ E → E ≤ 254 → d < n → d ≤ 125 → f_X5_bitsOf_W36 fu σ p n (nF (127 - d) m) (nI (E + d)) = some (nF E m).toInt32
  | d, 0, _, _, _, h, _ => absurd h (by omega)
  | 0, n + 1, E, h1, h2, _, _ => by
    rw [f_X5_bitsOf_W36_s]
    unfold f_X5_bitsOf_L36
    rw [if_neg (show ¬ nI (E + 0) ≤ 1 from zl_le (i := 1) (n := E + 0) (by omega) (by omega)), show FP.fconst1 = nF 127 0 by decide, Nat.sub_zero, if_pos (fl_cmpG (by omega) (by omega) hm (by omega) (by omega) (by omega) _ (by omega)).1, Nat.add_zero, fl_J h2 hm]
  | d + 1, n + 1, E, h1, h2, h3, h4 => by
    rw [f_X5_bitsOf_W36_s]
    unfold f_X5_bitsOf_L36
    rw [if_neg (show ¬ nI (E + (d + 1)) ≤ 1 from zl_le (i := 1) (n := E + (d + 1)) (by omega) (by omega)), show FP.fconst1 = nF 127 0 by decide, show FP.fconst2 = nF 128 0 by decide, fl_cmpL (by omega) (by omega) hm (by omega) (by omega) (by omega) _ (by omega), if_neg (show ¬ (0 : Int32) ≤ -1 by decide), fl_twice (by omega) (by omega) hm, fl_fop (fl_nn (by omega) (by omega) hm), bd_some, show 127 - (d + 1) + 1 = 127 - d by omega, show nI (E + (d + 1)) + (-1) = nI (E + d) from z_less1 (E + d)]
    exact fl_W36 hm d n E h1 h2 (by omega) (by omega)
theorem fl_W13 {fu : Nat} {σ : gSt} {p : UInt32} {m : Nat} (hm : m < 2 ^ 23) (hfu : 127 < fu) : ∀ (d n E : Nat), 127 + d ≤ E → E ≤ 160 → d < n → f_X5_bitsOf_W13 fu σ p n (nF (127 + d) m) (nI (E - d)) = some (nF E m).toInt32
  | d, 0, _, _, _, h => absurd h (by omega)
  | 0, n + 1, E, h1, h2, _ => by
    rw [f_X5_bitsOf_W13_s]
    unfold f_X5_bitsOf_L13
    rw [if_neg (zo_le (n := 254) (i := E - 0) (by omega) (by omega)), show FP.fconst2 = nF 128 0 by decide, fl_cmpL (by omega) (by omega) hm (by omega) (by omega) (by omega) _ (by omega), if_pos (show (-1 : Int32) < 0 by decide)]
    exact fl_W36 hm 0 fu E (by omega) (by omega) (by omega) (by omega)
  | d + 1, n + 1, E, h1, h2, h3 => by
    rw [f_X5_bitsOf_W13_s]
    unfold f_X5_bitsOf_L13
    rw [if_neg (zo_le (n := 254) (i := E - (d + 1)) (by omega) (by omega)), show FP.fconst2 = nF 128 0 by decide, if_neg (fl_cmpG (by omega) (by omega) hm (by omega) (by omega) (by omega) _ (by omega)).2, fl_half (by omega) (by omega) hm, fl_fop (fl_nn (by omega) (by omega) hm), bd_some, show 127 + (d + 1) - 1 = 127 + d by omega, z_add1, show E - (d + 1) + 1 = E - d by omega]
    exact fl_W13 hm hfu d n E (by omega) h2 (by omega)
theorem fl_bitsOf {fu : Nat} {σ : gSt} (hfu : 127 < fu) {E m : Nat} (h1 : 2 ≤ E) (h2 : E ≤ 160) (hm : m < 2 ^ 23) : f_X5_bitsOf fu σ (nF E m) = some (nF E m).toInt32 := by
  unfold f_X5_bitsOf
  have hc : 0 < Op.cmpValue (FP.fcmp (nF E m) FP.fconst0) .g := by
    rw [show FP.fconst0 = 0 from rfl, fl_cmpN (a := nF E m) (b := 0) (fl_nn (by omega) (by omega) hm) (show FP.Core.val32 0 ≠ .nan by rw [FP.Core.val32_zero]; exact FP.Core.Datum.noConfusion) (nF_toNat (by omega) hm) (show (0 : UInt32).toNat = 0 by decide) (by omega) (by omega), if_neg (by omega), if_neg (by omega)]
    decide
  rw [if_pos hc]
  rcases Nat.lt_or_ge E 128 with q | q
  · have hW : f_X5_bitsOf_W13 fu σ (nF E m) fu (nF E m) 127 = f_X5_bitsOf_W36 fu σ (nF E m) fu (nF E m) 127 := by
      obtain ⟨n, rfl⟩ : ∃ n, fu = n + 1 := ⟨fu - 1, by omega⟩
      rw [f_X5_bitsOf_W13_s]
      unfold f_X5_bitsOf_L13
      rw [if_neg (show ¬ (254 : Int32) ≤ 127 by decide), show FP.fconst2 = nF 128 0 by decide, fl_cmpL (by omega) (by omega) hm (by omega) (by omega) (by omega) _ (by omega), if_pos (show (-1 : Int32) < 0 by decide)]
    rw [hW]
    have := fl_W36 (fu := fu) (σ := σ) (p := nF E m) hm (127 - E) fu E h1 (by omega) (by omega) (by omega)
    rw [show 127 - (127 - E) = E by omega, show E + (127 - E) = 127 by omega] at this
    exact this
  · have := fl_W13 (fu := fu) (σ := σ) (p := nF E m) hm hfu (E - 127) fu E (by omega) h2 (by omega)
    rw [show 127 + (E - 127) = E by omega, show E - (E - 127) = 127 by omega] at this
    exact this
theorem fl_toBits {fu : Nat} {σ : gSt} {z : UInt32} (h : FP.Core.val32 z ≠ .nan) : f_Jxf58ca_floatToIntBits_5c35a fu σ z = some z.toInt32 := by
  unfold f_Jxf58ca_floatToIntBits_5c35a f_Jxf58ca_isNaN_12338
  have h1 : FP.fcmp z z = _ := FP.Core.fcmp_key h h
  rw [h1, (FP.Core.compare_eq_iff _ _).mpr rfl, if_pos (by decide), bd_some, if_pos (by decide)]
/-- both ways to the bits of a rate -/
theorem fl_rate {fu : Nat} {σ : gSt} (hfu : 127 < fu) {a s : Nat} (ha : a < 65536) (hs1 : 1 ≤ s) (hs2 : s < 65536) : ∃ x y, fop (FP.fmul (FP.i2f (nI a)) 1114636288) = some x ∧ fop (FP.fdiv x (FP.i2f (nI s))) = some y ∧ f_X5_bitsOf fu σ y = some y.toInt32 ∧ f_Jxf58ca_floatToIntBits_5c35a fu σ y = some y.toInt32 := by
  obtain ⟨F, l, g1, g2, hl, hF⟩ := fl_i2f hs1 hs2
  rw [hF]
  rcases Nat.eq_zero_or_pos a with h0 | h0
  · subst h0
    have e0 : FP.fmul (FP.i2f (nI 0)) 1114636288 = 0 := by decide +kernel
    have hd : FP.fdiv 0 (nF F l) = 0 := by
      refine (FP.Core.val32_inj (by rw [FP.Core.val32_zero]; exact FP.Core.Datum.noConfusion) ?_).symm
      show _ = FP.Core.val32 (FP.Core.fdiv _ _)
      rw [FP.Core.val32_fdiv, FP.Core.val32_zero, fl_val (by omega) (by omega) hl]
      rw [fl_quo (by omega)]
      rfl
    refine ⟨0, 0, by rw [e0]; decide, by rw [hd]; decide, ?_, fl_toBits (by rw [FP.Core.val32_zero]; exact FP.Core.Datum.noConfusion)⟩
    unfold f_X5_bitsOf
    rw [if_neg (by decide +kernel)]
    rfl
  · obtain ⟨E, m, b1, b2, hm, hE⟩ := fl_i2f h0 ha
    obtain ⟨G, r, c1, c2, hr, hG⟩ := fl_sixty b1 b2 hm
    obtain ⟨H, t, d1, d2, ht, hH⟩ := fl_quot c1 c2 hr g1 g2 hl
    refine ⟨nF G r, nF H t, by rw [hE, hG]; exact fl_fop (fl_nn (by omega) (by omega) hr), by rw [hH]; exact fl_fop (fl_nn (by omega) (by omega) ht), fl_bitsOf hfu (by omega) (by omega) ht, fl_toBits (fl_nn (by omega) (by omega) ht)⟩
end Fl
