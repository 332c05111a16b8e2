/-! ===== the rate by the minute: its bits ===== -/
section Fl
def nF (E m : Nat) : UInt32 := UInt32.ofNat (E * 2 ^ 23 + m)
theorem nF_toNat {E m : Nat} (h2 : E ≤ 255) (hm : m < 2 ^ 23) : (nF E m).toNat = E * 2 ^ 23 + m := by
  unfold nF
  rw [UInt32.toNat_ofNat_of_lt' (by show _ < 2 ^ 32; omega)]
theorem fl_val {E m : Nat} (h1 : 1 ≤ E) (h2 : E ≤ 254) (hm : m < 2 ^ 23) : FP.Core.val32 (nF E m) = .fin false (2 ^ 23 + m) ((E : Int) - 150) := by
  unfold FP.Core.val32
  rw [nF_toNat (by omega) hm]
  have h := FP.Core.decode_assemble FP.Core.b32 false E m (show E < 256 by omega) (show m < 2 ^ 23 from hm)
  rw [if_neg (show ¬ E = 255 by omega), if_neg (show ¬ E = 0 by omega)] at h
  have e : FP.Core.assemble FP.Core.b32 false E m = E * 2 ^ 23 + m := by
    show (0 * 256 + E) * 2 ^ 23 + m = _
    omega
  rw [e] at h
  rw [h]
  show FP.Core.Datum.fin false (2 ^ 23 + m) ((-149 : Int) + ((E : Int) - 1)) = _
  congr 1
  omega
theorem fl_fits {m : Nat} {q : Int} (hm : m < 2 ^ 23) (h1 : -149 ≤ q) (h2 : q ≤ 104) : FP.Core.fits FP.Core.b32 (.fin false (2 ^ 23 + m) q) :=
  ⟨show 2 ^ 23 + m < 2 ^ 24 by omega, h1, h2, Or.inr (show 2 ^ 23 ≤ 2 ^ 23 + m by omega)⟩
theorem fl_nn {E m : Nat} (h1 : 1 ≤ E) (h2 : E ≤ 254) (hm : m < 2 ^ 23) : FP.Core.val32 (nF E m) ≠ .nan := by
  rw [fl_val h1 h2 hm]
  exact FP.Core.Datum.noConfusion
theorem fl_half {E m : Nat} (h1 : 2 ≤ E) (h2 : E ≤ 254) (hm : m < 2 ^ 23) : FP.fdiv (nF E m) (nF 128 0) = nF (E - 1) m := by
  refine (FP.Core.val32_inj (fl_nn (by omega) (by omega) hm) ?_).symm
  show _ = FP.Core.val32 (FP.Core.fdiv _ _)
  rw [FP.Core.val32_fdiv, fl_val (by omega) h2 hm, fl_val (E := 128) (m := 0) (by omega) (by omega) (by omega), fl_val (by omega) (by omega) hm]
  symm
  show (if (2 ^ 23 + 0 = 0) then _ else FP.Core.roundRatio FP.Core.b32 (false != false) (2 ^ 23 + m) (2 ^ 23 + 0) ((E : Int) - 150 - (((128 : Nat) : Int) - 150))) = _
  rw [if_neg (by omega)]
  refine FP.Core.roundRatio_exact FP.Core.good_b32 (by omega) (fl_fits hm (by omega) (by omega)) ?_
  rw [show ((E : Int) - 150 - (((128 : Nat) : Int) - 150) - (((E - 1 : Nat) : Int) - 150)).toNat = 23 by omega, show ((((E - 1 : Nat) : Int) - 150) - ((E : Int) - 150 - (((128 : Nat) : Int) - 150))).toNat = 0 by omega]
  omega
theorem fl_twice {E m : Nat} (h1 : 1 ≤ E) (h2 : E ≤ 253) (hm : m < 2 ^ 23) : FP.fmul (nF E m) (nF 128 0) = nF (E + 1) m := by
  refine (FP.Core.val32_inj (fl_nn (by omega) (by omega) hm) ?_).symm
  show _ = FP.Core.val32 (FP.Core.fmul _ _)
  rw [FP.Core.val32_fmul, fl_val h1 (by omega) hm, fl_val (E := 128) (m := 0) (by omega) (by omega) (by omega), fl_val (by omega) (by omega) hm]
  symm
  show FP.Core.roundRatio FP.Core.b32 (false != false) ((2 ^ 23 + m) * (2 ^ 23 + 0)) 1 ((E : Int) - 150 + (((128 : Nat) : Int) - 150)) = _
  refine FP.Core.roundRatio_exact FP.Core.good_b32 (by omega) (fl_fits hm (by omega) (by omega)) ?_
  rw [show ((E : Int) - 150 + (((128 : Nat) : Int) - 150) - (((E + 1 : Nat) : Int) - 150)).toNat = 0 by omega, show ((((E + 1 : Nat) : Int) - 150) - ((E : Int) - 150 + (((128 : Nat) : Int) - 150))).toNat = 23 by omega]
  omega
theorem fl_cmp {E m F l : Nat} (h1 : 1 ≤ E) (h2 : E ≤ 254) (hm : m < 2 ^ 23) (g1 : 1 ≤ F) (g2 : F ≤ 254) (hl : l < 2 ^ 23) (op : CmpOp) : Op.cmpValue (FP.fcmp (nF E m) (nF F l)) op = if E * 2 ^ 23 + m < F * 2 ^ 23 + l then -1 else if E * 2 ^ 23 + m = F * 2 ^ 23 + l then 0 else 1 := by
  have h : FP.fcmp (nF E m) (nF F l) = _ := FP.Core.fcmp_key (fl_nn h1 h2 hm) (fl_nn g1 g2 hl)
  rw [h]
  unfold FP.Core.fkey
  rw [nF_toNat (by omega) hm, nF_toNat (by omega) hl, if_neg (by omega), if_neg (by omega)]
  unfold Op.cmpValue
  by_cases c1 : E * 2 ^ 23 + m < F * 2 ^ 23 + l
  · rw [if_pos c1, (FP.Core.compare_lt_iff _ _).mpr (by omega)]
  · rw [if_neg c1]
    by_cases c2 : E * 2 ^ 23 + m = F * 2 ^ 23 + l
    · rw [if_pos c2, (FP.Core.compare_eq_iff _ _).mpr (by omega)]
    · rw [if_neg c2, (FP.Core.compare_gt_iff _ _).mpr (by omega)]
theorem fl_fop {z : UInt32} (h : FP.Core.val32 z ≠ .nan) : fop z = some z := by
  have h1 := (FP.Core.ne_nan32 z).mp h
  unfold fop
  rw [if_pos]
  rw [UInt32.le_iff_toNat_le, FP.Core.mask_toNat32]
  exact h1
end Fl
