def f_J6_bitCount_0f7a4 (fu : Nat) (σ : gSt) (p0 : Int32) : Option (Int32) :=
  (lt ((p0 - ((ushr p0 1) &&& 1431655765)) : Int32) fun y9 => (lt (((y9 &&& 858993459) + ((ushr y9 2) &&& 858993459)) : Int32) fun y23 => (lt (((y23 + (ushr y23 4)) &&& 252645135) : Int32) fun y33 => (lt (((y33 + (ushr y33 8)) + (ushr (y33 + (ushr y33 8)) 16)) : Int32) fun y47 => (some (y47 &&& 63))))))
def f_J9_abs_0f7a4 (fu : Nat) (σ : gSt) (p0 : Int32) : Option (Int32) :=
  (if 0 ≤ p0 then (some p0) else (some (-p0)))
def f_J9_floorMod_7cf53 (fu : Nat) (σ : gSt) (p0 : Int32) (p1 : Int32) : Option (Int32) :=
  ((rm p0 p1).bind fun v2 => (if 0 ≤ (p0 ^^^ p1) then (some v2) else (if v2 = 0 then (some v2) else (some (v2 + p1)))))
def f_J9_max_7cf53 (fu : Nat) (σ : gSt) (p0 : Int32) (p1 : Int32) : Option (Int32) :=
  (if p0 < p1 then (some p1) else (some p0))
def f_J9_min_7cf53 (fu : Nat) (σ : gSt) (p0 : Int32) (p1 : Int32) : Option (Int32) :=
  (if p1 < p0 then (some p1) else (some p0))
def f_Jxf58ca_isNaN_12338 (fu : Nat) (σ : gSt) (p0 : UInt32) : Option (Int32) :=
  (if (Op.cmpValue (FP.fcmp p0 p0) .l) = 0 then (some 0) else (some 1))
def f_Jxf58ca_floatToIntBits_5c35a (fu : Nat) (σ : gSt) (p0 : UInt32) : Option (Int32) :=
  ((f_Jxf58ca_isNaN_12338 fu σ p0).bind fun v1 => (if v1 = 0 then (some p0.toInt32) else (some 2143289344)))
def f_X8_takeFrom (fu : Nat) (σ : gSt) (k0 : Nat) (k1 : Nat) : Option (gSt) :=
  ((cpy 20 20 σ (k1 + 1) 0 (k0 + 1) 0 20).bind fun σ12 => ((cpy 20 20 σ12 (k1 + 2) 0 (k0 + 2) 0 20).bind fun σ27 => ((cpy 20 20 σ27 (k1 + 3) 0 (k0 + 3) 0 20).bind fun σ42 => ((cpy 20 20 σ42 (k1 + 4) 0 (k0 + 4) 0 20).bind fun σ57 => ((cpy 20 20 σ57 (k1 + 5) 0 (k0 + 5) 0 20).bind fun σ72 => ((cpy 160 160 σ72 (k1 + 6) 0 (k0 + 6) 0 160).bind fun σ88 => (lt (gu σ88 k0 (upd (σ88 k0) 6 (σ88 k1 6))) fun σ96 => (some σ96))))))))
def f_X0_takeFrom (fu : Nat) (σ : gSt) (k0 : Nat) (k1 : Nat) : Option (gSt) :=
  ((cpy 16 16 σ (k1 + 1) 0 (k0 + 1) 0 16).bind fun σ12 => (some σ12))
def f_X4_takeFrom (fu : Nat) (σ : gSt) (k0 : Nat) (k1 : Nat) : Option (gSt) :=
  ((cpy 6 6 σ (k1 + 1) 0 (k0 + 1) 0 6).bind fun σ12 => (some σ12))
def f_X7_takeFrom (fu : Nat) (σ : gSt) (k0 : Nat) (k1 : Nat) : Option (gSt) :=
  ((f_X8_takeFrom fu σ (k0 + 1) (k1 + 1)).bind fun σ8 => ((f_X0_takeFrom fu σ8 (k0 + 8) (k1 + 8)).bind fun σ19 => ((f_X4_takeFrom fu σ19 (k0 + 10) (k1 + 10)).bind fun σ30 => (lt (gu σ30 k0 (upd (σ30 k0) 3 (σ30 k1 3))) fun σ38 => (some σ38)))))
def f_X9_isWithin (fu : Nat) (σ : gSt) (p0 : Int32) (p1 : Int32) (p2 : Int32) : Option (Int32) :=
  (if p0 < p1 then (some 0) else (if p2 < p0 then (some 0) else (some 1)))
def f_X7_isPitch (fu : Nat) (σ : gSt) (p0 : Int32) : Option (Int32) :=
  ((f_X9_isWithin fu σ p0 50 500).bind fun v6 => (zb v6))
def f_X8_isFull (fu : Nat) (σ : gSt) (k0 : Nat) : Option (Int32) :=
  (if (σ k0 6) < 20 then (some 0) else (some 1))
def f_X4_has (fu : Nat) (σ : gSt) (k0 : Nat) (p1 : Int32) : Option (Int32) :=
  (if p1 < 0 then (some 0) else (if 6 ≤ p1 then (some 0) else ((rd 6 σ (k0 + 1) p1).bind fun v15 => (if v15 = 0 then (some 0) else (some 1)))))
def f_X4_closestTo_L10 (fu : Nat) (σ : gSt) (k0 : Nat) (p1 : Int32) (p2 : Int32) (ag10 : Int32 → Int32 → Int32 → Option (Int32)) (x3 : Int32) (x4 : Int32) (x5 : Int32) : Option (Int32) :=
  (if 6 ≤ x5 then (some x3) else ((f_X4_has fu σ k0 x5).bind fun v20 => (if v20 = 0 then (ag10 x3 x4 (x5 + 1)) else ((rd 6 σ (k0 + 1) x5).bind fun v32 => ((f_J9_abs_0f7a4 fu σ (v32 - p1)).bind fun v35 => (if x4 ≤ v35 then (ag10 x3 x4 (x5 + 1)) else ((rd 6 σ (k0 + 1) x5).bind fun v52 => ((f_J9_abs_0f7a4 fu σ (v52 - p1)).bind fun v55 => (ag10 x5 v55 (x5 + 1))))))))))
def f_X4_closestTo_W10 (fu : Nat) (σ : gSt) (k0 : Nat) (p1 : Int32) (p2 : Int32) : Nat → Int32 → Int32 → Int32 → Option (Int32)
  | 0, _, _, _ => none
  | n + 1, x3, x4, x5 => f_X4_closestTo_L10 fu σ k0 p1 p2 (f_X4_closestTo_W10 fu σ k0 p1 p2 n) x3 x4 x5
theorem f_X4_closestTo_W10_0 (fu : Nat) (σ : gSt) (k0 : Nat) (p1 : Int32) (p2 : Int32) (x3 : Int32) (x4 : Int32) (x5 : Int32) : f_X4_closestTo_W10 fu σ k0 p1 p2 0 x3 x4 x5 = none := rfl
theorem f_X4_closestTo_W10_s (fu : Nat) (σ : gSt) (k0 : Nat) (p1 : Int32) (p2 : Int32) (n : Nat) (x3 : Int32) (x4 : Int32) (x5 : Int32) : f_X4_closestTo_W10 fu σ k0 p1 p2 (n + 1) x3 x4 x5 = f_X4_closestTo_L10 fu σ k0 p1 p2 (f_X4_closestTo_W10 fu σ k0 p1 p2 n) x3 x4 x5 := rfl
def f_X4_closestTo (fu : Nat) (σ : gSt) (k0 : Nat) (p1 : Int32) (p2 : Int32) : Option (Int32) :=
  (f_X4_closestTo_W10 fu σ k0 p1 p2 fu (-1) (p2 + 1) 0)
def f_X7_closestSpeaker (fu : Nat) (σ : gSt) (k0 : Nat) (p1 : Int32) : Option (Int32) :=
  ((f_X4_closestTo fu σ (k0 + 10) p1 (σ k0 3)).bind fun v9 => (some v9))
def f_X8_placeFor_L2 (fu : Nat) (σ : gSt) (k0 : Nat) (p1 : Int32) (ag2 : Int32 → Option (Int32)) (x2 : Int32) : Option (Int32) :=
  (if (σ k0 6) ≤ x2 then (some x2) else (if 19 ≤ x2 then (some x2) else ((rd 20 σ (k0 + 1) x2).bind fun v21 => (if p1 < v21 then (some x2) else (ag2 (x2 + 1))))))
def f_X8_placeFor_W2 (fu : Nat) (σ : gSt) (k0 : Nat) (p1 : Int32) : Nat → Int32 → Option (Int32)
  | 0, _ => none
  | n + 1, x2 => f_X8_placeFor_L2 fu σ k0 p1 (f_X8_placeFor_W2 fu σ k0 p1 n) x2
theorem f_X8_placeFor_W2_0 (fu : Nat) (σ : gSt) (k0 : Nat) (p1 : Int32) (x2 : Int32) : f_X8_placeFor_W2 fu σ k0 p1 0 x2 = none := rfl
theorem f_X8_placeFor_W2_s (fu : Nat) (σ : gSt) (k0 : Nat) (p1 : Int32) (n : Nat) (x2 : Int32) : f_X8_placeFor_W2 fu σ k0 p1 (n + 1) x2 = f_X8_placeFor_L2 fu σ k0 p1 (f_X8_placeFor_W2 fu σ k0 p1 n) x2 := rfl
def f_X8_placeFor (fu : Nat) (σ : gSt) (k0 : Nat) (p1 : Int32) : Option (Int32) :=
  (f_X8_placeFor_W2 fu σ k0 p1 fu 0)
def f_X8_moveRows (fu : Nat) (σ : gSt) (k0 : Nat) (p1 : Int32) (p2 : Int32) : Option (gSt) :=
  (if p1 < 0 then (some σ) else (if p2 < 0 then (some σ) else (if ((σ k0 6) - p1) < 0 then (some σ) else (if 20 < (p1 + ((σ k0 6) - p1)) then (some σ) else (if (p2 + ((σ k0 6) - p1)) ≤ 20 then ((cpy 20 20 σ (k0 + 1) p1 (k0 + 1) p2 ((σ k0 6) - p1)).bind fun σ47 => ((cpy 20 20 σ47 (k0 + 2) p1 (k0 + 2) p2 ((σ k0 6) - p1)).bind fun σ61 => ((cpy 20 20 σ61 (k0 + 3) p1 (k0 + 3) p2 ((σ k0 6) - p1)).bind fun σ75 => ((cpy 20 20 σ75 (k0 + 4) p1 (k0 + 4) p2 ((σ k0 6) - p1)).bind fun σ89 => ((cpy 20 20 σ89 (k0 + 5) p1 (k0 + 5) p2 ((σ k0 6) - p1)).bind fun σ103 => ((cpy 160 160 σ103 (k0 + 6) (p1 * 8) (k0 + 6) (p2 * 8) (((σ k0 6) - p1) * 8)).bind fun σ126 => (some σ126))))))) else (some σ))))))
def f_X8_insert (fu : Nat) (σ : gSt) (k0 : Nat) (p1 : Int32) (p2 : Int32) (p3 : Int32) (p4 : Int32) : Option (Int32 × gSt) :=
  ((f_X8_isFull fu σ k0).bind fun v1 => (if v1 = 0 then ((f_X8_placeFor fu σ k0 p1).bind fun v11 => ((f_X8_moveRows fu σ k0 v11 (v11 + 1)).bind fun σ23 => (lt (gu σ23 k0 (upd (σ23 k0) 6 ((σ23 k0 6) + 1))) fun σ33 => ((wr 20 σ33 (k0 + 1) v11 p1).bind fun σ43 => ((wr 20 σ43 (k0 + 2) v11 p2).bind fun σ51 => ((wr 20 σ51 (k0 + 3) v11 p3).bind fun σ59 => ((wr 20 σ59 (k0 + 4) v11 p4).bind fun σ68 => ((wr 20 σ68 (k0 + 5) v11 0).bind fun σ76 => (some (v11, σ76)))))))))) else (some ((-1), σ))))
def f_X7_addTurn (fu : Nat) (σ : gSt) (k0 : Nat) (p1 : Int32) (p2 : Int32) (p3 : Int32) : Option (Int32 × gSt) :=
  (if p1 < 0 then (some ((-1000001), σ)) else (if p2 ≤ p1 then (some ((-1000001), σ)) else (if 1999 < p2 then (some ((-1000001), σ)) else ((f_X7_isPitch fu σ p3).bind fun v17 => (if v17 = 0 then (some ((-1000001), σ)) else ((f_X8_isFull fu σ (k0 + 1)).bind fun v30 => (if v30 = 0 then ((f_X7_closestSpeaker fu σ k0 p3).bind fun v48 => (b2 (f_X8_insert fu σ (k0 + 1) p1 p2 p3 v48) fun v51 σ51 => (some (v51, σ51)))) else (some ((-1000003), σ)))))))))
def f_X1_stateAt (fu : Nat) (σ : gSt) (k0 : Nat) (p1 : Int32) : Option (Nat) :=
  ((f_J9_floorMod_7cf53 fu σ ((σ k0 1) + p1) 4).bind fun v11 => ((rdq 4 (k0 + 1) v11).bind fun q14 => (some q14)))
def f_X1_copy (fu : Nat) (σ : gSt) (k0 : Nat) (k1 : Nat) : Option (gSt) :=
  ((f_X7_takeFrom fu σ k1 k0).bind fun σ10 => (some σ10))
def f_X1_keep (fu : Nat) (σ : gSt) (k0 : Nat) (k1 : Nat) : Option (gSt) :=
  ((f_X1_stateAt fu σ k0 (σ k0 2)).bind fun q6 => ((f_X1_copy fu σ k1 q6).bind fun σ9 => (if 4 ≤ (σ9 k0 2) then ((rm ((σ9 k0 1) + 1) 4).bind fun v41 => (lt (gu σ9 k0 (upd (σ9 k0) 1 v41)) fun σ42 => (some σ42))) else (lt (gu σ9 k0 (upd (σ9 k0) 2 ((σ9 k0 2) + 1))) fun σ27 => (some σ27)))))
def f_X9_recorded (fu : Nat) (σ : gSt) (k0 : Nat) (p1 : Int32) : Option (Int32 × gSt) :=
  (if p1 < 0 then (some (p1, σ)) else ((f_X1_keep fu σ (k0 + 8) (k0 + 22)).bind fun σ12 => (some (p1, σ12))))
def f_X9_turn (fu : Nat) (σ : gSt) (k0 : Nat) (p1 : Int32) (p2 : Int32) (p3 : Int32) : Option (Int32 × gSt) :=
  ((f_X7_takeFrom fu σ (k0 + 22) (k0 + 10)).bind fun σ8 => (b2 (f_X7_addTurn fu σ8 (k0 + 10) p1 p2 p3) fun v19 σ19 => (b2 (f_X9_recorded fu σ19 k0 v19) fun v22 σ22 => (some (v22, σ22)))))
def f_X10_in (fu : Nat) (σ : gSt) (p0 : Int32) (p1 : Int32) (p2 : Int32) : Option (Int32) :=
  (if p0 < p1 then (some 0) else (if p2 < p0 then (some 0) else (some 1)))
def f_X10_changes_L59 (fu : Nat) (k0 : Nat) (ag59 : Int32 → gSt → Option (gSt)) (x1 : Int32) (σ : gSt) : Option (gSt) :=
  (if 284 ≤ x1 then (lt (gu σ k0 (upd (σ k0) 3 ((σ k0 3) + 1))) fun σ100 => (some σ100)) else ((rd 284 σ (k0 + 1) x1).bind fun v85 => ((wr 1136 σ (k0 + 2) ((284 * (σ k0 3)) + x1) v85).bind fun σ86 => (ag59 (x1 + 1) σ86))))
def f_X10_changes_W59 (fu : Nat) (k0 : Nat) : Nat → Int32 → gSt → Option (gSt)
  | 0, _, _ => none
  | n + 1, x1, σ => f_X10_changes_L59 fu k0 (f_X10_changes_W59 fu k0 n) x1 σ
theorem f_X10_changes_W59_0 (fu : Nat) (k0 : Nat) (x1 : Int32) (σ : gSt) : f_X10_changes_W59 fu k0 0 x1 σ = none := rfl
theorem f_X10_changes_W59_s (fu : Nat) (k0 : Nat) (n : Nat) (x1 : Int32) (σ : gSt) : f_X10_changes_W59 fu k0 (n + 1) x1 σ = f_X10_changes_L59 fu k0 (f_X10_changes_W59 fu k0 n) x1 σ := rfl
def f_X10_changes_L18 (fu : Nat) (k0 : Nat) (ag18 : Int32 → gSt → Option (gSt)) (x1 : Int32) (σ : gSt) : Option (gSt) :=
  (if 852 ≤ x1 then (lt (gu σ k0 (upd (σ k0) 3 ((σ k0 3) - 1))) fun σ54 => (f_X10_changes_W59 fu k0 fu 0 σ54)) else ((rd 1136 σ (k0 + 2) (x1 + 284)).bind fun v39 => ((wr 1136 σ (k0 + 2) x1 v39).bind fun σ40 => (ag18 (x1 + 1) σ40))))
def f_X10_changes_W18 (fu : Nat) (k0 : Nat) : Nat → Int32 → gSt → Option (gSt)
  | 0, _, _ => none
  | n + 1, x1, σ => f_X10_changes_L18 fu k0 (f_X10_changes_W18 fu k0 n) x1 σ
theorem f_X10_changes_W18_0 (fu : Nat) (k0 : Nat) (x1 : Int32) (σ : gSt) : f_X10_changes_W18 fu k0 0 x1 σ = none := rfl
theorem f_X10_changes_W18_s (fu : Nat) (k0 : Nat) (n : Nat) (x1 : Int32) (σ : gSt) : f_X10_changes_W18 fu k0 (n + 1) x1 σ = f_X10_changes_L18 fu k0 (f_X10_changes_W18 fu k0 n) x1 σ := rfl
def f_X10_changes (fu : Nat) (σ : gSt) (k0 : Nat) : Option (gSt) :=
  (if (σ k0 4) = 0 then (if (σ k0 3) = 4 then (f_X10_changes_W18 fu k0 fu 0 σ) else (f_X10_changes_W59 fu k0 fu 0 σ)) else (some σ))
def f_X10_of (fu : Nat) (σ : gSt) (k0 : Nat) (p1 : Int32) (p2 : Int32) : Option (Int32) :=
  ((rd 284 σ (k0 + 1) ((13 * p1) + p2)).bind fun v10 => (some v10))
def f_X10_opens_L45 (fu : Nat) (k0 : Nat) (p1 : Int32) (x2 : Int32) (ag45 : Int32 → gSt → Option (Int32 × gSt)) (x3 : Int32) (σ : gSt) : Option (Int32 × gSt) :=
  (if x3 < (13 * x2) then ((wr 284 σ (k0 + 1) 282 ((σ (k0 + 1) 282) + 1)).bind fun σ85 => (some (x2, σ85))) else ((rd 284 σ (k0 + 1) x3).bind fun v66 => ((wr 284 σ (k0 + 1) (x3 + 13) v66).bind fun σ67 => (ag45 (x3 + (-1)) σ67))))
def f_X10_opens_W45 (fu : Nat) (k0 : Nat) (p1 : Int32) (x2 : Int32) : Nat → Int32 → gSt → Option (Int32 × gSt)
  | 0, _, _ => none
  | n + 1, x3, σ => f_X10_opens_L45 fu k0 p1 x2 (f_X10_opens_W45 fu k0 p1 x2 n) x3 σ
theorem f_X10_opens_W45_0 (fu : Nat) (k0 : Nat) (p1 : Int32) (x2 : Int32) (x3 : Int32) (σ : gSt) : f_X10_opens_W45 fu k0 p1 x2 0 x3 σ = none := rfl
theorem f_X10_opens_W45_s (fu : Nat) (k0 : Nat) (p1 : Int32) (x2 : Int32) (n : Nat) (x3 : Int32) (σ : gSt) : f_X10_opens_W45 fu k0 p1 x2 (n + 1) x3 σ = f_X10_opens_L45 fu k0 p1 x2 (f_X10_opens_W45 fu k0 p1 x2 n) x3 σ := rfl
def f_X10_opens_J31 (fu : Nat) (k0 : Nat) (p1 : Int32) (x2 : Int32) (σ : gSt) : Option (Int32 × gSt) :=
  (lt (((13 * (σ (k0 + 1) 282)) - 1) : Int32) fun y44 => (f_X10_opens_W45 fu k0 p1 x2 fu y44 σ))
def f_X10_opens_L9 (fu : Nat) (k0 : Nat) (p1 : Int32) (σ : gSt) (ag9 : Int32 → Option (Int32 × gSt)) (x2 : Int32) : Option (Int32 × gSt) :=
  (if x2 ≤ 0 then (f_X10_opens_J31 fu k0 p1 x2 σ) else ((f_X10_of fu σ k0 (x2 - 1) 0).bind fun v18 => (if v18 ≤ p1 then (f_X10_opens_J31 fu k0 p1 x2 σ) else (ag9 (x2 + (-1))))))
def f_X10_opens_W9 (fu : Nat) (k0 : Nat) (p1 : Int32) (σ : gSt) : Nat → Int32 → Option (Int32 × gSt)
  | 0, _ => none
  | n + 1, x2 => f_X10_opens_L9 fu k0 p1 σ (f_X10_opens_W9 fu k0 p1 σ n) x2
theorem f_X10_opens_W9_0 (fu : Nat) (k0 : Nat) (p1 : Int32) (σ : gSt) (x2 : Int32) : f_X10_opens_W9 fu k0 p1 σ 0 x2 = none := rfl
theorem f_X10_opens_W9_s (fu : Nat) (k0 : Nat) (p1 : Int32) (σ : gSt) (n : Nat) (x2 : Int32) : f_X10_opens_W9 fu k0 p1 σ (n + 1) x2 = f_X10_opens_L9 fu k0 p1 σ (f_X10_opens_W9 fu k0 p1 σ n) x2 := rfl
def f_X10_opens (fu : Nat) (σ : gSt) (k0 : Nat) (p1 : Int32) : Option (Int32 × gSt) :=
  (f_X10_opens_W9 fu k0 p1 σ fu (σ (k0 + 1) 282))
def f_X10_sets (fu : Nat) (σ : gSt) (k0 : Nat) (p1 : Int32) (p2 : Int32) (p3 : Int32) : Option (gSt) :=
  ((wr 284 σ (k0 + 1) ((13 * p1) + p2) p3).bind fun σ11 => (some σ11))
def f_X10_far (fu : Nat) (σ : gSt) (p0 : Int32) (p1 : Int32) : Option (Int32) :=
  (if p1 ≤ p0 then (some (p0 - p1)) else (some (p1 - p0)))
def f_X10_voiceFor_J53 (fu : Nat) (σ : gSt) (k0 : Nat) (p1 : Int32) (ag4 : Int32 → Int32 → Option (Int32)) (x2 : Int32) (x3 : Int32) (s1 : Int32) : Option (Int32) :=
  (if s1 = 0 then (ag4 x2 (x3 + 1)) else (if x2 < 0 then (ag4 x3 (x3 + 1)) else ((rd 284 σ (k0 + 1) (276 + x3)).bind fun v73 => ((f_X10_far fu σ v73 p1).bind fun v75 => ((rd 284 σ (k0 + 1) (276 + x2)).bind fun v87 => ((f_X10_far fu σ v87 p1).bind fun v89 => (lt ((if v89 ≤ v75 then x2 else x3) : Int32) fun w92 => (ag4 w92 (x3 + 1)))))))))
def f_X10_voiceFor_L4 (fu : Nat) (σ : gSt) (k0 : Nat) (p1 : Int32) (ag4 : Int32 → Int32 → Option (Int32)) (x2 : Int32) (x3 : Int32) : Option (Int32) :=
  (if 6 ≤ x3 then (some x2) else ((rd 284 σ (k0 + 1) (276 + x3)).bind fun v19 => (if v19 ≤ 0 then (f_X10_voiceFor_J53 fu σ k0 p1 ag4 x2 x3 0) else ((rd 284 σ (k0 + 1) (276 + x3)).bind fun v32 => ((f_X10_far fu σ v32 p1).bind fun v34 => (lt ((if (σ (k0 + 1) 283) < v34 then 0 else 1) : Int32) fun w45 => (f_X10_voiceFor_J53 fu σ k0 p1 ag4 x2 x3 w45)))))))
def f_X10_voiceFor_W4 (fu : Nat) (σ : gSt) (k0 : Nat) (p1 : Int32) : Nat → Int32 → Int32 → Option (Int32)
  | 0, _, _ => none
  | n + 1, x2, x3 => f_X10_voiceFor_L4 fu σ k0 p1 (f_X10_voiceFor_W4 fu σ k0 p1 n) x2 x3
theorem f_X10_voiceFor_W4_0 (fu : Nat) (σ : gSt) (k0 : Nat) (p1 : Int32) (x2 : Int32) (x3 : Int32) : f_X10_voiceFor_W4 fu σ k0 p1 0 x2 x3 = none := rfl
theorem f_X10_voiceFor_W4_s (fu : Nat) (σ : gSt) (k0 : Nat) (p1 : Int32) (n : Nat) (x2 : Int32) (x3 : Int32) : f_X10_voiceFor_W4 fu σ k0 p1 (n + 1) x2 x3 = f_X10_voiceFor_L4 fu σ k0 p1 (f_X10_voiceFor_W4 fu σ k0 p1 n) x2 x3 := rfl
def f_X10_voiceFor (fu : Nat) (σ : gSt) (k0 : Nat) (p1 : Int32) : Option (Int32) :=
  (f_X10_voiceFor_W4 fu σ k0 p1 fu (-1) 0)
def f_X10_turn (fu : Nat) (σ : gSt) (k0 : Nat) (p1 : Int32) (p2 : Int32) (p3 : Int32) : Option (Int32 × gSt) :=
  ((f_X10_in fu σ p1 0 1998).bind fun v5 => (if v5 = 0 then (some ((-1000001), σ)) else ((f_X10_in fu σ p2 (p1 + 1) 1999).bind fun v18 => (if v18 = 0 then (some ((-1000001), σ)) else ((f_X10_in fu σ p3 50 500).bind fun v30 => (if v30 = 0 then (some ((-1000001), σ)) else (if (σ (k0 + 1) 282) = 20 then (some ((-1000003), σ)) else ((f_X10_changes fu σ k0).bind fun σ56 => (b2 (f_X10_opens fu σ56 k0 p1) fun v61 σ61 => ((f_X10_sets fu σ61 k0 v61 0 p1).bind fun σ71 => ((f_X10_sets fu σ71 k0 v61 1 p2).bind fun σ79 => ((f_X10_sets fu σ79 k0 v61 2 p3).bind fun σ87 => ((f_X10_voiceFor fu σ87 k0 p3).bind fun v96 => ((f_X10_sets fu σ87 k0 v61 3 v96).bind fun σ99 => ((f_X10_sets fu σ99 k0 v61 4 0).bind fun σ107 => (some (v61, σ107)))))))))))))))))
def f_X8_has (fu : Nat) (σ : gSt) (k0 : Nat) (p1 : Int32) : Option (Int32) :=
  (if p1 < 0 then (some 0) else (if (σ k0 6) ≤ p1 then (some 0) else (if 20 ≤ p1 then (some 0) else (some 1))))
def f_X0_isTerm (fu : Nat) (σ : gSt) (p0 : Int32) : Option (Int32) :=
  ((f_X9_isWithin fu σ p0 0 15).bind fun v4 => (zb v4))
def f_X8_termCountOf (fu : Nat) (σ : gSt) (k0 : Nat) (p1 : Int32) : Option (Int32) :=
  ((f_X8_has fu σ k0 p1).bind fun v2 => (if v2 = 0 then (some 0) else ((rd 20 σ (k0 + 5) p1).bind fun v13 => (some v13))))
def f_X8_isFullOfTerms (fu : Nat) (σ : gSt) (k0 : Nat) (p1 : Int32) : Option (Int32) :=
  ((f_X8_termCountOf fu σ k0 p1).bind fun v2 => (if v2 < 8 then (some 0) else (some 1)))
def f_X8_appendTerm (fu : Nat) (σ : gSt) (k0 : Nat) (p1 : Int32) (p2 : Int32) : Option (gSt) :=
  ((f_X8_has fu σ k0 p1).bind fun v2 => (if v2 = 0 then (some σ) else ((rd 20 σ (k0 + 5) p1).bind fun v13 => ((f_X9_isWithin fu σ v13 0 7).bind fun v17 => (if v17 = 0 then (some σ) else ((rd 20 σ (k0 + 5) p1).bind fun v36 => ((wr 160 σ (k0 + 6) ((p1 * 8) + v36) p2).bind fun σ39 => ((rd 20 σ39 (k0 + 5) p1).bind fun v46 => ((wr 20 σ39 (k0 + 5) p1 (v46 + 1)).bind fun σ49 => (some σ49))))))))))
def f_X7_addTerm (fu : Nat) (σ : gSt) (k0 : Nat) (p1 : Int32) (p2 : Int32) : Option (Int32 × gSt) :=
  ((f_X8_has fu σ (k0 + 1) p1).bind fun v5 => (if v5 = 0 then (some ((-1000001), σ)) else ((f_X0_isTerm fu σ p2).bind fun v12 => (if v12 = 0 then (some ((-1000001), σ)) else ((f_X8_isFullOfTerms fu σ (k0 + 1) p1).bind fun v26 => (if v26 = 0 then ((f_X8_appendTerm fu σ (k0 + 1) p1 p2).bind fun σ41 => ((f_X8_termCountOf fu σ41 (k0 + 1) p1).bind fun v49 => (some (v49, σ41)))) else (some ((-1000003), σ))))))))
def f_X9_say (fu : Nat) (σ : gSt) (k0 : Nat) (p1 : Int32) (p2 : Int32) : Option (Int32 × gSt) :=
  ((f_X7_takeFrom fu σ (k0 + 22) (k0 + 10)).bind fun σ8 => (b2 (f_X7_addTerm fu σ8 (k0 + 10) p1 p2) fun v18 σ18 => (b2 (f_X9_recorded fu σ18 k0 v18) fun v21 σ21 => (some (v21, σ21)))))
def f_X10_isTurn (fu : Nat) (σ : gSt) (k0 : Nat) (p1 : Int32) : Option (Int32) :=
  (if p1 < 0 then (some 0) else (if (σ (k0 + 1) 282) ≤ p1 then (some 0) else (some 1)))
def f_X10_isTerm (fu : Nat) (σ : gSt) (p0 : Int32) : Option (Int32) :=
  ((f_X10_in fu σ p0 0 15).bind fun v4 => (zb v4))
def f_X10_say (fu : Nat) (σ : gSt) (k0 : Nat) (p1 : Int32) (p2 : Int32) : Option (Int32 × gSt) :=
  ((f_X10_isTurn fu σ k0 p1).bind fun v2 => (if v2 = 0 then (some ((-1000001), σ)) else ((f_X10_isTerm fu σ p2).bind fun v9 => (if v9 = 0 then (some ((-1000001), σ)) else ((f_X10_of fu σ k0 p1 4).bind fun v21 => (if v21 = 8 then (some ((-1000003), σ)) else ((f_X10_changes fu σ k0).bind fun σ35 => ((f_X10_sets fu σ35 k0 p1 (5 + v21) p2).bind fun σ44 => ((f_X10_sets fu σ44 k0 p1 4 (v21 + 1)).bind fun σ53 => (some ((v21 + 1), σ53)))))))))))
def f_X8_beginOf (fu : Nat) (σ : gSt) (k0 : Nat) (p1 : Int32) : Option (Int32) :=
  ((f_X8_has fu σ k0 p1).bind fun v2 => (if v2 = 0 then (some 0) else ((rd 20 σ (k0 + 1) p1).bind fun v13 => (some v13))))
def f_X8_endOf (fu : Nat) (σ : gSt) (k0 : Nat) (p1 : Int32) : Option (Int32) :=
  ((f_X8_has fu σ k0 p1).bind fun v2 => (if v2 = 0 then (some 0) else ((rd 20 σ (k0 + 2) p1).bind fun v13 => (some v13))))
def f_X8_pitchOf (fu : Nat) (σ : gSt) (k0 : Nat) (p1 : Int32) : Option (Int32) :=
  ((f_X8_has fu σ k0 p1).bind fun v2 => (if v2 = 0 then (some 0) else ((rd 20 σ (k0 + 3) p1).bind fun v13 => (some v13))))
def f_X8_ownerOf (fu : Nat) (σ : gSt) (k0 : Nat) (p1 : Int32) : Option (Int32) :=
  ((f_X8_has fu σ k0 p1).bind fun v2 => (if v2 = 0 then (some (-1)) else ((rd 20 σ (k0 + 4) p1).bind fun v13 => (some v13))))
def f_X8_toldTerm (fu : Nat) (σ : gSt) (k0 : Nat) (p1 : Int32) (p2 : Int32) : Option (Int32) :=
  ((f_X8_has fu σ k0 p1).bind fun v2 => (if v2 = 0 then (some (-1)) else (if p2 < 0 then (some (-1)) else ((rd 20 σ (k0 + 5) p1).bind fun v18 => (if v18 ≤ p2 then (some (-1)) else (if 8 ≤ p2 then (some (-1)) else ((rd 160 σ (k0 + 6) ((p1 * 8) + p2)).bind fun v38 => (some v38))))))))
def f_X8_passTerms_L29 (fu : Nat) (k0 : Nat) (p1 : Int32) (p2 : Int32) (p3 : Int32) (x4 : Int32) (ag29 : Int32 → gSt → Option (gSt)) (x5 : Int32) (σ : gSt) : Option (gSt) :=
  (if x4 ≤ x5 then ((wr 20 σ (k0 + 5) p1 p2).bind fun σ60 => (some σ60)) else ((f_X8_toldTerm fu σ k0 p1 x5).bind fun v42 => ((f_X8_appendTerm fu σ k0 p3 v42).bind fun σ45 => (ag29 (x5 + 1) σ45))))
def f_X8_passTerms_W29 (fu : Nat) (k0 : Nat) (p1 : Int32) (p2 : Int32) (p3 : Int32) (x4 : Int32) : Nat → Int32 → gSt → Option (gSt)
  | 0, _, _ => none
  | n + 1, x5, σ => f_X8_passTerms_L29 fu k0 p1 p2 p3 x4 (f_X8_passTerms_W29 fu k0 p1 p2 p3 x4 n) x5 σ
theorem f_X8_passTerms_W29_0 (fu : Nat) (k0 : Nat) (p1 : Int32) (p2 : Int32) (p3 : Int32) (x4 : Int32) (x5 : Int32) (σ : gSt) : f_X8_passTerms_W29 fu k0 p1 p2 p3 x4 0 x5 σ = none := rfl
theorem f_X8_passTerms_W29_s (fu : Nat) (k0 : Nat) (p1 : Int32) (p2 : Int32) (p3 : Int32) (x4 : Int32) (n : Nat) (x5 : Int32) (σ : gSt) : f_X8_passTerms_W29 fu k0 p1 p2 p3 x4 (n + 1) x5 σ = f_X8_passTerms_L29 fu k0 p1 p2 p3 x4 (f_X8_passTerms_W29 fu k0 p1 p2 p3 x4 n) x5 σ := rfl
def f_X8_passTerms (fu : Nat) (σ : gSt) (k0 : Nat) (p1 : Int32) (p2 : Int32) (p3 : Int32) : Option (gSt) :=
  ((f_X8_termCountOf fu σ k0 p1).bind fun v2 => ((f_X8_has fu σ k0 p1).bind fun v9 => (if v9 = 0 then (some σ) else ((f_X9_isWithin fu σ p2 0 v2).bind fun v19 => (if v19 = 0 then (some σ) else (f_X8_passTerms_W29 fu k0 p1 p2 p3 v2 fu p2 σ))))))
def f_X8_endAt (fu : Nat) (σ : gSt) (k0 : Nat) (p1 : Int32) (p2 : Int32) : Option (gSt) :=
  ((f_X8_has fu σ k0 p1).bind fun v2 => (if v2 = 0 then (some σ) else ((wr 20 σ (k0 + 2) p1 p2).bind fun σ14 => (some σ14))))
def f_X7_partTurn (fu : Nat) (σ : gSt) (k0 : Nat) (p1 : Int32) (p2 : Int32) (p3 : Int32) : Option (Int32 × gSt) :=
  ((f_X8_has fu σ (k0 + 1) p1).bind fun v5 => (if v5 = 0 then (some ((-1000001), σ)) else ((f_X8_beginOf fu σ (k0 + 1) p1).bind fun v17 => (if p2 ≤ v17 then (some ((-1000001), σ)) else ((f_X8_endOf fu σ (k0 + 1) p1).bind fun v29 => (if v29 ≤ p2 then (some ((-1000001), σ)) else ((f_X8_termCountOf fu σ (k0 + 1) p1).bind fun v42 => ((f_X9_isWithin fu σ p3 0 v42).bind fun v45 => (if v45 = 0 then (some ((-1000001), σ)) else ((f_X8_isFull fu σ (k0 + 1)).bind fun v58 => (if v58 = 0 then ((f_X8_endOf fu σ (k0 + 1) p1).bind fun v77 => ((f_X8_pitchOf fu σ (k0 + 1) p1).bind fun v85 => ((f_X8_ownerOf fu σ (k0 + 1) p1).bind fun v93 => (b2 (f_X8_insert fu σ (k0 + 1) p2 v77 v85 v93) fun v96 σ96 => ((f_X8_passTerms fu σ96 (k0 + 1) p1 p3 v96).bind fun σ109 => ((f_X8_endAt fu σ109 (k0 + 1) p1 p2).bind fun σ118 => (some (v96, σ118)))))))) else (some ((-1000003), σ)))))))))))))
def f_X9_part (fu : Nat) (σ : gSt) (k0 : Nat) (p1 : Int32) (p2 : Int32) (p3 : Int32) : Option (Int32 × gSt) :=
  ((f_X7_takeFrom fu σ (k0 + 22) (k0 + 10)).bind fun σ8 => (b2 (f_X7_partTurn fu σ8 (k0 + 10) p1 p2 p3) fun v19 σ19 => (b2 (f_X9_recorded fu σ19 k0 v19) fun v22 σ22 => (some (v22, σ22)))))
def f_X10_part_L173 (fu : Nat) (k0 : Nat) (p1 : Int32) (p2 : Int32) (p3 : Int32) (x4 : Int32) (ag173 : Int32 → gSt → Option (Int32 × gSt)) (x5 : Int32) (σ : gSt) : Option (Int32 × gSt) :=
  (if (σ (k0 + 5) 4) ≤ x5 then (some (x4, σ)) else ((rd 13 σ (k0 + 5) (5 + x5)).bind fun v201 => ((f_X10_sets fu σ k0 x4 ((5 + x5) - p3) v201).bind fun σ202 => (ag173 (x5 + 1) σ202))))
def f_X10_part_W173 (fu : Nat) (k0 : Nat) (p1 : Int32) (p2 : Int32) (p3 : Int32) (x4 : Int32) : Nat → Int32 → gSt → Option (Int32 × gSt)
  | 0, _, _ => none
  | n + 1, x5, σ => f_X10_part_L173 fu k0 p1 p2 p3 x4 (f_X10_part_W173 fu k0 p1 p2 p3 x4 n) x5 σ
theorem f_X10_part_W173_0 (fu : Nat) (k0 : Nat) (p1 : Int32) (p2 : Int32) (p3 : Int32) (x4 : Int32) (x5 : Int32) (σ : gSt) : f_X10_part_W173 fu k0 p1 p2 p3 x4 0 x5 σ = none := rfl
theorem f_X10_part_W173_s (fu : Nat) (k0 : Nat) (p1 : Int32) (p2 : Int32) (p3 : Int32) (x4 : Int32) (n : Nat) (x5 : Int32) (σ : gSt) : f_X10_part_W173 fu k0 p1 p2 p3 x4 (n + 1) x5 σ = f_X10_part_L173 fu k0 p1 p2 p3 x4 (f_X10_part_W173 fu k0 p1 p2 p3 x4 n) x5 σ := rfl
def f_X10_part_L119 (fu : Nat) (k0 : Nat) (p1 : Int32) (p2 : Int32) (p3 : Int32) (x4 : Int32) (ag119 : Int32 → gSt → Option (Int32 × gSt)) (x5 : Int32) (σ : gSt) : Option (Int32 × gSt) :=
  (if 13 ≤ x5 then ((f_X10_sets fu σ k0 x4 0 p2).bind fun σ152 => ((f_X10_sets fu σ152 k0 x4 4 ((σ152 (k0 + 5) 4) - p3)).bind fun σ167 => (f_X10_part_W173 fu k0 p1 p2 p3 x4 fu p3 σ167))) else ((rd 13 σ (k0 + 5) x5).bind fun v137 => ((f_X10_sets fu σ k0 x4 x5 v137).bind fun σ138 => (ag119 (x5 + 1) σ138))))
def f_X10_part_W119 (fu : Nat) (k0 : Nat) (p1 : Int32) (p2 : Int32) (p3 : Int32) (x4 : Int32) : Nat → Int32 → gSt → Option (Int32 × gSt)
  | 0, _, _ => none
  | n + 1, x5, σ => f_X10_part_L119 fu k0 p1 p2 p3 x4 (f_X10_part_W119 fu k0 p1 p2 p3 x4 n) x5 σ
theorem f_X10_part_W119_0 (fu : Nat) (k0 : Nat) (p1 : Int32) (p2 : Int32) (p3 : Int32) (x4 : Int32) (x5 : Int32) (σ : gSt) : f_X10_part_W119 fu k0 p1 p2 p3 x4 0 x5 σ = none := rfl
theorem f_X10_part_W119_s (fu : Nat) (k0 : Nat) (p1 : Int32) (p2 : Int32) (p3 : Int32) (x4 : Int32) (n : Nat) (x5 : Int32) (σ : gSt) : f_X10_part_W119 fu k0 p1 p2 p3 x4 (n + 1) x5 σ = f_X10_part_L119 fu k0 p1 p2 p3 x4 (f_X10_part_W119 fu k0 p1 p2 p3 x4 n) x5 σ := rfl
def f_X10_part_L68 (fu : Nat) (k0 : Nat) (p1 : Int32) (p2 : Int32) (p3 : Int32) (ag68 : Int32 → gSt → Option (Int32 × gSt)) (x4 : Int32) (σ : gSt) : Option (Int32 × gSt) :=
  (if 13 ≤ x4 then ((f_X10_sets fu σ k0 p1 1 p2).bind fun σ99 => ((f_X10_sets fu σ99 k0 p1 4 p3).bind fun σ106 => (b2 (f_X10_opens fu σ106 k0 p2) fun v111 σ111 => (f_X10_part_W119 fu k0 p1 p2 p3 v111 fu 0 σ111)))) else ((f_X10_of fu σ k0 p1 x4).bind fun v85 => ((wr 13 σ (k0 + 5) x4 v85).bind fun σ88 => (ag68 (x4 + 1) σ88))))
def f_X10_part_W68 (fu : Nat) (k0 : Nat) (p1 : Int32) (p2 : Int32) (p3 : Int32) : Nat → Int32 → gSt → Option (Int32 × gSt)
  | 0, _, _ => none
  | n + 1, x4, σ => f_X10_part_L68 fu k0 p1 p2 p3 (f_X10_part_W68 fu k0 p1 p2 p3 n) x4 σ
theorem f_X10_part_W68_0 (fu : Nat) (k0 : Nat) (p1 : Int32) (p2 : Int32) (p3 : Int32) (x4 : Int32) (σ : gSt) : f_X10_part_W68 fu k0 p1 p2 p3 0 x4 σ = none := rfl
theorem f_X10_part_W68_s (fu : Nat) (k0 : Nat) (p1 : Int32) (p2 : Int32) (p3 : Int32) (n : Nat) (x4 : Int32) (σ : gSt) : f_X10_part_W68 fu k0 p1 p2 p3 (n + 1) x4 σ = f_X10_part_L68 fu k0 p1 p2 p3 (f_X10_part_W68 fu k0 p1 p2 p3 n) x4 σ := rfl
def f_X10_part (fu : Nat) (σ : gSt) (k0 : Nat) (p1 : Int32) (p2 : Int32) (p3 : Int32) : Option (Int32 × gSt) :=
  ((f_X10_isTurn fu σ k0 p1).bind fun v2 => (if v2 = 0 then (some ((-1000001), σ)) else ((f_X10_of fu σ k0 p1 0).bind fun v12 => (if p2 ≤ v12 then (some ((-1000001), σ)) else ((f_X10_of fu σ k0 p1 1).bind fun v22 => (if v22 ≤ p2 then (some ((-1000001), σ)) else ((f_X10_of fu σ k0 p1 4).bind fun v33 => ((f_X10_in fu σ p3 0 v33).bind fun v36 => (if v36 = 0 then (some ((-1000001), σ)) else (if (σ (k0 + 1) 282) = 20 then (some ((-1000003), σ)) else ((f_X10_changes fu σ k0).bind fun σ62 => (f_X10_part_W68 fu k0 p1 p2 p3 fu 0 σ62))))))))))))
def f_X8_delete (fu : Nat) (σ : gSt) (k0 : Nat) (p1 : Int32) : Option (gSt) :=
  ((f_X8_has fu σ k0 p1).bind fun v2 => (if v2 = 0 then (some σ) else ((f_X8_moveRows fu σ k0 (p1 + 1) p1).bind fun σ13 => (lt (gu σ13 k0 (upd (σ13 k0) 6 ((σ13 k0 6) - 1))) fun σ23 => (some σ23)))))
def f_X8_size (fu : Nat) (σ : gSt) (k0 : Nat) : Option (Int32) :=
  (some (σ k0 6))
def f_X7_dropTurn (fu : Nat) (σ : gSt) (k0 : Nat) (p1 : Int32) : Option (Int32 × gSt) :=
  ((f_X8_has fu σ (k0 + 1) p1).bind fun v5 => (if v5 = 0 then (some ((-1000001), σ)) else ((f_X8_delete fu σ (k0 + 1) p1).bind fun σ19 => ((f_X8_size fu σ19 (k0 + 1)).bind fun v26 => (some (v26, σ19))))))
def f_X9_remove (fu : Nat) (σ : gSt) (k0 : Nat) (p1 : Int32) : Option (Int32 × gSt) :=
  ((f_X7_takeFrom fu σ (k0 + 22) (k0 + 10)).bind fun σ8 => (b2 (f_X7_dropTurn fu σ8 (k0 + 10) p1) fun v17 σ17 => (b2 (f_X9_recorded fu σ17 k0 v17) fun v20 σ20 => (some (v20, σ20)))))
def f_X10_remove_L32 (fu : Nat) (k0 : Nat) (p1 : Int32) (ag32 : Int32 → gSt → Option (Int32 × gSt)) (x2 : Int32) (σ : gSt) : Option (Int32 × gSt) :=
  (if (13 * (σ (k0 + 1) 282)) ≤ x2 then (some ((σ (k0 + 1) 282), σ)) else ((rd 284 σ (k0 + 1) (x2 + 13)).bind fun v60 => ((wr 284 σ (k0 + 1) x2 v60).bind fun σ61 => (ag32 (x2 + 1) σ61))))
def f_X10_remove_W32 (fu : Nat) (k0 : Nat) (p1 : Int32) : Nat → Int32 → gSt → Option (Int32 × gSt)
  | 0, _, _ => none
  | n + 1, x2, σ => f_X10_remove_L32 fu k0 p1 (f_X10_remove_W32 fu k0 p1 n) x2 σ
theorem f_X10_remove_W32_0 (fu : Nat) (k0 : Nat) (p1 : Int32) (x2 : Int32) (σ : gSt) : f_X10_remove_W32 fu k0 p1 0 x2 σ = none := rfl
theorem f_X10_remove_W32_s (fu : Nat) (k0 : Nat) (p1 : Int32) (n : Nat) (x2 : Int32) (σ : gSt) : f_X10_remove_W32 fu k0 p1 (n + 1) x2 σ = f_X10_remove_L32 fu k0 p1 (f_X10_remove_W32 fu k0 p1 n) x2 σ := rfl
def f_X10_remove (fu : Nat) (σ : gSt) (k0 : Nat) (p1 : Int32) : Option (Int32 × gSt) :=
  ((f_X10_isTurn fu σ k0 p1).bind fun v2 => (if v2 = 0 then (some ((-1000001), σ)) else ((f_X10_changes fu σ k0).bind fun σ12 => ((wr 284 σ12 (k0 + 1) 282 ((σ12 (k0 + 1) 282) - 1)).bind fun σ26 => (f_X10_remove_W32 fu k0 p1 fu (13 * p1) σ26)))))
def f_X0_isCorrected (fu : Nat) (σ : gSt) (k0 : Nat) (p1 : Int32) : Option (Int32) :=
  (if p1 < 0 then (some 0) else (if 16 ≤ p1 then (some 0) else ((rd 16 σ (k0 + 1) p1).bind fun v15 => (if v15 = (-1) then (some 0) else (some 1)))))
def f_X0_leadsTo_J38 (fu : Nat) (σ : gSt) (k0 : Nat) (p1 : Int32) (p2 : Int32) (x3 : Int32) : Option (Int32) :=
  (if x3 = p2 then (some 1) else (some 0))
def f_X0_leadsTo_L5 (fu : Nat) (σ : gSt) (k0 : Nat) (p1 : Int32) (p2 : Int32) (ag5 : Int32 → Int32 → Option (Int32)) (x3 : Int32) (x4 : Int32) : Option (Int32) :=
  (if 16 ≤ x4 then (f_X0_leadsTo_J38 fu σ k0 p1 p2 x3) else (if x3 = p2 then (f_X0_leadsTo_J38 fu σ k0 p1 p2 x3) else ((f_X0_isCorrected fu σ k0 x3).bind fun v19 => (if v19 = 0 then (f_X0_leadsTo_J38 fu σ k0 p1 p2 x3) else ((rd 16 σ (k0 + 1) x3).bind fun v30 => (ag5 v30 (x4 + 1)))))))
def f_X0_leadsTo_W5 (fu : Nat) (σ : gSt) (k0 : Nat) (p1 : Int32) (p2 : Int32) : Nat → Int32 → Int32 → Option (Int32)
  | 0, _, _ => none
  | n + 1, x3, x4 => f_X0_leadsTo_L5 fu σ k0 p1 p2 (f_X0_leadsTo_W5 fu σ k0 p1 p2 n) x3 x4
theorem f_X0_leadsTo_W5_0 (fu : Nat) (σ : gSt) (k0 : Nat) (p1 : Int32) (p2 : Int32) (x3 : Int32) (x4 : Int32) : f_X0_leadsTo_W5 fu σ k0 p1 p2 0 x3 x4 = none := rfl
theorem f_X0_leadsTo_W5_s (fu : Nat) (σ : gSt) (k0 : Nat) (p1 : Int32) (p2 : Int32) (n : Nat) (x3 : Int32) (x4 : Int32) : f_X0_leadsTo_W5 fu σ k0 p1 p2 (n + 1) x3 x4 = f_X0_leadsTo_L5 fu σ k0 p1 p2 (f_X0_leadsTo_W5 fu σ k0 p1 p2 n) x3 x4 := rfl
def f_X0_leadsTo (fu : Nat) (σ : gSt) (k0 : Nat) (p1 : Int32) (p2 : Int32) : Option (Int32) :=
  (f_X0_leadsTo_W5 fu σ k0 p1 p2 fu p1 0)
def f_X0_errorOf (fu : Nat) (σ : gSt) (k0 : Nat) (p1 : Int32) (p2 : Int32) : Option (Int32) :=
  ((f_X0_isTerm fu σ p1).bind fun v1 => (if v1 = 0 then (some (-1000001)) else ((f_X0_isTerm fu σ p2).bind fun v8 => (if v8 = 0 then (some (-1000001)) else (if p1 = p2 then (some (-1000001)) else ((f_X0_leadsTo fu σ k0 p2 p1).bind fun v25 => (if v25 = 0 then (some 0) else (some (-1000002)))))))))
def f_X0_shown_L4 (fu : Nat) (σ : gSt) (k0 : Nat) (p1 : Int32) (ag4 : Int32 → Int32 → Option (Int32)) (x2 : Int32) (x3 : Int32) : Option (Int32) :=
  (if 16 ≤ x3 then (some x2) else ((f_X0_isCorrected fu σ k0 x2).bind fun v12 => (if v12 = 0 then (some x2) else ((rd 16 σ (k0 + 1) x2).bind fun v23 => (ag4 v23 (x3 + 1))))))
def f_X0_shown_W4 (fu : Nat) (σ : gSt) (k0 : Nat) (p1 : Int32) : Nat → Int32 → Int32 → Option (Int32)
  | 0, _, _ => none
  | n + 1, x2, x3 => f_X0_shown_L4 fu σ k0 p1 (f_X0_shown_W4 fu σ k0 p1 n) x2 x3
theorem f_X0_shown_W4_0 (fu : Nat) (σ : gSt) (k0 : Nat) (p1 : Int32) (x2 : Int32) (x3 : Int32) : f_X0_shown_W4 fu σ k0 p1 0 x2 x3 = none := rfl
theorem f_X0_shown_W4_s (fu : Nat) (σ : gSt) (k0 : Nat) (p1 : Int32) (n : Nat) (x2 : Int32) (x3 : Int32) : f_X0_shown_W4 fu σ k0 p1 (n + 1) x2 x3 = f_X0_shown_L4 fu σ k0 p1 (f_X0_shown_W4 fu σ k0 p1 n) x2 x3 := rfl
def f_X0_shown (fu : Nat) (σ : gSt) (k0 : Nat) (p1 : Int32) : Option (Int32) :=
  (f_X0_shown_W4 fu σ k0 p1 fu p1 0)
def f_X8_timesTold_L21 (fu : Nat) (σ : gSt) (k0 : Nat) (p1 : Int32) (ag4 : Int32 → Int32 → Option (Int32)) (x3 : Int32) (ag21 : Int32 → Int32 → Option (Int32)) (x2 : Int32) (x4 : Int32) : Option (Int32) :=
  ((rd 20 σ (k0 + 5) x3).bind fun v28 => (if v28 ≤ x4 then (ag4 x2 (x3 + 1)) else (if 8 ≤ x4 then (ag4 x2 (x3 + 1)) else ((rd 160 σ (k0 + 6) ((x3 * 8) + x4)).bind fun v50 => (if v50 = p1 then (ag21 (x2 + 1) (x4 + 1)) else (ag21 x2 (x4 + 1)))))))
def f_X8_timesTold_W21 (fu : Nat) (σ : gSt) (k0 : Nat) (p1 : Int32) (ag4 : Int32 → Int32 → Option (Int32)) (x3 : Int32) : Nat → Int32 → Int32 → Option (Int32)
  | 0, _, _ => none
  | n + 1, x2, x4 => f_X8_timesTold_L21 fu σ k0 p1 ag4 x3 (f_X8_timesTold_W21 fu σ k0 p1 ag4 x3 n) x2 x4
theorem f_X8_timesTold_W21_0 (fu : Nat) (σ : gSt) (k0 : Nat) (p1 : Int32) (ag4 : Int32 → Int32 → Option (Int32)) (x3 : Int32) (x2 : Int32) (x4 : Int32) : f_X8_timesTold_W21 fu σ k0 p1 ag4 x3 0 x2 x4 = none := rfl
theorem f_X8_timesTold_W21_s (fu : Nat) (σ : gSt) (k0 : Nat) (p1 : Int32) (ag4 : Int32 → Int32 → Option (Int32)) (x3 : Int32) (n : Nat) (x2 : Int32) (x4 : Int32) : f_X8_timesTold_W21 fu σ k0 p1 ag4 x3 (n + 1) x2 x4 = f_X8_timesTold_L21 fu σ k0 p1 ag4 x3 (f_X8_timesTold_W21 fu σ k0 p1 ag4 x3 n) x2 x4 := rfl
def f_X8_timesTold_L4 (fu : Nat) (σ : gSt) (k0 : Nat) (p1 : Int32) (ag4 : Int32 → Int32 → Option (Int32)) (x2 : Int32) (x3 : Int32) : Option (Int32) :=
  (if (σ k0 6) ≤ x3 then (some x2) else (if 20 ≤ x3 then (some x2) else (f_X8_timesTold_W21 fu σ k0 p1 ag4 x3 fu x2 0)))
def f_X8_timesTold_W4 (fu : Nat) (σ : gSt) (k0 : Nat) (p1 : Int32) : Nat → Int32 → Int32 → Option (Int32)
  | 0, _, _ => none
  | n + 1, x2, x3 => f_X8_timesTold_L4 fu σ k0 p1 (f_X8_timesTold_W4 fu σ k0 p1 n) x2 x3
theorem f_X8_timesTold_W4_0 (fu : Nat) (σ : gSt) (k0 : Nat) (p1 : Int32) (x2 : Int32) (x3 : Int32) : f_X8_timesTold_W4 fu σ k0 p1 0 x2 x3 = none := rfl
theorem f_X8_timesTold_W4_s (fu : Nat) (σ : gSt) (k0 : Nat) (p1 : Int32) (n : Nat) (x2 : Int32) (x3 : Int32) : f_X8_timesTold_W4 fu σ k0 p1 (n + 1) x2 x3 = f_X8_timesTold_L4 fu σ k0 p1 (f_X8_timesTold_W4 fu σ k0 p1 n) x2 x3 := rfl
def f_X8_timesTold (fu : Nat) (σ : gSt) (k0 : Nat) (p1 : Int32) : Option (Int32) :=
  (f_X8_timesTold_W4 fu σ k0 p1 fu 0 0)
def f_X7_placesReshown_L19 (fu : Nat) (σ : gSt) (k0 : Nat) (p1 : Int32) (p2 : Int32) (ag19 : Int32 → Int32 → Option (Int32)) (x3 : Int32) (x4 : Int32) : Option (Int32) :=
  (if 16 ≤ x4 then (some x3) else ((f_X0_leadsTo fu σ (k0 + 8) x4 p1).bind fun v33 => (if v33 = 0 then (ag19 x3 (x4 + 1)) else ((f_X8_timesTold fu σ (k0 + 1) x4).bind fun v46 => (ag19 (x3 + v46) (x4 + 1))))))
def f_X7_placesReshown_W19 (fu : Nat) (σ : gSt) (k0 : Nat) (p1 : Int32) (p2 : Int32) : Nat → Int32 → Int32 → Option (Int32)
  | 0, _, _ => none
  | n + 1, x3, x4 => f_X7_placesReshown_L19 fu σ k0 p1 p2 (f_X7_placesReshown_W19 fu σ k0 p1 p2 n) x3 x4
theorem f_X7_placesReshown_W19_0 (fu : Nat) (σ : gSt) (k0 : Nat) (p1 : Int32) (p2 : Int32) (x3 : Int32) (x4 : Int32) : f_X7_placesReshown_W19 fu σ k0 p1 p2 0 x3 x4 = none := rfl
theorem f_X7_placesReshown_W19_s (fu : Nat) (σ : gSt) (k0 : Nat) (p1 : Int32) (p2 : Int32) (n : Nat) (x3 : Int32) (x4 : Int32) : f_X7_placesReshown_W19 fu σ k0 p1 p2 (n + 1) x3 x4 = f_X7_placesReshown_L19 fu σ k0 p1 p2 (f_X7_placesReshown_W19 fu σ k0 p1 p2 n) x3 x4 := rfl
def f_X7_placesReshown (fu : Nat) (σ : gSt) (k0 : Nat) (p1 : Int32) (p2 : Int32) : Option (Int32) :=
  ((f_X0_shown fu σ (k0 + 8) p1).bind fun v5 => (if v5 = p2 then (some 0) else (f_X7_placesReshown_W19 fu σ k0 p1 p2 fu 0 0)))
def f_X0_put (fu : Nat) (σ : gSt) (k0 : Nat) (p1 : Int32) (p2 : Int32) : Option (gSt) :=
  ((f_X0_isTerm fu σ p1).bind fun v1 => (if v1 = 0 then (some σ) else ((wr 16 σ (k0 + 1) p1 p2).bind fun σ13 => (some σ13))))
def f_X7_addCorrection (fu : Nat) (σ : gSt) (k0 : Nat) (p1 : Int32) (p2 : Int32) : Option (Int32 × gSt) :=
  ((f_X0_errorOf fu σ (k0 + 8) p1 p2).bind fun v6 => (if v6 = 0 then ((f_X0_shown fu σ (k0 + 8) p2).bind fun v23 => ((f_X7_placesReshown fu σ k0 p1 v23).bind fun v26 => ((f_X0_put fu σ (k0 + 8) p1 p2).bind fun σ37 => (some (v26, σ37))))) else (some (v6, σ))))
def f_X9_correct (fu : Nat) (σ : gSt) (k0 : Nat) (p1 : Int32) (p2 : Int32) : Option (Int32 × gSt) :=
  ((f_X7_takeFrom fu σ (k0 + 22) (k0 + 10)).bind fun σ8 => (b2 (f_X7_addCorrection fu σ8 (k0 + 10) p1 p2) fun v18 σ18 => (b2 (f_X9_recorded fu σ18 k0 v18) fun v21 σ21 => (some (v21, σ21)))))
def f_X10_isOn_J34 (fu : Nat) (σ : gSt) (k0 : Nat) (p1 : Int32) (p2 : Int32) (x3 : Int32) : Option (Int32) :=
  (if x3 = p1 then (some 1) else (some 0))
def f_X10_isOn_L2 (fu : Nat) (σ : gSt) (k0 : Nat) (p1 : Int32) (p2 : Int32) (ag2 : Int32 → Option (Int32)) (x3 : Int32) : Option (Int32) :=
  (if x3 = p1 then (f_X10_isOn_J34 fu σ k0 p1 p2 x3) else ((rd 284 σ (k0 + 1) (260 + x3)).bind fun v16 => (if v16 < 0 then (f_X10_isOn_J34 fu σ k0 p1 p2 x3) else ((rd 284 σ (k0 + 1) (260 + x3)).bind fun v29 => (ag2 v29)))))
def f_X10_isOn_W2 (fu : Nat) (σ : gSt) (k0 : Nat) (p1 : Int32) (p2 : Int32) : Nat → Int32 → Option (Int32)
  | 0, _ => none
  | n + 1, x3 => f_X10_isOn_L2 fu σ k0 p1 p2 (f_X10_isOn_W2 fu σ k0 p1 p2 n) x3
theorem f_X10_isOn_W2_0 (fu : Nat) (σ : gSt) (k0 : Nat) (p1 : Int32) (p2 : Int32) (x3 : Int32) : f_X10_isOn_W2 fu σ k0 p1 p2 0 x3 = none := rfl
theorem f_X10_isOn_W2_s (fu : Nat) (σ : gSt) (k0 : Nat) (p1 : Int32) (p2 : Int32) (n : Nat) (x3 : Int32) : f_X10_isOn_W2 fu σ k0 p1 p2 (n + 1) x3 = f_X10_isOn_L2 fu σ k0 p1 p2 (f_X10_isOn_W2 fu σ k0 p1 p2 n) x3 := rfl
def f_X10_isOn (fu : Nat) (σ : gSt) (k0 : Nat) (p1 : Int32) (p2 : Int32) : Option (Int32) :=
  (f_X10_isOn_W2 fu σ k0 p1 p2 fu p2)
def f_X10_mayCorrect (fu : Nat) (σ : gSt) (k0 : Nat) (p1 : Int32) (p2 : Int32) : Option (Int32) :=
  ((f_X10_isTerm fu σ p1).bind fun v1 => (if v1 = 0 then (some (-1000001)) else ((f_X10_isTerm fu σ p2).bind fun v8 => (if v8 = 0 then (some (-1000001)) else (if p1 = p2 then (some (-1000001)) else ((f_X10_isOn fu σ k0 p1 p2).bind fun v27 => (if v27 = 0 then (some 0) else (some (-1000002)))))))))
def f_X10_shown_L2 (fu : Nat) (σ : gSt) (k0 : Nat) (p1 : Int32) (ag2 : Int32 → Option (Int32)) (x2 : Int32) : Option (Int32) :=
  ((rd 284 σ (k0 + 1) (260 + x2)).bind fun v11 => (if v11 < 0 then (some x2) else ((rd 284 σ (k0 + 1) (260 + x2)).bind fun v24 => (ag2 v24))))
def f_X10_shown_W2 (fu : Nat) (σ : gSt) (k0 : Nat) (p1 : Int32) : Nat → Int32 → Option (Int32)
  | 0, _ => none
  | n + 1, x2 => f_X10_shown_L2 fu σ k0 p1 (f_X10_shown_W2 fu σ k0 p1 n) x2
theorem f_X10_shown_W2_0 (fu : Nat) (σ : gSt) (k0 : Nat) (p1 : Int32) (x2 : Int32) : f_X10_shown_W2 fu σ k0 p1 0 x2 = none := rfl
theorem f_X10_shown_W2_s (fu : Nat) (σ : gSt) (k0 : Nat) (p1 : Int32) (n : Nat) (x2 : Int32) : f_X10_shown_W2 fu σ k0 p1 (n + 1) x2 = f_X10_shown_L2 fu σ k0 p1 (f_X10_shown_W2 fu σ k0 p1 n) x2 := rfl
def f_X10_shown (fu : Nat) (σ : gSt) (k0 : Nat) (p1 : Int32) : Option (Int32) :=
  (f_X10_shown_W2 fu σ k0 p1 fu p1)
def f_X10_turnsTo_J159 (fu : Nat) (k0 : Nat) (p1 : Int32) (p2 : Int32) (p3 : Int32) (x5 : Int32) (s3 : Int32) (s2 : Int32) (σ : gSt) : Option (Int32 × gSt) :=
  ((wr 284 σ (k0 + 1) s2 s3).bind fun σ159 => (some (x5, σ159)))
def f_X10_turnsTo_L74 (fu : Nat) (k0 : Nat) (p1 : Int32) (p2 : Int32) (p3 : Int32) (ag58 : Int32 → Int32 → Option (Int32 × gSt)) (σ : gSt) (x4 : Int32) (x6 : Int32) (ag74 : Int32 → Int32 → Option (Int32 × gSt)) (x5 : Int32) (x7 : Int32) : Option (Int32 × gSt) :=
  ((f_X10_of fu σ k0 x6 4).bind fun v80 => (if v80 ≤ x7 then (ag58 x5 (x6 + 1)) else ((f_X10_of fu σ k0 x6 (5 + x7)).bind fun v96 => ((f_X10_shown fu σ k0 v96).bind fun v99 => ((f_X10_of fu σ k0 x6 (5 + x7)).bind fun v113 => ((rd 16 σ (k0 + 6) v113).bind fun v116 => (lt ((if v99 = v116 then 0 else 1) : Int32) fun w117 => (ag74 (x5 + w117) (x7 + 1)))))))))
def f_X10_turnsTo_W74 (fu : Nat) (k0 : Nat) (p1 : Int32) (p2 : Int32) (p3 : Int32) (ag58 : Int32 → Int32 → Option (Int32 × gSt)) (σ : gSt) (x4 : Int32) (x6 : Int32) : Nat → Int32 → Int32 → Option (Int32 × gSt)
  | 0, _, _ => none
  | n + 1, x5, x7 => f_X10_turnsTo_L74 fu k0 p1 p2 p3 ag58 σ x4 x6 (f_X10_turnsTo_W74 fu k0 p1 p2 p3 ag58 σ x4 x6 n) x5 x7
theorem f_X10_turnsTo_W74_0 (fu : Nat) (k0 : Nat) (p1 : Int32) (p2 : Int32) (p3 : Int32) (ag58 : Int32 → Int32 → Option (Int32 × gSt)) (σ : gSt) (x4 : Int32) (x6 : Int32) (x5 : Int32) (x7 : Int32) : f_X10_turnsTo_W74 fu k0 p1 p2 p3 ag58 σ x4 x6 0 x5 x7 = none := rfl
theorem f_X10_turnsTo_W74_s (fu : Nat) (k0 : Nat) (p1 : Int32) (p2 : Int32) (p3 : Int32) (ag58 : Int32 → Int32 → Option (Int32 × gSt)) (σ : gSt) (x4 : Int32) (x6 : Int32) (n : Nat) (x5 : Int32) (x7 : Int32) : f_X10_turnsTo_W74 fu k0 p1 p2 p3 ag58 σ x4 x6 (n + 1) x5 x7 = f_X10_turnsTo_L74 fu k0 p1 p2 p3 ag58 σ x4 x6 (f_X10_turnsTo_W74 fu k0 p1 p2 p3 ag58 σ x4 x6 n) x5 x7 := rfl
def f_X10_turnsTo_L58 (fu : Nat) (k0 : Nat) (p1 : Int32) (p2 : Int32) (p3 : Int32) (σ : gSt) (x4 : Int32) (ag58 : Int32 → Int32 → Option (Int32 × gSt)) (x5 : Int32) (x6 : Int32) : Option (Int32 × gSt) :=
  (if (σ (k0 + 1) 282) ≤ x6 then (lt ((if p3 = 0 then x4 else p2) : Int32) fun w150 => (f_X10_turnsTo_J159 fu k0 p1 p2 p3 x5 w150 (260 + p1) σ)) else (f_X10_turnsTo_W74 fu k0 p1 p2 p3 ag58 σ x4 x6 fu x5 0))
def f_X10_turnsTo_W58 (fu : Nat) (k0 : Nat) (p1 : Int32) (p2 : Int32) (p3 : Int32) (σ : gSt) (x4 : Int32) : Nat → Int32 → Int32 → Option (Int32 × gSt)
  | 0, _, _ => none
  | n + 1, x5, x6 => f_X10_turnsTo_L58 fu k0 p1 p2 p3 σ x4 (f_X10_turnsTo_W58 fu k0 p1 p2 p3 σ x4 n) x5 x6
theorem f_X10_turnsTo_W58_0 (fu : Nat) (k0 : Nat) (p1 : Int32) (p2 : Int32) (p3 : Int32) (σ : gSt) (x4 : Int32) (x5 : Int32) (x6 : Int32) : f_X10_turnsTo_W58 fu k0 p1 p2 p3 σ x4 0 x5 x6 = none := rfl
theorem f_X10_turnsTo_W58_s (fu : Nat) (k0 : Nat) (p1 : Int32) (p2 : Int32) (p3 : Int32) (σ : gSt) (x4 : Int32) (n : Nat) (x5 : Int32) (x6 : Int32) : f_X10_turnsTo_W58 fu k0 p1 p2 p3 σ x4 (n + 1) x5 x6 = f_X10_turnsTo_L58 fu k0 p1 p2 p3 σ x4 (f_X10_turnsTo_W58 fu k0 p1 p2 p3 σ x4 n) x5 x6 := rfl
def f_X10_turnsTo_L15 (fu : Nat) (k0 : Nat) (p1 : Int32) (p2 : Int32) (p3 : Int32) (x4 : Int32) (ag15 : Int32 → gSt → Option (Int32 × gSt)) (x5 : Int32) (σ : gSt) : Option (Int32 × gSt) :=
  (if 16 ≤ x5 then ((wr 284 σ (k0 + 1) (260 + p1) p2).bind fun σ51 => (f_X10_turnsTo_W58 fu k0 p1 p2 p3 σ51 x4 fu 0 0)) else ((f_X10_shown fu σ k0 x5).bind fun v31 => ((wr 16 σ (k0 + 6) x5 v31).bind fun σ34 => (ag15 (x5 + 1) σ34))))
def f_X10_turnsTo_W15 (fu : Nat) (k0 : Nat) (p1 : Int32) (p2 : Int32) (p3 : Int32) (x4 : Int32) : Nat → Int32 → gSt → Option (Int32 × gSt)
  | 0, _, _ => none
  | n + 1, x5, σ => f_X10_turnsTo_L15 fu k0 p1 p2 p3 x4 (f_X10_turnsTo_W15 fu k0 p1 p2 p3 x4 n) x5 σ
theorem f_X10_turnsTo_W15_0 (fu : Nat) (k0 : Nat) (p1 : Int32) (p2 : Int32) (p3 : Int32) (x4 : Int32) (x5 : Int32) (σ : gSt) : f_X10_turnsTo_W15 fu k0 p1 p2 p3 x4 0 x5 σ = none := rfl
theorem f_X10_turnsTo_W15_s (fu : Nat) (k0 : Nat) (p1 : Int32) (p2 : Int32) (p3 : Int32) (x4 : Int32) (n : Nat) (x5 : Int32) (σ : gSt) : f_X10_turnsTo_W15 fu k0 p1 p2 p3 x4 (n + 1) x5 σ = f_X10_turnsTo_L15 fu k0 p1 p2 p3 x4 (f_X10_turnsTo_W15 fu k0 p1 p2 p3 x4 n) x5 σ := rfl
def f_X10_turnsTo (fu : Nat) (σ : gSt) (k0 : Nat) (p1 : Int32) (p2 : Int32) (p3 : Int32) : Option (Int32 × gSt) :=
  ((rd 284 σ (k0 + 1) (260 + p1)).bind fun v9 => (f_X10_turnsTo_W15 fu k0 p1 p2 p3 v9 fu 0 σ))
def f_X10_correct (fu : Nat) (σ : gSt) (k0 : Nat) (p1 : Int32) (p2 : Int32) : Option (Int32 × gSt) :=
  ((f_X10_mayCorrect fu σ k0 p1 p2).bind fun v3 => (if 0 ≤ v3 then ((f_X10_changes fu σ k0).bind fun σ14 => (b2 (f_X10_turnsTo fu σ14 k0 p1 p2 1) fun v21 σ21 => (some (v21, σ21)))) else (some (v3, σ))))
def f_X7_dropCorrection (fu : Nat) (σ : gSt) (k0 : Nat) (p1 : Int32) : Option (Int32 × gSt) :=
  ((f_X0_isTerm fu σ p1).bind fun v1 => (if v1 = 0 then (some ((-1000001), σ)) else ((f_X0_isCorrected fu σ (k0 + 8) p1).bind fun v15 => (if v15 = 0 then (some ((-1000002), σ)) else ((f_X7_placesReshown fu σ k0 p1 p1).bind fun v27 => ((f_X0_put fu σ (k0 + 8) p1 (-1)).bind fun σ37 => (some (v27, σ37))))))))
def f_X9_uncorrect (fu : Nat) (σ : gSt) (k0 : Nat) (p1 : Int32) : Option (Int32 × gSt) :=
  ((f_X7_takeFrom fu σ (k0 + 22) (k0 + 10)).bind fun σ8 => (b2 (f_X7_dropCorrection fu σ8 (k0 + 10) p1) fun v17 σ17 => (b2 (f_X9_recorded fu σ17 k0 v17) fun v20 σ20 => (some (v20, σ20)))))
def f_X10_uncorrect (fu : Nat) (σ : gSt) (k0 : Nat) (p1 : Int32) : Option (Int32 × gSt) :=
  ((f_X10_isTerm fu σ p1).bind fun v1 => (if v1 = 0 then (some ((-1000001), σ)) else ((rd 284 σ (k0 + 1) (260 + p1)).bind fun v19 => (if 0 ≤ v19 then ((f_X10_changes fu σ k0).bind fun σ27 => (b2 (f_X10_turnsTo fu σ27 k0 p1 (-1) 1) fun v34 σ34 => (some (v34, σ34)))) else (some ((-1000002), σ))))))
def f_X4_lowestFree_L2 (fu : Nat) (σ : gSt) (k0 : Nat) (ag2 : Int32 → Option (Int32)) (x1 : Int32) : Option (Int32) :=
  (if 6 ≤ x1 then (some (-1)) else ((f_X4_has fu σ k0 x1).bind fun v10 => (if v10 = 0 then (some x1) else (ag2 (x1 + 1)))))
def f_X4_lowestFree_W2 (fu : Nat) (σ : gSt) (k0 : Nat) : Nat → Int32 → Option (Int32)
  | 0, _ => none
  | n + 1, x1 => f_X4_lowestFree_L2 fu σ k0 (f_X4_lowestFree_W2 fu σ k0 n) x1
theorem f_X4_lowestFree_W2_0 (fu : Nat) (σ : gSt) (k0 : Nat) (x1 : Int32) : f_X4_lowestFree_W2 fu σ k0 0 x1 = none := rfl
theorem f_X4_lowestFree_W2_s (fu : Nat) (σ : gSt) (k0 : Nat) (n : Nat) (x1 : Int32) : f_X4_lowestFree_W2 fu σ k0 (n + 1) x1 = f_X4_lowestFree_L2 fu σ k0 (f_X4_lowestFree_W2 fu σ k0 n) x1 := rfl
def f_X4_lowestFree (fu : Nat) (σ : gSt) (k0 : Nat) : Option (Int32) :=
  (f_X4_lowestFree_W2 fu σ k0 fu 0)
def f_X4_tune (fu : Nat) (σ : gSt) (k0 : Nat) (p1 : Int32) (p2 : Int32) : Option (gSt) :=
  ((f_X9_isWithin fu σ p1 0 5).bind fun v3 => (if v3 = 0 then (some σ) else ((wr 6 σ (k0 + 1) p1 p2).bind fun σ15 => (some σ15))))
def f_X7_addSpeaker (fu : Nat) (σ : gSt) (k0 : Nat) (p1 : Int32) : Option (Int32 × gSt) :=
  ((f_X7_isPitch fu σ p1).bind fun v1 => (if v1 = 0 then (some ((-1000001), σ)) else ((f_X4_lowestFree fu σ (k0 + 10)).bind fun v14 => (if v14 = (-1) then (some ((-1000003), σ)) else ((f_X4_tune fu σ (k0 + 10) v14 p1).bind fun σ32 => (some (v14, σ32)))))))
def f_X9_speaker (fu : Nat) (σ : gSt) (k0 : Nat) (p1 : Int32) : Option (Int32 × gSt) :=
  ((f_X7_takeFrom fu σ (k0 + 22) (k0 + 10)).bind fun σ8 => (b2 (f_X7_addSpeaker fu σ8 (k0 + 10) p1) fun v17 σ17 => (b2 (f_X9_recorded fu σ17 k0 v17) fun v20 σ20 => (some (v20, σ20)))))
def f_X10_speaker_J42 (fu : Nat) (k0 : Nat) (p1 : Int32) (x2 : Int32) (σ : gSt) : Option (Int32 × gSt) :=
  (if x2 = 6 then (some ((-1000003), σ)) else ((f_X10_changes fu σ k0).bind fun σ52 => ((wr 284 σ52 (k0 + 1) (276 + x2) p1).bind fun σ65 => (some (x2, σ65)))))
def f_X10_speaker_L17 (fu : Nat) (k0 : Nat) (p1 : Int32) (σ : gSt) (ag17 : Int32 → Option (Int32 × gSt)) (x2 : Int32) : Option (Int32 × gSt) :=
  (if 6 ≤ x2 then (f_X10_speaker_J42 fu k0 p1 x2 σ) else ((rd 284 σ (k0 + 1) (276 + x2)).bind fun v32 => (if v32 ≤ 0 then (f_X10_speaker_J42 fu k0 p1 x2 σ) else (ag17 (x2 + 1)))))
def f_X10_speaker_W17 (fu : Nat) (k0 : Nat) (p1 : Int32) (σ : gSt) : Nat → Int32 → Option (Int32 × gSt)
  | 0, _ => none
  | n + 1, x2 => f_X10_speaker_L17 fu k0 p1 σ (f_X10_speaker_W17 fu k0 p1 σ n) x2
theorem f_X10_speaker_W17_0 (fu : Nat) (k0 : Nat) (p1 : Int32) (σ : gSt) (x2 : Int32) : f_X10_speaker_W17 fu k0 p1 σ 0 x2 = none := rfl
theorem f_X10_speaker_W17_s (fu : Nat) (k0 : Nat) (p1 : Int32) (σ : gSt) (n : Nat) (x2 : Int32) : f_X10_speaker_W17 fu k0 p1 σ (n + 1) x2 = f_X10_speaker_L17 fu k0 p1 σ (f_X10_speaker_W17 fu k0 p1 σ n) x2 := rfl
def f_X10_speaker (fu : Nat) (σ : gSt) (k0 : Nat) (p1 : Int32) : Option (Int32 × gSt) :=
  ((f_X10_in fu σ p1 50 500).bind fun v6 => (if v6 = 0 then (some ((-1000001), σ)) else (f_X10_speaker_W17 fu k0 p1 σ fu 0)))
def f_X8_own (fu : Nat) (σ : gSt) (k0 : Nat) (p1 : Int32) (p2 : Int32) : Option (gSt) :=
  ((f_X8_has fu σ k0 p1).bind fun v2 => (if v2 = 0 then (some σ) else ((wr 20 σ (k0 + 4) p1 p2).bind fun σ14 => (some σ14))))
def f_X4_pitchOf (fu : Nat) (σ : gSt) (k0 : Nat) (p1 : Int32) : Option (Int32) :=
  ((f_X4_has fu σ k0 p1).bind fun v2 => (if v2 = 0 then (some 0) else ((rd 6 σ (k0 + 1) p1).bind fun v13 => (some v13))))
def f_X8_turnsOf_L4 (fu : Nat) (σ : gSt) (k0 : Nat) (p1 : Int32) (ag4 : Int32 → Int32 → Option (Int32)) (x2 : Int32) (x3 : Int32) : Option (Int32) :=
  (if (σ k0 6) ≤ x3 then (some x2) else (if 20 ≤ x3 then (some x2) else ((rd 20 σ (k0 + 4) x3).bind fun v23 => (if v23 = p1 then (ag4 (x2 + 1) (x3 + 1)) else (ag4 x2 (x3 + 1))))))
def f_X8_turnsOf_W4 (fu : Nat) (σ : gSt) (k0 : Nat) (p1 : Int32) : Nat → Int32 → Int32 → Option (Int32)
  | 0, _, _ => none
  | n + 1, x2, x3 => f_X8_turnsOf_L4 fu σ k0 p1 (f_X8_turnsOf_W4 fu σ k0 p1 n) x2 x3
theorem f_X8_turnsOf_W4_0 (fu : Nat) (σ : gSt) (k0 : Nat) (p1 : Int32) (x2 : Int32) (x3 : Int32) : f_X8_turnsOf_W4 fu σ k0 p1 0 x2 x3 = none := rfl
theorem f_X8_turnsOf_W4_s (fu : Nat) (σ : gSt) (k0 : Nat) (p1 : Int32) (n : Nat) (x2 : Int32) (x3 : Int32) : f_X8_turnsOf_W4 fu σ k0 p1 (n + 1) x2 x3 = f_X8_turnsOf_L4 fu σ k0 p1 (f_X8_turnsOf_W4 fu σ k0 p1 n) x2 x3 := rfl
def f_X8_turnsOf (fu : Nat) (σ : gSt) (k0 : Nat) (p1 : Int32) : Option (Int32) :=
  (f_X8_turnsOf_W4 fu σ k0 p1 fu 0 0)
def f_X8_sumOf_L5 (fu : Nat) (σ : gSt) (k0 : Nat) (k1 : Nat) (n1 : Nat) (p2 : Int32) (ag5 : Int32 → Int32 → Option (Int32)) (x3 : Int32) (x4 : Int32) : Option (Int32) :=
  (if (σ k0 6) ≤ x4 then (some x3) else (if 20 ≤ x4 then (some x3) else (if (Int32.ofNat n1) ≤ x4 then (some x3) else ((rd 20 σ (k0 + 4) x4).bind fun v34 => (if v34 = p2 then ((rd n1 σ k1 x4).bind fun v43 => (ag5 (x3 + v43) (x4 + 1))) else (ag5 x3 (x4 + 1)))))))
def f_X8_sumOf_W5 (fu : Nat) (σ : gSt) (k0 : Nat) (k1 : Nat) (n1 : Nat) (p2 : Int32) : Nat → Int32 → Int32 → Option (Int32)
  | 0, _, _ => none
  | n + 1, x3, x4 => f_X8_sumOf_L5 fu σ k0 k1 n1 p2 (f_X8_sumOf_W5 fu σ k0 k1 n1 p2 n) x3 x4
theorem f_X8_sumOf_W5_0 (fu : Nat) (σ : gSt) (k0 : Nat) (k1 : Nat) (n1 : Nat) (p2 : Int32) (x3 : Int32) (x4 : Int32) : f_X8_sumOf_W5 fu σ k0 k1 n1 p2 0 x3 x4 = none := rfl
theorem f_X8_sumOf_W5_s (fu : Nat) (σ : gSt) (k0 : Nat) (k1 : Nat) (n1 : Nat) (p2 : Int32) (n : Nat) (x3 : Int32) (x4 : Int32) : f_X8_sumOf_W5 fu σ k0 k1 n1 p2 (n + 1) x3 x4 = f_X8_sumOf_L5 fu σ k0 k1 n1 p2 (f_X8_sumOf_W5 fu σ k0 k1 n1 p2 n) x3 x4 := rfl
def f_X8_sumOf (fu : Nat) (σ : gSt) (k0 : Nat) (k1 : Nat) (n1 : Nat) (p2 : Int32) : Option (Int32) :=
  (f_X8_sumOf_W5 fu σ k0 k1 n1 p2 fu 0 0)
def f_X8_meanPitchOf (fu : Nat) (σ : gSt) (k0 : Nat) (p1 : Int32) (p2 : Int32) : Option (Int32) :=
  ((f_X8_turnsOf fu σ k0 p1).bind fun v2 => (if v2 ≤ 0 then (some p2) else ((f_X8_sumOf fu σ k0 (k0 + 3) 20 p1).bind fun v16 => ((dv v16 v2).bind fun v20 => (some v20)))))
def f_X7_giveTurn (fu : Nat) (σ : gSt) (k0 : Nat) (p1 : Int32) (p2 : Int32) : Option (Int32 × gSt) :=
  ((f_X8_has fu σ (k0 + 1) p1).bind fun v5 => (if v5 = 0 then (some ((-1000001), σ)) else ((f_X4_has fu σ (k0 + 10) p2).bind fun v16 => (if v16 = 0 then (some ((-1000001), σ)) else ((f_X8_ownerOf fu σ (k0 + 1) p1).bind fun v30 => (if v30 = p2 then (some ((-1000002), σ)) else ((f_X8_own fu σ (k0 + 1) p1 p2).bind fun σ46 => ((f_X4_pitchOf fu σ46 (k0 + 10) p2).bind fun v59 => ((f_X8_meanPitchOf fu σ46 (k0 + 1) p2 v59).bind fun v62 => ((f_X4_tune fu σ46 (k0 + 10) p2 v62).bind fun σ72 => (some (v62, σ72))))))))))))
def f_X9_give (fu : Nat) (σ : gSt) (k0 : Nat) (p1 : Int32) (p2 : Int32) : Option (Int32 × gSt) :=
  ((f_X7_takeFrom fu σ (k0 + 22) (k0 + 10)).bind fun σ8 => (b2 (f_X7_giveTurn fu σ8 (k0 + 10) p1 p2) fun v18 σ18 => (b2 (f_X9_recorded fu σ18 k0 v18) fun v21 σ21 => (some (v21, σ21)))))
def f_X10_isVoice (fu : Nat) (σ : gSt) (k0 : Nat) (p1 : Int32) : Option (Int32) :=
  ((f_X10_in fu σ p1 0 5).bind fun v3 => (if v3 = 0 then (some 0) else ((rd 284 σ (k0 + 1) (276 + p1)).bind fun v18 => (if v18 ≤ 0 then (some 0) else (some 1)))))
def f_X10_turnsOf_L4 (fu : Nat) (σ : gSt) (k0 : Nat) (p1 : Int32) (ag4 : Int32 → Int32 → Option (Int32)) (x2 : Int32) (x3 : Int32) : Option (Int32) :=
  (if (σ (k0 + 1) 282) ≤ x3 then (some x2) else ((f_X10_of fu σ k0 x3 3).bind fun v20 => (lt ((if v20 = p1 then 1 else 0) : Int32) fun w24 => (ag4 (x2 + w24) (x3 + 1)))))
def f_X10_turnsOf_W4 (fu : Nat) (σ : gSt) (k0 : Nat) (p1 : Int32) : Nat → Int32 → Int32 → Option (Int32)
  | 0, _, _ => none
  | n + 1, x2, x3 => f_X10_turnsOf_L4 fu σ k0 p1 (f_X10_turnsOf_W4 fu σ k0 p1 n) x2 x3
theorem f_X10_turnsOf_W4_0 (fu : Nat) (σ : gSt) (k0 : Nat) (p1 : Int32) (x2 : Int32) (x3 : Int32) : f_X10_turnsOf_W4 fu σ k0 p1 0 x2 x3 = none := rfl
theorem f_X10_turnsOf_W4_s (fu : Nat) (σ : gSt) (k0 : Nat) (p1 : Int32) (n : Nat) (x2 : Int32) (x3 : Int32) : f_X10_turnsOf_W4 fu σ k0 p1 (n + 1) x2 x3 = f_X10_turnsOf_L4 fu σ k0 p1 (f_X10_turnsOf_W4 fu σ k0 p1 n) x2 x3 := rfl
def f_X10_turnsOf (fu : Nat) (σ : gSt) (k0 : Nat) (p1 : Int32) : Option (Int32) :=
  (f_X10_turnsOf_W4 fu σ k0 p1 fu 0 0)
def f_X10_tunes_J80 (fu : Nat) (k0 : Nat) (p1 : Int32) (s3 : Int32) (s2 : Int32) (σ : gSt) : Option (gSt) :=
  ((wr 284 σ (k0 + 1) s2 s3).bind fun σ80 => (some σ80))
def f_X10_tunes_L4 (fu : Nat) (k0 : Nat) (p1 : Int32) (σ : gSt) (ag4 : Int32 → Int32 → Option (gSt)) (x2 : Int32) (x3 : Int32) : Option (gSt) :=
  (if (σ (k0 + 1) 282) ≤ x3 then ((f_X10_turnsOf fu σ k0 p1).bind fun v47 => (if v47 = 0 then ((rd 284 σ (k0 + 1) (276 + p1)).bind fun v73 => (f_X10_tunes_J80 fu k0 p1 v73 (276 + p1) σ)) else ((dv x2 v47).bind fun v79 => (f_X10_tunes_J80 fu k0 p1 v79 (276 + p1) σ)))) else ((f_X10_of fu σ k0 x3 3).bind fun v20 => (if v20 = p1 then ((f_X10_of fu σ k0 x3 2).bind fun v30 => (ag4 (x2 + v30) (x3 + 1))) else (ag4 (x2 + 0) (x3 + 1)))))
def f_X10_tunes_W4 (fu : Nat) (k0 : Nat) (p1 : Int32) (σ : gSt) : Nat → Int32 → Int32 → Option (gSt)
  | 0, _, _ => none
  | n + 1, x2, x3 => f_X10_tunes_L4 fu k0 p1 σ (f_X10_tunes_W4 fu k0 p1 σ n) x2 x3
theorem f_X10_tunes_W4_0 (fu : Nat) (k0 : Nat) (p1 : Int32) (σ : gSt) (x2 : Int32) (x3 : Int32) : f_X10_tunes_W4 fu k0 p1 σ 0 x2 x3 = none := rfl
theorem f_X10_tunes_W4_s (fu : Nat) (k0 : Nat) (p1 : Int32) (σ : gSt) (n : Nat) (x2 : Int32) (x3 : Int32) : f_X10_tunes_W4 fu k0 p1 σ (n + 1) x2 x3 = f_X10_tunes_L4 fu k0 p1 σ (f_X10_tunes_W4 fu k0 p1 σ n) x2 x3 := rfl
def f_X10_tunes (fu : Nat) (σ : gSt) (k0 : Nat) (p1 : Int32) : Option (gSt) :=
  (f_X10_tunes_W4 fu k0 p1 σ fu 0 0)
def f_X10_give (fu : Nat) (σ : gSt) (k0 : Nat) (p1 : Int32) (p2 : Int32) : Option (Int32 × gSt) :=
  ((f_X10_isTurn fu σ k0 p1).bind fun v2 => (if v2 = 0 then (some ((-1000001), σ)) else ((f_X10_isVoice fu σ k0 p2).bind fun v10 => (if v10 = 0 then (some ((-1000001), σ)) else ((f_X10_of fu σ k0 p1 3).bind fun v22 => (if v22 = p2 then (some ((-1000002), σ)) else ((f_X10_changes fu σ k0).bind fun σ33 => ((f_X10_sets fu σ33 k0 p1 3 p2).bind fun σ40 => ((f_X10_tunes fu σ40 k0 p2).bind fun σ45 => ((rd 284 σ45 (k0 + 1) (276 + p2)).bind fun v57 => (some (v57, σ45))))))))))))
def f_X8_passTurns_L2 (fu : Nat) (k0 : Nat) (p1 : Int32) (p2 : Int32) (ag2 : Int32 → gSt → Option (gSt)) (x3 : Int32) (σ : gSt) : Option (gSt) :=
  (if (σ k0 6) ≤ x3 then (some σ) else (if 20 ≤ x3 then (some σ) else ((rd 20 σ (k0 + 4) x3).bind fun v21 => (if v21 = p1 then ((wr 20 σ (k0 + 4) x3 p2).bind fun σ32 => (ag2 (x3 + 1) σ32)) else (ag2 (x3 + 1) σ)))))
def f_X8_passTurns_W2 (fu : Nat) (k0 : Nat) (p1 : Int32) (p2 : Int32) : Nat → Int32 → gSt → Option (gSt)
  | 0, _, _ => none
  | n + 1, x3, σ => f_X8_passTurns_L2 fu k0 p1 p2 (f_X8_passTurns_W2 fu k0 p1 p2 n) x3 σ
theorem f_X8_passTurns_W2_0 (fu : Nat) (k0 : Nat) (p1 : Int32) (p2 : Int32) (x3 : Int32) (σ : gSt) : f_X8_passTurns_W2 fu k0 p1 p2 0 x3 σ = none := rfl
theorem f_X8_passTurns_W2_s (fu : Nat) (k0 : Nat) (p1 : Int32) (p2 : Int32) (n : Nat) (x3 : Int32) (σ : gSt) : f_X8_passTurns_W2 fu k0 p1 p2 (n + 1) x3 σ = f_X8_passTurns_L2 fu k0 p1 p2 (f_X8_passTurns_W2 fu k0 p1 p2 n) x3 σ := rfl
def f_X8_passTurns (fu : Nat) (σ : gSt) (k0 : Nat) (p1 : Int32) (p2 : Int32) : Option (gSt) :=
  (f_X8_passTurns_W2 fu k0 p1 p2 fu 0 σ)
def f_X4_free (fu : Nat) (σ : gSt) (k0 : Nat) (p1 : Int32) : Option (gSt) :=
  ((f_X4_tune fu σ k0 p1 0).bind fun σ3 => (some σ3))
def f_X7_joinSpeakers (fu : Nat) (σ : gSt) (k0 : Nat) (p1 : Int32) (p2 : Int32) : Option (Int32 × gSt) :=
  ((f_X4_has fu σ (k0 + 10) p1).bind fun v5 => (if v5 = 0 then (some ((-1000001), σ)) else ((f_X4_has fu σ (k0 + 10) p2).bind fun v16 => (if v16 = 0 then (some ((-1000001), σ)) else (if p1 = p2 then (some ((-1000001), σ)) else ((f_X8_passTurns fu σ (k0 + 1) p1 p2).bind fun σ36 => ((f_X4_free fu σ36 (k0 + 10) p1).bind fun σ44 => ((f_X4_pitchOf fu σ44 (k0 + 10) p2).bind fun v62 => ((f_X8_meanPitchOf fu σ44 (k0 + 1) p2 v62).bind fun v65 => ((f_X4_tune fu σ44 (k0 + 10) p2 v65).bind fun σ68 => ((f_X8_turnsOf fu σ68 (k0 + 1) p2).bind fun v76 => (some (v76, σ68)))))))))))))
def f_X9_join (fu : Nat) (σ : gSt) (k0 : Nat) (p1 : Int32) (p2 : Int32) : Option (Int32 × gSt) :=
  ((f_X7_takeFrom fu σ (k0 + 22) (k0 + 10)).bind fun σ8 => (b2 (f_X7_joinSpeakers fu σ8 (k0 + 10) p1 p2) fun v18 σ18 => (b2 (f_X9_recorded fu σ18 k0 v18) fun v21 σ21 => (some (v21, σ21)))))
def f_X10_join_J65 (fu : Nat) (k0 : Nat) (p1 : Int32) (p2 : Int32) (ag30 : Int32 → gSt → Option (Int32 × gSt)) (x3 : Int32) (s4 : Int32) (s3 : Int32) (s2 : Int32) (σ : gSt) : Option (Int32 × gSt) :=
  ((f_X10_sets fu σ k0 s2 s3 s4).bind fun σ65 => (ag30 (x3 + 1) σ65))
def f_X10_join_L30 (fu : Nat) (k0 : Nat) (p1 : Int32) (p2 : Int32) (ag30 : Int32 → gSt → Option (Int32 × gSt)) (x3 : Int32) (σ : gSt) : Option (Int32 × gSt) :=
  (if (σ (k0 + 1) 282) ≤ x3 then ((wr 284 σ (k0 + 1) (276 + p1) 0).bind fun σ84 => ((f_X10_tunes fu σ84 k0 p2).bind fun σ87 => ((f_X10_turnsOf fu σ87 k0 p2).bind fun v92 => (some (v92, σ87))))) else ((f_X10_of fu σ k0 x3 3).bind fun v48 => (if v48 = p1 then (f_X10_join_J65 fu k0 p1 p2 ag30 x3 p2 3 x3 σ) else ((f_X10_of fu σ k0 x3 3).bind fun v62 => (f_X10_join_J65 fu k0 p1 p2 ag30 x3 v62 3 x3 σ)))))
def f_X10_join_W30 (fu : Nat) (k0 : Nat) (p1 : Int32) (p2 : Int32) : Nat → Int32 → gSt → Option (Int32 × gSt)
  | 0, _, _ => none
  | n + 1, x3, σ => f_X10_join_L30 fu k0 p1 p2 (f_X10_join_W30 fu k0 p1 p2 n) x3 σ
theorem f_X10_join_W30_0 (fu : Nat) (k0 : Nat) (p1 : Int32) (p2 : Int32) (x3 : Int32) (σ : gSt) : f_X10_join_W30 fu k0 p1 p2 0 x3 σ = none := rfl
theorem f_X10_join_W30_s (fu : Nat) (k0 : Nat) (p1 : Int32) (p2 : Int32) (n : Nat) (x3 : Int32) (σ : gSt) : f_X10_join_W30 fu k0 p1 p2 (n + 1) x3 σ = f_X10_join_L30 fu k0 p1 p2 (f_X10_join_W30 fu k0 p1 p2 n) x3 σ := rfl
def f_X10_join (fu : Nat) (σ : gSt) (k0 : Nat) (p1 : Int32) (p2 : Int32) : Option (Int32 × gSt) :=
  ((f_X10_isVoice fu σ k0 p1).bind fun v2 => (if v2 = 0 then (some ((-1000001), σ)) else ((f_X10_isVoice fu σ k0 p2).bind fun v10 => (if v10 = 0 then (some ((-1000001), σ)) else (if p1 = p2 then (some ((-1000001), σ)) else ((f_X10_changes fu σ k0).bind fun σ25 => (f_X10_join_W30 fu k0 p1 p2 fu 0 σ25)))))))
def f_X7_changeSetting (fu : Nat) (σ : gSt) (k0 : Nat) (p1 : Int32) (p2 : Int32) : Option (Int32 × gSt) :=
  (if p1 = 0 then ((f_X9_isWithin fu σ p2 0 200).bind fun v9 => (if v9 = 0 then (some ((-1000001), σ)) else (lt (gu σ k0 (upd (σ k0) 3 p2)) fun σ25 => (some ((σ k0 3), σ25))))) else (some ((-1000001), σ)))
def f_X9_set (fu : Nat) (σ : gSt) (k0 : Nat) (p1 : Int32) (p2 : Int32) : Option (Int32 × gSt) :=
  ((f_X7_takeFrom fu σ (k0 + 22) (k0 + 10)).bind fun σ8 => (b2 (f_X7_changeSetting fu σ8 (k0 + 10) p1 p2) fun v18 σ18 => (b2 (f_X9_recorded fu σ18 k0 v18) fun v21 σ21 => (some (v21, σ21)))))
def f_X10_set (fu : Nat) (σ : gSt) (k0 : Nat) (p1 : Int32) (p2 : Int32) : Option (Int32 × gSt) :=
  (if p1 = 0 then ((f_X10_in fu σ p2 0 200).bind fun v9 => (if v9 = 0 then (some ((-1000001), σ)) else ((f_X10_changes fu σ k0).bind fun σ19 => ((wr 284 σ19 (k0 + 1) 283 p2).bind fun σ39 => (some ((σ19 (k0 + 1) 283), σ39)))))) else (some ((-1000001), σ)))
def f_X5_orNotFound (fu : Nat) (σ : gSt) (p0 : Int32) : Option (Int32) :=
  (if p0 = (-1) then (some (-1000004)) else (some p0))
def f_X8_overlap (fu : Nat) (σ : gSt) (k0 : Nat) (p1 : Int32) (p2 : Int32) : Option (Int32) :=
  (if p1 = p2 then (some 0) else ((f_X8_beginOf fu σ k0 p1).bind fun v7 => ((f_X8_endOf fu σ k0 p2).bind fun v12 => (if v12 ≤ v7 then (some 0) else ((f_X8_beginOf fu σ k0 p2).bind fun v20 => ((f_X8_endOf fu σ k0 p1).bind fun v25 => (if v25 ≤ v20 then (some 0) else (some 1))))))))
def f_X8_overlapping_L4 (fu : Nat) (σ : gSt) (k0 : Nat) (p1 : Int32) (ag4 : Int32 → Int32 → Option (Int32)) (x2 : Int32) (x3 : Int32) : Option (Int32) :=
  (if (σ k0 6) ≤ x3 then (some x2) else ((f_X8_overlap fu σ k0 p1 x3).bind fun v15 => (if v15 = 0 then (ag4 x2 (x3 + 1)) else (lt ((x2 ||| (1 <<< (x3 &&& 31))) : Int32) fun y26 => (ag4 y26 (x3 + 1))))))
def f_X8_overlapping_W4 (fu : Nat) (σ : gSt) (k0 : Nat) (p1 : Int32) : Nat → Int32 → Int32 → Option (Int32)
  | 0, _, _ => none
  | n + 1, x2, x3 => f_X8_overlapping_L4 fu σ k0 p1 (f_X8_overlapping_W4 fu σ k0 p1 n) x2 x3
theorem f_X8_overlapping_W4_0 (fu : Nat) (σ : gSt) (k0 : Nat) (p1 : Int32) (x2 : Int32) (x3 : Int32) : f_X8_overlapping_W4 fu σ k0 p1 0 x2 x3 = none := rfl
theorem f_X8_overlapping_W4_s (fu : Nat) (σ : gSt) (k0 : Nat) (p1 : Int32) (n : Nat) (x2 : Int32) (x3 : Int32) : f_X8_overlapping_W4 fu σ k0 p1 (n + 1) x2 x3 = f_X8_overlapping_L4 fu σ k0 p1 (f_X8_overlapping_W4 fu σ k0 p1 n) x2 x3 := rfl
def f_X8_overlapping (fu : Nat) (σ : gSt) (k0 : Nat) (p1 : Int32) : Option (Int32) :=
  (f_X8_overlapping_W4 fu σ k0 p1 fu 0 0)
def f_X8_interrupt (fu : Nat) (σ : gSt) (k0 : Nat) (p1 : Int32) (p2 : Int32) : Option (Int32) :=
  ((f_X8_beginOf fu σ k0 p1).bind fun v2 => ((f_X8_beginOf fu σ k0 p2).bind fun v7 => (if v2 ≤ v7 then (some 0) else ((f_X8_beginOf fu σ k0 p1).bind fun v15 => ((f_X8_endOf fu σ k0 p2).bind fun v20 => (if v20 ≤ v15 then (some 0) else ((f_X8_ownerOf fu σ k0 p1).bind fun v28 => (if v28 = (-1) then (some 0) else ((f_X8_ownerOf fu σ k0 p2).bind fun v37 => (if v37 = (-1) then (some 0) else ((f_X8_ownerOf fu σ k0 p1).bind fun v46 => ((f_X8_ownerOf fu σ k0 p2).bind fun v51 => (if v46 = v51 then (some 0) else (some 1))))))))))))))
def f_X8_interruptedBy_L4 (fu : Nat) (σ : gSt) (k0 : Nat) (p1 : Int32) (ag4 : Int32 → Int32 → Option (Int32)) (x2 : Int32) (x3 : Int32) : Option (Int32) :=
  (if (σ k0 6) ≤ x3 then (some x2) else ((f_X8_interrupt fu σ k0 p1 x3).bind fun v15 => (if v15 = 0 then (ag4 x2 (x3 + 1)) else (lt ((x2 ||| (1 <<< (x3 &&& 31))) : Int32) fun y26 => (ag4 y26 (x3 + 1))))))
def f_X8_interruptedBy_W4 (fu : Nat) (σ : gSt) (k0 : Nat) (p1 : Int32) : Nat → Int32 → Int32 → Option (Int32)
  | 0, _, _ => none
  | n + 1, x2, x3 => f_X8_interruptedBy_L4 fu σ k0 p1 (f_X8_interruptedBy_W4 fu σ k0 p1 n) x2 x3
theorem f_X8_interruptedBy_W4_0 (fu : Nat) (σ : gSt) (k0 : Nat) (p1 : Int32) (x2 : Int32) (x3 : Int32) : f_X8_interruptedBy_W4 fu σ k0 p1 0 x2 x3 = none := rfl
theorem f_X8_interruptedBy_W4_s (fu : Nat) (σ : gSt) (k0 : Nat) (p1 : Int32) (n : Nat) (x2 : Int32) (x3 : Int32) : f_X8_interruptedBy_W4 fu σ k0 p1 (n + 1) x2 x3 = f_X8_interruptedBy_L4 fu σ k0 p1 (f_X8_interruptedBy_W4 fu σ k0 p1 n) x2 x3 := rfl
def f_X8_interruptedBy (fu : Nat) (σ : gSt) (k0 : Nat) (p1 : Int32) : Option (Int32) :=
  (f_X8_interruptedBy_W4 fu σ k0 p1 fu 0 0)
def f_X8_secondsAlone_L11 (fu : Nat) (σ : gSt) (k0 : Nat) (p1 : Int32) (ag11 : Int32 → Int32 → Int32 → Option (Int32)) (x2 : Int32) (x3 : Int32) (x4 : Int32) : Option (Int32) :=
  (if (σ k0 6) ≤ x4 then ((f_X8_endOf fu σ k0 p1).bind fun v70 => ((f_J9_max_7cf53 fu σ 0 (v70 - x2)).bind fun v75 => (some (x3 + v75)))) else (if x4 = p1 then (ag11 x2 x3 (x4 + 1)) else ((f_X8_beginOf fu σ k0 x4).bind fun v31 => ((f_X8_endOf fu σ k0 p1).bind fun v36 => ((f_J9_min_7cf53 fu σ v31 v36).bind fun v39 => ((f_J9_max_7cf53 fu σ 0 (v39 - x2)).bind fun v44 => ((f_X8_endOf fu σ k0 x4).bind fun v53 => ((f_J9_max_7cf53 fu σ x2 v53).bind fun v56 => (ag11 v56 (x3 + v44) (x4 + 1))))))))))
def f_X8_secondsAlone_W11 (fu : Nat) (σ : gSt) (k0 : Nat) (p1 : Int32) : Nat → Int32 → Int32 → Int32 → Option (Int32)
  | 0, _, _, _ => none
  | n + 1, x2, x3, x4 => f_X8_secondsAlone_L11 fu σ k0 p1 (f_X8_secondsAlone_W11 fu σ k0 p1 n) x2 x3 x4
theorem f_X8_secondsAlone_W11_0 (fu : Nat) (σ : gSt) (k0 : Nat) (p1 : Int32) (x2 : Int32) (x3 : Int32) (x4 : Int32) : f_X8_secondsAlone_W11 fu σ k0 p1 0 x2 x3 x4 = none := rfl
theorem f_X8_secondsAlone_W11_s (fu : Nat) (σ : gSt) (k0 : Nat) (p1 : Int32) (n : Nat) (x2 : Int32) (x3 : Int32) (x4 : Int32) : f_X8_secondsAlone_W11 fu σ k0 p1 (n + 1) x2 x3 x4 = f_X8_secondsAlone_L11 fu σ k0 p1 (f_X8_secondsAlone_W11 fu σ k0 p1 n) x2 x3 x4 := rfl
def f_X8_secondsAlone (fu : Nat) (σ : gSt) (k0 : Nat) (p1 : Int32) : Option (Int32) :=
  ((f_X8_beginOf fu σ k0 p1).bind fun v2 => (f_X8_secondsAlone_W11 fu σ k0 p1 fu v2 0 0))
def f_X5_ofTurn (fu : Nat) (σ : gSt) (k0 : Nat) (p1 : Int32) (p2 : Int32) : Option (Int32) :=
  ((f_X8_has fu σ (k0 + 10) p1).bind fun v5 => (if v5 = 0 then (some (-1000001)) else (if p2 = 0 then ((f_X8_beginOf fu σ (k0 + 10) p1).bind fun v65 => (some v65)) else (if p2 = 1 then ((f_X8_endOf fu σ (k0 + 10) p1).bind fun v74 => (some v74)) else (if p2 = 2 then ((f_X8_pitchOf fu σ (k0 + 10) p1).bind fun v83 => (some v83)) else (if p2 = 3 then ((f_X8_ownerOf fu σ (k0 + 10) p1).bind fun v92 => ((f_X5_orNotFound fu σ v92).bind fun v95 => (some v95))) else (if p2 = 4 then ((f_X8_termCountOf fu σ (k0 + 10) p1).bind fun v104 => (some v104)) else (if p2 = 5 then ((f_X8_overlapping fu σ (k0 + 10) p1).bind fun v113 => (some v113)) else (if p2 = 6 then ((f_X8_interruptedBy fu σ (k0 + 10) p1).bind fun v122 => (some v122)) else (if p2 = 7 then ((f_X8_secondsAlone fu σ (k0 + 10) p1).bind fun v131 => (some v131)) else (some (-1000001))))))))))))
def f_X9_turnOf (fu : Nat) (σ : gSt) (k0 : Nat) (p1 : Int32) (p2 : Int32) : Option (Int32) :=
  ((f_X5_ofTurn fu σ (k0 + 1) p1 p2).bind fun v6 => (some v6))
def f_X10_interrupt_J35 (fu : Nat) (σ : gSt) (k0 : Nat) (p1 : Int32) (p2 : Int32) (s1 : Int32) : Option (Int32) :=
  (if s1 = 0 then (some 0) else ((f_X10_of fu σ k0 p1 3).bind fun v43 => (if v43 < 0 then (some 0) else ((f_X10_of fu σ k0 p2 3).bind fun v52 => (if v52 < 0 then (some 0) else ((f_X10_of fu σ k0 p1 3).bind fun v61 => ((f_X10_of fu σ k0 p2 3).bind fun v67 => (if v61 = v67 then (some 0) else (some 1)))))))))
def f_X10_interrupt (fu : Nat) (σ : gSt) (k0 : Nat) (p1 : Int32) (p2 : Int32) : Option (Int32) :=
  ((f_X10_of fu σ k0 p1 0).bind fun v3 => ((f_X10_of fu σ k0 p2 0).bind fun v9 => (if v3 ≤ v9 then (f_X10_interrupt_J35 fu σ k0 p1 p2 0) else ((f_X10_of fu σ k0 p1 0).bind fun v18 => ((f_X10_of fu σ k0 p2 1).bind fun v24 => (lt ((if v24 ≤ v18 then 0 else 1) : Int32) fun w27 => (f_X10_interrupt_J35 fu σ k0 p1 p2 w27)))))))
def f_X10_overlap (fu : Nat) (σ : gSt) (k0 : Nat) (p1 : Int32) (p2 : Int32) : Option (Int32) :=
  (if p1 = p2 then (some 0) else ((f_X10_of fu σ k0 p1 0).bind fun v8 => ((f_X10_of fu σ k0 p2 1).bind fun v14 => (if v14 ≤ v8 then (some 0) else ((f_X10_of fu σ k0 p2 0).bind fun v23 => ((f_X10_of fu σ k0 p1 1).bind fun v29 => (if v29 ≤ v23 then (some 0) else (some 1))))))))
def f_X10_overlapping_L5 (fu : Nat) (σ : gSt) (k0 : Nat) (p1 : Int32) (p2 : Int32) (ag5 : Int32 → Int32 → Option (Int32)) (x3 : Int32) (x4 : Int32) : Option (Int32) :=
  (if (σ (k0 + 1) 282) ≤ x4 then (some x3) else (if p2 = 0 then ((f_X10_overlap fu σ k0 p1 x4).bind fun v40 => (lt ((if v40 = 0 then 0 else (1 <<< (x4 &&& 31))) : Int32) fun w43 => (ag5 (x3 ||| w43) (x4 + 1)))) else ((f_X10_interrupt fu σ k0 p1 x4).bind fun v27 => (lt ((if v27 = 0 then 0 else (1 <<< (x4 &&& 31))) : Int32) fun w30 => (ag5 (x3 ||| w30) (x4 + 1))))))
def f_X10_overlapping_W5 (fu : Nat) (σ : gSt) (k0 : Nat) (p1 : Int32) (p2 : Int32) : Nat → Int32 → Int32 → Option (Int32)
  | 0, _, _ => none
  | n + 1, x3, x4 => f_X10_overlapping_L5 fu σ k0 p1 p2 (f_X10_overlapping_W5 fu σ k0 p1 p2 n) x3 x4
theorem f_X10_overlapping_W5_0 (fu : Nat) (σ : gSt) (k0 : Nat) (p1 : Int32) (p2 : Int32) (x3 : Int32) (x4 : Int32) : f_X10_overlapping_W5 fu σ k0 p1 p2 0 x3 x4 = none := rfl
theorem f_X10_overlapping_W5_s (fu : Nat) (σ : gSt) (k0 : Nat) (p1 : Int32) (p2 : Int32) (n : Nat) (x3 : Int32) (x4 : Int32) : f_X10_overlapping_W5 fu σ k0 p1 p2 (n + 1) x3 x4 = f_X10_overlapping_L5 fu σ k0 p1 p2 (f_X10_overlapping_W5 fu σ k0 p1 p2 n) x3 x4 := rfl
def f_X10_overlapping (fu : Nat) (σ : gSt) (k0 : Nat) (p1 : Int32) (p2 : Int32) : Option (Int32) :=
  (f_X10_overlapping_W5 fu σ k0 p1 p2 fu 0 0)
def f_X10_goesOn (fu : Nat) (σ : gSt) (k0 : Nat) (p1 : Int32) (p2 : Int32) : Option (Int32) :=
  ((f_X10_of fu σ k0 p1 0).bind fun v3 => (if p2 < v3 then (some 0) else ((f_X10_of fu σ k0 p1 1).bind fun v14 => (if v14 ≤ p2 then (some 0) else (some 1)))))
def f_X10_going_L4 (fu : Nat) (σ : gSt) (k0 : Nat) (p1 : Int32) (ag4 : Int32 → Int32 → Option (Int32)) (x2 : Int32) (x3 : Int32) : Option (Int32) :=
  (if (σ (k0 + 1) 282) ≤ x3 then (some x2) else ((f_X10_goesOn fu σ k0 x3 p1).bind fun v20 => (lt ((if v20 = 0 then 0 else (1 <<< (x3 &&& 31))) : Int32) fun w23 => (ag4 (x2 ||| w23) (x3 + 1)))))
def f_X10_going_W4 (fu : Nat) (σ : gSt) (k0 : Nat) (p1 : Int32) : Nat → Int32 → Int32 → Option (Int32)
  | 0, _, _ => none
  | n + 1, x2, x3 => f_X10_going_L4 fu σ k0 p1 (f_X10_going_W4 fu σ k0 p1 n) x2 x3
theorem f_X10_going_W4_0 (fu : Nat) (σ : gSt) (k0 : Nat) (p1 : Int32) (x2 : Int32) (x3 : Int32) : f_X10_going_W4 fu σ k0 p1 0 x2 x3 = none := rfl
theorem f_X10_going_W4_s (fu : Nat) (σ : gSt) (k0 : Nat) (p1 : Int32) (n : Nat) (x2 : Int32) (x3 : Int32) : f_X10_going_W4 fu σ k0 p1 (n + 1) x2 x3 = f_X10_going_L4 fu σ k0 p1 (f_X10_going_W4 fu σ k0 p1 n) x2 x3 := rfl
def f_X10_going (fu : Nat) (σ : gSt) (k0 : Nat) (p1 : Int32) : Option (Int32) :=
  (f_X10_going_W4 fu σ k0 p1 fu 0 0)
def f_X10_alone_L9 (fu : Nat) (σ : gSt) (k0 : Nat) (p1 : Int32) (ag9 : Int32 → Int32 → Option (Int32)) (x2 : Int32) (x3 : Int32) : Option (Int32) :=
  ((f_X10_of fu σ k0 p1 1).bind fun v13 => (if v13 ≤ x3 then (some x2) else ((f_X10_going fu σ k0 x3).bind fun v22 => (lt ((if v22 = (1 <<< (p1 &&& 31)) then 1 else 0) : Int32) fun w28 => (ag9 (x2 + w28) (x3 + 1))))))
def f_X10_alone_W9 (fu : Nat) (σ : gSt) (k0 : Nat) (p1 : Int32) : Nat → Int32 → Int32 → Option (Int32)
  | 0, _, _ => none
  | n + 1, x2, x3 => f_X10_alone_L9 fu σ k0 p1 (f_X10_alone_W9 fu σ k0 p1 n) x2 x3
theorem f_X10_alone_W9_0 (fu : Nat) (σ : gSt) (k0 : Nat) (p1 : Int32) (x2 : Int32) (x3 : Int32) : f_X10_alone_W9 fu σ k0 p1 0 x2 x3 = none := rfl
theorem f_X10_alone_W9_s (fu : Nat) (σ : gSt) (k0 : Nat) (p1 : Int32) (n : Nat) (x2 : Int32) (x3 : Int32) : f_X10_alone_W9 fu σ k0 p1 (n + 1) x2 x3 = f_X10_alone_L9 fu σ k0 p1 (f_X10_alone_W9 fu σ k0 p1 n) x2 x3 := rfl
def f_X10_alone (fu : Nat) (σ : gSt) (k0 : Nat) (p1 : Int32) : Option (Int32) :=
  ((f_X10_of fu σ k0 p1 0).bind fun v5 => (f_X10_alone_W9 fu σ k0 p1 fu 0 v5))
def f_X10_turnOf_J100 (fu : Nat) (σ : gSt) (k0 : Nat) (p1 : Int32) (p2 : Int32) : Option (Int32) :=
  ((f_X10_of fu σ k0 p1 p2).bind fun v103 => (some v103))
def f_X10_turnOf_J90 (fu : Nat) (σ : gSt) (k0 : Nat) (p1 : Int32) (p2 : Int32) (s3 : Int32) (s2 : Int32) : Option (Int32) :=
  ((f_X10_overlapping fu σ k0 s2 s3).bind fun v90 => (some v90))
def f_X10_turnOf_J77 (fu : Nat) (σ : gSt) (k0 : Nat) (p1 : Int32) (p2 : Int32) : Option (Int32) :=
  (lt ((if p2 = 6 then 1 else 0) : Int32) fun w82 => (f_X10_turnOf_J90 fu σ k0 p1 p2 w82 p1))
def f_X10_turnOf (fu : Nat) (σ : gSt) (k0 : Nat) (p1 : Int32) (p2 : Int32) : Option (Int32) :=
  ((f_X10_isTurn fu σ k0 p1).bind fun v2 => (if v2 = 0 then (some (-1000001)) else ((f_X10_in fu σ p2 0 7).bind fun v12 => (if v12 = 0 then (some (-1000001)) else (if p2 = 3 then ((f_X10_of fu σ k0 p1 3).bind fun v59 => (if 0 ≤ v59 then ((f_X10_of fu σ k0 p1 3).bind fun v73 => (some v73)) else (some (-1000004)))) else (if p2 = 4 then (f_X10_turnOf_J100 fu σ k0 p1 p2) else (if p2 = 5 then (f_X10_turnOf_J77 fu σ k0 p1 p2) else (if p2 = 6 then (f_X10_turnOf_J77 fu σ k0 p1 p2) else (if p2 = 7 then ((f_X10_alone fu σ k0 p1).bind fun v96 => (some v96)) else (f_X10_turnOf_J100 fu σ k0 p1 p2))))))))))
def f_X5_ofPlace (fu : Nat) (σ : gSt) (k0 : Nat) (p1 : Int32) (p2 : Int32) (p3 : Int32) : Option (Int32) :=
  ((f_X8_has fu σ (k0 + 10) p1).bind fun v5 => (if v5 = 0 then (some (-1000001)) else (if p2 < 0 then (some (-1000001)) else ((f_X9_isWithin fu σ p3 0 1).bind fun v18 => (if v18 = 0 then (some (-1000001)) else ((f_X8_termCountOf fu σ (k0 + 10) p1).bind fun v33 => (if p2 < v33 then ((f_X8_toldTerm fu σ (k0 + 10) p1 p2).bind fun v48 => (if p3 = 0 then (some v48) else ((f_X0_shown fu σ (k0 + 17) v48).bind fun v68 => (some v68)))) else (some (-1000004)))))))))
def f_X9_termAt (fu : Nat) (σ : gSt) (k0 : Nat) (p1 : Int32) (p2 : Int32) (p3 : Int32) : Option (Int32) :=
  ((f_X5_ofPlace fu σ (k0 + 1) p1 p2 p3).bind fun v7 => (some v7))
def f_X10_termAt (fu : Nat) (σ : gSt) (k0 : Nat) (p1 : Int32) (p2 : Int32) (p3 : Int32) : Option (Int32) :=
  ((f_X10_isTurn fu σ k0 p1).bind fun v2 => (if v2 = 0 then (some (-1000001)) else (if p2 < 0 then (some (-1000001)) else ((f_X10_in fu σ p3 0 1).bind fun v15 => (if v15 = 0 then (some (-1000001)) else ((f_X10_of fu σ k0 p1 4).bind fun v28 => (if p2 < v28 then ((f_X10_of fu σ k0 p1 (5 + p2)).bind fun v42 => (if p3 = 0 then (some v42) else ((f_X10_shown fu σ k0 v42).bind fun v59 => (some v59)))) else (some (-1000004)))))))))
def f_X0_targetOf (fu : Nat) (σ : gSt) (k0 : Nat) (p1 : Int32) : Option (Int32) :=
  ((f_X0_isCorrected fu σ k0 p1).bind fun v2 => (if v2 = 0 then (some (-1)) else ((rd 16 σ (k0 + 1) p1).bind fun v13 => (some v13))))
def f_X0_chainOf_L4 (fu : Nat) (σ : gSt) (k0 : Nat) (p1 : Int32) (ag4 : Int32 → Int32 → Option (Int32)) (x2 : Int32) (x3 : Int32) : Option (Int32) :=
  (if 16 ≤ x3 then (some x3) else ((f_X0_isCorrected fu σ k0 x2).bind fun v12 => (if v12 = 0 then (some x3) else ((rd 16 σ (k0 + 1) x2).bind fun v23 => (ag4 v23 (x3 + 1))))))
def f_X0_chainOf_W4 (fu : Nat) (σ : gSt) (k0 : Nat) (p1 : Int32) : Nat → Int32 → Int32 → Option (Int32)
  | 0, _, _ => none
  | n + 1, x2, x3 => f_X0_chainOf_L4 fu σ k0 p1 (f_X0_chainOf_W4 fu σ k0 p1 n) x2 x3
theorem f_X0_chainOf_W4_0 (fu : Nat) (σ : gSt) (k0 : Nat) (p1 : Int32) (x2 : Int32) (x3 : Int32) : f_X0_chainOf_W4 fu σ k0 p1 0 x2 x3 = none := rfl
theorem f_X0_chainOf_W4_s (fu : Nat) (σ : gSt) (k0 : Nat) (p1 : Int32) (n : Nat) (x2 : Int32) (x3 : Int32) : f_X0_chainOf_W4 fu σ k0 p1 (n + 1) x2 x3 = f_X0_chainOf_L4 fu σ k0 p1 (f_X0_chainOf_W4 fu σ k0 p1 n) x2 x3 := rfl
def f_X0_chainOf (fu : Nat) (σ : gSt) (k0 : Nat) (p1 : Int32) : Option (Int32) :=
  (f_X0_chainOf_W4 fu σ k0 p1 fu p1 0)
def f_X5_placesShowing_L4 (fu : Nat) (σ : gSt) (k0 : Nat) (p1 : Int32) (ag4 : Int32 → Int32 → Option (Int32)) (x2 : Int32) (x3 : Int32) : Option (Int32) :=
  (if 16 ≤ x3 then (some x2) else ((f_X0_shown fu σ (k0 + 17) x3).bind fun v15 => (if v15 = p1 then ((f_X8_timesTold fu σ (k0 + 10) x3).bind fun v28 => (ag4 (x2 + v28) (x3 + 1))) else (ag4 x2 (x3 + 1)))))
def f_X5_placesShowing_W4 (fu : Nat) (σ : gSt) (k0 : Nat) (p1 : Int32) : Nat → Int32 → Int32 → Option (Int32)
  | 0, _, _ => none
  | n + 1, x2, x3 => f_X5_placesShowing_L4 fu σ k0 p1 (f_X5_placesShowing_W4 fu σ k0 p1 n) x2 x3
theorem f_X5_placesShowing_W4_0 (fu : Nat) (σ : gSt) (k0 : Nat) (p1 : Int32) (x2 : Int32) (x3 : Int32) : f_X5_placesShowing_W4 fu σ k0 p1 0 x2 x3 = none := rfl
theorem f_X5_placesShowing_W4_s (fu : Nat) (σ : gSt) (k0 : Nat) (p1 : Int32) (n : Nat) (x2 : Int32) (x3 : Int32) : f_X5_placesShowing_W4 fu σ k0 p1 (n + 1) x2 x3 = f_X5_placesShowing_L4 fu σ k0 p1 (f_X5_placesShowing_W4 fu σ k0 p1 n) x2 x3 := rfl
def f_X5_placesShowing (fu : Nat) (σ : gSt) (k0 : Nat) (p1 : Int32) : Option (Int32) :=
  (f_X5_placesShowing_W4 fu σ k0 p1 fu 0 0)
def f_X5_shownIn_L4 (fu : Nat) (σ : gSt) (k0 : Nat) (p1 : Int32) (ag4 : Int32 → Int32 → Option (Int32)) (x2 : Int32) (x3 : Int32) : Option (Int32) :=
  ((f_X8_termCountOf fu σ (k0 + 10) p1).bind fun v10 => (if v10 ≤ x3 then (some x2) else ((f_X8_toldTerm fu σ (k0 + 10) p1 x3).bind fun v28 => ((f_X0_shown fu σ (k0 + 17) v28).bind fun v31 => (lt ((x2 ||| (1 <<< (v31 &&& 31))) : Int32) fun y36 => (ag4 y36 (x3 + 1)))))))
def f_X5_shownIn_W4 (fu : Nat) (σ : gSt) (k0 : Nat) (p1 : Int32) : Nat → Int32 → Int32 → Option (Int32)
  | 0, _, _ => none
  | n + 1, x2, x3 => f_X5_shownIn_L4 fu σ k0 p1 (f_X5_shownIn_W4 fu σ k0 p1 n) x2 x3
theorem f_X5_shownIn_W4_0 (fu : Nat) (σ : gSt) (k0 : Nat) (p1 : Int32) (x2 : Int32) (x3 : Int32) : f_X5_shownIn_W4 fu σ k0 p1 0 x2 x3 = none := rfl
theorem f_X5_shownIn_W4_s (fu : Nat) (σ : gSt) (k0 : Nat) (p1 : Int32) (n : Nat) (x2 : Int32) (x3 : Int32) : f_X5_shownIn_W4 fu σ k0 p1 (n + 1) x2 x3 = f_X5_shownIn_L4 fu σ k0 p1 (f_X5_shownIn_W4 fu σ k0 p1 n) x2 x3 := rfl
def f_X5_shownIn (fu : Nat) (σ : gSt) (k0 : Nat) (p1 : Int32) : Option (Int32) :=
  (f_X5_shownIn_W4 fu σ k0 p1 fu 0 0)
def f_X5_isShownIn (fu : Nat) (σ : gSt) (k0 : Nat) (p1 : Int32) (p2 : Int32) : Option (Int32) :=
  ((f_X5_shownIn fu σ k0 p1).bind fun v2 => (if ((v2 >>> (p2 &&& 31)) &&& 1) = 1 then (some 1) else (some 0)))
def f_X5_turnsShowing_L4 (fu : Nat) (σ : gSt) (k0 : Nat) (p1 : Int32) (ag4 : Int32 → Int32 → Option (Int32)) (x2 : Int32) (x3 : Int32) : Option (Int32) :=
  ((f_X8_size fu σ (k0 + 10)).bind fun v9 => (if v9 ≤ x3 then (some x2) else ((f_X5_isShownIn fu σ k0 x3 p1).bind fun v18 => (if v18 = 0 then (ag4 x2 (x3 + 1)) else (lt ((x2 ||| (1 <<< (x3 &&& 31))) : Int32) fun y29 => (ag4 y29 (x3 + 1)))))))
def f_X5_turnsShowing_W4 (fu : Nat) (σ : gSt) (k0 : Nat) (p1 : Int32) : Nat → Int32 → Int32 → Option (Int32)
  | 0, _, _ => none
  | n + 1, x2, x3 => f_X5_turnsShowing_L4 fu σ k0 p1 (f_X5_turnsShowing_W4 fu σ k0 p1 n) x2 x3
theorem f_X5_turnsShowing_W4_0 (fu : Nat) (σ : gSt) (k0 : Nat) (p1 : Int32) (x2 : Int32) (x3 : Int32) : f_X5_turnsShowing_W4 fu σ k0 p1 0 x2 x3 = none := rfl
theorem f_X5_turnsShowing_W4_s (fu : Nat) (σ : gSt) (k0 : Nat) (p1 : Int32) (n : Nat) (x2 : Int32) (x3 : Int32) : f_X5_turnsShowing_W4 fu σ k0 p1 (n + 1) x2 x3 = f_X5_turnsShowing_L4 fu σ k0 p1 (f_X5_turnsShowing_W4 fu σ k0 p1 n) x2 x3 := rfl
def f_X5_turnsShowing (fu : Nat) (σ : gSt) (k0 : Nat) (p1 : Int32) : Option (Int32) :=
  (f_X5_turnsShowing_W4 fu σ k0 p1 fu 0 0)
def f_X5_speakersShowing_L4 (fu : Nat) (σ : gSt) (k0 : Nat) (p1 : Int32) (ag4 : Int32 → Int32 → Option (Int32)) (x2 : Int32) (x3 : Int32) : Option (Int32) :=
  ((f_X8_size fu σ (k0 + 10)).bind fun v9 => (if v9 ≤ x3 then (some x2) else ((f_X8_ownerOf fu σ (k0 + 10) x3).bind fun v20 => (if v20 = (-1) then (ag4 x2 (x3 + 1)) else ((f_X5_isShownIn fu σ k0 x3 p1).bind fun v30 => (if v30 = 0 then (ag4 x2 (x3 + 1)) else ((f_X8_ownerOf fu σ (k0 + 10) x3).bind fun v43 => (lt ((x2 ||| (1 <<< (v43 &&& 31))) : Int32) fun y48 => (ag4 y48 (x3 + 1))))))))))
def f_X5_speakersShowing_W4 (fu : Nat) (σ : gSt) (k0 : Nat) (p1 : Int32) : Nat → Int32 → Int32 → Option (Int32)
  | 0, _, _ => none
  | n + 1, x2, x3 => f_X5_speakersShowing_L4 fu σ k0 p1 (f_X5_speakersShowing_W4 fu σ k0 p1 n) x2 x3
theorem f_X5_speakersShowing_W4_0 (fu : Nat) (σ : gSt) (k0 : Nat) (p1 : Int32) (x2 : Int32) (x3 : Int32) : f_X5_speakersShowing_W4 fu σ k0 p1 0 x2 x3 = none := rfl
theorem f_X5_speakersShowing_W4_s (fu : Nat) (σ : gSt) (k0 : Nat) (p1 : Int32) (n : Nat) (x2 : Int32) (x3 : Int32) : f_X5_speakersShowing_W4 fu σ k0 p1 (n + 1) x2 x3 = f_X5_speakersShowing_L4 fu σ k0 p1 (f_X5_speakersShowing_W4 fu σ k0 p1 n) x2 x3 := rfl
def f_X5_speakersShowing (fu : Nat) (σ : gSt) (k0 : Nat) (p1 : Int32) : Option (Int32) :=
  (f_X5_speakersShowing_W4 fu σ k0 p1 fu 0 0)
def f_X0_shownAs_L4 (fu : Nat) (σ : gSt) (k0 : Nat) (p1 : Int32) (ag4 : Int32 → Int32 → Option (Int32)) (x2 : Int32) (x3 : Int32) : Option (Int32) :=
  (if 16 ≤ x3 then (some x2) else ((f_X0_shown fu σ k0 x3).bind fun v12 => (if v12 = p1 then (lt ((x2 ||| (1 <<< (x3 &&& 31))) : Int32) fun y24 => (ag4 y24 (x3 + 1))) else (ag4 x2 (x3 + 1)))))
def f_X0_shownAs_W4 (fu : Nat) (σ : gSt) (k0 : Nat) (p1 : Int32) : Nat → Int32 → Int32 → Option (Int32)
  | 0, _, _ => none
  | n + 1, x2, x3 => f_X0_shownAs_L4 fu σ k0 p1 (f_X0_shownAs_W4 fu σ k0 p1 n) x2 x3
theorem f_X0_shownAs_W4_0 (fu : Nat) (σ : gSt) (k0 : Nat) (p1 : Int32) (x2 : Int32) (x3 : Int32) : f_X0_shownAs_W4 fu σ k0 p1 0 x2 x3 = none := rfl
theorem f_X0_shownAs_W4_s (fu : Nat) (σ : gSt) (k0 : Nat) (p1 : Int32) (n : Nat) (x2 : Int32) (x3 : Int32) : f_X0_shownAs_W4 fu σ k0 p1 (n + 1) x2 x3 = f_X0_shownAs_L4 fu σ k0 p1 (f_X0_shownAs_W4 fu σ k0 p1 n) x2 x3 := rfl
def f_X0_shownAs (fu : Nat) (σ : gSt) (k0 : Nat) (p1 : Int32) : Option (Int32) :=
  (f_X0_shownAs_W4 fu σ k0 p1 fu 0 0)
def f_X5_ofTerm (fu : Nat) (σ : gSt) (k0 : Nat) (p1 : Int32) (p2 : Int32) : Option (Int32) :=
  ((f_X0_isTerm fu σ p1).bind fun v1 => (if v1 = 0 then (some (-1000001)) else (if p2 = 0 then ((f_X0_targetOf fu σ (k0 + 17) p1).bind fun v57 => ((f_X5_orNotFound fu σ v57).bind fun v60 => (some v60))) else (if p2 = 1 then ((f_X0_shown fu σ (k0 + 17) p1).bind fun v69 => (some v69)) else (if p2 = 2 then ((f_X0_chainOf fu σ (k0 + 17) p1).bind fun v78 => (some v78)) else (if p2 = 3 then ((f_X5_placesShowing fu σ k0 p1).bind fun v84 => (some v84)) else (if p2 = 4 then ((f_X5_turnsShowing fu σ k0 p1).bind fun v90 => (some v90)) else (if p2 = 5 then ((f_X5_speakersShowing fu σ k0 p1).bind fun v96 => (some v96)) else (if p2 = 6 then ((f_X0_shownAs fu σ (k0 + 17) p1).bind fun v105 => (some v105)) else (some (-1000001)))))))))))
def f_X9_termOf (fu : Nat) (σ : gSt) (k0 : Nat) (p1 : Int32) (p2 : Int32) : Option (Int32) :=
  ((f_X5_ofTerm fu σ (k0 + 1) p1 p2).bind fun v6 => (some v6))
def f_X10_chain_L4 (fu : Nat) (σ : gSt) (k0 : Nat) (p1 : Int32) (ag4 : Int32 → Int32 → Option (Int32)) (x2 : Int32) (x3 : Int32) : Option (Int32) :=
  ((rd 284 σ (k0 + 1) (260 + x3)).bind fun v13 => (if v13 < 0 then (some x2) else ((rd 284 σ (k0 + 1) (260 + x3)).bind fun v29 => (ag4 (x2 + 1) v29))))
def f_X10_chain_W4 (fu : Nat) (σ : gSt) (k0 : Nat) (p1 : Int32) : Nat → Int32 → Int32 → Option (Int32)
  | 0, _, _ => none
  | n + 1, x2, x3 => f_X10_chain_L4 fu σ k0 p1 (f_X10_chain_W4 fu σ k0 p1 n) x2 x3
theorem f_X10_chain_W4_0 (fu : Nat) (σ : gSt) (k0 : Nat) (p1 : Int32) (x2 : Int32) (x3 : Int32) : f_X10_chain_W4 fu σ k0 p1 0 x2 x3 = none := rfl
theorem f_X10_chain_W4_s (fu : Nat) (σ : gSt) (k0 : Nat) (p1 : Int32) (n : Nat) (x2 : Int32) (x3 : Int32) : f_X10_chain_W4 fu σ k0 p1 (n + 1) x2 x3 = f_X10_chain_L4 fu σ k0 p1 (f_X10_chain_W4 fu σ k0 p1 n) x2 x3 := rfl
def f_X10_chain (fu : Nat) (σ : gSt) (k0 : Nat) (p1 : Int32) : Option (Int32) :=
  (f_X10_chain_W4 fu σ k0 p1 fu 0 p1)
def f_X10_shownAs_L4 (fu : Nat) (σ : gSt) (k0 : Nat) (p1 : Int32) (ag4 : Int32 → Int32 → Option (Int32)) (x2 : Int32) (x3 : Int32) : Option (Int32) :=
  (if 16 ≤ x3 then (some x2) else ((f_X10_shown fu σ k0 x3).bind fun v13 => (lt ((if v13 = p1 then (1 <<< (x3 &&& 31)) else 0) : Int32) fun w17 => (ag4 (x2 ||| w17) (x3 + 1)))))
def f_X10_shownAs_W4 (fu : Nat) (σ : gSt) (k0 : Nat) (p1 : Int32) : Nat → Int32 → Int32 → Option (Int32)
  | 0, _, _ => none
  | n + 1, x2, x3 => f_X10_shownAs_L4 fu σ k0 p1 (f_X10_shownAs_W4 fu σ k0 p1 n) x2 x3
theorem f_X10_shownAs_W4_0 (fu : Nat) (σ : gSt) (k0 : Nat) (p1 : Int32) (x2 : Int32) (x3 : Int32) : f_X10_shownAs_W4 fu σ k0 p1 0 x2 x3 = none := rfl
theorem f_X10_shownAs_W4_s (fu : Nat) (σ : gSt) (k0 : Nat) (p1 : Int32) (n : Nat) (x2 : Int32) (x3 : Int32) : f_X10_shownAs_W4 fu σ k0 p1 (n + 1) x2 x3 = f_X10_shownAs_L4 fu σ k0 p1 (f_X10_shownAs_W4 fu σ k0 p1 n) x2 x3 := rfl
def f_X10_shownAs (fu : Nat) (σ : gSt) (k0 : Nat) (p1 : Int32) : Option (Int32) :=
  (f_X10_shownAs_W4 fu σ k0 p1 fu 0 0)
def f_X10_shows_L5 (fu : Nat) (σ : gSt) (k0 : Nat) (p1 : Int32) (p2 : Int32) (ag5 : Int32 → Int32 → Option (Int32)) (x3 : Int32) (x4 : Int32) : Option (Int32) :=
  ((f_X10_of fu σ k0 p1 4).bind fun v10 => (if v10 ≤ x4 then (some x3) else ((f_X10_of fu σ k0 p1 (5 + x4)).bind fun v24 => ((f_X10_shown fu σ k0 v24).bind fun v27 => (lt ((if v27 = p2 then 1 else 0) : Int32) fun w31 => (ag5 (x3 + w31) (x4 + 1)))))))
def f_X10_shows_W5 (fu : Nat) (σ : gSt) (k0 : Nat) (p1 : Int32) (p2 : Int32) : Nat → Int32 → Int32 → Option (Int32)
  | 0, _, _ => none
  | n + 1, x3, x4 => f_X10_shows_L5 fu σ k0 p1 p2 (f_X10_shows_W5 fu σ k0 p1 p2 n) x3 x4
theorem f_X10_shows_W5_0 (fu : Nat) (σ : gSt) (k0 : Nat) (p1 : Int32) (p2 : Int32) (x3 : Int32) (x4 : Int32) : f_X10_shows_W5 fu σ k0 p1 p2 0 x3 x4 = none := rfl
theorem f_X10_shows_W5_s (fu : Nat) (σ : gSt) (k0 : Nat) (p1 : Int32) (p2 : Int32) (n : Nat) (x3 : Int32) (x4 : Int32) : f_X10_shows_W5 fu σ k0 p1 p2 (n + 1) x3 x4 = f_X10_shows_L5 fu σ k0 p1 p2 (f_X10_shows_W5 fu σ k0 p1 p2 n) x3 x4 := rfl
def f_X10_shows (fu : Nat) (σ : gSt) (k0 : Nat) (p1 : Int32) (p2 : Int32) : Option (Int32) :=
  (f_X10_shows_W5 fu σ k0 p1 p2 fu 0 0)
def f_X10_showing_J50 (fu : Nat) (σ : gSt) (k0 : Nat) (p1 : Int32) (p2 : Int32) (ag5 : Int32 → Int32 → Option (Int32)) (x3 : Int32) (x4 : Int32) (x5 : Int32) (s1 : Int32) : Option (Int32) :=
  (lt ((if p2 = 3 then (x3 + x5) else (if x5 = 0 then x3 else (if p2 = 4 then (x3 ||| (1 <<< (x4 &&& 31))) else (x3 ||| s1)))) : Int32) fun w54 => (ag5 w54 (x4 + 1)))
def f_X10_showing_L5 (fu : Nat) (σ : gSt) (k0 : Nat) (p1 : Int32) (p2 : Int32) (ag5 : Int32 → Int32 → Option (Int32)) (x3 : Int32) (x4 : Int32) : Option (Int32) :=
  (if (σ (k0 + 1) 282) ≤ x4 then (some x3) else ((f_X10_shows fu σ k0 x4 p1).bind fun v22 => ((f_X10_of fu σ k0 x4 3).bind fun v31 => (if v31 < 0 then (f_X10_showing_J50 fu σ k0 p1 p2 ag5 x3 x4 v22 0) else ((f_X10_of fu σ k0 x4 3).bind fun v42 => (f_X10_showing_J50 fu σ k0 p1 p2 ag5 x3 x4 v22 (1 <<< (v42 &&& 31))))))))
def f_X10_showing_W5 (fu : Nat) (σ : gSt) (k0 : Nat) (p1 : Int32) (p2 : Int32) : Nat → Int32 → Int32 → Option (Int32)
  | 0, _, _ => none
  | n + 1, x3, x4 => f_X10_showing_L5 fu σ k0 p1 p2 (f_X10_showing_W5 fu σ k0 p1 p2 n) x3 x4
theorem f_X10_showing_W5_0 (fu : Nat) (σ : gSt) (k0 : Nat) (p1 : Int32) (p2 : Int32) (x3 : Int32) (x4 : Int32) : f_X10_showing_W5 fu σ k0 p1 p2 0 x3 x4 = none := rfl
theorem f_X10_showing_W5_s (fu : Nat) (σ : gSt) (k0 : Nat) (p1 : Int32) (p2 : Int32) (n : Nat) (x3 : Int32) (x4 : Int32) : f_X10_showing_W5 fu σ k0 p1 p2 (n + 1) x3 x4 = f_X10_showing_L5 fu σ k0 p1 p2 (f_X10_showing_W5 fu σ k0 p1 p2 n) x3 x4 := rfl
def f_X10_showing (fu : Nat) (σ : gSt) (k0 : Nat) (p1 : Int32) (p2 : Int32) : Option (Int32) :=
  (f_X10_showing_W5 fu σ k0 p1 p2 fu 0 0)
def f_X10_termOf_J111 (fu : Nat) (σ : gSt) (k0 : Nat) (p1 : Int32) (p2 : Int32) : Option (Int32) :=
  ((f_X10_showing fu σ k0 p1 p2).bind fun v114 => (some v114))
def f_X10_termOf (fu : Nat) (σ : gSt) (k0 : Nat) (p1 : Int32) (p2 : Int32) : Option (Int32) :=
  ((f_X10_isTerm fu σ p1).bind fun v1 => (if v1 = 0 then (some (-1000001)) else ((f_X10_in fu σ p2 0 6).bind fun v11 => (if v11 = 0 then (some (-1000001)) else (if p2 = 0 then ((rd 284 σ (k0 + 1) (260 + p1)).bind fun v73 => (if 0 ≤ v73 then ((rd 284 σ (k0 + 1) (260 + p1)).bind fun v91 => (some v91)) else (some (-1000004)))) else (if p2 = 1 then ((f_X10_shown fu σ k0 p1).bind fun v95 => (some v95)) else (if p2 = 2 then ((f_X10_chain fu σ k0 p1).bind fun v101 => (some v101)) else (if p2 = 3 then (f_X10_termOf_J111 fu σ k0 p1 p2) else (if p2 = 4 then (f_X10_termOf_J111 fu σ k0 p1 p2) else (if p2 = 5 then (f_X10_termOf_J111 fu σ k0 p1 p2) else (if p2 = 6 then ((f_X10_shownAs fu σ k0 p1).bind fun v107 => (some v107)) else (f_X10_termOf_J111 fu σ k0 p1 p2))))))))))))
def f_X8_secondsOfAll (fu : Nat) (σ : gSt) (k0 : Nat) (p1 : Int32) : Option (Int32) :=
  ((f_X8_sumOf fu σ k0 (k0 + 2) 20 p1).bind fun v6 => ((f_X8_sumOf fu σ k0 (k0 + 1) 20 p1).bind fun v15 => (some (v6 - v15))))
def f_X5_termsShownBy_L4 (fu : Nat) (σ : gSt) (k0 : Nat) (p1 : Int32) (ag4 : Int32 → Int32 → Option (Int32)) (x2 : Int32) (x3 : Int32) : Option (Int32) :=
  ((f_X8_size fu σ (k0 + 10)).bind fun v9 => (if v9 ≤ x3 then (some x2) else ((f_X8_ownerOf fu σ (k0 + 10) x3).bind fun v20 => (if v20 = p1 then ((f_X5_shownIn fu σ k0 x3).bind fun v30 => (ag4 (x2 ||| v30) (x3 + 1))) else (ag4 x2 (x3 + 1))))))
def f_X5_termsShownBy_W4 (fu : Nat) (σ : gSt) (k0 : Nat) (p1 : Int32) : Nat → Int32 → Int32 → Option (Int32)
  | 0, _, _ => none
  | n + 1, x2, x3 => f_X5_termsShownBy_L4 fu σ k0 p1 (f_X5_termsShownBy_W4 fu σ k0 p1 n) x2 x3
theorem f_X5_termsShownBy_W4_0 (fu : Nat) (σ : gSt) (k0 : Nat) (p1 : Int32) (x2 : Int32) (x3 : Int32) : f_X5_termsShownBy_W4 fu σ k0 p1 0 x2 x3 = none := rfl
theorem f_X5_termsShownBy_W4_s (fu : Nat) (σ : gSt) (k0 : Nat) (p1 : Int32) (n : Nat) (x2 : Int32) (x3 : Int32) : f_X5_termsShownBy_W4 fu σ k0 p1 (n + 1) x2 x3 = f_X5_termsShownBy_L4 fu σ k0 p1 (f_X5_termsShownBy_W4 fu σ k0 p1 n) x2 x3 := rfl
def f_X5_termsShownBy (fu : Nat) (σ : gSt) (k0 : Nat) (p1 : Int32) : Option (Int32) :=
  (f_X5_termsShownBy_W4 fu σ k0 p1 fu 0 0)
def f_X8_interruptions_L17 (fu : Nat) (σ : gSt) (k0 : Nat) (p1 : Int32) (p2 : Int32) (ag5 : Int32 → Int32 → Option (Int32)) (x4 : Int32) (ag17 : Int32 → Int32 → Option (Int32)) (x3 : Int32) (x5 : Int32) : Option (Int32) :=
  (if (σ k0 6) ≤ x5 then (ag5 x3 (x4 + 1)) else ((f_X8_ownerOf fu σ k0 x4).bind fun v29 => (if v29 = p1 then ((f_X8_ownerOf fu σ k0 x5).bind fun v39 => (if v39 = p2 then ((f_X8_interrupt fu σ k0 x4 x5).bind fun v51 => (if v51 = 0 then (ag17 x3 (x5 + 1)) else (ag17 (x3 + 1) (x5 + 1)))) else (ag17 x3 (x5 + 1)))) else (ag17 x3 (x5 + 1)))))
def f_X8_interruptions_W17 (fu : Nat) (σ : gSt) (k0 : Nat) (p1 : Int32) (p2 : Int32) (ag5 : Int32 → Int32 → Option (Int32)) (x4 : Int32) : Nat → Int32 → Int32 → Option (Int32)
  | 0, _, _ => none
  | n + 1, x3, x5 => f_X8_interruptions_L17 fu σ k0 p1 p2 ag5 x4 (f_X8_interruptions_W17 fu σ k0 p1 p2 ag5 x4 n) x3 x5
theorem f_X8_interruptions_W17_0 (fu : Nat) (σ : gSt) (k0 : Nat) (p1 : Int32) (p2 : Int32) (ag5 : Int32 → Int32 → Option (Int32)) (x4 : Int32) (x3 : Int32) (x5 : Int32) : f_X8_interruptions_W17 fu σ k0 p1 p2 ag5 x4 0 x3 x5 = none := rfl
theorem f_X8_interruptions_W17_s (fu : Nat) (σ : gSt) (k0 : Nat) (p1 : Int32) (p2 : Int32) (ag5 : Int32 → Int32 → Option (Int32)) (x4 : Int32) (n : Nat) (x3 : Int32) (x5 : Int32) : f_X8_interruptions_W17 fu σ k0 p1 p2 ag5 x4 (n + 1) x3 x5 = f_X8_interruptions_L17 fu σ k0 p1 p2 ag5 x4 (f_X8_interruptions_W17 fu σ k0 p1 p2 ag5 x4 n) x3 x5 := rfl
def f_X8_interruptions_L5 (fu : Nat) (σ : gSt) (k0 : Nat) (p1 : Int32) (p2 : Int32) (ag5 : Int32 → Int32 → Option (Int32)) (x3 : Int32) (x4 : Int32) : Option (Int32) :=
  (if (σ k0 6) ≤ x4 then (some x3) else (f_X8_interruptions_W17 fu σ k0 p1 p2 ag5 x4 fu x3 0))
def f_X8_interruptions_W5 (fu : Nat) (σ : gSt) (k0 : Nat) (p1 : Int32) (p2 : Int32) : Nat → Int32 → Int32 → Option (Int32)
  | 0, _, _ => none
  | n + 1, x3, x4 => f_X8_interruptions_L5 fu σ k0 p1 p2 (f_X8_interruptions_W5 fu σ k0 p1 p2 n) x3 x4
theorem f_X8_interruptions_W5_0 (fu : Nat) (σ : gSt) (k0 : Nat) (p1 : Int32) (p2 : Int32) (x3 : Int32) (x4 : Int32) : f_X8_interruptions_W5 fu σ k0 p1 p2 0 x3 x4 = none := rfl
theorem f_X8_interruptions_W5_s (fu : Nat) (σ : gSt) (k0 : Nat) (p1 : Int32) (p2 : Int32) (n : Nat) (x3 : Int32) (x4 : Int32) : f_X8_interruptions_W5 fu σ k0 p1 p2 (n + 1) x3 x4 = f_X8_interruptions_L5 fu σ k0 p1 p2 (f_X8_interruptions_W5 fu σ k0 p1 p2 n) x3 x4 := rfl
def f_X8_interruptions (fu : Nat) (σ : gSt) (k0 : Nat) (p1 : Int32) (p2 : Int32) : Option (Int32) :=
  (f_X8_interruptions_W5 fu σ k0 p1 p2 fu 0 0)
def f_X5_interruptionsBy_L4 (fu : Nat) (σ : gSt) (k0 : Nat) (p1 : Int32) (ag4 : Int32 → Int32 → Option (Int32)) (x2 : Int32) (x3 : Int32) : Option (Int32) :=
  (if 6 ≤ x3 then (some x2) else ((f_X8_interruptions fu σ (k0 + 10) p1 x3).bind fun v17 => (ag4 (x2 + v17) (x3 + 1))))
def f_X5_interruptionsBy_W4 (fu : Nat) (σ : gSt) (k0 : Nat) (p1 : Int32) : Nat → Int32 → Int32 → Option (Int32)
  | 0, _, _ => none
  | n + 1, x2, x3 => f_X5_interruptionsBy_L4 fu σ k0 p1 (f_X5_interruptionsBy_W4 fu σ k0 p1 n) x2 x3
theorem f_X5_interruptionsBy_W4_0 (fu : Nat) (σ : gSt) (k0 : Nat) (p1 : Int32) (x2 : Int32) (x3 : Int32) : f_X5_interruptionsBy_W4 fu σ k0 p1 0 x2 x3 = none := rfl
theorem f_X5_interruptionsBy_W4_s (fu : Nat) (σ : gSt) (k0 : Nat) (p1 : Int32) (n : Nat) (x2 : Int32) (x3 : Int32) : f_X5_interruptionsBy_W4 fu σ k0 p1 (n + 1) x2 x3 = f_X5_interruptionsBy_L4 fu σ k0 p1 (f_X5_interruptionsBy_W4 fu σ k0 p1 n) x2 x3 := rfl
def f_X5_interruptionsBy (fu : Nat) (σ : gSt) (k0 : Nat) (p1 : Int32) : Option (Int32) :=
  (f_X5_interruptionsBy_W4 fu σ k0 p1 fu 0 0)
def f_X5_interruptionsOf_L4 (fu : Nat) (σ : gSt) (k0 : Nat) (p1 : Int32) (ag4 : Int32 → Int32 → Option (Int32)) (x2 : Int32) (x3 : Int32) : Option (Int32) :=
  (if 6 ≤ x3 then (some x2) else ((f_X8_interruptions fu σ (k0 + 10) x3 p1).bind fun v17 => (ag4 (x2 + v17) (x3 + 1))))
def f_X5_interruptionsOf_W4 (fu : Nat) (σ : gSt) (k0 : Nat) (p1 : Int32) : Nat → Int32 → Int32 → Option (Int32)
  | 0, _, _ => none
  | n + 1, x2, x3 => f_X5_interruptionsOf_L4 fu σ k0 p1 (f_X5_interruptionsOf_W4 fu σ k0 p1 n) x2 x3
theorem f_X5_interruptionsOf_W4_0 (fu : Nat) (σ : gSt) (k0 : Nat) (p1 : Int32) (x2 : Int32) (x3 : Int32) : f_X5_interruptionsOf_W4 fu σ k0 p1 0 x2 x3 = none := rfl
theorem f_X5_interruptionsOf_W4_s (fu : Nat) (σ : gSt) (k0 : Nat) (p1 : Int32) (n : Nat) (x2 : Int32) (x3 : Int32) : f_X5_interruptionsOf_W4 fu σ k0 p1 (n + 1) x2 x3 = f_X5_interruptionsOf_L4 fu σ k0 p1 (f_X5_interruptionsOf_W4 fu σ k0 p1 n) x2 x3 := rfl
def f_X5_interruptionsOf (fu : Nat) (σ : gSt) (k0 : Nat) (p1 : Int32) : Option (Int32) :=
  (f_X5_interruptionsOf_W4 fu σ k0 p1 fu 0 0)
def f_X8_termsOfAll (fu : Nat) (σ : gSt) (k0 : Nat) (p1 : Int32) : Option (Int32) :=
  ((f_X8_sumOf fu σ k0 (k0 + 5) 20 p1).bind fun v6 => (some v6))
def f_X5_bitsOf_J57 (fu : Nat) (σ : gSt) (p0 : UInt32) (x1 : UInt32) (x2 : Int32) : Option (Int32) :=
  ((fop (FP.fsub x1 FP.fconst1)).bind fun v63 => ((fop (FP.fmul v63 1258291200)).bind fun v66 => (some ((x2 <<< (23 &&& 31)) + (FP.f2i v66)))))
def f_X5_bitsOf_L36 (fu : Nat) (σ : gSt) (p0 : UInt32) (ag36 : UInt32 → Int32 → Option (Int32)) (x1 : UInt32) (x2 : Int32) : Option (Int32) :=
  (if x2 ≤ 1 then (f_X5_bitsOf_J57 fu σ p0 x1 x2) else (if 0 ≤ (Op.cmpValue (FP.fcmp x1 FP.fconst1) .g) then (f_X5_bitsOf_J57 fu σ p0 x1 x2) else ((fop (FP.fmul x1 FP.fconst2)).bind fun v49 => (ag36 v49 (x2 + (-1))))))
def f_X5_bitsOf_W36 (fu : Nat) (σ : gSt) (p0 : UInt32) : Nat → UInt32 → Int32 → Option (Int32)
  | 0, _, _ => none
  | n + 1, x1, x2 => f_X5_bitsOf_L36 fu σ p0 (f_X5_bitsOf_W36 fu σ p0 n) x1 x2
theorem f_X5_bitsOf_W36_0 (fu : Nat) (σ : gSt) (p0 : UInt32) (x1 : UInt32) (x2 : Int32) : f_X5_bitsOf_W36 fu σ p0 0 x1 x2 = none := rfl
theorem f_X5_bitsOf_W36_s (fu : Nat) (σ : gSt) (p0 : UInt32) (n : Nat) (x1 : UInt32) (x2 : Int32) : f_X5_bitsOf_W36 fu σ p0 (n + 1) x1 x2 = f_X5_bitsOf_L36 fu σ p0 (f_X5_bitsOf_W36 fu σ p0 n) x1 x2 := rfl
def f_X5_bitsOf_L13 (fu : Nat) (σ : gSt) (p0 : UInt32) (ag13 : UInt32 → Int32 → Option (Int32)) (x1 : UInt32) (x2 : Int32) : Option (Int32) :=
  (if 254 ≤ x2 then (f_X5_bitsOf_W36 fu σ p0 fu x1 x2) else (if (Op.cmpValue (FP.fcmp x1 FP.fconst2) .l) < 0 then (f_X5_bitsOf_W36 fu σ p0 fu x1 x2) else ((fop (FP.fdiv x1 FP.fconst2)).bind fun v28 => (ag13 v28 (x2 + 1)))))
def f_X5_bitsOf_W13 (fu : Nat) (σ : gSt) (p0 : UInt32) : Nat → UInt32 → Int32 → Option (Int32)
  | 0, _, _ => none
  | n + 1, x1, x2 => f_X5_bitsOf_L13 fu σ p0 (f_X5_bitsOf_W13 fu σ p0 n) x1 x2
theorem f_X5_bitsOf_W13_0 (fu : Nat) (σ : gSt) (p0 : UInt32) (x1 : UInt32) (x2 : Int32) : f_X5_bitsOf_W13 fu σ p0 0 x1 x2 = none := rfl
theorem f_X5_bitsOf_W13_s (fu : Nat) (σ : gSt) (p0 : UInt32) (n : Nat) (x1 : UInt32) (x2 : Int32) : f_X5_bitsOf_W13 fu σ p0 (n + 1) x1 x2 = f_X5_bitsOf_L13 fu σ p0 (f_X5_bitsOf_W13 fu σ p0 n) x1 x2 := rfl
def f_X5_bitsOf (fu : Nat) (σ : gSt) (p0 : UInt32) : Option (Int32) :=
  (if 0 < (Op.cmpValue (FP.fcmp p0 FP.fconst0) .g) then (f_X5_bitsOf_W13 fu σ p0 fu p0 127) else (some 0))
def f_X5_bitsOfTermsByMinute (fu : Nat) (σ : gSt) (k0 : Nat) (p1 : Int32) : Option (Int32) :=
  ((f_X8_secondsOfAll fu σ (k0 + 10) p1).bind fun v5 => (if 0 < v5 then ((f_X8_termsOfAll fu σ (k0 + 10) p1).bind fun v21 => ((fop (FP.fmul (FP.i2f v21) 1114636288)).bind fun v27 => ((fop (FP.fdiv v27 (FP.i2f v5))).bind fun v30 => ((f_X5_bitsOf fu σ v30).bind fun v31 => (some v31))))) else (some (-1000004))))
def f_X5_ofSpeaker (fu : Nat) (σ : gSt) (k0 : Nat) (p1 : Int32) (p2 : Int32) : Option (Int32) :=
  ((f_X4_has fu σ (k0 + 19) p1).bind fun v5 => (if v5 = 0 then (some (-1000001)) else (if p2 = 0 then ((f_X4_pitchOf fu σ (k0 + 19) p1).bind fun v61 => (some v61)) else (if p2 = 1 then ((f_X8_turnsOf fu σ (k0 + 10) p1).bind fun v70 => (some v70)) else (if p2 = 2 then ((f_X8_secondsOfAll fu σ (k0 + 10) p1).bind fun v79 => (some v79)) else (if p2 = 3 then ((f_X5_termsShownBy fu σ k0 p1).bind fun v85 => (some v85)) else (if p2 = 4 then ((f_X5_interruptionsBy fu σ k0 p1).bind fun v91 => (some v91)) else (if p2 = 5 then ((f_X5_interruptionsOf fu σ k0 p1).bind fun v97 => (some v97)) else (if p2 = 6 then ((f_X5_bitsOfTermsByMinute fu σ k0 p1).bind fun v103 => (some v103)) else (some (-1000001)))))))))))
def f_X9_speakerOf (fu : Nat) (σ : gSt) (k0 : Nat) (p1 : Int32) (p2 : Int32) : Option (Int32) :=
  ((f_X5_ofSpeaker fu σ (k0 + 1) p1 p2).bind fun v6 => (some v6))
def f_X10_secondsOf_L4 (fu : Nat) (σ : gSt) (k0 : Nat) (p1 : Int32) (ag4 : Int32 → Int32 → Option (Int32)) (x2 : Int32) (x3 : Int32) : Option (Int32) :=
  (if (σ (k0 + 1) 282) ≤ x3 then (some x2) else ((f_X10_of fu σ k0 x3 3).bind fun v20 => (if v20 = p1 then ((f_X10_of fu σ k0 x3 1).bind fun v30 => ((f_X10_of fu σ k0 x3 0).bind fun v36 => (ag4 (x2 + (v30 - v36)) (x3 + 1)))) else (ag4 (x2 + 0) (x3 + 1)))))
def f_X10_secondsOf_W4 (fu : Nat) (σ : gSt) (k0 : Nat) (p1 : Int32) : Nat → Int32 → Int32 → Option (Int32)
  | 0, _, _ => none
  | n + 1, x2, x3 => f_X10_secondsOf_L4 fu σ k0 p1 (f_X10_secondsOf_W4 fu σ k0 p1 n) x2 x3
theorem f_X10_secondsOf_W4_0 (fu : Nat) (σ : gSt) (k0 : Nat) (p1 : Int32) (x2 : Int32) (x3 : Int32) : f_X10_secondsOf_W4 fu σ k0 p1 0 x2 x3 = none := rfl
theorem f_X10_secondsOf_W4_s (fu : Nat) (σ : gSt) (k0 : Nat) (p1 : Int32) (n : Nat) (x2 : Int32) (x3 : Int32) : f_X10_secondsOf_W4 fu σ k0 p1 (n + 1) x2 x3 = f_X10_secondsOf_L4 fu σ k0 p1 (f_X10_secondsOf_W4 fu σ k0 p1 n) x2 x3 := rfl
def f_X10_secondsOf (fu : Nat) (σ : gSt) (k0 : Nat) (p1 : Int32) : Option (Int32) :=
  (f_X10_secondsOf_W4 fu σ k0 p1 fu 0 0)
def f_X10_termsOf_L50 (fu : Nat) (σ : gSt) (k0 : Nat) (p1 : Int32) (p2 : Int32) (ag5 : Int32 → Int32 → Option (Int32)) (x4 : Int32) (ag50 : Int32 → Int32 → Option (Int32)) (x3 : Int32) (x5 : Int32) : Option (Int32) :=
  ((f_X10_of fu σ k0 x4 4).bind fun v56 => (if v56 ≤ x5 then (ag5 x3 (x4 + 1)) else (if p2 = 0 then (ag5 x3 (x4 + 1)) else ((f_X10_of fu σ k0 x4 (5 + x5)).bind fun v76 => ((f_X10_shown fu σ k0 v76).bind fun v79 => (lt ((x3 ||| (1 <<< (v79 &&& 31))) : Int32) fun y84 => (ag50 y84 (x5 + 1))))))))
def f_X10_termsOf_W50 (fu : Nat) (σ : gSt) (k0 : Nat) (p1 : Int32) (p2 : Int32) (ag5 : Int32 → Int32 → Option (Int32)) (x4 : Int32) : Nat → Int32 → Int32 → Option (Int32)
  | 0, _, _ => none
  | n + 1, x3, x5 => f_X10_termsOf_L50 fu σ k0 p1 p2 ag5 x4 (f_X10_termsOf_W50 fu σ k0 p1 p2 ag5 x4 n) x3 x5
theorem f_X10_termsOf_W50_0 (fu : Nat) (σ : gSt) (k0 : Nat) (p1 : Int32) (p2 : Int32) (ag5 : Int32 → Int32 → Option (Int32)) (x4 : Int32) (x3 : Int32) (x5 : Int32) : f_X10_termsOf_W50 fu σ k0 p1 p2 ag5 x4 0 x3 x5 = none := rfl
theorem f_X10_termsOf_W50_s (fu : Nat) (σ : gSt) (k0 : Nat) (p1 : Int32) (p2 : Int32) (ag5 : Int32 → Int32 → Option (Int32)) (x4 : Int32) (n : Nat) (x3 : Int32) (x5 : Int32) : f_X10_termsOf_W50 fu σ k0 p1 p2 ag5 x4 (n + 1) x3 x5 = f_X10_termsOf_L50 fu σ k0 p1 p2 ag5 x4 (f_X10_termsOf_W50 fu σ k0 p1 p2 ag5 x4 n) x3 x5 := rfl
def f_X10_termsOf_J45 (fu : Nat) (σ : gSt) (k0 : Nat) (p1 : Int32) (p2 : Int32) (ag5 : Int32 → Int32 → Option (Int32)) (x4 : Int32) (s2 : Int32) (s1 : Int32) : Option (Int32) :=
  (f_X10_termsOf_W50 fu σ k0 p1 p2 ag5 x4 fu (s1 + s2) 0)
def f_X10_termsOf_L5 (fu : Nat) (σ : gSt) (k0 : Nat) (p1 : Int32) (p2 : Int32) (ag5 : Int32 → Int32 → Option (Int32)) (x3 : Int32) (x4 : Int32) : Option (Int32) :=
  (if (σ (k0 + 1) 282) ≤ x4 then (some x3) else ((f_X10_of fu σ k0 x4 3).bind fun v22 => (if v22 = p1 then (if p2 = 0 then ((f_X10_of fu σ k0 x4 4).bind fun v42 => (f_X10_termsOf_J45 fu σ k0 p1 p2 ag5 x4 v42 x3)) else (f_X10_termsOf_J45 fu σ k0 p1 p2 ag5 x4 0 x3)) else (ag5 x3 (x4 + 1)))))
def f_X10_termsOf_W5 (fu : Nat) (σ : gSt) (k0 : Nat) (p1 : Int32) (p2 : Int32) : Nat → Int32 → Int32 → Option (Int32)
  | 0, _, _ => none
  | n + 1, x3, x4 => f_X10_termsOf_L5 fu σ k0 p1 p2 (f_X10_termsOf_W5 fu σ k0 p1 p2 n) x3 x4
theorem f_X10_termsOf_W5_0 (fu : Nat) (σ : gSt) (k0 : Nat) (p1 : Int32) (p2 : Int32) (x3 : Int32) (x4 : Int32) : f_X10_termsOf_W5 fu σ k0 p1 p2 0 x3 x4 = none := rfl
theorem f_X10_termsOf_W5_s (fu : Nat) (σ : gSt) (k0 : Nat) (p1 : Int32) (p2 : Int32) (n : Nat) (x3 : Int32) (x4 : Int32) : f_X10_termsOf_W5 fu σ k0 p1 p2 (n + 1) x3 x4 = f_X10_termsOf_L5 fu σ k0 p1 p2 (f_X10_termsOf_W5 fu σ k0 p1 p2 n) x3 x4 := rfl
def f_X10_termsOf (fu : Nat) (σ : gSt) (k0 : Nat) (p1 : Int32) (p2 : Int32) : Option (Int32) :=
  (f_X10_termsOf_W5 fu σ k0 p1 p2 fu 0 0)
def f_X10_often_J69 (fu : Nat) (σ : gSt) (k0 : Nat) (p1 : Int32) (p2 : Int32) (ag5 : Int32 → Int32 → Option (Int32)) (ag21 : Int32 → Int32 → Option (Int32)) (x3 : Int32) (x4 : Int32) (x5 : Int32) (s1 : Int32) : Option (Int32) :=
  (if s1 = 0 then (ag21 (x3 + 0) (x5 + 1)) else ((f_X10_interrupt fu σ k0 x4 x5).bind fun v82 => (lt ((if v82 = 0 then 0 else 1) : Int32) fun w85 => (ag21 (x3 + w85) (x5 + 1)))))
def f_X10_often_J49 (fu : Nat) (σ : gSt) (k0 : Nat) (p1 : Int32) (p2 : Int32) (ag5 : Int32 → Int32 → Option (Int32)) (ag21 : Int32 → Int32 → Option (Int32)) (x3 : Int32) (x4 : Int32) (x5 : Int32) : Option (Int32) :=
  (if p2 < 0 then (f_X10_often_J69 fu σ k0 p1 p2 ag5 ag21 x3 x4 x5 1) else ((f_X10_of fu σ k0 x5 3).bind fun v57 => (lt ((if v57 = p2 then 1 else 0) : Int32) fun w61 => (f_X10_often_J69 fu σ k0 p1 p2 ag5 ag21 x3 x4 x5 w61))))
def f_X10_often_L21 (fu : Nat) (σ : gSt) (k0 : Nat) (p1 : Int32) (p2 : Int32) (ag5 : Int32 → Int32 → Option (Int32)) (x4 : Int32) (ag21 : Int32 → Int32 → Option (Int32)) (x3 : Int32) (x5 : Int32) : Option (Int32) :=
  (if (σ (k0 + 1) 282) ≤ x5 then (ag5 x3 (x4 + 1)) else (if p1 < 0 then (f_X10_often_J49 fu σ k0 p1 p2 ag5 ag21 x3 x4 x5) else ((f_X10_of fu σ k0 x4 3).bind fun v42 => (if v42 = p1 then (f_X10_often_J49 fu σ k0 p1 p2 ag5 ag21 x3 x4 x5) else (f_X10_often_J69 fu σ k0 p1 p2 ag5 ag21 x3 x4 x5 0)))))
def f_X10_often_W21 (fu : Nat) (σ : gSt) (k0 : Nat) (p1 : Int32) (p2 : Int32) (ag5 : Int32 → Int32 → Option (Int32)) (x4 : Int32) : Nat → Int32 → Int32 → Option (Int32)
  | 0, _, _ => none
  | n + 1, x3, x5 => f_X10_often_L21 fu σ k0 p1 p2 ag5 x4 (f_X10_often_W21 fu σ k0 p1 p2 ag5 x4 n) x3 x5
theorem f_X10_often_W21_0 (fu : Nat) (σ : gSt) (k0 : Nat) (p1 : Int32) (p2 : Int32) (ag5 : Int32 → Int32 → Option (Int32)) (x4 : Int32) (x3 : Int32) (x5 : Int32) : f_X10_often_W21 fu σ k0 p1 p2 ag5 x4 0 x3 x5 = none := rfl
theorem f_X10_often_W21_s (fu : Nat) (σ : gSt) (k0 : Nat) (p1 : Int32) (p2 : Int32) (ag5 : Int32 → Int32 → Option (Int32)) (x4 : Int32) (n : Nat) (x3 : Int32) (x5 : Int32) : f_X10_often_W21 fu σ k0 p1 p2 ag5 x4 (n + 1) x3 x5 = f_X10_often_L21 fu σ k0 p1 p2 ag5 x4 (f_X10_often_W21 fu σ k0 p1 p2 ag5 x4 n) x3 x5 := rfl
def f_X10_often_L5 (fu : Nat) (σ : gSt) (k0 : Nat) (p1 : Int32) (p2 : Int32) (ag5 : Int32 → Int32 → Option (Int32)) (x3 : Int32) (x4 : Int32) : Option (Int32) :=
  (if (σ (k0 + 1) 282) ≤ x4 then (some x3) else (f_X10_often_W21 fu σ k0 p1 p2 ag5 x4 fu x3 0))
def f_X10_often_W5 (fu : Nat) (σ : gSt) (k0 : Nat) (p1 : Int32) (p2 : Int32) : Nat → Int32 → Int32 → Option (Int32)
  | 0, _, _ => none
  | n + 1, x3, x4 => f_X10_often_L5 fu σ k0 p1 p2 (f_X10_often_W5 fu σ k0 p1 p2 n) x3 x4
theorem f_X10_often_W5_0 (fu : Nat) (σ : gSt) (k0 : Nat) (p1 : Int32) (p2 : Int32) (x3 : Int32) (x4 : Int32) : f_X10_often_W5 fu σ k0 p1 p2 0 x3 x4 = none := rfl
theorem f_X10_often_W5_s (fu : Nat) (σ : gSt) (k0 : Nat) (p1 : Int32) (p2 : Int32) (n : Nat) (x3 : Int32) (x4 : Int32) : f_X10_often_W5 fu σ k0 p1 p2 (n + 1) x3 x4 = f_X10_often_L5 fu σ k0 p1 p2 (f_X10_often_W5 fu σ k0 p1 p2 n) x3 x4 := rfl
def f_X10_often (fu : Nat) (σ : gSt) (k0 : Nat) (p1 : Int32) (p2 : Int32) : Option (Int32) :=
  (f_X10_often_W5 fu σ k0 p1 p2 fu 0 0)
def f_X10_byMinute_J25 (fu : Nat) (σ : gSt) (k0 : Nat) (p1 : Int32) (x2 : Int32) (s2 : Int32) (s1 : UInt32) : Option (Int32) :=
  ((fop (FP.fdiv s1 (FP.i2f s2))).bind fun v26 => (if x2 = 0 then (some (-1000004)) else ((f_Jxf58ca_floatToIntBits_5c35a fu σ v26).bind fun v38 => (some v38))))
def f_X10_byMinute (fu : Nat) (σ : gSt) (k0 : Nat) (p1 : Int32) : Option (Int32) :=
  ((f_X10_secondsOf fu σ k0 p1).bind fun v2 => ((f_X10_termsOf fu σ k0 p1 0).bind fun v9 => ((fop (FP.fmul (FP.i2f v9) 1114636288)).bind fun v15 => (lt ((if v2 = 0 then 1 else v2) : Int32) fun w17 => (f_X10_byMinute_J25 fu σ k0 p1 v2 w17 v15)))))
def f_X10_speakerOf (fu : Nat) (σ : gSt) (k0 : Nat) (p1 : Int32) (p2 : Int32) : Option (Int32) :=
  ((f_X10_isVoice fu σ k0 p1).bind fun v2 => (if v2 = 0 then (some (-1000001)) else ((f_X10_in fu σ p2 0 6).bind fun v12 => (if v12 = 0 then (some (-1000001)) else (if p2 = 0 then ((rd 284 σ (k0 + 1) (276 + p1)).bind fun v69 => (some v69)) else (if p2 = 1 then ((f_X10_turnsOf fu σ k0 p1).bind fun v73 => (some v73)) else (if p2 = 2 then ((f_X10_secondsOf fu σ k0 p1).bind fun v79 => (some v79)) else (if p2 = 3 then ((f_X10_termsOf fu σ k0 p1 1).bind fun v86 => (some v86)) else (if p2 = 4 then ((f_X10_often fu σ k0 p1 (-1)).bind fun v93 => (some v93)) else (if p2 = 5 then ((f_X10_often fu σ k0 (-1) p1).bind fun v100 => (some v100)) else ((f_X10_byMinute fu σ k0 p1).bind fun v106 => (some v106))))))))))))
def f_X8_goesOn (fu : Nat) (σ : gSt) (k0 : Nat) (p1 : Int32) (p2 : Int32) : Option (Int32) :=
  ((f_X8_beginOf fu σ k0 p1).bind fun v2 => (if p2 < v2 then (some 0) else ((f_X8_endOf fu σ k0 p1).bind fun v12 => (if v12 ≤ p2 then (some 0) else (some 1)))))
def f_X8_goingOn_L4 (fu : Nat) (σ : gSt) (k0 : Nat) (p1 : Int32) (ag4 : Int32 → Int32 → Option (Int32)) (x2 : Int32) (x3 : Int32) : Option (Int32) :=
  (if (σ k0 6) ≤ x3 then (some x2) else ((f_X8_goesOn fu σ k0 x3 p1).bind fun v15 => (if v15 = 0 then (ag4 x2 (x3 + 1)) else (lt ((x2 ||| (1 <<< (x3 &&& 31))) : Int32) fun y26 => (ag4 y26 (x3 + 1))))))
def f_X8_goingOn_W4 (fu : Nat) (σ : gSt) (k0 : Nat) (p1 : Int32) : Nat → Int32 → Int32 → Option (Int32)
  | 0, _, _ => none
  | n + 1, x2, x3 => f_X8_goingOn_L4 fu σ k0 p1 (f_X8_goingOn_W4 fu σ k0 p1 n) x2 x3
theorem f_X8_goingOn_W4_0 (fu : Nat) (σ : gSt) (k0 : Nat) (p1 : Int32) (x2 : Int32) (x3 : Int32) : f_X8_goingOn_W4 fu σ k0 p1 0 x2 x3 = none := rfl
theorem f_X8_goingOn_W4_s (fu : Nat) (σ : gSt) (k0 : Nat) (p1 : Int32) (n : Nat) (x2 : Int32) (x3 : Int32) : f_X8_goingOn_W4 fu σ k0 p1 (n + 1) x2 x3 = f_X8_goingOn_L4 fu σ k0 p1 (f_X8_goingOn_W4 fu σ k0 p1 n) x2 x3 := rfl
def f_X8_goingOn (fu : Nat) (σ : gSt) (k0 : Nat) (p1 : Int32) : Option (Int32) :=
  (f_X8_goingOn_W4 fu σ k0 p1 fu 0 0)
def f_X8_speakingAt_L4 (fu : Nat) (σ : gSt) (k0 : Nat) (p1 : Int32) (ag4 : Int32 → Int32 → Option (Int32)) (x2 : Int32) (x3 : Int32) : Option (Int32) :=
  (if (σ k0 6) ≤ x3 then (some x2) else ((f_X8_goesOn fu σ k0 x3 p1).bind fun v15 => (if v15 = 0 then (ag4 x2 (x3 + 1)) else ((f_X8_ownerOf fu σ k0 x3).bind fun v23 => (if v23 = (-1) then (ag4 x2 (x3 + 1)) else ((f_X8_ownerOf fu σ k0 x3).bind fun v34 => (lt ((x2 ||| (1 <<< (v34 &&& 31))) : Int32) fun y39 => (ag4 y39 (x3 + 1)))))))))
def f_X8_speakingAt_W4 (fu : Nat) (σ : gSt) (k0 : Nat) (p1 : Int32) : Nat → Int32 → Int32 → Option (Int32)
  | 0, _, _ => none
  | n + 1, x2, x3 => f_X8_speakingAt_L4 fu σ k0 p1 (f_X8_speakingAt_W4 fu σ k0 p1 n) x2 x3
theorem f_X8_speakingAt_W4_0 (fu : Nat) (σ : gSt) (k0 : Nat) (p1 : Int32) (x2 : Int32) (x3 : Int32) : f_X8_speakingAt_W4 fu σ k0 p1 0 x2 x3 = none := rfl
theorem f_X8_speakingAt_W4_s (fu : Nat) (σ : gSt) (k0 : Nat) (p1 : Int32) (n : Nat) (x2 : Int32) (x3 : Int32) : f_X8_speakingAt_W4 fu σ k0 p1 (n + 1) x2 x3 = f_X8_speakingAt_L4 fu σ k0 p1 (f_X8_speakingAt_W4 fu σ k0 p1 n) x2 x3 := rfl
def f_X8_speakingAt (fu : Nat) (σ : gSt) (k0 : Nat) (p1 : Int32) : Option (Int32) :=
  (f_X8_speakingAt_W4 fu σ k0 p1 fu 0 0)
def f_X5_ofSecond (fu : Nat) (σ : gSt) (k0 : Nat) (p1 : Int32) (p2 : Int32) : Option (Int32) :=
  ((f_X9_isWithin fu σ p1 0 1999).bind fun v5 => (if v5 = 0 then (some (-1000001)) else ((f_X9_isWithin fu σ p2 0 1).bind fun v14 => (if v14 = 0 then (some (-1000001)) else (if p2 = 0 then ((f_X8_goingOn fu σ (k0 + 10) p1).bind fun v32 => (some v32)) else ((f_X8_speakingAt fu σ (k0 + 10) p1).bind fun v43 => (some v43)))))))
def f_X9_during (fu : Nat) (σ : gSt) (k0 : Nat) (p1 : Int32) (p2 : Int32) : Option (Int32) :=
  ((f_X5_ofSecond fu σ (k0 + 1) p1 p2).bind fun v6 => (some v6))
def f_X10_voices_L4 (fu : Nat) (σ : gSt) (k0 : Nat) (p1 : Int32) (ag4 : Int32 → Int32 → Option (Int32)) (x2 : Int32) (x3 : Int32) : Option (Int32) :=
  (if (σ (k0 + 1) 282) ≤ x3 then (some x2) else (if ((p1 >>> (x3 &&& 31)) &&& 1) = 1 then ((f_X10_of fu σ k0 x3 3).bind fun v29 => (if v29 < 0 then (ag4 (x2 ||| 0) (x3 + 1)) else ((f_X10_of fu σ k0 x3 3).bind fun v39 => (lt ((x2 ||| (1 <<< (v39 &&& 31))) : Int32) fun y48 => (ag4 y48 (x3 + 1)))))) else (ag4 (x2 ||| 0) (x3 + 1))))
def f_X10_voices_W4 (fu : Nat) (σ : gSt) (k0 : Nat) (p1 : Int32) : Nat → Int32 → Int32 → Option (Int32)
  | 0, _, _ => none
  | n + 1, x2, x3 => f_X10_voices_L4 fu σ k0 p1 (f_X10_voices_W4 fu σ k0 p1 n) x2 x3
theorem f_X10_voices_W4_0 (fu : Nat) (σ : gSt) (k0 : Nat) (p1 : Int32) (x2 : Int32) (x3 : Int32) : f_X10_voices_W4 fu σ k0 p1 0 x2 x3 = none := rfl
theorem f_X10_voices_W4_s (fu : Nat) (σ : gSt) (k0 : Nat) (p1 : Int32) (n : Nat) (x2 : Int32) (x3 : Int32) : f_X10_voices_W4 fu σ k0 p1 (n + 1) x2 x3 = f_X10_voices_L4 fu σ k0 p1 (f_X10_voices_W4 fu σ k0 p1 n) x2 x3 := rfl
def f_X10_voices (fu : Nat) (σ : gSt) (k0 : Nat) (p1 : Int32) : Option (Int32) :=
  (f_X10_voices_W4 fu σ k0 p1 fu 0 0)
def f_X10_during (fu : Nat) (σ : gSt) (k0 : Nat) (p1 : Int32) (p2 : Int32) : Option (Int32) :=
  ((f_X10_in fu σ p1 0 1999).bind fun v5 => (if v5 = 0 then (some (-1000001)) else ((f_X10_in fu σ p2 0 1).bind fun v14 => (if v14 = 0 then (some (-1000001)) else (if p2 = 0 then ((f_X10_going fu σ k0 p1).bind fun v29 => (some v29)) else ((f_X10_going fu σ k0 p1).bind fun v38 => ((f_X10_voices fu σ k0 v38).bind fun v41 => (some v41))))))))
def f_X5_ofInterruptions (fu : Nat) (σ : gSt) (k0 : Nat) (p1 : Int32) (p2 : Int32) : Option (Int32) :=
  ((f_X4_has fu σ (k0 + 19) p1).bind fun v5 => (if v5 = 0 then (some (-1000001)) else ((f_X4_has fu σ (k0 + 19) p2).bind fun v16 => (if v16 = 0 then (some (-1000001)) else (if p1 = p2 then (some (-1000001)) else ((f_X8_interruptions fu σ (k0 + 10) p1 p2).bind fun v36 => (some v36)))))))
def f_X9_interrupts (fu : Nat) (σ : gSt) (k0 : Nat) (p1 : Int32) (p2 : Int32) : Option (Int32) :=
  ((f_X5_ofInterruptions fu σ (k0 + 1) p1 p2).bind fun v6 => (some v6))
def f_X10_interrupts (fu : Nat) (σ : gSt) (k0 : Nat) (p1 : Int32) (p2 : Int32) : Option (Int32) :=
  ((f_X10_isVoice fu σ k0 p1).bind fun v2 => (if v2 = 0 then (some (-1000001)) else ((f_X10_isVoice fu σ k0 p2).bind fun v10 => (if v10 = 0 then (some (-1000001)) else (if p1 = p2 then (some (-1000001)) else ((f_X10_often fu σ k0 p1 p2).bind fun v24 => (some v24)))))))
def f_X5_ofPitch (fu : Nat) (σ : gSt) (k0 : Nat) (p1 : Int32) : Option (Int32) :=
  ((f_X7_isPitch fu σ p1).bind fun v1 => (if v1 = 0 then (some (-1000001)) else ((f_X7_closestSpeaker fu σ (k0 + 9) p1).bind fun v15 => ((f_X5_orNotFound fu σ v15).bind fun v18 => (some v18)))))
def f_X9_nearest (fu : Nat) (σ : gSt) (k0 : Nat) (p1 : Int32) : Option (Int32) :=
  ((f_X5_ofPitch fu σ (k0 + 1) p1).bind fun v5 => (some v5))
def f_X10_nearest (fu : Nat) (σ : gSt) (k0 : Nat) (p1 : Int32) : Option (Int32) :=
  ((f_X10_in fu σ p1 50 500).bind fun v6 => (if v6 = 0 then (some (-1000001)) else ((f_X10_voiceFor fu σ k0 p1).bind fun v17 => (if 0 ≤ v17 then ((f_X10_voiceFor fu σ k0 p1).bind fun v30 => (some v30)) else (some (-1000004))))))
def f_X5_ofCorrection (fu : Nat) (σ : gSt) (k0 : Nat) (p1 : Int32) (p2 : Int32) : Option (Int32) :=
  ((f_X0_errorOf fu σ (k0 + 17) p1 p2).bind fun v6 => (if v6 = 0 then ((f_X0_shown fu σ (k0 + 17) p2).bind fun v28 => ((f_X7_placesReshown fu σ (k0 + 9) p1 v28).bind fun v31 => (some v31))) else (some v6)))
def f_X9_would (fu : Nat) (σ : gSt) (k0 : Nat) (p1 : Int32) (p2 : Int32) : Option (Int32) :=
  ((f_X5_ofCorrection fu σ (k0 + 1) p1 p2).bind fun v6 => (some v6))
def f_X10_would (fu : Nat) (σ : gSt) (k0 : Nat) (p1 : Int32) (p2 : Int32) : Option (Int32 × gSt) :=
  ((f_X10_mayCorrect fu σ k0 p1 p2).bind fun v3 => (if 0 ≤ v3 then (b2 (f_X10_turnsTo fu σ k0 p1 p2 0) fun v19 σ19 => (some (v19, σ19))) else (some (v3, σ))))
def f_X5_noteShownSets_L2 (fu : Nat) (k0 : Nat) (ag2 : Int32 → gSt → Option (gSt)) (x1 : Int32) (σ : gSt) : Option (gSt) :=
  ((f_X8_size fu σ (k0 + 10)).bind fun v7 => (if v7 ≤ x1 then (some σ) else (if 20 ≤ x1 then (some σ) else ((f_X5_shownIn fu σ k0 x1).bind fun v26 => ((wr 20 σ (k0 + 1) x1 v26).bind fun σ29 => (ag2 (x1 + 1) σ29))))))
def f_X5_noteShownSets_W2 (fu : Nat) (k0 : Nat) : Nat → Int32 → gSt → Option (gSt)
  | 0, _, _ => none
  | n + 1, x1, σ => f_X5_noteShownSets_L2 fu k0 (f_X5_noteShownSets_W2 fu k0 n) x1 σ
theorem f_X5_noteShownSets_W2_0 (fu : Nat) (k0 : Nat) (x1 : Int32) (σ : gSt) : f_X5_noteShownSets_W2 fu k0 0 x1 σ = none := rfl
theorem f_X5_noteShownSets_W2_s (fu : Nat) (k0 : Nat) (n : Nat) (x1 : Int32) (σ : gSt) : f_X5_noteShownSets_W2 fu k0 (n + 1) x1 σ = f_X5_noteShownSets_L2 fu k0 (f_X5_noteShownSets_W2 fu k0 n) x1 σ := rfl
def f_X5_noteShownSets (fu : Nat) (σ : gSt) (k0 : Nat) : Option (gSt) :=
  (f_X5_noteShownSets_W2 fu k0 fu 0 σ)
def f_X5_turnsWithBoth_L14 (fu : Nat) (σ : gSt) (k0 : Nat) (p1 : Int32) (p2 : Int32) (x3 : Int32) (ag14 : Int32 → Int32 → Option (Int32)) (x4 : Int32) (x5 : Int32) : Option (Int32) :=
  ((f_X8_size fu σ (k0 + 10)).bind fun v20 => (if v20 ≤ x5 then (some x4) else (if 20 ≤ x5 then (some x4) else ((rd 20 σ (k0 + 1) x5).bind fun v39 => (if (v39 &&& x3) = x3 then (ag14 (x4 + 1) (x5 + 1)) else (ag14 x4 (x5 + 1)))))))
def f_X5_turnsWithBoth_W14 (fu : Nat) (σ : gSt) (k0 : Nat) (p1 : Int32) (p2 : Int32) (x3 : Int32) : Nat → Int32 → Int32 → Option (Int32)
  | 0, _, _ => none
  | n + 1, x4, x5 => f_X5_turnsWithBoth_L14 fu σ k0 p1 p2 x3 (f_X5_turnsWithBoth_W14 fu σ k0 p1 p2 x3 n) x4 x5
theorem f_X5_turnsWithBoth_W14_0 (fu : Nat) (σ : gSt) (k0 : Nat) (p1 : Int32) (p2 : Int32) (x3 : Int32) (x4 : Int32) (x5 : Int32) : f_X5_turnsWithBoth_W14 fu σ k0 p1 p2 x3 0 x4 x5 = none := rfl
theorem f_X5_turnsWithBoth_W14_s (fu : Nat) (σ : gSt) (k0 : Nat) (p1 : Int32) (p2 : Int32) (x3 : Int32) (n : Nat) (x4 : Int32) (x5 : Int32) : f_X5_turnsWithBoth_W14 fu σ k0 p1 p2 x3 (n + 1) x4 x5 = f_X5_turnsWithBoth_L14 fu σ k0 p1 p2 x3 (f_X5_turnsWithBoth_W14 fu σ k0 p1 p2 x3 n) x4 x5 := rfl
def f_X5_turnsWithBoth (fu : Nat) (σ : gSt) (k0 : Nat) (p1 : Int32) (p2 : Int32) : Option (Int32) :=
  (lt (((1 <<< (p1 &&& 31)) ||| (1 <<< (p2 &&& 31))) : Int32) fun y7 => (f_X5_turnsWithBoth_W14 fu σ k0 p1 p2 y7 fu 0 0))
def f_X5_ofPairs_L39 (fu : Nat) (k0 : Nat) (p1 : Int32) (ag26 : Int32 → Int32 → Int32 → Int32 → Option (Int32 × gSt)) (σ : gSt) (x5 : Int32) (ag39 : Int32 → Int32 → Int32 → Int32 → Option (Int32 × gSt)) (x2 : Int32) (x3 : Int32) (x4 : Int32) (x6 : Int32) : Option (Int32 × gSt) :=
  (if 16 ≤ x6 then (ag26 x2 x3 x4 (x5 + 1)) else ((f_X5_turnsWithBoth fu σ k0 x5 x6).bind fun v51 => (if v51 ≤ x4 then (ag39 x2 x3 x4 (x6 + 1)) else (ag39 x5 x6 v51 (x6 + 1)))))
def f_X5_ofPairs_W39 (fu : Nat) (k0 : Nat) (p1 : Int32) (ag26 : Int32 → Int32 → Int32 → Int32 → Option (Int32 × gSt)) (σ : gSt) (x5 : Int32) : Nat → Int32 → Int32 → Int32 → Int32 → Option (Int32 × gSt)
  | 0, _, _, _, _ => none
  | n + 1, x2, x3, x4, x6 => f_X5_ofPairs_L39 fu k0 p1 ag26 σ x5 (f_X5_ofPairs_W39 fu k0 p1 ag26 σ x5 n) x2 x3 x4 x6
theorem f_X5_ofPairs_W39_0 (fu : Nat) (k0 : Nat) (p1 : Int32) (ag26 : Int32 → Int32 → Int32 → Int32 → Option (Int32 × gSt)) (σ : gSt) (x5 : Int32) (x2 : Int32) (x3 : Int32) (x4 : Int32) (x6 : Int32) : f_X5_ofPairs_W39 fu k0 p1 ag26 σ x5 0 x2 x3 x4 x6 = none := rfl
theorem f_X5_ofPairs_W39_s (fu : Nat) (k0 : Nat) (p1 : Int32) (ag26 : Int32 → Int32 → Int32 → Int32 → Option (Int32 × gSt)) (σ : gSt) (x5 : Int32) (n : Nat) (x2 : Int32) (x3 : Int32) (x4 : Int32) (x6 : Int32) : f_X5_ofPairs_W39 fu k0 p1 ag26 σ x5 (n + 1) x2 x3 x4 x6 = f_X5_ofPairs_L39 fu k0 p1 ag26 σ x5 (f_X5_ofPairs_W39 fu k0 p1 ag26 σ x5 n) x2 x3 x4 x6 := rfl
def f_X5_ofPairs_L26 (fu : Nat) (k0 : Nat) (p1 : Int32) (σ : gSt) (ag26 : Int32 → Int32 → Int32 → Int32 → Option (Int32 × gSt)) (x2 : Int32) (x3 : Int32) (x4 : Int32) (x5 : Int32) : Option (Int32 × gSt) :=
  (if 16 ≤ x5 then (if x4 = 0 then (some ((-1000004), σ)) else (if p1 = 0 then (some (x2, σ)) else (if p1 = 1 then (some (x3, σ)) else (some (x4, σ))))) else (f_X5_ofPairs_W39 fu k0 p1 ag26 σ x5 fu x2 x3 x4 (x5 + 1)))
def f_X5_ofPairs_W26 (fu : Nat) (k0 : Nat) (p1 : Int32) (σ : gSt) : Nat → Int32 → Int32 → Int32 → Int32 → Option (Int32 × gSt)
  | 0, _, _, _, _ => none
  | n + 1, x2, x3, x4, x5 => f_X5_ofPairs_L26 fu k0 p1 σ (f_X5_ofPairs_W26 fu k0 p1 σ n) x2 x3 x4 x5
theorem f_X5_ofPairs_W26_0 (fu : Nat) (k0 : Nat) (p1 : Int32) (σ : gSt) (x2 : Int32) (x3 : Int32) (x4 : Int32) (x5 : Int32) : f_X5_ofPairs_W26 fu k0 p1 σ 0 x2 x3 x4 x5 = none := rfl
theorem f_X5_ofPairs_W26_s (fu : Nat) (k0 : Nat) (p1 : Int32) (σ : gSt) (n : Nat) (x2 : Int32) (x3 : Int32) (x4 : Int32) (x5 : Int32) : f_X5_ofPairs_W26 fu k0 p1 σ (n + 1) x2 x3 x4 x5 = f_X5_ofPairs_L26 fu k0 p1 σ (f_X5_ofPairs_W26 fu k0 p1 σ n) x2 x3 x4 x5 := rfl
def f_X5_ofPairs (fu : Nat) (σ : gSt) (k0 : Nat) (p1 : Int32) : Option (Int32 × gSt) :=
  ((f_X9_isWithin fu σ p1 0 2).bind fun v3 => (if v3 = 0 then (some ((-1000001), σ)) else ((f_X5_noteShownSets fu σ k0).bind fun σ13 => (f_X5_ofPairs_W26 fu k0 p1 σ13 fu 0 0 0 0))))
def f_X9_together (fu : Nat) (σ : gSt) (k0 : Nat) (p1 : Int32) : Option (Int32 × gSt) :=
  (b2 (f_X5_ofPairs fu σ (k0 + 1) p1) fun v5 σ5 => (some (v5, σ5)))
def f_X10_both_L5 (fu : Nat) (σ : gSt) (k0 : Nat) (p1 : Int32) (p2 : Int32) (ag5 : Int32 → Int32 → Option (Int32)) (x3 : Int32) (x4 : Int32) : Option (Int32) :=
  (if (σ (k0 + 1) 282) ≤ x4 then (some x3) else ((f_X10_shows fu σ k0 x4 p1).bind fun v23 => (if v23 ≤ 0 then (ag5 (x3 + 0) (x4 + 1)) else ((f_X10_shows fu σ k0 x4 p2).bind fun v33 => (lt ((if v33 ≤ 0 then 0 else 1) : Int32) fun w36 => (ag5 (x3 + w36) (x4 + 1)))))))
def f_X10_both_W5 (fu : Nat) (σ : gSt) (k0 : Nat) (p1 : Int32) (p2 : Int32) : Nat → Int32 → Int32 → Option (Int32)
  | 0, _, _ => none
  | n + 1, x3, x4 => f_X10_both_L5 fu σ k0 p1 p2 (f_X10_both_W5 fu σ k0 p1 p2 n) x3 x4
theorem f_X10_both_W5_0 (fu : Nat) (σ : gSt) (k0 : Nat) (p1 : Int32) (p2 : Int32) (x3 : Int32) (x4 : Int32) : f_X10_both_W5 fu σ k0 p1 p2 0 x3 x4 = none := rfl
theorem f_X10_both_W5_s (fu : Nat) (σ : gSt) (k0 : Nat) (p1 : Int32) (p2 : Int32) (n : Nat) (x3 : Int32) (x4 : Int32) : f_X10_both_W5 fu σ k0 p1 p2 (n + 1) x3 x4 = f_X10_both_L5 fu σ k0 p1 p2 (f_X10_both_W5 fu σ k0 p1 p2 n) x3 x4 := rfl
def f_X10_both (fu : Nat) (σ : gSt) (k0 : Nat) (p1 : Int32) (p2 : Int32) : Option (Int32) :=
  (f_X10_both_W5 fu σ k0 p1 p2 fu 0 0)
def f_X10_together_J79 (fu : Nat) (σ : gSt) (k0 : Nat) (p1 : Int32) (ag22 : Int32 → Int32 → Int32 → Int32 → Option (Int32)) (ag35 : Int32 → Int32 → Int32 → Int32 → Option (Int32)) (x2 : Int32) (x4 : Int32) (x5 : Int32) (x6 : Int32) (x7 : Int32) (s1 : Int32) : Option (Int32) :=
  (lt ((if x7 ≤ x4 then x4 else x7) : Int32) fun w84 => (ag35 x2 s1 w84 (x6 + 1)))
def f_X10_together_J65 (fu : Nat) (σ : gSt) (k0 : Nat) (p1 : Int32) (ag22 : Int32 → Int32 → Int32 → Int32 → Option (Int32)) (ag35 : Int32 → Int32 → Int32 → Int32 → Option (Int32)) (x3 : Int32) (x4 : Int32) (x5 : Int32) (x6 : Int32) (x7 : Int32) (s1 : Int32) : Option (Int32) :=
  (lt ((if x7 ≤ x4 then x3 else x6) : Int32) fun w70 => (f_X10_together_J79 fu σ k0 p1 ag22 ag35 s1 x4 x5 x6 x7 w70))
def f_X10_together_L35 (fu : Nat) (σ : gSt) (k0 : Nat) (p1 : Int32) (ag22 : Int32 → Int32 → Int32 → Int32 → Option (Int32)) (x5 : Int32) (ag35 : Int32 → Int32 → Int32 → Int32 → Option (Int32)) (x2 : Int32) (x3 : Int32) (x4 : Int32) (x6 : Int32) : Option (Int32) :=
  (if 16 ≤ x6 then (ag22 x2 x3 x4 (x5 + 1)) else ((f_X10_both fu σ k0 x5 x6).bind fun v47 => (lt ((if v47 ≤ x4 then x2 else x5) : Int32) fun w56 => (f_X10_together_J65 fu σ k0 p1 ag22 ag35 x3 x4 x5 x6 v47 w56))))
def f_X10_together_W35 (fu : Nat) (σ : gSt) (k0 : Nat) (p1 : Int32) (ag22 : Int32 → Int32 → Int32 → Int32 → Option (Int32)) (x5 : Int32) : Nat → Int32 → Int32 → Int32 → Int32 → Option (Int32)
  | 0, _, _, _, _ => none
  | n + 1, x2, x3, x4, x6 => f_X10_together_L35 fu σ k0 p1 ag22 x5 (f_X10_together_W35 fu σ k0 p1 ag22 x5 n) x2 x3 x4 x6
theorem f_X10_together_W35_0 (fu : Nat) (σ : gSt) (k0 : Nat) (p1 : Int32) (ag22 : Int32 → Int32 → Int32 → Int32 → Option (Int32)) (x5 : Int32) (x2 : Int32) (x3 : Int32) (x4 : Int32) (x6 : Int32) : f_X10_together_W35 fu σ k0 p1 ag22 x5 0 x2 x3 x4 x6 = none := rfl
theorem f_X10_together_W35_s (fu : Nat) (σ : gSt) (k0 : Nat) (p1 : Int32) (ag22 : Int32 → Int32 → Int32 → Int32 → Option (Int32)) (x5 : Int32) (n : Nat) (x2 : Int32) (x3 : Int32) (x4 : Int32) (x6 : Int32) : f_X10_together_W35 fu σ k0 p1 ag22 x5 (n + 1) x2 x3 x4 x6 = f_X10_together_L35 fu σ k0 p1 ag22 x5 (f_X10_together_W35 fu σ k0 p1 ag22 x5 n) x2 x3 x4 x6 := rfl
def f_X10_together_L22 (fu : Nat) (σ : gSt) (k0 : Nat) (p1 : Int32) (ag22 : Int32 → Int32 → Int32 → Int32 → Option (Int32)) (x2 : Int32) (x3 : Int32) (x4 : Int32) (x5 : Int32) : Option (Int32) :=
  (if 16 ≤ x5 then (if x4 = 0 then (some (-1000004)) else (if p1 = 0 then (some x2) else (if p1 = 1 then (some x3) else (some x4)))) else (f_X10_together_W35 fu σ k0 p1 ag22 x5 fu x2 x3 x4 (x5 + 1)))
def f_X10_together_W22 (fu : Nat) (σ : gSt) (k0 : Nat) (p1 : Int32) : Nat → Int32 → Int32 → Int32 → Int32 → Option (Int32)
  | 0, _, _, _, _ => none
  | n + 1, x2, x3, x4, x5 => f_X10_together_L22 fu σ k0 p1 (f_X10_together_W22 fu σ k0 p1 n) x2 x3 x4 x5
theorem f_X10_together_W22_0 (fu : Nat) (σ : gSt) (k0 : Nat) (p1 : Int32) (x2 : Int32) (x3 : Int32) (x4 : Int32) (x5 : Int32) : f_X10_together_W22 fu σ k0 p1 0 x2 x3 x4 x5 = none := rfl
theorem f_X10_together_W22_s (fu : Nat) (σ : gSt) (k0 : Nat) (p1 : Int32) (n : Nat) (x2 : Int32) (x3 : Int32) (x4 : Int32) (x5 : Int32) : f_X10_together_W22 fu σ k0 p1 (n + 1) x2 x3 x4 x5 = f_X10_together_L22 fu σ k0 p1 (f_X10_together_W22 fu σ k0 p1 n) x2 x3 x4 x5 := rfl
def f_X10_together (fu : Nat) (σ : gSt) (k0 : Nat) (p1 : Int32) : Option (Int32) :=
  ((f_X10_in fu σ p1 0 2).bind fun v3 => (if v3 = 0 then (some (-1000001)) else (f_X10_together_W22 fu σ k0 p1 fu 0 0 0 0)))
def f_X8_longestSilence_J48 (fu : Nat) (σ : gSt) (k0 : Nat) (p1 : Int32) (ag14 : Int32 → Int32 → Int32 → Int32 → Option (Int32)) (x2 : Int32) (x3 : Int32) (x4 : Int32) (x5 : Int32) : Option (Int32) :=
  ((f_X8_endOf fu σ k0 x5).bind fun v52 => ((f_J9_max_7cf53 fu σ x2 v52).bind fun v55 => (ag14 v55 x3 x4 (x5 + 1))))
def f_X8_longestSilence_L14 (fu : Nat) (σ : gSt) (k0 : Nat) (p1 : Int32) (ag14 : Int32 → Int32 → Int32 → Int32 → Option (Int32)) (x2 : Int32) (x3 : Int32) (x4 : Int32) (x5 : Int32) : Option (Int32) :=
  (if (σ k0 6) ≤ x5 then (if p1 = 0 then (some x3) else (some x4)) else ((f_X8_beginOf fu σ k0 x5).bind fun v26 => (if (v26 - x2) ≤ x4 then (f_X8_longestSilence_J48 fu σ k0 p1 ag14 x2 x3 x4 x5) else ((f_X8_beginOf fu σ k0 x5).bind fun v39 => (f_X8_longestSilence_J48 fu σ k0 p1 ag14 x2 x2 (v39 - x2) x5)))))
def f_X8_longestSilence_W14 (fu : Nat) (σ : gSt) (k0 : Nat) (p1 : Int32) : Nat → Int32 → Int32 → Int32 → Int32 → Option (Int32)
  | 0, _, _, _, _ => none
  | n + 1, x2, x3, x4, x5 => f_X8_longestSilence_L14 fu σ k0 p1 (f_X8_longestSilence_W14 fu σ k0 p1 n) x2 x3 x4 x5
theorem f_X8_longestSilence_W14_0 (fu : Nat) (σ : gSt) (k0 : Nat) (p1 : Int32) (x2 : Int32) (x3 : Int32) (x4 : Int32) (x5 : Int32) : f_X8_longestSilence_W14 fu σ k0 p1 0 x2 x3 x4 x5 = none := rfl
theorem f_X8_longestSilence_W14_s (fu : Nat) (σ : gSt) (k0 : Nat) (p1 : Int32) (n : Nat) (x2 : Int32) (x3 : Int32) (x4 : Int32) (x5 : Int32) : f_X8_longestSilence_W14 fu σ k0 p1 (n + 1) x2 x3 x4 x5 = f_X8_longestSilence_L14 fu σ k0 p1 (f_X8_longestSilence_W14 fu σ k0 p1 n) x2 x3 x4 x5 := rfl
def f_X8_longestSilence (fu : Nat) (σ : gSt) (k0 : Nat) (p1 : Int32) : Option (Int32) :=
  ((f_X8_beginOf fu σ k0 0).bind fun v2 => (f_X8_longestSilence_W14 fu σ k0 p1 fu v2 0 0 0))
def f_X5_ofSilence (fu : Nat) (σ : gSt) (k0 : Nat) (p1 : Int32) : Option (Int32) :=
  ((f_X9_isWithin fu σ p1 0 1).bind fun v3 => (if v3 = 0 then (some (-1000001)) else ((f_X8_longestSilence fu σ (k0 + 10) 1).bind fun v17 => (if v17 = 0 then (some (-1000004)) else ((f_X8_longestSilence fu σ (k0 + 10) p1).bind fun v31 => (some v31))))))
def f_X9_silence (fu : Nat) (σ : gSt) (k0 : Nat) (p1 : Int32) : Option (Int32) :=
  ((f_X5_ofSilence fu σ (k0 + 1) p1).bind fun v5 => (some v5))
def f_X10_lastEnd_L4 (fu : Nat) (σ : gSt) (k0 : Nat) (ag4 : Int32 → Int32 → Option (Int32)) (x1 : Int32) (x2 : Int32) : Option (Int32) :=
  (if (σ (k0 + 1) 282) ≤ x2 then (some x1) else ((f_X10_of fu σ k0 x2 1).bind fun v19 => (if v19 ≤ x1 then (ag4 x1 (x2 + 1)) else ((f_X10_of fu σ k0 x2 1).bind fun v29 => (ag4 v29 (x2 + 1))))))
def f_X10_lastEnd_W4 (fu : Nat) (σ : gSt) (k0 : Nat) : Nat → Int32 → Int32 → Option (Int32)
  | 0, _, _ => none
  | n + 1, x1, x2 => f_X10_lastEnd_L4 fu σ k0 (f_X10_lastEnd_W4 fu σ k0 n) x1 x2
theorem f_X10_lastEnd_W4_0 (fu : Nat) (σ : gSt) (k0 : Nat) (x1 : Int32) (x2 : Int32) : f_X10_lastEnd_W4 fu σ k0 0 x1 x2 = none := rfl
theorem f_X10_lastEnd_W4_s (fu : Nat) (σ : gSt) (k0 : Nat) (n : Nat) (x1 : Int32) (x2 : Int32) : f_X10_lastEnd_W4 fu σ k0 (n + 1) x1 x2 = f_X10_lastEnd_L4 fu σ k0 (f_X10_lastEnd_W4 fu σ k0 n) x1 x2 := rfl
def f_X10_lastEnd (fu : Nat) (σ : gSt) (k0 : Nat) : Option (Int32) :=
  (f_X10_lastEnd_W4 fu σ k0 fu 0 0)
def f_X10_silence_J107 (fu : Nat) (σ : gSt) (k0 : Nat) (p1 : Int32) (x2 : Int32) (x3 : Int32) : Option (Int32) :=
  (if x3 = 0 then (some (-1000004)) else (if p1 = 0 then (some x2) else (some x3)))
def f_X10_silence_J87 (fu : Nat) (σ : gSt) (k0 : Nat) (p1 : Int32) (ag33 : Int32 → Int32 → Int32 → Int32 → Option (Int32)) (x3 : Int32) (x4 : Int32) (x5 : Int32) (x6 : Int32) (s1 : Int32) : Option (Int32) :=
  (lt ((if x4 ≤ x3 then x3 else x4) : Int32) fun w91 => (ag33 s1 w91 x4 (x6 + 1)))
def f_X10_silence_J68 (fu : Nat) (σ : gSt) (k0 : Nat) (p1 : Int32) (ag33 : Int32 → Int32 → Int32 → Int32 → Option (Int32)) (x2 : Int32) (x3 : Int32) (x5 : Int32) (x6 : Int32) (s1 : Int32) : Option (Int32) :=
  (lt ((if s1 ≤ x3 then x2 else ((x6 - s1) + 1)) : Int32) fun w73 => (f_X10_silence_J87 fu σ k0 p1 ag33 x3 s1 x5 x6 w73))
def f_X10_silence_L33 (fu : Nat) (σ : gSt) (k0 : Nat) (p1 : Int32) (x5 : Int32) (ag33 : Int32 → Int32 → Int32 → Int32 → Option (Int32)) (x2 : Int32) (x3 : Int32) (x4 : Int32) (x6 : Int32) : Option (Int32) :=
  (if x5 ≤ x6 then (f_X10_silence_J107 fu σ k0 p1 x2 x3) else (if (σ (k0 + 1) 282) ≤ 0 then (f_X10_silence_J107 fu σ k0 p1 x2 x3) else ((f_X10_going fu σ k0 x6).bind fun v54 => (lt ((if v54 = 0 then (x4 + 1) else 0) : Int32) fun w57 => (f_X10_silence_J68 fu σ k0 p1 ag33 x2 x3 x5 x6 w57)))))
def f_X10_silence_W33 (fu : Nat) (σ : gSt) (k0 : Nat) (p1 : Int32) (x5 : Int32) : Nat → Int32 → Int32 → Int32 → Int32 → Option (Int32)
  | 0, _, _, _, _ => none
  | n + 1, x2, x3, x4, x6 => f_X10_silence_L33 fu σ k0 p1 x5 (f_X10_silence_W33 fu σ k0 p1 x5 n) x2 x3 x4 x6
theorem f_X10_silence_W33_0 (fu : Nat) (σ : gSt) (k0 : Nat) (p1 : Int32) (x5 : Int32) (x2 : Int32) (x3 : Int32) (x4 : Int32) (x6 : Int32) : f_X10_silence_W33 fu σ k0 p1 x5 0 x2 x3 x4 x6 = none := rfl
theorem f_X10_silence_W33_s (fu : Nat) (σ : gSt) (k0 : Nat) (p1 : Int32) (x5 : Int32) (n : Nat) (x2 : Int32) (x3 : Int32) (x4 : Int32) (x6 : Int32) : f_X10_silence_W33 fu σ k0 p1 x5 (n + 1) x2 x3 x4 x6 = f_X10_silence_L33 fu σ k0 p1 x5 (f_X10_silence_W33 fu σ k0 p1 x5 n) x2 x3 x4 x6 := rfl
def f_X10_silence (fu : Nat) (σ : gSt) (k0 : Nat) (p1 : Int32) : Option (Int32) :=
  ((f_X10_in fu σ p1 0 1).bind fun v3 => (if v3 = 0 then (some (-1000001)) else ((f_X10_lastEnd fu σ k0).bind fun v20 => ((f_X10_of fu σ k0 0 0).bind fun v28 => (f_X10_silence_W33 fu σ k0 p1 v20 fu 0 0 0 v28)))))
def f_X5_ofDoubt_J99 (fu : Nat) (σ : gSt) (k0 : Nat) (p1 : Int32) (s1 : Int32) : Option (Int32) :=
  ((f_X5_orNotFound fu σ s1).bind fun v99 => (some v99))
def f_X5_ofDoubt_L19 (fu : Nat) (σ : gSt) (k0 : Nat) (p1 : Int32) (ag19 : Int32 → Int32 → Int32 → Option (Int32)) (x2 : Int32) (x3 : Int32) (x4 : Int32) : Option (Int32) :=
  ((f_X8_size fu σ (k0 + 10)).bind fun v25 => (if v25 ≤ x4 then (lt ((if p1 = 0 then x2 else x3) : Int32) fun w91 => (f_X5_ofDoubt_J99 fu σ k0 p1 w91)) else ((f_X8_ownerOf fu σ (k0 + 10) x4).bind fun v37 => ((f_X8_pitchOf fu σ (k0 + 10) x4).bind fun v48 => ((f_X4_pitchOf fu σ (k0 + 19) v37).bind fun v57 => ((f_J9_abs_0f7a4 fu σ (v48 - v57)).bind fun v61 => (if v37 = (-1) then (ag19 x2 x3 (x4 + 1)) else (if v61 ≤ x3 then (ag19 x2 x3 (x4 + 1)) else (ag19 x4 v61 (x4 + 1))))))))))
def f_X5_ofDoubt_W19 (fu : Nat) (σ : gSt) (k0 : Nat) (p1 : Int32) : Nat → Int32 → Int32 → Int32 → Option (Int32)
  | 0, _, _, _ => none
  | n + 1, x2, x3, x4 => f_X5_ofDoubt_L19 fu σ k0 p1 (f_X5_ofDoubt_W19 fu σ k0 p1 n) x2 x3 x4
theorem f_X5_ofDoubt_W19_0 (fu : Nat) (σ : gSt) (k0 : Nat) (p1 : Int32) (x2 : Int32) (x3 : Int32) (x4 : Int32) : f_X5_ofDoubt_W19 fu σ k0 p1 0 x2 x3 x4 = none := rfl
theorem f_X5_ofDoubt_W19_s (fu : Nat) (σ : gSt) (k0 : Nat) (p1 : Int32) (n : Nat) (x2 : Int32) (x3 : Int32) (x4 : Int32) : f_X5_ofDoubt_W19 fu σ k0 p1 (n + 1) x2 x3 x4 = f_X5_ofDoubt_L19 fu σ k0 p1 (f_X5_ofDoubt_W19 fu σ k0 p1 n) x2 x3 x4 := rfl
def f_X5_ofDoubt (fu : Nat) (σ : gSt) (k0 : Nat) (p1 : Int32) : Option (Int32) :=
  ((f_X9_isWithin fu σ p1 0 1).bind fun v3 => (if v3 = 0 then (some (-1000001)) else (f_X5_ofDoubt_W19 fu σ k0 p1 fu (-1) (-1) 0)))
def f_X9_doubtful (fu : Nat) (σ : gSt) (k0 : Nat) (p1 : Int32) : Option (Int32) :=
  ((f_X5_ofDoubt fu σ (k0 + 1) p1).bind fun v5 => (some v5))
def f_X10_doubtful_J87 (fu : Nat) (σ : gSt) (k0 : Nat) (p1 : Int32) (ag20 : Int32 → Int32 → Int32 → Option (Int32)) (x3 : Int32) (x4 : Int32) (x5 : Int32) (s1 : Int32) : Option (Int32) :=
  (lt ((if x5 ≤ x3 then x3 else x5) : Int32) fun w91 => (ag20 s1 w91 (x4 + 1)))
def f_X10_doubtful_J73 (fu : Nat) (σ : gSt) (k0 : Nat) (p1 : Int32) (ag20 : Int32 → Int32 → Int32 → Option (Int32)) (x2 : Int32) (x3 : Int32) (x4 : Int32) (s1 : Int32) : Option (Int32) :=
  (lt ((if s1 ≤ x3 then x2 else x4) : Int32) fun w78 => (f_X10_doubtful_J87 fu σ k0 p1 ag20 x3 x4 s1 w78))
def f_X10_doubtful_L20 (fu : Nat) (σ : gSt) (k0 : Nat) (p1 : Int32) (ag20 : Int32 → Int32 → Int32 → Option (Int32)) (x2 : Int32) (x3 : Int32) (x4 : Int32) : Option (Int32) :=
  (if (σ (k0 + 1) 282) ≤ x4 then (if x2 < 0 then (some x2) else (if p1 = 0 then (some x2) else (some x3))) else ((f_X10_of fu σ k0 x4 3).bind fun v37 => (if 0 ≤ v37 then ((f_X10_of fu σ k0 x4 3).bind fun v58 => ((rd 284 σ (k0 + 1) (276 + v58)).bind fun v62 => ((f_X10_of fu σ k0 x4 2).bind fun v67 => ((f_X10_far fu σ v62 v67).bind fun v70 => (f_X10_doubtful_J73 fu σ k0 p1 ag20 x2 x3 x4 v70))))) else (f_X10_doubtful_J73 fu σ k0 p1 ag20 x2 x3 x4 (-1)))))
def f_X10_doubtful_W20 (fu : Nat) (σ : gSt) (k0 : Nat) (p1 : Int32) : Nat → Int32 → Int32 → Int32 → Option (Int32)
  | 0, _, _, _ => none
  | n + 1, x2, x3, x4 => f_X10_doubtful_L20 fu σ k0 p1 (f_X10_doubtful_W20 fu σ k0 p1 n) x2 x3 x4
theorem f_X10_doubtful_W20_0 (fu : Nat) (σ : gSt) (k0 : Nat) (p1 : Int32) (x2 : Int32) (x3 : Int32) (x4 : Int32) : f_X10_doubtful_W20 fu σ k0 p1 0 x2 x3 x4 = none := rfl
theorem f_X10_doubtful_W20_s (fu : Nat) (σ : gSt) (k0 : Nat) (p1 : Int32) (n : Nat) (x2 : Int32) (x3 : Int32) (x4 : Int32) : f_X10_doubtful_W20 fu σ k0 p1 (n + 1) x2 x3 x4 = f_X10_doubtful_L20 fu σ k0 p1 (f_X10_doubtful_W20 fu σ k0 p1 n) x2 x3 x4 := rfl
def f_X10_doubtful (fu : Nat) (σ : gSt) (k0 : Nat) (p1 : Int32) : Option (Int32) :=
  ((f_X10_in fu σ p1 0 1).bind fun v3 => (if v3 = 0 then (some (-1000001)) else (f_X10_doubtful_W20 fu σ k0 p1 fu (-1000004) (-1) 0)))
def f_X1_size (fu : Nat) (σ : gSt) (k0 : Nat) : Option (Int32) :=
  (some (σ k0 2))
def f_X6_length (fu : Nat) (σ : gSt) (k0 : Nat) : Option (Int32) :=
  (some (σ k0 1))
def f_X4_asSet_L4 (fu : Nat) (σ : gSt) (k0 : Nat) (ag4 : Int32 → Int32 → Option (Int32)) (x1 : Int32) (x2 : Int32) : Option (Int32) :=
  (if 6 ≤ x2 then (some x1) else ((f_X4_has fu σ k0 x2).bind fun v12 => (if v12 = 0 then (ag4 x1 (x2 + 1)) else (lt ((x1 ||| (1 <<< (x2 &&& 31))) : Int32) fun y23 => (ag4 y23 (x2 + 1))))))
def f_X4_asSet_W4 (fu : Nat) (σ : gSt) (k0 : Nat) : Nat → Int32 → Int32 → Option (Int32)
  | 0, _, _ => none
  | n + 1, x1, x2 => f_X4_asSet_L4 fu σ k0 (f_X4_asSet_W4 fu σ k0 n) x1 x2
theorem f_X4_asSet_W4_0 (fu : Nat) (σ : gSt) (k0 : Nat) (x1 : Int32) (x2 : Int32) : f_X4_asSet_W4 fu σ k0 0 x1 x2 = none := rfl
theorem f_X4_asSet_W4_s (fu : Nat) (σ : gSt) (k0 : Nat) (n : Nat) (x1 : Int32) (x2 : Int32) : f_X4_asSet_W4 fu σ k0 (n + 1) x1 x2 = f_X4_asSet_L4 fu σ k0 (f_X4_asSet_W4 fu σ k0 n) x1 x2 := rfl
def f_X4_asSet (fu : Nat) (σ : gSt) (k0 : Nat) : Option (Int32) :=
  (f_X4_asSet_W4 fu σ k0 fu 0 0)
def f_X8_placesInAll_L4 (fu : Nat) (σ : gSt) (k0 : Nat) (ag4 : Int32 → Int32 → Option (Int32)) (x1 : Int32) (x2 : Int32) : Option (Int32) :=
  (if (σ k0 6) ≤ x2 then (some x1) else ((f_X8_termCountOf fu σ k0 x2).bind fun v15 => (ag4 (x1 + v15) (x2 + 1))))
def f_X8_placesInAll_W4 (fu : Nat) (σ : gSt) (k0 : Nat) : Nat → Int32 → Int32 → Option (Int32)
  | 0, _, _ => none
  | n + 1, x1, x2 => f_X8_placesInAll_L4 fu σ k0 (f_X8_placesInAll_W4 fu σ k0 n) x1 x2
theorem f_X8_placesInAll_W4_0 (fu : Nat) (σ : gSt) (k0 : Nat) (x1 : Int32) (x2 : Int32) : f_X8_placesInAll_W4 fu σ k0 0 x1 x2 = none := rfl
theorem f_X8_placesInAll_W4_s (fu : Nat) (σ : gSt) (k0 : Nat) (n : Nat) (x1 : Int32) (x2 : Int32) : f_X8_placesInAll_W4 fu σ k0 (n + 1) x1 x2 = f_X8_placesInAll_L4 fu σ k0 (f_X8_placesInAll_W4 fu σ k0 n) x1 x2 := rfl
def f_X8_placesInAll (fu : Nat) (σ : gSt) (k0 : Nat) : Option (Int32) :=
  (f_X8_placesInAll_W4 fu σ k0 fu 0 0)
def f_X0_size_L4 (fu : Nat) (σ : gSt) (k0 : Nat) (ag4 : Int32 → Int32 → Option (Int32)) (x1 : Int32) (x2 : Int32) : Option (Int32) :=
  (if 16 ≤ x2 then (some x1) else ((f_X0_isCorrected fu σ k0 x2).bind fun v12 => (if v12 = 0 then (ag4 x1 (x2 + 1)) else (ag4 (x1 + 1) (x2 + 1)))))
def f_X0_size_W4 (fu : Nat) (σ : gSt) (k0 : Nat) : Nat → Int32 → Int32 → Option (Int32)
  | 0, _, _ => none
  | n + 1, x1, x2 => f_X0_size_L4 fu σ k0 (f_X0_size_W4 fu σ k0 n) x1 x2
theorem f_X0_size_W4_0 (fu : Nat) (σ : gSt) (k0 : Nat) (x1 : Int32) (x2 : Int32) : f_X0_size_W4 fu σ k0 0 x1 x2 = none := rfl
theorem f_X0_size_W4_s (fu : Nat) (σ : gSt) (k0 : Nat) (n : Nat) (x1 : Int32) (x2 : Int32) : f_X0_size_W4 fu σ k0 (n + 1) x1 x2 = f_X0_size_L4 fu σ k0 (f_X0_size_W4 fu σ k0 n) x1 x2 := rfl
def f_X0_size (fu : Nat) (σ : gSt) (k0 : Nat) : Option (Int32) :=
  (f_X0_size_W4 fu σ k0 fu 0 0)
def f_X8_overlappingPairs_L14 (fu : Nat) (σ : gSt) (k0 : Nat) (ag4 : Int32 → Int32 → Option (Int32)) (x2 : Int32) (ag14 : Int32 → Int32 → Option (Int32)) (x1 : Int32) (x3 : Int32) : Option (Int32) :=
  (if x2 ≤ x3 then (ag4 x1 (x2 + 1)) else ((f_X8_overlap fu σ k0 x2 x3).bind fun v22 => (if v22 = 0 then (ag14 x1 (x3 + 1)) else (ag14 (x1 + 1) (x3 + 1)))))
def f_X8_overlappingPairs_W14 (fu : Nat) (σ : gSt) (k0 : Nat) (ag4 : Int32 → Int32 → Option (Int32)) (x2 : Int32) : Nat → Int32 → Int32 → Option (Int32)
  | 0, _, _ => none
  | n + 1, x1, x3 => f_X8_overlappingPairs_L14 fu σ k0 ag4 x2 (f_X8_overlappingPairs_W14 fu σ k0 ag4 x2 n) x1 x3
theorem f_X8_overlappingPairs_W14_0 (fu : Nat) (σ : gSt) (k0 : Nat) (ag4 : Int32 → Int32 → Option (Int32)) (x2 : Int32) (x1 : Int32) (x3 : Int32) : f_X8_overlappingPairs_W14 fu σ k0 ag4 x2 0 x1 x3 = none := rfl
theorem f_X8_overlappingPairs_W14_s (fu : Nat) (σ : gSt) (k0 : Nat) (ag4 : Int32 → Int32 → Option (Int32)) (x2 : Int32) (n : Nat) (x1 : Int32) (x3 : Int32) : f_X8_overlappingPairs_W14 fu σ k0 ag4 x2 (n + 1) x1 x3 = f_X8_overlappingPairs_L14 fu σ k0 ag4 x2 (f_X8_overlappingPairs_W14 fu σ k0 ag4 x2 n) x1 x3 := rfl
def f_X8_overlappingPairs_L4 (fu : Nat) (σ : gSt) (k0 : Nat) (ag4 : Int32 → Int32 → Option (Int32)) (x1 : Int32) (x2 : Int32) : Option (Int32) :=
  (if (σ k0 6) ≤ x2 then (some x1) else (f_X8_overlappingPairs_W14 fu σ k0 ag4 x2 fu x1 0))
def f_X8_overlappingPairs_W4 (fu : Nat) (σ : gSt) (k0 : Nat) : Nat → Int32 → Int32 → Option (Int32)
  | 0, _, _ => none
  | n + 1, x1, x2 => f_X8_overlappingPairs_L4 fu σ k0 (f_X8_overlappingPairs_W4 fu σ k0 n) x1 x2
theorem f_X8_overlappingPairs_W4_0 (fu : Nat) (σ : gSt) (k0 : Nat) (x1 : Int32) (x2 : Int32) : f_X8_overlappingPairs_W4 fu σ k0 0 x1 x2 = none := rfl
theorem f_X8_overlappingPairs_W4_s (fu : Nat) (σ : gSt) (k0 : Nat) (n : Nat) (x1 : Int32) (x2 : Int32) : f_X8_overlappingPairs_W4 fu σ k0 (n + 1) x1 x2 = f_X8_overlappingPairs_L4 fu σ k0 (f_X8_overlappingPairs_W4 fu σ k0 n) x1 x2 := rfl
def f_X8_overlappingPairs (fu : Nat) (σ : gSt) (k0 : Nat) : Option (Int32) :=
  (f_X8_overlappingPairs_W4 fu σ k0 fu 0 0)
def f_X8_secondsWithAny_L6 (fu : Nat) (σ : gSt) (k0 : Nat) (ag6 : Int32 → Int32 → Int32 → Option (Int32)) (x1 : Int32) (x2 : Int32) (x3 : Int32) : Option (Int32) :=
  (if (σ k0 6) ≤ x3 then (some x2) else ((f_X8_endOf fu σ k0 x3).bind fun v18 => ((f_X8_beginOf fu σ k0 x3).bind fun v24 => ((f_J9_max_7cf53 fu σ x1 v24).bind fun v27 => ((f_J9_max_7cf53 fu σ 0 (v18 - v27)).bind fun v31 => ((f_X8_endOf fu σ k0 x3).bind fun v39 => ((f_J9_max_7cf53 fu σ x1 v39).bind fun v42 => (ag6 v42 (x2 + v31) (x3 + 1)))))))))
def f_X8_secondsWithAny_W6 (fu : Nat) (σ : gSt) (k0 : Nat) : Nat → Int32 → Int32 → Int32 → Option (Int32)
  | 0, _, _, _ => none
  | n + 1, x1, x2, x3 => f_X8_secondsWithAny_L6 fu σ k0 (f_X8_secondsWithAny_W6 fu σ k0 n) x1 x2 x3
theorem f_X8_secondsWithAny_W6_0 (fu : Nat) (σ : gSt) (k0 : Nat) (x1 : Int32) (x2 : Int32) (x3 : Int32) : f_X8_secondsWithAny_W6 fu σ k0 0 x1 x2 x3 = none := rfl
theorem f_X8_secondsWithAny_W6_s (fu : Nat) (σ : gSt) (k0 : Nat) (n : Nat) (x1 : Int32) (x2 : Int32) (x3 : Int32) : f_X8_secondsWithAny_W6 fu σ k0 (n + 1) x1 x2 x3 = f_X8_secondsWithAny_L6 fu σ k0 (f_X8_secondsWithAny_W6 fu σ k0 n) x1 x2 x3 := rfl
def f_X8_secondsWithAny (fu : Nat) (σ : gSt) (k0 : Nat) : Option (Int32) :=
  (f_X8_secondsWithAny_W6 fu σ k0 fu 0 0 0)
def f_X8_secondsWithSeveral_L9 (fu : Nat) (σ : gSt) (k0 : Nat) (ag9 : Int32 → Int32 → Int32 → Int32 → Option (Int32)) (x1 : Int32) (x2 : Int32) (x3 : Int32) (x4 : Int32) : Option (Int32) :=
  (if (σ k0 6) ≤ x4 then (some x3) else ((f_X8_endOf fu σ k0 x4).bind fun v21 => ((f_J9_min_7cf53 fu σ v21 x1).bind fun v25 => ((f_X8_beginOf fu σ k0 x4).bind fun v38 => ((f_J9_max_7cf53 fu σ x2 v38).bind fun v41 => ((f_J9_max_7cf53 fu σ 0 (v25 - v41)).bind fun v45 => ((f_J9_max_7cf53 fu σ x2 v25).bind fun v53 => ((f_X8_endOf fu σ k0 x4).bind fun v61 => ((f_J9_max_7cf53 fu σ x1 v61).bind fun v64 => (ag9 v64 v53 (x3 + v45) (x4 + 1)))))))))))
def f_X8_secondsWithSeveral_W9 (fu : Nat) (σ : gSt) (k0 : Nat) : Nat → Int32 → Int32 → Int32 → Int32 → Option (Int32)
  | 0, _, _, _, _ => none
  | n + 1, x1, x2, x3, x4 => f_X8_secondsWithSeveral_L9 fu σ k0 (f_X8_secondsWithSeveral_W9 fu σ k0 n) x1 x2 x3 x4
theorem f_X8_secondsWithSeveral_W9_0 (fu : Nat) (σ : gSt) (k0 : Nat) (x1 : Int32) (x2 : Int32) (x3 : Int32) (x4 : Int32) : f_X8_secondsWithSeveral_W9 fu σ k0 0 x1 x2 x3 x4 = none := rfl
theorem f_X8_secondsWithSeveral_W9_s (fu : Nat) (σ : gSt) (k0 : Nat) (n : Nat) (x1 : Int32) (x2 : Int32) (x3 : Int32) (x4 : Int32) : f_X8_secondsWithSeveral_W9 fu σ k0 (n + 1) x1 x2 x3 x4 = f_X8_secondsWithSeveral_L9 fu σ k0 (f_X8_secondsWithSeveral_W9 fu σ k0 n) x1 x2 x3 x4 := rfl
def f_X8_secondsWithSeveral (fu : Nat) (σ : gSt) (k0 : Nat) : Option (Int32) :=
  (f_X8_secondsWithSeveral_W9 fu σ k0 fu 0 0 0 0)
def f_X7_setting (fu : Nat) (σ : gSt) (k0 : Nat) : Option (Int32) :=
  (some (σ k0 3))
def f_X5_ofAll (fu : Nat) (σ : gSt) (k0 : Nat) (p1 : Int32) : Option (Int32) :=
  (if p1 = 0 then ((f_X8_size fu σ (k0 + 10)).bind fun v104 => (some v104)) else (if p1 = 1 then ((f_X4_asSet fu σ (k0 + 19)).bind fun v112 => ((f_J6_bitCount_0f7a4 fu σ v112).bind fun v115 => (some v115))) else (if p1 = 2 then ((f_X8_placesInAll fu σ (k0 + 10)).bind fun v123 => (some v123)) else (if p1 = 3 then ((f_X0_size fu σ (k0 + 17)).bind fun v131 => (some v131)) else (if p1 = 4 then ((f_X8_turnsOf fu σ (k0 + 10) (-1)).bind fun v140 => (some v140)) else (if p1 = 5 then ((f_X8_overlappingPairs fu σ (k0 + 10)).bind fun v148 => (some v148)) else (if p1 = 6 then ((f_X8_secondsWithAny fu σ (k0 + 10)).bind fun v156 => (some v156)) else (if p1 = 7 then ((f_X8_secondsWithSeveral fu σ (k0 + 10)).bind fun v164 => (some v164)) else (if p1 = 8 then (some (-1000001)) else (if p1 = 9 then (some (-1000001)) else (if p1 = 10 then ((f_X4_asSet fu σ (k0 + 19)).bind fun v172 => (some v172)) else (if p1 = 11 then (some (-1000001)) else (if p1 = 12 then (some (-1000001)) else (if p1 = 13 then (some (-1000001)) else (if p1 = 14 then (some (-1000001)) else (if p1 = 15 then (some (-1000001)) else (if p1 = 16 then (some (-1000001)) else (if p1 = 17 then (some (-1000001)) else (if p1 = 18 then (some (-1000001)) else (if p1 = 19 then (some (-1000001)) else (if p1 = 20 then ((f_X7_setting fu σ (k0 + 9)).bind fun v180 => (some v180)) else (some (-1000001)))))))))))))))))))))))
def f_X9_count (fu : Nat) (σ : gSt) (k0 : Nat) (p1 : Int32) : Option (Int32) :=
  (if p1 = 8 then ((f_X1_size fu σ (k0 + 8)).bind fun v32 => (some v32)) else (if p1 = 9 then ((f_X6_length fu σ (k0 + 6)).bind fun v40 => (some v40)) else ((f_X5_ofAll fu σ (k0 + 1) p1).bind fun v49 => (some v49))))
def f_X10_voicesAll_L4 (fu : Nat) (σ : gSt) (k0 : Nat) (ag4 : Int32 → Int32 → Option (Int32)) (x1 : Int32) (x2 : Int32) : Option (Int32) :=
  (if 6 ≤ x2 then (some x1) else ((rd 284 σ (k0 + 1) (276 + x2)).bind fun v20 => (lt ((if v20 ≤ 0 then 0 else (1 <<< (x2 &&& 31))) : Int32) fun w21 => (ag4 (x1 ||| w21) (x2 + 1)))))
def f_X10_voicesAll_W4 (fu : Nat) (σ : gSt) (k0 : Nat) : Nat → Int32 → Int32 → Option (Int32)
  | 0, _, _ => none
  | n + 1, x1, x2 => f_X10_voicesAll_L4 fu σ k0 (f_X10_voicesAll_W4 fu σ k0 n) x1 x2
theorem f_X10_voicesAll_W4_0 (fu : Nat) (σ : gSt) (k0 : Nat) (x1 : Int32) (x2 : Int32) : f_X10_voicesAll_W4 fu σ k0 0 x1 x2 = none := rfl
theorem f_X10_voicesAll_W4_s (fu : Nat) (σ : gSt) (k0 : Nat) (n : Nat) (x1 : Int32) (x2 : Int32) : f_X10_voicesAll_W4 fu σ k0 (n + 1) x1 x2 = f_X10_voicesAll_L4 fu σ k0 (f_X10_voicesAll_W4 fu σ k0 n) x1 x2 := rfl
def f_X10_voicesAll (fu : Nat) (σ : gSt) (k0 : Nat) : Option (Int32) :=
  (f_X10_voicesAll_W4 fu σ k0 fu 0 0)
def f_X10_ones_L4 (fu : Nat) (σ : gSt) (p0 : Int32) (ag4 : Int32 → Int32 → Option (Int32)) (x1 : Int32) (x2 : Int32) : Option (Int32) :=
  (if x2 = 0 then (some x1) else (ag4 (x1 + 1) (x2 &&& (x2 - 1))))
def f_X10_ones_W4 (fu : Nat) (σ : gSt) (p0 : Int32) : Nat → Int32 → Int32 → Option (Int32)
  | 0, _, _ => none
  | n + 1, x1, x2 => f_X10_ones_L4 fu σ p0 (f_X10_ones_W4 fu σ p0 n) x1 x2
theorem f_X10_ones_W4_0 (fu : Nat) (σ : gSt) (p0 : Int32) (x1 : Int32) (x2 : Int32) : f_X10_ones_W4 fu σ p0 0 x1 x2 = none := rfl
theorem f_X10_ones_W4_s (fu : Nat) (σ : gSt) (p0 : Int32) (n : Nat) (x1 : Int32) (x2 : Int32) : f_X10_ones_W4 fu σ p0 (n + 1) x1 x2 = f_X10_ones_L4 fu σ p0 (f_X10_ones_W4 fu σ p0 n) x1 x2 := rfl
def f_X10_ones (fu : Nat) (σ : gSt) (p0 : Int32) : Option (Int32) :=
  (f_X10_ones_W4 fu σ p0 fu 0 p0)
def f_X10_ofTurns_L4 (fu : Nat) (σ : gSt) (k0 : Nat) (p1 : Int32) (ag4 : Int32 → Int32 → Option (Int32)) (x2 : Int32) (x3 : Int32) : Option (Int32) :=
  (if (σ (k0 + 1) 282) ≤ x3 then (if p1 = 5 then ((dv x2 2).bind fun v77 => (some v77)) else (some x2)) else (if p1 = 2 then ((f_X10_of fu σ k0 x3 4).bind fun v25 => (ag4 (x2 + v25) (x3 + 1))) else (if p1 = 4 then ((f_X10_of fu σ k0 x3 3).bind fun v39 => (lt ((if 0 ≤ v39 then 0 else 1) : Int32) fun w42 => (ag4 (x2 + w42) (x3 + 1)))) else ((f_X10_overlapping fu σ k0 x3 0).bind fun v56 => ((f_X10_ones fu σ v56).bind fun v59 => (ag4 (x2 + v59) (x3 + 1)))))))
def f_X10_ofTurns_W4 (fu : Nat) (σ : gSt) (k0 : Nat) (p1 : Int32) : Nat → Int32 → Int32 → Option (Int32)
  | 0, _, _ => none
  | n + 1, x2, x3 => f_X10_ofTurns_L4 fu σ k0 p1 (f_X10_ofTurns_W4 fu σ k0 p1 n) x2 x3
theorem f_X10_ofTurns_W4_0 (fu : Nat) (σ : gSt) (k0 : Nat) (p1 : Int32) (x2 : Int32) (x3 : Int32) : f_X10_ofTurns_W4 fu σ k0 p1 0 x2 x3 = none := rfl
theorem f_X10_ofTurns_W4_s (fu : Nat) (σ : gSt) (k0 : Nat) (p1 : Int32) (n : Nat) (x2 : Int32) (x3 : Int32) : f_X10_ofTurns_W4 fu σ k0 p1 (n + 1) x2 x3 = f_X10_ofTurns_L4 fu σ k0 p1 (f_X10_ofTurns_W4 fu σ k0 p1 n) x2 x3 := rfl
def f_X10_ofTurns (fu : Nat) (σ : gSt) (k0 : Nat) (p1 : Int32) : Option (Int32) :=
  (f_X10_ofTurns_W4 fu σ k0 p1 fu 0 0)
def f_X10_corrections_L4 (fu : Nat) (σ : gSt) (k0 : Nat) (ag4 : Int32 → Int32 → Option (Int32)) (x1 : Int32) (x2 : Int32) : Option (Int32) :=
  (if 16 ≤ x2 then (some x1) else ((rd 284 σ (k0 + 1) (260 + x2)).bind fun v20 => (lt ((if v20 < 0 then 0 else 1) : Int32) fun w21 => (ag4 (x1 + w21) (x2 + 1)))))
def f_X10_corrections_W4 (fu : Nat) (σ : gSt) (k0 : Nat) : Nat → Int32 → Int32 → Option (Int32)
  | 0, _, _ => none
  | n + 1, x1, x2 => f_X10_corrections_L4 fu σ k0 (f_X10_corrections_W4 fu σ k0 n) x1 x2
theorem f_X10_corrections_W4_0 (fu : Nat) (σ : gSt) (k0 : Nat) (x1 : Int32) (x2 : Int32) : f_X10_corrections_W4 fu σ k0 0 x1 x2 = none := rfl
theorem f_X10_corrections_W4_s (fu : Nat) (σ : gSt) (k0 : Nat) (n : Nat) (x1 : Int32) (x2 : Int32) : f_X10_corrections_W4 fu σ k0 (n + 1) x1 x2 = f_X10_corrections_L4 fu σ k0 (f_X10_corrections_W4 fu σ k0 n) x1 x2 := rfl
def f_X10_corrections (fu : Nat) (σ : gSt) (k0 : Nat) : Option (Int32) :=
  (f_X10_corrections_W4 fu σ k0 fu 0 0)
def f_X10_seconds_L4 (fu : Nat) (σ : gSt) (k0 : Nat) (p1 : Int32) (ag4 : Int32 → Int32 → Option (Int32)) (x2 : Int32) (x3 : Int32) : Option (Int32) :=
  (if 1999 < x3 then (some x2) else ((f_X10_going fu σ k0 x3).bind fun v14 => ((f_X10_ones fu σ v14).bind fun v17 => (lt ((if v17 < p1 then 0 else 1) : Int32) fun w21 => (ag4 (x2 + w21) (x3 + 1))))))
def f_X10_seconds_W4 (fu : Nat) (σ : gSt) (k0 : Nat) (p1 : Int32) : Nat → Int32 → Int32 → Option (Int32)
  | 0, _, _ => none
  | n + 1, x2, x3 => f_X10_seconds_L4 fu σ k0 p1 (f_X10_seconds_W4 fu σ k0 p1 n) x2 x3
theorem f_X10_seconds_W4_0 (fu : Nat) (σ : gSt) (k0 : Nat) (p1 : Int32) (x2 : Int32) (x3 : Int32) : f_X10_seconds_W4 fu σ k0 p1 0 x2 x3 = none := rfl
theorem f_X10_seconds_W4_s (fu : Nat) (σ : gSt) (k0 : Nat) (p1 : Int32) (n : Nat) (x2 : Int32) (x3 : Int32) : f_X10_seconds_W4 fu σ k0 p1 (n + 1) x2 x3 = f_X10_seconds_L4 fu σ k0 p1 (f_X10_seconds_W4 fu σ k0 p1 n) x2 x3 := rfl
def f_X10_seconds (fu : Nat) (σ : gSt) (k0 : Nat) (p1 : Int32) : Option (Int32) :=
  (f_X10_seconds_W4 fu σ k0 p1 fu 0 0)
def f_X10_count_J117 (fu : Nat) (σ : gSt) (k0 : Nat) (p1 : Int32) : Option (Int32) :=
  ((f_X10_ofTurns fu σ k0 p1).bind fun v119 => (some v119))
def f_X10_count_J128 (fu : Nat) (σ : gSt) (k0 : Nat) (p1 : Int32) : Option (Int32) :=
  ((f_X10_seconds fu σ k0 (p1 - 5)).bind fun v132 => (some v132))
def f_X10_count (fu : Nat) (σ : gSt) (k0 : Nat) (p1 : Int32) : Option (Int32) :=
  (if p1 = 0 then (some (σ (k0 + 1) 282)) else (if p1 = 1 then ((f_X10_voicesAll fu σ k0).bind fun v110 => ((f_X10_ones fu σ v110).bind fun v113 => (some v113))) else (if p1 = 2 then (f_X10_count_J117 fu σ k0 p1) else (if p1 = 3 then ((f_X10_corrections fu σ k0).bind fun v124 => (some v124)) else (if p1 = 4 then (f_X10_count_J117 fu σ k0 p1) else (if p1 = 5 then (f_X10_count_J117 fu σ k0 p1) else (if p1 = 6 then (f_X10_count_J128 fu σ k0 p1) else (if p1 = 7 then (f_X10_count_J128 fu σ k0 p1) else (if p1 = 8 then (some (σ k0 3)) else (if p1 = 9 then (some (σ k0 6)) else (if p1 = 10 then ((f_X10_voicesAll fu σ k0).bind fun v147 => (some v147)) else (if p1 = 11 then (some (-1000001)) else (if p1 = 12 then (some (-1000001)) else (if p1 = 13 then (some (-1000001)) else (if p1 = 14 then (some (-1000001)) else (if p1 = 15 then (some (-1000001)) else (if p1 = 16 then (some (-1000001)) else (if p1 = 17 then (some (-1000001)) else (if p1 = 18 then (some (-1000001)) else (if p1 = 19 then (some (-1000001)) else (if p1 = 20 then (some (σ (k0 + 1) 283)) else (some (-1000001)))))))))))))))))))))))
def f_X1_isEmpty (fu : Nat) (σ : gSt) (k0 : Nat) : Option (Int32) :=
  (if (σ k0 2) = 0 then (some 1) else (some 0))
def f_X1_restoreLatest (fu : Nat) (σ : gSt) (k0 : Nat) (k1 : Nat) : Option (Int32 × gSt) :=
  (if (σ k0 2) ≤ 0 then (some ((σ k0 2), σ)) else (lt (gu σ k0 (upd (σ k0) 2 ((σ k0 2) - 1))) fun σ14 => ((f_X1_stateAt fu σ14 k0 (σ14 k0 2)).bind fun q22 => ((f_X1_copy fu σ14 q22 k1).bind fun σ26 => (some ((σ26 k0 2), σ26))))))
def f_X9_undo (fu : Nat) (σ : gSt) (k0 : Nat) : Option (Int32 × gSt) :=
  ((f_X1_isEmpty fu σ (k0 + 8)).bind fun v4 => (if v4 = 0 then (b2 (f_X1_restoreLatest fu σ (k0 + 8) (k0 + 10)) fun v21 σ21 => (some (v21, σ21))) else (some ((-1000002), σ))))
def f_X10_undo_L22 (fu : Nat) (k0 : Nat) (ag22 : Int32 → gSt → Option (Int32 × gSt)) (x1 : Int32) (σ : gSt) : Option (Int32 × gSt) :=
  (if 284 ≤ x1 then (some ((σ k0 3), σ)) else ((rd 1136 σ (k0 + 2) ((284 * (σ k0 3)) + x1)).bind fun v48 => ((wr 284 σ (k0 + 1) x1 v48).bind fun σ49 => (ag22 (x1 + 1) σ49))))
def f_X10_undo_W22 (fu : Nat) (k0 : Nat) : Nat → Int32 → gSt → Option (Int32 × gSt)
  | 0, _, _ => none
  | n + 1, x1, σ => f_X10_undo_L22 fu k0 (f_X10_undo_W22 fu k0 n) x1 σ
theorem f_X10_undo_W22_0 (fu : Nat) (k0 : Nat) (x1 : Int32) (σ : gSt) : f_X10_undo_W22 fu k0 0 x1 σ = none := rfl
theorem f_X10_undo_W22_s (fu : Nat) (k0 : Nat) (n : Nat) (x1 : Int32) (σ : gSt) : f_X10_undo_W22 fu k0 (n + 1) x1 σ = f_X10_undo_L22 fu k0 (f_X10_undo_W22 fu k0 n) x1 σ := rfl
def f_X10_undo (fu : Nat) (σ : gSt) (k0 : Nat) : Option (Int32 × gSt) :=
  (if (σ k0 3) = 0 then (some ((-1000002), σ)) else (lt (gu σ k0 (upd (σ k0) 3 ((σ k0 3) - 1))) fun σ17 => (f_X10_undo_W22 fu k0 fu 0 σ17)))
def f_X6_isFull (fu : Nat) (σ : gSt) (k0 : Nat) : Option (Int32) :=
  (if (σ k0 1) < 60 then (some 0) else (some 1))
def f_X6_append (fu : Nat) (σ : gSt) (k0 : Nat) (p1 : Int32) : Option (Int32 × gSt) :=
  ((f_X9_isWithin fu σ (σ k0 1) 0 59).bind fun v7 => (if v7 = 0 then (some ((σ k0 1), σ)) else ((wr 60 σ (k0 + 1) (σ k0 1) p1).bind fun σ22 => (lt (gu σ22 k0 (upd (σ22 k0) 1 ((σ22 k0 1) + 1))) fun σ30 => (some ((σ30 k0 1), σ30))))))
def f_X9_type (fu : Nat) (σ : gSt) (k0 : Nat) (p1 : Int32) : Option (Int32 × gSt) :=
  ((f_X9_isWithin fu σ p1 32 126).bind fun v5 => (if v5 = 0 then (some ((-1000001), σ)) else ((f_X6_isFull fu σ (k0 + 6)).bind fun v18 => (if v18 = 0 then (b2 (f_X6_append fu σ (k0 + 6) p1) fun v32 σ32 => (some (v32, σ32))) else (some ((-1000003), σ))))))
def f_X10_type (fu : Nat) (σ : gSt) (k0 : Nat) (p1 : Int32) : Option (Int32 × gSt) :=
  ((f_X10_in fu σ p1 32 126).bind fun v5 => (if v5 = 0 then (some ((-1000001), σ)) else (if (σ k0 6) = 60 then (some ((-1000003), σ)) else ((wr 60 σ (k0 + 4) (σ k0 6) p1).bind fun σ35 => (lt (gu σ35 k0 (upd (σ35 k0) 6 ((σ35 k0 6) + 1))) fun σ43 => (some ((σ43 k0 6), σ43)))))))
def f_X6_empty (fu : Nat) (σ : gSt) (k0 : Nat) : Option (Int32 × gSt) :=
  (lt (gu σ k0 (upd (σ k0) 1 0)) fun σ7 => (some ((σ k0 1), σ7)))
def f_X9_clearText (fu : Nat) (σ : gSt) (k0 : Nat) : Option (Int32 × gSt) :=
  (b2 (f_X6_empty fu σ (k0 + 6)) fun v4 σ4 => (some (v4, σ4)))
def f_X10_clearText (fu : Nat) (σ : gSt) (k0 : Nat) : Option (Int32 × gSt) :=
  (lt (gu σ k0 (upd (σ k0) 6 0)) fun σ7 => (some ((σ k0 6), σ7)))
def f_X6_characterAt (fu : Nat) (σ : gSt) (k0 : Nat) (p1 : Int32) : Option (Int32) :=
  (if p1 < 0 then (some (-1)) else (if (σ k0 1) ≤ p1 then (some (-1)) else (if 60 ≤ p1 then (some (-1)) else ((rd 60 σ (k0 + 1) p1).bind fun v23 => (some v23)))))
def f_X2_numbersOf (fu : Nat) (σ : gSt) (p0 : Int32) : Option (Int32) :=
  (if p0 = 99 then (some 2) else (if p0 = 103 then (some 2) else (if p0 = 115 then (some 1) else (if p0 = 116 then (some 3) else (if p0 = 119 then (some 2) else (some 0))))))
def f_X2_readNumber_J86 (fu : Nat) (k0 : Nat) (k1 : Nat) (p2 : Int32) (p3 : Int32) (x5 : Int32) (σ : gSt) : Option (Int32 × gSt) :=
  (if x5 ≤ 0 then (some (0, σ)) else (some (1, σ)))
def f_X2_readNumber_J69 (fu : Nat) (k0 : Nat) (k1 : Nat) (p2 : Int32) (p3 : Int32) (x4 : Int32) (x5 : Int32) (σ : gSt) : Option (Int32 × gSt) :=
  ((f_X9_isWithin fu σ p3 0 2).bind fun v72 => (if v72 = 0 then (f_X2_readNumber_J86 fu k0 k1 p2 p3 x5 σ) else ((wr 3 σ (k0 + 1) p3 x4).bind fun σ85 => (f_X2_readNumber_J86 fu k0 k1 p2 p3 x5 σ85))))
def f_X2_readNumber_L6 (fu : Nat) (k0 : Nat) (k1 : Nat) (p2 : Int32) (p3 : Int32) (ag6 : Int32 → Int32 → gSt → Option (Int32 × gSt)) (x4 : Int32) (x5 : Int32) (σ : gSt) : Option (Int32 × gSt) :=
  (if 4 ≤ x5 then (f_X2_readNumber_J69 fu k0 k1 p2 p3 x4 x5 σ) else ((f_X6_characterAt fu σ k1 (p2 + (σ k0 2))).bind fun v19 => ((f_X9_isWithin fu σ v19 48 57).bind fun v26 => (if v26 = 0 then (f_X2_readNumber_J69 fu k0 k1 p2 p3 x4 x5 σ) else ((f_X6_characterAt fu σ k1 (p2 + (σ k0 2))).bind fun v44 => (lt (gu σ k0 (upd (σ k0) 2 ((σ k0 2) + 1))) fun σ60 => (ag6 (((x4 * 10) + v44) - 48) (x5 + 1) σ60)))))))
def f_X2_readNumber_W6 (fu : Nat) (k0 : Nat) (k1 : Nat) (p2 : Int32) (p3 : Int32) : Nat → Int32 → Int32 → gSt → Option (Int32 × gSt)
  | 0, _, _, _ => none
  | n + 1, x4, x5, σ => f_X2_readNumber_L6 fu k0 k1 p2 p3 (f_X2_readNumber_W6 fu k0 k1 p2 p3 n) x4 x5 σ
theorem f_X2_readNumber_W6_0 (fu : Nat) (k0 : Nat) (k1 : Nat) (p2 : Int32) (p3 : Int32) (x4 : Int32) (x5 : Int32) (σ : gSt) : f_X2_readNumber_W6 fu k0 k1 p2 p3 0 x4 x5 σ = none := rfl
theorem f_X2_readNumber_W6_s (fu : Nat) (k0 : Nat) (k1 : Nat) (p2 : Int32) (p3 : Int32) (n : Nat) (x4 : Int32) (x5 : Int32) (σ : gSt) : f_X2_readNumber_W6 fu k0 k1 p2 p3 (n + 1) x4 x5 σ = f_X2_readNumber_L6 fu k0 k1 p2 p3 (f_X2_readNumber_W6 fu k0 k1 p2 p3 n) x4 x5 σ := rfl
def f_X2_readNumber (fu : Nat) (σ : gSt) (k0 : Nat) (k1 : Nat) (p2 : Int32) (p3 : Int32) : Option (Int32 × gSt) :=
  (f_X2_readNumber_W6 fu k0 k1 p2 p3 fu 0 0 σ)
def f_X2_readFrom_J61 (fu : Nat) (k0 : Nat) (k1 : Nat) (p2 : Int32) (ag40 : Int32 → gSt → Option (gSt)) (x3 : Int32) (x4 : Int32) (s1 : Int32) (σ : gSt) : Option (gSt) :=
  (b2 (f_X2_readNumber fu σ k0 k1 p2 x4) fun v68 σ68 => (if v68 = 0 then (some σ68) else ((f_X6_characterAt fu σ68 k1 (p2 + (σ68 k0 2))).bind fun v81 => (if v81 = s1 then (lt (gu σ68 k0 (upd (σ68 k0) 2 ((σ68 k0 2) + 1))) fun σ97 => (ag40 (x4 + 1) σ97)) else (some σ68)))))
def f_X2_readFrom_L40 (fu : Nat) (k0 : Nat) (k1 : Nat) (p2 : Int32) (x3 : Int32) (ag40 : Int32 → gSt → Option (gSt)) (x4 : Int32) (σ : gSt) : Option (gSt) :=
  (if x3 ≤ x4 then (lt (gu σ k0 (upd (σ k0) 3 1)) fun σ108 => (some σ108)) else (lt ((if (x3 - 1) ≤ x4 then 59 else 44) : Int32) fun w51 => (f_X2_readFrom_J61 fu k0 k1 p2 ag40 x3 x4 w51 σ)))
def f_X2_readFrom_W40 (fu : Nat) (k0 : Nat) (k1 : Nat) (p2 : Int32) (x3 : Int32) : Nat → Int32 → gSt → Option (gSt)
  | 0, _, _ => none
  | n + 1, x4, σ => f_X2_readFrom_L40 fu k0 k1 p2 x3 (f_X2_readFrom_W40 fu k0 k1 p2 x3 n) x4 σ
theorem f_X2_readFrom_W40_0 (fu : Nat) (k0 : Nat) (k1 : Nat) (p2 : Int32) (x3 : Int32) (x4 : Int32) (σ : gSt) : f_X2_readFrom_W40 fu k0 k1 p2 x3 0 x4 σ = none := rfl
theorem f_X2_readFrom_W40_s (fu : Nat) (k0 : Nat) (k1 : Nat) (p2 : Int32) (x3 : Int32) (n : Nat) (x4 : Int32) (σ : gSt) : f_X2_readFrom_W40 fu k0 k1 p2 x3 (n + 1) x4 σ = f_X2_readFrom_L40 fu k0 k1 p2 x3 (f_X2_readFrom_W40 fu k0 k1 p2 x3 n) x4 σ := rfl
def f_X2_readFrom (fu : Nat) (σ : gSt) (k0 : Nat) (k1 : Nat) (p2 : Int32) : Option (gSt) :=
  ((f_X6_characterAt fu σ k1 p2).bind fun v3 => (lt (gu σ k0 (upd (σ k0) 1 v3)) fun σ6 => (lt (gu σ6 k0 (upd (σ6 k0) 2 0)) fun σ11 => (lt (gu σ11 k0 (upd (σ11 k0) 3 0)) fun σ16 => ((f_X2_numbersOf fu σ16 (σ16 k0 1)).bind fun v23 => (if v23 = 0 then (some σ16) else (lt (gu σ16 k0 (upd (σ16 k0) 2 1)) fun σ34 => (f_X2_readFrom_W40 fu k0 k1 p2 v23 fu 0 σ34))))))))
def f_X2_isWhole (fu : Nat) (σ : gSt) (k0 : Nat) : Option (Int32) :=
  (zb (σ k0 3))
def f_X2_doOn (fu : Nat) (σ : gSt) (k0 : Nat) (k1 : Nat) : Option (Int32 × gSt) :=
  (if (σ k0 1) = 99 then (b2 (f_X7_addCorrection fu σ k1 (σ (k0 + 1) 0) (σ (k0 + 1) 1)) fun v109 σ109 => (some (v109, σ109))) else (if (σ k0 1) = 103 then (b2 (f_X7_giveTurn fu σ k1 (σ (k0 + 1) 0) (σ (k0 + 1) 1)) fun v126 σ126 => (some (v126, σ126))) else (if (σ k0 1) = 115 then (b2 (f_X7_addSpeaker fu σ k1 (σ (k0 + 1) 0)) fun v137 σ137 => (some (v137, σ137))) else (if (σ k0 1) = 116 then (b2 (f_X7_addTurn fu σ k1 (σ (k0 + 1) 0) (σ (k0 + 1) 1) (σ (k0 + 1) 2)) fun v75 σ75 => (some (v75, σ75))) else (if (σ k0 1) = 119 then (b2 (f_X7_addTerm fu σ k1 (σ (k0 + 1) 0) (σ (k0 + 1) 1)) fun v92 σ92 => (some (v92, σ92))) else (some ((-1000001), σ)))))))
def f_X2_length (fu : Nat) (σ : gSt) (k0 : Nat) : Option (Int32) :=
  (some (σ k0 2))
def f_X3_noteAnswer (fu : Nat) (σ : gSt) (k0 : Nat) (p1 : Int32) : Option (gSt) :=
  ((f_X2_isWhole fu σ (k0 + 1)).bind fun v4 => (if v4 = 0 then (lt (gu σ k0 (upd (σ k0) 5 1)) fun σ12 => ((f_X2_length fu σ12 (k0 + 1)).bind fun v20 => (lt (gu σ12 k0 (upd (σ12 k0) 6 v20)) fun σ23 => (some σ23)))) else (if 0 ≤ p1 then ((f_X2_length fu σ (k0 + 1)).bind fun v55 => (lt (gu σ k0 (upd (σ k0) 3 ((σ k0 3) + v55))) fun σ59 => (lt (gu σ59 k0 (upd (σ59 k0) 4 ((σ59 k0 4) + 1))) fun σ69 => (some σ69)))) else (lt (gu σ k0 (upd (σ k0) 5 2)) fun σ35 => (lt (gu σ35 k0 (upd (σ35 k0) 6 p1)) fun σ40 => (some σ40))))))
def f_X3_run_J99 (fu : Nat) (k0 : Nat) (k1 : Nat) (ag28 : gSt → Option (gSt)) (s2 : Int32) (σ : gSt) : Option (gSt) :=
  ((f_X3_noteAnswer fu σ k0 s2).bind fun σ99 => (ag28 σ99))
def f_X3_run_L28 (fu : Nat) (k0 : Nat) (k1 : Nat) (ag28 : gSt → Option (gSt)) (σ : gSt) : Option (gSt) :=
  (if 60 ≤ (σ k0 4) then (some σ) else ((f_X6_length fu σ (k0 + 3)).bind fun v45 => (if v45 ≤ (σ k0 3) then (some σ) else (if (σ k0 5) = 0 then ((f_X2_readFrom fu σ (k0 + 1) (k0 + 3) (σ k0 3)).bind fun σ70 => ((f_X2_isWhole fu σ70 (k0 + 1)).bind fun v78 => (if v78 = 0 then (f_X3_run_J99 fu k0 k1 ag28 (-1) σ70) else (b2 (f_X2_doOn fu σ70 (k0 + 1) (k0 + 79)) fun v92 σ92 => (f_X3_run_J99 fu k0 k1 ag28 v92 σ92))))) else (some σ)))))
def f_X3_run_W28 (fu : Nat) (k0 : Nat) (k1 : Nat) : Nat → gSt → Option (gSt)
  | 0, _ => none
  | n + 1, σ => f_X3_run_L28 fu k0 k1 (f_X3_run_W28 fu k0 k1 n) σ
theorem f_X3_run_W28_0 (fu : Nat) (k0 : Nat) (k1 : Nat) (σ : gSt) : f_X3_run_W28 fu k0 k1 0 σ = none := rfl
theorem f_X3_run_W28_s (fu : Nat) (k0 : Nat) (k1 : Nat) (n : Nat) (σ : gSt) : f_X3_run_W28 fu k0 k1 (n + 1) σ = f_X3_run_L28 fu k0 k1 (f_X3_run_W28 fu k0 k1 n) σ := rfl
def f_X3_run (fu : Nat) (σ : gSt) (k0 : Nat) (k1 : Nat) : Option (gSt) :=
  ((f_X7_takeFrom fu σ (k0 + 79) k1).bind fun σ5 => (lt (gu σ5 k0 (upd (σ5 k0) 3 0)) fun σ10 => (lt (gu σ10 k0 (upd (σ10 k0) 4 0)) fun σ15 => (lt (gu σ15 k0 (upd (σ15 k0) 5 0)) fun σ20 => (lt (gu σ20 k0 (upd (σ20 k0) 6 0)) fun σ25 => (f_X3_run_W28 fu k0 k1 fu σ25))))))
def f_X3_foundFault (fu : Nat) (σ : gSt) (k0 : Nat) : Option (Int32) :=
  (if (σ k0 5) = 0 then (some 0) else (some 1))
def f_X3_position (fu : Nat) (σ : gSt) (k0 : Nat) : Option (Int32) :=
  (some (σ k0 3))
def f_X3_reason (fu : Nat) (σ : gSt) (k0 : Nat) : Option (Int32) :=
  (some (σ k0 5))
def f_X3_cause (fu : Nat) (σ : gSt) (k0 : Nat) : Option (Int32) :=
  (some (σ k0 6))
def f_X9_fault (fu : Nat) (σ : gSt) (k0 : Nat) (p1 : Int32) : Option (Int32 × gSt) :=
  ((f_X9_isWithin fu σ p1 0 2).bind fun v3 => (if v3 = 0 then (some ((-1000001), σ)) else ((f_X3_run fu σ (k0 + 3) (k0 + 10)).bind fun σ20 => ((f_X3_foundFault fu σ20 (k0 + 3)).bind fun v27 => (if v27 = 0 then (some ((-1000004), σ20)) else (if p1 = 0 then ((f_X3_position fu σ20 (k0 + 3)).bind fun v68 => (some (v68, σ20))) else (if p1 = 1 then ((f_X3_reason fu σ20 (k0 + 3)).bind fun v76 => (some (v76, σ20))) else ((f_X3_cause fu σ20 (k0 + 3)).bind fun v84 => (some (v84, σ20))))))))))
def f_X10_copies_L2 (fu : Nat) (k0 : Nat) (n0 : Nat) (k1 : Nat) (n1 : Nat) (ag2 : Int32 → gSt → Option (gSt)) (x2 : Int32) (σ : gSt) : Option (gSt) :=
  (if 284 ≤ x2 then (some σ) else ((rd n0 σ k0 x2).bind fun v13 => ((wr n1 σ k1 x2 v13).bind fun σ14 => (ag2 (x2 + 1) σ14))))
def f_X10_copies_W2 (fu : Nat) (k0 : Nat) (n0 : Nat) (k1 : Nat) (n1 : Nat) : Nat → Int32 → gSt → Option (gSt)
  | 0, _, _ => none
  | n + 1, x2, σ => f_X10_copies_L2 fu k0 n0 k1 n1 (f_X10_copies_W2 fu k0 n0 k1 n1 n) x2 σ
theorem f_X10_copies_W2_0 (fu : Nat) (k0 : Nat) (n0 : Nat) (k1 : Nat) (n1 : Nat) (x2 : Int32) (σ : gSt) : f_X10_copies_W2 fu k0 n0 k1 n1 0 x2 σ = none := rfl
theorem f_X10_copies_W2_s (fu : Nat) (k0 : Nat) (n0 : Nat) (k1 : Nat) (n1 : Nat) (n : Nat) (x2 : Int32) (σ : gSt) : f_X10_copies_W2 fu k0 n0 k1 n1 (n + 1) x2 σ = f_X10_copies_L2 fu k0 n0 k1 n1 (f_X10_copies_W2 fu k0 n0 k1 n1 n) x2 σ := rfl
def f_X10_copies (fu : Nat) (σ : gSt) (k0 : Nat) (n0 : Nat) (k1 : Nat) (n1 : Nat) : Option (gSt) :=
  (f_X10_copies_W2 fu k0 n0 k1 n1 fu 0 σ)
def f_X10_isAt (fu : Nat) (σ : gSt) (k0 : Nat) (p1 : Int32) (p2 : Int32) : Option (Int32) :=
  (if (σ k0 6) ≤ (σ k0 9) then (some 0) else ((rd 60 σ (k0 + 4) (σ k0 9)).bind fun v19 => ((f_X10_in fu σ v19 p1 p2).bind fun v22 => (if v22 = 0 then (some 0) else (some 1)))))
def f_X10_numbersOf (fu : Nat) (σ : gSt) (p0 : Int32) : Option (Int32) :=
  (if p0 = 116 then (some 3) else (if p0 = 119 then (some 2) else (if p0 = 99 then (some 2) else (if p0 = 103 then (some 2) else (if p0 = 115 then (some 1) else (some 0))))))
def f_X10_number_J74 (fu : Nat) (k0 : Nat) (p1 : Int32) (x2 : Int32) (σ : gSt) : Option (Int32 × gSt) :=
  (if (σ k0 9) ≤ x2 then (some (0, σ)) else (some (1, σ)))
def f_X10_number_L12 (fu : Nat) (k0 : Nat) (p1 : Int32) (x2 : Int32) (ag12 : gSt → Option (Int32 × gSt)) (σ : gSt) : Option (Int32 × gSt) :=
  ((f_X10_isAt fu σ k0 48 57).bind fun v17 => (if v17 = 0 then (f_X10_number_J74 fu k0 p1 x2 σ) else (if 4 ≤ ((σ k0 9) - x2) then (f_X10_number_J74 fu k0 p1 x2 σ) else ((rd 3 σ (k0 + 7) p1).bind fun v45 => ((rd 60 σ (k0 + 4) (σ k0 9)).bind fun v55 => ((wr 3 σ (k0 + 7) p1 (((10 * v45) + v55) - 48)).bind fun σ60 => (lt (gu σ60 k0 (upd (σ60 k0) 9 ((σ60 k0 9) + 1))) fun σ68 => (ag12 σ68))))))))
def f_X10_number_W12 (fu : Nat) (k0 : Nat) (p1 : Int32) (x2 : Int32) : Nat → gSt → Option (Int32 × gSt)
  | 0, _ => none
  | n + 1, σ => f_X10_number_L12 fu k0 p1 x2 (f_X10_number_W12 fu k0 p1 x2 n) σ
theorem f_X10_number_W12_0 (fu : Nat) (k0 : Nat) (p1 : Int32) (x2 : Int32) (σ : gSt) : f_X10_number_W12 fu k0 p1 x2 0 σ = none := rfl
theorem f_X10_number_W12_s (fu : Nat) (k0 : Nat) (p1 : Int32) (x2 : Int32) (n : Nat) (σ : gSt) : f_X10_number_W12 fu k0 p1 x2 (n + 1) σ = f_X10_number_L12 fu k0 p1 x2 (f_X10_number_W12 fu k0 p1 x2 n) σ := rfl
def f_X10_number (fu : Nat) (σ : gSt) (k0 : Nat) (p1 : Int32) : Option (Int32 × gSt) :=
  ((wr 3 σ (k0 + 7) p1 0).bind fun σ11 => (f_X10_number_W12 fu k0 p1 (σ k0 9) fu σ11))
def f_X10_sign_J21 (fu : Nat) (k0 : Nat) (p1 : Int32) (x2 : Int32) (s3 : Int32) (s2 : Int32) (σ : gSt) : Option (Int32 × gSt) :=
  (lt (gu σ k0 (upd (σ k0) 9 (s2 + s3))) fun σ22 => ((zb x2).bind fun v26 => some (v26, σ22)))
def f_X10_sign (fu : Nat) (σ : gSt) (k0 : Nat) (p1 : Int32) : Option (Int32 × gSt) :=
  ((f_X10_isAt fu σ k0 p1 p1).bind fun v3 => (lt ((if v3 = 0 then 0 else 1) : Int32) fun w13 => (f_X10_sign_J21 fu k0 p1 v3 w13 (σ k0 9) σ)))
def f_X10_reads_J98 (fu : Nat) (k0 : Nat) (x2 : Int32) (σ : gSt) : Option (Int32 × gSt) :=
  (if x2 = 0 then (some (0, σ)) else (b2 (f_X10_sign fu σ k0 59) fun v105 σ105 => (if v105 = 0 then (some (0, σ105)) else (some (1, σ105)))))
def f_X10_reads_L60 (fu : Nat) (k0 : Nat) (x1 : Int32) (ag60 : Int32 → Int32 → gSt → Option (Int32 × gSt)) (x2 : Int32) (x3 : Int32) (σ : gSt) : Option (Int32 × gSt) :=
  (if x1 ≤ x3 then (f_X10_reads_J98 fu k0 x2 σ) else (if x2 = 0 then (f_X10_reads_J98 fu k0 x2 σ) else (b2 (f_X10_sign fu σ k0 44) fun v72 σ72 => (if v72 = 0 then (ag60 0 (x3 + 1) σ72) else (b2 (f_X10_number fu σ72 k0 x3) fun v80 σ80 => (lt ((if v80 = 0 then 0 else 1) : Int32) fun w83 => (ag60 w83 (x3 + 1) σ80)))))))
def f_X10_reads_W60 (fu : Nat) (k0 : Nat) (x1 : Int32) : Nat → Int32 → Int32 → gSt → Option (Int32 × gSt)
  | 0, _, _, _ => none
  | n + 1, x2, x3, σ => f_X10_reads_L60 fu k0 x1 (f_X10_reads_W60 fu k0 x1 n) x2 x3 σ
theorem f_X10_reads_W60_0 (fu : Nat) (k0 : Nat) (x1 : Int32) (x2 : Int32) (x3 : Int32) (σ : gSt) : f_X10_reads_W60 fu k0 x1 0 x2 x3 σ = none := rfl
theorem f_X10_reads_W60_s (fu : Nat) (k0 : Nat) (x1 : Int32) (n : Nat) (x2 : Int32) (x3 : Int32) (σ : gSt) : f_X10_reads_W60 fu k0 x1 (n + 1) x2 x3 σ = f_X10_reads_L60 fu k0 x1 (f_X10_reads_W60 fu k0 x1 n) x2 x3 σ := rfl
def f_X10_reads_J25 (fu : Nat) (k0 : Nat) (s2 : Int32) (σ : gSt) : Option (Int32 × gSt) :=
  (lt (gu σ k0 (upd (σ k0) 14 s2)) fun σ25 => ((f_X10_numbersOf fu σ25 (σ25 k0 14)).bind fun v32 => (if v32 = 0 then (some (0, σ25)) else (lt (gu σ25 k0 (upd (σ25 k0) 9 ((σ25 k0 9) + 1))) fun σ49 => (b2 (f_X10_number fu σ49 k0 0) fun v54 σ54 => (f_X10_reads_W60 fu k0 v32 fu v54 1 σ54))))))
def f_X10_reads (fu : Nat) (σ : gSt) (k0 : Nat) : Option (Int32 × gSt) :=
  ((f_X10_isAt fu σ k0 33 126).bind fun v6 => (if v6 = 0 then (f_X10_reads_J25 fu k0 0 σ) else ((rd 60 σ (k0 + 4) (σ k0 9)).bind fun v20 => (f_X10_reads_J25 fu k0 v20 σ))))
def f_X10_calls (fu : Nat) (σ : gSt) (k0 : Nat) : Option (Int32 × gSt) :=
  (if (σ k0 14) = 99 then (b2 (f_X10_correct fu σ k0 (σ (k0 + 7) 0) (σ (k0 + 7) 1)) fun v101 σ101 => (some (v101, σ101))) else (if (σ k0 14) = 115 then (b2 (f_X10_speaker fu σ k0 (σ (k0 + 7) 0)) fun v112 σ112 => (some (v112, σ112))) else (if (σ k0 14) = 116 then (b2 (f_X10_turn fu σ k0 (σ (k0 + 7) 0) (σ (k0 + 7) 1) (σ (k0 + 7) 2)) fun v67 σ67 => (some (v67, σ67))) else (if (σ k0 14) = 119 then (b2 (f_X10_say fu σ k0 (σ (k0 + 7) 0) (σ (k0 + 7) 1)) fun v84 σ84 => (some (v84, σ84))) else (b2 (f_X10_give fu σ k0 (σ (k0 + 7) 0) (σ (k0 + 7) 1)) fun v129 σ129 => (some (v129, σ129)))))))
def f_X10_plays_J124 (fu : Nat) (k0 : Nat) (x1 : Int32) (σ : gSt) : Option (Int32 × gSt) :=
  (lt (gu σ k0 (upd (σ k0) 4 0)) fun σ126 => ((zb x1).bind fun v130 => some (v130, σ126)))
def f_X10_plays_J108 (fu : Nat) (k0 : Nat) (ag22 : Int32 → gSt → Option (Int32 × gSt)) (x1 : Int32) (s2 : Int32) (σ : gSt) : Option (Int32 × gSt) :=
  (lt (gu σ k0 (upd (σ k0) 12 s2)) fun σ108 => (lt (gu σ108 k0 (upd (σ108 k0) 13 ((σ108 k0 13) + 1))) fun σ118 => (ag22 x1 σ118)))
def f_X10_plays_J87 (fu : Nat) (k0 : Nat) (ag22 : Int32 → gSt → Option (Int32 × gSt)) (x1 : Int32) (x2 : Int32) (x3 : Int32) (s2 : Int32) (σ : gSt) : Option (Int32 × gSt) :=
  (lt (gu σ k0 (upd (σ k0) 11 s2)) fun σ87 => (lt ((if x2 = 0 then ((σ87 k0 9) - (σ87 k0 10)) else x3) : Int32) fun w92 => (f_X10_plays_J108 fu k0 ag22 x1 w92 σ87)))
def f_X10_plays_J76 (fu : Nat) (k0 : Nat) (ag22 : Int32 → gSt → Option (Int32 × gSt)) (x2 : Int32) (x3 : Int32) (s1 : Int32) (σ : gSt) : Option (Int32 × gSt) :=
  (lt ((if x2 = 0 then 1 else 2) : Int32) fun w79 => (f_X10_plays_J87 fu k0 ag22 s1 x2 x3 w79 σ))
def f_X10_plays_J62 (fu : Nat) (k0 : Nat) (ag22 : Int32 → gSt → Option (Int32 × gSt)) (x2 : Int32) (s1 : Int32) (σ : gSt) : Option (Int32 × gSt) :=
  (lt ((if x2 = 0 then 0 else (if s1 < 0 then 0 else 1)) : Int32) fun w64 => (f_X10_plays_J76 fu k0 ag22 x2 s1 w64 σ))
def f_X10_plays_L22 (fu : Nat) (k0 : Nat) (ag22 : Int32 → gSt → Option (Int32 × gSt)) (x1 : Int32) (σ : gSt) : Option (Int32 × gSt) :=
  (if (σ k0 6) ≤ (σ k0 9) then (f_X10_plays_J124 fu k0 x1 σ) else (if x1 = 0 then (f_X10_plays_J124 fu k0 x1 σ) else (lt (gu σ k0 (upd (σ k0) 10 (σ k0 9))) fun σ42 => (b2 (f_X10_reads fu σ42 k0) fun v46 σ46 => (if v46 = 0 then (f_X10_plays_J62 fu k0 ag22 v46 0 σ46) else (b2 (f_X10_calls fu σ46 k0) fun v55 σ55 => (f_X10_plays_J62 fu k0 ag22 v46 v55 σ55)))))))
def f_X10_plays_W22 (fu : Nat) (k0 : Nat) : Nat → Int32 → gSt → Option (Int32 × gSt)
  | 0, _, _ => none
  | n + 1, x1, σ => f_X10_plays_L22 fu k0 (f_X10_plays_W22 fu k0 n) x1 σ
theorem f_X10_plays_W22_0 (fu : Nat) (k0 : Nat) (x1 : Int32) (σ : gSt) : f_X10_plays_W22 fu k0 0 x1 σ = none := rfl
theorem f_X10_plays_W22_s (fu : Nat) (k0 : Nat) (n : Nat) (x1 : Int32) (σ : gSt) : f_X10_plays_W22 fu k0 (n + 1) x1 σ = f_X10_plays_L22 fu k0 (f_X10_plays_W22 fu k0 n) x1 σ := rfl
def f_X10_plays (fu : Nat) (σ : gSt) (k0 : Nat) : Option (Int32 × gSt) :=
  (lt (gu σ k0 (upd (σ k0) 4 1)) fun σ2 => (lt (gu σ2 k0 (upd (σ2 k0) 9 0)) fun σ7 => (lt (gu σ7 k0 (upd (σ7 k0) 10 0)) fun σ12 => (lt (gu σ12 k0 (upd (σ12 k0) 13 0)) fun σ17 => (f_X10_plays_W22 fu k0 fu 1 σ17)))))
def f_X10_fault (fu : Nat) (σ : gSt) (k0 : Nat) (p1 : Int32) : Option (Int32 × gSt) :=
  ((f_X10_in fu σ p1 0 2).bind fun v3 => (if v3 = 0 then (some ((-1000001), σ)) else ((f_X10_copies fu σ (k0 + 1) 284 (k0 + 3) 284).bind fun σ20 => (b2 (f_X10_plays fu σ20 k0) fun v24 σ24 => ((f_X10_copies fu σ24 (k0 + 3) 284 (k0 + 1) 284).bind fun σ36 => (if v24 = 0 then (if p1 = 0 then (some ((σ36 k0 10), σ36)) else (if p1 = 1 then (some ((σ36 k0 11), σ36)) else (some ((σ36 k0 12), σ36)))) else (some ((-1000004), σ36))))))))
def f_X3_outcome (fu : Nat) (σ : gSt) (k0 : Nat) : Option (Nat) :=
  (some (k0 + 79))
def f_X3_ordersDone (fu : Nat) (σ : gSt) (k0 : Nat) : Option (Int32) :=
  (some (σ k0 4))
def f_X9_play (fu : Nat) (σ : gSt) (k0 : Nat) : Option (Int32 × gSt) :=
  ((f_X3_run fu σ (k0 + 3) (k0 + 10)).bind fun σ8 => ((f_X3_foundFault fu σ8 (k0 + 3)).bind fun v15 => (if v15 = 0 then ((f_X7_takeFrom fu σ8 (k0 + 22) (k0 + 10)).bind fun σ32 => ((f_X3_outcome fu σ32 (k0 + 3)).bind fun q43 => ((f_X7_takeFrom fu σ32 (k0 + 10) q43).bind fun σ46 => ((f_X3_ordersDone fu σ46 (k0 + 3)).bind fun v54 => (b2 (f_X9_recorded fu σ46 k0 v54) fun v57 σ57 => (some (v57, σ57))))))) else (some ((-1000002), σ8)))))
def f_X10_play (fu : Nat) (σ : gSt) (k0 : Nat) : Option (Int32 × gSt) :=
  ((f_X10_copies fu σ (k0 + 1) 284 (k0 + 3) 284).bind fun σ8 => (b2 (f_X10_plays fu σ8 k0) fun v12 σ12 => ((f_X10_copies fu σ12 (k0 + 3) 284 (k0 + 1) 284).bind fun σ24 => (if v12 = 0 then (some ((-1000002), σ24)) else ((f_X10_changes fu σ24 k0).bind fun σ35 => (b2 (f_X10_plays fu σ35 k0) fun v39 σ39 => (if v39 = 0 then (some ((-1000004), σ39)) else (some ((σ39 k0 13), σ39)))))))))
