/-! ===== the constructors ===== -/
theorem gMo1 : Cond.instanceMethod Lib.objectInit ∈ gTb := (gM 82 (by decide +kernel) rfl)
theorem gMo2 : Cond.code Lib.objectInit ⟨#[0xb1]⟩ 1 none ∈ gTb := gM 83 (by decide +kernel) rfl
theorem gMa : Cond.arrayClass .int ∈ gTb := gM 118 (by decide +kernel) rfl
theorem mcX0 : gMc yX0_init cX0_init 1 0 := ⟨gM 123 (by decide +kernel) rfl, (gM 62 (by decide +kernel) rfl), (gM 122 (by decide +kernel) rfl), rfl, ⟨by decide +kernel, by decide +kernel, by decide +kernel⟩⟩
theorem mcX1 : gMc yX1_init cX1_init 2 0 := ⟨gM 162 (by decide +kernel) rfl, (gM 65 (by decide +kernel) rfl), (gM 161 (by decide +kernel) rfl), rfl, ⟨by decide +kernel, by decide +kernel, by decide +kernel⟩⟩
theorem mcX2 : gMc yX2_init cX2_init 1 0 := ⟨gM 224 (by decide +kernel) rfl, (gM 69 (by decide +kernel) rfl), (gM 223 (by decide +kernel) rfl), rfl, ⟨by decide +kernel, by decide +kernel, by decide +kernel⟩⟩
theorem mcX3 : gMc yX3_init cX3_init 2 1 := ⟨gM 216 (by decide +kernel) rfl, (gM 68 (by decide +kernel) rfl), (gM 215 (by decide +kernel) rfl), rfl, ⟨by decide +kernel, by decide +kernel, by decide +kernel⟩⟩
theorem mcX4 : gMc yX4_init cX4_init 1 0 := ⟨gM 136 (by decide +kernel) rfl, (gM 64 (by decide +kernel) rfl), (gM 135 (by decide +kernel) rfl), rfl, ⟨by decide +kernel, by decide +kernel, by decide +kernel⟩⟩
theorem mcX5 : gMc yX5_init cX5_init 2 1 := ⟨gM 181 (by decide +kernel) rfl, (gM 66 (by decide +kernel) rfl), (gM 180 (by decide +kernel) rfl), rfl, ⟨by decide +kernel, by decide +kernel, by decide +kernel⟩⟩
theorem mcX6 : gMc yX6_init cX6_init 1 0 := ⟨gM 203 (by decide +kernel) rfl, (gM 67 (by decide +kernel) rfl), (gM 202 (by decide +kernel) rfl), rfl, ⟨by decide +kernel, by decide +kernel, by decide +kernel⟩⟩
theorem mcX7 : gMc yX7_init cX7_init 1 0 := ⟨gM 88 (by decide +kernel) rfl, (gM 60 (by decide +kernel) rfl), (gM 87 (by decide +kernel) rfl), rfl, ⟨by decide +kernel, by decide +kernel, by decide +kernel⟩⟩
theorem mcX8 : gMc yX8_init cX8_init 1 0 := ⟨gM 94 (by decide +kernel) rfl, (gM 61 (by decide +kernel) rfl), (gM 93 (by decide +kernel) rfl), rfl, ⟨by decide +kernel, by decide +kernel, by decide +kernel⟩⟩
theorem mcX9 : gMc yX9_init cX9_init 1 0 := ⟨gM 80 (by decide +kernel) rfl, (gM 59 (by decide +kernel) rfl), (gM 79 (by decide +kernel) rfl), rfl, ⟨by decide +kernel, by decide +kernel, by decide +kernel⟩⟩
theorem mcX10 : gMc yX10_init cX10_init 2 0 := ⟨gM 974 (by decide +kernel) rfl, (gM 70 (by decide +kernel) rfl), (gM 973 (by decide +kernel) rfl), rfl, ⟨by decide +kernel, by decide +kernel, by decide +kernel⟩⟩
theorem mFill : gMt yJ7_fill_53178 cJ7_fill_53178 4 none 2 := ⟨gM 127 (by decide +kernel) rfl, (gM 63 (by decide +kernel) rfl), ⟨by decide +kernel, by decide +kernel⟩, by decide +kernel⟩
theorem sFill : Cond.static yJ7_fill_53178 ∈ gTb := (gM 126 (by decide +kernel) rfl)
def blkX8 (G : gG) (a : Nat → Nat) : va_W := [(a 0, .inr (8, [.ref (a 1), .ref (a 2), .ref (a 3), .ref (a 4), .ref (a 5), .ref (a 6), .int 0])), (a 1, .inl (G.2.1, 20, .inl (fun _ => 0))), (a 2, .inl (G.2.1, 20, .inl (fun _ => 0))), (a 3, .inl (G.2.1, 20, .inl (fun _ => 0))), (a 4, .inl (G.2.1, 20, .inl (fun _ => 0))), (a 5, .inl (G.2.1, 20, .inl (fun _ => 0))), (a 6, .inl (G.2.1, 160, .inl (fun _ => 0)))]
def blkX0 (G : gG) (a : Nat → Nat) : va_W := [(a 0, .inr (0, [.ref (a 1)])), (a 1, .inl (G.2.1, 16, .inl (fun j => if j < 16 then -1 else 0)))]
def blkX4 (G : gG) (a : Nat → Nat) : va_W := [(a 0, .inr (4, [.ref (a 1)])), (a 1, .inl (G.2.1, 6, .inl (fun _ => 0)))]
def blkX7 (G : gG) (a : Nat → Nat) : va_W := [(a 0, .inr (7, [.ref (a 1), .ref (a 8), .ref (a 10), .int 30]))] ++ blkX8 G (fun i => a (1 + i)) ++ blkX0 G (fun i => a (8 + i)) ++ blkX4 G (fun i => a (10 + i))
def blkX1 (G : gG) (a : Nat → Nat) : va_W := [(a 0, .inr (1, [.ref (a 1), .int 0, .int 0])), (a 1, .inl (G.2.2.1, 4, .inr (.inr (.inr (.inr (va_up (va_up (va_up (va_up (fun _ => none) (nI 0).toNatClampNeg (some (a 2))) (nI 1).toNatClampNeg (some (a 14))) (nI 2).toNatClampNeg (some (a 26))) (nI 3).toNatClampNeg (some (a 38))))))))] ++ blkX7 G (fun i => a (2 + i)) ++ blkX7 G (fun i => a (14 + i)) ++ blkX7 G (fun i => a (26 + i)) ++ blkX7 G (fun i => a (38 + i))
def blkX6 (G : gG) (a : Nat → Nat) : va_W := [(a 0, .inr (6, [.ref (a 1), .int 0])), (a 1, .inl (G.2.1, 60, .inl (fun _ => 0)))]
def blkX2 (G : gG) (a : Nat → Nat) : va_W := [(a 0, .inr (2, [.ref (a 1), .int 0, .int 0, .int 0])), (a 1, .inl (G.2.1, 3, .inl (fun _ => 0)))]
def blkX5 (G : gG) (a : Nat → Nat) (x u1 u2 u3 : Nat) : va_W := [(a 0, .inr (5, [.ref x, .ref u1, .ref u2, .ref u3, .ref (a 1)])), (a 1, .inl (G.2.1, 20, .inl (fun _ => 0)))]
def blkX3 (G : gG) (a : Nat → Nat) (x : Nat) : va_W := [(a 0, .inr (3, [.ref x, .ref (a 1), .ref (a 13), .int 0, .int 0, .int 0, .int 0]))] ++ blkX7 G (fun i => a (1 + i)) ++ blkX2 G (fun i => a (13 + i))
def blkX9 (G : gG) (a : Nat → Nat) : va_W := [(a 0, .inr (9, [.ref (a 1), .ref (a 13), .ref (a 25), .ref (a 75), .ref (a 77), .ref (a 79)]))] ++ blkX7 G (fun i => a (1 + i)) ++ blkX7 G (fun i => a (13 + i)) ++ blkX1 G (fun i => a (25 + i)) ++ blkX5 G (fun i => a (75 + i)) (a 1) (a 2) (a 9) (a 11) ++ blkX6 G (fun i => a (77 + i)) ++ blkX3 G (fun i => a (79 + i)) (a 77)
def blkX10 (G : gG) (a : Nat → Nat) : va_W := [(a 0, .inr (10, [.ref (a 1), .ref (a 2), .ref (a 3), .int 0, .int 0, .ref (a 4), .int 0, .ref (a 5), .ref (a 6), .int 0, .int 0, .int 0, .int 0, .int 0, .int 0, .ref (a 7)])), (a 1, .inl (G.2.1, 284, .inl (upd (fun j => if 260 ≤ j ∧ j < 276 then -1 else 0) (nI 283).toNatClampNeg 30))), (a 2, .inl (G.2.1, 1136, .inl (fun _ => 0))), (a 3, .inl (G.2.1, 284, .inl (fun _ => 0))), (a 4, .inl (G.2.1, 60, .inl (fun _ => 0))), (a 5, .inl (G.2.1, 13, .inl (fun _ => 0))), (a 6, .inl (G.2.1, 16, .inl (fun _ => 0))), (a 7, .inl (G.2.1, 3, .inl (fun _ => 0)))]
theorem fill_loop {Γ : gZ} {a : Nat} {w0 : va_W} (hO : gOc Γ cJ7_fill_53178 4 RJ7 1 12 0 0) (z : gEndC Γ a w0 (fun G b => [(b 0, .inl (G.2.1, 16, .inl (fun j => if j < 16 then -1 else 0)))]) 0 0) : ∀ (d i : Nat), i + d = 16 → Ac Γ 0 0 5 [some (.ref a), some (.int (-1)), some (.int (nI i)), some (.int (nI 16))] [] w0 [(a, .inl (Γ.1.2.1, 16, .inl (fun j => if j < i then -1 else 0)))]
  | d, i, hd => by
    refine y_iload_n hO dJ7_fill_53178_5 rfl rfl ?_
    refine y_iload_n hO dJ7_fill_53178_6 rfl rfl ?_
    refine y_ge (tgt := 20) hO dJ7_fill_53178_7 (by decide) (fun c => ?_) (fun c => ?_)
    · have e : i = 16 := by
        rw [z_le (by omega) (by omega)] at c
        omega
      subst e
      exact y_ret hO z (fun _ => a) rfl rfl dJ7_fill_53178_20
    · have hi : i < 16 := by
        rw [z_le (by omega) (by omega)] at c
        omega
      refine y_aload_n hO dJ7_fill_53178_10 rfl rfl ?_
      refine y_iload_n hO dJ7_fill_53178_11 rfl rfl ?_
      refine y_iload_n hO dJ7_fill_53178_12 rfl rfl ?_
      have hu : upd (fun j => if j < i then (-1 : Int32) else 0) (nI i).toNatClampNeg (-1) = fun j => if j < i + 1 then (-1 : Int32) else 0 := by
        rw [nI_clamp (by omega)]
        funext j
        by_cases e : j = i
        · subst e
          rw [up_e, if_pos (by omega)]
        · rw [up_n _ _ e]
          by_cases q : j < i
          · rw [if_pos q, if_pos (by omega)]
          · rw [if_neg q, if_neg (by omega)]
      refine y_iast (M' := [(a, .inl (Γ.1.2.1, 16, .inl (fun j => if j < i + 1 then -1 else 0)))]) hO 0 rfl (by rintro (q | q); exact nI_pos (by omega) q; rw [nI_clamp (by omega)] at q; omega) dJ7_fill_53178_13 (by rw [hu]; rfl) ?_
      refine y_iinc (v := nI (i + 1)) (L' := [some (.ref a), some (.int (-1)), some (.int (nI (i + 1))), some (.int (nI 16))]) hO dJ7_fill_53178_14 rfl (z_add1 i) rfl ?_
      exact y_goto (tgt := 5) hO dJ7_fill_53178_17 (by decide) (fill_loop hO z (d - 1) (i + 1) (by omega))
  termination_by d => d
theorem kFill (G : gG) (w0 : va_W) (a : Nat) : gCs yJ7_fill_53178 cJ7_fill_53178 4 1 12 [.ref a, .int (-1)] (fun G => .inl (G.2.1, 16, .inl (fun _ => 0))) (fun G => .inl (G.2.1, 16, .inl (fun j => if j < 16 then -1 else 0))) G w0 a := by
  refine gCs_intro RJ7 rfl (by decide +kernel) (by intro v hv; rcases List.mem_cons.mp hv with rfl | q; rfl; rcases List.mem_cons.mp q with rfl | q; rfl; cases q) (Nat.le_of_ble_eq_true rfl) (fun Γ hG hO z => ?_)
  subst hG
  refine y_iconst (v := 0) hO dJ7_fill_53178_0 (by decide) ?_
  refine y_istore_n (L' := [some (.ref a), some (.int (-1)), some (.int 0), none]) hO dJ7_fill_53178_1 rfl (Nat.le_of_ble_eq_true rfl) rfl ?_
  refine y_aload_n hO dJ7_fill_53178_2 rfl rfl ?_
  refine y_alen hO 0 rfl dJ7_fill_53178_3 ?_
  refine y_istore_n (L' := [some (.ref a), some (.int (-1)), some (.int 0), some (.int (nI 16))]) hO dJ7_fill_53178_4 rfl (Nat.le_of_ble_eq_true rfl) rfl ?_
  have e0 : (fun (j : Nat) => if j < 0 then (-1 : Int32) else 0) = fun _ => 0 := funext fun j => if_neg (Nat.not_lt_zero j)
  have := fill_loop hO z 16 0 rfl
  rw [e0] at this
  exact this
theorem kX8_init (G : gG) (w0 : va_W) : gCc yX8_init cX8_init 1 1 12 6 260 8 [] blkX8 G w0 := by
  refine gCc_intro RX8 rfl (by decide +kernel) rfl (by intro v hv; cases hv) (Nat.le_of_ble_eq_true rfl) (fun Γ h hG hO z hnm => ?_)
  subst hG
  refine y_aload_n hO dX8_init_0 rfl rfl ?_
  refine y_obj hO (gM 95 (by decide +kernel) rfl) gMo1 gMo2 dX8_init_1 (by decide) (by decide) rfl ?_
  refine y_aload_n hO dX8_init_4 rfl rfl ?_
  refine y_bipush (v := 20) hO dX8_init_5 (by decide) ?_
  refine y_newi hO (gMa) 20 dX8_init_7 rfl (by omega) (by decide) (by decide) (fun q1 => ?_)
  refine y_putF (M' := [(h, .inr (8, (gD0 8).set 0 (.ref q1))), (q1, .inl (Γ.1.2.1, 20, .inl (fun _ => 0)))]) hO hnm 8 0 0 (gTy 8 0) rfl (by decide) (by decide) rfl rfl (gTyOk 8 (by decide) 0 (by decide)) rfl rfl (Nat.le_of_ble_eq_true rfl) (gM 96 (by decide +kernel) rfl) dX8_init_9 rfl ?_
  refine y_aload_n hO dX8_init_12 rfl rfl ?_
  refine y_bipush (v := 20) hO dX8_init_13 (by decide) ?_
  refine y_newi hO (gMa) 20 dX8_init_15 rfl (by omega) (by decide) (by decide) (fun q2 => ?_)
  refine y_putF (M' := [(h, .inr (8, ((gD0 8).set 0 (.ref q1)).set 1 (.ref q2))), (q1, .inl (Γ.1.2.1, 20, .inl (fun _ => 0))), (q2, .inl (Γ.1.2.1, 20, .inl (fun _ => 0)))]) hO hnm 8 1 0 (gTy 8 1) rfl (by decide) (by decide) rfl rfl (gTyOk 8 (by decide) 1 (by decide)) rfl rfl (Nat.le_of_ble_eq_true rfl) (gM 97 (by decide +kernel) rfl) dX8_init_17 rfl ?_
  refine y_aload_n hO dX8_init_20 rfl rfl ?_
  refine y_bipush (v := 20) hO dX8_init_21 (by decide) ?_
  refine y_newi hO (gMa) 20 dX8_init_23 rfl (by omega) (by decide) (by decide) (fun q3 => ?_)
  refine y_putF (M' := [(h, .inr (8, (((gD0 8).set 0 (.ref q1)).set 1 (.ref q2)).set 2 (.ref q3))), (q1, .inl (Γ.1.2.1, 20, .inl (fun _ => 0))), (q2, .inl (Γ.1.2.1, 20, .inl (fun _ => 0))), (q3, .inl (Γ.1.2.1, 20, .inl (fun _ => 0)))]) hO hnm 8 2 0 (gTy 8 2) rfl (by decide) (by decide) rfl rfl (gTyOk 8 (by decide) 2 (by decide)) rfl rfl (Nat.le_of_ble_eq_true rfl) (gM 98 (by decide +kernel) rfl) dX8_init_25 rfl ?_
  refine y_aload_n hO dX8_init_28 rfl rfl ?_
  refine y_bipush (v := 20) hO dX8_init_29 (by decide) ?_
  refine y_newi hO (gMa) 20 dX8_init_31 rfl (by omega) (by decide) (by decide) (fun q4 => ?_)
  refine y_putF (M' := [(h, .inr (8, ((((gD0 8).set 0 (.ref q1)).set 1 (.ref q2)).set 2 (.ref q3)).set 3 (.ref q4))), (q1, .inl (Γ.1.2.1, 20, .inl (fun _ => 0))), (q2, .inl (Γ.1.2.1, 20, .inl (fun _ => 0))), (q3, .inl (Γ.1.2.1, 20, .inl (fun _ => 0))), (q4, .inl (Γ.1.2.1, 20, .inl (fun _ => 0)))]) hO hnm 8 3 0 (gTy 8 3) rfl (by decide) (by decide) rfl rfl (gTyOk 8 (by decide) 3 (by decide)) rfl rfl (Nat.le_of_ble_eq_true rfl) (gM 99 (by decide +kernel) rfl) dX8_init_33 rfl ?_
  refine y_aload_n hO dX8_init_36 rfl rfl ?_
  refine y_bipush (v := 20) hO dX8_init_37 (by decide) ?_
  refine y_newi hO (gMa) 20 dX8_init_39 rfl (by omega) (by decide) (by decide) (fun q5 => ?_)
  refine y_putF (M' := [(h, .inr (8, (((((gD0 8).set 0 (.ref q1)).set 1 (.ref q2)).set 2 (.ref q3)).set 3 (.ref q4)).set 4 (.ref q5))), (q1, .inl (Γ.1.2.1, 20, .inl (fun _ => 0))), (q2, .inl (Γ.1.2.1, 20, .inl (fun _ => 0))), (q3, .inl (Γ.1.2.1, 20, .inl (fun _ => 0))), (q4, .inl (Γ.1.2.1, 20, .inl (fun _ => 0))), (q5, .inl (Γ.1.2.1, 20, .inl (fun _ => 0)))]) hO hnm 8 4 0 (gTy 8 4) rfl (by decide) (by decide) rfl rfl (gTyOk 8 (by decide) 4 (by decide)) rfl rfl (Nat.le_of_ble_eq_true rfl) (gM 100 (by decide +kernel) rfl) dX8_init_41 rfl ?_
  refine y_aload_n hO dX8_init_44 rfl rfl ?_
  refine y_sipush (v := 160) hO dX8_init_45 (by decide) ?_
  refine y_newi hO (gMa) 160 dX8_init_48 rfl (by omega) (by decide) (by decide) (fun q6 => ?_)
  refine y_putF (M' := [(h, .inr (8, ((((((gD0 8).set 0 (.ref q1)).set 1 (.ref q2)).set 2 (.ref q3)).set 3 (.ref q4)).set 4 (.ref q5)).set 5 (.ref q6))), (q1, .inl (Γ.1.2.1, 20, .inl (fun _ => 0))), (q2, .inl (Γ.1.2.1, 20, .inl (fun _ => 0))), (q3, .inl (Γ.1.2.1, 20, .inl (fun _ => 0))), (q4, .inl (Γ.1.2.1, 20, .inl (fun _ => 0))), (q5, .inl (Γ.1.2.1, 20, .inl (fun _ => 0))), (q6, .inl (Γ.1.2.1, 160, .inl (fun _ => 0)))]) hO hnm 8 5 0 (gTy 8 5) rfl (by decide) (by decide) rfl rfl (gTyOk 8 (by decide) 5 (by decide)) rfl rfl (Nat.le_of_ble_eq_true rfl) (gM 101 (by decide +kernel) rfl) dX8_init_50 rfl ?_
  exact y_ret hO z (fun i => if i < 1 then h else if i < 2 then q1 else if i < 3 then q2 else if i < 4 then q3 else if i < 5 then q4 else if i < 6 then q5 else q6) rfl rfl dX8_init_53
theorem kX0_init (G : gG) (w0 : va_W) : gCc yX0_init cX0_init 1 2 35 1 16 0 [] blkX0 G w0 := by
  refine gCc_intro RX0 rfl (by decide +kernel) rfl (by intro v hv; cases hv) (Nat.le_of_ble_eq_true rfl) (fun Γ h hG hO z hnm => ?_)
  subst hG
  refine y_aload_n hO dX0_init_0 rfl rfl ?_
  refine y_obj hO (gM 124 (by decide +kernel) rfl) gMo1 gMo2 dX0_init_1 (by decide) (by decide) rfl ?_
  refine y_aload_n hO dX0_init_4 rfl rfl ?_
  refine y_bipush (v := 16) hO dX0_init_5 (by decide) ?_
  refine y_newi hO (gMa) 16 dX0_init_7 rfl (by omega) (by decide) (by decide) (fun q1 => ?_)
  refine y_putF (M' := [(h, .inr (0, (gD0 0).set 0 (.ref q1))), (q1, .inl (Γ.1.2.1, 16, .inl (fun _ => 0)))]) hO hnm 0 0 0 (gTy 0 0) rfl (by decide) (by decide) rfl rfl (gTyOk 0 (by decide) 0 (by decide)) rfl rfl (Nat.le_of_ble_eq_true rfl) (gM 128 (by decide +kernel) rfl) dX0_init_9 rfl ?_
  refine y_aload_n hO dX0_init_12 rfl rfl ?_
  refine y_get (v := .ref q1) hO 0 0 0 rfl (by decide) (by decide) rfl (gM 128 (by decide +kernel) rfl) dX0_init_13 ?_
  refine y_iconst (v := (-1)) hO dX0_init_16 (by decide) ?_
  refine y_callS (M0 := [(h, .inr (0, (gD0 0).set 0 (.ref q1)))]) (a := q1) (As := [.ref q1, .int (-1)]) (rest := []) hO mFill sFill (gM 125 (by decide +kernel) rfl) rfl (kFill Γ.1 _ q1) rfl (by decide) (by decide) (Nat.le_of_ble_eq_true rfl) rfl (by decide) (by decide) dX0_init_17 ?_
  exact y_ret hO z (fun i => if i < 1 then h else q1) rfl rfl dX0_init_20
theorem kX4_init (G : gG) (w0 : va_W) : gCc yX4_init cX4_init 1 1 12 1 6 4 [] blkX4 G w0 := by
  refine gCc_intro RX4 rfl (by decide +kernel) rfl (by intro v hv; cases hv) (Nat.le_of_ble_eq_true rfl) (fun Γ h hG hO z hnm => ?_)
  subst hG
  refine y_aload_n hO dX4_init_0 rfl rfl ?_
  refine y_obj hO (gM 137 (by decide +kernel) rfl) gMo1 gMo2 dX4_init_1 (by decide) (by decide) rfl ?_
  refine y_aload_n hO dX4_init_4 rfl rfl ?_
  refine y_bipush (v := 6) hO dX4_init_5 (by decide) ?_
  refine y_newi hO (gMa) 6 dX4_init_7 rfl (by omega) (by decide) (by decide) (fun q1 => ?_)
  refine y_putF (M' := [(h, .inr (4, (gD0 4).set 0 (.ref q1))), (q1, .inl (Γ.1.2.1, 6, .inl (fun _ => 0)))]) hO hnm 4 0 0 (gTy 4 0) rfl (by decide) (by decide) rfl rfl (gTyOk 4 (by decide) 0 (by decide)) rfl rfl (Nat.le_of_ble_eq_true rfl) (gM 138 (by decide +kernel) rfl) dX4_init_9 rfl ?_
  exact y_ret hO z (fun i => if i < 1 then h else q1) rfl rfl dX4_init_12
theorem kX7_init (G : gG) (w0 : va_W) : gCc yX7_init cX7_init 1 3 55 11 291 7 [] blkX7 G w0 := by
  refine gCc_intro RX7 rfl (by decide +kernel) rfl (by intro v hv; cases hv) (Nat.le_of_ble_eq_true rfl) (fun Γ h hG hO z hnm => ?_)
  subst hG
  refine y_aload_n hO dX7_init_0 rfl rfl ?_
  refine y_obj hO (gM 89 (by decide +kernel) rfl) gMo1 gMo2 dX7_init_1 (by decide) (by decide) rfl ?_
  refine y_aload_n hO dX7_init_4 rfl rfl ?_
  refine y_new hO 8 (by decide) (gM 90 (by decide +kernel) rfl) (gM 91 (by decide +kernel) rfl) (gM 61 (by decide +kernel) rfl) dX7_init_5 (by decide) (by decide) (fun q1 => ?_)
  refine y_dup hO dX7_init_8 rfl ?_
  refine y_callK (M0 := [(h, .inr (7, gD0 7))]) (As := []) (rest := [.ref q1, .ref h]) hO mcX8 rfl (kX8_init Γ.1 _) rfl (by decide) (by decide) (Nat.le_of_ble_eq_true rfl) rfl (by decide) (by decide) dX7_init_9 (Or.inr (by decide +kernel)) (fun a1 ea1 => ?_)
  subst ea1
  refine y_putF (M' := [(h, .inr (7, (gD0 7).set 0 (.ref (a1 0))))] ++ blkX8 Γ.1 a1) hO hnm 7 0 0 (gTy 7 0) rfl (by decide) (by decide) rfl rfl (gTyOk 7 (by decide) 0 (by decide)) rfl rfl (Nat.le_of_ble_eq_true rfl) (gM 142 (by decide +kernel) rfl) dX7_init_12 rfl ?_
  refine y_aload_n hO dX7_init_15 rfl rfl ?_
  refine y_new hO 0 (by decide) (gM 119 (by decide +kernel) rfl) (gM 120 (by decide +kernel) rfl) (gM 62 (by decide +kernel) rfl) dX7_init_16 (by decide) (by decide) (fun q2 => ?_)
  refine y_dup hO dX7_init_19 rfl ?_
  refine y_callK (M0 := [(h, .inr (7, (gD0 7).set 0 (.ref (a1 0))))] ++ blkX8 Γ.1 a1) (As := []) (rest := [.ref q2, .ref h]) hO mcX0 rfl (kX0_init Γ.1 _) rfl (by decide) (by decide) (Nat.le_of_ble_eq_true rfl) rfl (by decide) (by decide) dX7_init_20 (Or.inl (gM 121 (by decide +kernel) rfl)) (fun a2 ea2 => ?_)
  subst ea2
  refine y_putF (M' := [(h, .inr (7, ((gD0 7).set 0 (.ref (a1 0))).set 1 (.ref (a2 0))))] ++ blkX8 Γ.1 a1 ++ blkX0 Γ.1 a2) hO hnm 7 1 0 (gTy 7 1) rfl (by decide) (by decide) rfl rfl (gTyOk 7 (by decide) 1 (by decide)) rfl rfl (Nat.le_of_ble_eq_true rfl) (gM 144 (by decide +kernel) rfl) dX7_init_23 rfl ?_
  refine y_aload_n hO dX7_init_26 rfl rfl ?_
  refine y_new hO 4 (by decide) (gM 132 (by decide +kernel) rfl) (gM 133 (by decide +kernel) rfl) (gM 64 (by decide +kernel) rfl) dX7_init_27 (by decide) (by decide) (fun q3 => ?_)
  refine y_dup hO dX7_init_30 rfl ?_
  refine y_callK (M0 := [(h, .inr (7, ((gD0 7).set 0 (.ref (a1 0))).set 1 (.ref (a2 0))))] ++ blkX8 Γ.1 a1 ++ blkX0 Γ.1 a2) (As := []) (rest := [.ref q3, .ref h]) hO mcX4 rfl (kX4_init Γ.1 _) rfl (by decide) (by decide) (Nat.le_of_ble_eq_true rfl) rfl (by decide) (by decide) dX7_init_31 (Or.inr (by decide +kernel)) (fun a3 ea3 => ?_)
  subst ea3
  refine y_putF (M' := [(h, .inr (7, (((gD0 7).set 0 (.ref (a1 0))).set 1 (.ref (a2 0))).set 2 (.ref (a3 0))))] ++ blkX8 Γ.1 a1 ++ blkX0 Γ.1 a2 ++ blkX4 Γ.1 a3) hO hnm 7 2 0 (gTy 7 2) rfl (by decide) (by decide) rfl rfl (gTyOk 7 (by decide) 2 (by decide)) rfl rfl (Nat.le_of_ble_eq_true rfl) (gM 146 (by decide +kernel) rfl) dX7_init_34 rfl ?_
  refine y_aload_n hO dX7_init_37 rfl rfl ?_
  refine y_bipush (v := 30) hO dX7_init_38 (by decide) ?_
  refine y_put (M' := [(h, .inr (7, ((((gD0 7).set 0 (.ref (a1 0))).set 1 (.ref (a2 0))).set 2 (.ref (a3 0))).set 3 (.int 30)))] ++ blkX8 Γ.1 a1 ++ blkX0 Γ.1 a2 ++ blkX4 Γ.1 a3) hO 7 3 0 (gTy 7 3) rfl (by decide) (by decide) rfl (gTyOk 7 (by decide) 3 (by decide)) rfl rfl (Nat.le_of_ble_eq_true rfl) (gM 148 (by decide +kernel) rfl) dX7_init_40 rfl ?_
  exact y_ret hO z (fun i => if i < 1 then h else if i < 8 then a1 (i - 1) else if i < 10 then a2 (i - 8) else a3 (i - 10)) rfl rfl dX7_init_43
theorem kX1_init (G : gG) (w0 : va_W) : gCc yX1_init cX1_init 2 4 75 49 1184 1 [] blkX1 G w0 := by
  refine gCc_intro RX1 rfl (by decide +kernel) rfl (by intro v hv; cases hv) (Nat.le_of_ble_eq_true rfl) (fun Γ h hG hO z hnm => ?_)
  subst hG
  refine y_aload_n hO dX1_init_0 rfl rfl ?_
  refine y_obj hO (gM 163 (by decide +kernel) rfl) gMo1 gMo2 dX1_init_1 (by decide) (by decide) rfl ?_
  refine y_aload_n hO dX1_init_4 rfl rfl ?_
  refine y_iconst (v := 4) hO dX1_init_5 (by decide) ?_
  refine y_newq hO (gM 164 (by decide +kernel) rfl) 4 dX1_init_6 rfl (by omega) (by decide) (by decide) (fun q1 => ?_)
  refine y_putF (M' := [(h, .inr (1, (gD0 1).set 0 (.ref q1))), (q1, .inl (Γ.1.2.2.1, 4, .inr (.inr (.inr (.inr (fun _ => none))))))]) hO hnm 1 0 0 (gTy 1 0) rfl (by decide) (by decide) rfl rfl (gTyOk 1 (by decide) 0 (by decide)) rfl rfl (Nat.le_of_ble_eq_true rfl) (gM 167 (by decide +kernel) rfl) dX1_init_9 rfl ?_
  refine y_iconst (v := 0) hO dX1_init_12 (by decide) ?_
  refine y_istore_n (L' := [some (.ref h), some (.int 0)]) hO dX1_init_13 rfl (Nat.le_of_ble_eq_true rfl) rfl ?_
  refine y_iload_n hO dX1_init_14 rfl rfl ?_
  refine y_iconst (v := 4) hO dX1_init_15 (by decide) ?_
  refine y_ge (tgt := 38) hO dX1_init_16 (by decide) (fun c => absurd c (by decide)) (fun _ => ?_)
  refine y_aload_n hO dX1_init_19 rfl rfl ?_
  refine y_get (v := .ref q1) hO 1 0 0 rfl (by decide) (by decide) rfl (gM 167 (by decide +kernel) rfl) dX1_init_20 ?_
  refine y_iload_n hO dX1_init_23 rfl rfl ?_
  refine y_new hO 7 (by decide) (gM 164 (by decide +kernel) rfl) (gM 85 (by decide +kernel) rfl) (gM 60 (by decide +kernel) rfl) dX1_init_24 (by decide) (by decide) (fun q2 => ?_)
  refine y_dup hO dX1_init_27 rfl ?_
  refine y_callK (M0 := [(h, .inr (1, (gD0 1).set 0 (.ref q1))), (q1, .inl (Γ.1.2.2.1, 4, .inr (.inr (.inr (.inr (fun _ => none))))))]) (As := []) (rest := [.ref q2, .int 0, .ref q1]) hO mcX7 rfl (kX7_init Γ.1 _) rfl (by decide) (by decide) (Nat.le_of_ble_eq_true rfl) rfl (by decide) (by decide) dX1_init_28 (Or.inr (by decide +kernel)) (fun a2 ea2 => ?_)
  subst ea2
  refine y_aast (M' := [(h, .inr (1, (gD0 1).set 0 (.ref q1))), (q1, .inl (Γ.1.2.2.1, 4, .inr (.inr (.inr (.inr (va_up (fun _ => none) (nI 0).toNatClampNeg (some (a2 0))))))))] ++ blkX7 Γ.1 a2) hO 1 2 rfl rfl (by unfold vp_in; decide) dX1_init_31 rfl ?_
  refine y_iinc (v := 1) (L' := [some (.ref h), some (.int 1)]) hO dX1_init_32 rfl (by decide) rfl ?_
  refine y_goto (tgt := 14) hO dX1_init_35 (by decide) ?_
  refine y_iload_n hO dX1_init_14 rfl rfl ?_
  refine y_iconst (v := 4) hO dX1_init_15 (by decide) ?_
  refine y_ge (tgt := 38) hO dX1_init_16 (by decide) (fun c => absurd c (by decide)) (fun _ => ?_)
  refine y_aload_n hO dX1_init_19 rfl rfl ?_
  refine y_get (v := .ref q1) hO 1 0 0 rfl (by decide) (by decide) rfl (gM 167 (by decide +kernel) rfl) dX1_init_20 ?_
  refine y_iload_n hO dX1_init_23 rfl rfl ?_
  refine y_new hO 7 (by decide) (gM 164 (by decide +kernel) rfl) (gM 85 (by decide +kernel) rfl) (gM 60 (by decide +kernel) rfl) dX1_init_24 (by decide) (by decide) (fun q3 => ?_)
  refine y_dup hO dX1_init_27 rfl ?_
  refine y_callK (M0 := [(h, .inr (1, (gD0 1).set 0 (.ref q1))), (q1, .inl (Γ.1.2.2.1, 4, .inr (.inr (.inr (.inr (va_up (fun _ => none) (nI 0).toNatClampNeg (some (a2 0))))))))] ++ blkX7 Γ.1 a2) (As := []) (rest := [.ref q3, .int 1, .ref q1]) hO mcX7 rfl (kX7_init Γ.1 _) rfl (by decide) (by decide) (Nat.le_of_ble_eq_true rfl) rfl (by decide) (by decide) dX1_init_28 (Or.inr (by decide +kernel)) (fun a3 ea3 => ?_)
  subst ea3
  refine y_aast (M' := [(h, .inr (1, (gD0 1).set 0 (.ref q1))), (q1, .inl (Γ.1.2.2.1, 4, .inr (.inr (.inr (.inr (va_up (va_up (fun _ => none) (nI 0).toNatClampNeg (some (a2 0))) (nI 1).toNatClampNeg (some (a3 0))))))))] ++ blkX7 Γ.1 a2 ++ blkX7 Γ.1 a3) hO 1 14 rfl rfl (by unfold vp_in; decide) dX1_init_31 rfl ?_
  refine y_iinc (v := 2) (L' := [some (.ref h), some (.int 2)]) hO dX1_init_32 rfl (by decide) rfl ?_
  refine y_goto (tgt := 14) hO dX1_init_35 (by decide) ?_
  refine y_iload_n hO dX1_init_14 rfl rfl ?_
  refine y_iconst (v := 4) hO dX1_init_15 (by decide) ?_
  refine y_ge (tgt := 38) hO dX1_init_16 (by decide) (fun c => absurd c (by decide)) (fun _ => ?_)
  refine y_aload_n hO dX1_init_19 rfl rfl ?_
  refine y_get (v := .ref q1) hO 1 0 0 rfl (by decide) (by decide) rfl (gM 167 (by decide +kernel) rfl) dX1_init_20 ?_
  refine y_iload_n hO dX1_init_23 rfl rfl ?_
  refine y_new hO 7 (by decide) (gM 164 (by decide +kernel) rfl) (gM 85 (by decide +kernel) rfl) (gM 60 (by decide +kernel) rfl) dX1_init_24 (by decide) (by decide) (fun q4 => ?_)
  refine y_dup hO dX1_init_27 rfl ?_
  refine y_callK (M0 := [(h, .inr (1, (gD0 1).set 0 (.ref q1))), (q1, .inl (Γ.1.2.2.1, 4, .inr (.inr (.inr (.inr (va_up (va_up (fun _ => none) (nI 0).toNatClampNeg (some (a2 0))) (nI 1).toNatClampNeg (some (a3 0))))))))] ++ blkX7 Γ.1 a2 ++ blkX7 Γ.1 a3) (As := []) (rest := [.ref q4, .int 2, .ref q1]) hO mcX7 rfl (kX7_init Γ.1 _) rfl (by decide) (by decide) (Nat.le_of_ble_eq_true rfl) rfl (by decide) (by decide) dX1_init_28 (Or.inr (by decide +kernel)) (fun a4 ea4 => ?_)
  subst ea4
  refine y_aast (M' := [(h, .inr (1, (gD0 1).set 0 (.ref q1))), (q1, .inl (Γ.1.2.2.1, 4, .inr (.inr (.inr (.inr (va_up (va_up (va_up (fun _ => none) (nI 0).toNatClampNeg (some (a2 0))) (nI 1).toNatClampNeg (some (a3 0))) (nI 2).toNatClampNeg (some (a4 0))))))))] ++ blkX7 Γ.1 a2 ++ blkX7 Γ.1 a3 ++ blkX7 Γ.1 a4) hO 1 26 rfl rfl (by unfold vp_in; decide) dX1_init_31 rfl ?_
  refine y_iinc (v := 3) (L' := [some (.ref h), some (.int 3)]) hO dX1_init_32 rfl (by decide) rfl ?_
  refine y_goto (tgt := 14) hO dX1_init_35 (by decide) ?_
  refine y_iload_n hO dX1_init_14 rfl rfl ?_
  refine y_iconst (v := 4) hO dX1_init_15 (by decide) ?_
  refine y_ge (tgt := 38) hO dX1_init_16 (by decide) (fun c => absurd c (by decide)) (fun _ => ?_)
  refine y_aload_n hO dX1_init_19 rfl rfl ?_
  refine y_get (v := .ref q1) hO 1 0 0 rfl (by decide) (by decide) rfl (gM 167 (by decide +kernel) rfl) dX1_init_20 ?_
  refine y_iload_n hO dX1_init_23 rfl rfl ?_
  refine y_new hO 7 (by decide) (gM 164 (by decide +kernel) rfl) (gM 85 (by decide +kernel) rfl) (gM 60 (by decide +kernel) rfl) dX1_init_24 (by decide) (by decide) (fun q5 => ?_)
  refine y_dup hO dX1_init_27 rfl ?_
  refine y_callK (M0 := [(h, .inr (1, (gD0 1).set 0 (.ref q1))), (q1, .inl (Γ.1.2.2.1, 4, .inr (.inr (.inr (.inr (va_up (va_up (va_up (fun _ => none) (nI 0).toNatClampNeg (some (a2 0))) (nI 1).toNatClampNeg (some (a3 0))) (nI 2).toNatClampNeg (some (a4 0))))))))] ++ blkX7 Γ.1 a2 ++ blkX7 Γ.1 a3 ++ blkX7 Γ.1 a4) (As := []) (rest := [.ref q5, .int 3, .ref q1]) hO mcX7 rfl (kX7_init Γ.1 _) rfl (by decide) (by decide) (Nat.le_of_ble_eq_true rfl) rfl (by decide) (by decide) dX1_init_28 (Or.inr (by decide +kernel)) (fun a5 ea5 => ?_)
  subst ea5
  refine y_aast (M' := [(h, .inr (1, (gD0 1).set 0 (.ref q1))), (q1, .inl (Γ.1.2.2.1, 4, .inr (.inr (.inr (.inr (va_up (va_up (va_up (va_up (fun _ => none) (nI 0).toNatClampNeg (some (a2 0))) (nI 1).toNatClampNeg (some (a3 0))) (nI 2).toNatClampNeg (some (a4 0))) (nI 3).toNatClampNeg (some (a5 0))))))))] ++ blkX7 Γ.1 a2 ++ blkX7 Γ.1 a3 ++ blkX7 Γ.1 a4 ++ blkX7 Γ.1 a5) hO 1 38 rfl rfl (by unfold vp_in; decide) dX1_init_31 rfl ?_
  refine y_iinc (v := 4) (L' := [some (.ref h), some (.int 4)]) hO dX1_init_32 rfl (by decide) rfl ?_
  refine y_goto (tgt := 14) hO dX1_init_35 (by decide) ?_
  refine y_iload_n hO dX1_init_14 rfl rfl ?_
  refine y_iconst (v := 4) hO dX1_init_15 (by decide) ?_
  refine y_ge (tgt := 38) hO dX1_init_16 (by decide) (fun _ => ?_) (fun c => absurd (by decide) c)
  exact y_ret hO z (fun i => if i < 1 then h else if i < 2 then q1 else if i < 14 then a2 (i - 2) else if i < 26 then a3 (i - 14) else if i < 38 then a4 (i - 26) else a5 (i - 38)) rfl rfl dX1_init_38
theorem kX6_init (G : gG) (w0 : va_W) : gCc yX6_init cX6_init 1 1 12 1 60 6 [] blkX6 G w0 := by
  refine gCc_intro RX6 rfl (by decide +kernel) rfl (by intro v hv; cases hv) (Nat.le_of_ble_eq_true rfl) (fun Γ h hG hO z hnm => ?_)
  subst hG
  refine y_aload_n hO dX6_init_0 rfl rfl ?_
  refine y_obj hO (gM 204 (by decide +kernel) rfl) gMo1 gMo2 dX6_init_1 (by decide) (by decide) rfl ?_
  refine y_aload_n hO dX6_init_4 rfl rfl ?_
  refine y_bipush (v := 60) hO dX6_init_5 (by decide) ?_
  refine y_newi hO (gMa) 60 dX6_init_7 rfl (by omega) (by decide) (by decide) (fun q1 => ?_)
  refine y_putF (M' := [(h, .inr (6, (gD0 6).set 0 (.ref q1))), (q1, .inl (Γ.1.2.1, 60, .inl (fun _ => 0)))]) hO hnm 6 0 0 (gTy 6 0) rfl (by decide) (by decide) rfl rfl (gTyOk 6 (by decide) 0 (by decide)) rfl rfl (Nat.le_of_ble_eq_true rfl) (gM 205 (by decide +kernel) rfl) dX6_init_9 rfl ?_
  exact y_ret hO z (fun i => if i < 1 then h else q1) rfl rfl dX6_init_12
theorem kX2_init (G : gG) (w0 : va_W) : gCc yX2_init cX2_init 1 1 12 1 3 2 [] blkX2 G w0 := by
  refine gCc_intro RX2 rfl (by decide +kernel) rfl (by intro v hv; cases hv) (Nat.le_of_ble_eq_true rfl) (fun Γ h hG hO z hnm => ?_)
  subst hG
  refine y_aload_n hO dX2_init_0 rfl rfl ?_
  refine y_obj hO (gM 225 (by decide +kernel) rfl) gMo1 gMo2 dX2_init_1 (by decide) (by decide) rfl ?_
  refine y_aload_n hO dX2_init_4 rfl rfl ?_
  refine y_iconst (v := 3) hO dX2_init_5 (by decide) ?_
  refine y_newi hO (gMa) 3 dX2_init_6 rfl (by omega) (by decide) (by decide) (fun q1 => ?_)
  refine y_putF (M' := [(h, .inr (2, (gD0 2).set 0 (.ref q1))), (q1, .inl (Γ.1.2.1, 3, .inl (fun _ => 0)))]) hO hnm 2 0 0 (gTy 2 0) rfl (by decide) (by decide) rfl rfl (gTyOk 2 (by decide) 0 (by decide)) rfl rfl (Nat.le_of_ble_eq_true rfl) (gM 226 (by decide +kernel) rfl) dX2_init_8 rfl ?_
  exact y_ret hO z (fun i => if i < 1 then h else q1) rfl rfl dX2_init_11
theorem kX5_init (G : gG) (w0 : va_W) {x u1 u2 u3 i0 : Nat} {y0 : Value} (hx : w0[i0]? = some (x, .inr (7, [.ref u1, .ref u2, .ref u3, y0]))) : gCc yX5_init cX5_init 2 1 12 1 20 5 [.ref x] (fun G a => blkX5 G a x u1 u2 u3) G w0 := by
  refine gCc_intro RX5 rfl (by decide +kernel) rfl (by intro v hv; rcases List.mem_cons.mp hv with rfl | q; rfl; cases q) (Nat.le_of_ble_eq_true rfl) (fun Γ h hG hO z hnm => ?_)
  subst hG
  refine y_aload_n hO dX5_init_0 rfl rfl ?_
  refine y_obj hO (gM 182 (by decide +kernel) rfl) gMo1 gMo2 dX5_init_1 (by decide) (by decide) rfl ?_
  refine y_aload_n hO dX5_init_4 rfl rfl ?_
  refine y_bipush (v := 20) hO dX5_init_5 (by decide) ?_
  refine y_newi hO (gMa) 20 dX5_init_7 rfl (by omega) (by decide) (by decide) (fun q1 => ?_)
  refine y_putF (M' := [(h, .inr (5, (gD0 5).set 4 (.ref q1))), (q1, .inl (Γ.1.2.1, 20, .inl (fun _ => 0)))]) hO hnm 5 4 0 (gTy 5 4) rfl (by decide) (by decide) rfl rfl (gTyOk 5 (by decide) 4 (by decide)) rfl rfl (Nat.le_of_ble_eq_true rfl) (gM 187 (by decide +kernel) rfl) dX5_init_9 rfl ?_
  refine y_aload_n hO dX5_init_12 rfl rfl ?_
  refine y_aload_n hO dX5_init_13 rfl rfl ?_
  refine y_putF (M' := [(h, .inr (5, ((gD0 5).set 4 (.ref q1)).set 0 (.ref x))), (q1, .inl (Γ.1.2.1, 20, .inl (fun _ => 0)))]) hO hnm 5 0 0 (gTy 5 0) rfl (by decide) (by decide) rfl rfl (gTyOk 5 (by decide) 0 (by decide)) rfl rfl (Nat.le_of_ble_eq_true rfl) (gM 183 (by decide +kernel) rfl) dX5_init_14 rfl ?_
  refine y_aload_n hO dX5_init_17 rfl rfl ?_
  refine y_aload_n hO dX5_init_18 rfl rfl ?_
  refine y_getN (v := .ref u1) hO 0 i0 hx (by decide) rfl (by decide +kernel) rfl dX5_init_19 ?_
  refine y_putF (M' := [(h, .inr (5, (((gD0 5).set 4 (.ref q1)).set 0 (.ref x)).set 1 (.ref u1))), (q1, .inl (Γ.1.2.1, 20, .inl (fun _ => 0)))]) hO hnm 5 1 0 (gTy 5 1) rfl (by decide) (by decide) rfl rfl (gTyOk 5 (by decide) 1 (by decide)) rfl rfl (Nat.le_of_ble_eq_true rfl) (gM 184 (by decide +kernel) rfl) dX5_init_22 rfl ?_
  refine y_aload_n hO dX5_init_25 rfl rfl ?_
  refine y_aload_n hO dX5_init_26 rfl rfl ?_
  refine y_getN (v := .ref u2) hO 1 i0 hx (by decide) rfl (by decide +kernel) rfl dX5_init_27 ?_
  refine y_putF (M' := [(h, .inr (5, ((((gD0 5).set 4 (.ref q1)).set 0 (.ref x)).set 1 (.ref u1)).set 2 (.ref u2))), (q1, .inl (Γ.1.2.1, 20, .inl (fun _ => 0)))]) hO hnm 5 2 0 (gTy 5 2) rfl (by decide) (by decide) rfl rfl (gTyOk 5 (by decide) 2 (by decide)) rfl rfl (Nat.le_of_ble_eq_true rfl) (gM 185 (by decide +kernel) rfl) dX5_init_30 rfl ?_
  refine y_aload_n hO dX5_init_33 rfl rfl ?_
  refine y_aload_n hO dX5_init_34 rfl rfl ?_
  refine y_getN (v := .ref u3) hO 2 i0 hx (by decide) rfl (by decide +kernel) rfl dX5_init_35 ?_
  refine y_putF (M' := [(h, .inr (5, (((((gD0 5).set 4 (.ref q1)).set 0 (.ref x)).set 1 (.ref u1)).set 2 (.ref u2)).set 3 (.ref u3))), (q1, .inl (Γ.1.2.1, 20, .inl (fun _ => 0)))]) hO hnm 5 3 0 (gTy 5 3) rfl (by decide) (by decide) rfl rfl (gTyOk 5 (by decide) 3 (by decide)) rfl rfl (Nat.le_of_ble_eq_true rfl) (gM 186 (by decide +kernel) rfl) dX5_init_38 rfl ?_
  exact y_ret hO z (fun i => if i < 1 then h else q1) rfl rfl dX5_init_41
theorem kX3_init (G : gG) (w0 : va_W) {x : Nat} : gCc yX3_init cX3_init 2 4 75 14 302 3 [.ref x] (fun G a => blkX3 G a x) G w0 := by
  refine gCc_intro RX3 rfl (by decide +kernel) rfl (by intro v hv; rcases List.mem_cons.mp hv with rfl | q; rfl; cases q) (Nat.le_of_ble_eq_true rfl) (fun Γ h hG hO z hnm => ?_)
  subst hG
  refine y_aload_n hO dX3_init_0 rfl rfl ?_
  refine y_obj hO (gM 217 (by decide +kernel) rfl) gMo1 gMo2 dX3_init_1 (by decide) (by decide) rfl ?_
  refine y_aload_n hO dX3_init_4 rfl rfl ?_
  refine y_new hO 7 (by decide) (gM 218 (by decide +kernel) rfl) (gM 85 (by decide +kernel) rfl) (gM 60 (by decide +kernel) rfl) dX3_init_5 (by decide) (by decide) (fun q1 => ?_)
  refine y_dup hO dX3_init_8 rfl ?_
  refine y_callK (M0 := [(h, .inr (3, gD0 3))]) (As := []) (rest := [.ref q1, .ref h]) hO mcX7 rfl (kX7_init Γ.1 _) rfl (by decide) (by decide) (Nat.le_of_ble_eq_true rfl) rfl (by decide) (by decide) dX3_init_9 (Or.inr (by decide +kernel)) (fun a1 ea1 => ?_)
  subst ea1
  refine y_putF (M' := [(h, .inr (3, (gD0 3).set 1 (.ref (a1 0))))] ++ blkX7 Γ.1 a1) hO hnm 3 1 0 (gTy 3 1) rfl (by decide) (by decide) rfl rfl (gTyOk 3 (by decide) 1 (by decide)) rfl rfl (Nat.le_of_ble_eq_true rfl) (gM 240 (by decide +kernel) rfl) dX3_init_12 rfl ?_
  refine y_aload_n hO dX3_init_15 rfl rfl ?_
  refine y_new hO 2 (by decide) (gM 220 (by decide +kernel) rfl) (gM 221 (by decide +kernel) rfl) (gM 69 (by decide +kernel) rfl) dX3_init_16 (by decide) (by decide) (fun q2 => ?_)
  refine y_dup hO dX3_init_19 rfl ?_
  refine y_callK (M0 := [(h, .inr (3, (gD0 3).set 1 (.ref (a1 0))))] ++ blkX7 Γ.1 a1) (As := []) (rest := [.ref q2, .ref h]) hO mcX2 rfl (kX2_init Γ.1 _) rfl (by decide) (by decide) (Nat.le_of_ble_eq_true rfl) rfl (by decide) (by decide) dX3_init_20 (Or.inr (by decide +kernel)) (fun a2 ea2 => ?_)
  subst ea2
  refine y_putF (M' := [(h, .inr (3, ((gD0 3).set 1 (.ref (a1 0))).set 2 (.ref (a2 0))))] ++ blkX7 Γ.1 a1 ++ blkX2 Γ.1 a2) hO hnm 3 2 0 (gTy 3 2) rfl (by decide) (by decide) rfl rfl (gTyOk 3 (by decide) 2 (by decide)) rfl rfl (Nat.le_of_ble_eq_true rfl) (gM 241 (by decide +kernel) rfl) dX3_init_23 rfl ?_
  refine y_aload_n hO dX3_init_26 rfl rfl ?_
  refine y_aload_n hO dX3_init_27 rfl rfl ?_
  refine y_putF (M' := [(h, .inr (3, (((gD0 3).set 1 (.ref (a1 0))).set 2 (.ref (a2 0))).set 0 (.ref x)))] ++ blkX7 Γ.1 a1 ++ blkX2 Γ.1 a2) hO hnm 3 0 0 (gTy 3 0) rfl (by decide) (by decide) rfl rfl (gTyOk 3 (by decide) 0 (by decide)) rfl rfl (Nat.le_of_ble_eq_true rfl) (gM 239 (by decide +kernel) rfl) dX3_init_28 rfl ?_
  exact y_ret hO z (fun i => if i < 1 then h else if i < 13 then a1 (i - 1) else a2 (i - 13)) rfl rfl dX3_init_31
theorem kX9_init (G : gG) (w0 : va_W) : gCc yX9_init cX9_init 1 5 96 93 2173 9 [] blkX9 G w0 := by
  refine gCc_intro RX9 rfl (by decide +kernel) rfl (by intro v hv; cases hv) (Nat.le_of_ble_eq_true rfl) (fun Γ h hG hO z hnm => ?_)
  subst hG
  refine y_aload_n hO dX9_init_0 rfl rfl ?_
  refine y_obj hO (gM 81 (by decide +kernel) rfl) gMo1 gMo2 dX9_init_1 (by decide) (by decide) rfl ?_
  refine y_aload_n hO dX9_init_4 rfl rfl ?_
  refine y_new hO 7 (by decide) (gM 84 (by decide +kernel) rfl) (gM 85 (by decide +kernel) rfl) (gM 60 (by decide +kernel) rfl) dX9_init_5 (by decide) (by decide) (fun q1 => ?_)
  refine y_dup hO dX9_init_8 rfl ?_
  refine y_callK (M0 := [(h, .inr (9, gD0 9))]) (As := []) (rest := [.ref q1, .ref h]) hO mcX7 rfl (kX7_init Γ.1 _) rfl (by decide) (by decide) (Nat.le_of_ble_eq_true rfl) rfl (by decide) (by decide) dX9_init_9 (Or.inr (by decide +kernel)) (fun a1 ea1 => ?_)
  subst ea1
  refine y_putF (M' := [(h, .inr (9, (gD0 9).set 0 (.ref (a1 0))))] ++ blkX7 Γ.1 a1) hO hnm 9 0 0 (gTy 9 0) rfl (by decide) (by decide) rfl rfl (gTyOk 9 (by decide) 0 (by decide)) rfl rfl (Nat.le_of_ble_eq_true rfl) (gM 261 (by decide +kernel) rfl) dX9_init_12 rfl ?_
  refine y_aload_n hO dX9_init_15 rfl rfl ?_
  refine y_new hO 7 (by decide) (gM 84 (by decide +kernel) rfl) (gM 85 (by decide +kernel) rfl) (gM 60 (by decide +kernel) rfl) dX9_init_16 (by decide) (by decide) (fun q2 => ?_)
  refine y_dup hO dX9_init_19 rfl ?_
  refine y_callK (M0 := [(h, .inr (9, (gD0 9).set 0 (.ref (a1 0))))] ++ blkX7 Γ.1 a1) (As := []) (rest := [.ref q2, .ref h]) hO mcX7 rfl (kX7_init Γ.1 _) rfl (by decide) (by decide) (Nat.le_of_ble_eq_true rfl) rfl (by decide) (by decide) dX9_init_20 (Or.inr (by decide +kernel)) (fun a2 ea2 => ?_)
  subst ea2
  refine y_putF (M' := [(h, .inr (9, ((gD0 9).set 0 (.ref (a1 0))).set 1 (.ref (a2 0))))] ++ blkX7 Γ.1 a1 ++ blkX7 Γ.1 a2) hO hnm 9 1 0 (gTy 9 1) rfl (by decide) (by decide) rfl rfl (gTyOk 9 (by decide) 1 (by decide)) rfl rfl (Nat.le_of_ble_eq_true rfl) (gM 262 (by decide +kernel) rfl) dX9_init_23 rfl ?_
  refine y_aload_n hO dX9_init_26 rfl rfl ?_
  refine y_new hO 1 (by decide) (gM 158 (by decide +kernel) rfl) (gM 159 (by decide +kernel) rfl) (gM 65 (by decide +kernel) rfl) dX9_init_27 (by decide) (by decide) (fun q3 => ?_)
  refine y_dup hO dX9_init_30 rfl ?_
  refine y_callK (M0 := [(h, .inr (9, ((gD0 9).set 0 (.ref (a1 0))).set 1 (.ref (a2 0))))] ++ blkX7 Γ.1 a1 ++ blkX7 Γ.1 a2) (As := []) (rest := [.ref q3, .ref h]) hO mcX1 rfl (kX1_init Γ.1 _) rfl (by decide) (by decide) (Nat.le_of_ble_eq_true rfl) rfl (by decide) (by decide) dX9_init_31 (Or.inl (gM 160 (by decide +kernel) rfl)) (fun a3 ea3 => ?_)
  subst ea3
  refine y_putF (M' := [(h, .inr (9, (((gD0 9).set 0 (.ref (a1 0))).set 1 (.ref (a2 0))).set 2 (.ref (a3 0))))] ++ blkX7 Γ.1 a1 ++ blkX7 Γ.1 a2 ++ blkX1 Γ.1 a3) hO hnm 9 2 0 (gTy 9 2) rfl (by decide) (by decide) rfl rfl (gTyOk 9 (by decide) 2 (by decide)) rfl rfl (Nat.le_of_ble_eq_true rfl) (gM 263 (by decide +kernel) rfl) dX9_init_34 rfl ?_
  refine y_aload_n hO dX9_init_37 rfl rfl ?_
  refine y_new hO 5 (by decide) (gM 177 (by decide +kernel) rfl) (gM 178 (by decide +kernel) rfl) (gM 66 (by decide +kernel) rfl) dX9_init_38 (by decide) (by decide) (fun q4 => ?_)
  refine y_dup hO dX9_init_41 rfl ?_
  refine y_aload_n hO dX9_init_42 rfl rfl ?_
  refine y_get (v := .ref (a1 0)) hO 9 0 0 rfl (by decide) (by decide) rfl (gM 261 (by decide +kernel) rfl) dX9_init_43 ?_
  refine y_callK (M0 := [(h, .inr (9, (((gD0 9).set 0 (.ref (a1 0))).set 1 (.ref (a2 0))).set 2 (.ref (a3 0))))] ++ blkX7 Γ.1 a1 ++ blkX7 Γ.1 a2 ++ blkX1 Γ.1 a3) (As := [.ref (a1 0)]) (rest := [.ref q4, .ref h]) hO mcX5 rfl (kX5_init Γ.1 _ (i0 := w0.length + 1) ((gAppG w0 _ 1).trans rfl)) rfl (by decide) (by decide) (Nat.le_of_ble_eq_true rfl) rfl (by decide) (by decide) dX9_init_46 (Or.inl (gM 179 (by decide +kernel) rfl)) (fun a4 ea4 => ?_)
  subst ea4
  refine y_putF (M' := [(h, .inr (9, ((((gD0 9).set 0 (.ref (a1 0))).set 1 (.ref (a2 0))).set 2 (.ref (a3 0))).set 3 (.ref (a4 0))))] ++ blkX7 Γ.1 a1 ++ blkX7 Γ.1 a2 ++ blkX1 Γ.1 a3 ++ blkX5 Γ.1 a4 (a1 0) (a1 1) (a1 8) (a1 10)) hO hnm 9 3 0 (gTy 9 3) rfl (by decide) (by decide) rfl rfl (gTyOk 9 (by decide) 3 (by decide)) rfl rfl (Nat.le_of_ble_eq_true rfl) (gM 264 (by decide +kernel) rfl) dX9_init_49 rfl ?_
  refine y_aload_n hO dX9_init_52 rfl rfl ?_
  refine y_new hO 6 (by decide) (gM 199 (by decide +kernel) rfl) (gM 200 (by decide +kernel) rfl) (gM 67 (by decide +kernel) rfl) dX9_init_53 (by decide) (by decide) (fun q5 => ?_)
  refine y_dup hO dX9_init_56 rfl ?_
  refine y_callK (M0 := [(h, .inr (9, ((((gD0 9).set 0 (.ref (a1 0))).set 1 (.ref (a2 0))).set 2 (.ref (a3 0))).set 3 (.ref (a4 0))))] ++ blkX7 Γ.1 a1 ++ blkX7 Γ.1 a2 ++ blkX1 Γ.1 a3 ++ blkX5 Γ.1 a4 (a1 0) (a1 1) (a1 8) (a1 10)) (As := []) (rest := [.ref q5, .ref h]) hO mcX6 rfl (kX6_init Γ.1 _) rfl (by decide) (by decide) (Nat.le_of_ble_eq_true rfl) rfl (by decide) (by decide) dX9_init_57 (Or.inr (by decide +kernel)) (fun a5 ea5 => ?_)
  subst ea5
  refine y_putF (M' := [(h, .inr (9, (((((gD0 9).set 0 (.ref (a1 0))).set 1 (.ref (a2 0))).set 2 (.ref (a3 0))).set 3 (.ref (a4 0))).set 4 (.ref (a5 0))))] ++ blkX7 Γ.1 a1 ++ blkX7 Γ.1 a2 ++ blkX1 Γ.1 a3 ++ blkX5 Γ.1 a4 (a1 0) (a1 1) (a1 8) (a1 10) ++ blkX6 Γ.1 a5) hO hnm 9 4 0 (gTy 9 4) rfl (by decide) (by decide) rfl rfl (gTyOk 9 (by decide) 4 (by decide)) rfl rfl (Nat.le_of_ble_eq_true rfl) (gM 265 (by decide +kernel) rfl) dX9_init_60 rfl ?_
  refine y_aload_n hO dX9_init_63 rfl rfl ?_
  refine y_new hO 3 (by decide) (gM 212 (by decide +kernel) rfl) (gM 213 (by decide +kernel) rfl) (gM 68 (by decide +kernel) rfl) dX9_init_64 (by decide) (by decide) (fun q6 => ?_)
  refine y_dup hO dX9_init_67 rfl ?_
  refine y_aload_n hO dX9_init_68 rfl rfl ?_
  refine y_get (v := .ref (a5 0)) hO 9 4 0 rfl (by decide) (by decide) rfl (gM 265 (by decide +kernel) rfl) dX9_init_69 ?_
  refine y_callK (M0 := [(h, .inr (9, (((((gD0 9).set 0 (.ref (a1 0))).set 1 (.ref (a2 0))).set 2 (.ref (a3 0))).set 3 (.ref (a4 0))).set 4 (.ref (a5 0))))] ++ blkX7 Γ.1 a1 ++ blkX7 Γ.1 a2 ++ blkX1 Γ.1 a3 ++ blkX5 Γ.1 a4 (a1 0) (a1 1) (a1 8) (a1 10) ++ blkX6 Γ.1 a5) (As := [.ref (a5 0)]) (rest := [.ref q6, .ref h]) hO mcX3 rfl (kX3_init Γ.1 _ (x := (a5 0))) rfl (by decide) (by decide) (Nat.le_of_ble_eq_true rfl) rfl (by decide) (by decide) dX9_init_72 (Or.inl (gM 214 (by decide +kernel) rfl)) (fun a6 ea6 => ?_)
  subst ea6
  refine y_putF (M' := [(h, .inr (9, ((((((gD0 9).set 0 (.ref (a1 0))).set 1 (.ref (a2 0))).set 2 (.ref (a3 0))).set 3 (.ref (a4 0))).set 4 (.ref (a5 0))).set 5 (.ref (a6 0))))] ++ blkX7 Γ.1 a1 ++ blkX7 Γ.1 a2 ++ blkX1 Γ.1 a3 ++ blkX5 Γ.1 a4 (a1 0) (a1 1) (a1 8) (a1 10) ++ blkX6 Γ.1 a5 ++ blkX3 Γ.1 a6 (a5 0)) hO hnm 9 5 0 (gTy 9 5) rfl (by decide) (by decide) rfl rfl (gTyOk 9 (by decide) 5 (by decide)) rfl rfl (Nat.le_of_ble_eq_true rfl) (gM 266 (by decide +kernel) rfl) dX9_init_75 rfl ?_
  exact y_ret hO z (fun i => if i < 1 then h else if i < 13 then a1 (i - 1) else if i < 25 then a2 (i - 13) else if i < 75 then a3 (i - 25) else if i < 77 then a4 (i - 75) else if i < 79 then a5 (i - 77) else a6 (i - 79)) rfl rfl dX9_init_78
theorem model_loop {Γ : gZ} {w0 : va_W} {h q1 q2 q3 q4 q5 q6 q7 : Nat} (hO : gOc Γ cX10_init 2 RX10 1 12 7 1796) (z : gEndC Γ h w0 blkX10 7 1796) : ∀ (d i : Nat), i + d = 16 → Ac Γ 7 1796 64 [some (.ref h), some (.int (nI i))] [] w0 ([(h, .inr (10, (((((((gD0 10).set 0 (.ref q1)).set 1 (.ref q2)).set 2 (.ref q3)).set 5 (.ref q4)).set 7 (.ref q5)).set 8 (.ref q6)).set 15 (.ref q7))), (q1, .inl (Γ.1.2.1, 284, .inl (fun j => if 260 ≤ j ∧ j < 260 + i then -1 else 0))), (q2, .inl (Γ.1.2.1, 1136, .inl (fun _ => 0))), (q3, .inl (Γ.1.2.1, 284, .inl (fun _ => 0))), (q4, .inl (Γ.1.2.1, 60, .inl (fun _ => 0))), (q5, .inl (Γ.1.2.1, 13, .inl (fun _ => 0))), (q6, .inl (Γ.1.2.1, 16, .inl (fun _ => 0))), (q7, .inl (Γ.1.2.1, 3, .inl (fun _ => 0)))])
  | d, i, hd => by
    refine y_iload_n hO dX10_init_64 rfl rfl ?_
    refine y_bipush (v := nI 16) hO dX10_init_65 (by decide) ?_
    refine y_ge (tgt := 87) hO dX10_init_67 (by decide) (fun c => ?_) (fun c => ?_)
    · have e : i = 16 := by
        rw [z_le (by omega) (by omega)] at c
        omega
      subst e
      refine y_aload_n hO dX10_init_87 rfl rfl ?_
      refine y_get (v := .ref q1) hO 10 0 0 rfl (by decide) (by decide) rfl (gM 976 (by decide +kernel) rfl) dX10_init_88 ?_
      refine y_sipush (v := nI 283) hO dX10_init_91 (by decide) ?_
      refine y_bipush (v := 30) hO dX10_init_94 (by decide) ?_
      refine y_iast (M' := [(h, .inr (10, (((((((gD0 10).set 0 (.ref q1)).set 1 (.ref q2)).set 2 (.ref q3)).set 5 (.ref q4)).set 7 (.ref q5)).set 8 (.ref q6)).set 15 (.ref q7))), (q1, .inl (Γ.1.2.1, 284, .inl (upd (fun j => if 260 ≤ j ∧ j < 260 + 16 then -1 else 0) (nI 283).toNatClampNeg 30))), (q2, .inl (Γ.1.2.1, 1136, .inl (fun _ => 0))), (q3, .inl (Γ.1.2.1, 284, .inl (fun _ => 0))), (q4, .inl (Γ.1.2.1, 60, .inl (fun _ => 0))), (q5, .inl (Γ.1.2.1, 13, .inl (fun _ => 0))), (q6, .inl (Γ.1.2.1, 16, .inl (fun _ => 0))), (q7, .inl (Γ.1.2.1, 3, .inl (fun _ => 0)))]) hO 1 rfl (by unfold vp_in; decide) dX10_init_96 rfl ?_
      exact y_ret hO z (fun i => if i < 1 then h else if i < 2 then q1 else if i < 3 then q2 else if i < 4 then q3 else if i < 5 then q4 else if i < 6 then q5 else if i < 7 then q6 else q7) rfl rfl dX10_init_97
    · have hi : i < 16 := by
        rw [z_le (by omega) (by omega)] at c
        omega
      refine y_aload_n hO dX10_init_70 rfl rfl ?_
      refine y_get (v := .ref q1) hO 10 0 0 rfl (by decide) (by decide) rfl (gM 976 (by decide +kernel) rfl) dX10_init_71 ?_
      refine y_sipush (v := nI 260) hO dX10_init_74 (by decide) ?_
      refine y_iload_n hO dX10_init_77 rfl rfl ?_
      refine y_iadd hO dX10_init_78 ?_
      refine y_iconst (v := -1) hO dX10_init_79 (by decide) ?_
      have hu : upd (fun j => if 260 ≤ j ∧ j < 260 + i then (-1 : Int32) else 0) (nI 260 + nI i).toNatClampNeg (-1) = fun j => if 260 ≤ j ∧ j < 260 + (i + 1) then (-1 : Int32) else 0 := by
        rw [nI_add, nI_clamp (by omega)]
        funext j
        by_cases e : j = 260 + i
        · subst e
          rw [up_e, if_pos (by omega)]
        · rw [up_n _ _ e]
          by_cases q : 260 ≤ j ∧ j < 260 + i
          · rw [if_pos q, if_pos (by omega)]
          · rw [if_neg q, if_neg (by omega)]
      refine y_iast (M' := [(h, .inr (10, (((((((gD0 10).set 0 (.ref q1)).set 1 (.ref q2)).set 2 (.ref q3)).set 5 (.ref q4)).set 7 (.ref q5)).set 8 (.ref q6)).set 15 (.ref q7))), (q1, .inl (Γ.1.2.1, 284, .inl (fun j => if 260 ≤ j ∧ j < 260 + (i + 1) then -1 else 0))), (q2, .inl (Γ.1.2.1, 1136, .inl (fun _ => 0))), (q3, .inl (Γ.1.2.1, 284, .inl (fun _ => 0))), (q4, .inl (Γ.1.2.1, 60, .inl (fun _ => 0))), (q5, .inl (Γ.1.2.1, 13, .inl (fun _ => 0))), (q6, .inl (Γ.1.2.1, 16, .inl (fun _ => 0))), (q7, .inl (Γ.1.2.1, 3, .inl (fun _ => 0)))]) hO 1 rfl (by rw [nI_add]; rintro (q | q); exact nI_pos (by omega) q; rw [nI_clamp (by omega)] at q; omega) dX10_init_80 (by rw [hu]; rfl) ?_
      refine y_iinc (v := nI (i + 1)) (L' := [some (.ref h), some (.int (nI (i + 1)))]) hO dX10_init_81 rfl (z_add1 i) rfl ?_
      exact y_goto (tgt := 64) hO dX10_init_84 (by decide) (model_loop hO z (d - 1) (i + 1) (by omega))
  termination_by d => d
theorem kX10_init (G : gG) (w0 : va_W) : gCc yX10_init cX10_init 2 1 12 7 1796 10 [] blkX10 G w0 := by
  refine gCc_intro RX10 rfl (by decide +kernel) rfl (by intro v hv; cases hv) (Nat.le_of_ble_eq_true rfl) (fun Γ h hG hO z hnm => ?_)
  subst hG
  refine y_aload_n hO dX10_init_0 rfl rfl ?_
  refine y_obj hO (gM 975 (by decide +kernel) rfl) gMo1 gMo2 dX10_init_1 (by decide) (by decide) rfl ?_
  refine y_aload_n hO dX10_init_4 rfl rfl ?_
  refine y_sipush (v := 284) hO dX10_init_5 (by decide) ?_
  refine y_newi hO (gMa) 284 dX10_init_8 rfl (by omega) (by decide) (by decide) (fun q1 => ?_)
  refine y_putF (M' := [(h, .inr (10, (gD0 10).set 0 (.ref q1))), (q1, .inl (Γ.1.2.1, 284, .inl (fun _ => 0)))]) hO hnm 10 0 0 (gTy 10 0) rfl (by decide) (by decide) rfl rfl (gTyOk 10 (by decide) 0 (by decide)) rfl rfl (Nat.le_of_ble_eq_true rfl) (gM 976 (by decide +kernel) rfl) dX10_init_10 rfl ?_
  refine y_aload_n hO dX10_init_13 rfl rfl ?_
  refine y_sipush (v := 1136) hO dX10_init_14 (by decide) ?_
  refine y_newi hO (gMa) 1136 dX10_init_17 rfl (by omega) (by decide) (by decide) (fun q2 => ?_)
  refine y_putF (M' := [(h, .inr (10, ((gD0 10).set 0 (.ref q1)).set 1 (.ref q2))), (q1, .inl (Γ.1.2.1, 284, .inl (fun _ => 0))), (q2, .inl (Γ.1.2.1, 1136, .inl (fun _ => 0)))]) hO hnm 10 1 0 (gTy 10 1) rfl (by decide) (by decide) rfl rfl (gTyOk 10 (by decide) 1 (by decide)) rfl rfl (Nat.le_of_ble_eq_true rfl) (gM 977 (by decide +kernel) rfl) dX10_init_19 rfl ?_
  refine y_aload_n hO dX10_init_22 rfl rfl ?_
  refine y_sipush (v := 284) hO dX10_init_23 (by decide) ?_
  refine y_newi hO (gMa) 284 dX10_init_26 rfl (by omega) (by decide) (by decide) (fun q3 => ?_)
  refine y_putF (M' := [(h, .inr (10, (((gD0 10).set 0 (.ref q1)).set 1 (.ref q2)).set 2 (.ref q3))), (q1, .inl (Γ.1.2.1, 284, .inl (fun _ => 0))), (q2, .inl (Γ.1.2.1, 1136, .inl (fun _ => 0))), (q3, .inl (Γ.1.2.1, 284, .inl (fun _ => 0)))]) hO hnm 10 2 0 (gTy 10 2) rfl (by decide) (by decide) rfl rfl (gTyOk 10 (by decide) 2 (by decide)) rfl rfl (Nat.le_of_ble_eq_true rfl) (gM 978 (by decide +kernel) rfl) dX10_init_28 rfl ?_
  refine y_aload_n hO dX10_init_31 rfl rfl ?_
  refine y_bipush (v := 60) hO dX10_init_32 (by decide) ?_
  refine y_newi hO (gMa) 60 dX10_init_34 rfl (by omega) (by decide) (by decide) (fun q4 => ?_)
  refine y_putF (M' := [(h, .inr (10, ((((gD0 10).set 0 (.ref q1)).set 1 (.ref q2)).set 2 (.ref q3)).set 5 (.ref q4))), (q1, .inl (Γ.1.2.1, 284, .inl (fun _ => 0))), (q2, .inl (Γ.1.2.1, 1136, .inl (fun _ => 0))), (q3, .inl (Γ.1.2.1, 284, .inl (fun _ => 0))), (q4, .inl (Γ.1.2.1, 60, .inl (fun _ => 0)))]) hO hnm 10 5 0 (gTy 10 5) rfl (by decide) (by decide) rfl rfl (gTyOk 10 (by decide) 5 (by decide)) rfl rfl (Nat.le_of_ble_eq_true rfl) (gM 981 (by decide +kernel) rfl) dX10_init_36 rfl ?_
  refine y_aload_n hO dX10_init_39 rfl rfl ?_
  refine y_bipush (v := 13) hO dX10_init_40 (by decide) ?_
  refine y_newi hO (gMa) 13 dX10_init_42 rfl (by omega) (by decide) (by decide) (fun q5 => ?_)
  refine y_putF (M' := [(h, .inr (10, (((((gD0 10).set 0 (.ref q1)).set 1 (.ref q2)).set 2 (.ref q3)).set 5 (.ref q4)).set 7 (.ref q5))), (q1, .inl (Γ.1.2.1, 284, .inl (fun _ => 0))), (q2, .inl (Γ.1.2.1, 1136, .inl (fun _ => 0))), (q3, .inl (Γ.1.2.1, 284, .inl (fun _ => 0))), (q4, .inl (Γ.1.2.1, 60, .inl (fun _ => 0))), (q5, .inl (Γ.1.2.1, 13, .inl (fun _ => 0)))]) hO hnm 10 7 0 (gTy 10 7) rfl (by decide) (by decide) rfl rfl (gTyOk 10 (by decide) 7 (by decide)) rfl rfl (Nat.le_of_ble_eq_true rfl) (gM 983 (by decide +kernel) rfl) dX10_init_44 rfl ?_
  refine y_aload_n hO dX10_init_47 rfl rfl ?_
  refine y_bipush (v := 16) hO dX10_init_48 (by decide) ?_
  refine y_newi hO (gMa) 16 dX10_init_50 rfl (by omega) (by decide) (by decide) (fun q6 => ?_)
  refine y_putF (M' := [(h, .inr (10, ((((((gD0 10).set 0 (.ref q1)).set 1 (.ref q2)).set 2 (.ref q3)).set 5 (.ref q4)).set 7 (.ref q5)).set 8 (.ref q6))), (q1, .inl (Γ.1.2.1, 284, .inl (fun _ => 0))), (q2, .inl (Γ.1.2.1, 1136, .inl (fun _ => 0))), (q3, .inl (Γ.1.2.1, 284, .inl (fun _ => 0))), (q4, .inl (Γ.1.2.1, 60, .inl (fun _ => 0))), (q5, .inl (Γ.1.2.1, 13, .inl (fun _ => 0))), (q6, .inl (Γ.1.2.1, 16, .inl (fun _ => 0)))]) hO hnm 10 8 0 (gTy 10 8) rfl (by decide) (by decide) rfl rfl (gTyOk 10 (by decide) 8 (by decide)) rfl rfl (Nat.le_of_ble_eq_true rfl) (gM 984 (by decide +kernel) rfl) dX10_init_52 rfl ?_
  refine y_aload_n hO dX10_init_55 rfl rfl ?_
  refine y_iconst (v := 3) hO dX10_init_56 (by decide) ?_
  refine y_newi hO (gMa) 3 dX10_init_57 rfl (by omega) (by decide) (by decide) (fun q7 => ?_)
  refine y_putF (M' := [(h, .inr (10, (((((((gD0 10).set 0 (.ref q1)).set 1 (.ref q2)).set 2 (.ref q3)).set 5 (.ref q4)).set 7 (.ref q5)).set 8 (.ref q6)).set 15 (.ref q7))), (q1, .inl (Γ.1.2.1, 284, .inl (fun _ => 0))), (q2, .inl (Γ.1.2.1, 1136, .inl (fun _ => 0))), (q3, .inl (Γ.1.2.1, 284, .inl (fun _ => 0))), (q4, .inl (Γ.1.2.1, 60, .inl (fun _ => 0))), (q5, .inl (Γ.1.2.1, 13, .inl (fun _ => 0))), (q6, .inl (Γ.1.2.1, 16, .inl (fun _ => 0))), (q7, .inl (Γ.1.2.1, 3, .inl (fun _ => 0)))]) hO hnm 10 15 0 (gTy 10 15) rfl (by decide) (by decide) rfl rfl (gTyOk 10 (by decide) 15 (by decide)) rfl rfl (Nat.le_of_ble_eq_true rfl) (gM 991 (by decide +kernel) rfl) dX10_init_59 rfl ?_
  refine y_iconst (v := 0) hO dX10_init_62 (by decide) ?_
  refine y_istore_n (L' := [some (.ref h), some (.int 0)]) hO dX10_init_63 rfl (Nat.le_of_ble_eq_true rfl) rfl ?_
  have e0 : (fun (j : Nat) => if 260 ≤ j ∧ j < 260 + 0 then (-1 : Int32) else 0) = fun _ => 0 := funext fun j => if_neg (by omega)
  have ml := model_loop (q1 := q1) (q2 := q2) (q3 := q3) (q4 := q4) (q5 := q5) (q6 := q6) (q7 := q7) hO z 16 0 rfl
  rw [e0] at ml
  exact ml
