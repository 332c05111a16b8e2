set_option maxRecDepth 20000 in
set_option maxHeartbeats 4000000 in
theorem c_J6_bitCount_0f7a4 (fu : Nat) (σ : gSt) (p0 : Int32) : gCt yJ6_bitCount_0f7a4 cJ6_bitCount_0f7a4 1 (some .int) 0 0 (gQp σ) (fun ad => [.int p0]) σ (f_J6_bitCount_0f7a4 fu σ p0) := by
  refine gCt_intro RJ6 rfl (by decide +kernel) (fun ad v hv => by simp only [List.mem_cons, List.not_mem_nil, or_false] at hv; rcases hv with rfl <;> rfl) (fun ad => Nat.le_of_ble_eq_true rfl) (fun Γ h z => ?_)
  show At Γ 0 [some (.int p0)] [] σ _
  unfold f_J6_bitCount_0f7a4
  refine x_iload_n (pc := 0) (i := 0) h dJ6_bitCount_0f7a4_0 rfl rfl ?_
  refine x_iload_n (pc := 1) (i := 0) h dJ6_bitCount_0f7a4_1 rfl rfl ?_
  refine x_iconst (pc := 2) (v := 1) h dJ6_bitCount_0f7a4_2 (by decide) ?_
  refine x_iushr (pc := 3) h dJ6_bitCount_0f7a4_3 ?_
  refine x_ldcw (pc := 4) h kc_J6_265 dJ6_bitCount_0f7a4_4 ?_
  refine x_iand (pc := 7) h dJ6_bitCount_0f7a4_7 ?_
  refine x_isub (pc := 8) h dJ6_bitCount_0f7a4_8 ?_
  refine x_lt (fun y9 => ?_)
  refine x_istore_n (pc := 9) (i := 0) (L' := [some (.int y9)]) h dJ6_bitCount_0f7a4_9 rfl (Nat.le_of_ble_eq_true rfl) rfl ?_
  refine x_iload_n (pc := 10) (i := 0) h dJ6_bitCount_0f7a4_10 rfl rfl ?_
  refine x_ldcw (pc := 11) h kc_J6_266 dJ6_bitCount_0f7a4_11 ?_
  refine x_iand (pc := 14) h dJ6_bitCount_0f7a4_14 ?_
  refine x_iload_n (pc := 15) (i := 0) h dJ6_bitCount_0f7a4_15 rfl rfl ?_
  refine x_iconst (pc := 16) (v := 2) h dJ6_bitCount_0f7a4_16 (by decide) ?_
  refine x_iushr (pc := 17) h dJ6_bitCount_0f7a4_17 ?_
  refine x_ldcw (pc := 18) h kc_J6_266 dJ6_bitCount_0f7a4_18 ?_
  refine x_iand (pc := 21) h dJ6_bitCount_0f7a4_21 ?_
  refine x_iadd (pc := 22) h dJ6_bitCount_0f7a4_22 ?_
  refine x_lt (fun y23 => ?_)
  refine x_istore_n (pc := 23) (i := 0) (L' := [some (.int y23)]) h dJ6_bitCount_0f7a4_23 rfl (Nat.le_of_ble_eq_true rfl) rfl ?_
  refine x_iload_n (pc := 24) (i := 0) h dJ6_bitCount_0f7a4_24 rfl rfl ?_
  refine x_iload_n (pc := 25) (i := 0) h dJ6_bitCount_0f7a4_25 rfl rfl ?_
  refine x_iconst (pc := 26) (v := 4) h dJ6_bitCount_0f7a4_26 (by decide) ?_
  refine x_iushr (pc := 27) h dJ6_bitCount_0f7a4_27 ?_
  refine x_iadd (pc := 28) h dJ6_bitCount_0f7a4_28 ?_
  refine x_ldcw (pc := 29) h kc_J6_267 dJ6_bitCount_0f7a4_29 ?_
  refine x_iand (pc := 32) h dJ6_bitCount_0f7a4_32 ?_
  refine x_lt (fun y33 => ?_)
  refine x_istore_n (pc := 33) (i := 0) (L' := [some (.int y33)]) h dJ6_bitCount_0f7a4_33 rfl (Nat.le_of_ble_eq_true rfl) rfl ?_
  refine x_iload_n (pc := 34) (i := 0) h dJ6_bitCount_0f7a4_34 rfl rfl ?_
  refine x_iload_n (pc := 35) (i := 0) h dJ6_bitCount_0f7a4_35 rfl rfl ?_
  refine x_bipush (pc := 36) (v := 8) h dJ6_bitCount_0f7a4_36 (by decide) ?_
  refine x_iushr (pc := 38) h dJ6_bitCount_0f7a4_38 ?_
  refine x_iadd (pc := 39) h dJ6_bitCount_0f7a4_39 ?_
  refine x_istore_n (pc := 40) (i := 0) (L' := [some (.int (y33 + (ushr y33 8)))]) h dJ6_bitCount_0f7a4_40 rfl (Nat.le_of_ble_eq_true rfl) rfl ?_
  refine x_iload_n (pc := 41) (i := 0) h dJ6_bitCount_0f7a4_41 rfl rfl ?_
  refine x_iload_n (pc := 42) (i := 0) h dJ6_bitCount_0f7a4_42 rfl rfl ?_
  refine x_bipush (pc := 43) (v := 16) h dJ6_bitCount_0f7a4_43 (by decide) ?_
  refine x_iushr (pc := 45) h dJ6_bitCount_0f7a4_45 ?_
  refine x_iadd (pc := 46) h dJ6_bitCount_0f7a4_46 ?_
  refine x_lt (fun y47 => ?_)
  refine x_istore_n (pc := 47) (i := 0) (L' := [some (.int y47)]) h dJ6_bitCount_0f7a4_47 rfl (Nat.le_of_ble_eq_true rfl) rfl ?_
  refine x_iload_n (pc := 48) (i := 0) h dJ6_bitCount_0f7a4_48 rfl rfl ?_
  refine x_bipush (pc := 49) (v := 63) h dJ6_bitCount_0f7a4_49 (by decide) ?_
  refine x_iand (pc := 51) h dJ6_bitCount_0f7a4_51 ?_
  exact x_iretp (pc := 52) h z rfl .int rfl rfl dJ6_bitCount_0f7a4_52

set_option maxRecDepth 20000 in
set_option maxHeartbeats 4000000 in
theorem c_J9_abs_0f7a4 (fu : Nat) (σ : gSt) (p0 : Int32) : gCt yJ9_abs_0f7a4 cJ9_abs_0f7a4 1 (some .int) 0 0 (gQp σ) (fun ad => [.int p0]) σ (f_J9_abs_0f7a4 fu σ p0) := by
  refine gCt_intro RJ9 rfl (by decide +kernel) (fun ad v hv => by simp only [List.mem_cons, List.not_mem_nil, or_false] at hv; rcases hv with rfl <;> rfl) (fun ad => Nat.le_of_ble_eq_true rfl) (fun Γ h z => ?_)
  show At Γ 0 [some (.int p0)] [] σ _
  unfold f_J9_abs_0f7a4
  refine x_iload_n (pc := 0) (i := 0) h dJ9_abs_0f7a4_0 rfl rfl ?_
  refine x_if_ge (pc := 1) (tgt := 9) h dJ9_abs_0f7a4_1 (by decide) ?_ ?_
  · refine x_iload_n (pc := 9) (i := 0) h dJ9_abs_0f7a4_9 rfl rfl ?_
    exact x_iretp (pc := 10) h z rfl .int rfl rfl dJ9_abs_0f7a4_10
  · refine x_iload_n (pc := 4) (i := 0) h dJ9_abs_0f7a4_4 rfl rfl ?_
    refine x_ineg (pc := 5) h dJ9_abs_0f7a4_5 ?_
    refine x_goto (pc := 6) (tgt := 10) h dJ9_abs_0f7a4_6 (by decide) ?_
    exact x_iretp (pc := 10) h z rfl .int rfl rfl dJ9_abs_0f7a4_10

set_option maxRecDepth 20000 in
set_option maxHeartbeats 4000000 in
theorem c_J9_floorMod_7cf53 (fu : Nat) (σ : gSt) (p0 : Int32) (p1 : Int32) : gCt yJ9_floorMod_7cf53 cJ9_floorMod_7cf53 3 (some .int) 0 0 (gQp σ) (fun ad => [.int p0, .int p1]) σ (f_J9_floorMod_7cf53 fu σ p0 p1) := by
  refine gCt_intro RJ9 rfl (by decide +kernel) (fun ad v hv => by simp only [List.mem_cons, List.not_mem_nil, or_false] at hv; rcases hv with rfl | rfl <;> rfl) (fun ad => Nat.le_of_ble_eq_true rfl) (fun Γ h z => ?_)
  show At Γ 0 [some (.int p0), some (.int p1), none] [] σ _
  unfold f_J9_floorMod_7cf53
  refine x_iload_n (pc := 0) (i := 0) h dJ9_floorMod_7cf53_0 rfl rfl ?_
  refine x_iload_n (pc := 1) (i := 1) h dJ9_floorMod_7cf53_1 rfl rfl ?_
  refine x_irem (pc := 2) h dJ9_floorMod_7cf53_2 (fun v2 => ?_)
  refine x_istore_n (pc := 3) (i := 2) (L' := [some (.int p0), some (.int p1), some (.int v2)]) h dJ9_floorMod_7cf53_3 rfl (Nat.le_of_ble_eq_true rfl) rfl ?_
  refine x_iload_n (pc := 4) (i := 0) h dJ9_floorMod_7cf53_4 rfl rfl ?_
  refine x_iload_n (pc := 5) (i := 1) h dJ9_floorMod_7cf53_5 rfl rfl ?_
  refine x_ixor (pc := 6) h dJ9_floorMod_7cf53_6 ?_
  refine x_if_ge (pc := 7) (tgt := 18) h dJ9_floorMod_7cf53_7 (by decide) ?_ ?_
  · refine x_iload_n (pc := 18) (i := 2) h dJ9_floorMod_7cf53_18 rfl rfl ?_
    exact x_iretp (pc := 19) h z rfl .int rfl rfl dJ9_floorMod_7cf53_19
  · refine x_iload_n (pc := 10) (i := 2) h dJ9_floorMod_7cf53_10 rfl rfl ?_
    refine x_if_eq (pc := 11) (tgt := 18) h dJ9_floorMod_7cf53_11 (by decide) ?_ ?_
    · refine x_iload_n (pc := 18) (i := 2) h dJ9_floorMod_7cf53_18 rfl rfl ?_
      exact x_iretp (pc := 19) h z rfl .int rfl rfl dJ9_floorMod_7cf53_19
    · refine x_iload_n (pc := 14) (i := 2) h dJ9_floorMod_7cf53_14 rfl rfl ?_
      refine x_iload_n (pc := 15) (i := 1) h dJ9_floorMod_7cf53_15 rfl rfl ?_
      refine x_iadd (pc := 16) h dJ9_floorMod_7cf53_16 ?_
      exact x_iretp (pc := 17) h z rfl .int rfl rfl dJ9_floorMod_7cf53_17

set_option maxRecDepth 20000 in
set_option maxHeartbeats 4000000 in
theorem c_J9_max_7cf53 (fu : Nat) (σ : gSt) (p0 : Int32) (p1 : Int32) : gCt yJ9_max_7cf53 cJ9_max_7cf53 2 (some .int) 0 0 (gQp σ) (fun ad => [.int p0, .int p1]) σ (f_J9_max_7cf53 fu σ p0 p1) := by
  refine gCt_intro RJ9 rfl (by decide +kernel) (fun ad v hv => by simp only [List.mem_cons, List.not_mem_nil, or_false] at hv; rcases hv with rfl | rfl <;> rfl) (fun ad => Nat.le_of_ble_eq_true rfl) (fun Γ h z => ?_)
  show At Γ 0 [some (.int p0), some (.int p1)] [] σ _
  unfold f_J9_max_7cf53
  refine x_iload_n (pc := 0) (i := 0) h dJ9_max_7cf53_0 rfl rfl ?_
  refine x_iload_n (pc := 1) (i := 1) h dJ9_max_7cf53_1 rfl rfl ?_
  refine x_icmp_lt (pc := 2) (tgt := 9) h dJ9_max_7cf53_2 (by decide) ?_ ?_
  · refine x_iload_n (pc := 9) (i := 1) h dJ9_max_7cf53_9 rfl rfl ?_
    exact x_iretp (pc := 10) h z rfl .int rfl rfl dJ9_max_7cf53_10
  · refine x_iload_n (pc := 5) (i := 0) h dJ9_max_7cf53_5 rfl rfl ?_
    refine x_goto (pc := 6) (tgt := 10) h dJ9_max_7cf53_6 (by decide) ?_
    exact x_iretp (pc := 10) h z rfl .int rfl rfl dJ9_max_7cf53_10

set_option maxRecDepth 20000 in
set_option maxHeartbeats 4000000 in
theorem c_J9_min_7cf53 (fu : Nat) (σ : gSt) (p0 : Int32) (p1 : Int32) : gCt yJ9_min_7cf53 cJ9_min_7cf53 2 (some .int) 0 0 (gQp σ) (fun ad => [.int p0, .int p1]) σ (f_J9_min_7cf53 fu σ p0 p1) := by
  refine gCt_intro RJ9 rfl (by decide +kernel) (fun ad v hv => by simp only [List.mem_cons, List.not_mem_nil, or_false] at hv; rcases hv with rfl | rfl <;> rfl) (fun ad => Nat.le_of_ble_eq_true rfl) (fun Γ h z => ?_)
  show At Γ 0 [some (.int p0), some (.int p1)] [] σ _
  unfold f_J9_min_7cf53
  refine x_iload_n (pc := 0) (i := 0) h dJ9_min_7cf53_0 rfl rfl ?_
  refine x_iload_n (pc := 1) (i := 1) h dJ9_min_7cf53_1 rfl rfl ?_
  refine x_icmp_gt (pc := 2) (tgt := 9) h dJ9_min_7cf53_2 (by decide) ?_ ?_
  · refine x_iload_n (pc := 9) (i := 1) h dJ9_min_7cf53_9 rfl rfl ?_
    exact x_iretp (pc := 10) h z rfl .int rfl rfl dJ9_min_7cf53_10
  · refine x_iload_n (pc := 5) (i := 0) h dJ9_min_7cf53_5 rfl rfl ?_
    refine x_goto (pc := 6) (tgt := 10) h dJ9_min_7cf53_6 (by decide) ?_
    exact x_iretp (pc := 10) h z rfl .int rfl rfl dJ9_min_7cf53_10

set_option maxRecDepth 20000 in
set_option maxHeartbeats 4000000 in
theorem c_Jxf58ca_isNaN_12338 (fu : Nat) (σ : gSt) (p0 : UInt32) : gCt yJxf58ca_isNaN_12338 cJxf58ca_isNaN_12338 1 (some .boolean) 0 0 (gQp σ) (fun ad => [.float p0]) σ (f_Jxf58ca_isNaN_12338 fu σ p0) := by
  refine gCt_intro RJxf58ca rfl (by decide +kernel) (fun ad v hv => by simp only [List.mem_cons, List.not_mem_nil, or_false] at hv; rcases hv with rfl <;> rfl) (fun ad => Nat.le_of_ble_eq_true rfl) (fun Γ h z => ?_)
  show At Γ 0 [some (.float p0)] [] σ _
  unfold f_Jxf58ca_isNaN_12338
  refine x_fload_n (pc := 0) (i := 0) h dJxf58ca_isNaN_12338_0 rfl rfl ?_
  refine x_fload_n (pc := 1) (i := 0) h dJxf58ca_isNaN_12338_1 rfl rfl ?_
  refine x_fcmp (pc := 2) h dJxf58ca_isNaN_12338_2 ?_
  refine x_if_eq (pc := 3) (tgt := 10) h dJxf58ca_isNaN_12338_3 (by decide) ?_ ?_
  · refine x_iconst (pc := 10) (v := 0) h dJxf58ca_isNaN_12338_10 (by decide) ?_
    exact x_iretp (pc := 11) h z rfl .boolean rfl rfl dJxf58ca_isNaN_12338_11
  · refine x_iconst (pc := 6) (v := 1) h dJxf58ca_isNaN_12338_6 (by decide) ?_
    refine x_goto (pc := 7) (tgt := 11) h dJxf58ca_isNaN_12338_7 (by decide) ?_
    exact x_iretp (pc := 11) h z rfl .boolean rfl rfl dJxf58ca_isNaN_12338_11

set_option maxRecDepth 20000 in
set_option maxHeartbeats 4000000 in
theorem c_Jxf58ca_floatToIntBits_5c35a (fu : Nat) (σ : gSt) (p0 : UInt32) : gCt yJxf58ca_floatToIntBits_5c35a cJxf58ca_floatToIntBits_5c35a 1 (some .int) 1 30 (gQp σ) (fun ad => [.float p0]) σ (f_Jxf58ca_floatToIntBits_5c35a fu σ p0) := by
  refine gCt_intro RJxf58ca rfl (by decide +kernel) (fun ad v hv => by simp only [List.mem_cons, List.not_mem_nil, or_false] at hv; rcases hv with rfl <;> rfl) (fun ad => Nat.le_of_ble_eq_true rfl) (fun Γ h z => ?_)
  show At Γ 0 [some (.float p0)] [] σ _
  unfold f_Jxf58ca_floatToIntBits_5c35a
  refine x_fload_n (pc := 0) (i := 0) h dJxf58ca_floatToIntBits_5c35a_0 rfl rfl ?_
  refine x_Sp (pc := 1) (av := fun ad => [.float p0]) (rest := []) h m_Jxf58ca_isNaN_12338 s_Jxf58ca_isNaN_12338 kl_Jxf58ca_59 (c_Jxf58ca_isNaN_12338 fu σ p0) rfl rfl (gCaM rfl) dJxf58ca_floatToIntBits_5c35a_1 (fun v1 => ?_)
  refine x_if_ne (pc := 4) (tgt := 12) h dJxf58ca_floatToIntBits_5c35a_4 (by decide) ?_ ?_
  · refine x_ldc (pc := 12) h kc_Jxf58ca_77 dJxf58ca_floatToIntBits_5c35a_12 ?_
    exact x_iretp (pc := 14) h z rfl .int rfl rfl dJxf58ca_floatToIntBits_5c35a_14
  · refine x_fload_n (pc := 7) (i := 0) h dJxf58ca_floatToIntBits_5c35a_7 rfl rfl ?_
    refine x_f2raw (pc := 8) h kl_Jxf58ca_74 w_raw1 w_raw2 w_raw3 rfl (by decide) (Nat.le_of_ble_eq_true rfl) dJxf58ca_floatToIntBits_5c35a_8 ?_
    exact x_iretp (pc := 11) h z rfl .int rfl rfl dJxf58ca_floatToIntBits_5c35a_11

set_option maxRecDepth 20000 in
set_option maxHeartbeats 4000000 in
theorem c_X8_takeFrom (fu : Nat) (σ : gSt) (k0 : Nat) (k1 : Nat) (hk0 : isO k0 8) (hk1 : isO k1 8) : gCt yX8_takeFrom cX8_takeFrom 2 none 1 30 gQv (fun ad => [.ref (ad k0), .ref (ad k1)]) σ (f_X8_takeFrom fu σ k0 k1) := by
  refine gCt_intro RX8 rfl (by decide +kernel) (fun ad v hv => by simp only [List.mem_cons, List.not_mem_nil, or_false] at hv; rcases hv with rfl | rfl <;> rfl) (fun ad => Nat.le_of_ble_eq_true rfl) (fun Γ h z => ?_)
  show At Γ 0 [some (.ref (gAd Γ.1 k0)), some (.ref (gAd Γ.1 k1))] [] σ _
  unfold f_X8_takeFrom
  refine x_aload_n (pc := 0) (i := 1) h dX8_takeFrom_0 rfl rfl ?_
  refine gf_X8_9 (pc := 1) h hk1 dX8_takeFrom_1 ?_
  refine x_iconst (pc := 4) (v := 0) h dX8_takeFrom_4 (by decide) ?_
  refine x_aload_n (pc := 5) (i := 0) h dX8_takeFrom_5 rfl rfl ?_
  refine gf_X8_9 (pc := 6) h hk0 dX8_takeFrom_6 ?_
  refine x_iconst (pc := 9) (v := 0) h dX8_takeFrom_9 (by decide) ?_
  refine x_bipush (pc := 10) (v := 20) h dX8_takeFrom_10 (by decide) ?_
  refine x_cpy (pc := 12) h (t_8_0 hk1) (t_8_0 hk0) kl_X8_30 w_cpy1 w_cpy2 w_cpy3 rfl (by decide) (Nat.le_of_ble_eq_true rfl) dX8_takeFrom_12 (fun σ12 => ?_)
  refine x_aload_n (pc := 15) (i := 1) h dX8_takeFrom_15 rfl rfl ?_
  refine gf_X8_15 (pc := 16) h hk1 dX8_takeFrom_16 ?_
  refine x_iconst (pc := 19) (v := 0) h dX8_takeFrom_19 (by decide) ?_
  refine x_aload_n (pc := 20) (i := 0) h dX8_takeFrom_20 rfl rfl ?_
  refine gf_X8_15 (pc := 21) h hk0 dX8_takeFrom_21 ?_
  refine x_iconst (pc := 24) (v := 0) h dX8_takeFrom_24 (by decide) ?_
  refine x_bipush (pc := 25) (v := 20) h dX8_takeFrom_25 (by decide) ?_
  refine x_cpy (pc := 27) h (t_8_1 hk1) (t_8_1 hk0) kl_X8_30 w_cpy1 w_cpy2 w_cpy3 rfl (by decide) (Nat.le_of_ble_eq_true rfl) dX8_takeFrom_27 (fun σ27 => ?_)
  refine x_aload_n (pc := 30) (i := 1) h dX8_takeFrom_30 rfl rfl ?_
  refine gf_X8_18 (pc := 31) h hk1 dX8_takeFrom_31 ?_
  refine x_iconst (pc := 34) (v := 0) h dX8_takeFrom_34 (by decide) ?_
  refine x_aload_n (pc := 35) (i := 0) h dX8_takeFrom_35 rfl rfl ?_
  refine gf_X8_18 (pc := 36) h hk0 dX8_takeFrom_36 ?_
  refine x_iconst (pc := 39) (v := 0) h dX8_takeFrom_39 (by decide) ?_
  refine x_bipush (pc := 40) (v := 20) h dX8_takeFrom_40 (by decide) ?_
  refine x_cpy (pc := 42) h (t_8_2 hk1) (t_8_2 hk0) kl_X8_30 w_cpy1 w_cpy2 w_cpy3 rfl (by decide) (Nat.le_of_ble_eq_true rfl) dX8_takeFrom_42 (fun σ42 => ?_)
  refine x_aload_n (pc := 45) (i := 1) h dX8_takeFrom_45 rfl rfl ?_
  refine gf_X8_21 (pc := 46) h hk1 dX8_takeFrom_46 ?_
  refine x_iconst (pc := 49) (v := 0) h dX8_takeFrom_49 (by decide) ?_
  refine x_aload_n (pc := 50) (i := 0) h dX8_takeFrom_50 rfl rfl ?_
  refine gf_X8_21 (pc := 51) h hk0 dX8_takeFrom_51 ?_
  refine x_iconst (pc := 54) (v := 0) h dX8_takeFrom_54 (by decide) ?_
  refine x_bipush (pc := 55) (v := 20) h dX8_takeFrom_55 (by decide) ?_
  refine x_cpy (pc := 57) h (t_8_3 hk1) (t_8_3 hk0) kl_X8_30 w_cpy1 w_cpy2 w_cpy3 rfl (by decide) (Nat.le_of_ble_eq_true rfl) dX8_takeFrom_57 (fun σ57 => ?_)
  refine x_aload_n (pc := 60) (i := 1) h dX8_takeFrom_60 rfl rfl ?_
  refine gf_X8_24 (pc := 61) h hk1 dX8_takeFrom_61 ?_
  refine x_iconst (pc := 64) (v := 0) h dX8_takeFrom_64 (by decide) ?_
  refine x_aload_n (pc := 65) (i := 0) h dX8_takeFrom_65 rfl rfl ?_
  refine gf_X8_24 (pc := 66) h hk0 dX8_takeFrom_66 ?_
  refine x_iconst (pc := 69) (v := 0) h dX8_takeFrom_69 (by decide) ?_
  refine x_bipush (pc := 70) (v := 20) h dX8_takeFrom_70 (by decide) ?_
  refine x_cpy (pc := 72) h (t_8_4 hk1) (t_8_4 hk0) kl_X8_30 w_cpy1 w_cpy2 w_cpy3 rfl (by decide) (Nat.le_of_ble_eq_true rfl) dX8_takeFrom_72 (fun σ72 => ?_)
  refine x_aload_n (pc := 75) (i := 1) h dX8_takeFrom_75 rfl rfl ?_
  refine gf_X8_27 (pc := 76) h hk1 dX8_takeFrom_76 ?_
  refine x_iconst (pc := 79) (v := 0) h dX8_takeFrom_79 (by decide) ?_
  refine x_aload_n (pc := 80) (i := 0) h dX8_takeFrom_80 rfl rfl ?_
  refine gf_X8_27 (pc := 81) h hk0 dX8_takeFrom_81 ?_
  refine x_iconst (pc := 84) (v := 0) h dX8_takeFrom_84 (by decide) ?_
  refine x_sipush (pc := 85) (v := 160) h dX8_takeFrom_85 (by decide) ?_
  refine x_cpy (pc := 88) h (t_8_5 hk1) (t_8_5 hk0) kl_X8_30 w_cpy1 w_cpy2 w_cpy3 rfl (by decide) (Nat.le_of_ble_eq_true rfl) dX8_takeFrom_88 (fun σ88 => ?_)
  refine x_aload_n (pc := 91) (i := 0) h dX8_takeFrom_91 rfl rfl ?_
  refine x_aload_n (pc := 92) (i := 1) h dX8_takeFrom_92 rfl rfl ?_
  refine gf_X8_36 (pc := 93) h hk1 dX8_takeFrom_93 ?_
  refine x_put (pc := 96) h 8 6 .int hk0 (by decide) (by decide) rfl rfl rfl rfl rfl kf_X8_36 dX8_takeFrom_96 (fun σ96 => ?_)
  exact x_vret (pc := 99) h z rfl dX8_takeFrom_99

set_option maxRecDepth 20000 in
set_option maxHeartbeats 4000000 in
theorem c_X0_takeFrom (fu : Nat) (σ : gSt) (k0 : Nat) (k1 : Nat) (hk0 : isO k0 0) (hk1 : isO k1 0) : gCt yX0_takeFrom cX0_takeFrom 2 none 1 30 gQv (fun ad => [.ref (ad k0), .ref (ad k1)]) σ (f_X0_takeFrom fu σ k0 k1) := by
  refine gCt_intro RX0 rfl (by decide +kernel) (fun ad v hv => by simp only [List.mem_cons, List.not_mem_nil, or_false] at hv; rcases hv with rfl | rfl <;> rfl) (fun ad => Nat.le_of_ble_eq_true rfl) (fun Γ h z => ?_)
  show At Γ 0 [some (.ref (gAd Γ.1 k0)), some (.ref (gAd Γ.1 k1))] [] σ _
  unfold f_X0_takeFrom
  refine x_aload_n (pc := 0) (i := 1) h dX0_takeFrom_0 rfl rfl ?_
  refine gf_X0_9 (pc := 1) h hk1 dX0_takeFrom_1 ?_
  refine x_iconst (pc := 4) (v := 0) h dX0_takeFrom_4 (by decide) ?_
  refine x_aload_n (pc := 5) (i := 0) h dX0_takeFrom_5 rfl rfl ?_
  refine gf_X0_9 (pc := 6) h hk0 dX0_takeFrom_6 ?_
  refine x_iconst (pc := 9) (v := 0) h dX0_takeFrom_9 (by decide) ?_
  refine x_bipush (pc := 10) (v := 16) h dX0_takeFrom_10 (by decide) ?_
  refine x_cpy (pc := 12) h (t_0_0 hk1) (t_0_0 hk0) kl_X0_21 w_cpy1 w_cpy2 w_cpy3 rfl (by decide) (Nat.le_of_ble_eq_true rfl) dX0_takeFrom_12 (fun σ12 => ?_)
  exact x_vret (pc := 15) h z rfl dX0_takeFrom_15

set_option maxRecDepth 20000 in
set_option maxHeartbeats 4000000 in
theorem c_X4_takeFrom (fu : Nat) (σ : gSt) (k0 : Nat) (k1 : Nat) (hk0 : isO k0 4) (hk1 : isO k1 4) : gCt yX4_takeFrom cX4_takeFrom 2 none 1 30 gQv (fun ad => [.ref (ad k0), .ref (ad k1)]) σ (f_X4_takeFrom fu σ k0 k1) := by
  refine gCt_intro RX4 rfl (by decide +kernel) (fun ad v hv => by simp only [List.mem_cons, List.not_mem_nil, or_false] at hv; rcases hv with rfl | rfl <;> rfl) (fun ad => Nat.le_of_ble_eq_true rfl) (fun Γ h z => ?_)
  show At Γ 0 [some (.ref (gAd Γ.1 k0)), some (.ref (gAd Γ.1 k1))] [] σ _
  unfold f_X4_takeFrom
  refine x_aload_n (pc := 0) (i := 1) h dX4_takeFrom_0 rfl rfl ?_
  refine gf_X4_9 (pc := 1) h hk1 dX4_takeFrom_1 ?_
  refine x_iconst (pc := 4) (v := 0) h dX4_takeFrom_4 (by decide) ?_
  refine x_aload_n (pc := 5) (i := 0) h dX4_takeFrom_5 rfl rfl ?_
  refine gf_X4_9 (pc := 6) h hk0 dX4_takeFrom_6 ?_
  refine x_iconst (pc := 9) (v := 0) h dX4_takeFrom_9 (by decide) ?_
  refine x_bipush (pc := 10) (v := 6) h dX4_takeFrom_10 (by decide) ?_
  refine x_cpy (pc := 12) h (t_4_0 hk1) (t_4_0 hk0) kl_X4_15 w_cpy1 w_cpy2 w_cpy3 rfl (by decide) (Nat.le_of_ble_eq_true rfl) dX4_takeFrom_12 (fun σ12 => ?_)
  exact x_vret (pc := 15) h z rfl dX4_takeFrom_15

set_option maxRecDepth 20000 in
set_option maxHeartbeats 4000000 in
theorem c_X7_takeFrom (fu : Nat) (σ : gSt) (k0 : Nat) (k1 : Nat) (hk0 : isO k0 7) (hk1 : isO k1 7) : gCt yX7_takeFrom cX7_takeFrom 2 none 2 51 gQv (fun ad => [.ref (ad k0), .ref (ad k1)]) σ (f_X7_takeFrom fu σ k0 k1) := by
  refine gCt_intro RX7 rfl (by decide +kernel) (fun ad v hv => by simp only [List.mem_cons, List.not_mem_nil, or_false] at hv; rcases hv with rfl | rfl <;> rfl) (fun ad => Nat.le_of_ble_eq_true rfl) (fun Γ h z => ?_)
  show At Γ 0 [some (.ref (gAd Γ.1 k0)), some (.ref (gAd Γ.1 k1))] [] σ _
  unfold f_X7_takeFrom
  refine x_aload_n (pc := 0) (i := 0) h dX7_takeFrom_0 rfl rfl ?_
  refine gf_X7_12 (pc := 1) h hk0 dX7_takeFrom_1 ?_
  refine x_aload_n (pc := 4) (i := 1) h dX7_takeFrom_4 rfl rfl ?_
  refine gf_X7_12 (pc := 5) h hk1 dX7_takeFrom_5 ?_
  refine x_Vv (pc := 8) (av := fun ad => [.ref (ad (k1 + 1))]) (rest := []) h m_X8_takeFrom i_X8_takeFrom kl_X7_36 (t_7_0 hk0) (by decide) rfl (c_X8_takeFrom fu σ (k0 + 1) (k1 + 1) (t_7_0 hk0) (t_7_0 hk1)) rfl rfl (gCaM rfl) dX7_takeFrom_8 (fun σ8 => ?_)
  refine x_aload_n (pc := 11) (i := 0) h dX7_takeFrom_11 rfl rfl ?_
  refine gf_X7_21 (pc := 12) h hk0 dX7_takeFrom_12 ?_
  refine x_aload_n (pc := 15) (i := 1) h dX7_takeFrom_15 rfl rfl ?_
  refine gf_X7_21 (pc := 16) h hk1 dX7_takeFrom_16 ?_
  refine x_Vv (pc := 19) (av := fun ad => [.ref (ad (k1 + 8))]) (rest := []) h m_X0_takeFrom i_X0_takeFrom kl_X7_40 (t_7_1 hk0) (by decide) rfl (c_X0_takeFrom fu σ8 (k0 + 8) (k1 + 8) (t_7_1 hk0) (t_7_1 hk1)) rfl rfl (gCaM rfl) dX7_takeFrom_19 (fun σ19 => ?_)
  refine x_aload_n (pc := 22) (i := 0) h dX7_takeFrom_22 rfl rfl ?_
  refine gf_X7_28 (pc := 23) h hk0 dX7_takeFrom_23 ?_
  refine x_aload_n (pc := 26) (i := 1) h dX7_takeFrom_26 rfl rfl ?_
  refine gf_X7_28 (pc := 27) h hk1 dX7_takeFrom_27 ?_
  refine x_Vv (pc := 30) (av := fun ad => [.ref (ad (k1 + 10))]) (rest := []) h m_X4_takeFrom i_X4_takeFrom kl_X7_43 (t_7_2 hk0) (by decide) rfl (c_X4_takeFrom fu σ19 (k0 + 10) (k1 + 10) (t_7_2 hk0) (t_7_2 hk1)) rfl rfl (gCaM rfl) dX7_takeFrom_30 (fun σ30 => ?_)
  refine x_aload_n (pc := 33) (i := 0) h dX7_takeFrom_33 rfl rfl ?_
  refine x_aload_n (pc := 34) (i := 1) h dX7_takeFrom_34 rfl rfl ?_
  refine gf_X7_32 (pc := 35) h hk1 dX7_takeFrom_35 ?_
  refine x_put (pc := 38) h 7 3 .int hk0 (by decide) (by decide) rfl rfl rfl rfl rfl kf_X7_32 dX7_takeFrom_38 (fun σ38 => ?_)
  exact x_vret (pc := 41) h z rfl dX7_takeFrom_41

set_option maxRecDepth 20000 in
set_option maxHeartbeats 4000000 in
theorem c_X9_isWithin (fu : Nat) (σ : gSt) (p0 : Int32) (p1 : Int32) (p2 : Int32) : gCt yX9_isWithin cX9_isWithin 3 (some .boolean) 0 0 (gQp σ) (fun ad => [.int p0, .int p1, .int p2]) σ (f_X9_isWithin fu σ p0 p1 p2) := by
  refine gCt_intro RX9 rfl (by decide +kernel) (fun ad v hv => by simp only [List.mem_cons, List.not_mem_nil, or_false] at hv; rcases hv with rfl | rfl | rfl <;> rfl) (fun ad => Nat.le_of_ble_eq_true rfl) (fun Γ h z => ?_)
  show At Γ 0 [some (.int p0), some (.int p1), some (.int p2)] [] σ _
  unfold f_X9_isWithin
  refine x_iload_n (pc := 0) (i := 0) h dX9_isWithin_0 rfl rfl ?_
  refine x_iload_n (pc := 1) (i := 1) h dX9_isWithin_1 rfl rfl ?_
  refine x_icmp_lt (pc := 2) (tgt := 14) h dX9_isWithin_2 (by decide) ?_ ?_
  · refine x_iconst (pc := 14) (v := 0) h dX9_isWithin_14 (by decide) ?_
    exact x_iretp (pc := 15) h z rfl .boolean rfl rfl dX9_isWithin_15
  · refine x_iload_n (pc := 5) (i := 0) h dX9_isWithin_5 rfl rfl ?_
    refine x_iload_n (pc := 6) (i := 2) h dX9_isWithin_6 rfl rfl ?_
    refine x_icmp_gt (pc := 7) (tgt := 14) h dX9_isWithin_7 (by decide) ?_ ?_
    · refine x_iconst (pc := 14) (v := 0) h dX9_isWithin_14 (by decide) ?_
      exact x_iretp (pc := 15) h z rfl .boolean rfl rfl dX9_isWithin_15
    · refine x_iconst (pc := 10) (v := 1) h dX9_isWithin_10 (by decide) ?_
      refine x_goto (pc := 11) (tgt := 15) h dX9_isWithin_11 (by decide) ?_
      exact x_iretp (pc := 15) h z rfl .boolean rfl rfl dX9_isWithin_15

set_option maxRecDepth 20000 in
set_option maxHeartbeats 4000000 in
theorem c_X7_isPitch (fu : Nat) (σ : gSt) (p0 : Int32) : gCt yX7_isPitch cX7_isPitch 1 (some .boolean) 1 22 (gQp σ) (fun ad => [.int p0]) σ (f_X7_isPitch fu σ p0) := by
  refine gCt_intro RX7 rfl (by decide +kernel) (fun ad v hv => by simp only [List.mem_cons, List.not_mem_nil, or_false] at hv; rcases hv with rfl <;> rfl) (fun ad => Nat.le_of_ble_eq_true rfl) (fun Γ h z => ?_)
  show At Γ 0 [some (.int p0)] [] σ _
  unfold f_X7_isPitch
  refine x_iload_n (pc := 0) (i := 0) h dX7_isPitch_0 rfl rfl ?_
  refine x_bipush (pc := 1) (v := 50) h dX7_isPitch_1 (by decide) ?_
  refine x_sipush (pc := 3) (v := 500) h dX7_isPitch_3 (by decide) ?_
  refine x_Np (pc := 6) (av := fun ad => [.int p0, .int 50, .int 500]) (rest := []) h m_X9_isWithin s_X9_isWithin kl_X7_86 (c_X9_isWithin fu σ p0 50 500) rfl rfl (gCaM rfl) dX7_isPitch_6 (fun v6 => ?_)
  exact x_zretp (pc := 9) h z rfl rfl dX7_isPitch_9

set_option maxRecDepth 20000 in
set_option maxHeartbeats 4000000 in
theorem c_X8_isFull (fu : Nat) (σ : gSt) (k0 : Nat) (hk0 : isO k0 8) : gCt yX8_isFull cX8_isFull 1 (some .boolean) 0 0 (gQp σ) (fun ad => [.ref (ad k0)]) σ (f_X8_isFull fu σ k0) := by
  refine gCt_intro RX8 rfl (by decide +kernel) (fun ad v hv => by simp only [List.mem_cons, List.not_mem_nil, or_false] at hv; rcases hv with rfl <;> rfl) (fun ad => Nat.le_of_ble_eq_true rfl) (fun Γ h z => ?_)
  show At Γ 0 [some (.ref (gAd Γ.1 k0))] [] σ _
  unfold f_X8_isFull
  refine x_aload_n (pc := 0) (i := 0) h dX8_isFull_0 rfl rfl ?_
  refine gf_X8_36 (pc := 1) h hk0 dX8_isFull_1 ?_
  refine x_bipush (pc := 4) (v := 20) h dX8_isFull_4 (by decide) ?_
  refine x_icmp_lt (pc := 6) (tgt := 13) h dX8_isFull_6 (by decide) ?_ ?_
  · refine x_iconst (pc := 13) (v := 0) h dX8_isFull_13 (by decide) ?_
    exact x_iretp (pc := 14) h z rfl .boolean rfl rfl dX8_isFull_14
  · refine x_iconst (pc := 9) (v := 1) h dX8_isFull_9 (by decide) ?_
    refine x_goto (pc := 10) (tgt := 14) h dX8_isFull_10 (by decide) ?_
    exact x_iretp (pc := 14) h z rfl .boolean rfl rfl dX8_isFull_14

set_option maxRecDepth 20000 in
set_option maxHeartbeats 4000000 in
theorem c_X4_has (fu : Nat) (σ : gSt) (k0 : Nat) (p1 : Int32) (hk0 : isO k0 4) : gCt yX4_has cX4_has 2 (some .boolean) 0 0 (gQp σ) (fun ad => [.ref (ad k0), .int p1]) σ (f_X4_has fu σ k0 p1) := by
  refine gCt_intro RX4 rfl (by decide +kernel) (fun ad v hv => by simp only [List.mem_cons, List.not_mem_nil, or_false] at hv; rcases hv with rfl | rfl <;> rfl) (fun ad => Nat.le_of_ble_eq_true rfl) (fun Γ h z => ?_)
  show At Γ 0 [some (.ref (gAd Γ.1 k0)), some (.int p1)] [] σ _
  unfold f_X4_has
  refine x_iload_n (pc := 0) (i := 1) h dX4_has_0 rfl rfl ?_
  refine x_if_lt (pc := 1) (tgt := 23) h dX4_has_1 (by decide) ?_ ?_
  · refine x_iconst (pc := 23) (v := 0) h dX4_has_23 (by decide) ?_
    exact x_iretp (pc := 24) h z rfl .boolean rfl rfl dX4_has_24
  · refine x_iload_n (pc := 4) (i := 1) h dX4_has_4 rfl rfl ?_
    refine x_bipush (pc := 5) (v := 6) h dX4_has_5 (by decide) ?_
    refine x_icmp_ge (pc := 7) (tgt := 23) h dX4_has_7 (by decide) ?_ ?_
    · refine x_iconst (pc := 23) (v := 0) h dX4_has_23 (by decide) ?_
      exact x_iretp (pc := 24) h z rfl .boolean rfl rfl dX4_has_24
    · refine x_aload_n (pc := 10) (i := 0) h dX4_has_10 rfl rfl ?_
      refine gf_X4_9 (pc := 11) h hk0 dX4_has_11 ?_
      refine x_iload_n (pc := 14) (i := 1) h dX4_has_14 rfl rfl ?_
      refine x_iald (pc := 15) h (t_4_0 hk0) dX4_has_15 (fun v15 => ?_)
      refine x_if_eq (pc := 16) (tgt := 23) h dX4_has_16 (by decide) ?_ ?_
      · refine x_iconst (pc := 23) (v := 0) h dX4_has_23 (by decide) ?_
        exact x_iretp (pc := 24) h z rfl .boolean rfl rfl dX4_has_24
      · refine x_iconst (pc := 19) (v := 1) h dX4_has_19 (by decide) ?_
        refine x_goto (pc := 20) (tgt := 24) h dX4_has_20 (by decide) ?_
        exact x_iretp (pc := 24) h z rfl .boolean rfl rfl dX4_has_24

set_option maxRecDepth 20000 in
set_option maxHeartbeats 4000000 in
theorem f_X4_closestTo_L10_at (fu : Nat) (σ : gSt) (k0 : Nat) (p1 : Int32) (p2 : Int32) (ag10 : Int32 → Int32 → Int32 → Option (Int32)) {Γ : gX (Int32)} (h : gOk Γ cX4_closestTo 6 RX4 (some .int) 1 21) (z : gEnd Γ (gQp σ)) (hk0 : isO k0 4) (hg10 : ∀ (y3 : Int32) (y4 : Int32) (y5 : Int32), At Γ 10 [some (.ref (gAd Γ.1 k0)), some (.int p1), none, some (.int y3), some (.int y4), some (.int y5)] [] σ (ag10 y3 y4 y5)) (x3 : Int32) (x4 : Int32) (x5 : Int32) : At Γ 10 [some (.ref (gAd Γ.1 k0)), some (.int p1), none, some (.int x3), some (.int x4), some (.int x5)] [] σ (f_X4_closestTo_L10 fu σ k0 p1 p2 ag10 x3 x4 x5) := by
  unfold f_X4_closestTo_L10
  refine x_iload (pc := 10) h dX4_closestTo_10 rfl ?_
  refine x_bipush (pc := 12) (v := 6) h dX4_closestTo_12 (by decide) ?_
  refine x_icmp_ge (pc := 14) (tgt := 66) h dX4_closestTo_14 (by decide) ?_ ?_
  · refine x_iload_n (pc := 66) (i := 3) h dX4_closestTo_66 rfl rfl ?_
    exact x_iretp (pc := 67) h z rfl .int rfl rfl dX4_closestTo_67
  · refine x_aload_n (pc := 17) (i := 0) h dX4_closestTo_17 rfl rfl ?_
    refine x_iload (pc := 18) h dX4_closestTo_18 rfl ?_
    refine x_Vp (pc := 20) (av := fun ad => [.int x5]) (rest := []) h m_X4_has i_X4_has kl_X4_21 hk0 (by decide) rfl (c_X4_has fu σ k0 x5 hk0) rfl rfl (gCaM rfl) dX4_closestTo_20 (fun v20 => ?_)
    refine x_if_eq (pc := 23) (tgt := 60) h dX4_closestTo_23 (by decide) ?_ ?_
    · refine x_iinc (pc := 60) (i := 5) (v := (x5 + 1)) (L' := [some (.ref (gAd Γ.1 k0)), some (.int p1), none, some (.int x3), some (.int x4), some (.int (x5 + 1))]) h dX4_closestTo_60 rfl rfl rfl ?_
      refine x_goto (pc := 63) (tgt := 10) h dX4_closestTo_63 (by decide) ?_
      exact At.mask [true, true, false, true, true, true] rfl rfl (hg10 x3 x4 (x5 + 1))
    · refine x_aload_n (pc := 26) (i := 0) h dX4_closestTo_26 rfl rfl ?_
      refine gf_X4_9 (pc := 27) h hk0 dX4_closestTo_27 ?_
      refine x_iload (pc := 30) h dX4_closestTo_30 rfl ?_
      refine x_iald (pc := 32) h (t_4_0 hk0) dX4_closestTo_32 (fun v32 => ?_)
      refine x_iload_n (pc := 33) (i := 1) h dX4_closestTo_33 rfl rfl ?_
      refine x_isub (pc := 34) h dX4_closestTo_34 ?_
      refine x_Sp (pc := 35) (av := fun ad => [.int (v32 - p1)]) (rest := []) h m_J9_abs_0f7a4 s_J9_abs_0f7a4 kl_X4_33 (c_J9_abs_0f7a4 fu σ (v32 - p1)) rfl rfl (gCaM rfl) dX4_closestTo_35 (fun v35 => ?_)
      refine x_iload (pc := 38) h dX4_closestTo_38 rfl ?_
      refine x_icmp_ge (pc := 40) (tgt := 60) h dX4_closestTo_40 (by decide) ?_ ?_
      · refine x_iinc (pc := 60) (i := 5) (v := (x5 + 1)) (L' := [some (.ref (gAd Γ.1 k0)), some (.int p1), none, some (.int x3), some (.int x4), some (.int (x5 + 1))]) h dX4_closestTo_60 rfl rfl rfl ?_
        refine x_goto (pc := 63) (tgt := 10) h dX4_closestTo_63 (by decide) ?_
        exact At.mask [true, true, false, true, true, true] rfl rfl (hg10 x3 x4 (x5 + 1))
      · refine x_iload (pc := 43) h dX4_closestTo_43 rfl ?_
        refine x_istore_n (pc := 45) (i := 3) (L' := [some (.ref (gAd Γ.1 k0)), some (.int p1), none, some (.int x5), some (.int x4), some (.int x5)]) h dX4_closestTo_45 rfl (Nat.le_of_ble_eq_true rfl) rfl ?_
        refine x_aload_n (pc := 46) (i := 0) h dX4_closestTo_46 rfl rfl ?_
        refine gf_X4_9 (pc := 47) h hk0 dX4_closestTo_47 ?_
        refine x_iload (pc := 50) h dX4_closestTo_50 rfl ?_
        refine x_iald (pc := 52) h (t_4_0 hk0) dX4_closestTo_52 (fun v52 => ?_)
        refine x_iload_n (pc := 53) (i := 1) h dX4_closestTo_53 rfl rfl ?_
        refine x_isub (pc := 54) h dX4_closestTo_54 ?_
        refine x_Sp (pc := 55) (av := fun ad => [.int (v52 - p1)]) (rest := []) h m_J9_abs_0f7a4 s_J9_abs_0f7a4 kl_X4_33 (c_J9_abs_0f7a4 fu σ (v52 - p1)) rfl rfl (gCaM rfl) dX4_closestTo_55 (fun v55 => ?_)
        refine x_istore (pc := 58) (L' := [some (.ref (gAd Γ.1 k0)), some (.int p1), none, some (.int x5), some (.int v55), some (.int x5)]) h dX4_closestTo_58 (Nat.le_of_ble_eq_true rfl) rfl ?_
        refine x_iinc (pc := 60) (i := 5) (v := (x5 + 1)) (L' := [some (.ref (gAd Γ.1 k0)), some (.int p1), none, some (.int x5), some (.int v55), some (.int (x5 + 1))]) h dX4_closestTo_60 rfl rfl rfl ?_
        refine x_goto (pc := 63) (tgt := 10) h dX4_closestTo_63 (by decide) ?_
        exact At.mask [true, true, false, true, true, true] rfl rfl (hg10 x5 v55 (x5 + 1))

theorem f_X4_closestTo_W10_at (fu : Nat) (σ : gSt) (k0 : Nat) (p1 : Int32) (p2 : Int32) {Γ : gX (Int32)} (h : gOk Γ cX4_closestTo 6 RX4 (some .int) 1 21) (z : gEnd Γ (gQp σ)) (hk0 : isO k0 4) : ∀ (n : Nat) (x3 : Int32) (x4 : Int32) (x5 : Int32), At Γ 10 [some (.ref (gAd Γ.1 k0)), some (.int p1), none, some (.int x3), some (.int x4), some (.int x5)] [] σ (f_X4_closestTo_W10 fu σ k0 p1 p2 n x3 x4 x5) := by
  intro n
  induction n with
  | zero => intro x3 x4 x5 r hr; cases hr
  | succ n ih =>
    intro x3 x4 x5
    exact f_X4_closestTo_L10_at fu σ k0 p1 p2 (f_X4_closestTo_W10 fu σ k0 p1 p2 n) h z hk0 ih x3 x4 x5

set_option maxRecDepth 20000 in
set_option maxHeartbeats 4000000 in
theorem c_X4_closestTo (fu : Nat) (σ : gSt) (k0 : Nat) (p1 : Int32) (p2 : Int32) (hk0 : isO k0 4) : gCt yX4_closestTo cX4_closestTo 6 (some .int) 1 21 (gQp σ) (fun ad => [.ref (ad k0), .int p1, .int p2]) σ (f_X4_closestTo fu σ k0 p1 p2) := by
  refine gCt_intro RX4 rfl (by decide +kernel) (fun ad v hv => by simp only [List.mem_cons, List.not_mem_nil, or_false] at hv; rcases hv with rfl | rfl | rfl <;> rfl) (fun ad => Nat.le_of_ble_eq_true rfl) (fun Γ h z => ?_)
  show At Γ 0 [some (.ref (gAd Γ.1 k0)), some (.int p1), some (.int p2), none, none, none] [] σ _
  unfold f_X4_closestTo
  refine x_iconst (pc := 0) (v := (-1)) h dX4_closestTo_0 (by decide) ?_
  refine x_istore_n (pc := 1) (i := 3) (L' := [some (.ref (gAd Γ.1 k0)), some (.int p1), some (.int p2), some (.int (-1)), none, none]) h dX4_closestTo_1 rfl (Nat.le_of_ble_eq_true rfl) rfl ?_
  refine x_iload_n (pc := 2) (i := 2) h dX4_closestTo_2 rfl rfl ?_
  refine x_iconst (pc := 3) (v := 1) h dX4_closestTo_3 (by decide) ?_
  refine x_iadd (pc := 4) h dX4_closestTo_4 ?_
  refine x_istore (pc := 5) (L' := [some (.ref (gAd Γ.1 k0)), some (.int p1), some (.int p2), some (.int (-1)), some (.int (p2 + 1)), none]) h dX4_closestTo_5 (Nat.le_of_ble_eq_true rfl) rfl ?_
  refine x_iconst (pc := 7) (v := 0) h dX4_closestTo_7 (by decide) ?_
  refine x_istore (pc := 8) (L' := [some (.ref (gAd Γ.1 k0)), some (.int p1), some (.int p2), some (.int (-1)), some (.int (p2 + 1)), some (.int 0)]) h dX4_closestTo_8 (Nat.le_of_ble_eq_true rfl) rfl ?_
  exact At.mask [true, true, false, true, true, true] rfl rfl (f_X4_closestTo_W10_at fu σ k0 p1 p2 h z hk0 fu (-1) (p2 + 1) 0)

set_option maxRecDepth 20000 in
set_option maxHeartbeats 4000000 in
theorem c_X7_closestSpeaker (fu : Nat) (σ : gSt) (k0 : Nat) (p1 : Int32) (hk0 : isO k0 7) : gCt yX7_closestSpeaker cX7_closestSpeaker 2 (some .int) 2 46 (gQp σ) (fun ad => [.ref (ad k0), .int p1]) σ (f_X7_closestSpeaker fu σ k0 p1) := by
  refine gCt_intro RX7 rfl (by decide +kernel) (fun ad v hv => by simp only [List.mem_cons, List.not_mem_nil, or_false] at hv; rcases hv with rfl | rfl <;> rfl) (fun ad => Nat.le_of_ble_eq_true rfl) (fun Γ h z => ?_)
  show At Γ 0 [some (.ref (gAd Γ.1 k0)), some (.int p1)] [] σ _
  unfold f_X7_closestSpeaker
  refine x_aload_n (pc := 0) (i := 0) h dX7_closestSpeaker_0 rfl rfl ?_
  refine gf_X7_28 (pc := 1) h hk0 dX7_closestSpeaker_1 ?_
  refine x_iload_n (pc := 4) (i := 1) h dX7_closestSpeaker_4 rfl rfl ?_
  refine x_aload_n (pc := 5) (i := 0) h dX7_closestSpeaker_5 rfl rfl ?_
  refine gf_X7_32 (pc := 6) h hk0 dX7_closestSpeaker_6 ?_
  refine x_Vp (pc := 9) (av := fun ad => [.int p1, .int (σ k0 3)]) (rest := []) h m_X4_closestTo i_X4_closestTo kl_X7_151 (t_7_2 hk0) (by decide) rfl (c_X4_closestTo fu σ (k0 + 10) p1 (σ k0 3) (t_7_2 hk0)) rfl rfl (gCaM rfl) dX7_closestSpeaker_9 (fun v9 => ?_)
  exact x_iretp (pc := 12) h z rfl .int rfl rfl dX7_closestSpeaker_12

set_option maxRecDepth 20000 in
set_option maxHeartbeats 4000000 in
theorem f_X8_placeFor_L2_at (fu : Nat) (σ : gSt) (k0 : Nat) (p1 : Int32) (ag2 : Int32 → Option (Int32)) {Γ : gX (Int32)} (h : gOk Γ cX8_placeFor 3 RX8 (some .int) 0 0) (z : gEnd Γ (gQp σ)) (hk0 : isO k0 8) (hg2 : ∀ (y2 : Int32), At Γ 2 [some (.ref (gAd Γ.1 k0)), some (.int p1), some (.int y2)] [] σ (ag2 y2)) (x2 : Int32) : At Γ 2 [some (.ref (gAd Γ.1 k0)), some (.int p1), some (.int x2)] [] σ (f_X8_placeFor_L2 fu σ k0 p1 ag2 x2) := by
  unfold f_X8_placeFor_L2
  refine x_iload_n (pc := 2) (i := 2) h dX8_placeFor_2 rfl rfl ?_
  refine x_aload_n (pc := 3) (i := 0) h dX8_placeFor_3 rfl rfl ?_
  refine gf_X8_36 (pc := 4) h hk0 dX8_placeFor_4 ?_
  refine x_icmp_ge (pc := 7) (tgt := 32) h dX8_placeFor_7 (by decide) ?_ ?_
  · refine x_iload_n (pc := 32) (i := 2) h dX8_placeFor_32 rfl rfl ?_
    exact x_iretp (pc := 33) h z rfl .int rfl rfl dX8_placeFor_33
  · refine x_iload_n (pc := 10) (i := 2) h dX8_placeFor_10 rfl rfl ?_
    refine x_bipush (pc := 11) (v := 19) h dX8_placeFor_11 (by decide) ?_
    refine x_icmp_ge (pc := 13) (tgt := 32) h dX8_placeFor_13 (by decide) ?_ ?_
    · refine x_iload_n (pc := 32) (i := 2) h dX8_placeFor_32 rfl rfl ?_
      exact x_iretp (pc := 33) h z rfl .int rfl rfl dX8_placeFor_33
    · refine x_aload_n (pc := 16) (i := 0) h dX8_placeFor_16 rfl rfl ?_
      refine gf_X8_9 (pc := 17) h hk0 dX8_placeFor_17 ?_
      refine x_iload_n (pc := 20) (i := 2) h dX8_placeFor_20 rfl rfl ?_
      refine x_iald (pc := 21) h (t_8_0 hk0) dX8_placeFor_21 (fun v21 => ?_)
      refine x_iload_n (pc := 22) (i := 1) h dX8_placeFor_22 rfl rfl ?_
      refine x_icmp_gt (pc := 23) (tgt := 32) h dX8_placeFor_23 (by decide) ?_ ?_
      · refine x_iload_n (pc := 32) (i := 2) h dX8_placeFor_32 rfl rfl ?_
        exact x_iretp (pc := 33) h z rfl .int rfl rfl dX8_placeFor_33
      · refine x_iinc (pc := 26) (i := 2) (v := (x2 + 1)) (L' := [some (.ref (gAd Γ.1 k0)), some (.int p1), some (.int (x2 + 1))]) h dX8_placeFor_26 rfl rfl rfl ?_
        refine x_goto (pc := 29) (tgt := 2) h dX8_placeFor_29 (by decide) ?_
        exact At.mask [true, true, true] rfl rfl (hg2 (x2 + 1))

theorem f_X8_placeFor_W2_at (fu : Nat) (σ : gSt) (k0 : Nat) (p1 : Int32) {Γ : gX (Int32)} (h : gOk Γ cX8_placeFor 3 RX8 (some .int) 0 0) (z : gEnd Γ (gQp σ)) (hk0 : isO k0 8) : ∀ (n : Nat) (x2 : Int32), At Γ 2 [some (.ref (gAd Γ.1 k0)), some (.int p1), some (.int x2)] [] σ (f_X8_placeFor_W2 fu σ k0 p1 n x2) := by
  intro n
  induction n with
  | zero => intro x2 r hr; cases hr
  | succ n ih =>
    intro x2
    exact f_X8_placeFor_L2_at fu σ k0 p1 (f_X8_placeFor_W2 fu σ k0 p1 n) h z hk0 ih x2

set_option maxRecDepth 20000 in
set_option maxHeartbeats 4000000 in
theorem c_X8_placeFor (fu : Nat) (σ : gSt) (k0 : Nat) (p1 : Int32) (hk0 : isO k0 8) : gCt yX8_placeFor cX8_placeFor 3 (some .int) 0 0 (gQp σ) (fun ad => [.ref (ad k0), .int p1]) σ (f_X8_placeFor fu σ k0 p1) := by
  refine gCt_intro RX8 rfl (by decide +kernel) (fun ad v hv => by simp only [List.mem_cons, List.not_mem_nil, or_false] at hv; rcases hv with rfl | rfl <;> rfl) (fun ad => Nat.le_of_ble_eq_true rfl) (fun Γ h z => ?_)
  show At Γ 0 [some (.ref (gAd Γ.1 k0)), some (.int p1), none] [] σ _
  unfold f_X8_placeFor
  refine x_iconst (pc := 0) (v := 0) h dX8_placeFor_0 (by decide) ?_
  refine x_istore_n (pc := 1) (i := 2) (L' := [some (.ref (gAd Γ.1 k0)), some (.int p1), some (.int 0)]) h dX8_placeFor_1 rfl (Nat.le_of_ble_eq_true rfl) rfl ?_
  exact At.mask [true, true, true] rfl rfl (f_X8_placeFor_W2_at fu σ k0 p1 h z hk0 fu 0)

set_option maxRecDepth 20000 in
set_option maxHeartbeats 4000000 in
theorem c_X8_moveRows (fu : Nat) (σ : gSt) (k0 : Nat) (p1 : Int32) (p2 : Int32) (hk0 : isO k0 8) : gCt yX8_moveRows cX8_moveRows 4 none 1 30 gQv (fun ad => [.ref (ad k0), .int p1, .int p2]) σ (f_X8_moveRows fu σ k0 p1 p2) := by
  refine gCt_intro RX8 rfl (by decide +kernel) (fun ad v hv => by simp only [List.mem_cons, List.not_mem_nil, or_false] at hv; rcases hv with rfl | rfl | rfl <;> rfl) (fun ad => Nat.le_of_ble_eq_true rfl) (fun Γ h z => ?_)
  show At Γ 0 [some (.ref (gAd Γ.1 k0)), some (.int p1), some (.int p2), none] [] σ _
  unfold f_X8_moveRows
  refine x_aload_n (pc := 0) (i := 0) h dX8_moveRows_0 rfl rfl ?_
  refine gf_X8_36 (pc := 1) h hk0 dX8_moveRows_1 ?_
  refine x_iload_n (pc := 4) (i := 1) h dX8_moveRows_4 rfl rfl ?_
  refine x_isub (pc := 5) h dX8_moveRows_5 ?_
  refine x_istore_n (pc := 6) (i := 3) (L' := [some (.ref (gAd Γ.1 k0)), some (.int p1), some (.int p2), some (.int ((σ k0 6) - p1))]) h dX8_moveRows_6 rfl (Nat.le_of_ble_eq_true rfl) rfl ?_
  refine x_iload_n (pc := 7) (i := 1) h dX8_moveRows_7 rfl rfl ?_
  refine x_if_lt (pc := 8) (tgt := 35) h dX8_moveRows_8 (by decide) ?_ ?_
  · exact x_vret (pc := 35) h z rfl dX8_moveRows_35
  · refine x_iload_n (pc := 11) (i := 2) h dX8_moveRows_11 rfl rfl ?_
    refine x_if_lt (pc := 12) (tgt := 35) h dX8_moveRows_12 (by decide) ?_ ?_
    · exact x_vret (pc := 35) h z rfl dX8_moveRows_35
    · refine x_iload_n (pc := 15) (i := 3) h dX8_moveRows_15 rfl rfl ?_
      refine x_if_lt (pc := 16) (tgt := 35) h dX8_moveRows_16 (by decide) ?_ ?_
      · exact x_vret (pc := 35) h z rfl dX8_moveRows_35
      · refine x_iload_n (pc := 19) (i := 1) h dX8_moveRows_19 rfl rfl ?_
        refine x_iload_n (pc := 20) (i := 3) h dX8_moveRows_20 rfl rfl ?_
        refine x_iadd (pc := 21) h dX8_moveRows_21 ?_
        refine x_bipush (pc := 22) (v := 20) h dX8_moveRows_22 (by decide) ?_
        refine x_icmp_gt (pc := 24) (tgt := 35) h dX8_moveRows_24 (by decide) ?_ ?_
        · exact x_vret (pc := 35) h z rfl dX8_moveRows_35
        · refine x_iload_n (pc := 27) (i := 2) h dX8_moveRows_27 rfl rfl ?_
          refine x_iload_n (pc := 28) (i := 3) h dX8_moveRows_28 rfl rfl ?_
          refine x_iadd (pc := 29) h dX8_moveRows_29 ?_
          refine x_bipush (pc := 30) (v := 20) h dX8_moveRows_30 (by decide) ?_
          refine x_icmp_le (pc := 32) (tgt := 36) h dX8_moveRows_32 (by decide) ?_ ?_
          · refine x_aload_n (pc := 36) (i := 0) h dX8_moveRows_36 rfl rfl ?_
            refine gf_X8_9 (pc := 37) h hk0 dX8_moveRows_37 ?_
            refine x_iload_n (pc := 40) (i := 1) h dX8_moveRows_40 rfl rfl ?_
            refine x_aload_n (pc := 41) (i := 0) h dX8_moveRows_41 rfl rfl ?_
            refine gf_X8_9 (pc := 42) h hk0 dX8_moveRows_42 ?_
            refine x_iload_n (pc := 45) (i := 2) h dX8_moveRows_45 rfl rfl ?_
            refine x_iload_n (pc := 46) (i := 3) h dX8_moveRows_46 rfl rfl ?_
            refine x_cpy (pc := 47) h (t_8_0 hk0) (t_8_0 hk0) kl_X8_30 w_cpy1 w_cpy2 w_cpy3 rfl (by decide) (Nat.le_of_ble_eq_true rfl) dX8_moveRows_47 (fun σ47 => ?_)
            refine x_aload_n (pc := 50) (i := 0) h dX8_moveRows_50 rfl rfl ?_
            refine gf_X8_15 (pc := 51) h hk0 dX8_moveRows_51 ?_
            refine x_iload_n (pc := 54) (i := 1) h dX8_moveRows_54 rfl rfl ?_
            refine x_aload_n (pc := 55) (i := 0) h dX8_moveRows_55 rfl rfl ?_
            refine gf_X8_15 (pc := 56) h hk0 dX8_moveRows_56 ?_
            refine x_iload_n (pc := 59) (i := 2) h dX8_moveRows_59 rfl rfl ?_
            refine x_iload_n (pc := 60) (i := 3) h dX8_moveRows_60 rfl rfl ?_
            refine x_cpy (pc := 61) h (t_8_1 hk0) (t_8_1 hk0) kl_X8_30 w_cpy1 w_cpy2 w_cpy3 rfl (by decide) (Nat.le_of_ble_eq_true rfl) dX8_moveRows_61 (fun σ61 => ?_)
            refine x_aload_n (pc := 64) (i := 0) h dX8_moveRows_64 rfl rfl ?_
            refine gf_X8_18 (pc := 65) h hk0 dX8_moveRows_65 ?_
            refine x_iload_n (pc := 68) (i := 1) h dX8_moveRows_68 rfl rfl ?_
            refine x_aload_n (pc := 69) (i := 0) h dX8_moveRows_69 rfl rfl ?_
            refine gf_X8_18 (pc := 70) h hk0 dX8_moveRows_70 ?_
            refine x_iload_n (pc := 73) (i := 2) h dX8_moveRows_73 rfl rfl ?_
            refine x_iload_n (pc := 74) (i := 3) h dX8_moveRows_74 rfl rfl ?_
            refine x_cpy (pc := 75) h (t_8_2 hk0) (t_8_2 hk0) kl_X8_30 w_cpy1 w_cpy2 w_cpy3 rfl (by decide) (Nat.le_of_ble_eq_true rfl) dX8_moveRows_75 (fun σ75 => ?_)
            refine x_aload_n (pc := 78) (i := 0) h dX8_moveRows_78 rfl rfl ?_
            refine gf_X8_21 (pc := 79) h hk0 dX8_moveRows_79 ?_
            refine x_iload_n (pc := 82) (i := 1) h dX8_moveRows_82 rfl rfl ?_
            refine x_aload_n (pc := 83) (i := 0) h dX8_moveRows_83 rfl rfl ?_
            refine gf_X8_21 (pc := 84) h hk0 dX8_moveRows_84 ?_
            refine x_iload_n (pc := 87) (i := 2) h dX8_moveRows_87 rfl rfl ?_
            refine x_iload_n (pc := 88) (i := 3) h dX8_moveRows_88 rfl rfl ?_
            refine x_cpy (pc := 89) h (t_8_3 hk0) (t_8_3 hk0) kl_X8_30 w_cpy1 w_cpy2 w_cpy3 rfl (by decide) (Nat.le_of_ble_eq_true rfl) dX8_moveRows_89 (fun σ89 => ?_)
            refine x_aload_n (pc := 92) (i := 0) h dX8_moveRows_92 rfl rfl ?_
            refine gf_X8_24 (pc := 93) h hk0 dX8_moveRows_93 ?_
            refine x_iload_n (pc := 96) (i := 1) h dX8_moveRows_96 rfl rfl ?_
            refine x_aload_n (pc := 97) (i := 0) h dX8_moveRows_97 rfl rfl ?_
            refine gf_X8_24 (pc := 98) h hk0 dX8_moveRows_98 ?_
            refine x_iload_n (pc := 101) (i := 2) h dX8_moveRows_101 rfl rfl ?_
            refine x_iload_n (pc := 102) (i := 3) h dX8_moveRows_102 rfl rfl ?_
            refine x_cpy (pc := 103) h (t_8_4 hk0) (t_8_4 hk0) kl_X8_30 w_cpy1 w_cpy2 w_cpy3 rfl (by decide) (Nat.le_of_ble_eq_true rfl) dX8_moveRows_103 (fun σ103 => ?_)
            refine x_aload_n (pc := 106) (i := 0) h dX8_moveRows_106 rfl rfl ?_
            refine gf_X8_27 (pc := 107) h hk0 dX8_moveRows_107 ?_
            refine x_iload_n (pc := 110) (i := 1) h dX8_moveRows_110 rfl rfl ?_
            refine x_bipush (pc := 111) (v := 8) h dX8_moveRows_111 (by decide) ?_
            refine x_imul (pc := 113) h dX8_moveRows_113 ?_
            refine x_aload_n (pc := 114) (i := 0) h dX8_moveRows_114 rfl rfl ?_
            refine gf_X8_27 (pc := 115) h hk0 dX8_moveRows_115 ?_
            refine x_iload_n (pc := 118) (i := 2) h dX8_moveRows_118 rfl rfl ?_
            refine x_bipush (pc := 119) (v := 8) h dX8_moveRows_119 (by decide) ?_
            refine x_imul (pc := 121) h dX8_moveRows_121 ?_
            refine x_iload_n (pc := 122) (i := 3) h dX8_moveRows_122 rfl rfl ?_
            refine x_bipush (pc := 123) (v := 8) h dX8_moveRows_123 (by decide) ?_
            refine x_imul (pc := 125) h dX8_moveRows_125 ?_
            refine x_cpy (pc := 126) h (t_8_5 hk0) (t_8_5 hk0) kl_X8_30 w_cpy1 w_cpy2 w_cpy3 rfl (by decide) (Nat.le_of_ble_eq_true rfl) dX8_moveRows_126 (fun σ126 => ?_)
            exact x_vret (pc := 129) h z rfl dX8_moveRows_129
          · exact x_vret (pc := 35) h z rfl dX8_moveRows_35

set_option maxRecDepth 20000 in
set_option maxHeartbeats 4000000 in
theorem c_X8_insert (fu : Nat) (σ : gSt) (k0 : Nat) (p1 : Int32) (p2 : Int32) (p3 : Int32) (p4 : Int32) (hk0 : isO k0 8) : gCt yX8_insert cX8_insert 6 (some .int) 2 53 gQi (fun ad => [.ref (ad k0), .int p1, .int p2, .int p3, .int p4]) σ (f_X8_insert fu σ k0 p1 p2 p3 p4) := by
  refine gCt_intro RX8 rfl (by decide +kernel) (fun ad v hv => by simp only [List.mem_cons, List.not_mem_nil, or_false] at hv; rcases hv with rfl | rfl | rfl | rfl | rfl <;> rfl) (fun ad => Nat.le_of_ble_eq_true rfl) (fun Γ h z => ?_)
  show At Γ 0 [some (.ref (gAd Γ.1 k0)), some (.int p1), some (.int p2), some (.int p3), some (.int p4), none] [] σ _
  unfold f_X8_insert
  refine x_aload_n (pc := 0) (i := 0) h dX8_insert_0 rfl rfl ?_
  refine x_Vp (pc := 1) (av := fun ad => []) (rest := []) h m_X8_isFull i_X8_isFull kl_X8_44 hk0 (by decide) rfl (c_X8_isFull fu σ k0 hk0) rfl rfl (gCaM rfl) dX8_insert_1 (fun v1 => ?_)
  refine x_if_eq (pc := 4) (tgt := 9) h dX8_insert_4 (by decide) ?_ ?_
  · refine x_aload_n (pc := 9) (i := 0) h dX8_insert_9 rfl rfl ?_
    refine x_iload_n (pc := 10) (i := 1) h dX8_insert_10 rfl rfl ?_
    refine x_Vp (pc := 11) (av := fun ad => [.int p1]) (rest := []) h m_X8_placeFor i_X8_placeFor kl_X8_48 hk0 (by decide) rfl (c_X8_placeFor fu σ k0 p1 hk0) rfl rfl (gCaM rfl) dX8_insert_11 (fun v11 => ?_)
    refine x_istore (pc := 14) (L' := [some (.ref (gAd Γ.1 k0)), some (.int p1), some (.int p2), some (.int p3), some (.int p4), some (.int v11)]) h dX8_insert_14 (Nat.le_of_ble_eq_true rfl) rfl ?_
    refine x_aload_n (pc := 16) (i := 0) h dX8_insert_16 rfl rfl ?_
    refine x_iload (pc := 17) h dX8_insert_17 rfl ?_
    refine x_iload (pc := 19) h dX8_insert_19 rfl ?_
    refine x_iconst (pc := 21) (v := 1) h dX8_insert_21 (by decide) ?_
    refine x_iadd (pc := 22) h dX8_insert_22 ?_
    refine x_Vv (pc := 23) (av := fun ad => [.int v11, .int (v11 + 1)]) (rest := []) h m_X8_moveRows i_X8_moveRows kl_X8_52 hk0 (by decide) rfl (c_X8_moveRows fu σ k0 v11 (v11 + 1) hk0) rfl rfl (gCaM rfl) dX8_insert_23 (fun σ23 => ?_)
    refine x_aload_n (pc := 26) (i := 0) h dX8_insert_26 rfl rfl ?_
    refine x_dup (pc := 27) h dX8_insert_27 rfl ?_
    refine gf_X8_36 (pc := 28) h hk0 dX8_insert_28 ?_
    refine x_iconst (pc := 31) (v := 1) h dX8_insert_31 (by decide) ?_
    refine x_iadd (pc := 32) h dX8_insert_32 ?_
    refine x_put (pc := 33) h 8 6 .int hk0 (by decide) (by decide) rfl rfl rfl rfl rfl kf_X8_36 dX8_insert_33 (fun σ33 => ?_)
    refine x_aload_n (pc := 36) (i := 0) h dX8_insert_36 rfl rfl ?_
    refine gf_X8_9 (pc := 37) h hk0 dX8_insert_37 ?_
    refine x_iload (pc := 40) h dX8_insert_40 rfl ?_
    refine x_iload_n (pc := 42) (i := 1) h dX8_insert_42 rfl rfl ?_
    refine x_iast (pc := 43) h (t_8_0 hk0) dX8_insert_43 (fun σ43 => ?_)
    refine x_aload_n (pc := 44) (i := 0) h dX8_insert_44 rfl rfl ?_
    refine gf_X8_15 (pc := 45) h hk0 dX8_insert_45 ?_
    refine x_iload (pc := 48) h dX8_insert_48 rfl ?_
    refine x_iload_n (pc := 50) (i := 2) h dX8_insert_50 rfl rfl ?_
    refine x_iast (pc := 51) h (t_8_1 hk0) dX8_insert_51 (fun σ51 => ?_)
    refine x_aload_n (pc := 52) (i := 0) h dX8_insert_52 rfl rfl ?_
    refine gf_X8_18 (pc := 53) h hk0 dX8_insert_53 ?_
    refine x_iload (pc := 56) h dX8_insert_56 rfl ?_
    refine x_iload_n (pc := 58) (i := 3) h dX8_insert_58 rfl rfl ?_
    refine x_iast (pc := 59) h (t_8_2 hk0) dX8_insert_59 (fun σ59 => ?_)
    refine x_aload_n (pc := 60) (i := 0) h dX8_insert_60 rfl rfl ?_
    refine gf_X8_21 (pc := 61) h hk0 dX8_insert_61 ?_
    refine x_iload (pc := 64) h dX8_insert_64 rfl ?_
    refine x_iload (pc := 66) h dX8_insert_66 rfl ?_
    refine x_iast (pc := 68) h (t_8_3 hk0) dX8_insert_68 (fun σ68 => ?_)
    refine x_aload_n (pc := 69) (i := 0) h dX8_insert_69 rfl rfl ?_
    refine gf_X8_24 (pc := 70) h hk0 dX8_insert_70 ?_
    refine x_iload (pc := 73) h dX8_insert_73 rfl ?_
    refine x_iconst (pc := 75) (v := 0) h dX8_insert_75 (by decide) ?_
    refine x_iast (pc := 76) h (t_8_4 hk0) dX8_insert_76 (fun σ76 => ?_)
    refine x_iload (pc := 77) h dX8_insert_77 rfl ?_
    exact x_ireti (pc := 79) h z .int rfl rfl dX8_insert_79
  · refine x_iconst (pc := 7) (v := (-1)) h dX8_insert_7 (by decide) ?_
    exact x_ireti (pc := 8) h z .int rfl rfl dX8_insert_8

set_option maxRecDepth 20000 in
set_option maxHeartbeats 4000000 in
theorem c_X7_addTurn (fu : Nat) (σ : gSt) (k0 : Nat) (p1 : Int32) (p2 : Int32) (p3 : Int32) (hk0 : isO k0 7) : gCt yX7_addTurn cX7_addTurn 4 (some .int) 3 78 gQi (fun ad => [.ref (ad k0), .int p1, .int p2, .int p3]) σ (f_X7_addTurn fu σ k0 p1 p2 p3) := by
  refine gCt_intro RX7 rfl (by decide +kernel) (fun ad v hv => by simp only [List.mem_cons, List.not_mem_nil, or_false] at hv; rcases hv with rfl | rfl | rfl | rfl <;> rfl) (fun ad => Nat.le_of_ble_eq_true rfl) (fun Γ h z => ?_)
  show At Γ 0 [some (.ref (gAd Γ.1 k0)), some (.int p1), some (.int p2), some (.int p3)] [] σ _
  unfold f_X7_addTurn
  refine x_iload_n (pc := 0) (i := 1) h dX7_addTurn_0 rfl rfl ?_
  refine x_if_lt (pc := 1) (tgt := 23) h dX7_addTurn_1 (by decide) ?_ ?_
  · refine x_ldc (pc := 23) h kc_X7_50 dX7_addTurn_23 ?_
    exact x_ireti (pc := 25) h z .int rfl rfl dX7_addTurn_25
  · refine x_iload_n (pc := 4) (i := 2) h dX7_addTurn_4 rfl rfl ?_
    refine x_iload_n (pc := 5) (i := 1) h dX7_addTurn_5 rfl rfl ?_
    refine x_icmp_le (pc := 6) (tgt := 23) h dX7_addTurn_6 (by decide) ?_ ?_
    · refine x_ldc (pc := 23) h kc_X7_50 dX7_addTurn_23 ?_
      exact x_ireti (pc := 25) h z .int rfl rfl dX7_addTurn_25
    · refine x_iload_n (pc := 9) (i := 2) h dX7_addTurn_9 rfl rfl ?_
      refine x_sipush (pc := 10) (v := 1999) h dX7_addTurn_10 (by decide) ?_
      refine x_icmp_gt (pc := 13) (tgt := 23) h dX7_addTurn_13 (by decide) ?_ ?_
      · refine x_ldc (pc := 23) h kc_X7_50 dX7_addTurn_23 ?_
        exact x_ireti (pc := 25) h z .int rfl rfl dX7_addTurn_25
      · refine x_iload_n (pc := 16) (i := 3) h dX7_addTurn_16 rfl rfl ?_
        refine x_Sp (pc := 17) (av := fun ad => [.int p3]) (rest := []) h m_X7_isPitch s_X7_isPitch kl_X7_46 (c_X7_isPitch fu σ p3) rfl rfl (gCaM rfl) dX7_addTurn_17 (fun v17 => ?_)
        refine x_if_ne (pc := 20) (tgt := 26) h dX7_addTurn_20 (by decide) ?_ ?_
        · refine x_aload_n (pc := 26) (i := 0) h dX7_addTurn_26 rfl rfl ?_
          refine gf_X7_12 (pc := 27) h hk0 dX7_addTurn_27 ?_
          refine x_Vp (pc := 30) (av := fun ad => []) (rest := []) h m_X8_isFull i_X8_isFull kl_X7_51 (t_7_0 hk0) (by decide) rfl (c_X8_isFull fu σ (k0 + 1) (t_7_0 hk0)) rfl rfl (gCaM rfl) dX7_addTurn_30 (fun v30 => ?_)
          refine x_if_eq (pc := 33) (tgt := 39) h dX7_addTurn_33 (by decide) ?_ ?_
          · refine x_aload_n (pc := 39) (i := 0) h dX7_addTurn_39 rfl rfl ?_
            refine gf_X7_12 (pc := 40) h hk0 dX7_addTurn_40 ?_
            refine x_iload_n (pc := 43) (i := 1) h dX7_addTurn_43 rfl rfl ?_
            refine x_iload_n (pc := 44) (i := 2) h dX7_addTurn_44 rfl rfl ?_
            refine x_iload_n (pc := 45) (i := 3) h dX7_addTurn_45 rfl rfl ?_
            refine x_aload_n (pc := 46) (i := 0) h dX7_addTurn_46 rfl rfl ?_
            refine x_iload_n (pc := 47) (i := 3) h dX7_addTurn_47 rfl rfl ?_
            refine x_Vp (pc := 48) (av := fun ad => [.int p3]) (rest := [.int p3, .int p2, .int p1, .ref (gAd Γ.1 (k0 + 1))]) h m_X7_closestSpeaker i_X7_closestSpeaker kl_X7_56 hk0 (by decide) rfl (c_X7_closestSpeaker fu σ k0 p3 hk0) rfl rfl (gCaM rfl) dX7_addTurn_48 (fun v48 => ?_)
            refine x_Vi (pc := 51) (av := fun ad => [.int p1, .int p2, .int p3, .int v48]) (rest := []) h m_X8_insert i_X8_insert kl_X7_60 (t_7_0 hk0) (by decide) rfl (c_X8_insert fu σ (k0 + 1) p1 p2 p3 v48 (t_7_0 hk0)) rfl rfl (gCaM rfl) dX7_addTurn_51 (fun v51 σ51 => ?_)
            exact x_ireti (pc := 54) h z .int rfl rfl dX7_addTurn_54
          · refine x_ldc (pc := 36) h kc_X7_55 dX7_addTurn_36 ?_
            exact x_ireti (pc := 38) h z .int rfl rfl dX7_addTurn_38
        · refine x_ldc (pc := 23) h kc_X7_50 dX7_addTurn_23 ?_
          exact x_ireti (pc := 25) h z .int rfl rfl dX7_addTurn_25

set_option maxRecDepth 20000 in
set_option maxHeartbeats 4000000 in
theorem c_X1_stateAt (fu : Nat) (σ : gSt) (k0 : Nat) (p1 : Int32) (hk0 : isO k0 1) : gCt yX1_stateAt cX1_stateAt 2 (some (.object "LectureTurns$Transcript")) 1 22 (gQr σ) (fun ad => [.ref (ad k0), .int p1]) σ (f_X1_stateAt fu σ k0 p1) := by
  refine gCt_intro RX1 rfl (by decide +kernel) (fun ad v hv => by simp only [List.mem_cons, List.not_mem_nil, or_false] at hv; rcases hv with rfl | rfl <;> rfl) (fun ad => Nat.le_of_ble_eq_true rfl) (fun Γ h z => ?_)
  show At Γ 0 [some (.ref (gAd Γ.1 k0)), some (.int p1)] [] σ _
  unfold f_X1_stateAt
  refine x_aload_n (pc := 0) (i := 0) h dX1_stateAt_0 rfl rfl ?_
  refine gf_X1_11 (pc := 1) h hk0 dX1_stateAt_1 ?_
  refine x_aload_n (pc := 4) (i := 0) h dX1_stateAt_4 rfl rfl ?_
  refine gf_X1_30 (pc := 5) h hk0 dX1_stateAt_5 ?_
  refine x_iload_n (pc := 8) (i := 1) h dX1_stateAt_8 rfl rfl ?_
  refine x_iadd (pc := 9) h dX1_stateAt_9 ?_
  refine x_iconst (pc := 10) (v := 4) h dX1_stateAt_10 (by decide) ?_
  refine x_Sp (pc := 11) (av := fun ad => [.int ((σ k0 1) + p1), .int 4]) (rest := [.ref (gAd Γ.1 (k0 + 1))]) h m_J9_floorMod_7cf53 s_J9_floorMod_7cf53 kl_X1_33 (c_J9_floorMod_7cf53 fu σ ((σ k0 1) + p1) 4) rfl rfl (gCaM rfl) dX1_stateAt_11 (fun v11 => ?_)
  refine x_aald (pc := 14) h (t_1_0 hk0) dX1_stateAt_14 (fun q14 hq14 => ?_)
  exact x_aret (pc := 15) h z rfl hq14 "LectureTurns$Transcript" rfl dX1_stateAt_15

set_option maxRecDepth 20000 in
set_option maxHeartbeats 4000000 in
theorem c_X1_copy (fu : Nat) (σ : gSt) (k0 : Nat) (k1 : Nat) (hk0 : isO k0 7) (hk1 : isO k1 7) : gCt yX1_copy cX1_copy 2 none 3 72 gQv (fun ad => [.ref (ad k0), .ref (ad k1)]) σ (f_X1_copy fu σ k0 k1) := by
  refine gCt_intro RX1 rfl (by decide +kernel) (fun ad v hv => by simp only [List.mem_cons, List.not_mem_nil, or_false] at hv; rcases hv with rfl | rfl <;> rfl) (fun ad => Nat.le_of_ble_eq_true rfl) (fun Γ h z => ?_)
  show At Γ 0 [some (.ref (gAd Γ.1 k0)), some (.ref (gAd Γ.1 k1))] [] σ _
  unfold f_X1_copy
  refine x_aload_n (pc := 0) (i := 0) h dX1_copy_0 rfl rfl ?_
  refine x_ifnull (pc := 1) h dX1_copy_1 ?_
  refine x_aload_n (pc := 4) (i := 1) h dX1_copy_4 rfl rfl ?_
  refine x_ifnull (pc := 5) h dX1_copy_5 ?_
  refine x_aload_n (pc := 8) (i := 1) h dX1_copy_8 rfl rfl ?_
  refine x_aload_n (pc := 9) (i := 0) h dX1_copy_9 rfl rfl ?_
  refine x_Vv (pc := 10) (av := fun ad => [.ref (ad k0)]) (rest := []) h m_X7_takeFrom i_X7_takeFrom kl_X1_39 hk1 (by decide) rfl (c_X7_takeFrom fu σ k1 k0 hk1 hk0) rfl rfl (gCaM rfl) dX1_copy_10 (fun σ10 => ?_)
  exact x_vret (pc := 13) h z rfl dX1_copy_13

set_option maxRecDepth 20000 in
set_option maxHeartbeats 4000000 in
theorem c_X1_keep (fu : Nat) (σ : gSt) (k0 : Nat) (k1 : Nat) (hk0 : isO k0 1) (hk1 : isO k1 7) : gCt yX1_keep cX1_keep 2 none 4 93 gQv (fun ad => [.ref (ad k0), .ref (ad k1)]) σ (f_X1_keep fu σ k0 k1) := by
  refine gCt_intro RX1 rfl (by decide +kernel) (fun ad v hv => by simp only [List.mem_cons, List.not_mem_nil, or_false] at hv; rcases hv with rfl | rfl <;> rfl) (fun ad => Nat.le_of_ble_eq_true rfl) (fun Γ h z => ?_)
  show At Γ 0 [some (.ref (gAd Γ.1 k0)), some (.ref (gAd Γ.1 k1))] [] σ _
  unfold f_X1_keep
  refine x_aload_n (pc := 0) (i := 1) h dX1_keep_0 rfl rfl ?_
  refine x_aload_n (pc := 1) (i := 0) h dX1_keep_1 rfl rfl ?_
  refine x_aload_n (pc := 2) (i := 0) h dX1_keep_2 rfl rfl ?_
  refine gf_X1_18 (pc := 3) h hk0 dX1_keep_3 ?_
  refine x_Vr (pc := 6) (av := fun ad => [.int (σ k0 2)]) (rest := [.ref (gAd Γ.1 k1)]) h m_X1_stateAt i_X1_stateAt kl_X1_22 hk0 (by decide) rfl (c_X1_stateAt fu σ k0 (σ k0 2) hk0) rfl rfl (gCaM rfl) dX1_keep_6 (fun q6 hq6 => ?_)
  refine x_Sv (pc := 9) (av := fun ad => [.ref (ad k1), .ref (ad q6)]) (rest := []) h m_X1_copy s_X1_copy kl_X1_26 (c_X1_copy fu σ k1 q6 hk1 hq6) rfl rfl (gCaM rfl) dX1_keep_9 (fun σ9 => ?_)
  refine x_aload_n (pc := 12) (i := 0) h dX1_keep_12 rfl rfl ?_
  refine gf_X1_18 (pc := 13) h hk0 dX1_keep_13 ?_
  refine x_iconst (pc := 16) (v := 4) h dX1_keep_16 (by decide) ?_
  refine x_icmp_ge (pc := 17) (tgt := 33) h dX1_keep_17 (by decide) ?_ ?_
  · refine x_aload_n (pc := 33) (i := 0) h dX1_keep_33 rfl rfl ?_
    refine x_aload_n (pc := 34) (i := 0) h dX1_keep_34 rfl rfl ?_
    refine gf_X1_30 (pc := 35) h hk0 dX1_keep_35 ?_
    refine x_iconst (pc := 38) (v := 1) h dX1_keep_38 (by decide) ?_
    refine x_iadd (pc := 39) h dX1_keep_39 ?_
    refine x_iconst (pc := 40) (v := 4) h dX1_keep_40 (by decide) ?_
    refine x_irem (pc := 41) h dX1_keep_41 (fun v41 => ?_)
    refine x_put (pc := 42) h 1 1 .int hk0 (by decide) (by decide) rfl rfl rfl rfl rfl kf_X1_30 dX1_keep_42 (fun σ42 => ?_)
    exact x_vret (pc := 45) h z rfl dX1_keep_45
  · refine x_aload_n (pc := 20) (i := 0) h dX1_keep_20 rfl rfl ?_
    refine x_dup (pc := 21) h dX1_keep_21 rfl ?_
    refine gf_X1_18 (pc := 22) h hk0 dX1_keep_22 ?_
    refine x_iconst (pc := 25) (v := 1) h dX1_keep_25 (by decide) ?_
    refine x_iadd (pc := 26) h dX1_keep_26 ?_
    refine x_put (pc := 27) h 1 2 .int hk0 (by decide) (by decide) rfl rfl rfl rfl rfl kf_X1_18 dX1_keep_27 (fun σ27 => ?_)
    refine x_goto (pc := 30) (tgt := 45) h dX1_keep_30 (by decide) ?_
    exact x_vret (pc := 45) h z rfl dX1_keep_45

set_option maxRecDepth 20000 in
set_option maxHeartbeats 4000000 in
theorem c_X9_recorded (fu : Nat) (σ : gSt) (k0 : Nat) (p1 : Int32) (hk0 : isO k0 9) : gCt yX9_recorded cX9_recorded 2 (some .int) 5 114 gQi (fun ad => [.ref (ad k0), .int p1]) σ (f_X9_recorded fu σ k0 p1) := by
  refine gCt_intro RX9 rfl (by decide +kernel) (fun ad v hv => by simp only [List.mem_cons, List.not_mem_nil, or_false] at hv; rcases hv with rfl | rfl <;> rfl) (fun ad => Nat.le_of_ble_eq_true rfl) (fun Γ h z => ?_)
  show At Γ 0 [some (.ref (gAd Γ.1 k0)), some (.int p1)] [] σ _
  unfold f_X9_recorded
  refine x_iload_n (pc := 0) (i := 1) h dX9_recorded_0 rfl rfl ?_
  refine x_if_lt (pc := 1) (tgt := 15) h dX9_recorded_1 (by decide) ?_ ?_
  · refine x_iload_n (pc := 15) (i := 1) h dX9_recorded_15 rfl rfl ?_
    exact x_ireti (pc := 16) h z .int rfl rfl dX9_recorded_16
  · refine x_aload_n (pc := 4) (i := 0) h dX9_recorded_4 rfl rfl ?_
    refine gf_X9_22 (pc := 5) h hk0 dX9_recorded_5 ?_
    refine x_aload_n (pc := 8) (i := 0) h dX9_recorded_8 rfl rfl ?_
    refine gf_X9_16 (pc := 9) h hk0 dX9_recorded_9 ?_
    refine x_Vv (pc := 12) (av := fun ad => [.ref (ad (k0 + 22))]) (rest := []) h m_X1_keep i_X1_keep kl_X9_180 (t_9_2 hk0) (by decide) rfl (c_X1_keep fu σ (k0 + 8) (k0 + 22) (t_9_2 hk0) (t_9_1 hk0)) rfl rfl (gCaM rfl) dX9_recorded_12 (fun σ12 => ?_)
    refine x_iload_n (pc := 15) (i := 1) h dX9_recorded_15 rfl rfl ?_
    exact x_ireti (pc := 16) h z .int rfl rfl dX9_recorded_16

set_option maxRecDepth 20000 in
set_option maxHeartbeats 4000000 in
theorem c_X9_turn (fu : Nat) (σ : gSt) (k0 : Nat) (p1 : Int32) (p2 : Int32) (p3 : Int32) (hk0 : isO k0 9) : gCt yX9_turn cX9_turn 4 (some .int) 6 135 gQi (fun ad => [.ref (ad k0), .int p1, .int p2, .int p3]) σ (f_X9_turn fu σ k0 p1 p2 p3) := by
  refine gCt_intro RX9 rfl (by decide +kernel) (fun ad v hv => by simp only [List.mem_cons, List.not_mem_nil, or_false] at hv; rcases hv with rfl | rfl | rfl | rfl <;> rfl) (fun ad => Nat.le_of_ble_eq_true rfl) (fun Γ h z => ?_)
  show At Γ 0 [some (.ref (gAd Γ.1 k0)), some (.int p1), some (.int p2), some (.int p3)] [] σ _
  unfold f_X9_turn
  refine x_aload_n (pc := 0) (i := 0) h dX9_turn_0 rfl rfl ?_
  refine gf_X9_16 (pc := 1) h hk0 dX9_turn_1 ?_
  refine x_aload_n (pc := 4) (i := 0) h dX9_turn_4 rfl rfl ?_
  refine gf_X9_10 (pc := 5) h hk0 dX9_turn_5 ?_
  refine x_Vv (pc := 8) (av := fun ad => [.ref (ad (k0 + 10))]) (rest := []) h m_X7_takeFrom i_X7_takeFrom kl_X9_51 (t_9_1 hk0) (by decide) rfl (c_X7_takeFrom fu σ (k0 + 22) (k0 + 10) (t_9_1 hk0) (t_9_0 hk0)) rfl rfl (gCaM rfl) dX9_turn_8 (fun σ8 => ?_)
  refine x_aload_n (pc := 11) (i := 0) h dX9_turn_11 rfl rfl ?_
  refine x_aload_n (pc := 12) (i := 0) h dX9_turn_12 rfl rfl ?_
  refine gf_X9_10 (pc := 13) h hk0 dX9_turn_13 ?_
  refine x_iload_n (pc := 16) (i := 1) h dX9_turn_16 rfl rfl ?_
  refine x_iload_n (pc := 17) (i := 2) h dX9_turn_17 rfl rfl ?_
  refine x_iload_n (pc := 18) (i := 3) h dX9_turn_18 rfl rfl ?_
  refine x_Vi (pc := 19) (av := fun ad => [.int p1, .int p2, .int p3]) (rest := [.ref (gAd Γ.1 k0)]) h m_X7_addTurn i_X7_addTurn kl_X9_54 (t_9_0 hk0) (by decide) rfl (c_X7_addTurn fu σ8 (k0 + 10) p1 p2 p3 (t_9_0 hk0)) rfl rfl (gCaM rfl) dX9_turn_19 (fun v19 σ19 => ?_)
  refine x_Vi (pc := 22) (av := fun ad => [.int v19]) (rest := []) h m_X9_recorded i_X9_recorded kl_X9_58 hk0 (by decide) rfl (c_X9_recorded fu σ19 k0 v19 hk0) rfl rfl (gCaM rfl) dX9_turn_22 (fun v22 σ22 => ?_)
  exact x_ireti (pc := 25) h z .int rfl rfl dX9_turn_25

set_option maxRecDepth 20000 in
set_option maxHeartbeats 4000000 in
theorem c_X10_in (fu : Nat) (σ : gSt) (p0 : Int32) (p1 : Int32) (p2 : Int32) : gCt yX10_in cX10_in 3 (some .boolean) 0 0 (gQp σ) (fun ad => [.int p0, .int p1, .int p2]) σ (f_X10_in fu σ p0 p1 p2) := by
  refine gCt_intro RX10 rfl (by decide +kernel) (fun ad v hv => by simp only [List.mem_cons, List.not_mem_nil, or_false] at hv; rcases hv with rfl | rfl | rfl <;> rfl) (fun ad => Nat.le_of_ble_eq_true rfl) (fun Γ h z => ?_)
  show At Γ 0 [some (.int p0), some (.int p1), some (.int p2)] [] σ _
  unfold f_X10_in
  refine x_iload_n (pc := 0) (i := 0) h dX10_in_0 rfl rfl ?_
  refine x_iload_n (pc := 1) (i := 1) h dX10_in_1 rfl rfl ?_
  refine x_icmp_lt (pc := 2) (tgt := 14) h dX10_in_2 (by decide) ?_ ?_
  · refine x_iconst (pc := 14) (v := 0) h dX10_in_14 (by decide) ?_
    exact x_iretp (pc := 15) h z rfl .boolean rfl rfl dX10_in_15
  · refine x_iload_n (pc := 5) (i := 0) h dX10_in_5 rfl rfl ?_
    refine x_iload_n (pc := 6) (i := 2) h dX10_in_6 rfl rfl ?_
    refine x_icmp_gt (pc := 7) (tgt := 14) h dX10_in_7 (by decide) ?_ ?_
    · refine x_iconst (pc := 14) (v := 0) h dX10_in_14 (by decide) ?_
      exact x_iretp (pc := 15) h z rfl .boolean rfl rfl dX10_in_15
    · refine x_iconst (pc := 10) (v := 1) h dX10_in_10 (by decide) ?_
      refine x_goto (pc := 11) (tgt := 15) h dX10_in_11 (by decide) ?_
      exact x_iretp (pc := 15) h z rfl .boolean rfl rfl dX10_in_15

set_option maxRecDepth 20000 in
set_option maxHeartbeats 4000000 in
theorem f_X10_changes_L59_at (fu : Nat) (k0 : Nat) (ag59 : Int32 → gSt → Option (gSt)) {Γ : gX (gSt)} (h : gOk Γ cX10_changes 2 RX10 none 0 0) (z : gEnd Γ gQv) (hk0 : isO k0 10) (hg59 : ∀ (y1 : Int32) (τ : gSt), At Γ 59 [some (.ref (gAd Γ.1 k0)), some (.int y1)] [] τ (ag59 y1 τ)) (x1 : Int32) (σ : gSt) : At Γ 59 [some (.ref (gAd Γ.1 k0)), some (.int x1)] [] σ (f_X10_changes_L59 fu k0 ag59 x1 σ) := by
  unfold f_X10_changes_L59
  refine x_iload_n (pc := 59) (i := 1) h dX10_changes_59 rfl rfl ?_
  refine x_sipush (pc := 60) (v := 284) h dX10_changes_60 (by decide) ?_
  refine x_icmp_ge (pc := 63) (tgt := 93) h dX10_changes_63 (by decide) ?_ ?_
  · refine x_aload_n (pc := 93) (i := 0) h dX10_changes_93 rfl rfl ?_
    refine x_dup (pc := 94) h dX10_changes_94 rfl ?_
    refine gf_X10_35 (pc := 95) h hk0 dX10_changes_95 ?_
    refine x_iconst (pc := 98) (v := 1) h dX10_changes_98 (by decide) ?_
    refine x_iadd (pc := 99) h dX10_changes_99 ?_
    refine x_put (pc := 100) h 10 3 .int hk0 (by decide) (by decide) rfl rfl rfl rfl rfl kf_X10_35 dX10_changes_100 (fun σ100 => ?_)
    exact x_vret (pc := 103) h z rfl dX10_changes_103
  · refine x_aload_n (pc := 66) (i := 0) h dX10_changes_66 rfl rfl ?_
    refine gf_X10_13 (pc := 67) h hk0 dX10_changes_67 ?_
    refine x_sipush (pc := 70) (v := 284) h dX10_changes_70 (by decide) ?_
    refine x_aload_n (pc := 73) (i := 0) h dX10_changes_73 rfl rfl ?_
    refine gf_X10_35 (pc := 74) h hk0 dX10_changes_74 ?_
    refine x_imul (pc := 77) h dX10_changes_77 ?_
    refine x_iload_n (pc := 78) (i := 1) h dX10_changes_78 rfl rfl ?_
    refine x_iadd (pc := 79) h dX10_changes_79 ?_
    refine x_aload_n (pc := 80) (i := 0) h dX10_changes_80 rfl rfl ?_
    refine gf_X10_7 (pc := 81) h hk0 dX10_changes_81 ?_
    refine x_iload_n (pc := 84) (i := 1) h dX10_changes_84 rfl rfl ?_
    refine x_iald (pc := 85) h (t_10_0 hk0) dX10_changes_85 (fun v85 => ?_)
    refine x_iast (pc := 86) h (t_10_1 hk0) dX10_changes_86 (fun σ86 => ?_)
    refine x_iinc (pc := 87) (i := 1) (v := (x1 + 1)) (L' := [some (.ref (gAd Γ.1 k0)), some (.int (x1 + 1))]) h dX10_changes_87 rfl rfl rfl ?_
    refine x_goto (pc := 90) (tgt := 59) h dX10_changes_90 (by decide) ?_
    exact At.mask [true, true] rfl rfl (hg59 (x1 + 1) σ86)

theorem f_X10_changes_W59_at (fu : Nat) (k0 : Nat) {Γ : gX (gSt)} (h : gOk Γ cX10_changes 2 RX10 none 0 0) (z : gEnd Γ gQv) (hk0 : isO k0 10) : ∀ (n : Nat) (x1 : Int32) (σ : gSt), At Γ 59 [some (.ref (gAd Γ.1 k0)), some (.int x1)] [] σ (f_X10_changes_W59 fu k0 n x1 σ) := by
  intro n
  induction n with
  | zero => intro x1 σ r hr; cases hr
  | succ n ih =>
    intro x1 σ
    exact f_X10_changes_L59_at fu k0 (f_X10_changes_W59 fu k0 n) h z hk0 ih x1 σ

set_option maxRecDepth 20000 in
set_option maxHeartbeats 4000000 in
theorem f_X10_changes_L18_at (fu : Nat) (k0 : Nat) (ag18 : Int32 → gSt → Option (gSt)) {Γ : gX (gSt)} (h : gOk Γ cX10_changes 2 RX10 none 0 0) (z : gEnd Γ gQv) (hk0 : isO k0 10) (hg18 : ∀ (y1 : Int32) (τ : gSt), At Γ 18 [some (.ref (gAd Γ.1 k0)), some (.int y1)] [] τ (ag18 y1 τ)) (x1 : Int32) (σ : gSt) : At Γ 18 [some (.ref (gAd Γ.1 k0)), some (.int x1)] [] σ (f_X10_changes_L18 fu k0 ag18 x1 σ) := by
  unfold f_X10_changes_L18
  refine x_iload_n (pc := 18) (i := 1) h dX10_changes_18 rfl rfl ?_
  refine x_sipush (pc := 19) (v := 852) h dX10_changes_19 (by decide) ?_
  refine x_icmp_ge (pc := 22) (tgt := 47) h dX10_changes_22 (by decide) ?_ ?_
  · refine x_aload_n (pc := 47) (i := 0) h dX10_changes_47 rfl rfl ?_
    refine x_dup (pc := 48) h dX10_changes_48 rfl ?_
    refine gf_X10_35 (pc := 49) h hk0 dX10_changes_49 ?_
    refine x_iconst (pc := 52) (v := 1) h dX10_changes_52 (by decide) ?_
    refine x_isub (pc := 53) h dX10_changes_53 ?_
    refine x_put (pc := 54) h 10 3 .int hk0 (by decide) (by decide) rfl rfl rfl rfl rfl kf_X10_35 dX10_changes_54 (fun σ54 => ?_)
    refine x_iconst (pc := 57) (v := 0) h dX10_changes_57 (by decide) ?_
    refine x_istore_n (pc := 58) (i := 1) (L' := [some (.ref (gAd Γ.1 k0)), some (.int 0)]) h dX10_changes_58 rfl (Nat.le_of_ble_eq_true rfl) rfl ?_
    exact At.mask [true, true] rfl rfl (f_X10_changes_W59_at fu k0 h z hk0 fu 0 σ54)
  · refine x_aload_n (pc := 25) (i := 0) h dX10_changes_25 rfl rfl ?_
    refine gf_X10_13 (pc := 26) h hk0 dX10_changes_26 ?_
    refine x_iload_n (pc := 29) (i := 1) h dX10_changes_29 rfl rfl ?_
    refine x_aload_n (pc := 30) (i := 0) h dX10_changes_30 rfl rfl ?_
    refine gf_X10_13 (pc := 31) h hk0 dX10_changes_31 ?_
    refine x_iload_n (pc := 34) (i := 1) h dX10_changes_34 rfl rfl ?_
    refine x_sipush (pc := 35) (v := 284) h dX10_changes_35 (by decide) ?_
    refine x_iadd (pc := 38) h dX10_changes_38 ?_
    refine x_iald (pc := 39) h (t_10_1 hk0) dX10_changes_39 (fun v39 => ?_)
    refine x_iast (pc := 40) h (t_10_1 hk0) dX10_changes_40 (fun σ40 => ?_)
    refine x_iinc (pc := 41) (i := 1) (v := (x1 + 1)) (L' := [some (.ref (gAd Γ.1 k0)), some (.int (x1 + 1))]) h dX10_changes_41 rfl rfl rfl ?_
    refine x_goto (pc := 44) (tgt := 18) h dX10_changes_44 (by decide) ?_
    exact At.mask [true, true] rfl rfl (hg18 (x1 + 1) σ40)

theorem f_X10_changes_W18_at (fu : Nat) (k0 : Nat) {Γ : gX (gSt)} (h : gOk Γ cX10_changes 2 RX10 none 0 0) (z : gEnd Γ gQv) (hk0 : isO k0 10) : ∀ (n : Nat) (x1 : Int32) (σ : gSt), At Γ 18 [some (.ref (gAd Γ.1 k0)), some (.int x1)] [] σ (f_X10_changes_W18 fu k0 n x1 σ) := by
  intro n
  induction n with
  | zero => intro x1 σ r hr; cases hr
  | succ n ih =>
    intro x1 σ
    exact f_X10_changes_L18_at fu k0 (f_X10_changes_W18 fu k0 n) h z hk0 ih x1 σ

set_option maxRecDepth 20000 in
set_option maxHeartbeats 4000000 in
theorem c_X10_changes (fu : Nat) (σ : gSt) (k0 : Nat) (hk0 : isO k0 10) : gCt yX10_changes cX10_changes 2 none 0 0 gQv (fun ad => [.ref (ad k0)]) σ (f_X10_changes fu σ k0) := by
  refine gCt_intro RX10 rfl (by decide +kernel) (fun ad v hv => by simp only [List.mem_cons, List.not_mem_nil, or_false] at hv; rcases hv with rfl <;> rfl) (fun ad => Nat.le_of_ble_eq_true rfl) (fun Γ h z => ?_)
  show At Γ 0 [some (.ref (gAd Γ.1 k0)), none] [] σ _
  unfold f_X10_changes
  refine x_aload_n (pc := 0) (i := 0) h dX10_changes_0 rfl rfl ?_
  refine gf_X10_31 (pc := 1) h hk0 dX10_changes_1 ?_
  refine x_if_eq (pc := 4) (tgt := 8) h dX10_changes_4 (by decide) ?_ ?_
  · refine x_aload_n (pc := 8) (i := 0) h dX10_changes_8 rfl rfl ?_
    refine gf_X10_35 (pc := 9) h hk0 dX10_changes_9 ?_
    refine x_iconst (pc := 12) (v := 4) h dX10_changes_12 (by decide) ?_
    refine x_icmp_ne (pc := 13) (tgt := 57) h dX10_changes_13 (by decide) ?_ ?_
    · refine x_iconst (pc := 57) (v := 0) h dX10_changes_57 (by decide) ?_
      refine x_istore_n (pc := 58) (i := 1) (L' := [some (.ref (gAd Γ.1 k0)), some (.int 0)]) h dX10_changes_58 rfl (Nat.le_of_ble_eq_true rfl) rfl ?_
      exact At.mask [true, true] rfl rfl (f_X10_changes_W59_at fu k0 h z hk0 fu 0 σ)
    · refine x_iconst (pc := 16) (v := 0) h dX10_changes_16 (by decide) ?_
      refine x_istore_n (pc := 17) (i := 1) (L' := [some (.ref (gAd Γ.1 k0)), some (.int 0)]) h dX10_changes_17 rfl (Nat.le_of_ble_eq_true rfl) rfl ?_
      exact At.mask [true, true] rfl rfl (f_X10_changes_W18_at fu k0 h z hk0 fu 0 σ)
  · exact x_vret (pc := 7) h z rfl dX10_changes_7

set_option maxRecDepth 20000 in
set_option maxHeartbeats 4000000 in
theorem c_X10_of (fu : Nat) (σ : gSt) (k0 : Nat) (p1 : Int32) (p2 : Int32) (hk0 : isO k0 10) : gCt yX10_of cX10_of 3 (some .int) 0 0 (gQp σ) (fun ad => [.ref (ad k0), .int p1, .int p2]) σ (f_X10_of fu σ k0 p1 p2) := by
  refine gCt_intro RX10 rfl (by decide +kernel) (fun ad v hv => by simp only [List.mem_cons, List.not_mem_nil, or_false] at hv; rcases hv with rfl | rfl | rfl <;> rfl) (fun ad => Nat.le_of_ble_eq_true rfl) (fun Γ h z => ?_)
  show At Γ 0 [some (.ref (gAd Γ.1 k0)), some (.int p1), some (.int p2)] [] σ _
  unfold f_X10_of
  refine x_aload_n (pc := 0) (i := 0) h dX10_of_0 rfl rfl ?_
  refine gf_X10_7 (pc := 1) h hk0 dX10_of_1 ?_
  refine x_bipush (pc := 4) (v := 13) h dX10_of_4 (by decide) ?_
  refine x_iload_n (pc := 6) (i := 1) h dX10_of_6 rfl rfl ?_
  refine x_imul (pc := 7) h dX10_of_7 ?_
  refine x_iload_n (pc := 8) (i := 2) h dX10_of_8 rfl rfl ?_
  refine x_iadd (pc := 9) h dX10_of_9 ?_
  refine x_iald (pc := 10) h (t_10_0 hk0) dX10_of_10 (fun v10 => ?_)
  exact x_iretp (pc := 11) h z rfl .int rfl rfl dX10_of_11

set_option maxRecDepth 20000 in
set_option maxHeartbeats 4000000 in
theorem f_X10_opens_L45_at (fu : Nat) (k0 : Nat) (p1 : Int32) (x2 : Int32) (ag45 : Int32 → gSt → Option (Int32 × gSt)) {Γ : gX (Int32 × gSt)} (h : gOk Γ cX10_opens 4 RX10 (some .int) 1 22) (z : gEnd Γ gQi) (hk0 : isO k0 10) (hg45 : ∀ (y3 : Int32) (τ : gSt), At Γ 45 [some (.ref (gAd Γ.1 k0)), none, some (.int x2), some (.int y3)] [] τ (ag45 y3 τ)) (x3 : Int32) (σ : gSt) : At Γ 45 [some (.ref (gAd Γ.1 k0)), none, some (.int x2), some (.int x3)] [] σ (f_X10_opens_L45 fu k0 p1 x2 ag45 x3 σ) := by
  unfold f_X10_opens_L45
  refine x_iload_n (pc := 45) (i := 3) h dX10_opens_45 rfl rfl ?_
  refine x_bipush (pc := 46) (v := 13) h dX10_opens_46 (by decide) ?_
  refine x_iload_n (pc := 48) (i := 2) h dX10_opens_48 rfl rfl ?_
  refine x_imul (pc := 49) h dX10_opens_49 ?_
  refine x_icmp_lt (pc := 50) (tgt := 74) h dX10_opens_50 (by decide) ?_ ?_
  · refine x_aload_n (pc := 74) (i := 0) h dX10_opens_74 rfl rfl ?_
    refine gf_X10_7 (pc := 75) h hk0 dX10_opens_75 ?_
    refine x_sipush (pc := 78) (v := 282) h dX10_opens_78 (by decide) ?_
    refine x_dup2 (pc := 81) h dX10_opens_81 rfl rfl ?_
    refine x_ialdS (pc := 82) h 282 (t_10_0 hk0) (by decide) (by decide) (by decide) dX10_opens_82 ?_
    refine x_iconst (pc := 83) (v := 1) h dX10_opens_83 (by decide) ?_
    refine x_iadd (pc := 84) h dX10_opens_84 ?_
    refine x_iast (pc := 85) h (t_10_0 hk0) dX10_opens_85 (fun σ85 => ?_)
    refine x_iload_n (pc := 86) (i := 2) h dX10_opens_86 rfl rfl ?_
    exact x_ireti (pc := 87) h z .int rfl rfl dX10_opens_87
  · refine x_aload_n (pc := 53) (i := 0) h dX10_opens_53 rfl rfl ?_
    refine gf_X10_7 (pc := 54) h hk0 dX10_opens_54 ?_
    refine x_iload_n (pc := 57) (i := 3) h dX10_opens_57 rfl rfl ?_
    refine x_bipush (pc := 58) (v := 13) h dX10_opens_58 (by decide) ?_
    refine x_iadd (pc := 60) h dX10_opens_60 ?_
    refine x_aload_n (pc := 61) (i := 0) h dX10_opens_61 rfl rfl ?_
    refine gf_X10_7 (pc := 62) h hk0 dX10_opens_62 ?_
    refine x_iload_n (pc := 65) (i := 3) h dX10_opens_65 rfl rfl ?_
    refine x_iald (pc := 66) h (t_10_0 hk0) dX10_opens_66 (fun v66 => ?_)
    refine x_iast (pc := 67) h (t_10_0 hk0) dX10_opens_67 (fun σ67 => ?_)
    refine x_iinc (pc := 68) (i := 3) (v := (x3 + (-1))) (L' := [some (.ref (gAd Γ.1 k0)), none, some (.int x2), some (.int (x3 + (-1)))]) h dX10_opens_68 rfl rfl rfl ?_
    refine x_goto (pc := 71) (tgt := 45) h dX10_opens_71 (by decide) ?_
    exact At.mask [true, false, true, true] rfl rfl (hg45 (x3 + (-1)) σ67)

theorem f_X10_opens_W45_at (fu : Nat) (k0 : Nat) (p1 : Int32) (x2 : Int32) {Γ : gX (Int32 × gSt)} (h : gOk Γ cX10_opens 4 RX10 (some .int) 1 22) (z : gEnd Γ gQi) (hk0 : isO k0 10) : ∀ (n : Nat) (x3 : Int32) (σ : gSt), At Γ 45 [some (.ref (gAd Γ.1 k0)), none, some (.int x2), some (.int x3)] [] σ (f_X10_opens_W45 fu k0 p1 x2 n x3 σ) := by
  intro n
  induction n with
  | zero => intro x3 σ r hr; cases hr
  | succ n ih =>
    intro x3 σ
    exact f_X10_opens_L45_at fu k0 p1 x2 (f_X10_opens_W45 fu k0 p1 x2 n) h z hk0 ih x3 σ

set_option maxRecDepth 20000 in
set_option maxHeartbeats 4000000 in
theorem f_X10_opens_J31_at (fu : Nat) (k0 : Nat) (p1 : Int32) {Γ : gX (Int32 × gSt)} (h : gOk Γ cX10_opens 4 RX10 (some .int) 1 22) (z : gEnd Γ gQi) (hk0 : isO k0 10) (x2 : Int32) (σ : gSt) : At Γ 31 [some (.ref (gAd Γ.1 k0)), none, some (.int x2), none] [] σ (f_X10_opens_J31 fu k0 p1 x2 σ) := by
  unfold f_X10_opens_J31
  refine x_bipush (pc := 31) (v := 13) h dX10_opens_31 (by decide) ?_
  refine x_aload_n (pc := 33) (i := 0) h dX10_opens_33 rfl rfl ?_
  refine gf_X10_7 (pc := 34) h hk0 dX10_opens_34 ?_
  refine x_sipush (pc := 37) (v := 282) h dX10_opens_37 (by decide) ?_
  refine x_ialdS (pc := 40) h 282 (t_10_0 hk0) (by decide) (by decide) (by decide) dX10_opens_40 ?_
  refine x_imul (pc := 41) h dX10_opens_41 ?_
  refine x_iconst (pc := 42) (v := 1) h dX10_opens_42 (by decide) ?_
  refine x_isub (pc := 43) h dX10_opens_43 ?_
  refine x_lt (fun y44 => ?_)
  refine x_istore_n (pc := 44) (i := 3) (L' := [some (.ref (gAd Γ.1 k0)), none, some (.int x2), some (.int y44)]) h dX10_opens_44 rfl (Nat.le_of_ble_eq_true rfl) rfl ?_
  exact At.mask [true, false, true, true] rfl rfl (f_X10_opens_W45_at fu k0 p1 x2 h z hk0 fu y44 σ)

set_option maxRecDepth 20000 in
set_option maxHeartbeats 4000000 in
theorem f_X10_opens_L9_at (fu : Nat) (k0 : Nat) (p1 : Int32) (σ : gSt) (ag9 : Int32 → Option (Int32 × gSt)) {Γ : gX (Int32 × gSt)} (h : gOk Γ cX10_opens 4 RX10 (some .int) 1 22) (z : gEnd Γ gQi) (hk0 : isO k0 10) (hg9 : ∀ (y2 : Int32), At Γ 9 [some (.ref (gAd Γ.1 k0)), some (.int p1), some (.int y2), none] [] σ (ag9 y2)) (x2 : Int32) : At Γ 9 [some (.ref (gAd Γ.1 k0)), some (.int p1), some (.int x2), none] [] σ (f_X10_opens_L9 fu k0 p1 σ ag9 x2) := by
  unfold f_X10_opens_L9
  refine x_iload_n (pc := 9) (i := 2) h dX10_opens_9 rfl rfl ?_
  refine x_if_le (pc := 10) (tgt := 31) h dX10_opens_10 (by decide) ?_ ?_
  · exact At.mask [true, false, true, false] rfl rfl (f_X10_opens_J31_at fu k0 p1 h z hk0 x2 σ)
  · refine x_aload_n (pc := 13) (i := 0) h dX10_opens_13 rfl rfl ?_
    refine x_iload_n (pc := 14) (i := 2) h dX10_opens_14 rfl rfl ?_
    refine x_iconst (pc := 15) (v := 1) h dX10_opens_15 (by decide) ?_
    refine x_isub (pc := 16) h dX10_opens_16 ?_
    refine x_iconst (pc := 17) (v := 0) h dX10_opens_17 (by decide) ?_
    refine x_Vp (pc := 18) (av := fun ad => [.int (x2 - 1), .int 0]) (rest := []) h m_X10_of i_X10_of kl_X10_47 hk0 (by decide) rfl (c_X10_of fu σ k0 (x2 - 1) 0 hk0) rfl rfl (gCaM rfl) dX10_opens_18 (fun v18 => ?_)
    refine x_iload_n (pc := 21) (i := 1) h dX10_opens_21 rfl rfl ?_
    refine x_icmp_le (pc := 22) (tgt := 31) h dX10_opens_22 (by decide) ?_ ?_
    · exact At.mask [true, false, true, false] rfl rfl (f_X10_opens_J31_at fu k0 p1 h z hk0 x2 σ)
    · refine x_iinc (pc := 25) (i := 2) (v := (x2 + (-1))) (L' := [some (.ref (gAd Γ.1 k0)), some (.int p1), some (.int (x2 + (-1))), none]) h dX10_opens_25 rfl rfl rfl ?_
      refine x_goto (pc := 28) (tgt := 9) h dX10_opens_28 (by decide) ?_
      exact At.mask [true, true, true, false] rfl rfl (hg9 (x2 + (-1)))

theorem f_X10_opens_W9_at (fu : Nat) (k0 : Nat) (p1 : Int32) (σ : gSt) {Γ : gX (Int32 × gSt)} (h : gOk Γ cX10_opens 4 RX10 (some .int) 1 22) (z : gEnd Γ gQi) (hk0 : isO k0 10) : ∀ (n : Nat) (x2 : Int32), At Γ 9 [some (.ref (gAd Γ.1 k0)), some (.int p1), some (.int x2), none] [] σ (f_X10_opens_W9 fu k0 p1 σ n x2) := by
  intro n
  induction n with
  | zero => intro x2 r hr; cases hr
  | succ n ih =>
    intro x2
    exact f_X10_opens_L9_at fu k0 p1 σ (f_X10_opens_W9 fu k0 p1 σ n) h z hk0 ih x2

set_option maxRecDepth 20000 in
set_option maxHeartbeats 4000000 in
theorem c_X10_opens (fu : Nat) (σ : gSt) (k0 : Nat) (p1 : Int32) (hk0 : isO k0 10) : gCt yX10_opens cX10_opens 4 (some .int) 1 22 gQi (fun ad => [.ref (ad k0), .int p1]) σ (f_X10_opens fu σ k0 p1) := by
  refine gCt_intro RX10 rfl (by decide +kernel) (fun ad v hv => by simp only [List.mem_cons, List.not_mem_nil, or_false] at hv; rcases hv with rfl | rfl <;> rfl) (fun ad => Nat.le_of_ble_eq_true rfl) (fun Γ h z => ?_)
  show At Γ 0 [some (.ref (gAd Γ.1 k0)), some (.int p1), none, none] [] σ _
  unfold f_X10_opens
  refine x_aload_n (pc := 0) (i := 0) h dX10_opens_0 rfl rfl ?_
  refine gf_X10_7 (pc := 1) h hk0 dX10_opens_1 ?_
  refine x_sipush (pc := 4) (v := 282) h dX10_opens_4 (by decide) ?_
  refine x_ialdS (pc := 7) h 282 (t_10_0 hk0) (by decide) (by decide) (by decide) dX10_opens_7 ?_
  refine x_istore_n (pc := 8) (i := 2) (L' := [some (.ref (gAd Γ.1 k0)), some (.int p1), some (.int (σ (k0 + 1) 282)), none]) h dX10_opens_8 rfl (Nat.le_of_ble_eq_true rfl) rfl ?_
  exact At.mask [true, true, true, false] rfl rfl (f_X10_opens_W9_at fu k0 p1 σ h z hk0 fu (σ (k0 + 1) 282))

set_option maxRecDepth 20000 in
set_option maxHeartbeats 4000000 in
theorem c_X10_sets (fu : Nat) (σ : gSt) (k0 : Nat) (p1 : Int32) (p2 : Int32) (p3 : Int32) (hk0 : isO k0 10) : gCt yX10_sets cX10_sets 4 none 0 0 gQv (fun ad => [.ref (ad k0), .int p1, .int p2, .int p3]) σ (f_X10_sets fu σ k0 p1 p2 p3) := by
  refine gCt_intro RX10 rfl (by decide +kernel) (fun ad v hv => by simp only [List.mem_cons, List.not_mem_nil, or_false] at hv; rcases hv with rfl | rfl | rfl | rfl <;> rfl) (fun ad => Nat.le_of_ble_eq_true rfl) (fun Γ h z => ?_)
  show At Γ 0 [some (.ref (gAd Γ.1 k0)), some (.int p1), some (.int p2), some (.int p3)] [] σ _
  unfold f_X10_sets
  refine x_aload_n (pc := 0) (i := 0) h dX10_sets_0 rfl rfl ?_
  refine gf_X10_7 (pc := 1) h hk0 dX10_sets_1 ?_
  refine x_bipush (pc := 4) (v := 13) h dX10_sets_4 (by decide) ?_
  refine x_iload_n (pc := 6) (i := 1) h dX10_sets_6 rfl rfl ?_
  refine x_imul (pc := 7) h dX10_sets_7 ?_
  refine x_iload_n (pc := 8) (i := 2) h dX10_sets_8 rfl rfl ?_
  refine x_iadd (pc := 9) h dX10_sets_9 ?_
  refine x_iload_n (pc := 10) (i := 3) h dX10_sets_10 rfl rfl ?_
  refine x_iast (pc := 11) h (t_10_0 hk0) dX10_sets_11 (fun σ11 => ?_)
  exact x_vret (pc := 12) h z rfl dX10_sets_12

set_option maxRecDepth 20000 in
set_option maxHeartbeats 4000000 in
theorem c_X10_far (fu : Nat) (σ : gSt) (p0 : Int32) (p1 : Int32) : gCt yX10_far cX10_far 2 (some .int) 0 0 (gQp σ) (fun ad => [.int p0, .int p1]) σ (f_X10_far fu σ p0 p1) := by
  refine gCt_intro RX10 rfl (by decide +kernel) (fun ad v hv => by simp only [List.mem_cons, List.not_mem_nil, or_false] at hv; rcases hv with rfl | rfl <;> rfl) (fun ad => Nat.le_of_ble_eq_true rfl) (fun Γ h z => ?_)
  show At Γ 0 [some (.int p0), some (.int p1)] [] σ _
  unfold f_X10_far
  refine x_iload_n (pc := 0) (i := 0) h dX10_far_0 rfl rfl ?_
  refine x_iload_n (pc := 1) (i := 1) h dX10_far_1 rfl rfl ?_
  refine x_icmp_ge (pc := 2) (tgt := 11) h dX10_far_2 (by decide) ?_ ?_
  · refine x_iload_n (pc := 11) (i := 0) h dX10_far_11 rfl rfl ?_
    refine x_iload_n (pc := 12) (i := 1) h dX10_far_12 rfl rfl ?_
    refine x_isub (pc := 13) h dX10_far_13 ?_
    exact x_iretp (pc := 14) h z rfl .int rfl rfl dX10_far_14
  · refine x_iload_n (pc := 5) (i := 1) h dX10_far_5 rfl rfl ?_
    refine x_iload_n (pc := 6) (i := 0) h dX10_far_6 rfl rfl ?_
    refine x_isub (pc := 7) h dX10_far_7 ?_
    refine x_goto (pc := 8) (tgt := 14) h dX10_far_8 (by decide) ?_
    exact x_iretp (pc := 14) h z rfl .int rfl rfl dX10_far_14

set_option maxRecDepth 20000 in
set_option maxHeartbeats 4000000 in
theorem f_X10_voiceFor_J53_at (fu : Nat) (σ : gSt) (k0 : Nat) (p1 : Int32) (ag4 : Int32 → Int32 → Option (Int32)) {Γ : gX (Int32)} (h : gOk Γ cX10_voiceFor 5 RX10 (some .int) 1 21) (z : gEnd Γ (gQp σ)) (hk0 : isO k0 10) (x2 : Int32) (x3 : Int32) (s1 : Int32) (hg4 : ∀ (y2 : Int32) (y3 : Int32), At Γ 4 [some (.ref (gAd Γ.1 k0)), some (.int p1), some (.int y2), some (.int y3), none] [] σ (ag4 y2 y3)) : At Γ 53 [some (.ref (gAd Γ.1 k0)), some (.int p1), some (.int x2), some (.int x3), none] [.int s1] σ (f_X10_voiceFor_J53 fu σ k0 p1 ag4 x2 x3 s1) := by
  unfold f_X10_voiceFor_J53
  refine x_istore (pc := 53) (L' := [some (.ref (gAd Γ.1 k0)), some (.int p1), some (.int x2), some (.int x3), some (.int s1)]) h dX10_voiceFor_53 (Nat.le_of_ble_eq_true rfl) rfl ?_
  refine x_iload (pc := 55) h dX10_voiceFor_55 rfl ?_
  refine x_if_eq (pc := 57) (tgt := 99) h dX10_voiceFor_57 (by decide) ?_ ?_
  · refine x_iload_n (pc := 99) (i := 2) h dX10_voiceFor_99 rfl rfl ?_
    refine x_istore_n (pc := 100) (i := 2) (L' := [some (.ref (gAd Γ.1 k0)), some (.int p1), some (.int x2), some (.int x3), some (.int s1)]) h dX10_voiceFor_100 rfl (Nat.le_of_ble_eq_true rfl) rfl ?_
    refine x_iinc (pc := 101) (i := 3) (v := (x3 + 1)) (L' := [some (.ref (gAd Γ.1 k0)), some (.int p1), some (.int x2), some (.int (x3 + 1)), some (.int s1)]) h dX10_voiceFor_101 rfl rfl rfl ?_
    refine x_goto (pc := 104) (tgt := 4) h dX10_voiceFor_104 (by decide) ?_
    exact At.mask [true, true, true, true, false] rfl rfl (hg4 x2 (x3 + 1))
  · refine x_iload_n (pc := 60) (i := 2) h dX10_voiceFor_60 rfl rfl ?_
    refine x_if_lt (pc := 61) (tgt := 95) h dX10_voiceFor_61 (by decide) ?_ ?_
    · refine x_iload_n (pc := 95) (i := 3) h dX10_voiceFor_95 rfl rfl ?_
      refine x_goto (pc := 96) (tgt := 100) h dX10_voiceFor_96 (by decide) ?_
      refine x_istore_n (pc := 100) (i := 2) (L' := [some (.ref (gAd Γ.1 k0)), some (.int p1), some (.int x3), some (.int x3), some (.int s1)]) h dX10_voiceFor_100 rfl (Nat.le_of_ble_eq_true rfl) rfl ?_
      refine x_iinc (pc := 101) (i := 3) (v := (x3 + 1)) (L' := [some (.ref (gAd Γ.1 k0)), some (.int p1), some (.int x3), some (.int (x3 + 1)), some (.int s1)]) h dX10_voiceFor_101 rfl rfl rfl ?_
      refine x_goto (pc := 104) (tgt := 4) h dX10_voiceFor_104 (by decide) ?_
      exact At.mask [true, true, true, true, false] rfl rfl (hg4 x3 (x3 + 1))
    · refine x_aload_n (pc := 64) (i := 0) h dX10_voiceFor_64 rfl rfl ?_
      refine gf_X10_7 (pc := 65) h hk0 dX10_voiceFor_65 ?_
      refine x_sipush (pc := 68) (v := 276) h dX10_voiceFor_68 (by decide) ?_
      refine x_iload_n (pc := 71) (i := 3) h dX10_voiceFor_71 rfl rfl ?_
      refine x_iadd (pc := 72) h dX10_voiceFor_72 ?_
      refine x_iald (pc := 73) h (t_10_0 hk0) dX10_voiceFor_73 (fun v73 => ?_)
      refine x_iload_n (pc := 74) (i := 1) h dX10_voiceFor_74 rfl rfl ?_
      refine x_Sp (pc := 75) (av := fun ad => [.int v73, .int p1]) (rest := []) h m_X10_far s_X10_far kl_X10_43 (c_X10_far fu σ v73 p1) rfl rfl (gCaM rfl) dX10_voiceFor_75 (fun v75 => ?_)
      refine x_aload_n (pc := 78) (i := 0) h dX10_voiceFor_78 rfl rfl ?_
      refine gf_X10_7 (pc := 79) h hk0 dX10_voiceFor_79 ?_
      refine x_sipush (pc := 82) (v := 276) h dX10_voiceFor_82 (by decide) ?_
      refine x_iload_n (pc := 85) (i := 2) h dX10_voiceFor_85 rfl rfl ?_
      refine x_iadd (pc := 86) h dX10_voiceFor_86 ?_
      refine x_iald (pc := 87) h (t_10_0 hk0) dX10_voiceFor_87 (fun v87 => ?_)
      refine x_iload_n (pc := 88) (i := 1) h dX10_voiceFor_88 rfl rfl ?_
      refine x_Sp (pc := 89) (av := fun ad => [.int v87, .int p1]) (rest := [.int v75]) h m_X10_far s_X10_far kl_X10_43 (c_X10_far fu σ v87 p1) rfl rfl (gCaM rfl) dX10_voiceFor_89 (fun v89 => ?_)
      refine x_nm (e := (if v89 ≤ v75 then x2 else x3)) (pcJ := 100) (LJ := [some (.ref (gAd Γ.1 k0)), some (.int p1), some (.int x2), some (.int x3), some (.int s1)]) (sJ := []) (fun w92 => ?_) (fun kj92 => ?_)
      · refine x_istore_n (pc := 100) (i := 2) (L' := [some (.ref (gAd Γ.1 k0)), some (.int p1), some (.int w92), some (.int x3), some (.int s1)]) h dX10_voiceFor_100 rfl (Nat.le_of_ble_eq_true rfl) rfl ?_
        refine x_iinc (pc := 101) (i := 3) (v := (x3 + 1)) (L' := [some (.ref (gAd Γ.1 k0)), some (.int p1), some (.int w92), some (.int (x3 + 1)), some (.int s1)]) h dX10_voiceFor_101 rfl rfl rfl ?_
        refine x_goto (pc := 104) (tgt := 4) h dX10_voiceFor_104 (by decide) ?_
        exact At.mask [true, true, true, true, false] rfl rfl (hg4 w92 (x3 + 1))
      · refine j_icmp_ge (pc := 92) (tgt := 99) h dX10_voiceFor_92 (by decide) (fun hc92_0 => ?_) (fun hc92_0 => ?_)
        · refine x_iload_n (pc := 99) (i := 2) h dX10_voiceFor_99 rfl rfl ?_
          exact kj92 x2 (by rw [if_pos hc92_0])
        · refine x_iload_n (pc := 95) (i := 3) h dX10_voiceFor_95 rfl rfl ?_
          refine x_goto (pc := 96) (tgt := 100) h dX10_voiceFor_96 (by decide) ?_
          exact kj92 x3 (by rw [if_neg hc92_0])

set_option maxRecDepth 20000 in
set_option maxHeartbeats 4000000 in
theorem f_X10_voiceFor_L4_at (fu : Nat) (σ : gSt) (k0 : Nat) (p1 : Int32) (ag4 : Int32 → Int32 → Option (Int32)) {Γ : gX (Int32)} (h : gOk Γ cX10_voiceFor 5 RX10 (some .int) 1 21) (z : gEnd Γ (gQp σ)) (hk0 : isO k0 10) (hg4 : ∀ (y2 : Int32) (y3 : Int32), At Γ 4 [some (.ref (gAd Γ.1 k0)), some (.int p1), some (.int y2), some (.int y3), none] [] σ (ag4 y2 y3)) (x2 : Int32) (x3 : Int32) : At Γ 4 [some (.ref (gAd Γ.1 k0)), some (.int p1), some (.int x2), some (.int x3), none] [] σ (f_X10_voiceFor_L4 fu σ k0 p1 ag4 x2 x3) := by
  unfold f_X10_voiceFor_L4
  refine x_iload_n (pc := 4) (i := 3) h dX10_voiceFor_4 rfl rfl ?_
  refine x_bipush (pc := 5) (v := 6) h dX10_voiceFor_5 (by decide) ?_
  refine x_icmp_ge (pc := 7) (tgt := 107) h dX10_voiceFor_7 (by decide) ?_ ?_
  · refine x_iload_n (pc := 107) (i := 2) h dX10_voiceFor_107 rfl rfl ?_
    exact x_iretp (pc := 108) h z rfl .int rfl rfl dX10_voiceFor_108
  · refine x_aload_n (pc := 10) (i := 0) h dX10_voiceFor_10 rfl rfl ?_
    refine gf_X10_7 (pc := 11) h hk0 dX10_voiceFor_11 ?_
    refine x_sipush (pc := 14) (v := 276) h dX10_voiceFor_14 (by decide) ?_
    refine x_iload_n (pc := 17) (i := 3) h dX10_voiceFor_17 rfl rfl ?_
    refine x_iadd (pc := 18) h dX10_voiceFor_18 ?_
    refine x_iald (pc := 19) h (t_10_0 hk0) dX10_voiceFor_19 (fun v19 => ?_)
    refine x_if_le (pc := 20) (tgt := 52) h dX10_voiceFor_20 (by decide) ?_ ?_
    · refine x_iconst (pc := 52) (v := 0) h dX10_voiceFor_52 (by decide) ?_
      exact At.mask [true, true, true, true, false] rfl rfl (f_X10_voiceFor_J53_at fu σ k0 p1 ag4 h z hk0 x2 x3 0 hg4)
    · refine x_aload_n (pc := 23) (i := 0) h dX10_voiceFor_23 rfl rfl ?_
      refine gf_X10_7 (pc := 24) h hk0 dX10_voiceFor_24 ?_
      refine x_sipush (pc := 27) (v := 276) h dX10_voiceFor_27 (by decide) ?_
      refine x_iload_n (pc := 30) (i := 3) h dX10_voiceFor_30 rfl rfl ?_
      refine x_iadd (pc := 31) h dX10_voiceFor_31 ?_
      refine x_iald (pc := 32) h (t_10_0 hk0) dX10_voiceFor_32 (fun v32 => ?_)
      refine x_iload_n (pc := 33) (i := 1) h dX10_voiceFor_33 rfl rfl ?_
      refine x_Sp (pc := 34) (av := fun ad => [.int v32, .int p1]) (rest := []) h m_X10_far s_X10_far kl_X10_43 (c_X10_far fu σ v32 p1) rfl rfl (gCaM rfl) dX10_voiceFor_34 (fun v34 => ?_)
      refine x_aload_n (pc := 37) (i := 0) h dX10_voiceFor_37 rfl rfl ?_
      refine gf_X10_7 (pc := 38) h hk0 dX10_voiceFor_38 ?_
      refine x_sipush (pc := 41) (v := 283) h dX10_voiceFor_41 (by decide) ?_
      refine x_ialdS (pc := 44) h 283 (t_10_0 hk0) (by decide) (by decide) (by decide) dX10_voiceFor_44 ?_
      refine x_nm (e := (if (σ (k0 + 1) 283) < v34 then 0 else 1)) (pcJ := 53) (LJ := [some (.ref (gAd Γ.1 k0)), some (.int p1), some (.int x2), some (.int x3), none]) (sJ := []) (fun w45 => ?_) (fun kj45 => ?_)
      · exact At.mask [true, true, true, true, false] rfl rfl (f_X10_voiceFor_J53_at fu σ k0 p1 ag4 h z hk0 x2 x3 w45 hg4)
      · refine j_icmp_gt (pc := 45) (tgt := 52) h dX10_voiceFor_45 (by decide) (fun hc45_0 => ?_) (fun hc45_0 => ?_)
        · refine x_iconst (pc := 52) (v := 0) h dX10_voiceFor_52 (by decide) ?_
          exact kj45 0 (by rw [if_pos hc45_0])
        · refine x_iconst (pc := 48) (v := 1) h dX10_voiceFor_48 (by decide) ?_
          refine x_goto (pc := 49) (tgt := 53) h dX10_voiceFor_49 (by decide) ?_
          exact kj45 1 (by rw [if_neg hc45_0])

theorem f_X10_voiceFor_W4_at (fu : Nat) (σ : gSt) (k0 : Nat) (p1 : Int32) {Γ : gX (Int32)} (h : gOk Γ cX10_voiceFor 5 RX10 (some .int) 1 21) (z : gEnd Γ (gQp σ)) (hk0 : isO k0 10) : ∀ (n : Nat) (x2 : Int32) (x3 : Int32), At Γ 4 [some (.ref (gAd Γ.1 k0)), some (.int p1), some (.int x2), some (.int x3), none] [] σ (f_X10_voiceFor_W4 fu σ k0 p1 n x2 x3) := by
  intro n
  induction n with
  | zero => intro x2 x3 r hr; cases hr
  | succ n ih =>
    intro x2 x3
    exact f_X10_voiceFor_L4_at fu σ k0 p1 (f_X10_voiceFor_W4 fu σ k0 p1 n) h z hk0 ih x2 x3

set_option maxRecDepth 20000 in
set_option maxHeartbeats 4000000 in
theorem c_X10_voiceFor (fu : Nat) (σ : gSt) (k0 : Nat) (p1 : Int32) (hk0 : isO k0 10) : gCt yX10_voiceFor cX10_voiceFor 5 (some .int) 1 21 (gQp σ) (fun ad => [.ref (ad k0), .int p1]) σ (f_X10_voiceFor fu σ k0 p1) := by
  refine gCt_intro RX10 rfl (by decide +kernel) (fun ad v hv => by simp only [List.mem_cons, List.not_mem_nil, or_false] at hv; rcases hv with rfl | rfl <;> rfl) (fun ad => Nat.le_of_ble_eq_true rfl) (fun Γ h z => ?_)
  show At Γ 0 [some (.ref (gAd Γ.1 k0)), some (.int p1), none, none, none] [] σ _
  unfold f_X10_voiceFor
  refine x_iconst (pc := 0) (v := (-1)) h dX10_voiceFor_0 (by decide) ?_
  refine x_istore_n (pc := 1) (i := 2) (L' := [some (.ref (gAd Γ.1 k0)), some (.int p1), some (.int (-1)), none, none]) h dX10_voiceFor_1 rfl (Nat.le_of_ble_eq_true rfl) rfl ?_
  refine x_iconst (pc := 2) (v := 0) h dX10_voiceFor_2 (by decide) ?_
  refine x_istore_n (pc := 3) (i := 3) (L' := [some (.ref (gAd Γ.1 k0)), some (.int p1), some (.int (-1)), some (.int 0), none]) h dX10_voiceFor_3 rfl (Nat.le_of_ble_eq_true rfl) rfl ?_
  exact At.mask [true, true, true, true, false] rfl rfl (f_X10_voiceFor_W4_at fu σ k0 p1 h z hk0 fu (-1) 0)

set_option maxRecDepth 20000 in
set_option maxHeartbeats 4000000 in
theorem c_X10_turn (fu : Nat) (σ : gSt) (k0 : Nat) (p1 : Int32) (p2 : Int32) (p3 : Int32) (hk0 : isO k0 10) : gCt yX10_turn cX10_turn 5 (some .int) 2 45 gQi (fun ad => [.ref (ad k0), .int p1, .int p2, .int p3]) σ (f_X10_turn fu σ k0 p1 p2 p3) := by
  refine gCt_intro RX10 rfl (by decide +kernel) (fun ad v hv => by simp only [List.mem_cons, List.not_mem_nil, or_false] at hv; rcases hv with rfl | rfl | rfl | rfl <;> rfl) (fun ad => Nat.le_of_ble_eq_true rfl) (fun Γ h z => ?_)
  show At Γ 0 [some (.ref (gAd Γ.1 k0)), some (.int p1), some (.int p2), some (.int p3), none] [] σ _
  unfold f_X10_turn
  refine x_iload_n (pc := 0) (i := 1) h dX10_turn_0 rfl rfl ?_
  refine x_iconst (pc := 1) (v := 0) h dX10_turn_1 (by decide) ?_
  refine x_sipush (pc := 2) (v := 1998) h dX10_turn_2 (by decide) ?_
  refine x_Sp (pc := 5) (av := fun ad => [.int p1, .int 0, .int 1998]) (rest := []) h m_X10_in s_X10_in kl_X10_39 (c_X10_in fu σ p1 0 1998) rfl rfl (gCaM rfl) dX10_turn_5 (fun v5 => ?_)
  refine x_if_eq (pc := 8) (tgt := 36) h dX10_turn_8 (by decide) ?_ ?_
  · refine x_ldc (pc := 36) h kc_X10_50 dX10_turn_36 ?_
    exact x_ireti (pc := 38) h z .int rfl rfl dX10_turn_38
  · refine x_iload_n (pc := 11) (i := 2) h dX10_turn_11 rfl rfl ?_
    refine x_iload_n (pc := 12) (i := 1) h dX10_turn_12 rfl rfl ?_
    refine x_iconst (pc := 13) (v := 1) h dX10_turn_13 (by decide) ?_
    refine x_iadd (pc := 14) h dX10_turn_14 ?_
    refine x_sipush (pc := 15) (v := 1999) h dX10_turn_15 (by decide) ?_
    refine x_Sp (pc := 18) (av := fun ad => [.int p2, .int (p1 + 1), .int 1999]) (rest := []) h m_X10_in s_X10_in kl_X10_39 (c_X10_in fu σ p2 (p1 + 1) 1999) rfl rfl (gCaM rfl) dX10_turn_18 (fun v18 => ?_)
    refine x_if_eq (pc := 21) (tgt := 36) h dX10_turn_21 (by decide) ?_ ?_
    · refine x_ldc (pc := 36) h kc_X10_50 dX10_turn_36 ?_
      exact x_ireti (pc := 38) h z .int rfl rfl dX10_turn_38
    · refine x_iload_n (pc := 24) (i := 3) h dX10_turn_24 rfl rfl ?_
      refine x_bipush (pc := 25) (v := 50) h dX10_turn_25 (by decide) ?_
      refine x_sipush (pc := 27) (v := 500) h dX10_turn_27 (by decide) ?_
      refine x_Sp (pc := 30) (av := fun ad => [.int p3, .int 50, .int 500]) (rest := []) h m_X10_in s_X10_in kl_X10_39 (c_X10_in fu σ p3 50 500) rfl rfl (gCaM rfl) dX10_turn_30 (fun v30 => ?_)
      refine x_if_ne (pc := 33) (tgt := 39) h dX10_turn_33 (by decide) ?_ ?_
      · refine x_aload_n (pc := 39) (i := 0) h dX10_turn_39 rfl rfl ?_
        refine gf_X10_7 (pc := 40) h hk0 dX10_turn_40 ?_
        refine x_sipush (pc := 43) (v := 282) h dX10_turn_43 (by decide) ?_
        refine x_ialdS (pc := 46) h 282 (t_10_0 hk0) (by decide) (by decide) (by decide) dX10_turn_46 ?_
        refine x_bipush (pc := 47) (v := 20) h dX10_turn_47 (by decide) ?_
        refine x_icmp_ne (pc := 49) (tgt := 55) h dX10_turn_49 (by decide) ?_ ?_
        · refine x_aload_n (pc := 55) (i := 0) h dX10_turn_55 rfl rfl ?_
          refine x_Vv (pc := 56) (av := fun ad => []) (rest := []) h m_X10_changes i_X10_changes kl_X10_52 hk0 (by decide) rfl (c_X10_changes fu σ k0 hk0) rfl rfl (gCaM rfl) dX10_turn_56 (fun σ56 => ?_)
          refine x_aload_n (pc := 59) (i := 0) h dX10_turn_59 rfl rfl ?_
          refine x_iload_n (pc := 60) (i := 1) h dX10_turn_60 rfl rfl ?_
          refine x_Vi (pc := 61) (av := fun ad => [.int p1]) (rest := []) h m_X10_opens i_X10_opens kl_X10_55 hk0 (by decide) rfl (c_X10_opens fu σ56 k0 p1 hk0) rfl rfl (gCaM rfl) dX10_turn_61 (fun v61 σ61 => ?_)
          refine x_istore (pc := 64) (L' := [some (.ref (gAd Γ.1 k0)), some (.int p1), some (.int p2), some (.int p3), some (.int v61)]) h dX10_turn_64 (Nat.le_of_ble_eq_true rfl) rfl ?_
          refine x_aload_n (pc := 66) (i := 0) h dX10_turn_66 rfl rfl ?_
          refine x_iload (pc := 67) h dX10_turn_67 rfl ?_
          refine x_iconst (pc := 69) (v := 0) h dX10_turn_69 (by decide) ?_
          refine x_iload_n (pc := 70) (i := 1) h dX10_turn_70 rfl rfl ?_
          refine x_Vv (pc := 71) (av := fun ad => [.int v61, .int 0, .int p1]) (rest := []) h m_X10_sets i_X10_sets kl_X10_59 hk0 (by decide) rfl (c_X10_sets fu σ61 k0 v61 0 p1 hk0) rfl rfl (gCaM rfl) dX10_turn_71 (fun σ71 => ?_)
          refine x_aload_n (pc := 74) (i := 0) h dX10_turn_74 rfl rfl ?_
          refine x_iload (pc := 75) h dX10_turn_75 rfl ?_
          refine x_iconst (pc := 77) (v := 1) h dX10_turn_77 (by decide) ?_
          refine x_iload_n (pc := 78) (i := 2) h dX10_turn_78 rfl rfl ?_
          refine x_Vv (pc := 79) (av := fun ad => [.int v61, .int 1, .int p2]) (rest := []) h m_X10_sets i_X10_sets kl_X10_59 hk0 (by decide) rfl (c_X10_sets fu σ71 k0 v61 1 p2 hk0) rfl rfl (gCaM rfl) dX10_turn_79 (fun σ79 => ?_)
          refine x_aload_n (pc := 82) (i := 0) h dX10_turn_82 rfl rfl ?_
          refine x_iload (pc := 83) h dX10_turn_83 rfl ?_
          refine x_iconst (pc := 85) (v := 2) h dX10_turn_85 (by decide) ?_
          refine x_iload_n (pc := 86) (i := 3) h dX10_turn_86 rfl rfl ?_
          refine x_Vv (pc := 87) (av := fun ad => [.int v61, .int 2, .int p3]) (rest := []) h m_X10_sets i_X10_sets kl_X10_59 hk0 (by decide) rfl (c_X10_sets fu σ79 k0 v61 2 p3 hk0) rfl rfl (gCaM rfl) dX10_turn_87 (fun σ87 => ?_)
          refine x_aload_n (pc := 90) (i := 0) h dX10_turn_90 rfl rfl ?_
          refine x_iload (pc := 91) h dX10_turn_91 rfl ?_
          refine x_iconst (pc := 93) (v := 3) h dX10_turn_93 (by decide) ?_
          refine x_aload_n (pc := 94) (i := 0) h dX10_turn_94 rfl rfl ?_
          refine x_iload_n (pc := 95) (i := 3) h dX10_turn_95 rfl rfl ?_
          refine x_Vp (pc := 96) (av := fun ad => [.int p3]) (rest := [.int 3, .int v61, .ref (gAd Γ.1 k0)]) h m_X10_voiceFor i_X10_voiceFor kl_X10_63 hk0 (by decide) rfl (c_X10_voiceFor fu σ87 k0 p3 hk0) rfl rfl (gCaM rfl) dX10_turn_96 (fun v96 => ?_)
          refine x_Vv (pc := 99) (av := fun ad => [.int v61, .int 3, .int v96]) (rest := []) h m_X10_sets i_X10_sets kl_X10_59 hk0 (by decide) rfl (c_X10_sets fu σ87 k0 v61 3 v96 hk0) rfl rfl (gCaM rfl) dX10_turn_99 (fun σ99 => ?_)
          refine x_aload_n (pc := 102) (i := 0) h dX10_turn_102 rfl rfl ?_
          refine x_iload (pc := 103) h dX10_turn_103 rfl ?_
          refine x_iconst (pc := 105) (v := 4) h dX10_turn_105 (by decide) ?_
          refine x_iconst (pc := 106) (v := 0) h dX10_turn_106 (by decide) ?_
          refine x_Vv (pc := 107) (av := fun ad => [.int v61, .int 4, .int 0]) (rest := []) h m_X10_sets i_X10_sets kl_X10_59 hk0 (by decide) rfl (c_X10_sets fu σ99 k0 v61 4 0 hk0) rfl rfl (gCaM rfl) dX10_turn_107 (fun σ107 => ?_)
          refine x_iload (pc := 110) h dX10_turn_110 rfl ?_
          exact x_ireti (pc := 112) h z .int rfl rfl dX10_turn_112
        · refine x_ldc (pc := 52) h kc_X10_51 dX10_turn_52 ?_
          exact x_ireti (pc := 54) h z .int rfl rfl dX10_turn_54
      · refine x_ldc (pc := 36) h kc_X10_50 dX10_turn_36 ?_
        exact x_ireti (pc := 38) h z .int rfl rfl dX10_turn_38

set_option maxRecDepth 20000 in
set_option maxHeartbeats 4000000 in
theorem c_X8_has (fu : Nat) (σ : gSt) (k0 : Nat) (p1 : Int32) (hk0 : isO k0 8) : gCt yX8_has cX8_has 2 (some .boolean) 0 0 (gQp σ) (fun ad => [.ref (ad k0), .int p1]) σ (f_X8_has fu σ k0 p1) := by
  refine gCt_intro RX8 rfl (by decide +kernel) (fun ad v hv => by simp only [List.mem_cons, List.not_mem_nil, or_false] at hv; rcases hv with rfl | rfl <;> rfl) (fun ad => Nat.le_of_ble_eq_true rfl) (fun Γ h z => ?_)
  show At Γ 0 [some (.ref (gAd Γ.1 k0)), some (.int p1)] [] σ _
  unfold f_X8_has
  refine x_iload_n (pc := 0) (i := 1) h dX8_has_0 rfl rfl ?_
  refine x_if_lt (pc := 1) (tgt := 22) h dX8_has_1 (by decide) ?_ ?_
  · refine x_iconst (pc := 22) (v := 0) h dX8_has_22 (by decide) ?_
    exact x_iretp (pc := 23) h z rfl .boolean rfl rfl dX8_has_23
  · refine x_iload_n (pc := 4) (i := 1) h dX8_has_4 rfl rfl ?_
    refine x_aload_n (pc := 5) (i := 0) h dX8_has_5 rfl rfl ?_
    refine gf_X8_36 (pc := 6) h hk0 dX8_has_6 ?_
    refine x_icmp_ge (pc := 9) (tgt := 22) h dX8_has_9 (by decide) ?_ ?_
    · refine x_iconst (pc := 22) (v := 0) h dX8_has_22 (by decide) ?_
      exact x_iretp (pc := 23) h z rfl .boolean rfl rfl dX8_has_23
    · refine x_iload_n (pc := 12) (i := 1) h dX8_has_12 rfl rfl ?_
      refine x_bipush (pc := 13) (v := 20) h dX8_has_13 (by decide) ?_
      refine x_icmp_ge (pc := 15) (tgt := 22) h dX8_has_15 (by decide) ?_ ?_
      · refine x_iconst (pc := 22) (v := 0) h dX8_has_22 (by decide) ?_
        exact x_iretp (pc := 23) h z rfl .boolean rfl rfl dX8_has_23
      · refine x_iconst (pc := 18) (v := 1) h dX8_has_18 (by decide) ?_
        refine x_goto (pc := 19) (tgt := 23) h dX8_has_19 (by decide) ?_
        exact x_iretp (pc := 23) h z rfl .boolean rfl rfl dX8_has_23

set_option maxRecDepth 20000 in
set_option maxHeartbeats 4000000 in
theorem c_X0_isTerm (fu : Nat) (σ : gSt) (p0 : Int32) : gCt yX0_isTerm cX0_isTerm 1 (some .boolean) 1 22 (gQp σ) (fun ad => [.int p0]) σ (f_X0_isTerm fu σ p0) := by
  refine gCt_intro RX0 rfl (by decide +kernel) (fun ad v hv => by simp only [List.mem_cons, List.not_mem_nil, or_false] at hv; rcases hv with rfl <;> rfl) (fun ad => Nat.le_of_ble_eq_true rfl) (fun Γ h z => ?_)
  show At Γ 0 [some (.int p0)] [] σ _
  unfold f_X0_isTerm
  refine x_iload_n (pc := 0) (i := 0) h dX0_isTerm_0 rfl rfl ?_
  refine x_iconst (pc := 1) (v := 0) h dX0_isTerm_1 (by decide) ?_
  refine x_bipush (pc := 2) (v := 15) h dX0_isTerm_2 (by decide) ?_
  refine x_Np (pc := 4) (av := fun ad => [.int p0, .int 0, .int 15]) (rest := []) h m_X9_isWithin s_X9_isWithin kl_X0_27 (c_X9_isWithin fu σ p0 0 15) rfl rfl (gCaM rfl) dX0_isTerm_4 (fun v4 => ?_)
  exact x_zretp (pc := 7) h z rfl rfl dX0_isTerm_7

set_option maxRecDepth 20000 in
set_option maxHeartbeats 4000000 in
theorem c_X8_termCountOf (fu : Nat) (σ : gSt) (k0 : Nat) (p1 : Int32) (hk0 : isO k0 8) : gCt yX8_termCountOf cX8_termCountOf 2 (some .int) 1 21 (gQp σ) (fun ad => [.ref (ad k0), .int p1]) σ (f_X8_termCountOf fu σ k0 p1) := by
  refine gCt_intro RX8 rfl (by decide +kernel) (fun ad v hv => by simp only [List.mem_cons, List.not_mem_nil, or_false] at hv; rcases hv with rfl | rfl <;> rfl) (fun ad => Nat.le_of_ble_eq_true rfl) (fun Γ h z => ?_)
  show At Γ 0 [some (.ref (gAd Γ.1 k0)), some (.int p1)] [] σ _
  unfold f_X8_termCountOf
  refine x_aload_n (pc := 0) (i := 0) h dX8_termCountOf_0 rfl rfl ?_
  refine x_iload_n (pc := 1) (i := 1) h dX8_termCountOf_1 rfl rfl ?_
  refine x_Vp (pc := 2) (av := fun ad => [.int p1]) (rest := []) h m_X8_has i_X8_has kl_X8_40 hk0 (by decide) rfl (c_X8_has fu σ k0 p1 hk0) rfl rfl (gCaM rfl) dX8_termCountOf_2 (fun v2 => ?_)
  refine x_if_eq (pc := 5) (tgt := 17) h dX8_termCountOf_5 (by decide) ?_ ?_
  · refine x_iconst (pc := 17) (v := 0) h dX8_termCountOf_17 (by decide) ?_
    exact x_iretp (pc := 18) h z rfl .int rfl rfl dX8_termCountOf_18
  · refine x_aload_n (pc := 8) (i := 0) h dX8_termCountOf_8 rfl rfl ?_
    refine gf_X8_24 (pc := 9) h hk0 dX8_termCountOf_9 ?_
    refine x_iload_n (pc := 12) (i := 1) h dX8_termCountOf_12 rfl rfl ?_
    refine x_iald (pc := 13) h (t_8_4 hk0) dX8_termCountOf_13 (fun v13 => ?_)
    refine x_goto (pc := 14) (tgt := 18) h dX8_termCountOf_14 (by decide) ?_
    exact x_iretp (pc := 18) h z rfl .int rfl rfl dX8_termCountOf_18

set_option maxRecDepth 20000 in
set_option maxHeartbeats 4000000 in
theorem c_X8_isFullOfTerms (fu : Nat) (σ : gSt) (k0 : Nat) (p1 : Int32) (hk0 : isO k0 8) : gCt yX8_isFullOfTerms cX8_isFullOfTerms 2 (some .boolean) 2 42 (gQp σ) (fun ad => [.ref (ad k0), .int p1]) σ (f_X8_isFullOfTerms fu σ k0 p1) := by
  refine gCt_intro RX8 rfl (by decide +kernel) (fun ad v hv => by simp only [List.mem_cons, List.not_mem_nil, or_false] at hv; rcases hv with rfl | rfl <;> rfl) (fun ad => Nat.le_of_ble_eq_true rfl) (fun Γ h z => ?_)
  show At Γ 0 [some (.ref (gAd Γ.1 k0)), some (.int p1)] [] σ _
  unfold f_X8_isFullOfTerms
  refine x_aload_n (pc := 0) (i := 0) h dX8_isFullOfTerms_0 rfl rfl ?_
  refine x_iload_n (pc := 1) (i := 1) h dX8_isFullOfTerms_1 rfl rfl ?_
  refine x_Vp (pc := 2) (av := fun ad => [.int p1]) (rest := []) h m_X8_termCountOf i_X8_termCountOf kl_X8_56 hk0 (by decide) rfl (c_X8_termCountOf fu σ k0 p1 hk0) rfl rfl (gCaM rfl) dX8_isFullOfTerms_2 (fun v2 => ?_)
  refine x_bipush (pc := 5) (v := 8) h dX8_isFullOfTerms_5 (by decide) ?_
  refine x_icmp_lt (pc := 7) (tgt := 14) h dX8_isFullOfTerms_7 (by decide) ?_ ?_
  · refine x_iconst (pc := 14) (v := 0) h dX8_isFullOfTerms_14 (by decide) ?_
    exact x_iretp (pc := 15) h z rfl .boolean rfl rfl dX8_isFullOfTerms_15
  · refine x_iconst (pc := 10) (v := 1) h dX8_isFullOfTerms_10 (by decide) ?_
    refine x_goto (pc := 11) (tgt := 15) h dX8_isFullOfTerms_11 (by decide) ?_
    exact x_iretp (pc := 15) h z rfl .boolean rfl rfl dX8_isFullOfTerms_15

set_option maxRecDepth 20000 in
set_option maxHeartbeats 4000000 in
theorem c_X8_appendTerm (fu : Nat) (σ : gSt) (k0 : Nat) (p1 : Int32) (p2 : Int32) (hk0 : isO k0 8) : gCt yX8_appendTerm cX8_appendTerm 3 none 1 22 gQv (fun ad => [.ref (ad k0), .int p1, .int p2]) σ (f_X8_appendTerm fu σ k0 p1 p2) := by
  refine gCt_intro RX8 rfl (by decide +kernel) (fun ad v hv => by simp only [List.mem_cons, List.not_mem_nil, or_false] at hv; rcases hv with rfl | rfl | rfl <;> rfl) (fun ad => Nat.le_of_ble_eq_true rfl) (fun Γ h z => ?_)
  show At Γ 0 [some (.ref (gAd Γ.1 k0)), some (.int p1), some (.int p2)] [] σ _
  unfold f_X8_appendTerm
  refine x_aload_n (pc := 0) (i := 0) h dX8_appendTerm_0 rfl rfl ?_
  refine x_iload_n (pc := 1) (i := 1) h dX8_appendTerm_1 rfl rfl ?_
  refine x_Vp (pc := 2) (av := fun ad => [.int p1]) (rest := []) h m_X8_has i_X8_has kl_X8_40 hk0 (by decide) rfl (c_X8_has fu σ k0 p1 hk0) rfl rfl (gCaM rfl) dX8_appendTerm_2 (fun v2 => ?_)
  refine x_if_eq (pc := 5) (tgt := 50) h dX8_appendTerm_5 (by decide) ?_ ?_
  · exact x_vret (pc := 50) h z rfl dX8_appendTerm_50
  · refine x_aload_n (pc := 8) (i := 0) h dX8_appendTerm_8 rfl rfl ?_
    refine gf_X8_24 (pc := 9) h hk0 dX8_appendTerm_9 ?_
    refine x_iload_n (pc := 12) (i := 1) h dX8_appendTerm_12 rfl rfl ?_
    refine x_iald (pc := 13) h (t_8_4 hk0) dX8_appendTerm_13 (fun v13 => ?_)
    refine x_iconst (pc := 14) (v := 0) h dX8_appendTerm_14 (by decide) ?_
    refine x_bipush (pc := 15) (v := 7) h dX8_appendTerm_15 (by decide) ?_
    refine x_Np (pc := 17) (av := fun ad => [.int v13, .int 0, .int 7]) (rest := []) h m_X9_isWithin s_X9_isWithin kl_X8_59 (c_X9_isWithin fu σ v13 0 7) rfl rfl (gCaM rfl) dX8_appendTerm_17 (fun v17 => ?_)
    refine x_if_eq (pc := 20) (tgt := 50) h dX8_appendTerm_20 (by decide) ?_ ?_
    · exact x_vret (pc := 50) h z rfl dX8_appendTerm_50
    · refine x_aload_n (pc := 23) (i := 0) h dX8_appendTerm_23 rfl rfl ?_
      refine gf_X8_27 (pc := 24) h hk0 dX8_appendTerm_24 ?_
      refine x_iload_n (pc := 27) (i := 1) h dX8_appendTerm_27 rfl rfl ?_
      refine x_bipush (pc := 28) (v := 8) h dX8_appendTerm_28 (by decide) ?_
      refine x_imul (pc := 30) h dX8_appendTerm_30 ?_
      refine x_aload_n (pc := 31) (i := 0) h dX8_appendTerm_31 rfl rfl ?_
      refine gf_X8_24 (pc := 32) h hk0 dX8_appendTerm_32 ?_
      refine x_iload_n (pc := 35) (i := 1) h dX8_appendTerm_35 rfl rfl ?_
      refine x_iald (pc := 36) h (t_8_4 hk0) dX8_appendTerm_36 (fun v36 => ?_)
      refine x_iadd (pc := 37) h dX8_appendTerm_37 ?_
      refine x_iload_n (pc := 38) (i := 2) h dX8_appendTerm_38 rfl rfl ?_
      refine x_iast (pc := 39) h (t_8_5 hk0) dX8_appendTerm_39 (fun σ39 => ?_)
      refine x_aload_n (pc := 40) (i := 0) h dX8_appendTerm_40 rfl rfl ?_
      refine gf_X8_24 (pc := 41) h hk0 dX8_appendTerm_41 ?_
      refine x_iload_n (pc := 44) (i := 1) h dX8_appendTerm_44 rfl rfl ?_
      refine x_dup2 (pc := 45) h dX8_appendTerm_45 rfl rfl ?_
      refine x_iald (pc := 46) h (t_8_4 hk0) dX8_appendTerm_46 (fun v46 => ?_)
      refine x_iconst (pc := 47) (v := 1) h dX8_appendTerm_47 (by decide) ?_
      refine x_iadd (pc := 48) h dX8_appendTerm_48 ?_
      refine x_iast (pc := 49) h (t_8_4 hk0) dX8_appendTerm_49 (fun σ49 => ?_)
      exact x_vret (pc := 50) h z rfl dX8_appendTerm_50

set_option maxRecDepth 20000 in
set_option maxHeartbeats 4000000 in
theorem c_X7_addTerm (fu : Nat) (σ : gSt) (k0 : Nat) (p1 : Int32) (p2 : Int32) (hk0 : isO k0 7) : gCt yX7_addTerm cX7_addTerm 3 (some .int) 3 63 gQi (fun ad => [.ref (ad k0), .int p1, .int p2]) σ (f_X7_addTerm fu σ k0 p1 p2) := by
  refine gCt_intro RX7 rfl (by decide +kernel) (fun ad v hv => by simp only [List.mem_cons, List.not_mem_nil, or_false] at hv; rcases hv with rfl | rfl | rfl <;> rfl) (fun ad => Nat.le_of_ble_eq_true rfl) (fun Γ h z => ?_)
  show At Γ 0 [some (.ref (gAd Γ.1 k0)), some (.int p1), some (.int p2)] [] σ _
  unfold f_X7_addTerm
  refine x_aload_n (pc := 0) (i := 0) h dX7_addTerm_0 rfl rfl ?_
  refine gf_X7_12 (pc := 1) h hk0 dX7_addTerm_1 ?_
  refine x_iload_n (pc := 4) (i := 1) h dX7_addTerm_4 rfl rfl ?_
  refine x_Vp (pc := 5) (av := fun ad => [.int p1]) (rest := []) h m_X8_has i_X8_has kl_X7_64 (t_7_0 hk0) (by decide) rfl (c_X8_has fu σ (k0 + 1) p1 (t_7_0 hk0)) rfl rfl (gCaM rfl) dX7_addTerm_5 (fun v5 => ?_)
  refine x_if_eq (pc := 8) (tgt := 18) h dX7_addTerm_8 (by decide) ?_ ?_
  · refine x_ldc (pc := 18) h kc_X7_50 dX7_addTerm_18 ?_
    exact x_ireti (pc := 20) h z .int rfl rfl dX7_addTerm_20
  · refine x_iload_n (pc := 11) (i := 2) h dX7_addTerm_11 rfl rfl ?_
    refine x_Sp (pc := 12) (av := fun ad => [.int p2]) (rest := []) h m_X0_isTerm s_X0_isTerm kl_X7_67 (c_X0_isTerm fu σ p2) rfl rfl (gCaM rfl) dX7_addTerm_12 (fun v12 => ?_)
    refine x_if_ne (pc := 15) (tgt := 21) h dX7_addTerm_15 (by decide) ?_ ?_
    · refine x_aload_n (pc := 21) (i := 0) h dX7_addTerm_21 rfl rfl ?_
      refine gf_X7_12 (pc := 22) h hk0 dX7_addTerm_22 ?_
      refine x_iload_n (pc := 25) (i := 1) h dX7_addTerm_25 rfl rfl ?_
      refine x_Vp (pc := 26) (av := fun ad => [.int p1]) (rest := []) h m_X8_isFullOfTerms i_X8_isFullOfTerms kl_X7_70 (t_7_0 hk0) (by decide) rfl (c_X8_isFullOfTerms fu σ (k0 + 1) p1 (t_7_0 hk0)) rfl rfl (gCaM rfl) dX7_addTerm_26 (fun v26 => ?_)
      refine x_if_eq (pc := 29) (tgt := 35) h dX7_addTerm_29 (by decide) ?_ ?_
      · refine x_aload_n (pc := 35) (i := 0) h dX7_addTerm_35 rfl rfl ?_
        refine gf_X7_12 (pc := 36) h hk0 dX7_addTerm_36 ?_
        refine x_iload_n (pc := 39) (i := 1) h dX7_addTerm_39 rfl rfl ?_
        refine x_iload_n (pc := 40) (i := 2) h dX7_addTerm_40 rfl rfl ?_
        refine x_Vv (pc := 41) (av := fun ad => [.int p1, .int p2]) (rest := []) h m_X8_appendTerm i_X8_appendTerm kl_X7_73 (t_7_0 hk0) (by decide) rfl (c_X8_appendTerm fu σ (k0 + 1) p1 p2 (t_7_0 hk0)) rfl rfl (gCaM rfl) dX7_addTerm_41 (fun σ41 => ?_)
        refine x_aload_n (pc := 44) (i := 0) h dX7_addTerm_44 rfl rfl ?_
        refine gf_X7_12 (pc := 45) h hk0 dX7_addTerm_45 ?_
        refine x_iload_n (pc := 48) (i := 1) h dX7_addTerm_48 rfl rfl ?_
        refine x_Vp (pc := 49) (av := fun ad => [.int p1]) (rest := []) h m_X8_termCountOf i_X8_termCountOf kl_X7_77 (t_7_0 hk0) (by decide) rfl (c_X8_termCountOf fu σ41 (k0 + 1) p1 (t_7_0 hk0)) rfl rfl (gCaM rfl) dX7_addTerm_49 (fun v49 => ?_)
        exact x_ireti (pc := 52) h z .int rfl rfl dX7_addTerm_52
      · refine x_ldc (pc := 32) h kc_X7_55 dX7_addTerm_32 ?_
        exact x_ireti (pc := 34) h z .int rfl rfl dX7_addTerm_34
    · refine x_ldc (pc := 18) h kc_X7_50 dX7_addTerm_18 ?_
      exact x_ireti (pc := 20) h z .int rfl rfl dX7_addTerm_20

