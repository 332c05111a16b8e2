set_option maxRecDepth 20000 in
set_option maxHeartbeats 4000000 in
theorem c_X9_say (fu : Nat) (σ : gSt) (k0 : Nat) (p1 : Int32) (p2 : Int32) (hk0 : isO k0 9) : gCt yX9_say cX9_say 3 (some .int) 6 135 gQi (fun ad => [.ref (ad k0), .int p1, .int p2]) σ (f_X9_say fu σ k0 p1 p2) := by
  refine gCt_intro RX9 rfl (by decide +kernel) (fun ad v hv => by simp only [List.mem_cons, List.not_mem_nil, or_false] at hv; rcases hv with rfl | rfl | rfl <;> rfl) (fun ad => Nat.le_of_ble_eq_true rfl) (fun Γ h z => ?_)
  show At Γ 0 [some (.ref (gAd Γ.1 k0)), some (.int p1), some (.int p2)] [] σ _
  unfold f_X9_say
  refine x_aload_n (pc := 0) (i := 0) h dX9_say_0 rfl rfl ?_
  refine gf_X9_16 (pc := 1) h hk0 dX9_say_1 ?_
  refine x_aload_n (pc := 4) (i := 0) h dX9_say_4 rfl rfl ?_
  refine gf_X9_10 (pc := 5) h hk0 dX9_say_5 ?_
  refine x_Vv (pc := 8) (av := fun ad => [.ref (ad (k0 + 10))]) (rest := []) h m_X7_takeFrom i_X7_takeFrom kl_X9_51 (t_9_1 hk0) (by decide) rfl (c_X7_takeFrom fu σ (k0 + 22) (k0 + 10) (t_9_1 hk0) (t_9_0 hk0)) rfl rfl (gCaM rfl) dX9_say_8 (fun σ8 => ?_)
  refine x_aload_n (pc := 11) (i := 0) h dX9_say_11 rfl rfl ?_
  refine x_aload_n (pc := 12) (i := 0) h dX9_say_12 rfl rfl ?_
  refine gf_X9_10 (pc := 13) h hk0 dX9_say_13 ?_
  refine x_iload_n (pc := 16) (i := 1) h dX9_say_16 rfl rfl ?_
  refine x_iload_n (pc := 17) (i := 2) h dX9_say_17 rfl rfl ?_
  refine x_Vi (pc := 18) (av := fun ad => [.int p1, .int p2]) (rest := [.ref (gAd Γ.1 k0)]) h m_X7_addTerm i_X7_addTerm kl_X9_62 (t_9_0 hk0) (by decide) rfl (c_X7_addTerm fu σ8 (k0 + 10) p1 p2 (t_9_0 hk0)) rfl rfl (gCaM rfl) dX9_say_18 (fun v18 σ18 => ?_)
  refine x_Vi (pc := 21) (av := fun ad => [.int v18]) (rest := []) h m_X9_recorded i_X9_recorded kl_X9_58 hk0 (by decide) rfl (c_X9_recorded fu σ18 k0 v18 hk0) rfl rfl (gCaM rfl) dX9_say_21 (fun v21 σ21 => ?_)
  exact x_ireti (pc := 24) h z .int rfl rfl dX9_say_24

set_option maxRecDepth 20000 in
set_option maxHeartbeats 4000000 in
theorem c_X10_isTurn (fu : Nat) (σ : gSt) (k0 : Nat) (p1 : Int32) (hk0 : isO k0 10) : gCt yX10_isTurn cX10_isTurn 2 (some .boolean) 0 0 (gQp σ) (fun ad => [.ref (ad k0), .int p1]) σ (f_X10_isTurn fu σ k0 p1) := by
  refine gCt_intro RX10 rfl (by decide +kernel) (fun ad v hv => by simp only [List.mem_cons, List.not_mem_nil, or_false] at hv; rcases hv with rfl | rfl <;> rfl) (fun ad => Nat.le_of_ble_eq_true rfl) (fun Γ h z => ?_)
  show At Γ 0 [some (.ref (gAd Γ.1 k0)), some (.int p1)] [] σ _
  unfold f_X10_isTurn
  refine x_iload_n (pc := 0) (i := 1) h dX10_isTurn_0 rfl rfl ?_
  refine x_if_lt (pc := 1) (tgt := 20) h dX10_isTurn_1 (by decide) ?_ ?_
  · refine x_iconst (pc := 20) (v := 0) h dX10_isTurn_20 (by decide) ?_
    exact x_iretp (pc := 21) h z rfl .boolean rfl rfl dX10_isTurn_21
  · refine x_iload_n (pc := 4) (i := 1) h dX10_isTurn_4 rfl rfl ?_
    refine x_aload_n (pc := 5) (i := 0) h dX10_isTurn_5 rfl rfl ?_
    refine gf_X10_7 (pc := 6) h hk0 dX10_isTurn_6 ?_
    refine x_sipush (pc := 9) (v := 282) h dX10_isTurn_9 (by decide) ?_
    refine x_ialdS (pc := 12) h 282 (t_10_0 hk0) (by decide) (by decide) (by decide) dX10_isTurn_12 ?_
    refine x_icmp_ge (pc := 13) (tgt := 20) h dX10_isTurn_13 (by decide) ?_ ?_
    · refine x_iconst (pc := 20) (v := 0) h dX10_isTurn_20 (by decide) ?_
      exact x_iretp (pc := 21) h z rfl .boolean rfl rfl dX10_isTurn_21
    · refine x_iconst (pc := 16) (v := 1) h dX10_isTurn_16 (by decide) ?_
      refine x_goto (pc := 17) (tgt := 21) h dX10_isTurn_17 (by decide) ?_
      exact x_iretp (pc := 21) h z rfl .boolean rfl rfl dX10_isTurn_21

set_option maxRecDepth 20000 in
set_option maxHeartbeats 4000000 in
theorem c_X10_isTerm (fu : Nat) (σ : gSt) (p0 : Int32) : gCt yX10_isTerm cX10_isTerm 1 (some .boolean) 1 22 (gQp σ) (fun ad => [.int p0]) σ (f_X10_isTerm fu σ p0) := by
  refine gCt_intro RX10 rfl (by decide +kernel) (fun ad v hv => by simp only [List.mem_cons, List.not_mem_nil, or_false] at hv; rcases hv with rfl <;> rfl) (fun ad => Nat.le_of_ble_eq_true rfl) (fun Γ h z => ?_)
  show At Γ 0 [some (.int p0)] [] σ _
  unfold f_X10_isTerm
  refine x_iload_n (pc := 0) (i := 0) h dX10_isTerm_0 rfl rfl ?_
  refine x_iconst (pc := 1) (v := 0) h dX10_isTerm_1 (by decide) ?_
  refine x_bipush (pc := 2) (v := 15) h dX10_isTerm_2 (by decide) ?_
  refine x_Sp (pc := 4) (av := fun ad => [.int p0, .int 0, .int 15]) (rest := []) h m_X10_in s_X10_in kl_X10_39 (c_X10_in fu σ p0 0 15) rfl rfl (gCaM rfl) dX10_isTerm_4 (fun v4 => ?_)
  exact x_zretp (pc := 7) h z rfl rfl dX10_isTerm_7

set_option maxRecDepth 20000 in
set_option maxHeartbeats 4000000 in
theorem c_X10_say (fu : Nat) (σ : gSt) (k0 : Nat) (p1 : Int32) (p2 : Int32) (hk0 : isO k0 10) : gCt yX10_say cX10_say 4 (some .int) 2 42 gQi (fun ad => [.ref (ad k0), .int p1, .int p2]) σ (f_X10_say fu σ k0 p1 p2) := by
  refine gCt_intro RX10 rfl (by decide +kernel) (fun ad v hv => by simp only [List.mem_cons, List.not_mem_nil, or_false] at hv; rcases hv with rfl | rfl | rfl <;> rfl) (fun ad => Nat.le_of_ble_eq_true rfl) (fun Γ h z => ?_)
  show At Γ 0 [some (.ref (gAd Γ.1 k0)), some (.int p1), some (.int p2), none] [] σ _
  unfold f_X10_say
  refine x_aload_n (pc := 0) (i := 0) h dX10_say_0 rfl rfl ?_
  refine x_iload_n (pc := 1) (i := 1) h dX10_say_1 rfl rfl ?_
  refine x_Vp (pc := 2) (av := fun ad => [.int p1]) (rest := []) h m_X10_isTurn i_X10_isTurn kl_X10_66 hk0 (by decide) rfl (c_X10_isTurn fu σ k0 p1 hk0) rfl rfl (gCaM rfl) dX10_say_2 (fun v2 => ?_)
  refine x_if_eq (pc := 5) (tgt := 15) h dX10_say_5 (by decide) ?_ ?_
  · refine x_ldc (pc := 15) h kc_X10_50 dX10_say_15 ?_
    exact x_ireti (pc := 17) h z .int rfl rfl dX10_say_17
  · refine x_iload_n (pc := 8) (i := 2) h dX10_say_8 rfl rfl ?_
    refine x_Sp (pc := 9) (av := fun ad => [.int p2]) (rest := []) h m_X10_isTerm s_X10_isTerm kl_X10_70 (c_X10_isTerm fu σ p2) rfl rfl (gCaM rfl) dX10_say_9 (fun v9 => ?_)
    refine x_if_ne (pc := 12) (tgt := 18) h dX10_say_12 (by decide) ?_ ?_
    · refine x_aload_n (pc := 18) (i := 0) h dX10_say_18 rfl rfl ?_
      refine x_iload_n (pc := 19) (i := 1) h dX10_say_19 rfl rfl ?_
      refine x_iconst (pc := 20) (v := 4) h dX10_say_20 (by decide) ?_
      refine x_Vp (pc := 21) (av := fun ad => [.int p1, .int 4]) (rest := []) h m_X10_of i_X10_of kl_X10_47 hk0 (by decide) rfl (c_X10_of fu σ k0 p1 4 hk0) rfl rfl (gCaM rfl) dX10_say_21 (fun v21 => ?_)
      refine x_istore_n (pc := 24) (i := 3) (L' := [some (.ref (gAd Γ.1 k0)), some (.int p1), some (.int p2), some (.int v21)]) h dX10_say_24 rfl (Nat.le_of_ble_eq_true rfl) rfl ?_
      refine x_iload_n (pc := 25) (i := 3) h dX10_say_25 rfl rfl ?_
      refine x_bipush (pc := 26) (v := 8) h dX10_say_26 (by decide) ?_
      refine x_icmp_ne (pc := 28) (tgt := 34) h dX10_say_28 (by decide) ?_ ?_
      · refine x_aload_n (pc := 34) (i := 0) h dX10_say_34 rfl rfl ?_
        refine x_Vv (pc := 35) (av := fun ad => []) (rest := []) h m_X10_changes i_X10_changes kl_X10_52 hk0 (by decide) rfl (c_X10_changes fu σ k0 hk0) rfl rfl (gCaM rfl) dX10_say_35 (fun σ35 => ?_)
        refine x_aload_n (pc := 38) (i := 0) h dX10_say_38 rfl rfl ?_
        refine x_iload_n (pc := 39) (i := 1) h dX10_say_39 rfl rfl ?_
        refine x_iconst (pc := 40) (v := 5) h dX10_say_40 (by decide) ?_
        refine x_iload_n (pc := 41) (i := 3) h dX10_say_41 rfl rfl ?_
        refine x_iadd (pc := 42) h dX10_say_42 ?_
        refine x_iload_n (pc := 43) (i := 2) h dX10_say_43 rfl rfl ?_
        refine x_Vv (pc := 44) (av := fun ad => [.int p1, .int (5 + v21), .int p2]) (rest := []) h m_X10_sets i_X10_sets kl_X10_59 hk0 (by decide) rfl (c_X10_sets fu σ35 k0 p1 (5 + v21) p2 hk0) rfl rfl (gCaM rfl) dX10_say_44 (fun σ44 => ?_)
        refine x_aload_n (pc := 47) (i := 0) h dX10_say_47 rfl rfl ?_
        refine x_iload_n (pc := 48) (i := 1) h dX10_say_48 rfl rfl ?_
        refine x_iconst (pc := 49) (v := 4) h dX10_say_49 (by decide) ?_
        refine x_iload_n (pc := 50) (i := 3) h dX10_say_50 rfl rfl ?_
        refine x_iconst (pc := 51) (v := 1) h dX10_say_51 (by decide) ?_
        refine x_iadd (pc := 52) h dX10_say_52 ?_
        refine x_Vv (pc := 53) (av := fun ad => [.int p1, .int 4, .int (v21 + 1)]) (rest := []) h m_X10_sets i_X10_sets kl_X10_59 hk0 (by decide) rfl (c_X10_sets fu σ44 k0 p1 4 (v21 + 1) hk0) rfl rfl (gCaM rfl) dX10_say_53 (fun σ53 => ?_)
        refine x_iload_n (pc := 56) (i := 3) h dX10_say_56 rfl rfl ?_
        refine x_iconst (pc := 57) (v := 1) h dX10_say_57 (by decide) ?_
        refine x_iadd (pc := 58) h dX10_say_58 ?_
        exact x_ireti (pc := 59) h z .int rfl rfl dX10_say_59
      · refine x_ldc (pc := 31) h kc_X10_51 dX10_say_31 ?_
        exact x_ireti (pc := 33) h z .int rfl rfl dX10_say_33
    · refine x_ldc (pc := 15) h kc_X10_50 dX10_say_15 ?_
      exact x_ireti (pc := 17) h z .int rfl rfl dX10_say_17

set_option maxRecDepth 20000 in
set_option maxHeartbeats 4000000 in
theorem c_X8_beginOf (fu : Nat) (σ : gSt) (k0 : Nat) (p1 : Int32) (hk0 : isO k0 8) : gCt yX8_beginOf cX8_beginOf 2 (some .int) 1 21 (gQp σ) (fun ad => [.ref (ad k0), .int p1]) σ (f_X8_beginOf fu σ k0 p1) := by
  refine gCt_intro RX8 rfl (by decide +kernel) (fun ad v hv => by simp only [List.mem_cons, List.not_mem_nil, or_false] at hv; rcases hv with rfl | rfl <;> rfl) (fun ad => Nat.le_of_ble_eq_true rfl) (fun Γ h z => ?_)
  show At Γ 0 [some (.ref (gAd Γ.1 k0)), some (.int p1)] [] σ _
  unfold f_X8_beginOf
  refine x_aload_n (pc := 0) (i := 0) h dX8_beginOf_0 rfl rfl ?_
  refine x_iload_n (pc := 1) (i := 1) h dX8_beginOf_1 rfl rfl ?_
  refine x_Vp (pc := 2) (av := fun ad => [.int p1]) (rest := []) h m_X8_has i_X8_has kl_X8_40 hk0 (by decide) rfl (c_X8_has fu σ k0 p1 hk0) rfl rfl (gCaM rfl) dX8_beginOf_2 (fun v2 => ?_)
  refine x_if_eq (pc := 5) (tgt := 17) h dX8_beginOf_5 (by decide) ?_ ?_
  · refine x_iconst (pc := 17) (v := 0) h dX8_beginOf_17 (by decide) ?_
    exact x_iretp (pc := 18) h z rfl .int rfl rfl dX8_beginOf_18
  · refine x_aload_n (pc := 8) (i := 0) h dX8_beginOf_8 rfl rfl ?_
    refine gf_X8_9 (pc := 9) h hk0 dX8_beginOf_9 ?_
    refine x_iload_n (pc := 12) (i := 1) h dX8_beginOf_12 rfl rfl ?_
    refine x_iald (pc := 13) h (t_8_0 hk0) dX8_beginOf_13 (fun v13 => ?_)
    refine x_goto (pc := 14) (tgt := 18) h dX8_beginOf_14 (by decide) ?_
    exact x_iretp (pc := 18) h z rfl .int rfl rfl dX8_beginOf_18

set_option maxRecDepth 20000 in
set_option maxHeartbeats 4000000 in
theorem c_X8_endOf (fu : Nat) (σ : gSt) (k0 : Nat) (p1 : Int32) (hk0 : isO k0 8) : gCt yX8_endOf cX8_endOf 2 (some .int) 1 21 (gQp σ) (fun ad => [.ref (ad k0), .int p1]) σ (f_X8_endOf fu σ k0 p1) := by
  refine gCt_intro RX8 rfl (by decide +kernel) (fun ad v hv => by simp only [List.mem_cons, List.not_mem_nil, or_false] at hv; rcases hv with rfl | rfl <;> rfl) (fun ad => Nat.le_of_ble_eq_true rfl) (fun Γ h z => ?_)
  show At Γ 0 [some (.ref (gAd Γ.1 k0)), some (.int p1)] [] σ _
  unfold f_X8_endOf
  refine x_aload_n (pc := 0) (i := 0) h dX8_endOf_0 rfl rfl ?_
  refine x_iload_n (pc := 1) (i := 1) h dX8_endOf_1 rfl rfl ?_
  refine x_Vp (pc := 2) (av := fun ad => [.int p1]) (rest := []) h m_X8_has i_X8_has kl_X8_40 hk0 (by decide) rfl (c_X8_has fu σ k0 p1 hk0) rfl rfl (gCaM rfl) dX8_endOf_2 (fun v2 => ?_)
  refine x_if_eq (pc := 5) (tgt := 17) h dX8_endOf_5 (by decide) ?_ ?_
  · refine x_iconst (pc := 17) (v := 0) h dX8_endOf_17 (by decide) ?_
    exact x_iretp (pc := 18) h z rfl .int rfl rfl dX8_endOf_18
  · refine x_aload_n (pc := 8) (i := 0) h dX8_endOf_8 rfl rfl ?_
    refine gf_X8_15 (pc := 9) h hk0 dX8_endOf_9 ?_
    refine x_iload_n (pc := 12) (i := 1) h dX8_endOf_12 rfl rfl ?_
    refine x_iald (pc := 13) h (t_8_1 hk0) dX8_endOf_13 (fun v13 => ?_)
    refine x_goto (pc := 14) (tgt := 18) h dX8_endOf_14 (by decide) ?_
    exact x_iretp (pc := 18) h z rfl .int rfl rfl dX8_endOf_18

set_option maxRecDepth 20000 in
set_option maxHeartbeats 4000000 in
theorem c_X8_pitchOf (fu : Nat) (σ : gSt) (k0 : Nat) (p1 : Int32) (hk0 : isO k0 8) : gCt yX8_pitchOf cX8_pitchOf 2 (some .int) 1 21 (gQp σ) (fun ad => [.ref (ad k0), .int p1]) σ (f_X8_pitchOf fu σ k0 p1) := by
  refine gCt_intro RX8 rfl (by decide +kernel) (fun ad v hv => by simp only [List.mem_cons, List.not_mem_nil, or_false] at hv; rcases hv with rfl | rfl <;> rfl) (fun ad => Nat.le_of_ble_eq_true rfl) (fun Γ h z => ?_)
  show At Γ 0 [some (.ref (gAd Γ.1 k0)), some (.int p1)] [] σ _
  unfold f_X8_pitchOf
  refine x_aload_n (pc := 0) (i := 0) h dX8_pitchOf_0 rfl rfl ?_
  refine x_iload_n (pc := 1) (i := 1) h dX8_pitchOf_1 rfl rfl ?_
  refine x_Vp (pc := 2) (av := fun ad => [.int p1]) (rest := []) h m_X8_has i_X8_has kl_X8_40 hk0 (by decide) rfl (c_X8_has fu σ k0 p1 hk0) rfl rfl (gCaM rfl) dX8_pitchOf_2 (fun v2 => ?_)
  refine x_if_eq (pc := 5) (tgt := 17) h dX8_pitchOf_5 (by decide) ?_ ?_
  · refine x_iconst (pc := 17) (v := 0) h dX8_pitchOf_17 (by decide) ?_
    exact x_iretp (pc := 18) h z rfl .int rfl rfl dX8_pitchOf_18
  · refine x_aload_n (pc := 8) (i := 0) h dX8_pitchOf_8 rfl rfl ?_
    refine gf_X8_18 (pc := 9) h hk0 dX8_pitchOf_9 ?_
    refine x_iload_n (pc := 12) (i := 1) h dX8_pitchOf_12 rfl rfl ?_
    refine x_iald (pc := 13) h (t_8_2 hk0) dX8_pitchOf_13 (fun v13 => ?_)
    refine x_goto (pc := 14) (tgt := 18) h dX8_pitchOf_14 (by decide) ?_
    exact x_iretp (pc := 18) h z rfl .int rfl rfl dX8_pitchOf_18

set_option maxRecDepth 20000 in
set_option maxHeartbeats 4000000 in
theorem c_X8_ownerOf (fu : Nat) (σ : gSt) (k0 : Nat) (p1 : Int32) (hk0 : isO k0 8) : gCt yX8_ownerOf cX8_ownerOf 2 (some .int) 1 21 (gQp σ) (fun ad => [.ref (ad k0), .int p1]) σ (f_X8_ownerOf fu σ k0 p1) := by
  refine gCt_intro RX8 rfl (by decide +kernel) (fun ad v hv => by simp only [List.mem_cons, List.not_mem_nil, or_false] at hv; rcases hv with rfl | rfl <;> rfl) (fun ad => Nat.le_of_ble_eq_true rfl) (fun Γ h z => ?_)
  show At Γ 0 [some (.ref (gAd Γ.1 k0)), some (.int p1)] [] σ _
  unfold f_X8_ownerOf
  refine x_aload_n (pc := 0) (i := 0) h dX8_ownerOf_0 rfl rfl ?_
  refine x_iload_n (pc := 1) (i := 1) h dX8_ownerOf_1 rfl rfl ?_
  refine x_Vp (pc := 2) (av := fun ad => [.int p1]) (rest := []) h m_X8_has i_X8_has kl_X8_40 hk0 (by decide) rfl (c_X8_has fu σ k0 p1 hk0) rfl rfl (gCaM rfl) dX8_ownerOf_2 (fun v2 => ?_)
  refine x_if_eq (pc := 5) (tgt := 17) h dX8_ownerOf_5 (by decide) ?_ ?_
  · refine x_iconst (pc := 17) (v := (-1)) h dX8_ownerOf_17 (by decide) ?_
    exact x_iretp (pc := 18) h z rfl .int rfl rfl dX8_ownerOf_18
  · refine x_aload_n (pc := 8) (i := 0) h dX8_ownerOf_8 rfl rfl ?_
    refine gf_X8_21 (pc := 9) h hk0 dX8_ownerOf_9 ?_
    refine x_iload_n (pc := 12) (i := 1) h dX8_ownerOf_12 rfl rfl ?_
    refine x_iald (pc := 13) h (t_8_3 hk0) dX8_ownerOf_13 (fun v13 => ?_)
    refine x_goto (pc := 14) (tgt := 18) h dX8_ownerOf_14 (by decide) ?_
    exact x_iretp (pc := 18) h z rfl .int rfl rfl dX8_ownerOf_18

set_option maxRecDepth 20000 in
set_option maxHeartbeats 4000000 in
theorem c_X8_toldTerm (fu : Nat) (σ : gSt) (k0 : Nat) (p1 : Int32) (p2 : Int32) (hk0 : isO k0 8) : gCt yX8_toldTerm cX8_toldTerm 3 (some .int) 1 21 (gQp σ) (fun ad => [.ref (ad k0), .int p1, .int p2]) σ (f_X8_toldTerm fu σ k0 p1 p2) := by
  refine gCt_intro RX8 rfl (by decide +kernel) (fun ad v hv => by simp only [List.mem_cons, List.not_mem_nil, or_false] at hv; rcases hv with rfl | rfl | rfl <;> rfl) (fun ad => Nat.le_of_ble_eq_true rfl) (fun Γ h z => ?_)
  show At Γ 0 [some (.ref (gAd Γ.1 k0)), some (.int p1), some (.int p2)] [] σ _
  unfold f_X8_toldTerm
  refine x_aload_n (pc := 0) (i := 0) h dX8_toldTerm_0 rfl rfl ?_
  refine x_iload_n (pc := 1) (i := 1) h dX8_toldTerm_1 rfl rfl ?_
  refine x_Vp (pc := 2) (av := fun ad => [.int p1]) (rest := []) h m_X8_has i_X8_has kl_X8_40 hk0 (by decide) rfl (c_X8_has fu σ k0 p1 hk0) rfl rfl (gCaM rfl) dX8_toldTerm_2 (fun v2 => ?_)
  refine x_if_eq (pc := 5) (tgt := 42) h dX8_toldTerm_5 (by decide) ?_ ?_
  · refine x_iconst (pc := 42) (v := (-1)) h dX8_toldTerm_42 (by decide) ?_
    exact x_iretp (pc := 43) h z rfl .int rfl rfl dX8_toldTerm_43
  · refine x_iload_n (pc := 8) (i := 2) h dX8_toldTerm_8 rfl rfl ?_
    refine x_if_lt (pc := 9) (tgt := 42) h dX8_toldTerm_9 (by decide) ?_ ?_
    · refine x_iconst (pc := 42) (v := (-1)) h dX8_toldTerm_42 (by decide) ?_
      exact x_iretp (pc := 43) h z rfl .int rfl rfl dX8_toldTerm_43
    · refine x_iload_n (pc := 12) (i := 2) h dX8_toldTerm_12 rfl rfl ?_
      refine x_aload_n (pc := 13) (i := 0) h dX8_toldTerm_13 rfl rfl ?_
      refine gf_X8_24 (pc := 14) h hk0 dX8_toldTerm_14 ?_
      refine x_iload_n (pc := 17) (i := 1) h dX8_toldTerm_17 rfl rfl ?_
      refine x_iald (pc := 18) h (t_8_4 hk0) dX8_toldTerm_18 (fun v18 => ?_)
      refine x_icmp_ge (pc := 19) (tgt := 42) h dX8_toldTerm_19 (by decide) ?_ ?_
      · refine x_iconst (pc := 42) (v := (-1)) h dX8_toldTerm_42 (by decide) ?_
        exact x_iretp (pc := 43) h z rfl .int rfl rfl dX8_toldTerm_43
      · refine x_iload_n (pc := 22) (i := 2) h dX8_toldTerm_22 rfl rfl ?_
        refine x_bipush (pc := 23) (v := 8) h dX8_toldTerm_23 (by decide) ?_
        refine x_icmp_ge (pc := 25) (tgt := 42) h dX8_toldTerm_25 (by decide) ?_ ?_
        · refine x_iconst (pc := 42) (v := (-1)) h dX8_toldTerm_42 (by decide) ?_
          exact x_iretp (pc := 43) h z rfl .int rfl rfl dX8_toldTerm_43
        · refine x_aload_n (pc := 28) (i := 0) h dX8_toldTerm_28 rfl rfl ?_
          refine gf_X8_27 (pc := 29) h hk0 dX8_toldTerm_29 ?_
          refine x_iload_n (pc := 32) (i := 1) h dX8_toldTerm_32 rfl rfl ?_
          refine x_bipush (pc := 33) (v := 8) h dX8_toldTerm_33 (by decide) ?_
          refine x_imul (pc := 35) h dX8_toldTerm_35 ?_
          refine x_iload_n (pc := 36) (i := 2) h dX8_toldTerm_36 rfl rfl ?_
          refine x_iadd (pc := 37) h dX8_toldTerm_37 ?_
          refine x_iald (pc := 38) h (t_8_5 hk0) dX8_toldTerm_38 (fun v38 => ?_)
          refine x_goto (pc := 39) (tgt := 43) h dX8_toldTerm_39 (by decide) ?_
          exact x_iretp (pc := 43) h z rfl .int rfl rfl dX8_toldTerm_43

set_option maxRecDepth 20000 in
set_option maxHeartbeats 4000000 in
theorem f_X8_passTerms_L29_at (fu : Nat) (k0 : Nat) (p1 : Int32) (p2 : Int32) (p3 : Int32) (x4 : Int32) (ag29 : Int32 → gSt → Option (gSt)) {Γ : gX (gSt)} (h : gOk Γ cX8_passTerms 6 RX8 none 2 44) (z : gEnd Γ gQv) (hk0 : isO k0 8) (hg29 : ∀ (y5 : Int32) (τ : gSt), At Γ 29 [some (.ref (gAd Γ.1 k0)), some (.int p1), some (.int p2), some (.int p3), some (.int x4), some (.int y5)] [] τ (ag29 y5 τ)) (x5 : Int32) (σ : gSt) : At Γ 29 [some (.ref (gAd Γ.1 k0)), some (.int p1), some (.int p2), some (.int p3), some (.int x4), some (.int x5)] [] σ (f_X8_passTerms_L29 fu k0 p1 p2 p3 x4 ag29 x5 σ) := by
  unfold f_X8_passTerms_L29
  refine x_iload (pc := 29) h dX8_passTerms_29 rfl ?_
  refine x_iload (pc := 31) h dX8_passTerms_31 rfl ?_
  refine x_icmp_ge (pc := 33) (tgt := 54) h dX8_passTerms_33 (by decide) ?_ ?_
  · refine x_aload_n (pc := 54) (i := 0) h dX8_passTerms_54 rfl rfl ?_
    refine gf_X8_24 (pc := 55) h hk0 dX8_passTerms_55 ?_
    refine x_iload_n (pc := 58) (i := 1) h dX8_passTerms_58 rfl rfl ?_
    refine x_iload_n (pc := 59) (i := 2) h dX8_passTerms_59 rfl rfl ?_
    refine x_iast (pc := 60) h (t_8_4 hk0) dX8_passTerms_60 (fun σ60 => ?_)
    exact x_vret (pc := 61) h z rfl dX8_passTerms_61
  · refine x_aload_n (pc := 36) (i := 0) h dX8_passTerms_36 rfl rfl ?_
    refine x_iload_n (pc := 37) (i := 3) h dX8_passTerms_37 rfl rfl ?_
    refine x_aload_n (pc := 38) (i := 0) h dX8_passTerms_38 rfl rfl ?_
    refine x_iload_n (pc := 39) (i := 1) h dX8_passTerms_39 rfl rfl ?_
    refine x_iload (pc := 40) h dX8_passTerms_40 rfl ?_
    refine x_Vp (pc := 42) (av := fun ad => [.int p1, .int x5]) (rest := [.int p3, .ref (gAd Γ.1 k0)]) h m_X8_toldTerm i_X8_toldTerm kl_X8_63 hk0 (by decide) rfl (c_X8_toldTerm fu σ k0 p1 x5 hk0) rfl rfl (gCaM rfl) dX8_passTerms_42 (fun v42 => ?_)
    refine x_Vv (pc := 45) (av := fun ad => [.int p3, .int v42]) (rest := []) h m_X8_appendTerm i_X8_appendTerm kl_X8_67 hk0 (by decide) rfl (c_X8_appendTerm fu σ k0 p3 v42 hk0) rfl rfl (gCaM rfl) dX8_passTerms_45 (fun σ45 => ?_)
    refine x_iinc (pc := 48) (i := 5) (v := (x5 + 1)) (L' := [some (.ref (gAd Γ.1 k0)), some (.int p1), some (.int p2), some (.int p3), some (.int x4), some (.int (x5 + 1))]) h dX8_passTerms_48 rfl rfl rfl ?_
    refine x_goto (pc := 51) (tgt := 29) h dX8_passTerms_51 (by decide) ?_
    exact At.mask [true, true, true, true, true, true] rfl rfl (hg29 (x5 + 1) σ45)

theorem f_X8_passTerms_W29_at (fu : Nat) (k0 : Nat) (p1 : Int32) (p2 : Int32) (p3 : Int32) (x4 : Int32) {Γ : gX (gSt)} (h : gOk Γ cX8_passTerms 6 RX8 none 2 44) (z : gEnd Γ gQv) (hk0 : isO k0 8) : ∀ (n : Nat) (x5 : Int32) (σ : gSt), At Γ 29 [some (.ref (gAd Γ.1 k0)), some (.int p1), some (.int p2), some (.int p3), some (.int x4), some (.int x5)] [] σ (f_X8_passTerms_W29 fu k0 p1 p2 p3 x4 n x5 σ) := by
  intro n
  induction n with
  | zero => intro x5 σ r hr; cases hr
  | succ n ih =>
    intro x5 σ
    exact f_X8_passTerms_L29_at fu k0 p1 p2 p3 x4 (f_X8_passTerms_W29 fu k0 p1 p2 p3 x4 n) h z hk0 ih x5 σ

set_option maxRecDepth 20000 in
set_option maxHeartbeats 4000000 in
theorem c_X8_passTerms (fu : Nat) (σ : gSt) (k0 : Nat) (p1 : Int32) (p2 : Int32) (p3 : Int32) (hk0 : isO k0 8) : gCt yX8_passTerms cX8_passTerms 6 none 2 44 gQv (fun ad => [.ref (ad k0), .int p1, .int p2, .int p3]) σ (f_X8_passTerms fu σ k0 p1 p2 p3) := by
  refine gCt_intro RX8 rfl (by decide +kernel) (fun ad v hv => by simp only [List.mem_cons, List.not_mem_nil, or_false] at hv; rcases hv with rfl | rfl | rfl | rfl <;> rfl) (fun ad => Nat.le_of_ble_eq_true rfl) (fun Γ h z => ?_)
  show At Γ 0 [some (.ref (gAd Γ.1 k0)), some (.int p1), some (.int p2), some (.int p3), none, none] [] σ _
  unfold f_X8_passTerms
  refine x_aload_n (pc := 0) (i := 0) h dX8_passTerms_0 rfl rfl ?_
  refine x_iload_n (pc := 1) (i := 1) h dX8_passTerms_1 rfl rfl ?_
  refine x_Vp (pc := 2) (av := fun ad => [.int p1]) (rest := []) h m_X8_termCountOf i_X8_termCountOf kl_X8_56 hk0 (by decide) rfl (c_X8_termCountOf fu σ k0 p1 hk0) rfl rfl (gCaM rfl) dX8_passTerms_2 (fun v2 => ?_)
  refine x_istore (pc := 5) (L' := [some (.ref (gAd Γ.1 k0)), some (.int p1), some (.int p2), some (.int p3), some (.int v2), none]) h dX8_passTerms_5 (Nat.le_of_ble_eq_true rfl) rfl ?_
  refine x_aload_n (pc := 7) (i := 0) h dX8_passTerms_7 rfl rfl ?_
  refine x_iload_n (pc := 8) (i := 1) h dX8_passTerms_8 rfl rfl ?_
  refine x_Vp (pc := 9) (av := fun ad => [.int p1]) (rest := []) h m_X8_has i_X8_has kl_X8_40 hk0 (by decide) rfl (c_X8_has fu σ k0 p1 hk0) rfl rfl (gCaM rfl) dX8_passTerms_9 (fun v9 => ?_)
  refine x_if_eq (pc := 12) (tgt := 25) h dX8_passTerms_12 (by decide) ?_ ?_
  · exact x_vret (pc := 25) h z rfl dX8_passTerms_25
  · refine x_iload_n (pc := 15) (i := 2) h dX8_passTerms_15 rfl rfl ?_
    refine x_iconst (pc := 16) (v := 0) h dX8_passTerms_16 (by decide) ?_
    refine x_iload (pc := 17) h dX8_passTerms_17 rfl ?_
    refine x_Np (pc := 19) (av := fun ad => [.int p2, .int 0, .int v2]) (rest := []) h m_X9_isWithin s_X9_isWithin kl_X8_59 (c_X9_isWithin fu σ p2 0 v2) rfl rfl (gCaM rfl) dX8_passTerms_19 (fun v19 => ?_)
    refine x_if_ne (pc := 22) (tgt := 26) h dX8_passTerms_22 (by decide) ?_ ?_
    · refine x_iload_n (pc := 26) (i := 2) h dX8_passTerms_26 rfl rfl ?_
      refine x_istore (pc := 27) (L' := [some (.ref (gAd Γ.1 k0)), some (.int p1), some (.int p2), some (.int p3), some (.int v2), some (.int p2)]) h dX8_passTerms_27 (Nat.le_of_ble_eq_true rfl) rfl ?_
      exact At.mask [true, true, true, true, true, true] rfl rfl (f_X8_passTerms_W29_at fu k0 p1 p2 p3 v2 h z hk0 fu p2 σ)
    · exact x_vret (pc := 25) h z rfl dX8_passTerms_25

set_option maxRecDepth 20000 in
set_option maxHeartbeats 4000000 in
theorem c_X8_endAt (fu : Nat) (σ : gSt) (k0 : Nat) (p1 : Int32) (p2 : Int32) (hk0 : isO k0 8) : gCt yX8_endAt cX8_endAt 3 none 1 21 gQv (fun ad => [.ref (ad k0), .int p1, .int p2]) σ (f_X8_endAt fu σ k0 p1 p2) := by
  refine gCt_intro RX8 rfl (by decide +kernel) (fun ad v hv => by simp only [List.mem_cons, List.not_mem_nil, or_false] at hv; rcases hv with rfl | rfl | rfl <;> rfl) (fun ad => Nat.le_of_ble_eq_true rfl) (fun Γ h z => ?_)
  show At Γ 0 [some (.ref (gAd Γ.1 k0)), some (.int p1), some (.int p2)] [] σ _
  unfold f_X8_endAt
  refine x_aload_n (pc := 0) (i := 0) h dX8_endAt_0 rfl rfl ?_
  refine x_iload_n (pc := 1) (i := 1) h dX8_endAt_1 rfl rfl ?_
  refine x_Vp (pc := 2) (av := fun ad => [.int p1]) (rest := []) h m_X8_has i_X8_has kl_X8_40 hk0 (by decide) rfl (c_X8_has fu σ k0 p1 hk0) rfl rfl (gCaM rfl) dX8_endAt_2 (fun v2 => ?_)
  refine x_if_eq (pc := 5) (tgt := 15) h dX8_endAt_5 (by decide) ?_ ?_
  · exact x_vret (pc := 15) h z rfl dX8_endAt_15
  · refine x_aload_n (pc := 8) (i := 0) h dX8_endAt_8 rfl rfl ?_
    refine gf_X8_15 (pc := 9) h hk0 dX8_endAt_9 ?_
    refine x_iload_n (pc := 12) (i := 1) h dX8_endAt_12 rfl rfl ?_
    refine x_iload_n (pc := 13) (i := 2) h dX8_endAt_13 rfl rfl ?_
    refine x_iast (pc := 14) h (t_8_1 hk0) dX8_endAt_14 (fun σ14 => ?_)
    exact x_vret (pc := 15) h z rfl dX8_endAt_15

set_option maxRecDepth 20000 in
set_option maxHeartbeats 4000000 in
theorem c_X7_partTurn (fu : Nat) (σ : gSt) (k0 : Nat) (p1 : Int32) (p2 : Int32) (p3 : Int32) (hk0 : isO k0 7) : gCt yX7_partTurn cX7_partTurn 5 (some .int) 3 78 gQi (fun ad => [.ref (ad k0), .int p1, .int p2, .int p3]) σ (f_X7_partTurn fu σ k0 p1 p2 p3) := by
  refine gCt_intro RX7 rfl (by decide +kernel) (fun ad v hv => by simp only [List.mem_cons, List.not_mem_nil, or_false] at hv; rcases hv with rfl | rfl | rfl | rfl <;> rfl) (fun ad => Nat.le_of_ble_eq_true rfl) (fun Γ h z => ?_)
  show At Γ 0 [some (.ref (gAd Γ.1 k0)), some (.int p1), some (.int p2), some (.int p3), none] [] σ _
  unfold f_X7_partTurn
  refine x_aload_n (pc := 0) (i := 0) h dX7_partTurn_0 rfl rfl ?_
  refine gf_X7_12 (pc := 1) h hk0 dX7_partTurn_1 ?_
  refine x_iload_n (pc := 4) (i := 1) h dX7_partTurn_4 rfl rfl ?_
  refine x_Vp (pc := 5) (av := fun ad => [.int p1]) (rest := []) h m_X8_has i_X8_has kl_X7_64 (t_7_0 hk0) (by decide) rfl (c_X8_has fu σ (k0 + 1) p1 (t_7_0 hk0)) rfl rfl (gCaM rfl) dX7_partTurn_5 (fun v5 => ?_)
  refine x_if_eq (pc := 8) (tgt := 51) h dX7_partTurn_8 (by decide) ?_ ?_
  · refine x_ldc (pc := 51) h kc_X7_50 dX7_partTurn_51 ?_
    exact x_ireti (pc := 53) h z .int rfl rfl dX7_partTurn_53
  · refine x_iload_n (pc := 11) (i := 2) h dX7_partTurn_11 rfl rfl ?_
    refine x_aload_n (pc := 12) (i := 0) h dX7_partTurn_12 rfl rfl ?_
    refine gf_X7_12 (pc := 13) h hk0 dX7_partTurn_13 ?_
    refine x_iload_n (pc := 16) (i := 1) h dX7_partTurn_16 rfl rfl ?_
    refine x_Vp (pc := 17) (av := fun ad => [.int p1]) (rest := [.int p2]) h m_X8_beginOf i_X8_beginOf kl_X7_80 (t_7_0 hk0) (by decide) rfl (c_X8_beginOf fu σ (k0 + 1) p1 (t_7_0 hk0)) rfl rfl (gCaM rfl) dX7_partTurn_17 (fun v17 => ?_)
    refine x_icmp_le (pc := 20) (tgt := 51) h dX7_partTurn_20 (by decide) ?_ ?_
    · refine x_ldc (pc := 51) h kc_X7_50 dX7_partTurn_51 ?_
      exact x_ireti (pc := 53) h z .int rfl rfl dX7_partTurn_53
    · refine x_iload_n (pc := 23) (i := 2) h dX7_partTurn_23 rfl rfl ?_
      refine x_aload_n (pc := 24) (i := 0) h dX7_partTurn_24 rfl rfl ?_
      refine gf_X7_12 (pc := 25) h hk0 dX7_partTurn_25 ?_
      refine x_iload_n (pc := 28) (i := 1) h dX7_partTurn_28 rfl rfl ?_
      refine x_Vp (pc := 29) (av := fun ad => [.int p1]) (rest := [.int p2]) h m_X8_endOf i_X8_endOf kl_X7_83 (t_7_0 hk0) (by decide) rfl (c_X8_endOf fu σ (k0 + 1) p1 (t_7_0 hk0)) rfl rfl (gCaM rfl) dX7_partTurn_29 (fun v29 => ?_)
      refine x_icmp_ge (pc := 32) (tgt := 51) h dX7_partTurn_32 (by decide) ?_ ?_
      · refine x_ldc (pc := 51) h kc_X7_50 dX7_partTurn_51 ?_
        exact x_ireti (pc := 53) h z .int rfl rfl dX7_partTurn_53
      · refine x_iload_n (pc := 35) (i := 3) h dX7_partTurn_35 rfl rfl ?_
        refine x_iconst (pc := 36) (v := 0) h dX7_partTurn_36 (by decide) ?_
        refine x_aload_n (pc := 37) (i := 0) h dX7_partTurn_37 rfl rfl ?_
        refine gf_X7_12 (pc := 38) h hk0 dX7_partTurn_38 ?_
        refine x_iload_n (pc := 41) (i := 1) h dX7_partTurn_41 rfl rfl ?_
        refine x_Vp (pc := 42) (av := fun ad => [.int p1]) (rest := [.int 0, .int p3]) h m_X8_termCountOf i_X8_termCountOf kl_X7_77 (t_7_0 hk0) (by decide) rfl (c_X8_termCountOf fu σ (k0 + 1) p1 (t_7_0 hk0)) rfl rfl (gCaM rfl) dX7_partTurn_42 (fun v42 => ?_)
        refine x_Np (pc := 45) (av := fun ad => [.int p3, .int 0, .int v42]) (rest := []) h m_X9_isWithin s_X9_isWithin kl_X7_86 (c_X9_isWithin fu σ p3 0 v42) rfl rfl (gCaM rfl) dX7_partTurn_45 (fun v45 => ?_)
        refine x_if_ne (pc := 48) (tgt := 54) h dX7_partTurn_48 (by decide) ?_ ?_
        · refine x_aload_n (pc := 54) (i := 0) h dX7_partTurn_54 rfl rfl ?_
          refine gf_X7_12 (pc := 55) h hk0 dX7_partTurn_55 ?_
          refine x_Vp (pc := 58) (av := fun ad => []) (rest := []) h m_X8_isFull i_X8_isFull kl_X7_51 (t_7_0 hk0) (by decide) rfl (c_X8_isFull fu σ (k0 + 1) (t_7_0 hk0)) rfl rfl (gCaM rfl) dX7_partTurn_58 (fun v58 => ?_)
          refine x_if_eq (pc := 61) (tgt := 67) h dX7_partTurn_61 (by decide) ?_ ?_
          · refine x_aload_n (pc := 67) (i := 0) h dX7_partTurn_67 rfl rfl ?_
            refine gf_X7_12 (pc := 68) h hk0 dX7_partTurn_68 ?_
            refine x_iload_n (pc := 71) (i := 2) h dX7_partTurn_71 rfl rfl ?_
            refine x_aload_n (pc := 72) (i := 0) h dX7_partTurn_72 rfl rfl ?_
            refine gf_X7_12 (pc := 73) h hk0 dX7_partTurn_73 ?_
            refine x_iload_n (pc := 76) (i := 1) h dX7_partTurn_76 rfl rfl ?_
            refine x_Vp (pc := 77) (av := fun ad => [.int p1]) (rest := [.int p2, .ref (gAd Γ.1 (k0 + 1))]) h m_X8_endOf i_X8_endOf kl_X7_83 (t_7_0 hk0) (by decide) rfl (c_X8_endOf fu σ (k0 + 1) p1 (t_7_0 hk0)) rfl rfl (gCaM rfl) dX7_partTurn_77 (fun v77 => ?_)
            refine x_aload_n (pc := 80) (i := 0) h dX7_partTurn_80 rfl rfl ?_
            refine gf_X7_12 (pc := 81) h hk0 dX7_partTurn_81 ?_
            refine x_iload_n (pc := 84) (i := 1) h dX7_partTurn_84 rfl rfl ?_
            refine x_Vp (pc := 85) (av := fun ad => [.int p1]) (rest := [.int v77, .int p2, .ref (gAd Γ.1 (k0 + 1))]) h m_X8_pitchOf i_X8_pitchOf kl_X7_90 (t_7_0 hk0) (by decide) rfl (c_X8_pitchOf fu σ (k0 + 1) p1 (t_7_0 hk0)) rfl rfl (gCaM rfl) dX7_partTurn_85 (fun v85 => ?_)
            refine x_aload_n (pc := 88) (i := 0) h dX7_partTurn_88 rfl rfl ?_
            refine gf_X7_12 (pc := 89) h hk0 dX7_partTurn_89 ?_
            refine x_iload_n (pc := 92) (i := 1) h dX7_partTurn_92 rfl rfl ?_
            refine x_Vp (pc := 93) (av := fun ad => [.int p1]) (rest := [.int v85, .int v77, .int p2, .ref (gAd Γ.1 (k0 + 1))]) h m_X8_ownerOf i_X8_ownerOf kl_X7_93 (t_7_0 hk0) (by decide) rfl (c_X8_ownerOf fu σ (k0 + 1) p1 (t_7_0 hk0)) rfl rfl (gCaM rfl) dX7_partTurn_93 (fun v93 => ?_)
            refine x_Vi (pc := 96) (av := fun ad => [.int p2, .int v77, .int v85, .int v93]) (rest := []) h m_X8_insert i_X8_insert kl_X7_60 (t_7_0 hk0) (by decide) rfl (c_X8_insert fu σ (k0 + 1) p2 v77 v85 v93 (t_7_0 hk0)) rfl rfl (gCaM rfl) dX7_partTurn_96 (fun v96 σ96 => ?_)
            refine x_istore (pc := 99) (L' := [some (.ref (gAd Γ.1 k0)), some (.int p1), some (.int p2), some (.int p3), some (.int v96)]) h dX7_partTurn_99 (Nat.le_of_ble_eq_true rfl) rfl ?_
            refine x_aload_n (pc := 101) (i := 0) h dX7_partTurn_101 rfl rfl ?_
            refine gf_X7_12 (pc := 102) h hk0 dX7_partTurn_102 ?_
            refine x_iload_n (pc := 105) (i := 1) h dX7_partTurn_105 rfl rfl ?_
            refine x_iload_n (pc := 106) (i := 3) h dX7_partTurn_106 rfl rfl ?_
            refine x_iload (pc := 107) h dX7_partTurn_107 rfl ?_
            refine x_Vv (pc := 109) (av := fun ad => [.int p1, .int p3, .int v96]) (rest := []) h m_X8_passTerms i_X8_passTerms kl_X7_96 (t_7_0 hk0) (by decide) rfl (c_X8_passTerms fu σ96 (k0 + 1) p1 p3 v96 (t_7_0 hk0)) rfl rfl (gCaM rfl) dX7_partTurn_109 (fun σ109 => ?_)
            refine x_aload_n (pc := 112) (i := 0) h dX7_partTurn_112 rfl rfl ?_
            refine gf_X7_12 (pc := 113) h hk0 dX7_partTurn_113 ?_
            refine x_iload_n (pc := 116) (i := 1) h dX7_partTurn_116 rfl rfl ?_
            refine x_iload_n (pc := 117) (i := 2) h dX7_partTurn_117 rfl rfl ?_
            refine x_Vv (pc := 118) (av := fun ad => [.int p1, .int p2]) (rest := []) h m_X8_endAt i_X8_endAt kl_X7_100 (t_7_0 hk0) (by decide) rfl (c_X8_endAt fu σ109 (k0 + 1) p1 p2 (t_7_0 hk0)) rfl rfl (gCaM rfl) dX7_partTurn_118 (fun σ118 => ?_)
            refine x_iload (pc := 121) h dX7_partTurn_121 rfl ?_
            exact x_ireti (pc := 123) h z .int rfl rfl dX7_partTurn_123
          · refine x_ldc (pc := 64) h kc_X7_55 dX7_partTurn_64 ?_
            exact x_ireti (pc := 66) h z .int rfl rfl dX7_partTurn_66
        · refine x_ldc (pc := 51) h kc_X7_50 dX7_partTurn_51 ?_
          exact x_ireti (pc := 53) h z .int rfl rfl dX7_partTurn_53

set_option maxRecDepth 20000 in
set_option maxHeartbeats 4000000 in
theorem c_X9_part (fu : Nat) (σ : gSt) (k0 : Nat) (p1 : Int32) (p2 : Int32) (p3 : Int32) (hk0 : isO k0 9) : gCt yX9_part cX9_part 4 (some .int) 6 135 gQi (fun ad => [.ref (ad k0), .int p1, .int p2, .int p3]) σ (f_X9_part fu σ k0 p1 p2 p3) := by
  refine gCt_intro RX9 rfl (by decide +kernel) (fun ad v hv => by simp only [List.mem_cons, List.not_mem_nil, or_false] at hv; rcases hv with rfl | rfl | rfl | rfl <;> rfl) (fun ad => Nat.le_of_ble_eq_true rfl) (fun Γ h z => ?_)
  show At Γ 0 [some (.ref (gAd Γ.1 k0)), some (.int p1), some (.int p2), some (.int p3)] [] σ _
  unfold f_X9_part
  refine x_aload_n (pc := 0) (i := 0) h dX9_part_0 rfl rfl ?_
  refine gf_X9_16 (pc := 1) h hk0 dX9_part_1 ?_
  refine x_aload_n (pc := 4) (i := 0) h dX9_part_4 rfl rfl ?_
  refine gf_X9_10 (pc := 5) h hk0 dX9_part_5 ?_
  refine x_Vv (pc := 8) (av := fun ad => [.ref (ad (k0 + 10))]) (rest := []) h m_X7_takeFrom i_X7_takeFrom kl_X9_51 (t_9_1 hk0) (by decide) rfl (c_X7_takeFrom fu σ (k0 + 22) (k0 + 10) (t_9_1 hk0) (t_9_0 hk0)) rfl rfl (gCaM rfl) dX9_part_8 (fun σ8 => ?_)
  refine x_aload_n (pc := 11) (i := 0) h dX9_part_11 rfl rfl ?_
  refine x_aload_n (pc := 12) (i := 0) h dX9_part_12 rfl rfl ?_
  refine gf_X9_10 (pc := 13) h hk0 dX9_part_13 ?_
  refine x_iload_n (pc := 16) (i := 1) h dX9_part_16 rfl rfl ?_
  refine x_iload_n (pc := 17) (i := 2) h dX9_part_17 rfl rfl ?_
  refine x_iload_n (pc := 18) (i := 3) h dX9_part_18 rfl rfl ?_
  refine x_Vi (pc := 19) (av := fun ad => [.int p1, .int p2, .int p3]) (rest := [.ref (gAd Γ.1 k0)]) h m_X7_partTurn i_X7_partTurn kl_X9_66 (t_9_0 hk0) (by decide) rfl (c_X7_partTurn fu σ8 (k0 + 10) p1 p2 p3 (t_9_0 hk0)) rfl rfl (gCaM rfl) dX9_part_19 (fun v19 σ19 => ?_)
  refine x_Vi (pc := 22) (av := fun ad => [.int v19]) (rest := []) h m_X9_recorded i_X9_recorded kl_X9_58 hk0 (by decide) rfl (c_X9_recorded fu σ19 k0 v19 hk0) rfl rfl (gCaM rfl) dX9_part_22 (fun v22 σ22 => ?_)
  exact x_ireti (pc := 25) h z .int rfl rfl dX9_part_25

set_option maxRecDepth 20000 in
set_option maxHeartbeats 4000000 in
theorem f_X10_part_L173_at (fu : Nat) (k0 : Nat) (p1 : Int32) (p2 : Int32) (p3 : Int32) (x4 : Int32) (ag173 : Int32 → gSt → Option (Int32 × gSt)) {Γ : gX (Int32 × gSt)} (h : gOk Γ cX10_part 6 RX10 (some .int) 2 45) (z : gEnd Γ gQi) (hk0 : isO k0 10) (hg173 : ∀ (y5 : Int32) (τ : gSt), At Γ 173 [some (.ref (gAd Γ.1 k0)), none, none, some (.int p3), some (.int x4), some (.int y5)] [] τ (ag173 y5 τ)) (x5 : Int32) (σ : gSt) : At Γ 173 [some (.ref (gAd Γ.1 k0)), none, none, some (.int p3), some (.int x4), some (.int x5)] [] σ (f_X10_part_L173 fu k0 p1 p2 p3 x4 ag173 x5 σ) := by
  unfold f_X10_part_L173
  refine x_iload (pc := 173) h dX10_part_173 rfl ?_
  refine x_aload_n (pc := 175) (i := 0) h dX10_part_175 rfl rfl ?_
  refine gf_X10_22 (pc := 176) h hk0 dX10_part_176 ?_
  refine x_iconst (pc := 179) (v := 4) h dX10_part_179 (by decide) ?_
  refine x_ialdS (pc := 180) h 4 (t_10_7 hk0) (by decide) (by decide) (by decide) dX10_part_180 ?_
  refine x_icmp_ge (pc := 181) (tgt := 211) h dX10_part_181 (by decide) ?_ ?_
  · refine x_iload (pc := 211) h dX10_part_211 rfl ?_
    exact x_ireti (pc := 213) h z .int rfl rfl dX10_part_213
  · refine x_aload_n (pc := 184) (i := 0) h dX10_part_184 rfl rfl ?_
    refine x_iload (pc := 185) h dX10_part_185 rfl ?_
    refine x_iconst (pc := 187) (v := 5) h dX10_part_187 (by decide) ?_
    refine x_iload (pc := 188) h dX10_part_188 rfl ?_
    refine x_iadd (pc := 190) h dX10_part_190 ?_
    refine x_iload_n (pc := 191) (i := 3) h dX10_part_191 rfl rfl ?_
    refine x_isub (pc := 192) h dX10_part_192 ?_
    refine x_aload_n (pc := 193) (i := 0) h dX10_part_193 rfl rfl ?_
    refine gf_X10_22 (pc := 194) h hk0 dX10_part_194 ?_
    refine x_iconst (pc := 197) (v := 5) h dX10_part_197 (by decide) ?_
    refine x_iload (pc := 198) h dX10_part_198 rfl ?_
    refine x_iadd (pc := 200) h dX10_part_200 ?_
    refine x_iald (pc := 201) h (t_10_7 hk0) dX10_part_201 (fun v201 => ?_)
    refine x_Vv (pc := 202) (av := fun ad => [.int x4, .int ((5 + x5) - p3), .int v201]) (rest := []) h m_X10_sets i_X10_sets kl_X10_59 hk0 (by decide) rfl (c_X10_sets fu σ k0 x4 ((5 + x5) - p3) v201 hk0) rfl rfl (gCaM rfl) dX10_part_202 (fun σ202 => ?_)
    refine x_iinc (pc := 205) (i := 5) (v := (x5 + 1)) (L' := [some (.ref (gAd Γ.1 k0)), none, none, some (.int p3), some (.int x4), some (.int (x5 + 1))]) h dX10_part_205 rfl rfl rfl ?_
    refine x_goto (pc := 208) (tgt := 173) h dX10_part_208 (by decide) ?_
    exact At.mask [true, false, false, true, true, true] rfl rfl (hg173 (x5 + 1) σ202)

theorem f_X10_part_W173_at (fu : Nat) (k0 : Nat) (p1 : Int32) (p2 : Int32) (p3 : Int32) (x4 : Int32) {Γ : gX (Int32 × gSt)} (h : gOk Γ cX10_part 6 RX10 (some .int) 2 45) (z : gEnd Γ gQi) (hk0 : isO k0 10) : ∀ (n : Nat) (x5 : Int32) (σ : gSt), At Γ 173 [some (.ref (gAd Γ.1 k0)), none, none, some (.int p3), some (.int x4), some (.int x5)] [] σ (f_X10_part_W173 fu k0 p1 p2 p3 x4 n x5 σ) := by
  intro n
  induction n with
  | zero => intro x5 σ r hr; cases hr
  | succ n ih =>
    intro x5 σ
    exact f_X10_part_L173_at fu k0 p1 p2 p3 x4 (f_X10_part_W173 fu k0 p1 p2 p3 x4 n) h z hk0 ih x5 σ

set_option maxRecDepth 20000 in
set_option maxHeartbeats 4000000 in
theorem f_X10_part_L119_at (fu : Nat) (k0 : Nat) (p1 : Int32) (p2 : Int32) (p3 : Int32) (x4 : Int32) (ag119 : Int32 → gSt → Option (Int32 × gSt)) {Γ : gX (Int32 × gSt)} (h : gOk Γ cX10_part 6 RX10 (some .int) 2 45) (z : gEnd Γ gQi) (hk0 : isO k0 10) (hg119 : ∀ (y5 : Int32) (τ : gSt), At Γ 119 [some (.ref (gAd Γ.1 k0)), none, some (.int p2), some (.int p3), some (.int x4), some (.int y5)] [] τ (ag119 y5 τ)) (x5 : Int32) (σ : gSt) : At Γ 119 [some (.ref (gAd Γ.1 k0)), none, some (.int p2), some (.int p3), some (.int x4), some (.int x5)] [] σ (f_X10_part_L119 fu k0 p1 p2 p3 x4 ag119 x5 σ) := by
  unfold f_X10_part_L119
  refine x_iload (pc := 119) h dX10_part_119 rfl ?_
  refine x_bipush (pc := 121) (v := 13) h dX10_part_121 (by decide) ?_
  refine x_icmp_ge (pc := 123) (tgt := 147) h dX10_part_123 (by decide) ?_ ?_
  · refine x_aload_n (pc := 147) (i := 0) h dX10_part_147 rfl rfl ?_
    refine x_iload (pc := 148) h dX10_part_148 rfl ?_
    refine x_iconst (pc := 150) (v := 0) h dX10_part_150 (by decide) ?_
    refine x_iload_n (pc := 151) (i := 2) h dX10_part_151 rfl rfl ?_
    refine x_Vv (pc := 152) (av := fun ad => [.int x4, .int 0, .int p2]) (rest := []) h m_X10_sets i_X10_sets kl_X10_59 hk0 (by decide) rfl (c_X10_sets fu σ k0 x4 0 p2 hk0) rfl rfl (gCaM rfl) dX10_part_152 (fun σ152 => ?_)
    refine x_aload_n (pc := 155) (i := 0) h dX10_part_155 rfl rfl ?_
    refine x_iload (pc := 156) h dX10_part_156 rfl ?_
    refine x_iconst (pc := 158) (v := 4) h dX10_part_158 (by decide) ?_
    refine x_aload_n (pc := 159) (i := 0) h dX10_part_159 rfl rfl ?_
    refine gf_X10_22 (pc := 160) h hk0 dX10_part_160 ?_
    refine x_iconst (pc := 163) (v := 4) h dX10_part_163 (by decide) ?_
    refine x_ialdS (pc := 164) h 4 (t_10_7 hk0) (by decide) (by decide) (by decide) dX10_part_164 ?_
    refine x_iload_n (pc := 165) (i := 3) h dX10_part_165 rfl rfl ?_
    refine x_isub (pc := 166) h dX10_part_166 ?_
    refine x_Vv (pc := 167) (av := fun ad => [.int x4, .int 4, .int ((σ152 (k0 + 5) 4) - p3)]) (rest := []) h m_X10_sets i_X10_sets kl_X10_59 hk0 (by decide) rfl (c_X10_sets fu σ152 k0 x4 4 ((σ152 (k0 + 5) 4) - p3) hk0) rfl rfl (gCaM rfl) dX10_part_167 (fun σ167 => ?_)
    refine x_iload_n (pc := 170) (i := 3) h dX10_part_170 rfl rfl ?_
    refine x_istore (pc := 171) (L' := [some (.ref (gAd Γ.1 k0)), none, some (.int p2), some (.int p3), some (.int x4), some (.int p3)]) h dX10_part_171 (Nat.le_of_ble_eq_true rfl) rfl ?_
    exact At.mask [true, false, false, true, true, true] rfl rfl (f_X10_part_W173_at fu k0 p1 p2 p3 x4 h z hk0 fu p3 σ167)
  · refine x_aload_n (pc := 126) (i := 0) h dX10_part_126 rfl rfl ?_
    refine x_iload (pc := 127) h dX10_part_127 rfl ?_
    refine x_iload (pc := 129) h dX10_part_129 rfl ?_
    refine x_aload_n (pc := 131) (i := 0) h dX10_part_131 rfl rfl ?_
    refine gf_X10_22 (pc := 132) h hk0 dX10_part_132 ?_
    refine x_iload (pc := 135) h dX10_part_135 rfl ?_
    refine x_iald (pc := 137) h (t_10_7 hk0) dX10_part_137 (fun v137 => ?_)
    refine x_Vv (pc := 138) (av := fun ad => [.int x4, .int x5, .int v137]) (rest := []) h m_X10_sets i_X10_sets kl_X10_59 hk0 (by decide) rfl (c_X10_sets fu σ k0 x4 x5 v137 hk0) rfl rfl (gCaM rfl) dX10_part_138 (fun σ138 => ?_)
    refine x_iinc (pc := 141) (i := 5) (v := (x5 + 1)) (L' := [some (.ref (gAd Γ.1 k0)), none, some (.int p2), some (.int p3), some (.int x4), some (.int (x5 + 1))]) h dX10_part_141 rfl rfl rfl ?_
    refine x_goto (pc := 144) (tgt := 119) h dX10_part_144 (by decide) ?_
    exact At.mask [true, false, true, true, true, true] rfl rfl (hg119 (x5 + 1) σ138)

theorem f_X10_part_W119_at (fu : Nat) (k0 : Nat) (p1 : Int32) (p2 : Int32) (p3 : Int32) (x4 : Int32) {Γ : gX (Int32 × gSt)} (h : gOk Γ cX10_part 6 RX10 (some .int) 2 45) (z : gEnd Γ gQi) (hk0 : isO k0 10) : ∀ (n : Nat) (x5 : Int32) (σ : gSt), At Γ 119 [some (.ref (gAd Γ.1 k0)), none, some (.int p2), some (.int p3), some (.int x4), some (.int x5)] [] σ (f_X10_part_W119 fu k0 p1 p2 p3 x4 n x5 σ) := by
  intro n
  induction n with
  | zero => intro x5 σ r hr; cases hr
  | succ n ih =>
    intro x5 σ
    exact f_X10_part_L119_at fu k0 p1 p2 p3 x4 (f_X10_part_W119 fu k0 p1 p2 p3 x4 n) h z hk0 ih x5 σ

set_option maxRecDepth 20000 in
set_option maxHeartbeats 4000000 in
theorem f_X10_part_L68_at (fu : Nat) (k0 : Nat) (p1 : Int32) (p2 : Int32) (p3 : Int32) (ag68 : Int32 → gSt → Option (Int32 × gSt)) {Γ : gX (Int32 × gSt)} (h : gOk Γ cX10_part 6 RX10 (some .int) 2 45) (z : gEnd Γ gQi) (hk0 : isO k0 10) (hg68 : ∀ (y4 : Int32) (τ : gSt), At Γ 68 [some (.ref (gAd Γ.1 k0)), some (.int p1), some (.int p2), some (.int p3), some (.int y4), none] [] τ (ag68 y4 τ)) (x4 : Int32) (σ : gSt) : At Γ 68 [some (.ref (gAd Γ.1 k0)), some (.int p1), some (.int p2), some (.int p3), some (.int x4), none] [] σ (f_X10_part_L68 fu k0 p1 p2 p3 ag68 x4 σ) := by
  unfold f_X10_part_L68
  refine x_iload (pc := 68) h dX10_part_68 rfl ?_
  refine x_bipush (pc := 70) (v := 13) h dX10_part_70 (by decide) ?_
  refine x_icmp_ge (pc := 72) (tgt := 95) h dX10_part_72 (by decide) ?_ ?_
  · refine x_aload_n (pc := 95) (i := 0) h dX10_part_95 rfl rfl ?_
    refine x_iload_n (pc := 96) (i := 1) h dX10_part_96 rfl rfl ?_
    refine x_iconst (pc := 97) (v := 1) h dX10_part_97 (by decide) ?_
    refine x_iload_n (pc := 98) (i := 2) h dX10_part_98 rfl rfl ?_
    refine x_Vv (pc := 99) (av := fun ad => [.int p1, .int 1, .int p2]) (rest := []) h m_X10_sets i_X10_sets kl_X10_59 hk0 (by decide) rfl (c_X10_sets fu σ k0 p1 1 p2 hk0) rfl rfl (gCaM rfl) dX10_part_99 (fun σ99 => ?_)
    refine x_aload_n (pc := 102) (i := 0) h dX10_part_102 rfl rfl ?_
    refine x_iload_n (pc := 103) (i := 1) h dX10_part_103 rfl rfl ?_
    refine x_iconst (pc := 104) (v := 4) h dX10_part_104 (by decide) ?_
    refine x_iload_n (pc := 105) (i := 3) h dX10_part_105 rfl rfl ?_
    refine x_Vv (pc := 106) (av := fun ad => [.int p1, .int 4, .int p3]) (rest := []) h m_X10_sets i_X10_sets kl_X10_59 hk0 (by decide) rfl (c_X10_sets fu σ99 k0 p1 4 p3 hk0) rfl rfl (gCaM rfl) dX10_part_106 (fun σ106 => ?_)
    refine x_aload_n (pc := 109) (i := 0) h dX10_part_109 rfl rfl ?_
    refine x_iload_n (pc := 110) (i := 2) h dX10_part_110 rfl rfl ?_
    refine x_Vi (pc := 111) (av := fun ad => [.int p2]) (rest := []) h m_X10_opens i_X10_opens kl_X10_55 hk0 (by decide) rfl (c_X10_opens fu σ106 k0 p2 hk0) rfl rfl (gCaM rfl) dX10_part_111 (fun v111 σ111 => ?_)
    refine x_istore (pc := 114) (L' := [some (.ref (gAd Γ.1 k0)), some (.int p1), some (.int p2), some (.int p3), some (.int v111), none]) h dX10_part_114 (Nat.le_of_ble_eq_true rfl) rfl ?_
    refine x_iconst (pc := 116) (v := 0) h dX10_part_116 (by decide) ?_
    refine x_istore (pc := 117) (L' := [some (.ref (gAd Γ.1 k0)), some (.int p1), some (.int p2), some (.int p3), some (.int v111), some (.int 0)]) h dX10_part_117 (Nat.le_of_ble_eq_true rfl) rfl ?_
    exact At.mask [true, false, true, true, true, true] rfl rfl (f_X10_part_W119_at fu k0 p1 p2 p3 v111 h z hk0 fu 0 σ111)
  · refine x_aload_n (pc := 75) (i := 0) h dX10_part_75 rfl rfl ?_
    refine gf_X10_22 (pc := 76) h hk0 dX10_part_76 ?_
    refine x_iload (pc := 79) h dX10_part_79 rfl ?_
    refine x_aload_n (pc := 81) (i := 0) h dX10_part_81 rfl rfl ?_
    refine x_iload_n (pc := 82) (i := 1) h dX10_part_82 rfl rfl ?_
    refine x_iload (pc := 83) h dX10_part_83 rfl ?_
    refine x_Vp (pc := 85) (av := fun ad => [.int p1, .int x4]) (rest := [.int x4, .ref (gAd Γ.1 (k0 + 5))]) h m_X10_of i_X10_of kl_X10_47 hk0 (by decide) rfl (c_X10_of fu σ k0 p1 x4 hk0) rfl rfl (gCaM rfl) dX10_part_85 (fun v85 => ?_)
    refine x_iast (pc := 88) h (t_10_7 hk0) dX10_part_88 (fun σ88 => ?_)
    refine x_iinc (pc := 89) (i := 4) (v := (x4 + 1)) (L' := [some (.ref (gAd Γ.1 k0)), some (.int p1), some (.int p2), some (.int p3), some (.int (x4 + 1)), none]) h dX10_part_89 rfl rfl rfl ?_
    refine x_goto (pc := 92) (tgt := 68) h dX10_part_92 (by decide) ?_
    exact At.mask [true, true, true, true, true, false] rfl rfl (hg68 (x4 + 1) σ88)

theorem f_X10_part_W68_at (fu : Nat) (k0 : Nat) (p1 : Int32) (p2 : Int32) (p3 : Int32) {Γ : gX (Int32 × gSt)} (h : gOk Γ cX10_part 6 RX10 (some .int) 2 45) (z : gEnd Γ gQi) (hk0 : isO k0 10) : ∀ (n : Nat) (x4 : Int32) (σ : gSt), At Γ 68 [some (.ref (gAd Γ.1 k0)), some (.int p1), some (.int p2), some (.int p3), some (.int x4), none] [] σ (f_X10_part_W68 fu k0 p1 p2 p3 n x4 σ) := by
  intro n
  induction n with
  | zero => intro x4 σ r hr; cases hr
  | succ n ih =>
    intro x4 σ
    exact f_X10_part_L68_at fu k0 p1 p2 p3 (f_X10_part_W68 fu k0 p1 p2 p3 n) h z hk0 ih x4 σ

set_option maxRecDepth 20000 in
set_option maxHeartbeats 4000000 in
theorem c_X10_part (fu : Nat) (σ : gSt) (k0 : Nat) (p1 : Int32) (p2 : Int32) (p3 : Int32) (hk0 : isO k0 10) : gCt yX10_part cX10_part 6 (some .int) 2 45 gQi (fun ad => [.ref (ad k0), .int p1, .int p2, .int p3]) σ (f_X10_part fu σ k0 p1 p2 p3) := by
  refine gCt_intro RX10 rfl (by decide +kernel) (fun ad v hv => by simp only [List.mem_cons, List.not_mem_nil, or_false] at hv; rcases hv with rfl | rfl | rfl | rfl <;> rfl) (fun ad => Nat.le_of_ble_eq_true rfl) (fun Γ h z => ?_)
  show At Γ 0 [some (.ref (gAd Γ.1 k0)), some (.int p1), some (.int p2), some (.int p3), none, none] [] σ _
  unfold f_X10_part
  refine x_aload_n (pc := 0) (i := 0) h dX10_part_0 rfl rfl ?_
  refine x_iload_n (pc := 1) (i := 1) h dX10_part_1 rfl rfl ?_
  refine x_Vp (pc := 2) (av := fun ad => [.int p1]) (rest := []) h m_X10_isTurn i_X10_isTurn kl_X10_66 hk0 (by decide) rfl (c_X10_isTurn fu σ k0 p1 hk0) rfl rfl (gCaM rfl) dX10_part_2 (fun v2 => ?_)
  refine x_if_eq (pc := 5) (tgt := 42) h dX10_part_5 (by decide) ?_ ?_
  · refine x_ldc (pc := 42) h kc_X10_50 dX10_part_42 ?_
    exact x_ireti (pc := 44) h z .int rfl rfl dX10_part_44
  · refine x_iload_n (pc := 8) (i := 2) h dX10_part_8 rfl rfl ?_
    refine x_aload_n (pc := 9) (i := 0) h dX10_part_9 rfl rfl ?_
    refine x_iload_n (pc := 10) (i := 1) h dX10_part_10 rfl rfl ?_
    refine x_iconst (pc := 11) (v := 0) h dX10_part_11 (by decide) ?_
    refine x_Vp (pc := 12) (av := fun ad => [.int p1, .int 0]) (rest := [.int p2]) h m_X10_of i_X10_of kl_X10_47 hk0 (by decide) rfl (c_X10_of fu σ k0 p1 0 hk0) rfl rfl (gCaM rfl) dX10_part_12 (fun v12 => ?_)
    refine x_icmp_le (pc := 15) (tgt := 42) h dX10_part_15 (by decide) ?_ ?_
    · refine x_ldc (pc := 42) h kc_X10_50 dX10_part_42 ?_
      exact x_ireti (pc := 44) h z .int rfl rfl dX10_part_44
    · refine x_iload_n (pc := 18) (i := 2) h dX10_part_18 rfl rfl ?_
      refine x_aload_n (pc := 19) (i := 0) h dX10_part_19 rfl rfl ?_
      refine x_iload_n (pc := 20) (i := 1) h dX10_part_20 rfl rfl ?_
      refine x_iconst (pc := 21) (v := 1) h dX10_part_21 (by decide) ?_
      refine x_Vp (pc := 22) (av := fun ad => [.int p1, .int 1]) (rest := [.int p2]) h m_X10_of i_X10_of kl_X10_47 hk0 (by decide) rfl (c_X10_of fu σ k0 p1 1 hk0) rfl rfl (gCaM rfl) dX10_part_22 (fun v22 => ?_)
      refine x_icmp_ge (pc := 25) (tgt := 42) h dX10_part_25 (by decide) ?_ ?_
      · refine x_ldc (pc := 42) h kc_X10_50 dX10_part_42 ?_
        exact x_ireti (pc := 44) h z .int rfl rfl dX10_part_44
      · refine x_iload_n (pc := 28) (i := 3) h dX10_part_28 rfl rfl ?_
        refine x_iconst (pc := 29) (v := 0) h dX10_part_29 (by decide) ?_
        refine x_aload_n (pc := 30) (i := 0) h dX10_part_30 rfl rfl ?_
        refine x_iload_n (pc := 31) (i := 1) h dX10_part_31 rfl rfl ?_
        refine x_iconst (pc := 32) (v := 4) h dX10_part_32 (by decide) ?_
        refine x_Vp (pc := 33) (av := fun ad => [.int p1, .int 4]) (rest := [.int 0, .int p3]) h m_X10_of i_X10_of kl_X10_47 hk0 (by decide) rfl (c_X10_of fu σ k0 p1 4 hk0) rfl rfl (gCaM rfl) dX10_part_33 (fun v33 => ?_)
        refine x_Sp (pc := 36) (av := fun ad => [.int p3, .int 0, .int v33]) (rest := []) h m_X10_in s_X10_in kl_X10_39 (c_X10_in fu σ p3 0 v33) rfl rfl (gCaM rfl) dX10_part_36 (fun v36 => ?_)
        refine x_if_ne (pc := 39) (tgt := 45) h dX10_part_39 (by decide) ?_ ?_
        · refine x_aload_n (pc := 45) (i := 0) h dX10_part_45 rfl rfl ?_
          refine gf_X10_7 (pc := 46) h hk0 dX10_part_46 ?_
          refine x_sipush (pc := 49) (v := 282) h dX10_part_49 (by decide) ?_
          refine x_ialdS (pc := 52) h 282 (t_10_0 hk0) (by decide) (by decide) (by decide) dX10_part_52 ?_
          refine x_bipush (pc := 53) (v := 20) h dX10_part_53 (by decide) ?_
          refine x_icmp_ne (pc := 55) (tgt := 61) h dX10_part_55 (by decide) ?_ ?_
          · refine x_aload_n (pc := 61) (i := 0) h dX10_part_61 rfl rfl ?_
            refine x_Vv (pc := 62) (av := fun ad => []) (rest := []) h m_X10_changes i_X10_changes kl_X10_52 hk0 (by decide) rfl (c_X10_changes fu σ k0 hk0) rfl rfl (gCaM rfl) dX10_part_62 (fun σ62 => ?_)
            refine x_iconst (pc := 65) (v := 0) h dX10_part_65 (by decide) ?_
            refine x_istore (pc := 66) (L' := [some (.ref (gAd Γ.1 k0)), some (.int p1), some (.int p2), some (.int p3), some (.int 0), none]) h dX10_part_66 (Nat.le_of_ble_eq_true rfl) rfl ?_
            exact At.mask [true, true, true, true, true, false] rfl rfl (f_X10_part_W68_at fu k0 p1 p2 p3 h z hk0 fu 0 σ62)
          · refine x_ldc (pc := 58) h kc_X10_51 dX10_part_58 ?_
            exact x_ireti (pc := 60) h z .int rfl rfl dX10_part_60
        · refine x_ldc (pc := 42) h kc_X10_50 dX10_part_42 ?_
          exact x_ireti (pc := 44) h z .int rfl rfl dX10_part_44

set_option maxRecDepth 20000 in
set_option maxHeartbeats 4000000 in
theorem c_X8_delete (fu : Nat) (σ : gSt) (k0 : Nat) (p1 : Int32) (hk0 : isO k0 8) : gCt yX8_delete cX8_delete 2 none 2 53 gQv (fun ad => [.ref (ad k0), .int p1]) σ (f_X8_delete fu σ k0 p1) := by
  refine gCt_intro RX8 rfl (by decide +kernel) (fun ad v hv => by simp only [List.mem_cons, List.not_mem_nil, or_false] at hv; rcases hv with rfl | rfl <;> rfl) (fun ad => Nat.le_of_ble_eq_true rfl) (fun Γ h z => ?_)
  show At Γ 0 [some (.ref (gAd Γ.1 k0)), some (.int p1)] [] σ _
  unfold f_X8_delete
  refine x_aload_n (pc := 0) (i := 0) h dX8_delete_0 rfl rfl ?_
  refine x_iload_n (pc := 1) (i := 1) h dX8_delete_1 rfl rfl ?_
  refine x_Vp (pc := 2) (av := fun ad => [.int p1]) (rest := []) h m_X8_has i_X8_has kl_X8_40 hk0 (by decide) rfl (c_X8_has fu σ k0 p1 hk0) rfl rfl (gCaM rfl) dX8_delete_2 (fun v2 => ?_)
  refine x_if_eq (pc := 5) (tgt := 26) h dX8_delete_5 (by decide) ?_ ?_
  · exact x_vret (pc := 26) h z rfl dX8_delete_26
  · refine x_aload_n (pc := 8) (i := 0) h dX8_delete_8 rfl rfl ?_
    refine x_iload_n (pc := 9) (i := 1) h dX8_delete_9 rfl rfl ?_
    refine x_iconst (pc := 10) (v := 1) h dX8_delete_10 (by decide) ?_
    refine x_iadd (pc := 11) h dX8_delete_11 ?_
    refine x_iload_n (pc := 12) (i := 1) h dX8_delete_12 rfl rfl ?_
    refine x_Vv (pc := 13) (av := fun ad => [.int (p1 + 1), .int p1]) (rest := []) h m_X8_moveRows i_X8_moveRows kl_X8_52 hk0 (by decide) rfl (c_X8_moveRows fu σ k0 (p1 + 1) p1 hk0) rfl rfl (gCaM rfl) dX8_delete_13 (fun σ13 => ?_)
    refine x_aload_n (pc := 16) (i := 0) h dX8_delete_16 rfl rfl ?_
    refine x_dup (pc := 17) h dX8_delete_17 rfl ?_
    refine gf_X8_36 (pc := 18) h hk0 dX8_delete_18 ?_
    refine x_iconst (pc := 21) (v := 1) h dX8_delete_21 (by decide) ?_
    refine x_isub (pc := 22) h dX8_delete_22 ?_
    refine x_put (pc := 23) h 8 6 .int hk0 (by decide) (by decide) rfl rfl rfl rfl rfl kf_X8_36 dX8_delete_23 (fun σ23 => ?_)
    exact x_vret (pc := 26) h z rfl dX8_delete_26

set_option maxRecDepth 20000 in
set_option maxHeartbeats 4000000 in
theorem c_X8_size (fu : Nat) (σ : gSt) (k0 : Nat) (hk0 : isO k0 8) : gCt yX8_size cX8_size 1 (some .int) 0 0 (gQp σ) (fun ad => [.ref (ad k0)]) σ (f_X8_size fu σ k0) := by
  refine gCt_intro RX8 rfl (by decide +kernel) (fun ad v hv => by simp only [List.mem_cons, List.not_mem_nil, or_false] at hv; rcases hv with rfl <;> rfl) (fun ad => Nat.le_of_ble_eq_true rfl) (fun Γ h z => ?_)
  show At Γ 0 [some (.ref (gAd Γ.1 k0))] [] σ _
  unfold f_X8_size
  refine x_aload_n (pc := 0) (i := 0) h dX8_size_0 rfl rfl ?_
  refine gf_X8_36 (pc := 1) h hk0 dX8_size_1 ?_
  exact x_iretp (pc := 4) h z rfl .int rfl rfl dX8_size_4

set_option maxRecDepth 20000 in
set_option maxHeartbeats 4000000 in
theorem c_X7_dropTurn (fu : Nat) (σ : gSt) (k0 : Nat) (p1 : Int32) (hk0 : isO k0 7) : gCt yX7_dropTurn cX7_dropTurn 2 (some .int) 3 74 gQi (fun ad => [.ref (ad k0), .int p1]) σ (f_X7_dropTurn fu σ k0 p1) := by
  refine gCt_intro RX7 rfl (by decide +kernel) (fun ad v hv => by simp only [List.mem_cons, List.not_mem_nil, or_false] at hv; rcases hv with rfl | rfl <;> rfl) (fun ad => Nat.le_of_ble_eq_true rfl) (fun Γ h z => ?_)
  show At Γ 0 [some (.ref (gAd Γ.1 k0)), some (.int p1)] [] σ _
  unfold f_X7_dropTurn
  refine x_aload_n (pc := 0) (i := 0) h dX7_dropTurn_0 rfl rfl ?_
  refine gf_X7_12 (pc := 1) h hk0 dX7_dropTurn_1 ?_
  refine x_iload_n (pc := 4) (i := 1) h dX7_dropTurn_4 rfl rfl ?_
  refine x_Vp (pc := 5) (av := fun ad => [.int p1]) (rest := []) h m_X8_has i_X8_has kl_X7_64 (t_7_0 hk0) (by decide) rfl (c_X8_has fu σ (k0 + 1) p1 (t_7_0 hk0)) rfl rfl (gCaM rfl) dX7_dropTurn_5 (fun v5 => ?_)
  refine x_if_ne (pc := 8) (tgt := 14) h dX7_dropTurn_8 (by decide) ?_ ?_
  · refine x_aload_n (pc := 14) (i := 0) h dX7_dropTurn_14 rfl rfl ?_
    refine gf_X7_12 (pc := 15) h hk0 dX7_dropTurn_15 ?_
    refine x_iload_n (pc := 18) (i := 1) h dX7_dropTurn_18 rfl rfl ?_
    refine x_Vv (pc := 19) (av := fun ad => [.int p1]) (rest := []) h m_X8_delete i_X8_delete kl_X7_103 (t_7_0 hk0) (by decide) rfl (c_X8_delete fu σ (k0 + 1) p1 (t_7_0 hk0)) rfl rfl (gCaM rfl) dX7_dropTurn_19 (fun σ19 => ?_)
    refine x_aload_n (pc := 22) (i := 0) h dX7_dropTurn_22 rfl rfl ?_
    refine gf_X7_12 (pc := 23) h hk0 dX7_dropTurn_23 ?_
    refine x_Vp (pc := 26) (av := fun ad => []) (rest := []) h m_X8_size i_X8_size kl_X7_107 (t_7_0 hk0) (by decide) rfl (c_X8_size fu σ19 (k0 + 1) (t_7_0 hk0)) rfl rfl (gCaM rfl) dX7_dropTurn_26 (fun v26 => ?_)
    exact x_ireti (pc := 29) h z .int rfl rfl dX7_dropTurn_29
  · refine x_ldc (pc := 11) h kc_X7_50 dX7_dropTurn_11 ?_
    exact x_ireti (pc := 13) h z .int rfl rfl dX7_dropTurn_13

set_option maxRecDepth 20000 in
set_option maxHeartbeats 4000000 in
theorem c_X9_remove (fu : Nat) (σ : gSt) (k0 : Nat) (p1 : Int32) (hk0 : isO k0 9) : gCt yX9_remove cX9_remove 2 (some .int) 6 135 gQi (fun ad => [.ref (ad k0), .int p1]) σ (f_X9_remove fu σ k0 p1) := by
  refine gCt_intro RX9 rfl (by decide +kernel) (fun ad v hv => by simp only [List.mem_cons, List.not_mem_nil, or_false] at hv; rcases hv with rfl | rfl <;> rfl) (fun ad => Nat.le_of_ble_eq_true rfl) (fun Γ h z => ?_)
  show At Γ 0 [some (.ref (gAd Γ.1 k0)), some (.int p1)] [] σ _
  unfold f_X9_remove
  refine x_aload_n (pc := 0) (i := 0) h dX9_remove_0 rfl rfl ?_
  refine gf_X9_16 (pc := 1) h hk0 dX9_remove_1 ?_
  refine x_aload_n (pc := 4) (i := 0) h dX9_remove_4 rfl rfl ?_
  refine gf_X9_10 (pc := 5) h hk0 dX9_remove_5 ?_
  refine x_Vv (pc := 8) (av := fun ad => [.ref (ad (k0 + 10))]) (rest := []) h m_X7_takeFrom i_X7_takeFrom kl_X9_51 (t_9_1 hk0) (by decide) rfl (c_X7_takeFrom fu σ (k0 + 22) (k0 + 10) (t_9_1 hk0) (t_9_0 hk0)) rfl rfl (gCaM rfl) dX9_remove_8 (fun σ8 => ?_)
  refine x_aload_n (pc := 11) (i := 0) h dX9_remove_11 rfl rfl ?_
  refine x_aload_n (pc := 12) (i := 0) h dX9_remove_12 rfl rfl ?_
  refine gf_X9_10 (pc := 13) h hk0 dX9_remove_13 ?_
  refine x_iload_n (pc := 16) (i := 1) h dX9_remove_16 rfl rfl ?_
  refine x_Vi (pc := 17) (av := fun ad => [.int p1]) (rest := [.ref (gAd Γ.1 k0)]) h m_X7_dropTurn i_X7_dropTurn kl_X9_69 (t_9_0 hk0) (by decide) rfl (c_X7_dropTurn fu σ8 (k0 + 10) p1 (t_9_0 hk0)) rfl rfl (gCaM rfl) dX9_remove_17 (fun v17 σ17 => ?_)
  refine x_Vi (pc := 20) (av := fun ad => [.int v17]) (rest := []) h m_X9_recorded i_X9_recorded kl_X9_58 hk0 (by decide) rfl (c_X9_recorded fu σ17 k0 v17 hk0) rfl rfl (gCaM rfl) dX9_remove_20 (fun v20 σ20 => ?_)
  exact x_ireti (pc := 23) h z .int rfl rfl dX9_remove_23

set_option maxRecDepth 20000 in
set_option maxHeartbeats 4000000 in
theorem f_X10_remove_L32_at (fu : Nat) (k0 : Nat) (p1 : Int32) (ag32 : Int32 → gSt → Option (Int32 × gSt)) {Γ : gX (Int32 × gSt)} (h : gOk Γ cX10_remove 3 RX10 (some .int) 1 21) (z : gEnd Γ gQi) (hk0 : isO k0 10) (hg32 : ∀ (y2 : Int32) (τ : gSt), At Γ 32 [some (.ref (gAd Γ.1 k0)), none, some (.int y2)] [] τ (ag32 y2 τ)) (x2 : Int32) (σ : gSt) : At Γ 32 [some (.ref (gAd Γ.1 k0)), none, some (.int x2)] [] σ (f_X10_remove_L32 fu k0 p1 ag32 x2 σ) := by
  unfold f_X10_remove_L32
  refine x_iload_n (pc := 32) (i := 2) h dX10_remove_32 rfl rfl ?_
  refine x_bipush (pc := 33) (v := 13) h dX10_remove_33 (by decide) ?_
  refine x_aload_n (pc := 35) (i := 0) h dX10_remove_35 rfl rfl ?_
  refine gf_X10_7 (pc := 36) h hk0 dX10_remove_36 ?_
  refine x_sipush (pc := 39) (v := 282) h dX10_remove_39 (by decide) ?_
  refine x_ialdS (pc := 42) h 282 (t_10_0 hk0) (by decide) (by decide) (by decide) dX10_remove_42 ?_
  refine x_imul (pc := 43) h dX10_remove_43 ?_
  refine x_icmp_ge (pc := 44) (tgt := 68) h dX10_remove_44 (by decide) ?_ ?_
  · refine x_aload_n (pc := 68) (i := 0) h dX10_remove_68 rfl rfl ?_
    refine gf_X10_7 (pc := 69) h hk0 dX10_remove_69 ?_
    refine x_sipush (pc := 72) (v := 282) h dX10_remove_72 (by decide) ?_
    refine x_ialdS (pc := 75) h 282 (t_10_0 hk0) (by decide) (by decide) (by decide) dX10_remove_75 ?_
    exact x_ireti (pc := 76) h z .int rfl rfl dX10_remove_76
  · refine x_aload_n (pc := 47) (i := 0) h dX10_remove_47 rfl rfl ?_
    refine gf_X10_7 (pc := 48) h hk0 dX10_remove_48 ?_
    refine x_iload_n (pc := 51) (i := 2) h dX10_remove_51 rfl rfl ?_
    refine x_aload_n (pc := 52) (i := 0) h dX10_remove_52 rfl rfl ?_
    refine gf_X10_7 (pc := 53) h hk0 dX10_remove_53 ?_
    refine x_iload_n (pc := 56) (i := 2) h dX10_remove_56 rfl rfl ?_
    refine x_bipush (pc := 57) (v := 13) h dX10_remove_57 (by decide) ?_
    refine x_iadd (pc := 59) h dX10_remove_59 ?_
    refine x_iald (pc := 60) h (t_10_0 hk0) dX10_remove_60 (fun v60 => ?_)
    refine x_iast (pc := 61) h (t_10_0 hk0) dX10_remove_61 (fun σ61 => ?_)
    refine x_iinc (pc := 62) (i := 2) (v := (x2 + 1)) (L' := [some (.ref (gAd Γ.1 k0)), none, some (.int (x2 + 1))]) h dX10_remove_62 rfl rfl rfl ?_
    refine x_goto (pc := 65) (tgt := 32) h dX10_remove_65 (by decide) ?_
    exact At.mask [true, false, true] rfl rfl (hg32 (x2 + 1) σ61)

theorem f_X10_remove_W32_at (fu : Nat) (k0 : Nat) (p1 : Int32) {Γ : gX (Int32 × gSt)} (h : gOk Γ cX10_remove 3 RX10 (some .int) 1 21) (z : gEnd Γ gQi) (hk0 : isO k0 10) : ∀ (n : Nat) (x2 : Int32) (σ : gSt), At Γ 32 [some (.ref (gAd Γ.1 k0)), none, some (.int x2)] [] σ (f_X10_remove_W32 fu k0 p1 n x2 σ) := by
  intro n
  induction n with
  | zero => intro x2 σ r hr; cases hr
  | succ n ih =>
    intro x2 σ
    exact f_X10_remove_L32_at fu k0 p1 (f_X10_remove_W32 fu k0 p1 n) h z hk0 ih x2 σ

set_option maxRecDepth 20000 in
set_option maxHeartbeats 4000000 in
theorem c_X10_remove (fu : Nat) (σ : gSt) (k0 : Nat) (p1 : Int32) (hk0 : isO k0 10) : gCt yX10_remove cX10_remove 3 (some .int) 1 21 gQi (fun ad => [.ref (ad k0), .int p1]) σ (f_X10_remove fu σ k0 p1) := by
  refine gCt_intro RX10 rfl (by decide +kernel) (fun ad v hv => by simp only [List.mem_cons, List.not_mem_nil, or_false] at hv; rcases hv with rfl | rfl <;> rfl) (fun ad => Nat.le_of_ble_eq_true rfl) (fun Γ h z => ?_)
  show At Γ 0 [some (.ref (gAd Γ.1 k0)), some (.int p1), none] [] σ _
  unfold f_X10_remove
  refine x_aload_n (pc := 0) (i := 0) h dX10_remove_0 rfl rfl ?_
  refine x_iload_n (pc := 1) (i := 1) h dX10_remove_1 rfl rfl ?_
  refine x_Vp (pc := 2) (av := fun ad => [.int p1]) (rest := []) h m_X10_isTurn i_X10_isTurn kl_X10_66 hk0 (by decide) rfl (c_X10_isTurn fu σ k0 p1 hk0) rfl rfl (gCaM rfl) dX10_remove_2 (fun v2 => ?_)
  refine x_if_ne (pc := 5) (tgt := 11) h dX10_remove_5 (by decide) ?_ ?_
  · refine x_aload_n (pc := 11) (i := 0) h dX10_remove_11 rfl rfl ?_
    refine x_Vv (pc := 12) (av := fun ad => []) (rest := []) h m_X10_changes i_X10_changes kl_X10_52 hk0 (by decide) rfl (c_X10_changes fu σ k0 hk0) rfl rfl (gCaM rfl) dX10_remove_12 (fun σ12 => ?_)
    refine x_aload_n (pc := 15) (i := 0) h dX10_remove_15 rfl rfl ?_
    refine gf_X10_7 (pc := 16) h hk0 dX10_remove_16 ?_
    refine x_sipush (pc := 19) (v := 282) h dX10_remove_19 (by decide) ?_
    refine x_dup2 (pc := 22) h dX10_remove_22 rfl rfl ?_
    refine x_ialdS (pc := 23) h 282 (t_10_0 hk0) (by decide) (by decide) (by decide) dX10_remove_23 ?_
    refine x_iconst (pc := 24) (v := 1) h dX10_remove_24 (by decide) ?_
    refine x_isub (pc := 25) h dX10_remove_25 ?_
    refine x_iast (pc := 26) h (t_10_0 hk0) dX10_remove_26 (fun σ26 => ?_)
    refine x_bipush (pc := 27) (v := 13) h dX10_remove_27 (by decide) ?_
    refine x_iload_n (pc := 29) (i := 1) h dX10_remove_29 rfl rfl ?_
    refine x_imul (pc := 30) h dX10_remove_30 ?_
    refine x_istore_n (pc := 31) (i := 2) (L' := [some (.ref (gAd Γ.1 k0)), some (.int p1), some (.int (13 * p1))]) h dX10_remove_31 rfl (Nat.le_of_ble_eq_true rfl) rfl ?_
    exact At.mask [true, false, true] rfl rfl (f_X10_remove_W32_at fu k0 p1 h z hk0 fu (13 * p1) σ26)
  · refine x_ldc (pc := 8) h kc_X10_50 dX10_remove_8 ?_
    exact x_ireti (pc := 10) h z .int rfl rfl dX10_remove_10

set_option maxRecDepth 20000 in
set_option maxHeartbeats 4000000 in
theorem c_X0_isCorrected (fu : Nat) (σ : gSt) (k0 : Nat) (p1 : Int32) (hk0 : isO k0 0) : gCt yX0_isCorrected cX0_isCorrected 2 (some .boolean) 0 0 (gQp σ) (fun ad => [.ref (ad k0), .int p1]) σ (f_X0_isCorrected fu σ k0 p1) := by
  refine gCt_intro RX0 rfl (by decide +kernel) (fun ad v hv => by simp only [List.mem_cons, List.not_mem_nil, or_false] at hv; rcases hv with rfl | rfl <;> rfl) (fun ad => Nat.le_of_ble_eq_true rfl) (fun Γ h z => ?_)
  show At Γ 0 [some (.ref (gAd Γ.1 k0)), some (.int p1)] [] σ _
  unfold f_X0_isCorrected
  refine x_iload_n (pc := 0) (i := 1) h dX0_isCorrected_0 rfl rfl ?_
  refine x_if_lt (pc := 1) (tgt := 24) h dX0_isCorrected_1 (by decide) ?_ ?_
  · refine x_iconst (pc := 24) (v := 0) h dX0_isCorrected_24 (by decide) ?_
    exact x_iretp (pc := 25) h z rfl .boolean rfl rfl dX0_isCorrected_25
  · refine x_iload_n (pc := 4) (i := 1) h dX0_isCorrected_4 rfl rfl ?_
    refine x_bipush (pc := 5) (v := 16) h dX0_isCorrected_5 (by decide) ?_
    refine x_icmp_ge (pc := 7) (tgt := 24) h dX0_isCorrected_7 (by decide) ?_ ?_
    · refine x_iconst (pc := 24) (v := 0) h dX0_isCorrected_24 (by decide) ?_
      exact x_iretp (pc := 25) h z rfl .boolean rfl rfl dX0_isCorrected_25
    · refine x_aload_n (pc := 10) (i := 0) h dX0_isCorrected_10 rfl rfl ?_
      refine gf_X0_9 (pc := 11) h hk0 dX0_isCorrected_11 ?_
      refine x_iload_n (pc := 14) (i := 1) h dX0_isCorrected_14 rfl rfl ?_
      refine x_iald (pc := 15) h (t_0_0 hk0) dX0_isCorrected_15 (fun v15 => ?_)
      refine x_iconst (pc := 16) (v := (-1)) h dX0_isCorrected_16 (by decide) ?_
      refine x_icmp_eq (pc := 17) (tgt := 24) h dX0_isCorrected_17 (by decide) ?_ ?_
      · refine x_iconst (pc := 24) (v := 0) h dX0_isCorrected_24 (by decide) ?_
        exact x_iretp (pc := 25) h z rfl .boolean rfl rfl dX0_isCorrected_25
      · refine x_iconst (pc := 20) (v := 1) h dX0_isCorrected_20 (by decide) ?_
        refine x_goto (pc := 21) (tgt := 25) h dX0_isCorrected_21 (by decide) ?_
        exact x_iretp (pc := 25) h z rfl .boolean rfl rfl dX0_isCorrected_25

set_option maxRecDepth 20000 in
set_option maxHeartbeats 4000000 in
theorem f_X0_leadsTo_J38_at (fu : Nat) (σ : gSt) (k0 : Nat) (p1 : Int32) (p2 : Int32) {Γ : gX (Int32)} (h : gOk Γ cX0_leadsTo 5 RX0 (some .boolean) 1 21) (z : gEnd Γ (gQp σ)) (hk0 : isO k0 0) (x3 : Int32) : At Γ 38 [none, none, some (.int p2), some (.int x3), none] [] σ (f_X0_leadsTo_J38 fu σ k0 p1 p2 x3) := by
  unfold f_X0_leadsTo_J38
  refine x_iload_n (pc := 38) (i := 3) h dX0_leadsTo_38 rfl rfl ?_
  refine x_iload_n (pc := 39) (i := 2) h dX0_leadsTo_39 rfl rfl ?_
  refine x_icmp_ne (pc := 40) (tgt := 47) h dX0_leadsTo_40 (by decide) ?_ ?_
  · refine x_iconst (pc := 47) (v := 0) h dX0_leadsTo_47 (by decide) ?_
    exact x_iretp (pc := 48) h z rfl .boolean rfl rfl dX0_leadsTo_48
  · refine x_iconst (pc := 43) (v := 1) h dX0_leadsTo_43 (by decide) ?_
    refine x_goto (pc := 44) (tgt := 48) h dX0_leadsTo_44 (by decide) ?_
    exact x_iretp (pc := 48) h z rfl .boolean rfl rfl dX0_leadsTo_48

set_option maxRecDepth 20000 in
set_option maxHeartbeats 4000000 in
theorem f_X0_leadsTo_L5_at (fu : Nat) (σ : gSt) (k0 : Nat) (p1 : Int32) (p2 : Int32) (ag5 : Int32 → Int32 → Option (Int32)) {Γ : gX (Int32)} (h : gOk Γ cX0_leadsTo 5 RX0 (some .boolean) 1 21) (z : gEnd Γ (gQp σ)) (hk0 : isO k0 0) (hg5 : ∀ (y3 : Int32) (y4 : Int32), At Γ 5 [some (.ref (gAd Γ.1 k0)), none, some (.int p2), some (.int y3), some (.int y4)] [] σ (ag5 y3 y4)) (x3 : Int32) (x4 : Int32) : At Γ 5 [some (.ref (gAd Γ.1 k0)), none, some (.int p2), some (.int x3), some (.int x4)] [] σ (f_X0_leadsTo_L5 fu σ k0 p1 p2 ag5 x3 x4) := by
  unfold f_X0_leadsTo_L5
  refine x_iload (pc := 5) h dX0_leadsTo_5 rfl ?_
  refine x_bipush (pc := 7) (v := 16) h dX0_leadsTo_7 (by decide) ?_
  refine x_icmp_ge (pc := 9) (tgt := 38) h dX0_leadsTo_9 (by decide) ?_ ?_
  · exact At.mask [false, false, true, true, false] rfl rfl (f_X0_leadsTo_J38_at fu σ k0 p1 p2 h z hk0 x3)
  · refine x_iload_n (pc := 12) (i := 3) h dX0_leadsTo_12 rfl rfl ?_
    refine x_iload_n (pc := 13) (i := 2) h dX0_leadsTo_13 rfl rfl ?_
    refine x_icmp_eq (pc := 14) (tgt := 38) h dX0_leadsTo_14 (by decide) ?_ ?_
    · exact At.mask [false, false, true, true, false] rfl rfl (f_X0_leadsTo_J38_at fu σ k0 p1 p2 h z hk0 x3)
    · refine x_aload_n (pc := 17) (i := 0) h dX0_leadsTo_17 rfl rfl ?_
      refine x_iload_n (pc := 18) (i := 3) h dX0_leadsTo_18 rfl rfl ?_
      refine x_Vp (pc := 19) (av := fun ad => [.int x3]) (rest := []) h m_X0_isCorrected i_X0_isCorrected kl_X0_31 hk0 (by decide) rfl (c_X0_isCorrected fu σ k0 x3 hk0) rfl rfl (gCaM rfl) dX0_leadsTo_19 (fun v19 => ?_)
      refine x_if_eq (pc := 22) (tgt := 38) h dX0_leadsTo_22 (by decide) ?_ ?_
      · exact At.mask [false, false, true, true, false] rfl rfl (f_X0_leadsTo_J38_at fu σ k0 p1 p2 h z hk0 x3)
      · refine x_aload_n (pc := 25) (i := 0) h dX0_leadsTo_25 rfl rfl ?_
        refine gf_X0_9 (pc := 26) h hk0 dX0_leadsTo_26 ?_
        refine x_iload_n (pc := 29) (i := 3) h dX0_leadsTo_29 rfl rfl ?_
        refine x_iald (pc := 30) h (t_0_0 hk0) dX0_leadsTo_30 (fun v30 => ?_)
        refine x_istore_n (pc := 31) (i := 3) (L' := [some (.ref (gAd Γ.1 k0)), none, some (.int p2), some (.int v30), some (.int x4)]) h dX0_leadsTo_31 rfl (Nat.le_of_ble_eq_true rfl) rfl ?_
        refine x_iinc (pc := 32) (i := 4) (v := (x4 + 1)) (L' := [some (.ref (gAd Γ.1 k0)), none, some (.int p2), some (.int v30), some (.int (x4 + 1))]) h dX0_leadsTo_32 rfl rfl rfl ?_
        refine x_goto (pc := 35) (tgt := 5) h dX0_leadsTo_35 (by decide) ?_
        exact At.mask [true, false, true, true, true] rfl rfl (hg5 v30 (x4 + 1))

theorem f_X0_leadsTo_W5_at (fu : Nat) (σ : gSt) (k0 : Nat) (p1 : Int32) (p2 : Int32) {Γ : gX (Int32)} (h : gOk Γ cX0_leadsTo 5 RX0 (some .boolean) 1 21) (z : gEnd Γ (gQp σ)) (hk0 : isO k0 0) : ∀ (n : Nat) (x3 : Int32) (x4 : Int32), At Γ 5 [some (.ref (gAd Γ.1 k0)), none, some (.int p2), some (.int x3), some (.int x4)] [] σ (f_X0_leadsTo_W5 fu σ k0 p1 p2 n x3 x4) := by
  intro n
  induction n with
  | zero => intro x3 x4 r hr; cases hr
  | succ n ih =>
    intro x3 x4
    exact f_X0_leadsTo_L5_at fu σ k0 p1 p2 (f_X0_leadsTo_W5 fu σ k0 p1 p2 n) h z hk0 ih x3 x4

set_option maxRecDepth 20000 in
set_option maxHeartbeats 4000000 in
theorem c_X0_leadsTo (fu : Nat) (σ : gSt) (k0 : Nat) (p1 : Int32) (p2 : Int32) (hk0 : isO k0 0) : gCt yX0_leadsTo cX0_leadsTo 5 (some .boolean) 1 21 (gQp σ) (fun ad => [.ref (ad k0), .int p1, .int p2]) σ (f_X0_leadsTo fu σ k0 p1 p2) := by
  refine gCt_intro RX0 rfl (by decide +kernel) (fun ad v hv => by simp only [List.mem_cons, List.not_mem_nil, or_false] at hv; rcases hv with rfl | rfl | rfl <;> rfl) (fun ad => Nat.le_of_ble_eq_true rfl) (fun Γ h z => ?_)
  show At Γ 0 [some (.ref (gAd Γ.1 k0)), some (.int p1), some (.int p2), none, none] [] σ _
  unfold f_X0_leadsTo
  refine x_iload_n (pc := 0) (i := 1) h dX0_leadsTo_0 rfl rfl ?_
  refine x_istore_n (pc := 1) (i := 3) (L' := [some (.ref (gAd Γ.1 k0)), some (.int p1), some (.int p2), some (.int p1), none]) h dX0_leadsTo_1 rfl (Nat.le_of_ble_eq_true rfl) rfl ?_
  refine x_iconst (pc := 2) (v := 0) h dX0_leadsTo_2 (by decide) ?_
  refine x_istore (pc := 3) (L' := [some (.ref (gAd Γ.1 k0)), some (.int p1), some (.int p2), some (.int p1), some (.int 0)]) h dX0_leadsTo_3 (Nat.le_of_ble_eq_true rfl) rfl ?_
  exact At.mask [true, false, true, true, true] rfl rfl (f_X0_leadsTo_W5_at fu σ k0 p1 p2 h z hk0 fu p1 0)

set_option maxRecDepth 20000 in
set_option maxHeartbeats 4000000 in
theorem c_X0_errorOf (fu : Nat) (σ : gSt) (k0 : Nat) (p1 : Int32) (p2 : Int32) (hk0 : isO k0 0) : gCt yX0_errorOf cX0_errorOf 3 (some .int) 2 45 (gQp σ) (fun ad => [.ref (ad k0), .int p1, .int p2]) σ (f_X0_errorOf fu σ k0 p1 p2) := by
  refine gCt_intro RX0 rfl (by decide +kernel) (fun ad v hv => by simp only [List.mem_cons, List.not_mem_nil, or_false] at hv; rcases hv with rfl | rfl | rfl <;> rfl) (fun ad => Nat.le_of_ble_eq_true rfl) (fun Γ h z => ?_)
  show At Γ 0 [some (.ref (gAd Γ.1 k0)), some (.int p1), some (.int p2)] [] σ _
  unfold f_X0_errorOf
  refine x_iload_n (pc := 0) (i := 1) h dX0_errorOf_0 rfl rfl ?_
  refine x_Sp (pc := 1) (av := fun ad => [.int p1]) (rest := []) h m_X0_isTerm s_X0_isTerm kl_X0_35 (c_X0_isTerm fu σ p1) rfl rfl (gCaM rfl) dX0_errorOf_1 (fun v1 => ?_)
  refine x_if_eq (pc := 4) (tgt := 19) h dX0_errorOf_4 (by decide) ?_ ?_
  · refine x_ldc (pc := 19) h kc_X0_38 dX0_errorOf_19 ?_
    exact x_iretp (pc := 21) h z rfl .int rfl rfl dX0_errorOf_21
  · refine x_iload_n (pc := 7) (i := 2) h dX0_errorOf_7 rfl rfl ?_
    refine x_Sp (pc := 8) (av := fun ad => [.int p2]) (rest := []) h m_X0_isTerm s_X0_isTerm kl_X0_35 (c_X0_isTerm fu σ p2) rfl rfl (gCaM rfl) dX0_errorOf_8 (fun v8 => ?_)
    refine x_if_eq (pc := 11) (tgt := 19) h dX0_errorOf_11 (by decide) ?_ ?_
    · refine x_ldc (pc := 19) h kc_X0_38 dX0_errorOf_19 ?_
      exact x_iretp (pc := 21) h z rfl .int rfl rfl dX0_errorOf_21
    · refine x_iload_n (pc := 14) (i := 1) h dX0_errorOf_14 rfl rfl ?_
      refine x_iload_n (pc := 15) (i := 2) h dX0_errorOf_15 rfl rfl ?_
      refine x_icmp_ne (pc := 16) (tgt := 22) h dX0_errorOf_16 (by decide) ?_ ?_
      · refine x_aload_n (pc := 22) (i := 0) h dX0_errorOf_22 rfl rfl ?_
        refine x_iload_n (pc := 23) (i := 2) h dX0_errorOf_23 rfl rfl ?_
        refine x_iload_n (pc := 24) (i := 1) h dX0_errorOf_24 rfl rfl ?_
        refine x_Vp (pc := 25) (av := fun ad => [.int p2, .int p1]) (rest := []) h m_X0_leadsTo i_X0_leadsTo kl_X0_39 hk0 (by decide) rfl (c_X0_leadsTo fu σ k0 p2 p1 hk0) rfl rfl (gCaM rfl) dX0_errorOf_25 (fun v25 => ?_)
        refine x_if_eq (pc := 28) (tgt := 36) h dX0_errorOf_28 (by decide) ?_ ?_
        · refine x_iconst (pc := 36) (v := 0) h dX0_errorOf_36 (by decide) ?_
          exact x_iretp (pc := 37) h z rfl .int rfl rfl dX0_errorOf_37
        · refine x_ldc (pc := 31) h kc_X0_43 dX0_errorOf_31 ?_
          refine x_goto (pc := 33) (tgt := 37) h dX0_errorOf_33 (by decide) ?_
          exact x_iretp (pc := 37) h z rfl .int rfl rfl dX0_errorOf_37
      · refine x_ldc (pc := 19) h kc_X0_38 dX0_errorOf_19 ?_
        exact x_iretp (pc := 21) h z rfl .int rfl rfl dX0_errorOf_21

set_option maxRecDepth 20000 in
set_option maxHeartbeats 4000000 in
theorem f_X0_shown_L4_at (fu : Nat) (σ : gSt) (k0 : Nat) (p1 : Int32) (ag4 : Int32 → Int32 → Option (Int32)) {Γ : gX (Int32)} (h : gOk Γ cX0_shown 4 RX0 (some .int) 1 21) (z : gEnd Γ (gQp σ)) (hk0 : isO k0 0) (hg4 : ∀ (y2 : Int32) (y3 : Int32), At Γ 4 [some (.ref (gAd Γ.1 k0)), none, some (.int y2), some (.int y3)] [] σ (ag4 y2 y3)) (x2 : Int32) (x3 : Int32) : At Γ 4 [some (.ref (gAd Γ.1 k0)), none, some (.int x2), some (.int x3)] [] σ (f_X0_shown_L4 fu σ k0 p1 ag4 x2 x3) := by
  unfold f_X0_shown_L4
  refine x_iload_n (pc := 4) (i := 3) h dX0_shown_4 rfl rfl ?_
  refine x_bipush (pc := 5) (v := 16) h dX0_shown_5 (by decide) ?_
  refine x_icmp_ge (pc := 7) (tgt := 31) h dX0_shown_7 (by decide) ?_ ?_
  · refine x_iload_n (pc := 31) (i := 2) h dX0_shown_31 rfl rfl ?_
    exact x_iretp (pc := 32) h z rfl .int rfl rfl dX0_shown_32
  · refine x_aload_n (pc := 10) (i := 0) h dX0_shown_10 rfl rfl ?_
    refine x_iload_n (pc := 11) (i := 2) h dX0_shown_11 rfl rfl ?_
    refine x_Vp (pc := 12) (av := fun ad => [.int x2]) (rest := []) h m_X0_isCorrected i_X0_isCorrected kl_X0_31 hk0 (by decide) rfl (c_X0_isCorrected fu σ k0 x2 hk0) rfl rfl (gCaM rfl) dX0_shown_12 (fun v12 => ?_)
    refine x_if_eq (pc := 15) (tgt := 31) h dX0_shown_15 (by decide) ?_ ?_
    · refine x_iload_n (pc := 31) (i := 2) h dX0_shown_31 rfl rfl ?_
      exact x_iretp (pc := 32) h z rfl .int rfl rfl dX0_shown_32
    · refine x_aload_n (pc := 18) (i := 0) h dX0_shown_18 rfl rfl ?_
      refine gf_X0_9 (pc := 19) h hk0 dX0_shown_19 ?_
      refine x_iload_n (pc := 22) (i := 2) h dX0_shown_22 rfl rfl ?_
      refine x_iald (pc := 23) h (t_0_0 hk0) dX0_shown_23 (fun v23 => ?_)
      refine x_istore_n (pc := 24) (i := 2) (L' := [some (.ref (gAd Γ.1 k0)), none, some (.int v23), some (.int x3)]) h dX0_shown_24 rfl (Nat.le_of_ble_eq_true rfl) rfl ?_
      refine x_iinc (pc := 25) (i := 3) (v := (x3 + 1)) (L' := [some (.ref (gAd Γ.1 k0)), none, some (.int v23), some (.int (x3 + 1))]) h dX0_shown_25 rfl rfl rfl ?_
      refine x_goto (pc := 28) (tgt := 4) h dX0_shown_28 (by decide) ?_
      exact At.mask [true, false, true, true] rfl rfl (hg4 v23 (x3 + 1))

theorem f_X0_shown_W4_at (fu : Nat) (σ : gSt) (k0 : Nat) (p1 : Int32) {Γ : gX (Int32)} (h : gOk Γ cX0_shown 4 RX0 (some .int) 1 21) (z : gEnd Γ (gQp σ)) (hk0 : isO k0 0) : ∀ (n : Nat) (x2 : Int32) (x3 : Int32), At Γ 4 [some (.ref (gAd Γ.1 k0)), none, some (.int x2), some (.int x3)] [] σ (f_X0_shown_W4 fu σ k0 p1 n x2 x3) := by
  intro n
  induction n with
  | zero => intro x2 x3 r hr; cases hr
  | succ n ih =>
    intro x2 x3
    exact f_X0_shown_L4_at fu σ k0 p1 (f_X0_shown_W4 fu σ k0 p1 n) h z hk0 ih x2 x3

set_option maxRecDepth 20000 in
set_option maxHeartbeats 4000000 in
theorem c_X0_shown (fu : Nat) (σ : gSt) (k0 : Nat) (p1 : Int32) (hk0 : isO k0 0) : gCt yX0_shown cX0_shown 4 (some .int) 1 21 (gQp σ) (fun ad => [.ref (ad k0), .int p1]) σ (f_X0_shown fu σ k0 p1) := by
  refine gCt_intro RX0 rfl (by decide +kernel) (fun ad v hv => by simp only [List.mem_cons, List.not_mem_nil, or_false] at hv; rcases hv with rfl | rfl <;> rfl) (fun ad => Nat.le_of_ble_eq_true rfl) (fun Γ h z => ?_)
  show At Γ 0 [some (.ref (gAd Γ.1 k0)), some (.int p1), none, none] [] σ _
  unfold f_X0_shown
  refine x_iload_n (pc := 0) (i := 1) h dX0_shown_0 rfl rfl ?_
  refine x_istore_n (pc := 1) (i := 2) (L' := [some (.ref (gAd Γ.1 k0)), some (.int p1), some (.int p1), none]) h dX0_shown_1 rfl (Nat.le_of_ble_eq_true rfl) rfl ?_
  refine x_iconst (pc := 2) (v := 0) h dX0_shown_2 (by decide) ?_
  refine x_istore_n (pc := 3) (i := 3) (L' := [some (.ref (gAd Γ.1 k0)), some (.int p1), some (.int p1), some (.int 0)]) h dX0_shown_3 rfl (Nat.le_of_ble_eq_true rfl) rfl ?_
  exact At.mask [true, false, true, true] rfl rfl (f_X0_shown_W4_at fu σ k0 p1 h z hk0 fu p1 0)

set_option maxRecDepth 20000 in
set_option maxHeartbeats 4000000 in
theorem f_X8_timesTold_L21_at (fu : Nat) (σ : gSt) (k0 : Nat) (p1 : Int32) (ag4 : Int32 → Int32 → Option (Int32)) (x3 : Int32) (ag21 : Int32 → Int32 → Option (Int32)) {Γ : gX (Int32)} (h : gOk Γ cX8_timesTold 5 RX8 (some .int) 0 0) (z : gEnd Γ (gQp σ)) (hk0 : isO k0 8) (hg4 : ∀ (y2 : Int32) (y3 : Int32), At Γ 4 [some (.ref (gAd Γ.1 k0)), some (.int p1), some (.int y2), some (.int y3), none] [] σ (ag4 y2 y3)) (hg21 : ∀ (y2 : Int32) (y4 : Int32), At Γ 21 [some (.ref (gAd Γ.1 k0)), some (.int p1), some (.int y2), some (.int x3), some (.int y4)] [] σ (ag21 y2 y4)) (x2 : Int32) (x4 : Int32) : At Γ 21 [some (.ref (gAd Γ.1 k0)), some (.int p1), some (.int x2), some (.int x3), some (.int x4)] [] σ (f_X8_timesTold_L21 fu σ k0 p1 ag4 x3 ag21 x2 x4) := by
  unfold f_X8_timesTold_L21
  refine x_iload (pc := 21) h dX8_timesTold_21 rfl ?_
  refine x_aload_n (pc := 23) (i := 0) h dX8_timesTold_23 rfl rfl ?_
  refine gf_X8_24 (pc := 24) h hk0 dX8_timesTold_24 ?_
  refine x_iload_n (pc := 27) (i := 3) h dX8_timesTold_27 rfl rfl ?_
  refine x_iald (pc := 28) h (t_8_4 hk0) dX8_timesTold_28 (fun v28 => ?_)
  refine x_icmp_ge (pc := 29) (tgt := 64) h dX8_timesTold_29 (by decide) ?_ ?_
  · refine x_iinc (pc := 64) (i := 3) (v := (x3 + 1)) (L' := [some (.ref (gAd Γ.1 k0)), some (.int p1), some (.int x2), some (.int (x3 + 1)), some (.int x4)]) h dX8_timesTold_64 rfl rfl rfl ?_
    refine x_goto (pc := 67) (tgt := 4) h dX8_timesTold_67 (by decide) ?_
    exact At.mask [true, true, true, true, false] rfl rfl (hg4 x2 (x3 + 1))
  · refine x_iload (pc := 32) h dX8_timesTold_32 rfl ?_
    refine x_bipush (pc := 34) (v := 8) h dX8_timesTold_34 (by decide) ?_
    refine x_icmp_ge (pc := 36) (tgt := 64) h dX8_timesTold_36 (by decide) ?_ ?_
    · refine x_iinc (pc := 64) (i := 3) (v := (x3 + 1)) (L' := [some (.ref (gAd Γ.1 k0)), some (.int p1), some (.int x2), some (.int (x3 + 1)), some (.int x4)]) h dX8_timesTold_64 rfl rfl rfl ?_
      refine x_goto (pc := 67) (tgt := 4) h dX8_timesTold_67 (by decide) ?_
      exact At.mask [true, true, true, true, false] rfl rfl (hg4 x2 (x3 + 1))
    · refine x_aload_n (pc := 39) (i := 0) h dX8_timesTold_39 rfl rfl ?_
      refine gf_X8_27 (pc := 40) h hk0 dX8_timesTold_40 ?_
      refine x_iload_n (pc := 43) (i := 3) h dX8_timesTold_43 rfl rfl ?_
      refine x_bipush (pc := 44) (v := 8) h dX8_timesTold_44 (by decide) ?_
      refine x_imul (pc := 46) h dX8_timesTold_46 ?_
      refine x_iload (pc := 47) h dX8_timesTold_47 rfl ?_
      refine x_iadd (pc := 49) h dX8_timesTold_49 ?_
      refine x_iald (pc := 50) h (t_8_5 hk0) dX8_timesTold_50 (fun v50 => ?_)
      refine x_iload_n (pc := 51) (i := 1) h dX8_timesTold_51 rfl rfl ?_
      refine x_icmp_ne (pc := 52) (tgt := 58) h dX8_timesTold_52 (by decide) ?_ ?_
      · refine x_iinc (pc := 58) (i := 4) (v := (x4 + 1)) (L' := [some (.ref (gAd Γ.1 k0)), some (.int p1), some (.int x2), some (.int x3), some (.int (x4 + 1))]) h dX8_timesTold_58 rfl rfl rfl ?_
        refine x_goto (pc := 61) (tgt := 21) h dX8_timesTold_61 (by decide) ?_
        exact At.mask [true, true, true, true, true] rfl rfl (hg21 x2 (x4 + 1))
      · refine x_iinc (pc := 55) (i := 2) (v := (x2 + 1)) (L' := [some (.ref (gAd Γ.1 k0)), some (.int p1), some (.int (x2 + 1)), some (.int x3), some (.int x4)]) h dX8_timesTold_55 rfl rfl rfl ?_
        refine x_iinc (pc := 58) (i := 4) (v := (x4 + 1)) (L' := [some (.ref (gAd Γ.1 k0)), some (.int p1), some (.int (x2 + 1)), some (.int x3), some (.int (x4 + 1))]) h dX8_timesTold_58 rfl rfl rfl ?_
        refine x_goto (pc := 61) (tgt := 21) h dX8_timesTold_61 (by decide) ?_
        exact At.mask [true, true, true, true, true] rfl rfl (hg21 (x2 + 1) (x4 + 1))

theorem f_X8_timesTold_W21_at (fu : Nat) (σ : gSt) (k0 : Nat) (p1 : Int32) (ag4 : Int32 → Int32 → Option (Int32)) (x3 : Int32) {Γ : gX (Int32)} (h : gOk Γ cX8_timesTold 5 RX8 (some .int) 0 0) (z : gEnd Γ (gQp σ)) (hk0 : isO k0 8) (hg4 : ∀ (y2 : Int32) (y3 : Int32), At Γ 4 [some (.ref (gAd Γ.1 k0)), some (.int p1), some (.int y2), some (.int y3), none] [] σ (ag4 y2 y3)) : ∀ (n : Nat) (x2 : Int32) (x4 : Int32), At Γ 21 [some (.ref (gAd Γ.1 k0)), some (.int p1), some (.int x2), some (.int x3), some (.int x4)] [] σ (f_X8_timesTold_W21 fu σ k0 p1 ag4 x3 n x2 x4) := by
  intro n
  induction n with
  | zero => intro x2 x4 r hr; cases hr
  | succ n ih =>
    intro x2 x4
    exact f_X8_timesTold_L21_at fu σ k0 p1 ag4 x3 (f_X8_timesTold_W21 fu σ k0 p1 ag4 x3 n) h z hk0 hg4 ih x2 x4

set_option maxRecDepth 20000 in
set_option maxHeartbeats 4000000 in
theorem f_X8_timesTold_L4_at (fu : Nat) (σ : gSt) (k0 : Nat) (p1 : Int32) (ag4 : Int32 → Int32 → Option (Int32)) {Γ : gX (Int32)} (h : gOk Γ cX8_timesTold 5 RX8 (some .int) 0 0) (z : gEnd Γ (gQp σ)) (hk0 : isO k0 8) (hg4 : ∀ (y2 : Int32) (y3 : Int32), At Γ 4 [some (.ref (gAd Γ.1 k0)), some (.int p1), some (.int y2), some (.int y3), none] [] σ (ag4 y2 y3)) (x2 : Int32) (x3 : Int32) : At Γ 4 [some (.ref (gAd Γ.1 k0)), some (.int p1), some (.int x2), some (.int x3), none] [] σ (f_X8_timesTold_L4 fu σ k0 p1 ag4 x2 x3) := by
  unfold f_X8_timesTold_L4
  refine x_iload_n (pc := 4) (i := 3) h dX8_timesTold_4 rfl rfl ?_
  refine x_aload_n (pc := 5) (i := 0) h dX8_timesTold_5 rfl rfl ?_
  refine gf_X8_36 (pc := 6) h hk0 dX8_timesTold_6 ?_
  refine x_icmp_ge (pc := 9) (tgt := 70) h dX8_timesTold_9 (by decide) ?_ ?_
  · refine x_iload_n (pc := 70) (i := 2) h dX8_timesTold_70 rfl rfl ?_
    exact x_iretp (pc := 71) h z rfl .int rfl rfl dX8_timesTold_71
  · refine x_iload_n (pc := 12) (i := 3) h dX8_timesTold_12 rfl rfl ?_
    refine x_bipush (pc := 13) (v := 20) h dX8_timesTold_13 (by decide) ?_
    refine x_icmp_ge (pc := 15) (tgt := 70) h dX8_timesTold_15 (by decide) ?_ ?_
    · refine x_iload_n (pc := 70) (i := 2) h dX8_timesTold_70 rfl rfl ?_
      exact x_iretp (pc := 71) h z rfl .int rfl rfl dX8_timesTold_71
    · refine x_iconst (pc := 18) (v := 0) h dX8_timesTold_18 (by decide) ?_
      refine x_istore (pc := 19) (L' := [some (.ref (gAd Γ.1 k0)), some (.int p1), some (.int x2), some (.int x3), some (.int 0)]) h dX8_timesTold_19 (Nat.le_of_ble_eq_true rfl) rfl ?_
      exact At.mask [true, true, true, true, true] rfl rfl (f_X8_timesTold_W21_at fu σ k0 p1 ag4 x3 h z hk0 hg4 fu x2 0)

theorem f_X8_timesTold_W4_at (fu : Nat) (σ : gSt) (k0 : Nat) (p1 : Int32) {Γ : gX (Int32)} (h : gOk Γ cX8_timesTold 5 RX8 (some .int) 0 0) (z : gEnd Γ (gQp σ)) (hk0 : isO k0 8) : ∀ (n : Nat) (x2 : Int32) (x3 : Int32), At Γ 4 [some (.ref (gAd Γ.1 k0)), some (.int p1), some (.int x2), some (.int x3), none] [] σ (f_X8_timesTold_W4 fu σ k0 p1 n x2 x3) := by
  intro n
  induction n with
  | zero => intro x2 x3 r hr; cases hr
  | succ n ih =>
    intro x2 x3
    exact f_X8_timesTold_L4_at fu σ k0 p1 (f_X8_timesTold_W4 fu σ k0 p1 n) h z hk0 ih x2 x3

set_option maxRecDepth 20000 in
set_option maxHeartbeats 4000000 in
theorem c_X8_timesTold (fu : Nat) (σ : gSt) (k0 : Nat) (p1 : Int32) (hk0 : isO k0 8) : gCt yX8_timesTold cX8_timesTold 5 (some .int) 0 0 (gQp σ) (fun ad => [.ref (ad k0), .int p1]) σ (f_X8_timesTold fu σ k0 p1) := by
  refine gCt_intro RX8 rfl (by decide +kernel) (fun ad v hv => by simp only [List.mem_cons, List.not_mem_nil, or_false] at hv; rcases hv with rfl | rfl <;> rfl) (fun ad => Nat.le_of_ble_eq_true rfl) (fun Γ h z => ?_)
  show At Γ 0 [some (.ref (gAd Γ.1 k0)), some (.int p1), none, none, none] [] σ _
  unfold f_X8_timesTold
  refine x_iconst (pc := 0) (v := 0) h dX8_timesTold_0 (by decide) ?_
  refine x_istore_n (pc := 1) (i := 2) (L' := [some (.ref (gAd Γ.1 k0)), some (.int p1), some (.int 0), none, none]) h dX8_timesTold_1 rfl (Nat.le_of_ble_eq_true rfl) rfl ?_
  refine x_iconst (pc := 2) (v := 0) h dX8_timesTold_2 (by decide) ?_
  refine x_istore_n (pc := 3) (i := 3) (L' := [some (.ref (gAd Γ.1 k0)), some (.int p1), some (.int 0), some (.int 0), none]) h dX8_timesTold_3 rfl (Nat.le_of_ble_eq_true rfl) rfl ?_
  exact At.mask [true, true, true, true, false] rfl rfl (f_X8_timesTold_W4_at fu σ k0 p1 h z hk0 fu 0 0)

set_option maxRecDepth 20000 in
set_option maxHeartbeats 4000000 in
theorem f_X7_placesReshown_L19_at (fu : Nat) (σ : gSt) (k0 : Nat) (p1 : Int32) (p2 : Int32) (ag19 : Int32 → Int32 → Option (Int32)) {Γ : gX (Int32)} (h : gOk Γ cX7_placesReshown 5 RX7 (some .int) 2 45) (z : gEnd Γ (gQp σ)) (hk0 : isO k0 7) (hg19 : ∀ (y3 : Int32) (y4 : Int32), At Γ 19 [some (.ref (gAd Γ.1 k0)), some (.int p1), none, some (.int y3), some (.int y4)] [] σ (ag19 y3 y4)) (x3 : Int32) (x4 : Int32) : At Γ 19 [some (.ref (gAd Γ.1 k0)), some (.int p1), none, some (.int x3), some (.int x4)] [] σ (f_X7_placesReshown_L19 fu σ k0 p1 p2 ag19 x3 x4) := by
  unfold f_X7_placesReshown_L19
  refine x_iload (pc := 19) h dX7_placesReshown_19 rfl ?_
  refine x_bipush (pc := 21) (v := 16) h dX7_placesReshown_21 (by decide) ?_
  refine x_icmp_ge (pc := 23) (tgt := 57) h dX7_placesReshown_23 (by decide) ?_ ?_
  · refine x_iload_n (pc := 57) (i := 3) h dX7_placesReshown_57 rfl rfl ?_
    exact x_iretp (pc := 58) h z rfl .int rfl rfl dX7_placesReshown_58
  · refine x_aload_n (pc := 26) (i := 0) h dX7_placesReshown_26 rfl rfl ?_
    refine gf_X7_21 (pc := 27) h hk0 dX7_placesReshown_27 ?_
    refine x_iload (pc := 30) h dX7_placesReshown_30 rfl ?_
    refine x_iload_n (pc := 32) (i := 1) h dX7_placesReshown_32 rfl rfl ?_
    refine x_Vp (pc := 33) (av := fun ad => [.int x4, .int p1]) (rest := []) h m_X0_leadsTo i_X0_leadsTo kl_X7_154 (t_7_1 hk0) (by decide) rfl (c_X0_leadsTo fu σ (k0 + 8) x4 p1 (t_7_1 hk0)) rfl rfl (gCaM rfl) dX7_placesReshown_33 (fun v33 => ?_)
    refine x_if_eq (pc := 36) (tgt := 51) h dX7_placesReshown_36 (by decide) ?_ ?_
    · refine x_iinc (pc := 51) (i := 4) (v := (x4 + 1)) (L' := [some (.ref (gAd Γ.1 k0)), some (.int p1), none, some (.int x3), some (.int (x4 + 1))]) h dX7_placesReshown_51 rfl rfl rfl ?_
      refine x_goto (pc := 54) (tgt := 19) h dX7_placesReshown_54 (by decide) ?_
      exact At.mask [true, true, false, true, true] rfl rfl (hg19 x3 (x4 + 1))
    · refine x_iload_n (pc := 39) (i := 3) h dX7_placesReshown_39 rfl rfl ?_
      refine x_aload_n (pc := 40) (i := 0) h dX7_placesReshown_40 rfl rfl ?_
      refine gf_X7_12 (pc := 41) h hk0 dX7_placesReshown_41 ?_
      refine x_iload (pc := 44) h dX7_placesReshown_44 rfl ?_
      refine x_Vp (pc := 46) (av := fun ad => [.int x4]) (rest := [.int x3]) h m_X8_timesTold i_X8_timesTold kl_X7_158 (t_7_0 hk0) (by decide) rfl (c_X8_timesTold fu σ (k0 + 1) x4 (t_7_0 hk0)) rfl rfl (gCaM rfl) dX7_placesReshown_46 (fun v46 => ?_)
      refine x_iadd (pc := 49) h dX7_placesReshown_49 ?_
      refine x_istore_n (pc := 50) (i := 3) (L' := [some (.ref (gAd Γ.1 k0)), some (.int p1), none, some (.int (x3 + v46)), some (.int x4)]) h dX7_placesReshown_50 rfl (Nat.le_of_ble_eq_true rfl) rfl ?_
      refine x_iinc (pc := 51) (i := 4) (v := (x4 + 1)) (L' := [some (.ref (gAd Γ.1 k0)), some (.int p1), none, some (.int (x3 + v46)), some (.int (x4 + 1))]) h dX7_placesReshown_51 rfl rfl rfl ?_
      refine x_goto (pc := 54) (tgt := 19) h dX7_placesReshown_54 (by decide) ?_
      exact At.mask [true, true, false, true, true] rfl rfl (hg19 (x3 + v46) (x4 + 1))

theorem f_X7_placesReshown_W19_at (fu : Nat) (σ : gSt) (k0 : Nat) (p1 : Int32) (p2 : Int32) {Γ : gX (Int32)} (h : gOk Γ cX7_placesReshown 5 RX7 (some .int) 2 45) (z : gEnd Γ (gQp σ)) (hk0 : isO k0 7) : ∀ (n : Nat) (x3 : Int32) (x4 : Int32), At Γ 19 [some (.ref (gAd Γ.1 k0)), some (.int p1), none, some (.int x3), some (.int x4)] [] σ (f_X7_placesReshown_W19 fu σ k0 p1 p2 n x3 x4) := by
  intro n
  induction n with
  | zero => intro x3 x4 r hr; cases hr
  | succ n ih =>
    intro x3 x4
    exact f_X7_placesReshown_L19_at fu σ k0 p1 p2 (f_X7_placesReshown_W19 fu σ k0 p1 p2 n) h z hk0 ih x3 x4

set_option maxRecDepth 20000 in
set_option maxHeartbeats 4000000 in
theorem c_X7_placesReshown (fu : Nat) (σ : gSt) (k0 : Nat) (p1 : Int32) (p2 : Int32) (hk0 : isO k0 7) : gCt yX7_placesReshown cX7_placesReshown 5 (some .int) 2 45 (gQp σ) (fun ad => [.ref (ad k0), .int p1, .int p2]) σ (f_X7_placesReshown fu σ k0 p1 p2) := by
  refine gCt_intro RX7 rfl (by decide +kernel) (fun ad v hv => by simp only [List.mem_cons, List.not_mem_nil, or_false] at hv; rcases hv with rfl | rfl | rfl <;> rfl) (fun ad => Nat.le_of_ble_eq_true rfl) (fun Γ h z => ?_)
  show At Γ 0 [some (.ref (gAd Γ.1 k0)), some (.int p1), some (.int p2), none, none] [] σ _
  unfold f_X7_placesReshown
  refine x_aload_n (pc := 0) (i := 0) h dX7_placesReshown_0 rfl rfl ?_
  refine gf_X7_21 (pc := 1) h hk0 dX7_placesReshown_1 ?_
  refine x_iload_n (pc := 4) (i := 1) h dX7_placesReshown_4 rfl rfl ?_
  refine x_Vp (pc := 5) (av := fun ad => [.int p1]) (rest := []) h m_X0_shown i_X0_shown kl_X7_115 (t_7_1 hk0) (by decide) rfl (c_X0_shown fu σ (k0 + 8) p1 (t_7_1 hk0)) rfl rfl (gCaM rfl) dX7_placesReshown_5 (fun v5 => ?_)
  refine x_iload_n (pc := 8) (i := 2) h dX7_placesReshown_8 rfl rfl ?_
  refine x_icmp_ne (pc := 9) (tgt := 14) h dX7_placesReshown_9 (by decide) ?_ ?_
  · refine x_iconst (pc := 14) (v := 0) h dX7_placesReshown_14 (by decide) ?_
    refine x_istore_n (pc := 15) (i := 3) (L' := [some (.ref (gAd Γ.1 k0)), some (.int p1), some (.int p2), some (.int 0), none]) h dX7_placesReshown_15 rfl (Nat.le_of_ble_eq_true rfl) rfl ?_
    refine x_iconst (pc := 16) (v := 0) h dX7_placesReshown_16 (by decide) ?_
    refine x_istore (pc := 17) (L' := [some (.ref (gAd Γ.1 k0)), some (.int p1), some (.int p2), some (.int 0), some (.int 0)]) h dX7_placesReshown_17 (Nat.le_of_ble_eq_true rfl) rfl ?_
    exact At.mask [true, true, false, true, true] rfl rfl (f_X7_placesReshown_W19_at fu σ k0 p1 p2 h z hk0 fu 0 0)
  · refine x_iconst (pc := 12) (v := 0) h dX7_placesReshown_12 (by decide) ?_
    exact x_iretp (pc := 13) h z rfl .int rfl rfl dX7_placesReshown_13

set_option maxRecDepth 20000 in
set_option maxHeartbeats 4000000 in
theorem c_X0_put (fu : Nat) (σ : gSt) (k0 : Nat) (p1 : Int32) (p2 : Int32) (hk0 : isO k0 0) : gCt yX0_put cX0_put 3 none 2 42 gQv (fun ad => [.ref (ad k0), .int p1, .int p2]) σ (f_X0_put fu σ k0 p1 p2) := by
  refine gCt_intro RX0 rfl (by decide +kernel) (fun ad v hv => by simp only [List.mem_cons, List.not_mem_nil, or_false] at hv; rcases hv with rfl | rfl | rfl <;> rfl) (fun ad => Nat.le_of_ble_eq_true rfl) (fun Γ h z => ?_)
  show At Γ 0 [some (.ref (gAd Γ.1 k0)), some (.int p1), some (.int p2)] [] σ _
  unfold f_X0_put
  refine x_iload_n (pc := 0) (i := 1) h dX0_put_0 rfl rfl ?_
  refine x_Sp (pc := 1) (av := fun ad => [.int p1]) (rest := []) h m_X0_isTerm s_X0_isTerm kl_X0_35 (c_X0_isTerm fu σ p1) rfl rfl (gCaM rfl) dX0_put_1 (fun v1 => ?_)
  refine x_if_eq (pc := 4) (tgt := 14) h dX0_put_4 (by decide) ?_ ?_
  · exact x_vret (pc := 14) h z rfl dX0_put_14
  · refine x_aload_n (pc := 7) (i := 0) h dX0_put_7 rfl rfl ?_
    refine gf_X0_9 (pc := 8) h hk0 dX0_put_8 ?_
    refine x_iload_n (pc := 11) (i := 1) h dX0_put_11 rfl rfl ?_
    refine x_iload_n (pc := 12) (i := 2) h dX0_put_12 rfl rfl ?_
    refine x_iast (pc := 13) h (t_0_0 hk0) dX0_put_13 (fun σ13 => ?_)
    exact x_vret (pc := 14) h z rfl dX0_put_14

set_option maxRecDepth 20000 in
set_option maxHeartbeats 4000000 in
theorem c_X7_addCorrection (fu : Nat) (σ : gSt) (k0 : Nat) (p1 : Int32) (p2 : Int32) (hk0 : isO k0 7) : gCt yX7_addCorrection cX7_addCorrection 5 (some .int) 3 69 gQi (fun ad => [.ref (ad k0), .int p1, .int p2]) σ (f_X7_addCorrection fu σ k0 p1 p2) := by
  refine gCt_intro RX7 rfl (by decide +kernel) (fun ad v hv => by simp only [List.mem_cons, List.not_mem_nil, or_false] at hv; rcases hv with rfl | rfl | rfl <;> rfl) (fun ad => Nat.le_of_ble_eq_true rfl) (fun Γ h z => ?_)
  show At Γ 0 [some (.ref (gAd Γ.1 k0)), some (.int p1), some (.int p2), none, none] [] σ _
  unfold f_X7_addCorrection
  refine x_aload_n (pc := 0) (i := 0) h dX7_addCorrection_0 rfl rfl ?_
  refine gf_X7_21 (pc := 1) h hk0 dX7_addCorrection_1 ?_
  refine x_iload_n (pc := 4) (i := 1) h dX7_addCorrection_4 rfl rfl ?_
  refine x_iload_n (pc := 5) (i := 2) h dX7_addCorrection_5 rfl rfl ?_
  refine x_Vp (pc := 6) (av := fun ad => [.int p1, .int p2]) (rest := []) h m_X0_errorOf i_X0_errorOf kl_X7_111 (t_7_1 hk0) (by decide) rfl (c_X0_errorOf fu σ (k0 + 8) p1 p2 (t_7_1 hk0)) rfl rfl (gCaM rfl) dX7_addCorrection_6 (fun v6 => ?_)
  refine x_istore_n (pc := 9) (i := 3) (L' := [some (.ref (gAd Γ.1 k0)), some (.int p1), some (.int p2), some (.int v6), none]) h dX7_addCorrection_9 rfl (Nat.le_of_ble_eq_true rfl) rfl ?_
  refine x_iload_n (pc := 10) (i := 3) h dX7_addCorrection_10 rfl rfl ?_
  refine x_if_eq (pc := 11) (tgt := 16) h dX7_addCorrection_11 (by decide) ?_ ?_
  · refine x_aload_n (pc := 16) (i := 0) h dX7_addCorrection_16 rfl rfl ?_
    refine x_iload_n (pc := 17) (i := 1) h dX7_addCorrection_17 rfl rfl ?_
    refine x_aload_n (pc := 18) (i := 0) h dX7_addCorrection_18 rfl rfl ?_
    refine gf_X7_21 (pc := 19) h hk0 dX7_addCorrection_19 ?_
    refine x_iload_n (pc := 22) (i := 2) h dX7_addCorrection_22 rfl rfl ?_
    refine x_Vp (pc := 23) (av := fun ad => [.int p2]) (rest := [.int p1, .ref (gAd Γ.1 k0)]) h m_X0_shown i_X0_shown kl_X7_115 (t_7_1 hk0) (by decide) rfl (c_X0_shown fu σ (k0 + 8) p2 (t_7_1 hk0)) rfl rfl (gCaM rfl) dX7_addCorrection_23 (fun v23 => ?_)
    refine x_Vp (pc := 26) (av := fun ad => [.int p1, .int v23]) (rest := []) h m_X7_placesReshown i_X7_placesReshown kl_X7_118 hk0 (by decide) rfl (c_X7_placesReshown fu σ k0 p1 v23 hk0) rfl rfl (gCaM rfl) dX7_addCorrection_26 (fun v26 => ?_)
    refine x_istore (pc := 29) (L' := [some (.ref (gAd Γ.1 k0)), some (.int p1), some (.int p2), some (.int v6), some (.int v26)]) h dX7_addCorrection_29 (Nat.le_of_ble_eq_true rfl) rfl ?_
    refine x_aload_n (pc := 31) (i := 0) h dX7_addCorrection_31 rfl rfl ?_
    refine gf_X7_21 (pc := 32) h hk0 dX7_addCorrection_32 ?_
    refine x_iload_n (pc := 35) (i := 1) h dX7_addCorrection_35 rfl rfl ?_
    refine x_iload_n (pc := 36) (i := 2) h dX7_addCorrection_36 rfl rfl ?_
    refine x_Vv (pc := 37) (av := fun ad => [.int p1, .int p2]) (rest := []) h m_X0_put i_X0_put kl_X7_121 (t_7_1 hk0) (by decide) rfl (c_X0_put fu σ (k0 + 8) p1 p2 (t_7_1 hk0)) rfl rfl (gCaM rfl) dX7_addCorrection_37 (fun σ37 => ?_)
    refine x_iload (pc := 40) h dX7_addCorrection_40 rfl ?_
    exact x_ireti (pc := 42) h z .int rfl rfl dX7_addCorrection_42
  · refine x_iload_n (pc := 14) (i := 3) h dX7_addCorrection_14 rfl rfl ?_
    exact x_ireti (pc := 15) h z .int rfl rfl dX7_addCorrection_15

set_option maxRecDepth 20000 in
set_option maxHeartbeats 4000000 in
theorem c_X9_correct (fu : Nat) (σ : gSt) (k0 : Nat) (p1 : Int32) (p2 : Int32) (hk0 : isO k0 9) : gCt yX9_correct cX9_correct 3 (some .int) 6 135 gQi (fun ad => [.ref (ad k0), .int p1, .int p2]) σ (f_X9_correct fu σ k0 p1 p2) := by
  refine gCt_intro RX9 rfl (by decide +kernel) (fun ad v hv => by simp only [List.mem_cons, List.not_mem_nil, or_false] at hv; rcases hv with rfl | rfl | rfl <;> rfl) (fun ad => Nat.le_of_ble_eq_true rfl) (fun Γ h z => ?_)
  show At Γ 0 [some (.ref (gAd Γ.1 k0)), some (.int p1), some (.int p2)] [] σ _
  unfold f_X9_correct
  refine x_aload_n (pc := 0) (i := 0) h dX9_correct_0 rfl rfl ?_
  refine gf_X9_16 (pc := 1) h hk0 dX9_correct_1 ?_
  refine x_aload_n (pc := 4) (i := 0) h dX9_correct_4 rfl rfl ?_
  refine gf_X9_10 (pc := 5) h hk0 dX9_correct_5 ?_
  refine x_Vv (pc := 8) (av := fun ad => [.ref (ad (k0 + 10))]) (rest := []) h m_X7_takeFrom i_X7_takeFrom kl_X9_51 (t_9_1 hk0) (by decide) rfl (c_X7_takeFrom fu σ (k0 + 22) (k0 + 10) (t_9_1 hk0) (t_9_0 hk0)) rfl rfl (gCaM rfl) dX9_correct_8 (fun σ8 => ?_)
  refine x_aload_n (pc := 11) (i := 0) h dX9_correct_11 rfl rfl ?_
  refine x_aload_n (pc := 12) (i := 0) h dX9_correct_12 rfl rfl ?_
  refine gf_X9_10 (pc := 13) h hk0 dX9_correct_13 ?_
  refine x_iload_n (pc := 16) (i := 1) h dX9_correct_16 rfl rfl ?_
  refine x_iload_n (pc := 17) (i := 2) h dX9_correct_17 rfl rfl ?_
  refine x_Vi (pc := 18) (av := fun ad => [.int p1, .int p2]) (rest := [.ref (gAd Γ.1 k0)]) h m_X7_addCorrection i_X7_addCorrection kl_X9_72 (t_9_0 hk0) (by decide) rfl (c_X7_addCorrection fu σ8 (k0 + 10) p1 p2 (t_9_0 hk0)) rfl rfl (gCaM rfl) dX9_correct_18 (fun v18 σ18 => ?_)
  refine x_Vi (pc := 21) (av := fun ad => [.int v18]) (rest := []) h m_X9_recorded i_X9_recorded kl_X9_58 hk0 (by decide) rfl (c_X9_recorded fu σ18 k0 v18 hk0) rfl rfl (gCaM rfl) dX9_correct_21 (fun v21 σ21 => ?_)
  exact x_ireti (pc := 24) h z .int rfl rfl dX9_correct_24

set_option maxRecDepth 20000 in
set_option maxHeartbeats 4000000 in
theorem f_X10_isOn_J34_at (fu : Nat) (σ : gSt) (k0 : Nat) (p1 : Int32) (p2 : Int32) {Γ : gX (Int32)} (h : gOk Γ cX10_isOn 4 RX10 (some .boolean) 0 0) (z : gEnd Γ (gQp σ)) (hk0 : isO k0 10) (x3 : Int32) : At Γ 34 [none, some (.int p1), none, some (.int x3)] [] σ (f_X10_isOn_J34 fu σ k0 p1 p2 x3) := by
  unfold f_X10_isOn_J34
  refine x_iload_n (pc := 34) (i := 3) h dX10_isOn_34 rfl rfl ?_
  refine x_iload_n (pc := 35) (i := 1) h dX10_isOn_35 rfl rfl ?_
  refine x_icmp_ne (pc := 36) (tgt := 43) h dX10_isOn_36 (by decide) ?_ ?_
  · refine x_iconst (pc := 43) (v := 0) h dX10_isOn_43 (by decide) ?_
    exact x_iretp (pc := 44) h z rfl .boolean rfl rfl dX10_isOn_44
  · refine x_iconst (pc := 39) (v := 1) h dX10_isOn_39 (by decide) ?_
    refine x_goto (pc := 40) (tgt := 44) h dX10_isOn_40 (by decide) ?_
    exact x_iretp (pc := 44) h z rfl .boolean rfl rfl dX10_isOn_44

set_option maxRecDepth 20000 in
set_option maxHeartbeats 4000000 in
theorem f_X10_isOn_L2_at (fu : Nat) (σ : gSt) (k0 : Nat) (p1 : Int32) (p2 : Int32) (ag2 : Int32 → Option (Int32)) {Γ : gX (Int32)} (h : gOk Γ cX10_isOn 4 RX10 (some .boolean) 0 0) (z : gEnd Γ (gQp σ)) (hk0 : isO k0 10) (hg2 : ∀ (y3 : Int32), At Γ 2 [some (.ref (gAd Γ.1 k0)), some (.int p1), none, some (.int y3)] [] σ (ag2 y3)) (x3 : Int32) : At Γ 2 [some (.ref (gAd Γ.1 k0)), some (.int p1), none, some (.int x3)] [] σ (f_X10_isOn_L2 fu σ k0 p1 p2 ag2 x3) := by
  unfold f_X10_isOn_L2
  refine x_iload_n (pc := 2) (i := 3) h dX10_isOn_2 rfl rfl ?_
  refine x_iload_n (pc := 3) (i := 1) h dX10_isOn_3 rfl rfl ?_
  refine x_icmp_eq (pc := 4) (tgt := 34) h dX10_isOn_4 (by decide) ?_ ?_
  · exact At.mask [false, true, false, true] rfl rfl (f_X10_isOn_J34_at fu σ k0 p1 p2 h z hk0 x3)
  · refine x_aload_n (pc := 7) (i := 0) h dX10_isOn_7 rfl rfl ?_
    refine gf_X10_7 (pc := 8) h hk0 dX10_isOn_8 ?_
    refine x_sipush (pc := 11) (v := 260) h dX10_isOn_11 (by decide) ?_
    refine x_iload_n (pc := 14) (i := 3) h dX10_isOn_14 rfl rfl ?_
    refine x_iadd (pc := 15) h dX10_isOn_15 ?_
    refine x_iald (pc := 16) h (t_10_0 hk0) dX10_isOn_16 (fun v16 => ?_)
    refine x_if_lt (pc := 17) (tgt := 34) h dX10_isOn_17 (by decide) ?_ ?_
    · exact At.mask [false, true, false, true] rfl rfl (f_X10_isOn_J34_at fu σ k0 p1 p2 h z hk0 x3)
    · refine x_aload_n (pc := 20) (i := 0) h dX10_isOn_20 rfl rfl ?_
      refine gf_X10_7 (pc := 21) h hk0 dX10_isOn_21 ?_
      refine x_sipush (pc := 24) (v := 260) h dX10_isOn_24 (by decide) ?_
      refine x_iload_n (pc := 27) (i := 3) h dX10_isOn_27 rfl rfl ?_
      refine x_iadd (pc := 28) h dX10_isOn_28 ?_
      refine x_iald (pc := 29) h (t_10_0 hk0) dX10_isOn_29 (fun v29 => ?_)
      refine x_istore_n (pc := 30) (i := 3) (L' := [some (.ref (gAd Γ.1 k0)), some (.int p1), none, some (.int v29)]) h dX10_isOn_30 rfl (Nat.le_of_ble_eq_true rfl) rfl ?_
      refine x_goto (pc := 31) (tgt := 2) h dX10_isOn_31 (by decide) ?_
      exact At.mask [true, true, false, true] rfl rfl (hg2 v29)

theorem f_X10_isOn_W2_at (fu : Nat) (σ : gSt) (k0 : Nat) (p1 : Int32) (p2 : Int32) {Γ : gX (Int32)} (h : gOk Γ cX10_isOn 4 RX10 (some .boolean) 0 0) (z : gEnd Γ (gQp σ)) (hk0 : isO k0 10) : ∀ (n : Nat) (x3 : Int32), At Γ 2 [some (.ref (gAd Γ.1 k0)), some (.int p1), none, some (.int x3)] [] σ (f_X10_isOn_W2 fu σ k0 p1 p2 n x3) := by
  intro n
  induction n with
  | zero => intro x3 r hr; cases hr
  | succ n ih =>
    intro x3
    exact f_X10_isOn_L2_at fu σ k0 p1 p2 (f_X10_isOn_W2 fu σ k0 p1 p2 n) h z hk0 ih x3

set_option maxRecDepth 20000 in
set_option maxHeartbeats 4000000 in
theorem c_X10_isOn (fu : Nat) (σ : gSt) (k0 : Nat) (p1 : Int32) (p2 : Int32) (hk0 : isO k0 10) : gCt yX10_isOn cX10_isOn 4 (some .boolean) 0 0 (gQp σ) (fun ad => [.ref (ad k0), .int p1, .int p2]) σ (f_X10_isOn fu σ k0 p1 p2) := by
  refine gCt_intro RX10 rfl (by decide +kernel) (fun ad v hv => by simp only [List.mem_cons, List.not_mem_nil, or_false] at hv; rcases hv with rfl | rfl | rfl <;> rfl) (fun ad => Nat.le_of_ble_eq_true rfl) (fun Γ h z => ?_)
  show At Γ 0 [some (.ref (gAd Γ.1 k0)), some (.int p1), some (.int p2), none] [] σ _
  unfold f_X10_isOn
  refine x_iload_n (pc := 0) (i := 2) h dX10_isOn_0 rfl rfl ?_
  refine x_istore_n (pc := 1) (i := 3) (L' := [some (.ref (gAd Γ.1 k0)), some (.int p1), some (.int p2), some (.int p2)]) h dX10_isOn_1 rfl (Nat.le_of_ble_eq_true rfl) rfl ?_
  exact At.mask [true, true, false, true] rfl rfl (f_X10_isOn_W2_at fu σ k0 p1 p2 h z hk0 fu p2)

set_option maxRecDepth 20000 in
set_option maxHeartbeats 4000000 in
theorem c_X10_mayCorrect (fu : Nat) (σ : gSt) (k0 : Nat) (p1 : Int32) (p2 : Int32) (hk0 : isO k0 10) : gCt yX10_mayCorrect cX10_mayCorrect 3 (some .int) 2 42 (gQp σ) (fun ad => [.ref (ad k0), .int p1, .int p2]) σ (f_X10_mayCorrect fu σ k0 p1 p2) := by
  refine gCt_intro RX10 rfl (by decide +kernel) (fun ad v hv => by simp only [List.mem_cons, List.not_mem_nil, or_false] at hv; rcases hv with rfl | rfl | rfl <;> rfl) (fun ad => Nat.le_of_ble_eq_true rfl) (fun Γ h z => ?_)
  show At Γ 0 [some (.ref (gAd Γ.1 k0)), some (.int p1), some (.int p2)] [] σ _
  unfold f_X10_mayCorrect
  refine x_iload_n (pc := 0) (i := 1) h dX10_mayCorrect_0 rfl rfl ?_
  refine x_Sp (pc := 1) (av := fun ad => [.int p1]) (rest := []) h m_X10_isTerm s_X10_isTerm kl_X10_70 (c_X10_isTerm fu σ p1) rfl rfl (gCaM rfl) dX10_mayCorrect_1 (fun v1 => ?_)
  refine x_if_eq (pc := 4) (tgt := 19) h dX10_mayCorrect_4 (by decide) ?_ ?_
  · refine x_ldc (pc := 19) h kc_X10_50 dX10_mayCorrect_19 ?_
    refine x_goto (pc := 21) (tgt := 39) h dX10_mayCorrect_21 (by decide) ?_
    exact x_iretp (pc := 39) h z rfl .int rfl rfl dX10_mayCorrect_39
  · refine x_iload_n (pc := 7) (i := 2) h dX10_mayCorrect_7 rfl rfl ?_
    refine x_Sp (pc := 8) (av := fun ad => [.int p2]) (rest := []) h m_X10_isTerm s_X10_isTerm kl_X10_70 (c_X10_isTerm fu σ p2) rfl rfl (gCaM rfl) dX10_mayCorrect_8 (fun v8 => ?_)
    refine x_if_eq (pc := 11) (tgt := 19) h dX10_mayCorrect_11 (by decide) ?_ ?_
    · refine x_ldc (pc := 19) h kc_X10_50 dX10_mayCorrect_19 ?_
      refine x_goto (pc := 21) (tgt := 39) h dX10_mayCorrect_21 (by decide) ?_
      exact x_iretp (pc := 39) h z rfl .int rfl rfl dX10_mayCorrect_39
    · refine x_iload_n (pc := 14) (i := 1) h dX10_mayCorrect_14 rfl rfl ?_
      refine x_iload_n (pc := 15) (i := 2) h dX10_mayCorrect_15 rfl rfl ?_
      refine x_icmp_ne (pc := 16) (tgt := 24) h dX10_mayCorrect_16 (by decide) ?_ ?_
      · refine x_aload_n (pc := 24) (i := 0) h dX10_mayCorrect_24 rfl rfl ?_
        refine x_iload_n (pc := 25) (i := 1) h dX10_mayCorrect_25 rfl rfl ?_
        refine x_iload_n (pc := 26) (i := 2) h dX10_mayCorrect_26 rfl rfl ?_
        refine x_Vp (pc := 27) (av := fun ad => [.int p1, .int p2]) (rest := []) h m_X10_isOn i_X10_isOn kl_X10_76 hk0 (by decide) rfl (c_X10_isOn fu σ k0 p1 p2 hk0) rfl rfl (gCaM rfl) dX10_mayCorrect_27 (fun v27 => ?_)
        refine x_if_eq (pc := 30) (tgt := 38) h dX10_mayCorrect_30 (by decide) ?_ ?_
        · refine x_iconst (pc := 38) (v := 0) h dX10_mayCorrect_38 (by decide) ?_
          exact x_iretp (pc := 39) h z rfl .int rfl rfl dX10_mayCorrect_39
        · refine x_ldc (pc := 33) h kc_X10_80 dX10_mayCorrect_33 ?_
          refine x_goto (pc := 35) (tgt := 39) h dX10_mayCorrect_35 (by decide) ?_
          exact x_iretp (pc := 39) h z rfl .int rfl rfl dX10_mayCorrect_39
      · refine x_ldc (pc := 19) h kc_X10_50 dX10_mayCorrect_19 ?_
        refine x_goto (pc := 21) (tgt := 39) h dX10_mayCorrect_21 (by decide) ?_
        exact x_iretp (pc := 39) h z rfl .int rfl rfl dX10_mayCorrect_39

set_option maxRecDepth 20000 in
set_option maxHeartbeats 4000000 in
theorem f_X10_shown_L2_at (fu : Nat) (σ : gSt) (k0 : Nat) (p1 : Int32) (ag2 : Int32 → Option (Int32)) {Γ : gX (Int32)} (h : gOk Γ cX10_shown 3 RX10 (some .int) 0 0) (z : gEnd Γ (gQp σ)) (hk0 : isO k0 10) (hg2 : ∀ (y2 : Int32), At Γ 2 [some (.ref (gAd Γ.1 k0)), none, some (.int y2)] [] σ (ag2 y2)) (x2 : Int32) : At Γ 2 [some (.ref (gAd Γ.1 k0)), none, some (.int x2)] [] σ (f_X10_shown_L2 fu σ k0 p1 ag2 x2) := by
  unfold f_X10_shown_L2
  refine x_aload_n (pc := 2) (i := 0) h dX10_shown_2 rfl rfl ?_
  refine gf_X10_7 (pc := 3) h hk0 dX10_shown_3 ?_
  refine x_sipush (pc := 6) (v := 260) h dX10_shown_6 (by decide) ?_
  refine x_iload_n (pc := 9) (i := 2) h dX10_shown_9 rfl rfl ?_
  refine x_iadd (pc := 10) h dX10_shown_10 ?_
  refine x_iald (pc := 11) h (t_10_0 hk0) dX10_shown_11 (fun v11 => ?_)
  refine x_if_lt (pc := 12) (tgt := 29) h dX10_shown_12 (by decide) ?_ ?_
  · refine x_iload_n (pc := 29) (i := 2) h dX10_shown_29 rfl rfl ?_
    exact x_iretp (pc := 30) h z rfl .int rfl rfl dX10_shown_30
  · refine x_aload_n (pc := 15) (i := 0) h dX10_shown_15 rfl rfl ?_
    refine gf_X10_7 (pc := 16) h hk0 dX10_shown_16 ?_
    refine x_sipush (pc := 19) (v := 260) h dX10_shown_19 (by decide) ?_
    refine x_iload_n (pc := 22) (i := 2) h dX10_shown_22 rfl rfl ?_
    refine x_iadd (pc := 23) h dX10_shown_23 ?_
    refine x_iald (pc := 24) h (t_10_0 hk0) dX10_shown_24 (fun v24 => ?_)
    refine x_istore_n (pc := 25) (i := 2) (L' := [some (.ref (gAd Γ.1 k0)), none, some (.int v24)]) h dX10_shown_25 rfl (Nat.le_of_ble_eq_true rfl) rfl ?_
    refine x_goto (pc := 26) (tgt := 2) h dX10_shown_26 (by decide) ?_
    exact At.mask [true, false, true] rfl rfl (hg2 v24)

theorem f_X10_shown_W2_at (fu : Nat) (σ : gSt) (k0 : Nat) (p1 : Int32) {Γ : gX (Int32)} (h : gOk Γ cX10_shown 3 RX10 (some .int) 0 0) (z : gEnd Γ (gQp σ)) (hk0 : isO k0 10) : ∀ (n : Nat) (x2 : Int32), At Γ 2 [some (.ref (gAd Γ.1 k0)), none, some (.int x2)] [] σ (f_X10_shown_W2 fu σ k0 p1 n x2) := by
  intro n
  induction n with
  | zero => intro x2 r hr; cases hr
  | succ n ih =>
    intro x2
    exact f_X10_shown_L2_at fu σ k0 p1 (f_X10_shown_W2 fu σ k0 p1 n) h z hk0 ih x2

set_option maxRecDepth 20000 in
set_option maxHeartbeats 4000000 in
theorem c_X10_shown (fu : Nat) (σ : gSt) (k0 : Nat) (p1 : Int32) (hk0 : isO k0 10) : gCt yX10_shown cX10_shown 3 (some .int) 0 0 (gQp σ) (fun ad => [.ref (ad k0), .int p1]) σ (f_X10_shown fu σ k0 p1) := by
  refine gCt_intro RX10 rfl (by decide +kernel) (fun ad v hv => by simp only [List.mem_cons, List.not_mem_nil, or_false] at hv; rcases hv with rfl | rfl <;> rfl) (fun ad => Nat.le_of_ble_eq_true rfl) (fun Γ h z => ?_)
  show At Γ 0 [some (.ref (gAd Γ.1 k0)), some (.int p1), none] [] σ _
  unfold f_X10_shown
  refine x_iload_n (pc := 0) (i := 1) h dX10_shown_0 rfl rfl ?_
  refine x_istore_n (pc := 1) (i := 2) (L' := [some (.ref (gAd Γ.1 k0)), some (.int p1), some (.int p1)]) h dX10_shown_1 rfl (Nat.le_of_ble_eq_true rfl) rfl ?_
  exact At.mask [true, false, true] rfl rfl (f_X10_shown_W2_at fu σ k0 p1 h z hk0 fu p1)

set_option maxRecDepth 20000 in
set_option maxHeartbeats 4000000 in
theorem f_X10_turnsTo_J159_at (fu : Nat) (k0 : Nat) (p1 : Int32) (p2 : Int32) (p3 : Int32) {Γ : gX (Int32 × gSt)} (h : gOk Γ cX10_turnsTo 8 RX10 (some .int) 1 22) (z : gEnd Γ gQi) (hk0 : isO k0 10) (x5 : Int32) (s3 : Int32) (s2 : Int32) (σ : gSt) : At Γ 159 [none, none, none, none, none, some (.int x5), none, none] [.int s3, .int s2, .ref (gAd Γ.1 (k0 + 1))] σ (f_X10_turnsTo_J159 fu k0 p1 p2 p3 x5 s3 s2 σ) := by
  unfold f_X10_turnsTo_J159
  refine x_iast (pc := 159) h (t_10_0 hk0) dX10_turnsTo_159 (fun σ159 => ?_)
  refine x_iload (pc := 160) h dX10_turnsTo_160 rfl ?_
  exact x_ireti (pc := 162) h z .int rfl rfl dX10_turnsTo_162

set_option maxRecDepth 20000 in
set_option maxHeartbeats 4000000 in
theorem f_X10_turnsTo_L74_at (fu : Nat) (k0 : Nat) (p1 : Int32) (p2 : Int32) (p3 : Int32) (ag58 : Int32 → Int32 → Option (Int32 × gSt)) (σ : gSt) (x4 : Int32) (x6 : Int32) (ag74 : Int32 → Int32 → Option (Int32 × gSt)) {Γ : gX (Int32 × gSt)} (h : gOk Γ cX10_turnsTo 8 RX10 (some .int) 1 22) (z : gEnd Γ gQi) (hk0 : isO k0 10) (hg58 : ∀ (y5 : Int32) (y6 : Int32), At Γ 58 [some (.ref (gAd Γ.1 k0)), some (.int p1), some (.int p2), some (.int p3), some (.int x4), some (.int y5), some (.int y6), none] [] σ (ag58 y5 y6)) (hg74 : ∀ (y5 : Int32) (y7 : Int32), At Γ 74 [some (.ref (gAd Γ.1 k0)), some (.int p1), some (.int p2), some (.int p3), some (.int x4), some (.int y5), some (.int x6), some (.int y7)] [] σ (ag74 y5 y7)) (x5 : Int32) (x7 : Int32) : At Γ 74 [some (.ref (gAd Γ.1 k0)), some (.int p1), some (.int p2), some (.int p3), some (.int x4), some (.int x5), some (.int x6), some (.int x7)] [] σ (f_X10_turnsTo_L74 fu k0 p1 p2 p3 ag58 σ x4 x6 ag74 x5 x7) := by
  unfold f_X10_turnsTo_L74
  refine x_iload (pc := 74) h dX10_turnsTo_74 rfl ?_
  refine x_aload_n (pc := 76) (i := 0) h dX10_turnsTo_76 rfl rfl ?_
  refine x_iload (pc := 77) h dX10_turnsTo_77 rfl ?_
  refine x_iconst (pc := 79) (v := 4) h dX10_turnsTo_79 (by decide) ?_
  refine x_Vp (pc := 80) (av := fun ad => [.int x6, .int 4]) (rest := [.int x7]) h m_X10_of i_X10_of kl_X10_47 hk0 (by decide) rfl (c_X10_of fu σ k0 x6 4 hk0) rfl rfl (gCaM rfl) dX10_turnsTo_80 (fun v80 => ?_)
  refine x_icmp_ge (pc := 83) (tgt := 134) h dX10_turnsTo_83 (by decide) ?_ ?_
  · refine x_iinc (pc := 134) (i := 6) (v := (x6 + 1)) (L' := [some (.ref (gAd Γ.1 k0)), some (.int p1), some (.int p2), some (.int p3), some (.int x4), some (.int x5), some (.int (x6 + 1)), some (.int x7)]) h dX10_turnsTo_134 rfl rfl rfl ?_
    refine x_goto (pc := 137) (tgt := 58) h dX10_turnsTo_137 (by decide) ?_
    exact At.mask [true, true, true, true, true, true, true, false] rfl rfl (hg58 x5 (x6 + 1))
  · refine x_iload (pc := 86) h dX10_turnsTo_86 rfl ?_
    refine x_aload_n (pc := 88) (i := 0) h dX10_turnsTo_88 rfl rfl ?_
    refine x_aload_n (pc := 89) (i := 0) h dX10_turnsTo_89 rfl rfl ?_
    refine x_iload (pc := 90) h dX10_turnsTo_90 rfl ?_
    refine x_iconst (pc := 92) (v := 5) h dX10_turnsTo_92 (by decide) ?_
    refine x_iload (pc := 93) h dX10_turnsTo_93 rfl ?_
    refine x_iadd (pc := 95) h dX10_turnsTo_95 ?_
    refine x_Vp (pc := 96) (av := fun ad => [.int x6, .int (5 + x7)]) (rest := [.ref (gAd Γ.1 k0), .int x5]) h m_X10_of i_X10_of kl_X10_47 hk0 (by decide) rfl (c_X10_of fu σ k0 x6 (5 + x7) hk0) rfl rfl (gCaM rfl) dX10_turnsTo_96 (fun v96 => ?_)
    refine x_Vp (pc := 99) (av := fun ad => [.int v96]) (rest := [.int x5]) h m_X10_shown i_X10_shown kl_X10_73 hk0 (by decide) rfl (c_X10_shown fu σ k0 v96 hk0) rfl rfl (gCaM rfl) dX10_turnsTo_99 (fun v99 => ?_)
    refine x_aload_n (pc := 102) (i := 0) h dX10_turnsTo_102 rfl rfl ?_
    refine gf_X10_25 (pc := 103) h hk0 dX10_turnsTo_103 ?_
    refine x_aload_n (pc := 106) (i := 0) h dX10_turnsTo_106 rfl rfl ?_
    refine x_iload (pc := 107) h dX10_turnsTo_107 rfl ?_
    refine x_iconst (pc := 109) (v := 5) h dX10_turnsTo_109 (by decide) ?_
    refine x_iload (pc := 110) h dX10_turnsTo_110 rfl ?_
    refine x_iadd (pc := 112) h dX10_turnsTo_112 ?_
    refine x_Vp (pc := 113) (av := fun ad => [.int x6, .int (5 + x7)]) (rest := [.ref (gAd Γ.1 (k0 + 6)), .int v99, .int x5]) h m_X10_of i_X10_of kl_X10_47 hk0 (by decide) rfl (c_X10_of fu σ k0 x6 (5 + x7) hk0) rfl rfl (gCaM rfl) dX10_turnsTo_113 (fun v113 => ?_)
    refine x_iald (pc := 116) h (t_10_8 hk0) dX10_turnsTo_116 (fun v116 => ?_)
    refine x_nm (e := (if v99 = v116 then 0 else 1)) (pcJ := 125) (LJ := [some (.ref (gAd Γ.1 k0)), some (.int p1), some (.int p2), some (.int p3), some (.int x4), some (.int x5), some (.int x6), some (.int x7)]) (sJ := [.int x5]) (fun w117 => ?_) (fun kj117 => ?_)
    · refine x_iadd (pc := 125) h dX10_turnsTo_125 ?_
      refine x_istore (pc := 126) (L' := [some (.ref (gAd Γ.1 k0)), some (.int p1), some (.int p2), some (.int p3), some (.int x4), some (.int (x5 + w117)), some (.int x6), some (.int x7)]) h dX10_turnsTo_126 (Nat.le_of_ble_eq_true rfl) rfl ?_
      refine x_iinc (pc := 128) (i := 7) (v := (x7 + 1)) (L' := [some (.ref (gAd Γ.1 k0)), some (.int p1), some (.int p2), some (.int p3), some (.int x4), some (.int (x5 + w117)), some (.int x6), some (.int (x7 + 1))]) h dX10_turnsTo_128 rfl rfl rfl ?_
      refine x_goto (pc := 131) (tgt := 74) h dX10_turnsTo_131 (by decide) ?_
      exact At.mask [true, true, true, true, true, true, true, true] rfl rfl (hg74 (x5 + w117) (x7 + 1))
    · refine j_icmp_eq (pc := 117) (tgt := 124) h dX10_turnsTo_117 (by decide) (fun hc117_0 => ?_) (fun hc117_0 => ?_)
      · refine x_iconst (pc := 124) (v := 0) h dX10_turnsTo_124 (by decide) ?_
        exact kj117 0 (by rw [if_pos hc117_0])
      · refine x_iconst (pc := 120) (v := 1) h dX10_turnsTo_120 (by decide) ?_
        refine x_goto (pc := 121) (tgt := 125) h dX10_turnsTo_121 (by decide) ?_
        exact kj117 1 (by rw [if_neg hc117_0])

