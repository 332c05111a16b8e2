set_option maxRecDepth 20000 in
set_option maxHeartbeats 4000000 in
theorem c_X10_fault (fu : Nat) (σ : gSt) (k0 : Nat) (p1 : Int32) (hk0 : isO k0 10) : gCt yX10_fault cX10_fault 3 (some .int) 6 133 gQi (fun ad => [.ref (ad k0), .int p1]) σ (f_X10_fault fu σ k0 p1) := by
  refine gCt_intro RX10 rfl (by decide +kernel) (fun ad v hv => by simp only [List.mem_cons, List.not_mem_nil, or_false] at hv; rcases hv with rfl | rfl <;> rfl) (fun ad => Nat.le_of_ble_eq_true rfl) (fun Γ h z => ?_)
  show At Γ 0 [some (.ref (gAd Γ.1 k0)), some (.int p1), none] [] σ _
  unfold f_X10_fault
  refine x_iload_n (pc := 0) (i := 1) h dX10_fault_0 rfl rfl ?_
  refine x_iconst (pc := 1) (v := 0) h dX10_fault_1 (by decide) ?_
  refine x_iconst (pc := 2) (v := 2) h dX10_fault_2 (by decide) ?_
  refine x_Sp (pc := 3) (av := fun ad => [.int p1, .int 0, .int 2]) (rest := []) h m_X10_in s_X10_in kl_X10_39 (c_X10_in fu σ p1 0 2) rfl rfl (gCaM rfl) dX10_fault_3 (fun v3 => ?_)
  refine x_if_ne (pc := 6) (tgt := 12) h dX10_fault_6 (by decide) ?_ ?_
  · refine x_aload_n (pc := 12) (i := 0) h dX10_fault_12 rfl rfl ?_
    refine gf_X10_7 (pc := 13) h hk0 dX10_fault_13 ?_
    refine x_aload_n (pc := 16) (i := 0) h dX10_fault_16 rfl rfl ?_
    refine gf_X10_16 (pc := 17) h hk0 dX10_fault_17 ?_
    refine x_Sv (pc := 20) (av := fun ad => [.ref (ad (k0 + 1)), .ref (ad (k0 + 3))]) (rest := []) h m_X10_copies s_X10_copies kl_X10_230 (c_X10_copies fu σ (k0 + 1) 284 (k0 + 3) 284 (t_10_0 hk0) (t_10_2 hk0)) rfl rfl (gCaM rfl) dX10_fault_20 (fun σ20 => ?_)
    refine x_aload_n (pc := 23) (i := 0) h dX10_fault_23 rfl rfl ?_
    refine x_Vi (pc := 24) (av := fun ad => []) (rest := []) h m_X10_plays i_X10_plays kl_X10_234 hk0 (by decide) rfl (c_X10_plays fu σ20 k0 hk0) rfl rfl (gCaM rfl) dX10_fault_24 (fun v24 σ24 => ?_)
    refine x_istore_n (pc := 27) (i := 2) (L' := [some (.ref (gAd Γ.1 k0)), some (.int p1), some (.int v24)]) h dX10_fault_27 rfl (Nat.le_of_ble_eq_true rfl) rfl ?_
    refine x_aload_n (pc := 28) (i := 0) h dX10_fault_28 rfl rfl ?_
    refine gf_X10_16 (pc := 29) h hk0 dX10_fault_29 ?_
    refine x_aload_n (pc := 32) (i := 0) h dX10_fault_32 rfl rfl ?_
    refine gf_X10_7 (pc := 33) h hk0 dX10_fault_33 ?_
    refine x_Sv (pc := 36) (av := fun ad => [.ref (ad (k0 + 3)), .ref (ad (k0 + 1))]) (rest := []) h m_X10_copies s_X10_copies kl_X10_230 (c_X10_copies fu σ24 (k0 + 3) 284 (k0 + 1) 284 (t_10_2 hk0) (t_10_0 hk0)) rfl rfl (gCaM rfl) dX10_fault_36 (fun σ36 => ?_)
    refine x_iload_n (pc := 39) (i := 2) h dX10_fault_39 rfl rfl ?_
    refine x_if_eq (pc := 40) (tgt := 48) h dX10_fault_40 (by decide) ?_ ?_
    · refine x_iload_n (pc := 48) (i := 1) h dX10_fault_48 rfl rfl ?_
      refine x_if_ne (pc := 49) (tgt := 59) h dX10_fault_49 (by decide) ?_ ?_
      · refine x_iload_n (pc := 59) (i := 1) h dX10_fault_59 rfl rfl ?_
        refine x_iconst (pc := 60) (v := 1) h dX10_fault_60 (by decide) ?_
        refine x_icmp_ne (pc := 61) (tgt := 71) h dX10_fault_61 (by decide) ?_ ?_
        · refine x_aload_n (pc := 71) (i := 0) h dX10_fault_71 rfl rfl ?_
          refine gf_X10_227 (pc := 72) h hk0 dX10_fault_72 ?_
          exact x_ireti (pc := 75) h z .int rfl rfl dX10_fault_75
        · refine x_aload_n (pc := 64) (i := 0) h dX10_fault_64 rfl rfl ?_
          refine gf_X10_224 (pc := 65) h hk0 dX10_fault_65 ?_
          refine x_goto (pc := 68) (tgt := 75) h dX10_fault_68 (by decide) ?_
          exact x_ireti (pc := 75) h z .int rfl rfl dX10_fault_75
      · refine x_aload_n (pc := 52) (i := 0) h dX10_fault_52 rfl rfl ?_
        refine gf_X10_211 (pc := 53) h hk0 dX10_fault_53 ?_
        refine x_goto (pc := 56) (tgt := 75) h dX10_fault_56 (by decide) ?_
        exact x_ireti (pc := 75) h z .int rfl rfl dX10_fault_75
    · refine x_ldc (pc := 43) h kc_X10_110 dX10_fault_43 ?_
      refine x_goto (pc := 45) (tgt := 75) h dX10_fault_45 (by decide) ?_
      exact x_ireti (pc := 75) h z .int rfl rfl dX10_fault_75
  · refine x_ldc (pc := 9) h kc_X10_50 dX10_fault_9 ?_
    exact x_ireti (pc := 11) h z .int rfl rfl dX10_fault_11

set_option maxRecDepth 20000 in
set_option maxHeartbeats 4000000 in
theorem c_X3_outcome (fu : Nat) (σ : gSt) (k0 : Nat) (hk0 : isO k0 3) : gCt yX3_outcome cX3_outcome 1 (some (.object "LectureTurns$Transcript")) 0 0 (gQr σ) (fun ad => [.ref (ad k0)]) σ (f_X3_outcome fu σ k0) := by
  refine gCt_intro RX3 rfl (by decide +kernel) (fun ad v hv => by simp only [List.mem_cons, List.not_mem_nil, or_false] at hv; rcases hv with rfl <;> rfl) (fun ad => Nat.le_of_ble_eq_true rfl) (fun Γ h z => ?_)
  show At Γ 0 [some (.ref (gAd Γ.1 k0))] [] σ _
  unfold f_X3_outcome
  refine x_aload_n (pc := 0) (i := 0) h dX3_outcome_0 rfl rfl ?_
  refine gf_X3_12 (pc := 1) h hk0 dX3_outcome_1 ?_
  exact x_aret (pc := 4) h z rfl (t_3_1 hk0) "LectureTurns$Transcript" rfl dX3_outcome_4

set_option maxRecDepth 20000 in
set_option maxHeartbeats 4000000 in
theorem c_X3_ordersDone (fu : Nat) (σ : gSt) (k0 : Nat) (hk0 : isO k0 3) : gCt yX3_ordersDone cX3_ordersDone 1 (some .int) 0 0 (gQp σ) (fun ad => [.ref (ad k0)]) σ (f_X3_ordersDone fu σ k0) := by
  refine gCt_intro RX3 rfl (by decide +kernel) (fun ad v hv => by simp only [List.mem_cons, List.not_mem_nil, or_false] at hv; rcases hv with rfl <;> rfl) (fun ad => Nat.le_of_ble_eq_true rfl) (fun Γ h z => ?_)
  show At Γ 0 [some (.ref (gAd Γ.1 k0))] [] σ _
  unfold f_X3_ordersDone
  refine x_aload_n (pc := 0) (i := 0) h dX3_ordersDone_0 rfl rfl ?_
  refine gf_X3_37 (pc := 1) h hk0 dX3_ordersDone_1 ?_
  exact x_iretp (pc := 4) h z rfl .int rfl rfl dX3_ordersDone_4

set_option maxRecDepth 20000 in
set_option maxHeartbeats 4000000 in
theorem c_X9_play (fu : Nat) (σ : gSt) (k0 : Nat) (hk0 : isO k0 9) : gCt yX9_play cX9_play 1 (some .int) 6 143 gQi (fun ad => [.ref (ad k0)]) σ (f_X9_play fu σ k0) := by
  refine gCt_intro RX9 rfl (by decide +kernel) (fun ad v hv => by simp only [List.mem_cons, List.not_mem_nil, or_false] at hv; rcases hv with rfl <;> rfl) (fun ad => Nat.le_of_ble_eq_true rfl) (fun Γ h z => ?_)
  show At Γ 0 [some (.ref (gAd Γ.1 k0))] [] σ _
  unfold f_X9_play
  refine x_aload_n (pc := 0) (i := 0) h dX9_play_0 rfl rfl ?_
  refine gf_X9_47 (pc := 1) h hk0 dX9_play_1 ?_
  refine x_aload_n (pc := 4) (i := 0) h dX9_play_4 rfl rfl ?_
  refine gf_X9_10 (pc := 5) h hk0 dX9_play_5 ?_
  refine x_Vv (pc := 8) (av := fun ad => [.ref (ad (k0 + 10))]) (rest := []) h m_X3_run i_X3_run kl_X9_157 (t_9_5 hk0) (by decide) rfl (c_X3_run fu σ (k0 + 3) (k0 + 10) (t_9_5 hk0) (t_9_0 hk0)) rfl rfl (gCaM rfl) dX9_play_8 (fun σ8 => ?_)
  refine x_aload_n (pc := 11) (i := 0) h dX9_play_11 rfl rfl ?_
  refine gf_X9_47 (pc := 12) h hk0 dX9_play_12 ?_
  refine x_Vp (pc := 15) (av := fun ad => []) (rest := []) h m_X3_foundFault i_X3_foundFault kl_X9_160 (t_9_5 hk0) (by decide) rfl (c_X3_foundFault fu σ8 (k0 + 3) (t_9_5 hk0)) rfl rfl (gCaM rfl) dX9_play_15 (fun v15 => ?_)
  refine x_if_eq (pc := 18) (tgt := 24) h dX9_play_18 (by decide) ?_ ?_
  · refine x_aload_n (pc := 24) (i := 0) h dX9_play_24 rfl rfl ?_
    refine gf_X9_16 (pc := 25) h hk0 dX9_play_25 ?_
    refine x_aload_n (pc := 28) (i := 0) h dX9_play_28 rfl rfl ?_
    refine gf_X9_10 (pc := 29) h hk0 dX9_play_29 ?_
    refine x_Vv (pc := 32) (av := fun ad => [.ref (ad (k0 + 10))]) (rest := []) h m_X7_takeFrom i_X7_takeFrom kl_X9_51 (t_9_1 hk0) (by decide) rfl (c_X7_takeFrom fu σ8 (k0 + 22) (k0 + 10) (t_9_1 hk0) (t_9_0 hk0)) rfl rfl (gCaM rfl) dX9_play_32 (fun σ32 => ?_)
    refine x_aload_n (pc := 35) (i := 0) h dX9_play_35 rfl rfl ?_
    refine gf_X9_10 (pc := 36) h hk0 dX9_play_36 ?_
    refine x_aload_n (pc := 39) (i := 0) h dX9_play_39 rfl rfl ?_
    refine gf_X9_47 (pc := 40) h hk0 dX9_play_40 ?_
    refine x_Vr (pc := 43) (av := fun ad => []) (rest := [.ref (gAd Γ.1 (k0 + 10))]) h m_X3_outcome i_X3_outcome kl_X9_173 (t_9_5 hk0) (by decide) rfl (c_X3_outcome fu σ32 (k0 + 3) (t_9_5 hk0)) rfl rfl (gCaM rfl) dX9_play_43 (fun q43 hq43 => ?_)
    refine x_Vv (pc := 46) (av := fun ad => [.ref (ad q43)]) (rest := []) h m_X7_takeFrom i_X7_takeFrom kl_X9_51 (t_9_0 hk0) (by decide) rfl (c_X7_takeFrom fu σ32 (k0 + 10) q43 (t_9_0 hk0) hq43) rfl rfl (gCaM rfl) dX9_play_46 (fun σ46 => ?_)
    refine x_aload_n (pc := 49) (i := 0) h dX9_play_49 rfl rfl ?_
    refine x_aload_n (pc := 50) (i := 0) h dX9_play_50 rfl rfl ?_
    refine gf_X9_47 (pc := 51) h hk0 dX9_play_51 ?_
    refine x_Vp (pc := 54) (av := fun ad => []) (rest := [.ref (gAd Γ.1 k0)]) h m_X3_ordersDone i_X3_ordersDone kl_X9_177 (t_9_5 hk0) (by decide) rfl (c_X3_ordersDone fu σ46 (k0 + 3) (t_9_5 hk0)) rfl rfl (gCaM rfl) dX9_play_54 (fun v54 => ?_)
    refine x_Vi (pc := 57) (av := fun ad => [.int v54]) (rest := []) h m_X9_recorded i_X9_recorded kl_X9_58 hk0 (by decide) rfl (c_X9_recorded fu σ46 k0 v54 hk0) rfl rfl (gCaM rfl) dX9_play_57 (fun v57 σ57 => ?_)
    exact x_ireti (pc := 60) h z .int rfl rfl dX9_play_60
  · refine x_ldc (pc := 21) h kc_X9_137 dX9_play_21 ?_
    exact x_ireti (pc := 23) h z .int rfl rfl dX9_play_23

set_option maxRecDepth 20000 in
set_option maxHeartbeats 4000000 in
theorem c_X10_play (fu : Nat) (σ : gSt) (k0 : Nat) (hk0 : isO k0 10) : gCt yX10_play cX10_play 2 (some .int) 6 133 gQi (fun ad => [.ref (ad k0)]) σ (f_X10_play fu σ k0) := by
  refine gCt_intro RX10 rfl (by decide +kernel) (fun ad v hv => by simp only [List.mem_cons, List.not_mem_nil, or_false] at hv; rcases hv with rfl <;> rfl) (fun ad => Nat.le_of_ble_eq_true rfl) (fun Γ h z => ?_)
  show At Γ 0 [some (.ref (gAd Γ.1 k0)), none] [] σ _
  unfold f_X10_play
  refine x_aload_n (pc := 0) (i := 0) h dX10_play_0 rfl rfl ?_
  refine gf_X10_7 (pc := 1) h hk0 dX10_play_1 ?_
  refine x_aload_n (pc := 4) (i := 0) h dX10_play_4 rfl rfl ?_
  refine gf_X10_16 (pc := 5) h hk0 dX10_play_5 ?_
  refine x_Sv (pc := 8) (av := fun ad => [.ref (ad (k0 + 1)), .ref (ad (k0 + 3))]) (rest := []) h m_X10_copies s_X10_copies kl_X10_230 (c_X10_copies fu σ (k0 + 1) 284 (k0 + 3) 284 (t_10_0 hk0) (t_10_2 hk0)) rfl rfl (gCaM rfl) dX10_play_8 (fun σ8 => ?_)
  refine x_aload_n (pc := 11) (i := 0) h dX10_play_11 rfl rfl ?_
  refine x_Vi (pc := 12) (av := fun ad => []) (rest := []) h m_X10_plays i_X10_plays kl_X10_234 hk0 (by decide) rfl (c_X10_plays fu σ8 k0 hk0) rfl rfl (gCaM rfl) dX10_play_12 (fun v12 σ12 => ?_)
  refine x_istore_n (pc := 15) (i := 1) (L' := [some (.ref (gAd Γ.1 k0)), some (.int v12)]) h dX10_play_15 rfl (Nat.le_of_ble_eq_true rfl) rfl ?_
  refine x_aload_n (pc := 16) (i := 0) h dX10_play_16 rfl rfl ?_
  refine gf_X10_16 (pc := 17) h hk0 dX10_play_17 ?_
  refine x_aload_n (pc := 20) (i := 0) h dX10_play_20 rfl rfl ?_
  refine gf_X10_7 (pc := 21) h hk0 dX10_play_21 ?_
  refine x_Sv (pc := 24) (av := fun ad => [.ref (ad (k0 + 3)), .ref (ad (k0 + 1))]) (rest := []) h m_X10_copies s_X10_copies kl_X10_230 (c_X10_copies fu σ12 (k0 + 3) 284 (k0 + 1) 284 (t_10_2 hk0) (t_10_0 hk0)) rfl rfl (gCaM rfl) dX10_play_24 (fun σ24 => ?_)
  refine x_iload_n (pc := 27) (i := 1) h dX10_play_27 rfl rfl ?_
  refine x_if_ne (pc := 28) (tgt := 34) h dX10_play_28 (by decide) ?_ ?_
  · refine x_aload_n (pc := 34) (i := 0) h dX10_play_34 rfl rfl ?_
    refine x_Vv (pc := 35) (av := fun ad => []) (rest := []) h m_X10_changes i_X10_changes kl_X10_52 hk0 (by decide) rfl (c_X10_changes fu σ24 k0 hk0) rfl rfl (gCaM rfl) dX10_play_35 (fun σ35 => ?_)
    refine x_aload_n (pc := 38) (i := 0) h dX10_play_38 rfl rfl ?_
    refine x_Vi (pc := 39) (av := fun ad => []) (rest := []) h m_X10_plays i_X10_plays kl_X10_234 hk0 (by decide) rfl (c_X10_plays fu σ35 k0 hk0) rfl rfl (gCaM rfl) dX10_play_39 (fun v39 σ39 => ?_)
    refine x_if_eq (pc := 42) (tgt := 52) h dX10_play_42 (by decide) ?_ ?_
    · refine x_ldc (pc := 52) h kc_X10_110 dX10_play_52 ?_
      exact x_ireti (pc := 54) h z .int rfl rfl dX10_play_54
    · refine x_aload_n (pc := 45) (i := 0) h dX10_play_45 rfl rfl ?_
      refine gf_X10_214 (pc := 46) h hk0 dX10_play_46 ?_
      refine x_goto (pc := 49) (tgt := 54) h dX10_play_49 (by decide) ?_
      exact x_ireti (pc := 54) h z .int rfl rfl dX10_play_54
  · refine x_ldc (pc := 31) h kc_X10_80 dX10_play_31 ?_
    exact x_ireti (pc := 33) h z .int rfl rfl dX10_play_33

