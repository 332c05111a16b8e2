set_option maxRecDepth 20000 in
set_option maxHeartbeats 4000000 in
theorem c_X8_interrupt (fu : Nat) (σ : gSt) (k0 : Nat) (p1 : Int32) (p2 : Int32) (hk0 : isO k0 8) : gCt yX8_interrupt cX8_interrupt 3 (some .boolean) 2 42 (gQp σ) (fun ad => [.ref (ad k0), .int p1, .int p2]) σ (f_X8_interrupt fu σ k0 p1 p2) := by
  refine gCt_intro RX8 rfl (by decide +kernel) (fun ad v hv => by simp only [List.mem_cons, List.not_mem_nil, or_false] at hv; rcases hv with rfl | rfl | rfl <;> rfl) (fun ad => Nat.le_of_ble_eq_true rfl) (fun Γ h z => ?_)
  show At Γ 0 [some (.ref (gAd Γ.1 k0)), some (.int p1), some (.int p2)] [] σ _
  unfold f_X8_interrupt
  refine x_aload_n (pc := 0) (i := 0) h dX8_interrupt_0 rfl rfl ?_
  refine x_iload_n (pc := 1) (i := 1) h dX8_interrupt_1 rfl rfl ?_
  refine x_Vp (pc := 2) (av := fun ad => [.int p1]) (rest := []) h m_X8_beginOf i_X8_beginOf kl_X8_77 hk0 (by decide) rfl (c_X8_beginOf fu σ k0 p1 hk0) rfl rfl (gCaM rfl) dX8_interrupt_2 (fun v2 => ?_)
  refine x_aload_n (pc := 5) (i := 0) h dX8_interrupt_5 rfl rfl ?_
  refine x_iload_n (pc := 6) (i := 2) h dX8_interrupt_6 rfl rfl ?_
  refine x_Vp (pc := 7) (av := fun ad => [.int p2]) (rest := [.int v2]) h m_X8_beginOf i_X8_beginOf kl_X8_77 hk0 (by decide) rfl (c_X8_beginOf fu σ k0 p2 hk0) rfl rfl (gCaM rfl) dX8_interrupt_7 (fun v7 => ?_)
  refine x_icmp_le (pc := 10) (tgt := 61) h dX8_interrupt_10 (by decide) ?_ ?_
  · refine x_iconst (pc := 61) (v := 0) h dX8_interrupt_61 (by decide) ?_
    exact x_iretp (pc := 62) h z rfl .boolean rfl rfl dX8_interrupt_62
  · refine x_aload_n (pc := 13) (i := 0) h dX8_interrupt_13 rfl rfl ?_
    refine x_iload_n (pc := 14) (i := 1) h dX8_interrupt_14 rfl rfl ?_
    refine x_Vp (pc := 15) (av := fun ad => [.int p1]) (rest := []) h m_X8_beginOf i_X8_beginOf kl_X8_77 hk0 (by decide) rfl (c_X8_beginOf fu σ k0 p1 hk0) rfl rfl (gCaM rfl) dX8_interrupt_15 (fun v15 => ?_)
    refine x_aload_n (pc := 18) (i := 0) h dX8_interrupt_18 rfl rfl ?_
    refine x_iload_n (pc := 19) (i := 2) h dX8_interrupt_19 rfl rfl ?_
    refine x_Vp (pc := 20) (av := fun ad => [.int p2]) (rest := [.int v15]) h m_X8_endOf i_X8_endOf kl_X8_80 hk0 (by decide) rfl (c_X8_endOf fu σ k0 p2 hk0) rfl rfl (gCaM rfl) dX8_interrupt_20 (fun v20 => ?_)
    refine x_icmp_ge (pc := 23) (tgt := 61) h dX8_interrupt_23 (by decide) ?_ ?_
    · refine x_iconst (pc := 61) (v := 0) h dX8_interrupt_61 (by decide) ?_
      exact x_iretp (pc := 62) h z rfl .boolean rfl rfl dX8_interrupt_62
    · refine x_aload_n (pc := 26) (i := 0) h dX8_interrupt_26 rfl rfl ?_
      refine x_iload_n (pc := 27) (i := 1) h dX8_interrupt_27 rfl rfl ?_
      refine x_Vp (pc := 28) (av := fun ad => [.int p1]) (rest := []) h m_X8_ownerOf i_X8_ownerOf kl_X8_83 hk0 (by decide) rfl (c_X8_ownerOf fu σ k0 p1 hk0) rfl rfl (gCaM rfl) dX8_interrupt_28 (fun v28 => ?_)
      refine x_iconst (pc := 31) (v := (-1)) h dX8_interrupt_31 (by decide) ?_
      refine x_icmp_eq (pc := 32) (tgt := 61) h dX8_interrupt_32 (by decide) ?_ ?_
      · refine x_iconst (pc := 61) (v := 0) h dX8_interrupt_61 (by decide) ?_
        exact x_iretp (pc := 62) h z rfl .boolean rfl rfl dX8_interrupt_62
      · refine x_aload_n (pc := 35) (i := 0) h dX8_interrupt_35 rfl rfl ?_
        refine x_iload_n (pc := 36) (i := 2) h dX8_interrupt_36 rfl rfl ?_
        refine x_Vp (pc := 37) (av := fun ad => [.int p2]) (rest := []) h m_X8_ownerOf i_X8_ownerOf kl_X8_83 hk0 (by decide) rfl (c_X8_ownerOf fu σ k0 p2 hk0) rfl rfl (gCaM rfl) dX8_interrupt_37 (fun v37 => ?_)
        refine x_iconst (pc := 40) (v := (-1)) h dX8_interrupt_40 (by decide) ?_
        refine x_icmp_eq (pc := 41) (tgt := 61) h dX8_interrupt_41 (by decide) ?_ ?_
        · refine x_iconst (pc := 61) (v := 0) h dX8_interrupt_61 (by decide) ?_
          exact x_iretp (pc := 62) h z rfl .boolean rfl rfl dX8_interrupt_62
        · refine x_aload_n (pc := 44) (i := 0) h dX8_interrupt_44 rfl rfl ?_
          refine x_iload_n (pc := 45) (i := 1) h dX8_interrupt_45 rfl rfl ?_
          refine x_Vp (pc := 46) (av := fun ad => [.int p1]) (rest := []) h m_X8_ownerOf i_X8_ownerOf kl_X8_83 hk0 (by decide) rfl (c_X8_ownerOf fu σ k0 p1 hk0) rfl rfl (gCaM rfl) dX8_interrupt_46 (fun v46 => ?_)
          refine x_aload_n (pc := 49) (i := 0) h dX8_interrupt_49 rfl rfl ?_
          refine x_iload_n (pc := 50) (i := 2) h dX8_interrupt_50 rfl rfl ?_
          refine x_Vp (pc := 51) (av := fun ad => [.int p2]) (rest := [.int v46]) h m_X8_ownerOf i_X8_ownerOf kl_X8_83 hk0 (by decide) rfl (c_X8_ownerOf fu σ k0 p2 hk0) rfl rfl (gCaM rfl) dX8_interrupt_51 (fun v51 => ?_)
          refine x_icmp_eq (pc := 54) (tgt := 61) h dX8_interrupt_54 (by decide) ?_ ?_
          · refine x_iconst (pc := 61) (v := 0) h dX8_interrupt_61 (by decide) ?_
            exact x_iretp (pc := 62) h z rfl .boolean rfl rfl dX8_interrupt_62
          · refine x_iconst (pc := 57) (v := 1) h dX8_interrupt_57 (by decide) ?_
            refine x_goto (pc := 58) (tgt := 62) h dX8_interrupt_58 (by decide) ?_
            exact x_iretp (pc := 62) h z rfl .boolean rfl rfl dX8_interrupt_62

set_option maxRecDepth 20000 in
set_option maxHeartbeats 4000000 in
theorem f_X8_interruptedBy_L4_at (fu : Nat) (σ : gSt) (k0 : Nat) (p1 : Int32) (ag4 : Int32 → Int32 → Option (Int32)) {Γ : gX (Int32)} (h : gOk Γ cX8_interruptedBy 4 RX8 (some .int) 3 64) (z : gEnd Γ (gQp σ)) (hk0 : isO k0 8) (hg4 : ∀ (y2 : Int32) (y3 : Int32), At Γ 4 [some (.ref (gAd Γ.1 k0)), some (.int p1), some (.int y2), some (.int y3)] [] σ (ag4 y2 y3)) (x2 : Int32) (x3 : Int32) : At Γ 4 [some (.ref (gAd Γ.1 k0)), some (.int p1), some (.int x2), some (.int x3)] [] σ (f_X8_interruptedBy_L4 fu σ k0 p1 ag4 x2 x3) := by
  unfold f_X8_interruptedBy_L4
  refine x_iload_n (pc := 4) (i := 3) h dX8_interruptedBy_4 rfl rfl ?_
  refine x_aload_n (pc := 5) (i := 0) h dX8_interruptedBy_5 rfl rfl ?_
  refine gf_X8_36 (pc := 6) h hk0 dX8_interruptedBy_6 ?_
  refine x_icmp_ge (pc := 9) (tgt := 33) h dX8_interruptedBy_9 (by decide) ?_ ?_
  · refine x_iload_n (pc := 33) (i := 2) h dX8_interruptedBy_33 rfl rfl ?_
    exact x_iretp (pc := 34) h z rfl .int rfl rfl dX8_interruptedBy_34
  · refine x_aload_n (pc := 12) (i := 0) h dX8_interruptedBy_12 rfl rfl ?_
    refine x_iload_n (pc := 13) (i := 1) h dX8_interruptedBy_13 rfl rfl ?_
    refine x_iload_n (pc := 14) (i := 3) h dX8_interruptedBy_14 rfl rfl ?_
    refine x_Vp (pc := 15) (av := fun ad => [.int p1, .int x3]) (rest := []) h m_X8_interrupt i_X8_interrupt kl_X8_90 hk0 (by decide) rfl (c_X8_interrupt fu σ k0 p1 x3 hk0) rfl rfl (gCaM rfl) dX8_interruptedBy_15 (fun v15 => ?_)
    refine x_if_eq (pc := 18) (tgt := 27) h dX8_interruptedBy_18 (by decide) ?_ ?_
    · refine x_iinc (pc := 27) (i := 3) (v := (x3 + 1)) (L' := [some (.ref (gAd Γ.1 k0)), some (.int p1), some (.int x2), some (.int (x3 + 1))]) h dX8_interruptedBy_27 rfl rfl rfl ?_
      refine x_goto (pc := 30) (tgt := 4) h dX8_interruptedBy_30 (by decide) ?_
      exact At.mask [true, true, true, true] rfl rfl (hg4 x2 (x3 + 1))
    · refine x_iload_n (pc := 21) (i := 2) h dX8_interruptedBy_21 rfl rfl ?_
      refine x_iconst (pc := 22) (v := 1) h dX8_interruptedBy_22 (by decide) ?_
      refine x_iload_n (pc := 23) (i := 3) h dX8_interruptedBy_23 rfl rfl ?_
      refine x_ishl (pc := 24) h dX8_interruptedBy_24 ?_
      refine x_ior (pc := 25) h dX8_interruptedBy_25 ?_
      refine x_lt (fun y26 => ?_)
      refine x_istore_n (pc := 26) (i := 2) (L' := [some (.ref (gAd Γ.1 k0)), some (.int p1), some (.int y26), some (.int x3)]) h dX8_interruptedBy_26 rfl (Nat.le_of_ble_eq_true rfl) rfl ?_
      refine x_iinc (pc := 27) (i := 3) (v := (x3 + 1)) (L' := [some (.ref (gAd Γ.1 k0)), some (.int p1), some (.int y26), some (.int (x3 + 1))]) h dX8_interruptedBy_27 rfl rfl rfl ?_
      refine x_goto (pc := 30) (tgt := 4) h dX8_interruptedBy_30 (by decide) ?_
      exact At.mask [true, true, true, true] rfl rfl (hg4 y26 (x3 + 1))

theorem f_X8_interruptedBy_W4_at (fu : Nat) (σ : gSt) (k0 : Nat) (p1 : Int32) {Γ : gX (Int32)} (h : gOk Γ cX8_interruptedBy 4 RX8 (some .int) 3 64) (z : gEnd Γ (gQp σ)) (hk0 : isO k0 8) : ∀ (n : Nat) (x2 : Int32) (x3 : Int32), At Γ 4 [some (.ref (gAd Γ.1 k0)), some (.int p1), some (.int x2), some (.int x3)] [] σ (f_X8_interruptedBy_W4 fu σ k0 p1 n x2 x3) := by
  intro n
  induction n with
  | zero => intro x2 x3 r hr; cases hr
  | succ n ih =>
    intro x2 x3
    exact f_X8_interruptedBy_L4_at fu σ k0 p1 (f_X8_interruptedBy_W4 fu σ k0 p1 n) h z hk0 ih x2 x3

set_option maxRecDepth 20000 in
set_option maxHeartbeats 4000000 in
theorem c_X8_interruptedBy (fu : Nat) (σ : gSt) (k0 : Nat) (p1 : Int32) (hk0 : isO k0 8) : gCt yX8_interruptedBy cX8_interruptedBy 4 (some .int) 3 64 (gQp σ) (fun ad => [.ref (ad k0), .int p1]) σ (f_X8_interruptedBy fu σ k0 p1) := by
  refine gCt_intro RX8 rfl (by decide +kernel) (fun ad v hv => by simp only [List.mem_cons, List.not_mem_nil, or_false] at hv; rcases hv with rfl | rfl <;> rfl) (fun ad => Nat.le_of_ble_eq_true rfl) (fun Γ h z => ?_)
  show At Γ 0 [some (.ref (gAd Γ.1 k0)), some (.int p1), none, none] [] σ _
  unfold f_X8_interruptedBy
  refine x_iconst (pc := 0) (v := 0) h dX8_interruptedBy_0 (by decide) ?_
  refine x_istore_n (pc := 1) (i := 2) (L' := [some (.ref (gAd Γ.1 k0)), some (.int p1), some (.int 0), none]) h dX8_interruptedBy_1 rfl (Nat.le_of_ble_eq_true rfl) rfl ?_
  refine x_iconst (pc := 2) (v := 0) h dX8_interruptedBy_2 (by decide) ?_
  refine x_istore_n (pc := 3) (i := 3) (L' := [some (.ref (gAd Γ.1 k0)), some (.int p1), some (.int 0), some (.int 0)]) h dX8_interruptedBy_3 rfl (Nat.le_of_ble_eq_true rfl) rfl ?_
  exact At.mask [true, true, true, true] rfl rfl (f_X8_interruptedBy_W4_at fu σ k0 p1 h z hk0 fu 0 0)

set_option maxRecDepth 20000 in
set_option maxHeartbeats 4000000 in
theorem f_X8_secondsAlone_L11_at (fu : Nat) (σ : gSt) (k0 : Nat) (p1 : Int32) (ag11 : Int32 → Int32 → Int32 → Option (Int32)) {Γ : gX (Int32)} (h : gOk Γ cX8_secondsAlone 5 RX8 (some .int) 2 42) (z : gEnd Γ (gQp σ)) (hk0 : isO k0 8) (hg11 : ∀ (y2 : Int32) (y3 : Int32) (y4 : Int32), At Γ 11 [some (.ref (gAd Γ.1 k0)), some (.int p1), some (.int y2), some (.int y3), some (.int y4)] [] σ (ag11 y2 y3 y4)) (x2 : Int32) (x3 : Int32) (x4 : Int32) : At Γ 11 [some (.ref (gAd Γ.1 k0)), some (.int p1), some (.int x2), some (.int x3), some (.int x4)] [] σ (f_X8_secondsAlone_L11 fu σ k0 p1 ag11 x2 x3 x4) := by
  unfold f_X8_secondsAlone_L11
  refine x_iload (pc := 11) h dX8_secondsAlone_11 rfl ?_
  refine x_aload_n (pc := 13) (i := 0) h dX8_secondsAlone_13 rfl rfl ?_
  refine gf_X8_36 (pc := 14) h hk0 dX8_secondsAlone_14 ?_
  refine x_icmp_ge (pc := 17) (tgt := 66) h dX8_secondsAlone_17 (by decide) ?_ ?_
  · refine x_iload_n (pc := 66) (i := 3) h dX8_secondsAlone_66 rfl rfl ?_
    refine x_iconst (pc := 67) (v := 0) h dX8_secondsAlone_67 (by decide) ?_
    refine x_aload_n (pc := 68) (i := 0) h dX8_secondsAlone_68 rfl rfl ?_
    refine x_iload_n (pc := 69) (i := 1) h dX8_secondsAlone_69 rfl rfl ?_
    refine x_Vp (pc := 70) (av := fun ad => [.int p1]) (rest := [.int 0, .int x3]) h m_X8_endOf i_X8_endOf kl_X8_80 hk0 (by decide) rfl (c_X8_endOf fu σ k0 p1 hk0) rfl rfl (gCaM rfl) dX8_secondsAlone_70 (fun v70 => ?_)
    refine x_iload_n (pc := 73) (i := 2) h dX8_secondsAlone_73 rfl rfl ?_
    refine x_isub (pc := 74) h dX8_secondsAlone_74 ?_
    refine x_Sp (pc := 75) (av := fun ad => [.int 0, .int (v70 - x2)]) (rest := [.int x3]) h m_J9_max_7cf53 s_J9_max_7cf53 kl_X8_101 (c_J9_max_7cf53 fu σ 0 (v70 - x2)) rfl rfl (gCaM rfl) dX8_secondsAlone_75 (fun v75 => ?_)
    refine x_iadd (pc := 78) h dX8_secondsAlone_78 ?_
    exact x_iretp (pc := 79) h z rfl .int rfl rfl dX8_secondsAlone_79
  · refine x_iload (pc := 20) h dX8_secondsAlone_20 rfl ?_
    refine x_iload_n (pc := 22) (i := 1) h dX8_secondsAlone_22 rfl rfl ?_
    refine x_icmp_eq (pc := 23) (tgt := 60) h dX8_secondsAlone_23 (by decide) ?_ ?_
    · refine x_iinc (pc := 60) (i := 4) (v := (x4 + 1)) (L' := [some (.ref (gAd Γ.1 k0)), some (.int p1), some (.int x2), some (.int x3), some (.int (x4 + 1))]) h dX8_secondsAlone_60 rfl rfl rfl ?_
      refine x_goto (pc := 63) (tgt := 11) h dX8_secondsAlone_63 (by decide) ?_
      exact At.mask [true, true, true, true, true] rfl rfl (hg11 x2 x3 (x4 + 1))
    · refine x_iload_n (pc := 26) (i := 3) h dX8_secondsAlone_26 rfl rfl ?_
      refine x_iconst (pc := 27) (v := 0) h dX8_secondsAlone_27 (by decide) ?_
      refine x_aload_n (pc := 28) (i := 0) h dX8_secondsAlone_28 rfl rfl ?_
      refine x_iload (pc := 29) h dX8_secondsAlone_29 rfl ?_
      refine x_Vp (pc := 31) (av := fun ad => [.int x4]) (rest := [.int 0, .int x3]) h m_X8_beginOf i_X8_beginOf kl_X8_77 hk0 (by decide) rfl (c_X8_beginOf fu σ k0 x4 hk0) rfl rfl (gCaM rfl) dX8_secondsAlone_31 (fun v31 => ?_)
      refine x_aload_n (pc := 34) (i := 0) h dX8_secondsAlone_34 rfl rfl ?_
      refine x_iload_n (pc := 35) (i := 1) h dX8_secondsAlone_35 rfl rfl ?_
      refine x_Vp (pc := 36) (av := fun ad => [.int p1]) (rest := [.int v31, .int 0, .int x3]) h m_X8_endOf i_X8_endOf kl_X8_80 hk0 (by decide) rfl (c_X8_endOf fu σ k0 p1 hk0) rfl rfl (gCaM rfl) dX8_secondsAlone_36 (fun v36 => ?_)
      refine x_Sp (pc := 39) (av := fun ad => [.int v31, .int v36]) (rest := [.int 0, .int x3]) h m_J9_min_7cf53 s_J9_min_7cf53 kl_X8_96 (c_J9_min_7cf53 fu σ v31 v36) rfl rfl (gCaM rfl) dX8_secondsAlone_39 (fun v39 => ?_)
      refine x_iload_n (pc := 42) (i := 2) h dX8_secondsAlone_42 rfl rfl ?_
      refine x_isub (pc := 43) h dX8_secondsAlone_43 ?_
      refine x_Sp (pc := 44) (av := fun ad => [.int 0, .int (v39 - x2)]) (rest := [.int x3]) h m_J9_max_7cf53 s_J9_max_7cf53 kl_X8_101 (c_J9_max_7cf53 fu σ 0 (v39 - x2)) rfl rfl (gCaM rfl) dX8_secondsAlone_44 (fun v44 => ?_)
      refine x_iadd (pc := 47) h dX8_secondsAlone_47 ?_
      refine x_istore_n (pc := 48) (i := 3) (L' := [some (.ref (gAd Γ.1 k0)), some (.int p1), some (.int x2), some (.int (x3 + v44)), some (.int x4)]) h dX8_secondsAlone_48 rfl (Nat.le_of_ble_eq_true rfl) rfl ?_
      refine x_iload_n (pc := 49) (i := 2) h dX8_secondsAlone_49 rfl rfl ?_
      refine x_aload_n (pc := 50) (i := 0) h dX8_secondsAlone_50 rfl rfl ?_
      refine x_iload (pc := 51) h dX8_secondsAlone_51 rfl ?_
      refine x_Vp (pc := 53) (av := fun ad => [.int x4]) (rest := [.int x2]) h m_X8_endOf i_X8_endOf kl_X8_80 hk0 (by decide) rfl (c_X8_endOf fu σ k0 x4 hk0) rfl rfl (gCaM rfl) dX8_secondsAlone_53 (fun v53 => ?_)
      refine x_Sp (pc := 56) (av := fun ad => [.int x2, .int v53]) (rest := []) h m_J9_max_7cf53 s_J9_max_7cf53 kl_X8_101 (c_J9_max_7cf53 fu σ x2 v53) rfl rfl (gCaM rfl) dX8_secondsAlone_56 (fun v56 => ?_)
      refine x_istore_n (pc := 59) (i := 2) (L' := [some (.ref (gAd Γ.1 k0)), some (.int p1), some (.int v56), some (.int (x3 + v44)), some (.int x4)]) h dX8_secondsAlone_59 rfl (Nat.le_of_ble_eq_true rfl) rfl ?_
      refine x_iinc (pc := 60) (i := 4) (v := (x4 + 1)) (L' := [some (.ref (gAd Γ.1 k0)), some (.int p1), some (.int v56), some (.int (x3 + v44)), some (.int (x4 + 1))]) h dX8_secondsAlone_60 rfl rfl rfl ?_
      refine x_goto (pc := 63) (tgt := 11) h dX8_secondsAlone_63 (by decide) ?_
      exact At.mask [true, true, true, true, true] rfl rfl (hg11 v56 (x3 + v44) (x4 + 1))

theorem f_X8_secondsAlone_W11_at (fu : Nat) (σ : gSt) (k0 : Nat) (p1 : Int32) {Γ : gX (Int32)} (h : gOk Γ cX8_secondsAlone 5 RX8 (some .int) 2 42) (z : gEnd Γ (gQp σ)) (hk0 : isO k0 8) : ∀ (n : Nat) (x2 : Int32) (x3 : Int32) (x4 : Int32), At Γ 11 [some (.ref (gAd Γ.1 k0)), some (.int p1), some (.int x2), some (.int x3), some (.int x4)] [] σ (f_X8_secondsAlone_W11 fu σ k0 p1 n x2 x3 x4) := by
  intro n
  induction n with
  | zero => intro x2 x3 x4 r hr; cases hr
  | succ n ih =>
    intro x2 x3 x4
    exact f_X8_secondsAlone_L11_at fu σ k0 p1 (f_X8_secondsAlone_W11 fu σ k0 p1 n) h z hk0 ih x2 x3 x4

set_option maxRecDepth 20000 in
set_option maxHeartbeats 4000000 in
theorem c_X8_secondsAlone (fu : Nat) (σ : gSt) (k0 : Nat) (p1 : Int32) (hk0 : isO k0 8) : gCt yX8_secondsAlone cX8_secondsAlone 5 (some .int) 2 42 (gQp σ) (fun ad => [.ref (ad k0), .int p1]) σ (f_X8_secondsAlone fu σ k0 p1) := by
  refine gCt_intro RX8 rfl (by decide +kernel) (fun ad v hv => by simp only [List.mem_cons, List.not_mem_nil, or_false] at hv; rcases hv with rfl | rfl <;> rfl) (fun ad => Nat.le_of_ble_eq_true rfl) (fun Γ h z => ?_)
  show At Γ 0 [some (.ref (gAd Γ.1 k0)), some (.int p1), none, none, none] [] σ _
  unfold f_X8_secondsAlone
  refine x_aload_n (pc := 0) (i := 0) h dX8_secondsAlone_0 rfl rfl ?_
  refine x_iload_n (pc := 1) (i := 1) h dX8_secondsAlone_1 rfl rfl ?_
  refine x_Vp (pc := 2) (av := fun ad => [.int p1]) (rest := []) h m_X8_beginOf i_X8_beginOf kl_X8_77 hk0 (by decide) rfl (c_X8_beginOf fu σ k0 p1 hk0) rfl rfl (gCaM rfl) dX8_secondsAlone_2 (fun v2 => ?_)
  refine x_istore_n (pc := 5) (i := 2) (L' := [some (.ref (gAd Γ.1 k0)), some (.int p1), some (.int v2), none, none]) h dX8_secondsAlone_5 rfl (Nat.le_of_ble_eq_true rfl) rfl ?_
  refine x_iconst (pc := 6) (v := 0) h dX8_secondsAlone_6 (by decide) ?_
  refine x_istore_n (pc := 7) (i := 3) (L' := [some (.ref (gAd Γ.1 k0)), some (.int p1), some (.int v2), some (.int 0), none]) h dX8_secondsAlone_7 rfl (Nat.le_of_ble_eq_true rfl) rfl ?_
  refine x_iconst (pc := 8) (v := 0) h dX8_secondsAlone_8 (by decide) ?_
  refine x_istore (pc := 9) (L' := [some (.ref (gAd Γ.1 k0)), some (.int p1), some (.int v2), some (.int 0), some (.int 0)]) h dX8_secondsAlone_9 (Nat.le_of_ble_eq_true rfl) rfl ?_
  exact At.mask [true, true, true, true, true] rfl rfl (f_X8_secondsAlone_W11_at fu σ k0 p1 h z hk0 fu v2 0 0)

set_option maxRecDepth 20000 in
set_option maxHeartbeats 4000000 in
theorem c_X5_ofTurn (fu : Nat) (σ : gSt) (k0 : Nat) (p1 : Int32) (p2 : Int32) (hk0 : isO k0 5) : gCt yX5_ofTurn cX5_ofTurn 3 (some .int) 4 87 (gQp σ) (fun ad => [.ref (ad k0), .int p1, .int p2]) σ (f_X5_ofTurn fu σ k0 p1 p2) := by
  refine gCt_intro RX5 rfl (by decide +kernel) (fun ad v hv => by simp only [List.mem_cons, List.not_mem_nil, or_false] at hv; rcases hv with rfl | rfl | rfl <;> rfl) (fun ad => Nat.le_of_ble_eq_true rfl) (fun Γ h z => ?_)
  show At Γ 0 [some (.ref (gAd Γ.1 k0)), some (.int p1), some (.int p2)] [] σ _
  unfold f_X5_ofTurn
  refine x_aload_n (pc := 0) (i := 0) h dX5_ofTurn_0 rfl rfl ?_
  refine gf_X5_25 (pc := 1) h hk0 dX5_ofTurn_1 ?_
  refine x_iload_n (pc := 4) (i := 1) h dX5_ofTurn_4 rfl rfl ?_
  refine x_Vp (pc := 5) (av := fun ad => [.int p1]) (rest := []) h m_X8_has i_X8_has kl_X5_36 (t_5_1 hk0) (by decide) rfl (c_X8_has fu σ (k0 + 10) p1 (t_5_1 hk0)) rfl rfl (gCaM rfl) dX5_ofTurn_5 (fun v5 => ?_)
  refine x_if_ne (pc := 8) (tgt := 14) h dX5_ofTurn_8 (by decide) ?_ ?_
  · refine x_iload_n (pc := 14) (i := 2) h dX5_ofTurn_14 rfl rfl ?_
    refine x_tsw (pc := 15) (tgt := 60) h 0 (0) dX5_ofTurn_15 rfl (by decide) (by decide) rfl (by decide) ?_ (fun c15_0 => ?_)
    · refine x_aload_n (pc := 60) (i := 0) h dX5_ofTurn_60 rfl rfl ?_
      refine gf_X5_25 (pc := 61) h hk0 dX5_ofTurn_61 ?_
      refine x_iload_n (pc := 64) (i := 1) h dX5_ofTurn_64 rfl rfl ?_
      refine x_Vp (pc := 65) (av := fun ad => [.int p1]) (rest := []) h m_X8_beginOf i_X8_beginOf kl_X5_43 (t_5_1 hk0) (by decide) rfl (c_X8_beginOf fu σ (k0 + 10) p1 (t_5_1 hk0)) rfl rfl (gCaM rfl) dX5_ofTurn_65 (fun v65 => ?_)
      exact x_iretp (pc := 68) h z rfl .int rfl rfl dX5_ofTurn_68
    refine x_tsw (pc := 15) (tgt := 69) h 1 (1) dX5_ofTurn_15 rfl (by decide) (by decide) rfl (by decide) ?_ (fun c15_1 => ?_)
    · refine x_aload_n (pc := 69) (i := 0) h dX5_ofTurn_69 rfl rfl ?_
      refine gf_X5_25 (pc := 70) h hk0 dX5_ofTurn_70 ?_
      refine x_iload_n (pc := 73) (i := 1) h dX5_ofTurn_73 rfl rfl ?_
      refine x_Vp (pc := 74) (av := fun ad => [.int p1]) (rest := []) h m_X8_endOf i_X8_endOf kl_X5_47 (t_5_1 hk0) (by decide) rfl (c_X8_endOf fu σ (k0 + 10) p1 (t_5_1 hk0)) rfl rfl (gCaM rfl) dX5_ofTurn_74 (fun v74 => ?_)
      exact x_iretp (pc := 77) h z rfl .int rfl rfl dX5_ofTurn_77
    refine x_tsw (pc := 15) (tgt := 78) h 2 (2) dX5_ofTurn_15 rfl (by decide) (by decide) rfl (by decide) ?_ (fun c15_2 => ?_)
    · refine x_aload_n (pc := 78) (i := 0) h dX5_ofTurn_78 rfl rfl ?_
      refine gf_X5_25 (pc := 79) h hk0 dX5_ofTurn_79 ?_
      refine x_iload_n (pc := 82) (i := 1) h dX5_ofTurn_82 rfl rfl ?_
      refine x_Vp (pc := 83) (av := fun ad => [.int p1]) (rest := []) h m_X8_pitchOf i_X8_pitchOf kl_X5_50 (t_5_1 hk0) (by decide) rfl (c_X8_pitchOf fu σ (k0 + 10) p1 (t_5_1 hk0)) rfl rfl (gCaM rfl) dX5_ofTurn_83 (fun v83 => ?_)
      exact x_iretp (pc := 86) h z rfl .int rfl rfl dX5_ofTurn_86
    refine x_tsw (pc := 15) (tgt := 87) h 3 (3) dX5_ofTurn_15 rfl (by decide) (by decide) rfl (by decide) ?_ (fun c15_3 => ?_)
    · refine x_aload_n (pc := 87) (i := 0) h dX5_ofTurn_87 rfl rfl ?_
      refine gf_X5_25 (pc := 88) h hk0 dX5_ofTurn_88 ?_
      refine x_iload_n (pc := 91) (i := 1) h dX5_ofTurn_91 rfl rfl ?_
      refine x_Vp (pc := 92) (av := fun ad => [.int p1]) (rest := []) h m_X8_ownerOf i_X8_ownerOf kl_X5_53 (t_5_1 hk0) (by decide) rfl (c_X8_ownerOf fu σ (k0 + 10) p1 (t_5_1 hk0)) rfl rfl (gCaM rfl) dX5_ofTurn_92 (fun v92 => ?_)
      refine x_Sp (pc := 95) (av := fun ad => [.int v92]) (rest := []) h m_X5_orNotFound s_X5_orNotFound kl_X5_56 (c_X5_orNotFound fu σ v92) rfl rfl (gCaM rfl) dX5_ofTurn_95 (fun v95 => ?_)
      exact x_iretp (pc := 98) h z rfl .int rfl rfl dX5_ofTurn_98
    refine x_tsw (pc := 15) (tgt := 99) h 4 (4) dX5_ofTurn_15 rfl (by decide) (by decide) rfl (by decide) ?_ (fun c15_4 => ?_)
    · refine x_aload_n (pc := 99) (i := 0) h dX5_ofTurn_99 rfl rfl ?_
      refine gf_X5_25 (pc := 100) h hk0 dX5_ofTurn_100 ?_
      refine x_iload_n (pc := 103) (i := 1) h dX5_ofTurn_103 rfl rfl ?_
      refine x_Vp (pc := 104) (av := fun ad => [.int p1]) (rest := []) h m_X8_termCountOf i_X8_termCountOf kl_X5_59 (t_5_1 hk0) (by decide) rfl (c_X8_termCountOf fu σ (k0 + 10) p1 (t_5_1 hk0)) rfl rfl (gCaM rfl) dX5_ofTurn_104 (fun v104 => ?_)
      exact x_iretp (pc := 107) h z rfl .int rfl rfl dX5_ofTurn_107
    refine x_tsw (pc := 15) (tgt := 108) h 5 (5) dX5_ofTurn_15 rfl (by decide) (by decide) rfl (by decide) ?_ (fun c15_5 => ?_)
    · refine x_aload_n (pc := 108) (i := 0) h dX5_ofTurn_108 rfl rfl ?_
      refine gf_X5_25 (pc := 109) h hk0 dX5_ofTurn_109 ?_
      refine x_iload_n (pc := 112) (i := 1) h dX5_ofTurn_112 rfl rfl ?_
      refine x_Vp (pc := 113) (av := fun ad => [.int p1]) (rest := []) h m_X8_overlapping i_X8_overlapping kl_X5_62 (t_5_1 hk0) (by decide) rfl (c_X8_overlapping fu σ (k0 + 10) p1 (t_5_1 hk0)) rfl rfl (gCaM rfl) dX5_ofTurn_113 (fun v113 => ?_)
      exact x_iretp (pc := 116) h z rfl .int rfl rfl dX5_ofTurn_116
    refine x_tsw (pc := 15) (tgt := 117) h 6 (6) dX5_ofTurn_15 rfl (by decide) (by decide) rfl (by decide) ?_ (fun c15_6 => ?_)
    · refine x_aload_n (pc := 117) (i := 0) h dX5_ofTurn_117 rfl rfl ?_
      refine gf_X5_25 (pc := 118) h hk0 dX5_ofTurn_118 ?_
      refine x_iload_n (pc := 121) (i := 1) h dX5_ofTurn_121 rfl rfl ?_
      refine x_Vp (pc := 122) (av := fun ad => [.int p1]) (rest := []) h m_X8_interruptedBy i_X8_interruptedBy kl_X5_65 (t_5_1 hk0) (by decide) rfl (c_X8_interruptedBy fu σ (k0 + 10) p1 (t_5_1 hk0)) rfl rfl (gCaM rfl) dX5_ofTurn_122 (fun v122 => ?_)
      exact x_iretp (pc := 125) h z rfl .int rfl rfl dX5_ofTurn_125
    refine x_tsw (pc := 15) (tgt := 126) h 7 (7) dX5_ofTurn_15 rfl (by decide) (by decide) rfl (by decide) ?_ (fun c15_7 => ?_)
    · refine x_aload_n (pc := 126) (i := 0) h dX5_ofTurn_126 rfl rfl ?_
      refine gf_X5_25 (pc := 127) h hk0 dX5_ofTurn_127 ?_
      refine x_iload_n (pc := 130) (i := 1) h dX5_ofTurn_130 rfl rfl ?_
      refine x_Vp (pc := 131) (av := fun ad => [.int p1]) (rest := []) h m_X8_secondsAlone i_X8_secondsAlone kl_X5_68 (t_5_1 hk0) (by decide) rfl (c_X8_secondsAlone fu σ (k0 + 10) p1 (t_5_1 hk0)) rfl rfl (gCaM rfl) dX5_ofTurn_131 (fun v131 => ?_)
      exact x_iretp (pc := 134) h z rfl .int rfl rfl dX5_ofTurn_134
    refine x_tswd (pc := 15) (tgt := 135) h dX5_ofTurn_15 (by have e0 := gNe (0) c15_0 rfl; have e1 := gNe (1) c15_1 rfl; have e2 := gNe (2) c15_2 rfl; have e3 := gNe (3) c15_3 rfl; have e4 := gNe (4) c15_4 rfl; have e5 := gNe (5) c15_5 rfl; have e6 := gNe (6) c15_6 rfl; have e7 := gNe (7) c15_7 rfl; omega) (by decide) ?_
    refine x_ldc (pc := 135) h kc_X5_42 dX5_ofTurn_135 ?_
    exact x_iretp (pc := 137) h z rfl .int rfl rfl dX5_ofTurn_137
  · refine x_ldc (pc := 11) h kc_X5_42 dX5_ofTurn_11 ?_
    exact x_iretp (pc := 13) h z rfl .int rfl rfl dX5_ofTurn_13

set_option maxRecDepth 20000 in
set_option maxHeartbeats 4000000 in
theorem c_X9_turnOf (fu : Nat) (σ : gSt) (k0 : Nat) (p1 : Int32) (p2 : Int32) (hk0 : isO k0 9) : gCt yX9_turnOf cX9_turnOf 3 (some .int) 5 109 (gQp σ) (fun ad => [.ref (ad k0), .int p1, .int p2]) σ (f_X9_turnOf fu σ k0 p1 p2) := by
  refine gCt_intro RX9 rfl (by decide +kernel) (fun ad v hv => by simp only [List.mem_cons, List.not_mem_nil, or_false] at hv; rcases hv with rfl | rfl | rfl <;> rfl) (fun ad => Nat.le_of_ble_eq_true rfl) (fun Γ h z => ?_)
  show At Γ 0 [some (.ref (gAd Γ.1 k0)), some (.int p1), some (.int p2)] [] σ _
  unfold f_X9_turnOf
  refine x_aload_n (pc := 0) (i := 0) h dX9_turnOf_0 rfl rfl ?_
  refine gf_X9_31 (pc := 1) h hk0 dX9_turnOf_1 ?_
  refine x_iload_n (pc := 4) (i := 1) h dX9_turnOf_4 rfl rfl ?_
  refine x_iload_n (pc := 5) (i := 2) h dX9_turnOf_5 rfl rfl ?_
  refine x_Vp (pc := 6) (av := fun ad => [.int p1, .int p2]) (rest := []) h m_X5_ofTurn i_X5_ofTurn kl_X9_90 (t_9_3 hk0) (by decide) rfl (c_X5_ofTurn fu σ (k0 + 1) p1 p2 (t_9_3 hk0)) rfl rfl (gCaM rfl) dX9_turnOf_6 (fun v6 => ?_)
  exact x_iretp (pc := 9) h z rfl .int rfl rfl dX9_turnOf_9

set_option maxRecDepth 20000 in
set_option maxHeartbeats 4000000 in
theorem f_X10_interrupt_J35_at (fu : Nat) (σ : gSt) (k0 : Nat) (p1 : Int32) (p2 : Int32) {Γ : gX (Int32)} (h : gOk Γ cX10_interrupt 4 RX10 (some .boolean) 1 22) (z : gEnd Γ (gQp σ)) (hk0 : isO k0 10) (s1 : Int32) : At Γ 35 [some (.ref (gAd Γ.1 k0)), some (.int p1), some (.int p2), none] [.int s1] σ (f_X10_interrupt_J35 fu σ k0 p1 p2 s1) := by
  unfold f_X10_interrupt_J35
  refine x_istore_n (pc := 35) (i := 3) (L' := [some (.ref (gAd Γ.1 k0)), some (.int p1), some (.int p2), some (.int s1)]) h dX10_interrupt_35 rfl (Nat.le_of_ble_eq_true rfl) rfl ?_
  refine x_iload_n (pc := 36) (i := 3) h dX10_interrupt_36 rfl rfl ?_
  refine x_if_eq (pc := 37) (tgt := 77) h dX10_interrupt_37 (by decide) ?_ ?_
  · refine x_iconst (pc := 77) (v := 0) h dX10_interrupt_77 (by decide) ?_
    exact x_iretp (pc := 78) h z rfl .boolean rfl rfl dX10_interrupt_78
  · refine x_aload_n (pc := 40) (i := 0) h dX10_interrupt_40 rfl rfl ?_
    refine x_iload_n (pc := 41) (i := 1) h dX10_interrupt_41 rfl rfl ?_
    refine x_iconst (pc := 42) (v := 3) h dX10_interrupt_42 (by decide) ?_
    refine x_Vp (pc := 43) (av := fun ad => [.int p1, .int 3]) (rest := []) h m_X10_of i_X10_of kl_X10_47 hk0 (by decide) rfl (c_X10_of fu σ k0 p1 3 hk0) rfl rfl (gCaM rfl) dX10_interrupt_43 (fun v43 => ?_)
    refine x_if_lt (pc := 46) (tgt := 77) h dX10_interrupt_46 (by decide) ?_ ?_
    · refine x_iconst (pc := 77) (v := 0) h dX10_interrupt_77 (by decide) ?_
      exact x_iretp (pc := 78) h z rfl .boolean rfl rfl dX10_interrupt_78
    · refine x_aload_n (pc := 49) (i := 0) h dX10_interrupt_49 rfl rfl ?_
      refine x_iload_n (pc := 50) (i := 2) h dX10_interrupt_50 rfl rfl ?_
      refine x_iconst (pc := 51) (v := 3) h dX10_interrupt_51 (by decide) ?_
      refine x_Vp (pc := 52) (av := fun ad => [.int p2, .int 3]) (rest := []) h m_X10_of i_X10_of kl_X10_47 hk0 (by decide) rfl (c_X10_of fu σ k0 p2 3 hk0) rfl rfl (gCaM rfl) dX10_interrupt_52 (fun v52 => ?_)
      refine x_if_lt (pc := 55) (tgt := 77) h dX10_interrupt_55 (by decide) ?_ ?_
      · refine x_iconst (pc := 77) (v := 0) h dX10_interrupt_77 (by decide) ?_
        exact x_iretp (pc := 78) h z rfl .boolean rfl rfl dX10_interrupt_78
      · refine x_aload_n (pc := 58) (i := 0) h dX10_interrupt_58 rfl rfl ?_
        refine x_iload_n (pc := 59) (i := 1) h dX10_interrupt_59 rfl rfl ?_
        refine x_iconst (pc := 60) (v := 3) h dX10_interrupt_60 (by decide) ?_
        refine x_Vp (pc := 61) (av := fun ad => [.int p1, .int 3]) (rest := []) h m_X10_of i_X10_of kl_X10_47 hk0 (by decide) rfl (c_X10_of fu σ k0 p1 3 hk0) rfl rfl (gCaM rfl) dX10_interrupt_61 (fun v61 => ?_)
        refine x_aload_n (pc := 64) (i := 0) h dX10_interrupt_64 rfl rfl ?_
        refine x_iload_n (pc := 65) (i := 2) h dX10_interrupt_65 rfl rfl ?_
        refine x_iconst (pc := 66) (v := 3) h dX10_interrupt_66 (by decide) ?_
        refine x_Vp (pc := 67) (av := fun ad => [.int p2, .int 3]) (rest := [.int v61]) h m_X10_of i_X10_of kl_X10_47 hk0 (by decide) rfl (c_X10_of fu σ k0 p2 3 hk0) rfl rfl (gCaM rfl) dX10_interrupt_67 (fun v67 => ?_)
        refine x_icmp_eq (pc := 70) (tgt := 77) h dX10_interrupt_70 (by decide) ?_ ?_
        · refine x_iconst (pc := 77) (v := 0) h dX10_interrupt_77 (by decide) ?_
          exact x_iretp (pc := 78) h z rfl .boolean rfl rfl dX10_interrupt_78
        · refine x_iconst (pc := 73) (v := 1) h dX10_interrupt_73 (by decide) ?_
          refine x_goto (pc := 74) (tgt := 78) h dX10_interrupt_74 (by decide) ?_
          exact x_iretp (pc := 78) h z rfl .boolean rfl rfl dX10_interrupt_78

set_option maxRecDepth 20000 in
set_option maxHeartbeats 4000000 in
theorem c_X10_interrupt (fu : Nat) (σ : gSt) (k0 : Nat) (p1 : Int32) (p2 : Int32) (hk0 : isO k0 10) : gCt yX10_interrupt cX10_interrupt 4 (some .boolean) 1 22 (gQp σ) (fun ad => [.ref (ad k0), .int p1, .int p2]) σ (f_X10_interrupt fu σ k0 p1 p2) := by
  refine gCt_intro RX10 rfl (by decide +kernel) (fun ad v hv => by simp only [List.mem_cons, List.not_mem_nil, or_false] at hv; rcases hv with rfl | rfl | rfl <;> rfl) (fun ad => Nat.le_of_ble_eq_true rfl) (fun Γ h z => ?_)
  show At Γ 0 [some (.ref (gAd Γ.1 k0)), some (.int p1), some (.int p2), none] [] σ _
  unfold f_X10_interrupt
  refine x_aload_n (pc := 0) (i := 0) h dX10_interrupt_0 rfl rfl ?_
  refine x_iload_n (pc := 1) (i := 1) h dX10_interrupt_1 rfl rfl ?_
  refine x_iconst (pc := 2) (v := 0) h dX10_interrupt_2 (by decide) ?_
  refine x_Vp (pc := 3) (av := fun ad => [.int p1, .int 0]) (rest := []) h m_X10_of i_X10_of kl_X10_47 hk0 (by decide) rfl (c_X10_of fu σ k0 p1 0 hk0) rfl rfl (gCaM rfl) dX10_interrupt_3 (fun v3 => ?_)
  refine x_aload_n (pc := 6) (i := 0) h dX10_interrupt_6 rfl rfl ?_
  refine x_iload_n (pc := 7) (i := 2) h dX10_interrupt_7 rfl rfl ?_
  refine x_iconst (pc := 8) (v := 0) h dX10_interrupt_8 (by decide) ?_
  refine x_Vp (pc := 9) (av := fun ad => [.int p2, .int 0]) (rest := [.int v3]) h m_X10_of i_X10_of kl_X10_47 hk0 (by decide) rfl (c_X10_of fu σ k0 p2 0 hk0) rfl rfl (gCaM rfl) dX10_interrupt_9 (fun v9 => ?_)
  refine x_icmp_le (pc := 12) (tgt := 34) h dX10_interrupt_12 (by decide) ?_ ?_
  · refine x_iconst (pc := 34) (v := 0) h dX10_interrupt_34 (by decide) ?_
    exact At.mask [true, true, true, false] rfl rfl (f_X10_interrupt_J35_at fu σ k0 p1 p2 h z hk0 0)
  · refine x_aload_n (pc := 15) (i := 0) h dX10_interrupt_15 rfl rfl ?_
    refine x_iload_n (pc := 16) (i := 1) h dX10_interrupt_16 rfl rfl ?_
    refine x_iconst (pc := 17) (v := 0) h dX10_interrupt_17 (by decide) ?_
    refine x_Vp (pc := 18) (av := fun ad => [.int p1, .int 0]) (rest := []) h m_X10_of i_X10_of kl_X10_47 hk0 (by decide) rfl (c_X10_of fu σ k0 p1 0 hk0) rfl rfl (gCaM rfl) dX10_interrupt_18 (fun v18 => ?_)
    refine x_aload_n (pc := 21) (i := 0) h dX10_interrupt_21 rfl rfl ?_
    refine x_iload_n (pc := 22) (i := 2) h dX10_interrupt_22 rfl rfl ?_
    refine x_iconst (pc := 23) (v := 1) h dX10_interrupt_23 (by decide) ?_
    refine x_Vp (pc := 24) (av := fun ad => [.int p2, .int 1]) (rest := [.int v18]) h m_X10_of i_X10_of kl_X10_47 hk0 (by decide) rfl (c_X10_of fu σ k0 p2 1 hk0) rfl rfl (gCaM rfl) dX10_interrupt_24 (fun v24 => ?_)
    refine x_nm (e := (if v24 ≤ v18 then 0 else 1)) (pcJ := 35) (LJ := [some (.ref (gAd Γ.1 k0)), some (.int p1), some (.int p2), none]) (sJ := []) (fun w27 => ?_) (fun kj27 => ?_)
    · exact At.mask [true, true, true, false] rfl rfl (f_X10_interrupt_J35_at fu σ k0 p1 p2 h z hk0 w27)
    · refine j_icmp_ge (pc := 27) (tgt := 34) h dX10_interrupt_27 (by decide) (fun hc27_0 => ?_) (fun hc27_0 => ?_)
      · refine x_iconst (pc := 34) (v := 0) h dX10_interrupt_34 (by decide) ?_
        exact kj27 0 (by rw [if_pos hc27_0])
      · refine x_iconst (pc := 30) (v := 1) h dX10_interrupt_30 (by decide) ?_
        refine x_goto (pc := 31) (tgt := 35) h dX10_interrupt_31 (by decide) ?_
        exact kj27 1 (by rw [if_neg hc27_0])

set_option maxRecDepth 20000 in
set_option maxHeartbeats 4000000 in
theorem c_X10_overlap (fu : Nat) (σ : gSt) (k0 : Nat) (p1 : Int32) (p2 : Int32) (hk0 : isO k0 10) : gCt yX10_overlap cX10_overlap 3 (some .boolean) 1 22 (gQp σ) (fun ad => [.ref (ad k0), .int p1, .int p2]) σ (f_X10_overlap fu σ k0 p1 p2) := by
  refine gCt_intro RX10 rfl (by decide +kernel) (fun ad v hv => by simp only [List.mem_cons, List.not_mem_nil, or_false] at hv; rcases hv with rfl | rfl | rfl <;> rfl) (fun ad => Nat.le_of_ble_eq_true rfl) (fun Γ h z => ?_)
  show At Γ 0 [some (.ref (gAd Γ.1 k0)), some (.int p1), some (.int p2)] [] σ _
  unfold f_X10_overlap
  refine x_iload_n (pc := 0) (i := 1) h dX10_overlap_0 rfl rfl ?_
  refine x_iload_n (pc := 1) (i := 2) h dX10_overlap_1 rfl rfl ?_
  refine x_icmp_eq (pc := 2) (tgt := 39) h dX10_overlap_2 (by decide) ?_ ?_
  · refine x_iconst (pc := 39) (v := 0) h dX10_overlap_39 (by decide) ?_
    exact x_iretp (pc := 40) h z rfl .boolean rfl rfl dX10_overlap_40
  · refine x_aload_n (pc := 5) (i := 0) h dX10_overlap_5 rfl rfl ?_
    refine x_iload_n (pc := 6) (i := 1) h dX10_overlap_6 rfl rfl ?_
    refine x_iconst (pc := 7) (v := 0) h dX10_overlap_7 (by decide) ?_
    refine x_Vp (pc := 8) (av := fun ad => [.int p1, .int 0]) (rest := []) h m_X10_of i_X10_of kl_X10_47 hk0 (by decide) rfl (c_X10_of fu σ k0 p1 0 hk0) rfl rfl (gCaM rfl) dX10_overlap_8 (fun v8 => ?_)
    refine x_aload_n (pc := 11) (i := 0) h dX10_overlap_11 rfl rfl ?_
    refine x_iload_n (pc := 12) (i := 2) h dX10_overlap_12 rfl rfl ?_
    refine x_iconst (pc := 13) (v := 1) h dX10_overlap_13 (by decide) ?_
    refine x_Vp (pc := 14) (av := fun ad => [.int p2, .int 1]) (rest := [.int v8]) h m_X10_of i_X10_of kl_X10_47 hk0 (by decide) rfl (c_X10_of fu σ k0 p2 1 hk0) rfl rfl (gCaM rfl) dX10_overlap_14 (fun v14 => ?_)
    refine x_icmp_ge (pc := 17) (tgt := 39) h dX10_overlap_17 (by decide) ?_ ?_
    · refine x_iconst (pc := 39) (v := 0) h dX10_overlap_39 (by decide) ?_
      exact x_iretp (pc := 40) h z rfl .boolean rfl rfl dX10_overlap_40
    · refine x_aload_n (pc := 20) (i := 0) h dX10_overlap_20 rfl rfl ?_
      refine x_iload_n (pc := 21) (i := 2) h dX10_overlap_21 rfl rfl ?_
      refine x_iconst (pc := 22) (v := 0) h dX10_overlap_22 (by decide) ?_
      refine x_Vp (pc := 23) (av := fun ad => [.int p2, .int 0]) (rest := []) h m_X10_of i_X10_of kl_X10_47 hk0 (by decide) rfl (c_X10_of fu σ k0 p2 0 hk0) rfl rfl (gCaM rfl) dX10_overlap_23 (fun v23 => ?_)
      refine x_aload_n (pc := 26) (i := 0) h dX10_overlap_26 rfl rfl ?_
      refine x_iload_n (pc := 27) (i := 1) h dX10_overlap_27 rfl rfl ?_
      refine x_iconst (pc := 28) (v := 1) h dX10_overlap_28 (by decide) ?_
      refine x_Vp (pc := 29) (av := fun ad => [.int p1, .int 1]) (rest := [.int v23]) h m_X10_of i_X10_of kl_X10_47 hk0 (by decide) rfl (c_X10_of fu σ k0 p1 1 hk0) rfl rfl (gCaM rfl) dX10_overlap_29 (fun v29 => ?_)
      refine x_icmp_ge (pc := 32) (tgt := 39) h dX10_overlap_32 (by decide) ?_ ?_
      · refine x_iconst (pc := 39) (v := 0) h dX10_overlap_39 (by decide) ?_
        exact x_iretp (pc := 40) h z rfl .boolean rfl rfl dX10_overlap_40
      · refine x_iconst (pc := 35) (v := 1) h dX10_overlap_35 (by decide) ?_
        refine x_goto (pc := 36) (tgt := 40) h dX10_overlap_36 (by decide) ?_
        exact x_iretp (pc := 40) h z rfl .boolean rfl rfl dX10_overlap_40

set_option maxRecDepth 20000 in
set_option maxHeartbeats 4000000 in
theorem f_X10_overlapping_L5_at (fu : Nat) (σ : gSt) (k0 : Nat) (p1 : Int32) (p2 : Int32) (ag5 : Int32 → Int32 → Option (Int32)) {Γ : gX (Int32)} (h : gOk Γ cX10_overlapping 5 RX10 (some .int) 2 45) (z : gEnd Γ (gQp σ)) (hk0 : isO k0 10) (hg5 : ∀ (y3 : Int32) (y4 : Int32), At Γ 5 [some (.ref (gAd Γ.1 k0)), some (.int p1), some (.int p2), some (.int y3), some (.int y4)] [] σ (ag5 y3 y4)) (x3 : Int32) (x4 : Int32) : At Γ 5 [some (.ref (gAd Γ.1 k0)), some (.int p1), some (.int p2), some (.int x3), some (.int x4)] [] σ (f_X10_overlapping_L5 fu σ k0 p1 p2 ag5 x3 x4) := by
  unfold f_X10_overlapping_L5
  refine x_iload (pc := 5) h dX10_overlapping_5 rfl ?_
  refine x_aload_n (pc := 7) (i := 0) h dX10_overlapping_7 rfl rfl ?_
  refine gf_X10_7 (pc := 8) h hk0 dX10_overlapping_8 ?_
  refine x_sipush (pc := 11) (v := 282) h dX10_overlapping_11 (by decide) ?_
  refine x_ialdS (pc := 14) h 282 (t_10_0 hk0) (by decide) (by decide) (by decide) dX10_overlapping_14 ?_
  refine x_icmp_ge (pc := 15) (tgt := 62) h dX10_overlapping_15 (by decide) ?_ ?_
  · refine x_iload_n (pc := 62) (i := 3) h dX10_overlapping_62 rfl rfl ?_
    exact x_iretp (pc := 63) h z rfl .int rfl rfl dX10_overlapping_63
  · refine x_iload_n (pc := 18) (i := 3) h dX10_overlapping_18 rfl rfl ?_
    refine x_iload_n (pc := 19) (i := 2) h dX10_overlapping_19 rfl rfl ?_
    refine x_if_eq (pc := 20) (tgt := 36) h dX10_overlapping_20 (by decide) ?_ ?_
    · refine x_aload_n (pc := 36) (i := 0) h dX10_overlapping_36 rfl rfl ?_
      refine x_iload_n (pc := 37) (i := 1) h dX10_overlapping_37 rfl rfl ?_
      refine x_iload (pc := 38) h dX10_overlapping_38 rfl ?_
      refine x_Vp (pc := 40) (av := fun ad => [.int p1, .int x4]) (rest := [.int x3]) h m_X10_overlap i_X10_overlap kl_X10_101 hk0 (by decide) rfl (c_X10_overlap fu σ k0 p1 x4 hk0) rfl rfl (gCaM rfl) dX10_overlapping_40 (fun v40 => ?_)
      refine x_nm (e := (if v40 = 0 then 0 else (1 <<< (x4 &&& 31)))) (pcJ := 54) (LJ := [some (.ref (gAd Γ.1 k0)), some (.int p1), some (.int p2), some (.int x3), some (.int x4)]) (sJ := [.int x3]) (fun w43 => ?_) (fun kj43 => ?_)
      · refine x_ior (pc := 54) h dX10_overlapping_54 ?_
        refine x_istore_n (pc := 55) (i := 3) (L' := [some (.ref (gAd Γ.1 k0)), some (.int p1), some (.int p2), some (.int (x3 ||| w43)), some (.int x4)]) h dX10_overlapping_55 rfl (Nat.le_of_ble_eq_true rfl) rfl ?_
        refine x_iinc (pc := 56) (i := 4) (v := (x4 + 1)) (L' := [some (.ref (gAd Γ.1 k0)), some (.int p1), some (.int p2), some (.int (x3 ||| w43)), some (.int (x4 + 1))]) h dX10_overlapping_56 rfl rfl rfl ?_
        refine x_goto (pc := 59) (tgt := 5) h dX10_overlapping_59 (by decide) ?_
        exact At.mask [true, true, true, true, true] rfl rfl (hg5 (x3 ||| w43) (x4 + 1))
      · refine j_if_eq (pc := 43) (tgt := 53) h dX10_overlapping_43 (by decide) (fun hc43_0 => ?_) (fun hc43_0 => ?_)
        · refine x_iconst (pc := 53) (v := 0) h dX10_overlapping_53 (by decide) ?_
          exact kj43 0 (by rw [if_pos hc43_0])
        · refine x_iconst (pc := 46) (v := 1) h dX10_overlapping_46 (by decide) ?_
          refine x_iload (pc := 47) h dX10_overlapping_47 rfl ?_
          refine x_ishl (pc := 49) h dX10_overlapping_49 ?_
          refine x_goto (pc := 50) (tgt := 54) h dX10_overlapping_50 (by decide) ?_
          exact kj43 (1 <<< (x4 &&& 31)) (by rw [if_neg hc43_0])
    · refine x_aload_n (pc := 23) (i := 0) h dX10_overlapping_23 rfl rfl ?_
      refine x_iload_n (pc := 24) (i := 1) h dX10_overlapping_24 rfl rfl ?_
      refine x_iload (pc := 25) h dX10_overlapping_25 rfl ?_
      refine x_Vp (pc := 27) (av := fun ad => [.int p1, .int x4]) (rest := [.int x3]) h m_X10_interrupt i_X10_interrupt kl_X10_98 hk0 (by decide) rfl (c_X10_interrupt fu σ k0 p1 x4 hk0) rfl rfl (gCaM rfl) dX10_overlapping_27 (fun v27 => ?_)
      refine x_nm (e := (if v27 = 0 then 0 else (1 <<< (x4 &&& 31)))) (pcJ := 54) (LJ := [some (.ref (gAd Γ.1 k0)), some (.int p1), some (.int p2), some (.int x3), some (.int x4)]) (sJ := [.int x3]) (fun w30 => ?_) (fun kj30 => ?_)
      · refine x_ior (pc := 54) h dX10_overlapping_54 ?_
        refine x_istore_n (pc := 55) (i := 3) (L' := [some (.ref (gAd Γ.1 k0)), some (.int p1), some (.int p2), some (.int (x3 ||| w30)), some (.int x4)]) h dX10_overlapping_55 rfl (Nat.le_of_ble_eq_true rfl) rfl ?_
        refine x_iinc (pc := 56) (i := 4) (v := (x4 + 1)) (L' := [some (.ref (gAd Γ.1 k0)), some (.int p1), some (.int p2), some (.int (x3 ||| w30)), some (.int (x4 + 1))]) h dX10_overlapping_56 rfl rfl rfl ?_
        refine x_goto (pc := 59) (tgt := 5) h dX10_overlapping_59 (by decide) ?_
        exact At.mask [true, true, true, true, true] rfl rfl (hg5 (x3 ||| w30) (x4 + 1))
      · refine j_if_eq (pc := 30) (tgt := 53) h dX10_overlapping_30 (by decide) (fun hc30_0 => ?_) (fun hc30_0 => ?_)
        · refine x_iconst (pc := 53) (v := 0) h dX10_overlapping_53 (by decide) ?_
          exact kj30 0 (by rw [if_pos hc30_0])
        · refine x_goto (pc := 33) (tgt := 46) h dX10_overlapping_33 (by decide) ?_
          refine x_iconst (pc := 46) (v := 1) h dX10_overlapping_46 (by decide) ?_
          refine x_iload (pc := 47) h dX10_overlapping_47 rfl ?_
          refine x_ishl (pc := 49) h dX10_overlapping_49 ?_
          refine x_goto (pc := 50) (tgt := 54) h dX10_overlapping_50 (by decide) ?_
          exact kj30 (1 <<< (x4 &&& 31)) (by rw [if_neg hc30_0])

theorem f_X10_overlapping_W5_at (fu : Nat) (σ : gSt) (k0 : Nat) (p1 : Int32) (p2 : Int32) {Γ : gX (Int32)} (h : gOk Γ cX10_overlapping 5 RX10 (some .int) 2 45) (z : gEnd Γ (gQp σ)) (hk0 : isO k0 10) : ∀ (n : Nat) (x3 : Int32) (x4 : Int32), At Γ 5 [some (.ref (gAd Γ.1 k0)), some (.int p1), some (.int p2), some (.int x3), some (.int x4)] [] σ (f_X10_overlapping_W5 fu σ k0 p1 p2 n x3 x4) := by
  intro n
  induction n with
  | zero => intro x3 x4 r hr; cases hr
  | succ n ih =>
    intro x3 x4
    exact f_X10_overlapping_L5_at fu σ k0 p1 p2 (f_X10_overlapping_W5 fu σ k0 p1 p2 n) h z hk0 ih x3 x4

set_option maxRecDepth 20000 in
set_option maxHeartbeats 4000000 in
theorem c_X10_overlapping (fu : Nat) (σ : gSt) (k0 : Nat) (p1 : Int32) (p2 : Int32) (hk0 : isO k0 10) : gCt yX10_overlapping cX10_overlapping 5 (some .int) 2 45 (gQp σ) (fun ad => [.ref (ad k0), .int p1, .int p2]) σ (f_X10_overlapping fu σ k0 p1 p2) := by
  refine gCt_intro RX10 rfl (by decide +kernel) (fun ad v hv => by simp only [List.mem_cons, List.not_mem_nil, or_false] at hv; rcases hv with rfl | rfl | rfl <;> rfl) (fun ad => Nat.le_of_ble_eq_true rfl) (fun Γ h z => ?_)
  show At Γ 0 [some (.ref (gAd Γ.1 k0)), some (.int p1), some (.int p2), none, none] [] σ _
  unfold f_X10_overlapping
  refine x_iconst (pc := 0) (v := 0) h dX10_overlapping_0 (by decide) ?_
  refine x_istore_n (pc := 1) (i := 3) (L' := [some (.ref (gAd Γ.1 k0)), some (.int p1), some (.int p2), some (.int 0), none]) h dX10_overlapping_1 rfl (Nat.le_of_ble_eq_true rfl) rfl ?_
  refine x_iconst (pc := 2) (v := 0) h dX10_overlapping_2 (by decide) ?_
  refine x_istore (pc := 3) (L' := [some (.ref (gAd Γ.1 k0)), some (.int p1), some (.int p2), some (.int 0), some (.int 0)]) h dX10_overlapping_3 (Nat.le_of_ble_eq_true rfl) rfl ?_
  exact At.mask [true, true, true, true, true] rfl rfl (f_X10_overlapping_W5_at fu σ k0 p1 p2 h z hk0 fu 0 0)

set_option maxRecDepth 20000 in
set_option maxHeartbeats 4000000 in
theorem c_X10_goesOn (fu : Nat) (σ : gSt) (k0 : Nat) (p1 : Int32) (p2 : Int32) (hk0 : isO k0 10) : gCt yX10_goesOn cX10_goesOn 3 (some .boolean) 1 22 (gQp σ) (fun ad => [.ref (ad k0), .int p1, .int p2]) σ (f_X10_goesOn fu σ k0 p1 p2) := by
  refine gCt_intro RX10 rfl (by decide +kernel) (fun ad v hv => by simp only [List.mem_cons, List.not_mem_nil, or_false] at hv; rcases hv with rfl | rfl | rfl <;> rfl) (fun ad => Nat.le_of_ble_eq_true rfl) (fun Γ h z => ?_)
  show At Γ 0 [some (.ref (gAd Γ.1 k0)), some (.int p1), some (.int p2)] [] σ _
  unfold f_X10_goesOn
  refine x_aload_n (pc := 0) (i := 0) h dX10_goesOn_0 rfl rfl ?_
  refine x_iload_n (pc := 1) (i := 1) h dX10_goesOn_1 rfl rfl ?_
  refine x_iconst (pc := 2) (v := 0) h dX10_goesOn_2 (by decide) ?_
  refine x_Vp (pc := 3) (av := fun ad => [.int p1, .int 0]) (rest := []) h m_X10_of i_X10_of kl_X10_47 hk0 (by decide) rfl (c_X10_of fu σ k0 p1 0 hk0) rfl rfl (gCaM rfl) dX10_goesOn_3 (fun v3 => ?_)
  refine x_iload_n (pc := 6) (i := 2) h dX10_goesOn_6 rfl rfl ?_
  refine x_icmp_gt (pc := 7) (tgt := 24) h dX10_goesOn_7 (by decide) ?_ ?_
  · refine x_iconst (pc := 24) (v := 0) h dX10_goesOn_24 (by decide) ?_
    exact x_iretp (pc := 25) h z rfl .boolean rfl rfl dX10_goesOn_25
  · refine x_iload_n (pc := 10) (i := 2) h dX10_goesOn_10 rfl rfl ?_
    refine x_aload_n (pc := 11) (i := 0) h dX10_goesOn_11 rfl rfl ?_
    refine x_iload_n (pc := 12) (i := 1) h dX10_goesOn_12 rfl rfl ?_
    refine x_iconst (pc := 13) (v := 1) h dX10_goesOn_13 (by decide) ?_
    refine x_Vp (pc := 14) (av := fun ad => [.int p1, .int 1]) (rest := [.int p2]) h m_X10_of i_X10_of kl_X10_47 hk0 (by decide) rfl (c_X10_of fu σ k0 p1 1 hk0) rfl rfl (gCaM rfl) dX10_goesOn_14 (fun v14 => ?_)
    refine x_icmp_ge (pc := 17) (tgt := 24) h dX10_goesOn_17 (by decide) ?_ ?_
    · refine x_iconst (pc := 24) (v := 0) h dX10_goesOn_24 (by decide) ?_
      exact x_iretp (pc := 25) h z rfl .boolean rfl rfl dX10_goesOn_25
    · refine x_iconst (pc := 20) (v := 1) h dX10_goesOn_20 (by decide) ?_
      refine x_goto (pc := 21) (tgt := 25) h dX10_goesOn_21 (by decide) ?_
      exact x_iretp (pc := 25) h z rfl .boolean rfl rfl dX10_goesOn_25

set_option maxRecDepth 20000 in
set_option maxHeartbeats 4000000 in
theorem f_X10_going_L4_at (fu : Nat) (σ : gSt) (k0 : Nat) (p1 : Int32) (ag4 : Int32 → Int32 → Option (Int32)) {Γ : gX (Int32)} (h : gOk Γ cX10_going 4 RX10 (some .int) 2 44) (z : gEnd Γ (gQp σ)) (hk0 : isO k0 10) (hg4 : ∀ (y2 : Int32) (y3 : Int32), At Γ 4 [some (.ref (gAd Γ.1 k0)), some (.int p1), some (.int y2), some (.int y3)] [] σ (ag4 y2 y3)) (x2 : Int32) (x3 : Int32) : At Γ 4 [some (.ref (gAd Γ.1 k0)), some (.int p1), some (.int x2), some (.int x3)] [] σ (f_X10_going_L4 fu σ k0 p1 ag4 x2 x3) := by
  unfold f_X10_going_L4
  refine x_iload_n (pc := 4) (i := 3) h dX10_going_4 rfl rfl ?_
  refine x_aload_n (pc := 5) (i := 0) h dX10_going_5 rfl rfl ?_
  refine gf_X10_7 (pc := 6) h hk0 dX10_going_6 ?_
  refine x_sipush (pc := 9) (v := 282) h dX10_going_9 (by decide) ?_
  refine x_ialdS (pc := 12) h 282 (t_10_0 hk0) (by decide) (by decide) (by decide) dX10_going_12 ?_
  refine x_icmp_ge (pc := 13) (tgt := 41) h dX10_going_13 (by decide) ?_ ?_
  · refine x_iload_n (pc := 41) (i := 2) h dX10_going_41 rfl rfl ?_
    exact x_iretp (pc := 42) h z rfl .int rfl rfl dX10_going_42
  · refine x_iload_n (pc := 16) (i := 2) h dX10_going_16 rfl rfl ?_
    refine x_aload_n (pc := 17) (i := 0) h dX10_going_17 rfl rfl ?_
    refine x_iload_n (pc := 18) (i := 3) h dX10_going_18 rfl rfl ?_
    refine x_iload_n (pc := 19) (i := 1) h dX10_going_19 rfl rfl ?_
    refine x_Vp (pc := 20) (av := fun ad => [.int x3, .int p1]) (rest := [.int x2]) h m_X10_goesOn i_X10_goesOn kl_X10_104 hk0 (by decide) rfl (c_X10_goesOn fu σ k0 x3 p1 hk0) rfl rfl (gCaM rfl) dX10_going_20 (fun v20 => ?_)
    refine x_nm (e := (if v20 = 0 then 0 else (1 <<< (x3 &&& 31)))) (pcJ := 33) (LJ := [some (.ref (gAd Γ.1 k0)), some (.int p1), some (.int x2), some (.int x3)]) (sJ := [.int x2]) (fun w23 => ?_) (fun kj23 => ?_)
    · refine x_ior (pc := 33) h dX10_going_33 ?_
      refine x_istore_n (pc := 34) (i := 2) (L' := [some (.ref (gAd Γ.1 k0)), some (.int p1), some (.int (x2 ||| w23)), some (.int x3)]) h dX10_going_34 rfl (Nat.le_of_ble_eq_true rfl) rfl ?_
      refine x_iinc (pc := 35) (i := 3) (v := (x3 + 1)) (L' := [some (.ref (gAd Γ.1 k0)), some (.int p1), some (.int (x2 ||| w23)), some (.int (x3 + 1))]) h dX10_going_35 rfl rfl rfl ?_
      refine x_goto (pc := 38) (tgt := 4) h dX10_going_38 (by decide) ?_
      exact At.mask [true, true, true, true] rfl rfl (hg4 (x2 ||| w23) (x3 + 1))
    · refine j_if_eq (pc := 23) (tgt := 32) h dX10_going_23 (by decide) (fun hc23_0 => ?_) (fun hc23_0 => ?_)
      · refine x_iconst (pc := 32) (v := 0) h dX10_going_32 (by decide) ?_
        exact kj23 0 (by rw [if_pos hc23_0])
      · refine x_iconst (pc := 26) (v := 1) h dX10_going_26 (by decide) ?_
        refine x_iload_n (pc := 27) (i := 3) h dX10_going_27 rfl rfl ?_
        refine x_ishl (pc := 28) h dX10_going_28 ?_
        refine x_goto (pc := 29) (tgt := 33) h dX10_going_29 (by decide) ?_
        exact kj23 (1 <<< (x3 &&& 31)) (by rw [if_neg hc23_0])

theorem f_X10_going_W4_at (fu : Nat) (σ : gSt) (k0 : Nat) (p1 : Int32) {Γ : gX (Int32)} (h : gOk Γ cX10_going 4 RX10 (some .int) 2 44) (z : gEnd Γ (gQp σ)) (hk0 : isO k0 10) : ∀ (n : Nat) (x2 : Int32) (x3 : Int32), At Γ 4 [some (.ref (gAd Γ.1 k0)), some (.int p1), some (.int x2), some (.int x3)] [] σ (f_X10_going_W4 fu σ k0 p1 n x2 x3) := by
  intro n
  induction n with
  | zero => intro x2 x3 r hr; cases hr
  | succ n ih =>
    intro x2 x3
    exact f_X10_going_L4_at fu σ k0 p1 (f_X10_going_W4 fu σ k0 p1 n) h z hk0 ih x2 x3

set_option maxRecDepth 20000 in
set_option maxHeartbeats 4000000 in
theorem c_X10_going (fu : Nat) (σ : gSt) (k0 : Nat) (p1 : Int32) (hk0 : isO k0 10) : gCt yX10_going cX10_going 4 (some .int) 2 44 (gQp σ) (fun ad => [.ref (ad k0), .int p1]) σ (f_X10_going fu σ k0 p1) := by
  refine gCt_intro RX10 rfl (by decide +kernel) (fun ad v hv => by simp only [List.mem_cons, List.not_mem_nil, or_false] at hv; rcases hv with rfl | rfl <;> rfl) (fun ad => Nat.le_of_ble_eq_true rfl) (fun Γ h z => ?_)
  show At Γ 0 [some (.ref (gAd Γ.1 k0)), some (.int p1), none, none] [] σ _
  unfold f_X10_going
  refine x_iconst (pc := 0) (v := 0) h dX10_going_0 (by decide) ?_
  refine x_istore_n (pc := 1) (i := 2) (L' := [some (.ref (gAd Γ.1 k0)), some (.int p1), some (.int 0), none]) h dX10_going_1 rfl (Nat.le_of_ble_eq_true rfl) rfl ?_
  refine x_iconst (pc := 2) (v := 0) h dX10_going_2 (by decide) ?_
  refine x_istore_n (pc := 3) (i := 3) (L' := [some (.ref (gAd Γ.1 k0)), some (.int p1), some (.int 0), some (.int 0)]) h dX10_going_3 rfl (Nat.le_of_ble_eq_true rfl) rfl ?_
  exact At.mask [true, true, true, true] rfl rfl (f_X10_going_W4_at fu σ k0 p1 h z hk0 fu 0 0)

set_option maxRecDepth 20000 in
set_option maxHeartbeats 4000000 in
theorem f_X10_alone_L9_at (fu : Nat) (σ : gSt) (k0 : Nat) (p1 : Int32) (ag9 : Int32 → Int32 → Option (Int32)) {Γ : gX (Int32)} (h : gOk Γ cX10_alone 4 RX10 (some .int) 3 67) (z : gEnd Γ (gQp σ)) (hk0 : isO k0 10) (hg9 : ∀ (y2 : Int32) (y3 : Int32), At Γ 9 [some (.ref (gAd Γ.1 k0)), some (.int p1), some (.int y2), some (.int y3)] [] σ (ag9 y2 y3)) (x2 : Int32) (x3 : Int32) : At Γ 9 [some (.ref (gAd Γ.1 k0)), some (.int p1), some (.int x2), some (.int x3)] [] σ (f_X10_alone_L9 fu σ k0 p1 ag9 x2 x3) := by
  unfold f_X10_alone_L9
  refine x_iload_n (pc := 9) (i := 3) h dX10_alone_9 rfl rfl ?_
  refine x_aload_n (pc := 10) (i := 0) h dX10_alone_10 rfl rfl ?_
  refine x_iload_n (pc := 11) (i := 1) h dX10_alone_11 rfl rfl ?_
  refine x_iconst (pc := 12) (v := 1) h dX10_alone_12 (by decide) ?_
  refine x_Vp (pc := 13) (av := fun ad => [.int p1, .int 1]) (rest := [.int x3]) h m_X10_of i_X10_of kl_X10_47 hk0 (by decide) rfl (c_X10_of fu σ k0 p1 1 hk0) rfl rfl (gCaM rfl) dX10_alone_13 (fun v13 => ?_)
  refine x_icmp_ge (pc := 16) (tgt := 44) h dX10_alone_16 (by decide) ?_ ?_
  · refine x_iload_n (pc := 44) (i := 2) h dX10_alone_44 rfl rfl ?_
    exact x_iretp (pc := 45) h z rfl .int rfl rfl dX10_alone_45
  · refine x_iload_n (pc := 19) (i := 2) h dX10_alone_19 rfl rfl ?_
    refine x_aload_n (pc := 20) (i := 0) h dX10_alone_20 rfl rfl ?_
    refine x_iload_n (pc := 21) (i := 3) h dX10_alone_21 rfl rfl ?_
    refine x_Vp (pc := 22) (av := fun ad => [.int x3]) (rest := [.int x2]) h m_X10_going i_X10_going kl_X10_107 hk0 (by decide) rfl (c_X10_going fu σ k0 x3 hk0) rfl rfl (gCaM rfl) dX10_alone_22 (fun v22 => ?_)
    refine x_iconst (pc := 25) (v := 1) h dX10_alone_25 (by decide) ?_
    refine x_iload_n (pc := 26) (i := 1) h dX10_alone_26 rfl rfl ?_
    refine x_ishl (pc := 27) h dX10_alone_27 ?_
    refine x_nm (e := (if v22 = (1 <<< (p1 &&& 31)) then 1 else 0)) (pcJ := 36) (LJ := [some (.ref (gAd Γ.1 k0)), some (.int p1), some (.int x2), some (.int x3)]) (sJ := [.int x2]) (fun w28 => ?_) (fun kj28 => ?_)
    · refine x_iadd (pc := 36) h dX10_alone_36 ?_
      refine x_istore_n (pc := 37) (i := 2) (L' := [some (.ref (gAd Γ.1 k0)), some (.int p1), some (.int (x2 + w28)), some (.int x3)]) h dX10_alone_37 rfl (Nat.le_of_ble_eq_true rfl) rfl ?_
      refine x_iinc (pc := 38) (i := 3) (v := (x3 + 1)) (L' := [some (.ref (gAd Γ.1 k0)), some (.int p1), some (.int (x2 + w28)), some (.int (x3 + 1))]) h dX10_alone_38 rfl rfl rfl ?_
      refine x_goto (pc := 41) (tgt := 9) h dX10_alone_41 (by decide) ?_
      exact At.mask [true, true, true, true] rfl rfl (hg9 (x2 + w28) (x3 + 1))
    · refine j_icmp_ne (pc := 28) (tgt := 35) h dX10_alone_28 (by decide) (fun hc28_0 => ?_) (fun hc28_0 => ?_)
      · refine x_iconst (pc := 35) (v := 0) h dX10_alone_35 (by decide) ?_
        exact kj28 0 (by rw [if_neg hc28_0])
      · refine x_iconst (pc := 31) (v := 1) h dX10_alone_31 (by decide) ?_
        refine x_goto (pc := 32) (tgt := 36) h dX10_alone_32 (by decide) ?_
        exact kj28 1 (by rw [if_pos hc28_0])

theorem f_X10_alone_W9_at (fu : Nat) (σ : gSt) (k0 : Nat) (p1 : Int32) {Γ : gX (Int32)} (h : gOk Γ cX10_alone 4 RX10 (some .int) 3 67) (z : gEnd Γ (gQp σ)) (hk0 : isO k0 10) : ∀ (n : Nat) (x2 : Int32) (x3 : Int32), At Γ 9 [some (.ref (gAd Γ.1 k0)), some (.int p1), some (.int x2), some (.int x3)] [] σ (f_X10_alone_W9 fu σ k0 p1 n x2 x3) := by
  intro n
  induction n with
  | zero => intro x2 x3 r hr; cases hr
  | succ n ih =>
    intro x2 x3
    exact f_X10_alone_L9_at fu σ k0 p1 (f_X10_alone_W9 fu σ k0 p1 n) h z hk0 ih x2 x3

set_option maxRecDepth 20000 in
set_option maxHeartbeats 4000000 in
theorem c_X10_alone (fu : Nat) (σ : gSt) (k0 : Nat) (p1 : Int32) (hk0 : isO k0 10) : gCt yX10_alone cX10_alone 4 (some .int) 3 67 (gQp σ) (fun ad => [.ref (ad k0), .int p1]) σ (f_X10_alone fu σ k0 p1) := by
  refine gCt_intro RX10 rfl (by decide +kernel) (fun ad v hv => by simp only [List.mem_cons, List.not_mem_nil, or_false] at hv; rcases hv with rfl | rfl <;> rfl) (fun ad => Nat.le_of_ble_eq_true rfl) (fun Γ h z => ?_)
  show At Γ 0 [some (.ref (gAd Γ.1 k0)), some (.int p1), none, none] [] σ _
  unfold f_X10_alone
  refine x_iconst (pc := 0) (v := 0) h dX10_alone_0 (by decide) ?_
  refine x_istore_n (pc := 1) (i := 2) (L' := [some (.ref (gAd Γ.1 k0)), some (.int p1), some (.int 0), none]) h dX10_alone_1 rfl (Nat.le_of_ble_eq_true rfl) rfl ?_
  refine x_aload_n (pc := 2) (i := 0) h dX10_alone_2 rfl rfl ?_
  refine x_iload_n (pc := 3) (i := 1) h dX10_alone_3 rfl rfl ?_
  refine x_iconst (pc := 4) (v := 0) h dX10_alone_4 (by decide) ?_
  refine x_Vp (pc := 5) (av := fun ad => [.int p1, .int 0]) (rest := []) h m_X10_of i_X10_of kl_X10_47 hk0 (by decide) rfl (c_X10_of fu σ k0 p1 0 hk0) rfl rfl (gCaM rfl) dX10_alone_5 (fun v5 => ?_)
  refine x_istore_n (pc := 8) (i := 3) (L' := [some (.ref (gAd Γ.1 k0)), some (.int p1), some (.int 0), some (.int v5)]) h dX10_alone_8 rfl (Nat.le_of_ble_eq_true rfl) rfl ?_
  exact At.mask [true, true, true, true] rfl rfl (f_X10_alone_W9_at fu σ k0 p1 h z hk0 fu 0 v5)

set_option maxRecDepth 20000 in
set_option maxHeartbeats 4000000 in
theorem f_X10_turnOf_J100_at (fu : Nat) (σ : gSt) (k0 : Nat) (p1 : Int32) (p2 : Int32) {Γ : gX (Int32)} (h : gOk Γ cX10_turnOf 3 RX10 (some .int) 4 90) (z : gEnd Γ (gQp σ)) (hk0 : isO k0 10) : At Γ 100 [some (.ref (gAd Γ.1 k0)), some (.int p1), some (.int p2)] [] σ (f_X10_turnOf_J100 fu σ k0 p1 p2) := by
  unfold f_X10_turnOf_J100
  refine x_aload_n (pc := 100) (i := 0) h dX10_turnOf_100 rfl rfl ?_
  refine x_iload_n (pc := 101) (i := 1) h dX10_turnOf_101 rfl rfl ?_
  refine x_iload_n (pc := 102) (i := 2) h dX10_turnOf_102 rfl rfl ?_
  refine x_Vp (pc := 103) (av := fun ad => [.int p1, .int p2]) (rest := []) h m_X10_of i_X10_of kl_X10_47 hk0 (by decide) rfl (c_X10_of fu σ k0 p1 p2 hk0) rfl rfl (gCaM rfl) dX10_turnOf_103 (fun v103 => ?_)
  exact x_iretp (pc := 106) h z rfl .int rfl rfl dX10_turnOf_106

set_option maxRecDepth 20000 in
set_option maxHeartbeats 4000000 in
theorem f_X10_turnOf_J90_at (fu : Nat) (σ : gSt) (k0 : Nat) (p1 : Int32) (p2 : Int32) {Γ : gX (Int32)} (h : gOk Γ cX10_turnOf 3 RX10 (some .int) 4 90) (z : gEnd Γ (gQp σ)) (hk0 : isO k0 10) (s3 : Int32) (s2 : Int32) : At Γ 90 [none, none, none] [.int s3, .int s2, .ref (gAd Γ.1 k0)] σ (f_X10_turnOf_J90 fu σ k0 p1 p2 s3 s2) := by
  unfold f_X10_turnOf_J90
  refine x_Vp (pc := 90) (av := fun ad => [.int s2, .int s3]) (rest := []) h m_X10_overlapping i_X10_overlapping kl_X10_111 hk0 (by decide) rfl (c_X10_overlapping fu σ k0 s2 s3 hk0) rfl rfl (gCaM rfl) dX10_turnOf_90 (fun v90 => ?_)
  exact x_iretp (pc := 93) h z rfl .int rfl rfl dX10_turnOf_93

set_option maxRecDepth 20000 in
set_option maxHeartbeats 4000000 in
theorem f_X10_turnOf_J77_at (fu : Nat) (σ : gSt) (k0 : Nat) (p1 : Int32) (p2 : Int32) {Γ : gX (Int32)} (h : gOk Γ cX10_turnOf 3 RX10 (some .int) 4 90) (z : gEnd Γ (gQp σ)) (hk0 : isO k0 10) : At Γ 77 [some (.ref (gAd Γ.1 k0)), some (.int p1), some (.int p2)] [] σ (f_X10_turnOf_J77 fu σ k0 p1 p2) := by
  unfold f_X10_turnOf_J77
  refine x_aload_n (pc := 77) (i := 0) h dX10_turnOf_77 rfl rfl ?_
  refine x_iload_n (pc := 78) (i := 1) h dX10_turnOf_78 rfl rfl ?_
  refine x_iload_n (pc := 79) (i := 2) h dX10_turnOf_79 rfl rfl ?_
  refine x_bipush (pc := 80) (v := 6) h dX10_turnOf_80 (by decide) ?_
  refine x_nm (e := (if p2 = 6 then 1 else 0)) (pcJ := 90) (LJ := [some (.ref (gAd Γ.1 k0)), some (.int p1), some (.int p2)]) (sJ := [.int p1, .ref (gAd Γ.1 k0)]) (fun w82 => ?_) (fun kj82 => ?_)
  · exact At.mask [false, false, false] rfl rfl (f_X10_turnOf_J90_at fu σ k0 p1 p2 h z hk0 w82 p1)
  · refine j_icmp_ne (pc := 82) (tgt := 89) h dX10_turnOf_82 (by decide) (fun hc82_0 => ?_) (fun hc82_0 => ?_)
    · refine x_iconst (pc := 89) (v := 0) h dX10_turnOf_89 (by decide) ?_
      exact kj82 0 (by rw [if_neg hc82_0])
    · refine x_iconst (pc := 85) (v := 1) h dX10_turnOf_85 (by decide) ?_
      refine x_goto (pc := 86) (tgt := 90) h dX10_turnOf_86 (by decide) ?_
      exact kj82 1 (by rw [if_pos hc82_0])

set_option maxRecDepth 20000 in
set_option maxHeartbeats 4000000 in
theorem c_X10_turnOf (fu : Nat) (σ : gSt) (k0 : Nat) (p1 : Int32) (p2 : Int32) (hk0 : isO k0 10) : gCt yX10_turnOf cX10_turnOf 3 (some .int) 4 90 (gQp σ) (fun ad => [.ref (ad k0), .int p1, .int p2]) σ (f_X10_turnOf fu σ k0 p1 p2) := by
  refine gCt_intro RX10 rfl (by decide +kernel) (fun ad v hv => by simp only [List.mem_cons, List.not_mem_nil, or_false] at hv; rcases hv with rfl | rfl | rfl <;> rfl) (fun ad => Nat.le_of_ble_eq_true rfl) (fun Γ h z => ?_)
  show At Γ 0 [some (.ref (gAd Γ.1 k0)), some (.int p1), some (.int p2)] [] σ _
  unfold f_X10_turnOf
  refine x_aload_n (pc := 0) (i := 0) h dX10_turnOf_0 rfl rfl ?_
  refine x_iload_n (pc := 1) (i := 1) h dX10_turnOf_1 rfl rfl ?_
  refine x_Vp (pc := 2) (av := fun ad => [.int p1]) (rest := []) h m_X10_isTurn i_X10_isTurn kl_X10_66 hk0 (by decide) rfl (c_X10_isTurn fu σ k0 p1 hk0) rfl rfl (gCaM rfl) dX10_turnOf_2 (fun v2 => ?_)
  refine x_if_eq (pc := 5) (tgt := 18) h dX10_turnOf_5 (by decide) ?_ ?_
  · refine x_ldc (pc := 18) h kc_X10_50 dX10_turnOf_18 ?_
    exact x_iretp (pc := 20) h z rfl .int rfl rfl dX10_turnOf_20
  · refine x_iload_n (pc := 8) (i := 2) h dX10_turnOf_8 rfl rfl ?_
    refine x_iconst (pc := 9) (v := 0) h dX10_turnOf_9 (by decide) ?_
    refine x_bipush (pc := 10) (v := 7) h dX10_turnOf_10 (by decide) ?_
    refine x_Sp (pc := 12) (av := fun ad => [.int p2, .int 0, .int 7]) (rest := []) h m_X10_in s_X10_in kl_X10_39 (c_X10_in fu σ p2 0 7) rfl rfl (gCaM rfl) dX10_turnOf_12 (fun v12 => ?_)
    refine x_if_ne (pc := 15) (tgt := 21) h dX10_turnOf_15 (by decide) ?_ ?_
    · refine x_iload_n (pc := 21) (i := 2) h dX10_turnOf_21 rfl rfl ?_
      refine x_tsw (pc := 22) (tgt := 56) h 3 (3) dX10_turnOf_22 rfl (by decide) (by decide) rfl (by decide) ?_ (fun c22_3 => ?_)
      · refine x_aload_n (pc := 56) (i := 0) h dX10_turnOf_56 rfl rfl ?_
        refine x_iload_n (pc := 57) (i := 1) h dX10_turnOf_57 rfl rfl ?_
        refine x_iconst (pc := 58) (v := 3) h dX10_turnOf_58 (by decide) ?_
        refine x_Vp (pc := 59) (av := fun ad => [.int p1, .int 3]) (rest := []) h m_X10_of i_X10_of kl_X10_47 hk0 (by decide) rfl (c_X10_of fu σ k0 p1 3 hk0) rfl rfl (gCaM rfl) dX10_turnOf_59 (fun v59 => ?_)
        refine x_if_ge (pc := 62) (tgt := 70) h dX10_turnOf_62 (by decide) ?_ ?_
        · refine x_aload_n (pc := 70) (i := 0) h dX10_turnOf_70 rfl rfl ?_
          refine x_iload_n (pc := 71) (i := 1) h dX10_turnOf_71 rfl rfl ?_
          refine x_iconst (pc := 72) (v := 3) h dX10_turnOf_72 (by decide) ?_
          refine x_Vp (pc := 73) (av := fun ad => [.int p1, .int 3]) (rest := []) h m_X10_of i_X10_of kl_X10_47 hk0 (by decide) rfl (c_X10_of fu σ k0 p1 3 hk0) rfl rfl (gCaM rfl) dX10_turnOf_73 (fun v73 => ?_)
          exact x_iretp (pc := 76) h z rfl .int rfl rfl dX10_turnOf_76
        · refine x_ldc (pc := 65) h kc_X10_110 dX10_turnOf_65 ?_
          refine x_goto (pc := 67) (tgt := 76) h dX10_turnOf_67 (by decide) ?_
          exact x_iretp (pc := 76) h z rfl .int rfl rfl dX10_turnOf_76
      refine x_tsw (pc := 22) (tgt := 100) h 4 (4) dX10_turnOf_22 rfl (by decide) (by decide) rfl (by decide) ?_ (fun c22_4 => ?_)
      · exact At.mask [true, true, true] rfl rfl (f_X10_turnOf_J100_at fu σ k0 p1 p2 h z hk0)
      refine x_tsw (pc := 22) (tgt := 77) h 5 (5) dX10_turnOf_22 rfl (by decide) (by decide) rfl (by decide) ?_ (fun c22_5 => ?_)
      · exact At.mask [true, true, true] rfl rfl (f_X10_turnOf_J77_at fu σ k0 p1 p2 h z hk0)
      refine x_tsw (pc := 22) (tgt := 77) h 6 (6) dX10_turnOf_22 rfl (by decide) (by decide) rfl (by decide) ?_ (fun c22_6 => ?_)
      · exact At.mask [true, true, true] rfl rfl (f_X10_turnOf_J77_at fu σ k0 p1 p2 h z hk0)
      refine x_tsw (pc := 22) (tgt := 94) h 7 (7) dX10_turnOf_22 rfl (by decide) (by decide) rfl (by decide) ?_ (fun c22_7 => ?_)
      · refine x_aload_n (pc := 94) (i := 0) h dX10_turnOf_94 rfl rfl ?_
        refine x_iload_n (pc := 95) (i := 1) h dX10_turnOf_95 rfl rfl ?_
        refine x_Vp (pc := 96) (av := fun ad => [.int p1]) (rest := []) h m_X10_alone i_X10_alone kl_X10_115 hk0 (by decide) rfl (c_X10_alone fu σ k0 p1 hk0) rfl rfl (gCaM rfl) dX10_turnOf_96 (fun v96 => ?_)
        exact x_iretp (pc := 99) h z rfl .int rfl rfl dX10_turnOf_99
      refine x_tswd (pc := 22) (tgt := 100) h dX10_turnOf_22 (by have e0 := gNe (3) c22_3 rfl; have e1 := gNe (4) c22_4 rfl; have e2 := gNe (5) c22_5 rfl; have e3 := gNe (6) c22_6 rfl; have e4 := gNe (7) c22_7 rfl; omega) (by decide) ?_
      exact At.mask [true, true, true] rfl rfl (f_X10_turnOf_J100_at fu σ k0 p1 p2 h z hk0)
    · refine x_ldc (pc := 18) h kc_X10_50 dX10_turnOf_18 ?_
      exact x_iretp (pc := 20) h z rfl .int rfl rfl dX10_turnOf_20

set_option maxRecDepth 20000 in
set_option maxHeartbeats 4000000 in
theorem c_X5_ofPlace (fu : Nat) (σ : gSt) (k0 : Nat) (p1 : Int32) (p2 : Int32) (p3 : Int32) (hk0 : isO k0 5) : gCt yX5_ofPlace cX5_ofPlace 5 (some .int) 2 44 (gQp σ) (fun ad => [.ref (ad k0), .int p1, .int p2, .int p3]) σ (f_X5_ofPlace fu σ k0 p1 p2 p3) := by
  refine gCt_intro RX5 rfl (by decide +kernel) (fun ad v hv => by simp only [List.mem_cons, List.not_mem_nil, or_false] at hv; rcases hv with rfl | rfl | rfl | rfl <;> rfl) (fun ad => Nat.le_of_ble_eq_true rfl) (fun Γ h z => ?_)
  show At Γ 0 [some (.ref (gAd Γ.1 k0)), some (.int p1), some (.int p2), some (.int p3), none] [] σ _
  unfold f_X5_ofPlace
  refine x_aload_n (pc := 0) (i := 0) h dX5_ofPlace_0 rfl rfl ?_
  refine gf_X5_25 (pc := 1) h hk0 dX5_ofPlace_1 ?_
  refine x_iload_n (pc := 4) (i := 1) h dX5_ofPlace_4 rfl rfl ?_
  refine x_Vp (pc := 5) (av := fun ad => [.int p1]) (rest := []) h m_X8_has i_X8_has kl_X5_36 (t_5_1 hk0) (by decide) rfl (c_X8_has fu σ (k0 + 10) p1 (t_5_1 hk0)) rfl rfl (gCaM rfl) dX5_ofPlace_5 (fun v5 => ?_)
  refine x_if_eq (pc := 8) (tgt := 24) h dX5_ofPlace_8 (by decide) ?_ ?_
  · refine x_ldc (pc := 24) h kc_X5_42 dX5_ofPlace_24 ?_
    exact x_iretp (pc := 26) h z rfl .int rfl rfl dX5_ofPlace_26
  · refine x_iload_n (pc := 11) (i := 2) h dX5_ofPlace_11 rfl rfl ?_
    refine x_if_lt (pc := 12) (tgt := 24) h dX5_ofPlace_12 (by decide) ?_ ?_
    · refine x_ldc (pc := 24) h kc_X5_42 dX5_ofPlace_24 ?_
      exact x_iretp (pc := 26) h z rfl .int rfl rfl dX5_ofPlace_26
    · refine x_iload_n (pc := 15) (i := 3) h dX5_ofPlace_15 rfl rfl ?_
      refine x_iconst (pc := 16) (v := 0) h dX5_ofPlace_16 (by decide) ?_
      refine x_iconst (pc := 17) (v := 1) h dX5_ofPlace_17 (by decide) ?_
      refine x_Np (pc := 18) (av := fun ad => [.int p3, .int 0, .int 1]) (rest := []) h m_X9_isWithin s_X9_isWithin kl_X5_71 (c_X9_isWithin fu σ p3 0 1) rfl rfl (gCaM rfl) dX5_ofPlace_18 (fun v18 => ?_)
      refine x_if_ne (pc := 21) (tgt := 27) h dX5_ofPlace_21 (by decide) ?_ ?_
      · refine x_iload_n (pc := 27) (i := 2) h dX5_ofPlace_27 rfl rfl ?_
        refine x_aload_n (pc := 28) (i := 0) h dX5_ofPlace_28 rfl rfl ?_
        refine gf_X5_25 (pc := 29) h hk0 dX5_ofPlace_29 ?_
        refine x_iload_n (pc := 32) (i := 1) h dX5_ofPlace_32 rfl rfl ?_
        refine x_Vp (pc := 33) (av := fun ad => [.int p1]) (rest := [.int p2]) h m_X8_termCountOf i_X8_termCountOf kl_X5_59 (t_5_1 hk0) (by decide) rfl (c_X8_termCountOf fu σ (k0 + 10) p1 (t_5_1 hk0)) rfl rfl (gCaM rfl) dX5_ofPlace_33 (fun v33 => ?_)
        refine x_icmp_lt (pc := 36) (tgt := 42) h dX5_ofPlace_36 (by decide) ?_ ?_
        · refine x_aload_n (pc := 42) (i := 0) h dX5_ofPlace_42 rfl rfl ?_
          refine gf_X5_25 (pc := 43) h hk0 dX5_ofPlace_43 ?_
          refine x_iload_n (pc := 46) (i := 1) h dX5_ofPlace_46 rfl rfl ?_
          refine x_iload_n (pc := 47) (i := 2) h dX5_ofPlace_47 rfl rfl ?_
          refine x_Vp (pc := 48) (av := fun ad => [.int p1, .int p2]) (rest := []) h m_X8_toldTerm i_X8_toldTerm kl_X5_76 (t_5_1 hk0) (by decide) rfl (c_X8_toldTerm fu σ (k0 + 10) p1 p2 (t_5_1 hk0)) rfl rfl (gCaM rfl) dX5_ofPlace_48 (fun v48 => ?_)
          refine x_istore (pc := 51) (L' := [some (.ref (gAd Γ.1 k0)), some (.int p1), some (.int p2), some (.int p3), some (.int v48)]) h dX5_ofPlace_51 (Nat.le_of_ble_eq_true rfl) rfl ?_
          refine x_iload_n (pc := 53) (i := 3) h dX5_ofPlace_53 rfl rfl ?_
          refine x_if_ne (pc := 54) (tgt := 62) h dX5_ofPlace_54 (by decide) ?_ ?_
          · refine x_aload_n (pc := 62) (i := 0) h dX5_ofPlace_62 rfl rfl ?_
            refine gf_X5_30 (pc := 63) h hk0 dX5_ofPlace_63 ?_
            refine x_iload (pc := 66) h dX5_ofPlace_66 rfl ?_
            refine x_Vp (pc := 68) (av := fun ad => [.int v48]) (rest := []) h m_X0_shown i_X0_shown kl_X5_80 (t_5_2 hk0) (by decide) rfl (c_X0_shown fu σ (k0 + 17) v48 (t_5_2 hk0)) rfl rfl (gCaM rfl) dX5_ofPlace_68 (fun v68 => ?_)
            exact x_iretp (pc := 71) h z rfl .int rfl rfl dX5_ofPlace_71
          · refine x_iload (pc := 57) h dX5_ofPlace_57 rfl ?_
            refine x_goto (pc := 59) (tgt := 71) h dX5_ofPlace_59 (by decide) ?_
            exact x_iretp (pc := 71) h z rfl .int rfl rfl dX5_ofPlace_71
        · refine x_ldc (pc := 39) h kc_X5_75 dX5_ofPlace_39 ?_
          exact x_iretp (pc := 41) h z rfl .int rfl rfl dX5_ofPlace_41
      · refine x_ldc (pc := 24) h kc_X5_42 dX5_ofPlace_24 ?_
        exact x_iretp (pc := 26) h z rfl .int rfl rfl dX5_ofPlace_26

set_option maxRecDepth 20000 in
set_option maxHeartbeats 4000000 in
theorem c_X9_termAt (fu : Nat) (σ : gSt) (k0 : Nat) (p1 : Int32) (p2 : Int32) (p3 : Int32) (hk0 : isO k0 9) : gCt yX9_termAt cX9_termAt 4 (some .int) 3 68 (gQp σ) (fun ad => [.ref (ad k0), .int p1, .int p2, .int p3]) σ (f_X9_termAt fu σ k0 p1 p2 p3) := by
  refine gCt_intro RX9 rfl (by decide +kernel) (fun ad v hv => by simp only [List.mem_cons, List.not_mem_nil, or_false] at hv; rcases hv with rfl | rfl | rfl | rfl <;> rfl) (fun ad => Nat.le_of_ble_eq_true rfl) (fun Γ h z => ?_)
  show At Γ 0 [some (.ref (gAd Γ.1 k0)), some (.int p1), some (.int p2), some (.int p3)] [] σ _
  unfold f_X9_termAt
  refine x_aload_n (pc := 0) (i := 0) h dX9_termAt_0 rfl rfl ?_
  refine gf_X9_31 (pc := 1) h hk0 dX9_termAt_1 ?_
  refine x_iload_n (pc := 4) (i := 1) h dX9_termAt_4 rfl rfl ?_
  refine x_iload_n (pc := 5) (i := 2) h dX9_termAt_5 rfl rfl ?_
  refine x_iload_n (pc := 6) (i := 3) h dX9_termAt_6 rfl rfl ?_
  refine x_Vp (pc := 7) (av := fun ad => [.int p1, .int p2, .int p3]) (rest := []) h m_X5_ofPlace i_X5_ofPlace kl_X9_93 (t_9_3 hk0) (by decide) rfl (c_X5_ofPlace fu σ (k0 + 1) p1 p2 p3 (t_9_3 hk0)) rfl rfl (gCaM rfl) dX9_termAt_7 (fun v7 => ?_)
  exact x_iretp (pc := 10) h z rfl .int rfl rfl dX9_termAt_10

set_option maxRecDepth 20000 in
set_option maxHeartbeats 4000000 in
theorem c_X10_termAt (fu : Nat) (σ : gSt) (k0 : Nat) (p1 : Int32) (p2 : Int32) (p3 : Int32) (hk0 : isO k0 10) : gCt yX10_termAt cX10_termAt 5 (some .int) 1 22 (gQp σ) (fun ad => [.ref (ad k0), .int p1, .int p2, .int p3]) σ (f_X10_termAt fu σ k0 p1 p2 p3) := by
  refine gCt_intro RX10 rfl (by decide +kernel) (fun ad v hv => by simp only [List.mem_cons, List.not_mem_nil, or_false] at hv; rcases hv with rfl | rfl | rfl | rfl <;> rfl) (fun ad => Nat.le_of_ble_eq_true rfl) (fun Γ h z => ?_)
  show At Γ 0 [some (.ref (gAd Γ.1 k0)), some (.int p1), some (.int p2), some (.int p3), none] [] σ _
  unfold f_X10_termAt
  refine x_aload_n (pc := 0) (i := 0) h dX10_termAt_0 rfl rfl ?_
  refine x_iload_n (pc := 1) (i := 1) h dX10_termAt_1 rfl rfl ?_
  refine x_Vp (pc := 2) (av := fun ad => [.int p1]) (rest := []) h m_X10_isTurn i_X10_isTurn kl_X10_66 hk0 (by decide) rfl (c_X10_isTurn fu σ k0 p1 hk0) rfl rfl (gCaM rfl) dX10_termAt_2 (fun v2 => ?_)
  refine x_if_eq (pc := 5) (tgt := 21) h dX10_termAt_5 (by decide) ?_ ?_
  · refine x_ldc (pc := 21) h kc_X10_50 dX10_termAt_21 ?_
    exact x_iretp (pc := 23) h z rfl .int rfl rfl dX10_termAt_23
  · refine x_iload_n (pc := 8) (i := 2) h dX10_termAt_8 rfl rfl ?_
    refine x_if_lt (pc := 9) (tgt := 21) h dX10_termAt_9 (by decide) ?_ ?_
    · refine x_ldc (pc := 21) h kc_X10_50 dX10_termAt_21 ?_
      exact x_iretp (pc := 23) h z rfl .int rfl rfl dX10_termAt_23
    · refine x_iload_n (pc := 12) (i := 3) h dX10_termAt_12 rfl rfl ?_
      refine x_iconst (pc := 13) (v := 0) h dX10_termAt_13 (by decide) ?_
      refine x_iconst (pc := 14) (v := 1) h dX10_termAt_14 (by decide) ?_
      refine x_Sp (pc := 15) (av := fun ad => [.int p3, .int 0, .int 1]) (rest := []) h m_X10_in s_X10_in kl_X10_39 (c_X10_in fu σ p3 0 1) rfl rfl (gCaM rfl) dX10_termAt_15 (fun v15 => ?_)
      refine x_if_ne (pc := 18) (tgt := 24) h dX10_termAt_18 (by decide) ?_ ?_
      · refine x_iload_n (pc := 24) (i := 2) h dX10_termAt_24 rfl rfl ?_
        refine x_aload_n (pc := 25) (i := 0) h dX10_termAt_25 rfl rfl ?_
        refine x_iload_n (pc := 26) (i := 1) h dX10_termAt_26 rfl rfl ?_
        refine x_iconst (pc := 27) (v := 4) h dX10_termAt_27 (by decide) ?_
        refine x_Vp (pc := 28) (av := fun ad => [.int p1, .int 4]) (rest := [.int p2]) h m_X10_of i_X10_of kl_X10_47 hk0 (by decide) rfl (c_X10_of fu σ k0 p1 4 hk0) rfl rfl (gCaM rfl) dX10_termAt_28 (fun v28 => ?_)
        refine x_icmp_lt (pc := 31) (tgt := 37) h dX10_termAt_31 (by decide) ?_ ?_
        · refine x_aload_n (pc := 37) (i := 0) h dX10_termAt_37 rfl rfl ?_
          refine x_iload_n (pc := 38) (i := 1) h dX10_termAt_38 rfl rfl ?_
          refine x_iconst (pc := 39) (v := 5) h dX10_termAt_39 (by decide) ?_
          refine x_iload_n (pc := 40) (i := 2) h dX10_termAt_40 rfl rfl ?_
          refine x_iadd (pc := 41) h dX10_termAt_41 ?_
          refine x_Vp (pc := 42) (av := fun ad => [.int p1, .int (5 + p2)]) (rest := []) h m_X10_of i_X10_of kl_X10_47 hk0 (by decide) rfl (c_X10_of fu σ k0 p1 (5 + p2) hk0) rfl rfl (gCaM rfl) dX10_termAt_42 (fun v42 => ?_)
          refine x_istore (pc := 45) (L' := [some (.ref (gAd Γ.1 k0)), some (.int p1), some (.int p2), some (.int p3), some (.int v42)]) h dX10_termAt_45 (Nat.le_of_ble_eq_true rfl) rfl ?_
          refine x_iload_n (pc := 47) (i := 3) h dX10_termAt_47 rfl rfl ?_
          refine x_if_ne (pc := 48) (tgt := 56) h dX10_termAt_48 (by decide) ?_ ?_
          · refine x_aload_n (pc := 56) (i := 0) h dX10_termAt_56 rfl rfl ?_
            refine x_iload (pc := 57) h dX10_termAt_57 rfl ?_
            refine x_Vp (pc := 59) (av := fun ad => [.int v42]) (rest := []) h m_X10_shown i_X10_shown kl_X10_73 hk0 (by decide) rfl (c_X10_shown fu σ k0 v42 hk0) rfl rfl (gCaM rfl) dX10_termAt_59 (fun v59 => ?_)
            exact x_iretp (pc := 62) h z rfl .int rfl rfl dX10_termAt_62
          · refine x_iload (pc := 51) h dX10_termAt_51 rfl ?_
            refine x_goto (pc := 53) (tgt := 62) h dX10_termAt_53 (by decide) ?_
            exact x_iretp (pc := 62) h z rfl .int rfl rfl dX10_termAt_62
        · refine x_ldc (pc := 34) h kc_X10_110 dX10_termAt_34 ?_
          exact x_iretp (pc := 36) h z rfl .int rfl rfl dX10_termAt_36
      · refine x_ldc (pc := 21) h kc_X10_50 dX10_termAt_21 ?_
        exact x_iretp (pc := 23) h z rfl .int rfl rfl dX10_termAt_23

set_option maxRecDepth 20000 in
set_option maxHeartbeats 4000000 in
theorem c_X0_targetOf (fu : Nat) (σ : gSt) (k0 : Nat) (p1 : Int32) (hk0 : isO k0 0) : gCt yX0_targetOf cX0_targetOf 2 (some .int) 1 21 (gQp σ) (fun ad => [.ref (ad k0), .int p1]) σ (f_X0_targetOf fu σ k0 p1) := by
  refine gCt_intro RX0 rfl (by decide +kernel) (fun ad v hv => by simp only [List.mem_cons, List.not_mem_nil, or_false] at hv; rcases hv with rfl | rfl <;> rfl) (fun ad => Nat.le_of_ble_eq_true rfl) (fun Γ h z => ?_)
  show At Γ 0 [some (.ref (gAd Γ.1 k0)), some (.int p1)] [] σ _
  unfold f_X0_targetOf
  refine x_aload_n (pc := 0) (i := 0) h dX0_targetOf_0 rfl rfl ?_
  refine x_iload_n (pc := 1) (i := 1) h dX0_targetOf_1 rfl rfl ?_
  refine x_Vp (pc := 2) (av := fun ad => [.int p1]) (rest := []) h m_X0_isCorrected i_X0_isCorrected kl_X0_31 hk0 (by decide) rfl (c_X0_isCorrected fu σ k0 p1 hk0) rfl rfl (gCaM rfl) dX0_targetOf_2 (fun v2 => ?_)
  refine x_if_eq (pc := 5) (tgt := 17) h dX0_targetOf_5 (by decide) ?_ ?_
  · refine x_iconst (pc := 17) (v := (-1)) h dX0_targetOf_17 (by decide) ?_
    exact x_iretp (pc := 18) h z rfl .int rfl rfl dX0_targetOf_18
  · refine x_aload_n (pc := 8) (i := 0) h dX0_targetOf_8 rfl rfl ?_
    refine gf_X0_9 (pc := 9) h hk0 dX0_targetOf_9 ?_
    refine x_iload_n (pc := 12) (i := 1) h dX0_targetOf_12 rfl rfl ?_
    refine x_iald (pc := 13) h (t_0_0 hk0) dX0_targetOf_13 (fun v13 => ?_)
    refine x_goto (pc := 14) (tgt := 18) h dX0_targetOf_14 (by decide) ?_
    exact x_iretp (pc := 18) h z rfl .int rfl rfl dX0_targetOf_18

set_option maxRecDepth 20000 in
set_option maxHeartbeats 4000000 in
theorem f_X0_chainOf_L4_at (fu : Nat) (σ : gSt) (k0 : Nat) (p1 : Int32) (ag4 : Int32 → Int32 → Option (Int32)) {Γ : gX (Int32)} (h : gOk Γ cX0_chainOf 4 RX0 (some .int) 1 21) (z : gEnd Γ (gQp σ)) (hk0 : isO k0 0) (hg4 : ∀ (y2 : Int32) (y3 : Int32), At Γ 4 [some (.ref (gAd Γ.1 k0)), none, some (.int y2), some (.int y3)] [] σ (ag4 y2 y3)) (x2 : Int32) (x3 : Int32) : At Γ 4 [some (.ref (gAd Γ.1 k0)), none, some (.int x2), some (.int x3)] [] σ (f_X0_chainOf_L4 fu σ k0 p1 ag4 x2 x3) := by
  unfold f_X0_chainOf_L4
  refine x_iload_n (pc := 4) (i := 3) h dX0_chainOf_4 rfl rfl ?_
  refine x_bipush (pc := 5) (v := 16) h dX0_chainOf_5 (by decide) ?_
  refine x_icmp_ge (pc := 7) (tgt := 31) h dX0_chainOf_7 (by decide) ?_ ?_
  · refine x_iload_n (pc := 31) (i := 3) h dX0_chainOf_31 rfl rfl ?_
    exact x_iretp (pc := 32) h z rfl .int rfl rfl dX0_chainOf_32
  · refine x_aload_n (pc := 10) (i := 0) h dX0_chainOf_10 rfl rfl ?_
    refine x_iload_n (pc := 11) (i := 2) h dX0_chainOf_11 rfl rfl ?_
    refine x_Vp (pc := 12) (av := fun ad => [.int x2]) (rest := []) h m_X0_isCorrected i_X0_isCorrected kl_X0_31 hk0 (by decide) rfl (c_X0_isCorrected fu σ k0 x2 hk0) rfl rfl (gCaM rfl) dX0_chainOf_12 (fun v12 => ?_)
    refine x_if_eq (pc := 15) (tgt := 31) h dX0_chainOf_15 (by decide) ?_ ?_
    · refine x_iload_n (pc := 31) (i := 3) h dX0_chainOf_31 rfl rfl ?_
      exact x_iretp (pc := 32) h z rfl .int rfl rfl dX0_chainOf_32
    · refine x_aload_n (pc := 18) (i := 0) h dX0_chainOf_18 rfl rfl ?_
      refine gf_X0_9 (pc := 19) h hk0 dX0_chainOf_19 ?_
      refine x_iload_n (pc := 22) (i := 2) h dX0_chainOf_22 rfl rfl ?_
      refine x_iald (pc := 23) h (t_0_0 hk0) dX0_chainOf_23 (fun v23 => ?_)
      refine x_istore_n (pc := 24) (i := 2) (L' := [some (.ref (gAd Γ.1 k0)), none, some (.int v23), some (.int x3)]) h dX0_chainOf_24 rfl (Nat.le_of_ble_eq_true rfl) rfl ?_
      refine x_iinc (pc := 25) (i := 3) (v := (x3 + 1)) (L' := [some (.ref (gAd Γ.1 k0)), none, some (.int v23), some (.int (x3 + 1))]) h dX0_chainOf_25 rfl rfl rfl ?_
      refine x_goto (pc := 28) (tgt := 4) h dX0_chainOf_28 (by decide) ?_
      exact At.mask [true, false, true, true] rfl rfl (hg4 v23 (x3 + 1))

theorem f_X0_chainOf_W4_at (fu : Nat) (σ : gSt) (k0 : Nat) (p1 : Int32) {Γ : gX (Int32)} (h : gOk Γ cX0_chainOf 4 RX0 (some .int) 1 21) (z : gEnd Γ (gQp σ)) (hk0 : isO k0 0) : ∀ (n : Nat) (x2 : Int32) (x3 : Int32), At Γ 4 [some (.ref (gAd Γ.1 k0)), none, some (.int x2), some (.int x3)] [] σ (f_X0_chainOf_W4 fu σ k0 p1 n x2 x3) := by
  intro n
  induction n with
  | zero => intro x2 x3 r hr; cases hr
  | succ n ih =>
    intro x2 x3
    exact f_X0_chainOf_L4_at fu σ k0 p1 (f_X0_chainOf_W4 fu σ k0 p1 n) h z hk0 ih x2 x3

set_option maxRecDepth 20000 in
set_option maxHeartbeats 4000000 in
theorem c_X0_chainOf (fu : Nat) (σ : gSt) (k0 : Nat) (p1 : Int32) (hk0 : isO k0 0) : gCt yX0_chainOf cX0_chainOf 4 (some .int) 1 21 (gQp σ) (fun ad => [.ref (ad k0), .int p1]) σ (f_X0_chainOf fu σ k0 p1) := by
  refine gCt_intro RX0 rfl (by decide +kernel) (fun ad v hv => by simp only [List.mem_cons, List.not_mem_nil, or_false] at hv; rcases hv with rfl | rfl <;> rfl) (fun ad => Nat.le_of_ble_eq_true rfl) (fun Γ h z => ?_)
  show At Γ 0 [some (.ref (gAd Γ.1 k0)), some (.int p1), none, none] [] σ _
  unfold f_X0_chainOf
  refine x_iload_n (pc := 0) (i := 1) h dX0_chainOf_0 rfl rfl ?_
  refine x_istore_n (pc := 1) (i := 2) (L' := [some (.ref (gAd Γ.1 k0)), some (.int p1), some (.int p1), none]) h dX0_chainOf_1 rfl (Nat.le_of_ble_eq_true rfl) rfl ?_
  refine x_iconst (pc := 2) (v := 0) h dX0_chainOf_2 (by decide) ?_
  refine x_istore_n (pc := 3) (i := 3) (L' := [some (.ref (gAd Γ.1 k0)), some (.int p1), some (.int p1), some (.int 0)]) h dX0_chainOf_3 rfl (Nat.le_of_ble_eq_true rfl) rfl ?_
  exact At.mask [true, false, true, true] rfl rfl (f_X0_chainOf_W4_at fu σ k0 p1 h z hk0 fu p1 0)

set_option maxRecDepth 20000 in
set_option maxHeartbeats 4000000 in
theorem f_X5_placesShowing_L4_at (fu : Nat) (σ : gSt) (k0 : Nat) (p1 : Int32) (ag4 : Int32 → Int32 → Option (Int32)) {Γ : gX (Int32)} (h : gOk Γ cX5_placesShowing 4 RX5 (some .int) 2 44) (z : gEnd Γ (gQp σ)) (hk0 : isO k0 5) (hg4 : ∀ (y2 : Int32) (y3 : Int32), At Γ 4 [some (.ref (gAd Γ.1 k0)), some (.int p1), some (.int y2), some (.int y3)] [] σ (ag4 y2 y3)) (x2 : Int32) (x3 : Int32) : At Γ 4 [some (.ref (gAd Γ.1 k0)), some (.int p1), some (.int x2), some (.int x3)] [] σ (f_X5_placesShowing_L4 fu σ k0 p1 ag4 x2 x3) := by
  unfold f_X5_placesShowing_L4
  refine x_iload_n (pc := 4) (i := 3) h dX5_placesShowing_4 rfl rfl ?_
  refine x_bipush (pc := 5) (v := 16) h dX5_placesShowing_5 (by decide) ?_
  refine x_icmp_ge (pc := 7) (tgt := 39) h dX5_placesShowing_7 (by decide) ?_ ?_
  · refine x_iload_n (pc := 39) (i := 2) h dX5_placesShowing_39 rfl rfl ?_
    exact x_iretp (pc := 40) h z rfl .int rfl rfl dX5_placesShowing_40
  · refine x_aload_n (pc := 10) (i := 0) h dX5_placesShowing_10 rfl rfl ?_
    refine gf_X5_30 (pc := 11) h hk0 dX5_placesShowing_11 ?_
    refine x_iload_n (pc := 14) (i := 3) h dX5_placesShowing_14 rfl rfl ?_
    refine x_Vp (pc := 15) (av := fun ad => [.int x3]) (rest := []) h m_X0_shown i_X0_shown kl_X5_80 (t_5_2 hk0) (by decide) rfl (c_X0_shown fu σ (k0 + 17) x3 (t_5_2 hk0)) rfl rfl (gCaM rfl) dX5_placesShowing_15 (fun v15 => ?_)
    refine x_iload_n (pc := 18) (i := 1) h dX5_placesShowing_18 rfl rfl ?_
    refine x_icmp_ne (pc := 19) (tgt := 33) h dX5_placesShowing_19 (by decide) ?_ ?_
    · refine x_iinc (pc := 33) (i := 3) (v := (x3 + 1)) (L' := [some (.ref (gAd Γ.1 k0)), some (.int p1), some (.int x2), some (.int (x3 + 1))]) h dX5_placesShowing_33 rfl rfl rfl ?_
      refine x_goto (pc := 36) (tgt := 4) h dX5_placesShowing_36 (by decide) ?_
      exact At.mask [true, true, true, true] rfl rfl (hg4 x2 (x3 + 1))
    · refine x_iload_n (pc := 22) (i := 2) h dX5_placesShowing_22 rfl rfl ?_
      refine x_aload_n (pc := 23) (i := 0) h dX5_placesShowing_23 rfl rfl ?_
      refine gf_X5_25 (pc := 24) h hk0 dX5_placesShowing_24 ?_
      refine x_iload_n (pc := 27) (i := 3) h dX5_placesShowing_27 rfl rfl ?_
      refine x_Vp (pc := 28) (av := fun ad => [.int x3]) (rest := [.int x2]) h m_X8_timesTold i_X8_timesTold kl_X5_194 (t_5_1 hk0) (by decide) rfl (c_X8_timesTold fu σ (k0 + 10) x3 (t_5_1 hk0)) rfl rfl (gCaM rfl) dX5_placesShowing_28 (fun v28 => ?_)
      refine x_iadd (pc := 31) h dX5_placesShowing_31 ?_
      refine x_istore_n (pc := 32) (i := 2) (L' := [some (.ref (gAd Γ.1 k0)), some (.int p1), some (.int (x2 + v28)), some (.int x3)]) h dX5_placesShowing_32 rfl (Nat.le_of_ble_eq_true rfl) rfl ?_
      refine x_iinc (pc := 33) (i := 3) (v := (x3 + 1)) (L' := [some (.ref (gAd Γ.1 k0)), some (.int p1), some (.int (x2 + v28)), some (.int (x3 + 1))]) h dX5_placesShowing_33 rfl rfl rfl ?_
      refine x_goto (pc := 36) (tgt := 4) h dX5_placesShowing_36 (by decide) ?_
      exact At.mask [true, true, true, true] rfl rfl (hg4 (x2 + v28) (x3 + 1))

theorem f_X5_placesShowing_W4_at (fu : Nat) (σ : gSt) (k0 : Nat) (p1 : Int32) {Γ : gX (Int32)} (h : gOk Γ cX5_placesShowing 4 RX5 (some .int) 2 44) (z : gEnd Γ (gQp σ)) (hk0 : isO k0 5) : ∀ (n : Nat) (x2 : Int32) (x3 : Int32), At Γ 4 [some (.ref (gAd Γ.1 k0)), some (.int p1), some (.int x2), some (.int x3)] [] σ (f_X5_placesShowing_W4 fu σ k0 p1 n x2 x3) := by
  intro n
  induction n with
  | zero => intro x2 x3 r hr; cases hr
  | succ n ih =>
    intro x2 x3
    exact f_X5_placesShowing_L4_at fu σ k0 p1 (f_X5_placesShowing_W4 fu σ k0 p1 n) h z hk0 ih x2 x3

set_option maxRecDepth 20000 in
set_option maxHeartbeats 4000000 in
theorem c_X5_placesShowing (fu : Nat) (σ : gSt) (k0 : Nat) (p1 : Int32) (hk0 : isO k0 5) : gCt yX5_placesShowing cX5_placesShowing 4 (some .int) 2 44 (gQp σ) (fun ad => [.ref (ad k0), .int p1]) σ (f_X5_placesShowing fu σ k0 p1) := by
  refine gCt_intro RX5 rfl (by decide +kernel) (fun ad v hv => by simp only [List.mem_cons, List.not_mem_nil, or_false] at hv; rcases hv with rfl | rfl <;> rfl) (fun ad => Nat.le_of_ble_eq_true rfl) (fun Γ h z => ?_)
  show At Γ 0 [some (.ref (gAd Γ.1 k0)), some (.int p1), none, none] [] σ _
  unfold f_X5_placesShowing
  refine x_iconst (pc := 0) (v := 0) h dX5_placesShowing_0 (by decide) ?_
  refine x_istore_n (pc := 1) (i := 2) (L' := [some (.ref (gAd Γ.1 k0)), some (.int p1), some (.int 0), none]) h dX5_placesShowing_1 rfl (Nat.le_of_ble_eq_true rfl) rfl ?_
  refine x_iconst (pc := 2) (v := 0) h dX5_placesShowing_2 (by decide) ?_
  refine x_istore_n (pc := 3) (i := 3) (L' := [some (.ref (gAd Γ.1 k0)), some (.int p1), some (.int 0), some (.int 0)]) h dX5_placesShowing_3 rfl (Nat.le_of_ble_eq_true rfl) rfl ?_
  exact At.mask [true, true, true, true] rfl rfl (f_X5_placesShowing_W4_at fu σ k0 p1 h z hk0 fu 0 0)

set_option maxRecDepth 20000 in
set_option maxHeartbeats 4000000 in
theorem f_X5_shownIn_L4_at (fu : Nat) (σ : gSt) (k0 : Nat) (p1 : Int32) (ag4 : Int32 → Int32 → Option (Int32)) {Γ : gX (Int32)} (h : gOk Γ cX5_shownIn 4 RX5 (some .int) 2 44) (z : gEnd Γ (gQp σ)) (hk0 : isO k0 5) (hg4 : ∀ (y2 : Int32) (y3 : Int32), At Γ 4 [some (.ref (gAd Γ.1 k0)), some (.int p1), some (.int y2), some (.int y3)] [] σ (ag4 y2 y3)) (x2 : Int32) (x3 : Int32) : At Γ 4 [some (.ref (gAd Γ.1 k0)), some (.int p1), some (.int x2), some (.int x3)] [] σ (f_X5_shownIn_L4 fu σ k0 p1 ag4 x2 x3) := by
  unfold f_X5_shownIn_L4
  refine x_iload_n (pc := 4) (i := 3) h dX5_shownIn_4 rfl rfl ?_
  refine x_aload_n (pc := 5) (i := 0) h dX5_shownIn_5 rfl rfl ?_
  refine gf_X5_25 (pc := 6) h hk0 dX5_shownIn_6 ?_
  refine x_iload_n (pc := 9) (i := 1) h dX5_shownIn_9 rfl rfl ?_
  refine x_Vp (pc := 10) (av := fun ad => [.int p1]) (rest := [.int x3]) h m_X8_termCountOf i_X8_termCountOf kl_X5_59 (t_5_1 hk0) (by decide) rfl (c_X8_termCountOf fu σ (k0 + 10) p1 (t_5_1 hk0)) rfl rfl (gCaM rfl) dX5_shownIn_10 (fun v10 => ?_)
  refine x_icmp_ge (pc := 13) (tgt := 43) h dX5_shownIn_13 (by decide) ?_ ?_
  · refine x_iload_n (pc := 43) (i := 2) h dX5_shownIn_43 rfl rfl ?_
    exact x_iretp (pc := 44) h z rfl .int rfl rfl dX5_shownIn_44
  · refine x_iload_n (pc := 16) (i := 2) h dX5_shownIn_16 rfl rfl ?_
    refine x_iconst (pc := 17) (v := 1) h dX5_shownIn_17 (by decide) ?_
    refine x_aload_n (pc := 18) (i := 0) h dX5_shownIn_18 rfl rfl ?_
    refine gf_X5_30 (pc := 19) h hk0 dX5_shownIn_19 ?_
    refine x_aload_n (pc := 22) (i := 0) h dX5_shownIn_22 rfl rfl ?_
    refine gf_X5_25 (pc := 23) h hk0 dX5_shownIn_23 ?_
    refine x_iload_n (pc := 26) (i := 1) h dX5_shownIn_26 rfl rfl ?_
    refine x_iload_n (pc := 27) (i := 3) h dX5_shownIn_27 rfl rfl ?_
    refine x_Vp (pc := 28) (av := fun ad => [.int p1, .int x3]) (rest := [.ref (gAd Γ.1 (k0 + 17)), .int 1, .int x2]) h m_X8_toldTerm i_X8_toldTerm kl_X5_76 (t_5_1 hk0) (by decide) rfl (c_X8_toldTerm fu σ (k0 + 10) p1 x3 (t_5_1 hk0)) rfl rfl (gCaM rfl) dX5_shownIn_28 (fun v28 => ?_)
    refine x_Vp (pc := 31) (av := fun ad => [.int v28]) (rest := [.int 1, .int x2]) h m_X0_shown i_X0_shown kl_X5_80 (t_5_2 hk0) (by decide) rfl (c_X0_shown fu σ (k0 + 17) v28 (t_5_2 hk0)) rfl rfl (gCaM rfl) dX5_shownIn_31 (fun v31 => ?_)
    refine x_ishl (pc := 34) h dX5_shownIn_34 ?_
    refine x_ior (pc := 35) h dX5_shownIn_35 ?_
    refine x_lt (fun y36 => ?_)
    refine x_istore_n (pc := 36) (i := 2) (L' := [some (.ref (gAd Γ.1 k0)), some (.int p1), some (.int y36), some (.int x3)]) h dX5_shownIn_36 rfl (Nat.le_of_ble_eq_true rfl) rfl ?_
    refine x_iinc (pc := 37) (i := 3) (v := (x3 + 1)) (L' := [some (.ref (gAd Γ.1 k0)), some (.int p1), some (.int y36), some (.int (x3 + 1))]) h dX5_shownIn_37 rfl rfl rfl ?_
    refine x_goto (pc := 40) (tgt := 4) h dX5_shownIn_40 (by decide) ?_
    exact At.mask [true, true, true, true] rfl rfl (hg4 y36 (x3 + 1))

theorem f_X5_shownIn_W4_at (fu : Nat) (σ : gSt) (k0 : Nat) (p1 : Int32) {Γ : gX (Int32)} (h : gOk Γ cX5_shownIn 4 RX5 (some .int) 2 44) (z : gEnd Γ (gQp σ)) (hk0 : isO k0 5) : ∀ (n : Nat) (x2 : Int32) (x3 : Int32), At Γ 4 [some (.ref (gAd Γ.1 k0)), some (.int p1), some (.int x2), some (.int x3)] [] σ (f_X5_shownIn_W4 fu σ k0 p1 n x2 x3) := by
  intro n
  induction n with
  | zero => intro x2 x3 r hr; cases hr
  | succ n ih =>
    intro x2 x3
    exact f_X5_shownIn_L4_at fu σ k0 p1 (f_X5_shownIn_W4 fu σ k0 p1 n) h z hk0 ih x2 x3

set_option maxRecDepth 20000 in
set_option maxHeartbeats 4000000 in
theorem c_X5_shownIn (fu : Nat) (σ : gSt) (k0 : Nat) (p1 : Int32) (hk0 : isO k0 5) : gCt yX5_shownIn cX5_shownIn 4 (some .int) 2 44 (gQp σ) (fun ad => [.ref (ad k0), .int p1]) σ (f_X5_shownIn fu σ k0 p1) := by
  refine gCt_intro RX5 rfl (by decide +kernel) (fun ad v hv => by simp only [List.mem_cons, List.not_mem_nil, or_false] at hv; rcases hv with rfl | rfl <;> rfl) (fun ad => Nat.le_of_ble_eq_true rfl) (fun Γ h z => ?_)
  show At Γ 0 [some (.ref (gAd Γ.1 k0)), some (.int p1), none, none] [] σ _
  unfold f_X5_shownIn
  refine x_iconst (pc := 0) (v := 0) h dX5_shownIn_0 (by decide) ?_
  refine x_istore_n (pc := 1) (i := 2) (L' := [some (.ref (gAd Γ.1 k0)), some (.int p1), some (.int 0), none]) h dX5_shownIn_1 rfl (Nat.le_of_ble_eq_true rfl) rfl ?_
  refine x_iconst (pc := 2) (v := 0) h dX5_shownIn_2 (by decide) ?_
  refine x_istore_n (pc := 3) (i := 3) (L' := [some (.ref (gAd Γ.1 k0)), some (.int p1), some (.int 0), some (.int 0)]) h dX5_shownIn_3 rfl (Nat.le_of_ble_eq_true rfl) rfl ?_
  exact At.mask [true, true, true, true] rfl rfl (f_X5_shownIn_W4_at fu σ k0 p1 h z hk0 fu 0 0)

set_option maxRecDepth 20000 in
set_option maxHeartbeats 4000000 in
theorem c_X5_isShownIn (fu : Nat) (σ : gSt) (k0 : Nat) (p1 : Int32) (p2 : Int32) (hk0 : isO k0 5) : gCt yX5_isShownIn cX5_isShownIn 3 (some .boolean) 3 67 (gQp σ) (fun ad => [.ref (ad k0), .int p1, .int p2]) σ (f_X5_isShownIn fu σ k0 p1 p2) := by
  refine gCt_intro RX5 rfl (by decide +kernel) (fun ad v hv => by simp only [List.mem_cons, List.not_mem_nil, or_false] at hv; rcases hv with rfl | rfl | rfl <;> rfl) (fun ad => Nat.le_of_ble_eq_true rfl) (fun Γ h z => ?_)
  show At Γ 0 [some (.ref (gAd Γ.1 k0)), some (.int p1), some (.int p2)] [] σ _
  unfold f_X5_isShownIn
  refine x_aload_n (pc := 0) (i := 0) h dX5_isShownIn_0 rfl rfl ?_
  refine x_iload_n (pc := 1) (i := 1) h dX5_isShownIn_1 rfl rfl ?_
  refine x_Vp (pc := 2) (av := fun ad => [.int p1]) (rest := []) h m_X5_shownIn i_X5_shownIn kl_X5_191 hk0 (by decide) rfl (c_X5_shownIn fu σ k0 p1 hk0) rfl rfl (gCaM rfl) dX5_isShownIn_2 (fun v2 => ?_)
  refine x_iload_n (pc := 5) (i := 2) h dX5_isShownIn_5 rfl rfl ?_
  refine x_ishr (pc := 6) h dX5_isShownIn_6 ?_
  refine x_iconst (pc := 7) (v := 1) h dX5_isShownIn_7 (by decide) ?_
  refine x_iand (pc := 8) h dX5_isShownIn_8 ?_
  refine x_iconst (pc := 9) (v := 1) h dX5_isShownIn_9 (by decide) ?_
  refine x_icmp_ne (pc := 10) (tgt := 17) h dX5_isShownIn_10 (by decide) ?_ ?_
  · refine x_iconst (pc := 17) (v := 0) h dX5_isShownIn_17 (by decide) ?_
    exact x_iretp (pc := 18) h z rfl .boolean rfl rfl dX5_isShownIn_18
  · refine x_iconst (pc := 13) (v := 1) h dX5_isShownIn_13 (by decide) ?_
    refine x_goto (pc := 14) (tgt := 18) h dX5_isShownIn_14 (by decide) ?_
    exact x_iretp (pc := 18) h z rfl .boolean rfl rfl dX5_isShownIn_18

set_option maxRecDepth 20000 in
set_option maxHeartbeats 4000000 in
theorem f_X5_turnsShowing_L4_at (fu : Nat) (σ : gSt) (k0 : Nat) (p1 : Int32) (ag4 : Int32 → Int32 → Option (Int32)) {Γ : gX (Int32)} (h : gOk Γ cX5_turnsShowing 4 RX5 (some .int) 4 89) (z : gEnd Γ (gQp σ)) (hk0 : isO k0 5) (hg4 : ∀ (y2 : Int32) (y3 : Int32), At Γ 4 [some (.ref (gAd Γ.1 k0)), some (.int p1), some (.int y2), some (.int y3)] [] σ (ag4 y2 y3)) (x2 : Int32) (x3 : Int32) : At Γ 4 [some (.ref (gAd Γ.1 k0)), some (.int p1), some (.int x2), some (.int x3)] [] σ (f_X5_turnsShowing_L4 fu σ k0 p1 ag4 x2 x3) := by
  unfold f_X5_turnsShowing_L4
  refine x_iload_n (pc := 4) (i := 3) h dX5_turnsShowing_4 rfl rfl ?_
  refine x_aload_n (pc := 5) (i := 0) h dX5_turnsShowing_5 rfl rfl ?_
  refine gf_X5_25 (pc := 6) h hk0 dX5_turnsShowing_6 ?_
  refine x_Vp (pc := 9) (av := fun ad => []) (rest := [.int x3]) h m_X8_size i_X8_size kl_X5_158 (t_5_1 hk0) (by decide) rfl (c_X8_size fu σ (k0 + 10) (t_5_1 hk0)) rfl rfl (gCaM rfl) dX5_turnsShowing_9 (fun v9 => ?_)
  refine x_icmp_ge (pc := 12) (tgt := 36) h dX5_turnsShowing_12 (by decide) ?_ ?_
  · refine x_iload_n (pc := 36) (i := 2) h dX5_turnsShowing_36 rfl rfl ?_
    exact x_iretp (pc := 37) h z rfl .int rfl rfl dX5_turnsShowing_37
  · refine x_aload_n (pc := 15) (i := 0) h dX5_turnsShowing_15 rfl rfl ?_
    refine x_iload_n (pc := 16) (i := 3) h dX5_turnsShowing_16 rfl rfl ?_
    refine x_iload_n (pc := 17) (i := 1) h dX5_turnsShowing_17 rfl rfl ?_
    refine x_Vp (pc := 18) (av := fun ad => [.int x3, .int p1]) (rest := []) h m_X5_isShownIn i_X5_isShownIn kl_X5_197 hk0 (by decide) rfl (c_X5_isShownIn fu σ k0 x3 p1 hk0) rfl rfl (gCaM rfl) dX5_turnsShowing_18 (fun v18 => ?_)
    refine x_if_eq (pc := 21) (tgt := 30) h dX5_turnsShowing_21 (by decide) ?_ ?_
    · refine x_iinc (pc := 30) (i := 3) (v := (x3 + 1)) (L' := [some (.ref (gAd Γ.1 k0)), some (.int p1), some (.int x2), some (.int (x3 + 1))]) h dX5_turnsShowing_30 rfl rfl rfl ?_
      refine x_goto (pc := 33) (tgt := 4) h dX5_turnsShowing_33 (by decide) ?_
      exact At.mask [true, true, true, true] rfl rfl (hg4 x2 (x3 + 1))
    · refine x_iload_n (pc := 24) (i := 2) h dX5_turnsShowing_24 rfl rfl ?_
      refine x_iconst (pc := 25) (v := 1) h dX5_turnsShowing_25 (by decide) ?_
      refine x_iload_n (pc := 26) (i := 3) h dX5_turnsShowing_26 rfl rfl ?_
      refine x_ishl (pc := 27) h dX5_turnsShowing_27 ?_
      refine x_ior (pc := 28) h dX5_turnsShowing_28 ?_
      refine x_lt (fun y29 => ?_)
      refine x_istore_n (pc := 29) (i := 2) (L' := [some (.ref (gAd Γ.1 k0)), some (.int p1), some (.int y29), some (.int x3)]) h dX5_turnsShowing_29 rfl (Nat.le_of_ble_eq_true rfl) rfl ?_
      refine x_iinc (pc := 30) (i := 3) (v := (x3 + 1)) (L' := [some (.ref (gAd Γ.1 k0)), some (.int p1), some (.int y29), some (.int (x3 + 1))]) h dX5_turnsShowing_30 rfl rfl rfl ?_
      refine x_goto (pc := 33) (tgt := 4) h dX5_turnsShowing_33 (by decide) ?_
      exact At.mask [true, true, true, true] rfl rfl (hg4 y29 (x3 + 1))

theorem f_X5_turnsShowing_W4_at (fu : Nat) (σ : gSt) (k0 : Nat) (p1 : Int32) {Γ : gX (Int32)} (h : gOk Γ cX5_turnsShowing 4 RX5 (some .int) 4 89) (z : gEnd Γ (gQp σ)) (hk0 : isO k0 5) : ∀ (n : Nat) (x2 : Int32) (x3 : Int32), At Γ 4 [some (.ref (gAd Γ.1 k0)), some (.int p1), some (.int x2), some (.int x3)] [] σ (f_X5_turnsShowing_W4 fu σ k0 p1 n x2 x3) := by
  intro n
  induction n with
  | zero => intro x2 x3 r hr; cases hr
  | succ n ih =>
    intro x2 x3
    exact f_X5_turnsShowing_L4_at fu σ k0 p1 (f_X5_turnsShowing_W4 fu σ k0 p1 n) h z hk0 ih x2 x3

set_option maxRecDepth 20000 in
set_option maxHeartbeats 4000000 in
theorem c_X5_turnsShowing (fu : Nat) (σ : gSt) (k0 : Nat) (p1 : Int32) (hk0 : isO k0 5) : gCt yX5_turnsShowing cX5_turnsShowing 4 (some .int) 4 89 (gQp σ) (fun ad => [.ref (ad k0), .int p1]) σ (f_X5_turnsShowing fu σ k0 p1) := by
  refine gCt_intro RX5 rfl (by decide +kernel) (fun ad v hv => by simp only [List.mem_cons, List.not_mem_nil, or_false] at hv; rcases hv with rfl | rfl <;> rfl) (fun ad => Nat.le_of_ble_eq_true rfl) (fun Γ h z => ?_)
  show At Γ 0 [some (.ref (gAd Γ.1 k0)), some (.int p1), none, none] [] σ _
  unfold f_X5_turnsShowing
  refine x_iconst (pc := 0) (v := 0) h dX5_turnsShowing_0 (by decide) ?_
  refine x_istore_n (pc := 1) (i := 2) (L' := [some (.ref (gAd Γ.1 k0)), some (.int p1), some (.int 0), none]) h dX5_turnsShowing_1 rfl (Nat.le_of_ble_eq_true rfl) rfl ?_
  refine x_iconst (pc := 2) (v := 0) h dX5_turnsShowing_2 (by decide) ?_
  refine x_istore_n (pc := 3) (i := 3) (L' := [some (.ref (gAd Γ.1 k0)), some (.int p1), some (.int 0), some (.int 0)]) h dX5_turnsShowing_3 rfl (Nat.le_of_ble_eq_true rfl) rfl ?_
  exact At.mask [true, true, true, true] rfl rfl (f_X5_turnsShowing_W4_at fu σ k0 p1 h z hk0 fu 0 0)

set_option maxRecDepth 20000 in
set_option maxHeartbeats 4000000 in
theorem f_X5_speakersShowing_L4_at (fu : Nat) (σ : gSt) (k0 : Nat) (p1 : Int32) (ag4 : Int32 → Int32 → Option (Int32)) {Γ : gX (Int32)} (h : gOk Γ cX5_speakersShowing 4 RX5 (some .int) 4 89) (z : gEnd Γ (gQp σ)) (hk0 : isO k0 5) (hg4 : ∀ (y2 : Int32) (y3 : Int32), At Γ 4 [some (.ref (gAd Γ.1 k0)), some (.int p1), some (.int y2), some (.int y3)] [] σ (ag4 y2 y3)) (x2 : Int32) (x3 : Int32) : At Γ 4 [some (.ref (gAd Γ.1 k0)), some (.int p1), some (.int x2), some (.int x3)] [] σ (f_X5_speakersShowing_L4 fu σ k0 p1 ag4 x2 x3) := by
  unfold f_X5_speakersShowing_L4
  refine x_iload_n (pc := 4) (i := 3) h dX5_speakersShowing_4 rfl rfl ?_
  refine x_aload_n (pc := 5) (i := 0) h dX5_speakersShowing_5 rfl rfl ?_
  refine gf_X5_25 (pc := 6) h hk0 dX5_speakersShowing_6 ?_
  refine x_Vp (pc := 9) (av := fun ad => []) (rest := [.int x3]) h m_X8_size i_X8_size kl_X5_158 (t_5_1 hk0) (by decide) rfl (c_X8_size fu σ (k0 + 10) (t_5_1 hk0)) rfl rfl (gCaM rfl) dX5_speakersShowing_9 (fun v9 => ?_)
  refine x_icmp_ge (pc := 12) (tgt := 55) h dX5_speakersShowing_12 (by decide) ?_ ?_
  · refine x_iload_n (pc := 55) (i := 2) h dX5_speakersShowing_55 rfl rfl ?_
    exact x_iretp (pc := 56) h z rfl .int rfl rfl dX5_speakersShowing_56
  · refine x_aload_n (pc := 15) (i := 0) h dX5_speakersShowing_15 rfl rfl ?_
    refine gf_X5_25 (pc := 16) h hk0 dX5_speakersShowing_16 ?_
    refine x_iload_n (pc := 19) (i := 3) h dX5_speakersShowing_19 rfl rfl ?_
    refine x_Vp (pc := 20) (av := fun ad => [.int x3]) (rest := []) h m_X8_ownerOf i_X8_ownerOf kl_X5_53 (t_5_1 hk0) (by decide) rfl (c_X8_ownerOf fu σ (k0 + 10) x3 (t_5_1 hk0)) rfl rfl (gCaM rfl) dX5_speakersShowing_20 (fun v20 => ?_)
    refine x_iconst (pc := 23) (v := (-1)) h dX5_speakersShowing_23 (by decide) ?_
    refine x_icmp_eq (pc := 24) (tgt := 49) h dX5_speakersShowing_24 (by decide) ?_ ?_
    · refine x_iinc (pc := 49) (i := 3) (v := (x3 + 1)) (L' := [some (.ref (gAd Γ.1 k0)), some (.int p1), some (.int x2), some (.int (x3 + 1))]) h dX5_speakersShowing_49 rfl rfl rfl ?_
      refine x_goto (pc := 52) (tgt := 4) h dX5_speakersShowing_52 (by decide) ?_
      exact At.mask [true, true, true, true] rfl rfl (hg4 x2 (x3 + 1))
    · refine x_aload_n (pc := 27) (i := 0) h dX5_speakersShowing_27 rfl rfl ?_
      refine x_iload_n (pc := 28) (i := 3) h dX5_speakersShowing_28 rfl rfl ?_
      refine x_iload_n (pc := 29) (i := 1) h dX5_speakersShowing_29 rfl rfl ?_
      refine x_Vp (pc := 30) (av := fun ad => [.int x3, .int p1]) (rest := []) h m_X5_isShownIn i_X5_isShownIn kl_X5_197 hk0 (by decide) rfl (c_X5_isShownIn fu σ k0 x3 p1 hk0) rfl rfl (gCaM rfl) dX5_speakersShowing_30 (fun v30 => ?_)
      refine x_if_eq (pc := 33) (tgt := 49) h dX5_speakersShowing_33 (by decide) ?_ ?_
      · refine x_iinc (pc := 49) (i := 3) (v := (x3 + 1)) (L' := [some (.ref (gAd Γ.1 k0)), some (.int p1), some (.int x2), some (.int (x3 + 1))]) h dX5_speakersShowing_49 rfl rfl rfl ?_
        refine x_goto (pc := 52) (tgt := 4) h dX5_speakersShowing_52 (by decide) ?_
        exact At.mask [true, true, true, true] rfl rfl (hg4 x2 (x3 + 1))
      · refine x_iload_n (pc := 36) (i := 2) h dX5_speakersShowing_36 rfl rfl ?_
        refine x_iconst (pc := 37) (v := 1) h dX5_speakersShowing_37 (by decide) ?_
        refine x_aload_n (pc := 38) (i := 0) h dX5_speakersShowing_38 rfl rfl ?_
        refine gf_X5_25 (pc := 39) h hk0 dX5_speakersShowing_39 ?_
        refine x_iload_n (pc := 42) (i := 3) h dX5_speakersShowing_42 rfl rfl ?_
        refine x_Vp (pc := 43) (av := fun ad => [.int x3]) (rest := [.int 1, .int x2]) h m_X8_ownerOf i_X8_ownerOf kl_X5_53 (t_5_1 hk0) (by decide) rfl (c_X8_ownerOf fu σ (k0 + 10) x3 (t_5_1 hk0)) rfl rfl (gCaM rfl) dX5_speakersShowing_43 (fun v43 => ?_)
        refine x_ishl (pc := 46) h dX5_speakersShowing_46 ?_
        refine x_ior (pc := 47) h dX5_speakersShowing_47 ?_
        refine x_lt (fun y48 => ?_)
        refine x_istore_n (pc := 48) (i := 2) (L' := [some (.ref (gAd Γ.1 k0)), some (.int p1), some (.int y48), some (.int x3)]) h dX5_speakersShowing_48 rfl (Nat.le_of_ble_eq_true rfl) rfl ?_
        refine x_iinc (pc := 49) (i := 3) (v := (x3 + 1)) (L' := [some (.ref (gAd Γ.1 k0)), some (.int p1), some (.int y48), some (.int (x3 + 1))]) h dX5_speakersShowing_49 rfl rfl rfl ?_
        refine x_goto (pc := 52) (tgt := 4) h dX5_speakersShowing_52 (by decide) ?_
        exact At.mask [true, true, true, true] rfl rfl (hg4 y48 (x3 + 1))

theorem f_X5_speakersShowing_W4_at (fu : Nat) (σ : gSt) (k0 : Nat) (p1 : Int32) {Γ : gX (Int32)} (h : gOk Γ cX5_speakersShowing 4 RX5 (some .int) 4 89) (z : gEnd Γ (gQp σ)) (hk0 : isO k0 5) : ∀ (n : Nat) (x2 : Int32) (x3 : Int32), At Γ 4 [some (.ref (gAd Γ.1 k0)), some (.int p1), some (.int x2), some (.int x3)] [] σ (f_X5_speakersShowing_W4 fu σ k0 p1 n x2 x3) := by
  intro n
  induction n with
  | zero => intro x2 x3 r hr; cases hr
  | succ n ih =>
    intro x2 x3
    exact f_X5_speakersShowing_L4_at fu σ k0 p1 (f_X5_speakersShowing_W4 fu σ k0 p1 n) h z hk0 ih x2 x3

set_option maxRecDepth 20000 in
set_option maxHeartbeats 4000000 in
theorem c_X5_speakersShowing (fu : Nat) (σ : gSt) (k0 : Nat) (p1 : Int32) (hk0 : isO k0 5) : gCt yX5_speakersShowing cX5_speakersShowing 4 (some .int) 4 89 (gQp σ) (fun ad => [.ref (ad k0), .int p1]) σ (f_X5_speakersShowing fu σ k0 p1) := by
  refine gCt_intro RX5 rfl (by decide +kernel) (fun ad v hv => by simp only [List.mem_cons, List.not_mem_nil, or_false] at hv; rcases hv with rfl | rfl <;> rfl) (fun ad => Nat.le_of_ble_eq_true rfl) (fun Γ h z => ?_)
  show At Γ 0 [some (.ref (gAd Γ.1 k0)), some (.int p1), none, none] [] σ _
  unfold f_X5_speakersShowing
  refine x_iconst (pc := 0) (v := 0) h dX5_speakersShowing_0 (by decide) ?_
  refine x_istore_n (pc := 1) (i := 2) (L' := [some (.ref (gAd Γ.1 k0)), some (.int p1), some (.int 0), none]) h dX5_speakersShowing_1 rfl (Nat.le_of_ble_eq_true rfl) rfl ?_
  refine x_iconst (pc := 2) (v := 0) h dX5_speakersShowing_2 (by decide) ?_
  refine x_istore_n (pc := 3) (i := 3) (L' := [some (.ref (gAd Γ.1 k0)), some (.int p1), some (.int 0), some (.int 0)]) h dX5_speakersShowing_3 rfl (Nat.le_of_ble_eq_true rfl) rfl ?_
  exact At.mask [true, true, true, true] rfl rfl (f_X5_speakersShowing_W4_at fu σ k0 p1 h z hk0 fu 0 0)

set_option maxRecDepth 20000 in
set_option maxHeartbeats 4000000 in
theorem f_X0_shownAs_L4_at (fu : Nat) (σ : gSt) (k0 : Nat) (p1 : Int32) (ag4 : Int32 → Int32 → Option (Int32)) {Γ : gX (Int32)} (h : gOk Γ cX0_shownAs 4 RX0 (some .int) 2 44) (z : gEnd Γ (gQp σ)) (hk0 : isO k0 0) (hg4 : ∀ (y2 : Int32) (y3 : Int32), At Γ 4 [some (.ref (gAd Γ.1 k0)), some (.int p1), some (.int y2), some (.int y3)] [] σ (ag4 y2 y3)) (x2 : Int32) (x3 : Int32) : At Γ 4 [some (.ref (gAd Γ.1 k0)), some (.int p1), some (.int x2), some (.int x3)] [] σ (f_X0_shownAs_L4 fu σ k0 p1 ag4 x2 x3) := by
  unfold f_X0_shownAs_L4
  refine x_iload_n (pc := 4) (i := 3) h dX0_shownAs_4 rfl rfl ?_
  refine x_bipush (pc := 5) (v := 16) h dX0_shownAs_5 (by decide) ?_
  refine x_icmp_ge (pc := 7) (tgt := 31) h dX0_shownAs_7 (by decide) ?_ ?_
  · refine x_iload_n (pc := 31) (i := 2) h dX0_shownAs_31 rfl rfl ?_
    exact x_iretp (pc := 32) h z rfl .int rfl rfl dX0_shownAs_32
  · refine x_aload_n (pc := 10) (i := 0) h dX0_shownAs_10 rfl rfl ?_
    refine x_iload_n (pc := 11) (i := 3) h dX0_shownAs_11 rfl rfl ?_
    refine x_Vp (pc := 12) (av := fun ad => [.int x3]) (rest := []) h m_X0_shown i_X0_shown kl_X0_44 hk0 (by decide) rfl (c_X0_shown fu σ k0 x3 hk0) rfl rfl (gCaM rfl) dX0_shownAs_12 (fun v12 => ?_)
    refine x_iload_n (pc := 15) (i := 1) h dX0_shownAs_15 rfl rfl ?_
    refine x_icmp_ne (pc := 16) (tgt := 25) h dX0_shownAs_16 (by decide) ?_ ?_
    · refine x_iinc (pc := 25) (i := 3) (v := (x3 + 1)) (L' := [some (.ref (gAd Γ.1 k0)), some (.int p1), some (.int x2), some (.int (x3 + 1))]) h dX0_shownAs_25 rfl rfl rfl ?_
      refine x_goto (pc := 28) (tgt := 4) h dX0_shownAs_28 (by decide) ?_
      exact At.mask [true, true, true, true] rfl rfl (hg4 x2 (x3 + 1))
    · refine x_iload_n (pc := 19) (i := 2) h dX0_shownAs_19 rfl rfl ?_
      refine x_iconst (pc := 20) (v := 1) h dX0_shownAs_20 (by decide) ?_
      refine x_iload_n (pc := 21) (i := 3) h dX0_shownAs_21 rfl rfl ?_
      refine x_ishl (pc := 22) h dX0_shownAs_22 ?_
      refine x_ior (pc := 23) h dX0_shownAs_23 ?_
      refine x_lt (fun y24 => ?_)
      refine x_istore_n (pc := 24) (i := 2) (L' := [some (.ref (gAd Γ.1 k0)), some (.int p1), some (.int y24), some (.int x3)]) h dX0_shownAs_24 rfl (Nat.le_of_ble_eq_true rfl) rfl ?_
      refine x_iinc (pc := 25) (i := 3) (v := (x3 + 1)) (L' := [some (.ref (gAd Γ.1 k0)), some (.int p1), some (.int y24), some (.int (x3 + 1))]) h dX0_shownAs_25 rfl rfl rfl ?_
      refine x_goto (pc := 28) (tgt := 4) h dX0_shownAs_28 (by decide) ?_
      exact At.mask [true, true, true, true] rfl rfl (hg4 y24 (x3 + 1))

theorem f_X0_shownAs_W4_at (fu : Nat) (σ : gSt) (k0 : Nat) (p1 : Int32) {Γ : gX (Int32)} (h : gOk Γ cX0_shownAs 4 RX0 (some .int) 2 44) (z : gEnd Γ (gQp σ)) (hk0 : isO k0 0) : ∀ (n : Nat) (x2 : Int32) (x3 : Int32), At Γ 4 [some (.ref (gAd Γ.1 k0)), some (.int p1), some (.int x2), some (.int x3)] [] σ (f_X0_shownAs_W4 fu σ k0 p1 n x2 x3) := by
  intro n
  induction n with
  | zero => intro x2 x3 r hr; cases hr
  | succ n ih =>
    intro x2 x3
    exact f_X0_shownAs_L4_at fu σ k0 p1 (f_X0_shownAs_W4 fu σ k0 p1 n) h z hk0 ih x2 x3

set_option maxRecDepth 20000 in
set_option maxHeartbeats 4000000 in
theorem c_X0_shownAs (fu : Nat) (σ : gSt) (k0 : Nat) (p1 : Int32) (hk0 : isO k0 0) : gCt yX0_shownAs cX0_shownAs 4 (some .int) 2 44 (gQp σ) (fun ad => [.ref (ad k0), .int p1]) σ (f_X0_shownAs fu σ k0 p1) := by
  refine gCt_intro RX0 rfl (by decide +kernel) (fun ad v hv => by simp only [List.mem_cons, List.not_mem_nil, or_false] at hv; rcases hv with rfl | rfl <;> rfl) (fun ad => Nat.le_of_ble_eq_true rfl) (fun Γ h z => ?_)
  show At Γ 0 [some (.ref (gAd Γ.1 k0)), some (.int p1), none, none] [] σ _
  unfold f_X0_shownAs
  refine x_iconst (pc := 0) (v := 0) h dX0_shownAs_0 (by decide) ?_
  refine x_istore_n (pc := 1) (i := 2) (L' := [some (.ref (gAd Γ.1 k0)), some (.int p1), some (.int 0), none]) h dX0_shownAs_1 rfl (Nat.le_of_ble_eq_true rfl) rfl ?_
  refine x_iconst (pc := 2) (v := 0) h dX0_shownAs_2 (by decide) ?_
  refine x_istore_n (pc := 3) (i := 3) (L' := [some (.ref (gAd Γ.1 k0)), some (.int p1), some (.int 0), some (.int 0)]) h dX0_shownAs_3 rfl (Nat.le_of_ble_eq_true rfl) rfl ?_
  exact At.mask [true, true, true, true] rfl rfl (f_X0_shownAs_W4_at fu σ k0 p1 h z hk0 fu 0 0)

set_option maxRecDepth 20000 in
set_option maxHeartbeats 4000000 in
theorem c_X5_ofTerm (fu : Nat) (σ : gSt) (k0 : Nat) (p1 : Int32) (p2 : Int32) (hk0 : isO k0 5) : gCt yX5_ofTerm cX5_ofTerm 3 (some .int) 5 112 (gQp σ) (fun ad => [.ref (ad k0), .int p1, .int p2]) σ (f_X5_ofTerm fu σ k0 p1 p2) := by
  refine gCt_intro RX5 rfl (by decide +kernel) (fun ad v hv => by simp only [List.mem_cons, List.not_mem_nil, or_false] at hv; rcases hv with rfl | rfl | rfl <;> rfl) (fun ad => Nat.le_of_ble_eq_true rfl) (fun Γ h z => ?_)
  show At Γ 0 [some (.ref (gAd Γ.1 k0)), some (.int p1), some (.int p2)] [] σ _
  unfold f_X5_ofTerm
  refine x_iload_n (pc := 0) (i := 1) h dX5_ofTerm_0 rfl rfl ?_
  refine x_Sp (pc := 1) (av := fun ad => [.int p1]) (rest := []) h m_X0_isTerm s_X0_isTerm kl_X5_85 (c_X0_isTerm fu σ p1) rfl rfl (gCaM rfl) dX5_ofTerm_1 (fun v1 => ?_)
  refine x_if_ne (pc := 4) (tgt := 10) h dX5_ofTerm_4 (by decide) ?_ ?_
  · refine x_iload_n (pc := 10) (i := 2) h dX5_ofTerm_10 rfl rfl ?_
    refine x_tsw (pc := 11) (tgt := 52) h 0 (0) dX5_ofTerm_11 rfl (by decide) (by decide) rfl (by decide) ?_ (fun c11_0 => ?_)
    · refine x_aload_n (pc := 52) (i := 0) h dX5_ofTerm_52 rfl rfl ?_
      refine gf_X5_30 (pc := 53) h hk0 dX5_ofTerm_53 ?_
      refine x_iload_n (pc := 56) (i := 1) h dX5_ofTerm_56 rfl rfl ?_
      refine x_Vp (pc := 57) (av := fun ad => [.int p1]) (rest := []) h m_X0_targetOf i_X0_targetOf kl_X5_88 (t_5_2 hk0) (by decide) rfl (c_X0_targetOf fu σ (k0 + 17) p1 (t_5_2 hk0)) rfl rfl (gCaM rfl) dX5_ofTerm_57 (fun v57 => ?_)
      refine x_Sp (pc := 60) (av := fun ad => [.int v57]) (rest := []) h m_X5_orNotFound s_X5_orNotFound kl_X5_56 (c_X5_orNotFound fu σ v57) rfl rfl (gCaM rfl) dX5_ofTerm_60 (fun v60 => ?_)
      exact x_iretp (pc := 63) h z rfl .int rfl rfl dX5_ofTerm_63
    refine x_tsw (pc := 11) (tgt := 64) h 1 (1) dX5_ofTerm_11 rfl (by decide) (by decide) rfl (by decide) ?_ (fun c11_1 => ?_)
    · refine x_aload_n (pc := 64) (i := 0) h dX5_ofTerm_64 rfl rfl ?_
      refine gf_X5_30 (pc := 65) h hk0 dX5_ofTerm_65 ?_
      refine x_iload_n (pc := 68) (i := 1) h dX5_ofTerm_68 rfl rfl ?_
      refine x_Vp (pc := 69) (av := fun ad => [.int p1]) (rest := []) h m_X0_shown i_X0_shown kl_X5_80 (t_5_2 hk0) (by decide) rfl (c_X0_shown fu σ (k0 + 17) p1 (t_5_2 hk0)) rfl rfl (gCaM rfl) dX5_ofTerm_69 (fun v69 => ?_)
      exact x_iretp (pc := 72) h z rfl .int rfl rfl dX5_ofTerm_72
    refine x_tsw (pc := 11) (tgt := 73) h 2 (2) dX5_ofTerm_11 rfl (by decide) (by decide) rfl (by decide) ?_ (fun c11_2 => ?_)
    · refine x_aload_n (pc := 73) (i := 0) h dX5_ofTerm_73 rfl rfl ?_
      refine gf_X5_30 (pc := 74) h hk0 dX5_ofTerm_74 ?_
      refine x_iload_n (pc := 77) (i := 1) h dX5_ofTerm_77 rfl rfl ?_
      refine x_Vp (pc := 78) (av := fun ad => [.int p1]) (rest := []) h m_X0_chainOf i_X0_chainOf kl_X5_91 (t_5_2 hk0) (by decide) rfl (c_X0_chainOf fu σ (k0 + 17) p1 (t_5_2 hk0)) rfl rfl (gCaM rfl) dX5_ofTerm_78 (fun v78 => ?_)
      exact x_iretp (pc := 81) h z rfl .int rfl rfl dX5_ofTerm_81
    refine x_tsw (pc := 11) (tgt := 82) h 3 (3) dX5_ofTerm_11 rfl (by decide) (by decide) rfl (by decide) ?_ (fun c11_3 => ?_)
    · refine x_aload_n (pc := 82) (i := 0) h dX5_ofTerm_82 rfl rfl ?_
      refine x_iload_n (pc := 83) (i := 1) h dX5_ofTerm_83 rfl rfl ?_
      refine x_Vp (pc := 84) (av := fun ad => [.int p1]) (rest := []) h m_X5_placesShowing i_X5_placesShowing kl_X5_94 hk0 (by decide) rfl (c_X5_placesShowing fu σ k0 p1 hk0) rfl rfl (gCaM rfl) dX5_ofTerm_84 (fun v84 => ?_)
      exact x_iretp (pc := 87) h z rfl .int rfl rfl dX5_ofTerm_87
    refine x_tsw (pc := 11) (tgt := 88) h 4 (4) dX5_ofTerm_11 rfl (by decide) (by decide) rfl (by decide) ?_ (fun c11_4 => ?_)
    · refine x_aload_n (pc := 88) (i := 0) h dX5_ofTerm_88 rfl rfl ?_
      refine x_iload_n (pc := 89) (i := 1) h dX5_ofTerm_89 rfl rfl ?_
      refine x_Vp (pc := 90) (av := fun ad => [.int p1]) (rest := []) h m_X5_turnsShowing i_X5_turnsShowing kl_X5_97 hk0 (by decide) rfl (c_X5_turnsShowing fu σ k0 p1 hk0) rfl rfl (gCaM rfl) dX5_ofTerm_90 (fun v90 => ?_)
      exact x_iretp (pc := 93) h z rfl .int rfl rfl dX5_ofTerm_93
    refine x_tsw (pc := 11) (tgt := 94) h 5 (5) dX5_ofTerm_11 rfl (by decide) (by decide) rfl (by decide) ?_ (fun c11_5 => ?_)
    · refine x_aload_n (pc := 94) (i := 0) h dX5_ofTerm_94 rfl rfl ?_
      refine x_iload_n (pc := 95) (i := 1) h dX5_ofTerm_95 rfl rfl ?_
      refine x_Vp (pc := 96) (av := fun ad => [.int p1]) (rest := []) h m_X5_speakersShowing i_X5_speakersShowing kl_X5_100 hk0 (by decide) rfl (c_X5_speakersShowing fu σ k0 p1 hk0) rfl rfl (gCaM rfl) dX5_ofTerm_96 (fun v96 => ?_)
      exact x_iretp (pc := 99) h z rfl .int rfl rfl dX5_ofTerm_99
    refine x_tsw (pc := 11) (tgt := 100) h 6 (6) dX5_ofTerm_11 rfl (by decide) (by decide) rfl (by decide) ?_ (fun c11_6 => ?_)
    · refine x_aload_n (pc := 100) (i := 0) h dX5_ofTerm_100 rfl rfl ?_
      refine gf_X5_30 (pc := 101) h hk0 dX5_ofTerm_101 ?_
      refine x_iload_n (pc := 104) (i := 1) h dX5_ofTerm_104 rfl rfl ?_
      refine x_Vp (pc := 105) (av := fun ad => [.int p1]) (rest := []) h m_X0_shownAs i_X0_shownAs kl_X5_103 (t_5_2 hk0) (by decide) rfl (c_X0_shownAs fu σ (k0 + 17) p1 (t_5_2 hk0)) rfl rfl (gCaM rfl) dX5_ofTerm_105 (fun v105 => ?_)
      exact x_iretp (pc := 108) h z rfl .int rfl rfl dX5_ofTerm_108
    refine x_tswd (pc := 11) (tgt := 109) h dX5_ofTerm_11 (by have e0 := gNe (0) c11_0 rfl; have e1 := gNe (1) c11_1 rfl; have e2 := gNe (2) c11_2 rfl; have e3 := gNe (3) c11_3 rfl; have e4 := gNe (4) c11_4 rfl; have e5 := gNe (5) c11_5 rfl; have e6 := gNe (6) c11_6 rfl; omega) (by decide) ?_
    refine x_ldc (pc := 109) h kc_X5_42 dX5_ofTerm_109 ?_
    exact x_iretp (pc := 111) h z rfl .int rfl rfl dX5_ofTerm_111
  · refine x_ldc (pc := 7) h kc_X5_42 dX5_ofTerm_7 ?_
    exact x_iretp (pc := 9) h z rfl .int rfl rfl dX5_ofTerm_9

