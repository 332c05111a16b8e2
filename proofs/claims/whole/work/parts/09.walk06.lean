theorem f_X10_silence_W33_at (fu : Nat) (σ : gSt) (k0 : Nat) (p1 : Int32) (x5 : Int32) {Γ : gX (Int32)} (h : gOk Γ cX10_silence 7 RX10 (some .int) 3 67) (z : gEnd Γ (gQp σ)) (hk0 : isO k0 10) : ∀ (n : Nat) (x2 : Int32) (x3 : Int32) (x4 : Int32) (x6 : Int32), At Γ 33 [some (.ref (gAd Γ.1 k0)), some (.int p1), some (.int x2), some (.int x3), some (.int x4), some (.int x5), some (.int x6)] [] σ (f_X10_silence_W33 fu σ k0 p1 x5 n x2 x3 x4 x6) := by
  intro n
  induction n with
  | zero => intro x2 x3 x4 x6 r hr; cases hr
  | succ n ih =>
    intro x2 x3 x4 x6
    exact f_X10_silence_L33_at fu σ k0 p1 x5 (f_X10_silence_W33 fu σ k0 p1 x5 n) h z hk0 ih x2 x3 x4 x6

set_option maxRecDepth 20000 in
set_option maxHeartbeats 4000000 in
theorem c_X10_silence (fu : Nat) (σ : gSt) (k0 : Nat) (p1 : Int32) (hk0 : isO k0 10) : gCt yX10_silence cX10_silence 7 (some .int) 3 67 (gQp σ) (fun ad => [.ref (ad k0), .int p1]) σ (f_X10_silence fu σ k0 p1) := by
  refine gCt_intro RX10 rfl (by decide +kernel) (fun ad v hv => by simp only [List.mem_cons, List.not_mem_nil, or_false] at hv; rcases hv with rfl | rfl <;> rfl) (fun ad => Nat.le_of_ble_eq_true rfl) (fun Γ h z => ?_)
  show At Γ 0 [some (.ref (gAd Γ.1 k0)), some (.int p1), none, none, none, none, none] [] σ _
  unfold f_X10_silence
  refine x_iload_n (pc := 0) (i := 1) h dX10_silence_0 rfl rfl ?_
  refine x_iconst (pc := 1) (v := 0) h dX10_silence_1 (by decide) ?_
  refine x_iconst (pc := 2) (v := 1) h dX10_silence_2 (by decide) ?_
  refine x_Sp (pc := 3) (av := fun ad => [.int p1, .int 0, .int 1]) (rest := []) h m_X10_in s_X10_in kl_X10_39 (c_X10_in fu σ p1 0 1) rfl rfl (gCaM rfl) dX10_silence_3 (fun v3 => ?_)
  refine x_if_ne (pc := 6) (tgt := 12) h dX10_silence_6 (by decide) ?_ ?_
  · refine x_iconst (pc := 12) (v := 0) h dX10_silence_12 (by decide) ?_
    refine x_istore_n (pc := 13) (i := 2) (L' := [some (.ref (gAd Γ.1 k0)), some (.int p1), some (.int 0), none, none, none, none]) h dX10_silence_13 rfl (Nat.le_of_ble_eq_true rfl) rfl ?_
    refine x_iconst (pc := 14) (v := 0) h dX10_silence_14 (by decide) ?_
    refine x_istore_n (pc := 15) (i := 3) (L' := [some (.ref (gAd Γ.1 k0)), some (.int p1), some (.int 0), some (.int 0), none, none, none]) h dX10_silence_15 rfl (Nat.le_of_ble_eq_true rfl) rfl ?_
    refine x_iconst (pc := 16) (v := 0) h dX10_silence_16 (by decide) ?_
    refine x_istore (pc := 17) (L' := [some (.ref (gAd Γ.1 k0)), some (.int p1), some (.int 0), some (.int 0), some (.int 0), none, none]) h dX10_silence_17 (Nat.le_of_ble_eq_true rfl) rfl ?_
    refine x_aload_n (pc := 19) (i := 0) h dX10_silence_19 rfl rfl ?_
    refine x_Vp (pc := 20) (av := fun ad => []) (rest := []) h m_X10_lastEnd i_X10_lastEnd kl_X10_155 hk0 (by decide) rfl (c_X10_lastEnd fu σ k0 hk0) rfl rfl (gCaM rfl) dX10_silence_20 (fun v20 => ?_)
    refine x_istore (pc := 23) (L' := [some (.ref (gAd Γ.1 k0)), some (.int p1), some (.int 0), some (.int 0), some (.int 0), some (.int v20), none]) h dX10_silence_23 (Nat.le_of_ble_eq_true rfl) rfl ?_
    refine x_aload_n (pc := 25) (i := 0) h dX10_silence_25 rfl rfl ?_
    refine x_iconst (pc := 26) (v := 0) h dX10_silence_26 (by decide) ?_
    refine x_iconst (pc := 27) (v := 0) h dX10_silence_27 (by decide) ?_
    refine x_Vp (pc := 28) (av := fun ad => [.int 0, .int 0]) (rest := []) h m_X10_of i_X10_of kl_X10_47 hk0 (by decide) rfl (c_X10_of fu σ k0 0 0 hk0) rfl rfl (gCaM rfl) dX10_silence_28 (fun v28 => ?_)
    refine x_istore (pc := 31) (L' := [some (.ref (gAd Γ.1 k0)), some (.int p1), some (.int 0), some (.int 0), some (.int 0), some (.int v20), some (.int v28)]) h dX10_silence_31 (Nat.le_of_ble_eq_true rfl) rfl ?_
    exact At.mask [true, true, true, true, true, true, true] rfl rfl (f_X10_silence_W33_at fu σ k0 p1 v20 h z hk0 fu 0 0 0 v28)
  · refine x_ldc (pc := 9) h kc_X10_50 dX10_silence_9 ?_
    exact x_iretp (pc := 11) h z rfl .int rfl rfl dX10_silence_11

set_option maxRecDepth 20000 in
set_option maxHeartbeats 4000000 in
theorem f_X5_ofDoubt_J99_at (fu : Nat) (σ : gSt) (k0 : Nat) (p1 : Int32) {Γ : gX (Int32)} (h : gOk Γ cX5_ofDoubt 7 RX5 (some .int) 2 42) (z : gEnd Γ (gQp σ)) (hk0 : isO k0 5) (s1 : Int32) : At Γ 99 [none, none, none, none, none, none, none] [.int s1] σ (f_X5_ofDoubt_J99 fu σ k0 p1 s1) := by
  unfold f_X5_ofDoubt_J99
  refine x_Sp (pc := 99) (av := fun ad => [.int s1]) (rest := []) h m_X5_orNotFound s_X5_orNotFound kl_X5_56 (c_X5_orNotFound fu σ s1) rfl rfl (gCaM rfl) dX5_ofDoubt_99 (fun v99 => ?_)
  exact x_iretp (pc := 102) h z rfl .int rfl rfl dX5_ofDoubt_102

set_option maxRecDepth 20000 in
set_option maxHeartbeats 4000000 in
theorem f_X5_ofDoubt_L19_at (fu : Nat) (σ : gSt) (k0 : Nat) (p1 : Int32) (ag19 : Int32 → Int32 → Int32 → Option (Int32)) {Γ : gX (Int32)} (h : gOk Γ cX5_ofDoubt 7 RX5 (some .int) 2 42) (z : gEnd Γ (gQp σ)) (hk0 : isO k0 5) (hg19 : ∀ (y2 : Int32) (y3 : Int32) (y4 : Int32), At Γ 19 [some (.ref (gAd Γ.1 k0)), some (.int p1), some (.int y2), some (.int y3), some (.int y4), none, none] [] σ (ag19 y2 y3 y4)) (x2 : Int32) (x3 : Int32) (x4 : Int32) : At Γ 19 [some (.ref (gAd Γ.1 k0)), some (.int p1), some (.int x2), some (.int x3), some (.int x4), none, none] [] σ (f_X5_ofDoubt_L19 fu σ k0 p1 ag19 x2 x3 x4) := by
  unfold f_X5_ofDoubt_L19
  refine x_iload (pc := 19) h dX5_ofDoubt_19 rfl ?_
  refine x_aload_n (pc := 21) (i := 0) h dX5_ofDoubt_21 rfl rfl ?_
  refine gf_X5_25 (pc := 22) h hk0 dX5_ofDoubt_22 ?_
  refine x_Vp (pc := 25) (av := fun ad => []) (rest := [.int x4]) h m_X8_size i_X8_size kl_X5_158 (t_5_1 hk0) (by decide) rfl (c_X8_size fu σ (k0 + 10) (t_5_1 hk0)) rfl rfl (gCaM rfl) dX5_ofDoubt_25 (fun v25 => ?_)
  refine x_icmp_ge (pc := 28) (tgt := 90) h dX5_ofDoubt_28 (by decide) ?_ ?_
  · refine x_iload_n (pc := 90) (i := 1) h dX5_ofDoubt_90 rfl rfl ?_
    refine x_nm (e := (if p1 = 0 then x2 else x3)) (pcJ := 99) (LJ := [some (.ref (gAd Γ.1 k0)), some (.int p1), some (.int x2), some (.int x3), some (.int x4), none, none]) (sJ := []) (fun w91 => ?_) (fun kj91 => ?_)
    · exact At.mask [false, false, false, false, false, false, false] rfl rfl (f_X5_ofDoubt_J99_at fu σ k0 p1 h z hk0 w91)
    · refine j_if_ne (pc := 91) (tgt := 98) h dX5_ofDoubt_91 (by decide) (fun hc91_0 => ?_) (fun hc91_0 => ?_)
      · refine x_iload_n (pc := 98) (i := 3) h dX5_ofDoubt_98 rfl rfl ?_
        exact kj91 x3 (by rw [if_neg hc91_0])
      · refine x_iload_n (pc := 94) (i := 2) h dX5_ofDoubt_94 rfl rfl ?_
        refine x_goto (pc := 95) (tgt := 99) h dX5_ofDoubt_95 (by decide) ?_
        exact kj91 x2 (by rw [if_pos hc91_0])
  · refine x_aload_n (pc := 31) (i := 0) h dX5_ofDoubt_31 rfl rfl ?_
    refine gf_X5_25 (pc := 32) h hk0 dX5_ofDoubt_32 ?_
    refine x_iload (pc := 35) h dX5_ofDoubt_35 rfl ?_
    refine x_Vp (pc := 37) (av := fun ad => [.int x4]) (rest := []) h m_X8_ownerOf i_X8_ownerOf kl_X5_53 (t_5_1 hk0) (by decide) rfl (c_X8_ownerOf fu σ (k0 + 10) x4 (t_5_1 hk0)) rfl rfl (gCaM rfl) dX5_ofDoubt_37 (fun v37 => ?_)
    refine x_istore (pc := 40) (L' := [some (.ref (gAd Γ.1 k0)), some (.int p1), some (.int x2), some (.int x3), some (.int x4), some (.int v37), none]) h dX5_ofDoubt_40 (Nat.le_of_ble_eq_true rfl) rfl ?_
    refine x_aload_n (pc := 42) (i := 0) h dX5_ofDoubt_42 rfl rfl ?_
    refine gf_X5_25 (pc := 43) h hk0 dX5_ofDoubt_43 ?_
    refine x_iload (pc := 46) h dX5_ofDoubt_46 rfl ?_
    refine x_Vp (pc := 48) (av := fun ad => [.int x4]) (rest := []) h m_X8_pitchOf i_X8_pitchOf kl_X5_50 (t_5_1 hk0) (by decide) rfl (c_X8_pitchOf fu σ (k0 + 10) x4 (t_5_1 hk0)) rfl rfl (gCaM rfl) dX5_ofDoubt_48 (fun v48 => ?_)
    refine x_aload_n (pc := 51) (i := 0) h dX5_ofDoubt_51 rfl rfl ?_
    refine gf_X5_35 (pc := 52) h hk0 dX5_ofDoubt_52 ?_
    refine x_iload (pc := 55) h dX5_ofDoubt_55 rfl ?_
    refine x_Vp (pc := 57) (av := fun ad => [.int v37]) (rest := [.int v48]) h m_X4_pitchOf i_X4_pitchOf kl_X5_109 (t_5_3 hk0) (by decide) rfl (c_X4_pitchOf fu σ (k0 + 19) v37 (t_5_3 hk0)) rfl rfl (gCaM rfl) dX5_ofDoubt_57 (fun v57 => ?_)
    refine x_isub (pc := 60) h dX5_ofDoubt_60 ?_
    refine x_Sp (pc := 61) (av := fun ad => [.int (v48 - v57)]) (rest := []) h m_J9_abs_0f7a4 s_J9_abs_0f7a4 kl_X5_162 (c_J9_abs_0f7a4 fu σ (v48 - v57)) rfl rfl (gCaM rfl) dX5_ofDoubt_61 (fun v61 => ?_)
    refine x_istore (pc := 64) (L' := [some (.ref (gAd Γ.1 k0)), some (.int p1), some (.int x2), some (.int x3), some (.int x4), some (.int v37), some (.int v61)]) h dX5_ofDoubt_64 (Nat.le_of_ble_eq_true rfl) rfl ?_
    refine x_iload (pc := 66) h dX5_ofDoubt_66 rfl ?_
    refine x_iconst (pc := 68) (v := (-1)) h dX5_ofDoubt_68 (by decide) ?_
    refine x_icmp_eq (pc := 69) (tgt := 84) h dX5_ofDoubt_69 (by decide) ?_ ?_
    · refine x_iinc (pc := 84) (i := 4) (v := (x4 + 1)) (L' := [some (.ref (gAd Γ.1 k0)), some (.int p1), some (.int x2), some (.int x3), some (.int (x4 + 1)), some (.int v37), some (.int v61)]) h dX5_ofDoubt_84 rfl rfl rfl ?_
      refine x_goto (pc := 87) (tgt := 19) h dX5_ofDoubt_87 (by decide) ?_
      exact At.mask [true, true, true, true, true, false, false] rfl rfl (hg19 x2 x3 (x4 + 1))
    · refine x_iload (pc := 72) h dX5_ofDoubt_72 rfl ?_
      refine x_iload_n (pc := 74) (i := 3) h dX5_ofDoubt_74 rfl rfl ?_
      refine x_icmp_le (pc := 75) (tgt := 84) h dX5_ofDoubt_75 (by decide) ?_ ?_
      · refine x_iinc (pc := 84) (i := 4) (v := (x4 + 1)) (L' := [some (.ref (gAd Γ.1 k0)), some (.int p1), some (.int x2), some (.int x3), some (.int (x4 + 1)), some (.int v37), some (.int v61)]) h dX5_ofDoubt_84 rfl rfl rfl ?_
        refine x_goto (pc := 87) (tgt := 19) h dX5_ofDoubt_87 (by decide) ?_
        exact At.mask [true, true, true, true, true, false, false] rfl rfl (hg19 x2 x3 (x4 + 1))
      · refine x_iload (pc := 78) h dX5_ofDoubt_78 rfl ?_
        refine x_istore_n (pc := 80) (i := 2) (L' := [some (.ref (gAd Γ.1 k0)), some (.int p1), some (.int x4), some (.int x3), some (.int x4), some (.int v37), some (.int v61)]) h dX5_ofDoubt_80 rfl (Nat.le_of_ble_eq_true rfl) rfl ?_
        refine x_iload (pc := 81) h dX5_ofDoubt_81 rfl ?_
        refine x_istore_n (pc := 83) (i := 3) (L' := [some (.ref (gAd Γ.1 k0)), some (.int p1), some (.int x4), some (.int v61), some (.int x4), some (.int v37), some (.int v61)]) h dX5_ofDoubt_83 rfl (Nat.le_of_ble_eq_true rfl) rfl ?_
        refine x_iinc (pc := 84) (i := 4) (v := (x4 + 1)) (L' := [some (.ref (gAd Γ.1 k0)), some (.int p1), some (.int x4), some (.int v61), some (.int (x4 + 1)), some (.int v37), some (.int v61)]) h dX5_ofDoubt_84 rfl rfl rfl ?_
        refine x_goto (pc := 87) (tgt := 19) h dX5_ofDoubt_87 (by decide) ?_
        exact At.mask [true, true, true, true, true, false, false] rfl rfl (hg19 x4 v61 (x4 + 1))

theorem f_X5_ofDoubt_W19_at (fu : Nat) (σ : gSt) (k0 : Nat) (p1 : Int32) {Γ : gX (Int32)} (h : gOk Γ cX5_ofDoubt 7 RX5 (some .int) 2 42) (z : gEnd Γ (gQp σ)) (hk0 : isO k0 5) : ∀ (n : Nat) (x2 : Int32) (x3 : Int32) (x4 : Int32), At Γ 19 [some (.ref (gAd Γ.1 k0)), some (.int p1), some (.int x2), some (.int x3), some (.int x4), none, none] [] σ (f_X5_ofDoubt_W19 fu σ k0 p1 n x2 x3 x4) := by
  intro n
  induction n with
  | zero => intro x2 x3 x4 r hr; cases hr
  | succ n ih =>
    intro x2 x3 x4
    exact f_X5_ofDoubt_L19_at fu σ k0 p1 (f_X5_ofDoubt_W19 fu σ k0 p1 n) h z hk0 ih x2 x3 x4

set_option maxRecDepth 20000 in
set_option maxHeartbeats 4000000 in
theorem c_X5_ofDoubt (fu : Nat) (σ : gSt) (k0 : Nat) (p1 : Int32) (hk0 : isO k0 5) : gCt yX5_ofDoubt cX5_ofDoubt 7 (some .int) 2 42 (gQp σ) (fun ad => [.ref (ad k0), .int p1]) σ (f_X5_ofDoubt fu σ k0 p1) := by
  refine gCt_intro RX5 rfl (by decide +kernel) (fun ad v hv => by simp only [List.mem_cons, List.not_mem_nil, or_false] at hv; rcases hv with rfl | rfl <;> rfl) (fun ad => Nat.le_of_ble_eq_true rfl) (fun Γ h z => ?_)
  show At Γ 0 [some (.ref (gAd Γ.1 k0)), some (.int p1), none, none, none, none, none] [] σ _
  unfold f_X5_ofDoubt
  refine x_iload_n (pc := 0) (i := 1) h dX5_ofDoubt_0 rfl rfl ?_
  refine x_iconst (pc := 1) (v := 0) h dX5_ofDoubt_1 (by decide) ?_
  refine x_iconst (pc := 2) (v := 1) h dX5_ofDoubt_2 (by decide) ?_
  refine x_Np (pc := 3) (av := fun ad => [.int p1, .int 0, .int 1]) (rest := []) h m_X9_isWithin s_X9_isWithin kl_X5_71 (c_X9_isWithin fu σ p1 0 1) rfl rfl (gCaM rfl) dX5_ofDoubt_3 (fun v3 => ?_)
  refine x_if_ne (pc := 6) (tgt := 12) h dX5_ofDoubt_6 (by decide) ?_ ?_
  · refine x_iconst (pc := 12) (v := (-1)) h dX5_ofDoubt_12 (by decide) ?_
    refine x_istore_n (pc := 13) (i := 2) (L' := [some (.ref (gAd Γ.1 k0)), some (.int p1), some (.int (-1)), none, none, none, none]) h dX5_ofDoubt_13 rfl (Nat.le_of_ble_eq_true rfl) rfl ?_
    refine x_iconst (pc := 14) (v := (-1)) h dX5_ofDoubt_14 (by decide) ?_
    refine x_istore_n (pc := 15) (i := 3) (L' := [some (.ref (gAd Γ.1 k0)), some (.int p1), some (.int (-1)), some (.int (-1)), none, none, none]) h dX5_ofDoubt_15 rfl (Nat.le_of_ble_eq_true rfl) rfl ?_
    refine x_iconst (pc := 16) (v := 0) h dX5_ofDoubt_16 (by decide) ?_
    refine x_istore (pc := 17) (L' := [some (.ref (gAd Γ.1 k0)), some (.int p1), some (.int (-1)), some (.int (-1)), some (.int 0), none, none]) h dX5_ofDoubt_17 (Nat.le_of_ble_eq_true rfl) rfl ?_
    exact At.mask [true, true, true, true, true, false, false] rfl rfl (f_X5_ofDoubt_W19_at fu σ k0 p1 h z hk0 fu (-1) (-1) 0)
  · refine x_ldc (pc := 9) h kc_X5_42 dX5_ofDoubt_9 ?_
    exact x_iretp (pc := 11) h z rfl .int rfl rfl dX5_ofDoubt_11

set_option maxRecDepth 20000 in
set_option maxHeartbeats 4000000 in
theorem c_X9_doubtful (fu : Nat) (σ : gSt) (k0 : Nat) (p1 : Int32) (hk0 : isO k0 9) : gCt yX9_doubtful cX9_doubtful 2 (some .int) 3 68 (gQp σ) (fun ad => [.ref (ad k0), .int p1]) σ (f_X9_doubtful fu σ k0 p1) := by
  refine gCt_intro RX9 rfl (by decide +kernel) (fun ad v hv => by simp only [List.mem_cons, List.not_mem_nil, or_false] at hv; rcases hv with rfl | rfl <;> rfl) (fun ad => Nat.le_of_ble_eq_true rfl) (fun Γ h z => ?_)
  show At Γ 0 [some (.ref (gAd Γ.1 k0)), some (.int p1)] [] σ _
  unfold f_X9_doubtful
  refine x_aload_n (pc := 0) (i := 0) h dX9_doubtful_0 rfl rfl ?_
  refine gf_X9_31 (pc := 1) h hk0 dX9_doubtful_1 ?_
  refine x_iload_n (pc := 4) (i := 1) h dX9_doubtful_4 rfl rfl ?_
  refine x_Vp (pc := 5) (av := fun ad => [.int p1]) (rest := []) h m_X5_ofDoubt i_X5_ofDoubt kl_X9_120 (t_9_3 hk0) (by decide) rfl (c_X5_ofDoubt fu σ (k0 + 1) p1 (t_9_3 hk0)) rfl rfl (gCaM rfl) dX9_doubtful_5 (fun v5 => ?_)
  exact x_iretp (pc := 8) h z rfl .int rfl rfl dX9_doubtful_8

set_option maxRecDepth 20000 in
set_option maxHeartbeats 4000000 in
theorem f_X10_doubtful_J87_at (fu : Nat) (σ : gSt) (k0 : Nat) (p1 : Int32) (ag20 : Int32 → Int32 → Int32 → Option (Int32)) {Γ : gX (Int32)} (h : gOk Γ cX10_doubtful 6 RX10 (some .int) 1 22) (z : gEnd Γ (gQp σ)) (hk0 : isO k0 10) (x3 : Int32) (x4 : Int32) (x5 : Int32) (s1 : Int32) (hg20 : ∀ (y2 : Int32) (y3 : Int32) (y4 : Int32), At Γ 20 [some (.ref (gAd Γ.1 k0)), some (.int p1), some (.int y2), some (.int y3), some (.int y4), none] [] σ (ag20 y2 y3 y4)) : At Γ 87 [some (.ref (gAd Γ.1 k0)), some (.int p1), none, some (.int x3), some (.int x4), some (.int x5)] [.int s1] σ (f_X10_doubtful_J87 fu σ k0 p1 ag20 x3 x4 x5 s1) := by
  unfold f_X10_doubtful_J87
  refine x_istore_n (pc := 87) (i := 2) (L' := [some (.ref (gAd Γ.1 k0)), some (.int p1), some (.int s1), some (.int x3), some (.int x4), some (.int x5)]) h dX10_doubtful_87 rfl (Nat.le_of_ble_eq_true rfl) rfl ?_
  refine x_iload (pc := 88) h dX10_doubtful_88 rfl ?_
  refine x_iload_n (pc := 90) (i := 3) h dX10_doubtful_90 rfl rfl ?_
  refine x_nm (e := (if x5 ≤ x3 then x3 else x5)) (pcJ := 100) (LJ := [some (.ref (gAd Γ.1 k0)), some (.int p1), some (.int s1), some (.int x3), some (.int x4), some (.int x5)]) (sJ := []) (fun w91 => ?_) (fun kj91 => ?_)
  · refine x_istore_n (pc := 100) (i := 3) (L' := [some (.ref (gAd Γ.1 k0)), some (.int p1), some (.int s1), some (.int w91), some (.int x4), some (.int x5)]) h dX10_doubtful_100 rfl (Nat.le_of_ble_eq_true rfl) rfl ?_
    refine x_iinc (pc := 101) (i := 4) (v := (x4 + 1)) (L' := [some (.ref (gAd Γ.1 k0)), some (.int p1), some (.int s1), some (.int w91), some (.int (x4 + 1)), some (.int x5)]) h dX10_doubtful_101 rfl rfl rfl ?_
    refine x_goto (pc := 104) (tgt := 20) h dX10_doubtful_104 (by decide) ?_
    exact At.mask [true, true, true, true, true, false] rfl rfl (hg20 s1 w91 (x4 + 1))
  · refine j_icmp_le (pc := 91) (tgt := 99) h dX10_doubtful_91 (by decide) (fun hc91_0 => ?_) (fun hc91_0 => ?_)
    · refine x_iload_n (pc := 99) (i := 3) h dX10_doubtful_99 rfl rfl ?_
      exact kj91 x3 (by rw [if_pos hc91_0])
    · refine x_iload (pc := 94) h dX10_doubtful_94 rfl ?_
      refine x_goto (pc := 96) (tgt := 100) h dX10_doubtful_96 (by decide) ?_
      exact kj91 x5 (by rw [if_neg hc91_0])

set_option maxRecDepth 20000 in
set_option maxHeartbeats 4000000 in
theorem f_X10_doubtful_J73_at (fu : Nat) (σ : gSt) (k0 : Nat) (p1 : Int32) (ag20 : Int32 → Int32 → Int32 → Option (Int32)) {Γ : gX (Int32)} (h : gOk Γ cX10_doubtful 6 RX10 (some .int) 1 22) (z : gEnd Γ (gQp σ)) (hk0 : isO k0 10) (x2 : Int32) (x3 : Int32) (x4 : Int32) (s1 : Int32) (hg20 : ∀ (y2 : Int32) (y3 : Int32) (y4 : Int32), At Γ 20 [some (.ref (gAd Γ.1 k0)), some (.int p1), some (.int y2), some (.int y3), some (.int y4), none] [] σ (ag20 y2 y3 y4)) : At Γ 73 [some (.ref (gAd Γ.1 k0)), some (.int p1), some (.int x2), some (.int x3), some (.int x4), none] [.int s1] σ (f_X10_doubtful_J73 fu σ k0 p1 ag20 x2 x3 x4 s1) := by
  unfold f_X10_doubtful_J73
  refine x_istore (pc := 73) (L' := [some (.ref (gAd Γ.1 k0)), some (.int p1), some (.int x2), some (.int x3), some (.int x4), some (.int s1)]) h dX10_doubtful_73 (Nat.le_of_ble_eq_true rfl) rfl ?_
  refine x_iload (pc := 75) h dX10_doubtful_75 rfl ?_
  refine x_iload_n (pc := 77) (i := 3) h dX10_doubtful_77 rfl rfl ?_
  refine x_nm (e := (if s1 ≤ x3 then x2 else x4)) (pcJ := 87) (LJ := [some (.ref (gAd Γ.1 k0)), some (.int p1), some (.int x2), some (.int x3), some (.int x4), some (.int s1)]) (sJ := []) (fun w78 => ?_) (fun kj78 => ?_)
  · exact At.mask [true, true, false, true, true, true] rfl rfl (f_X10_doubtful_J87_at fu σ k0 p1 ag20 h z hk0 x3 x4 s1 w78 hg20)
  · refine j_icmp_le (pc := 78) (tgt := 86) h dX10_doubtful_78 (by decide) (fun hc78_0 => ?_) (fun hc78_0 => ?_)
    · refine x_iload_n (pc := 86) (i := 2) h dX10_doubtful_86 rfl rfl ?_
      exact kj78 x2 (by rw [if_pos hc78_0])
    · refine x_iload (pc := 81) h dX10_doubtful_81 rfl ?_
      refine x_goto (pc := 83) (tgt := 87) h dX10_doubtful_83 (by decide) ?_
      exact kj78 x4 (by rw [if_neg hc78_0])

set_option maxRecDepth 20000 in
set_option maxHeartbeats 4000000 in
theorem f_X10_doubtful_L20_at (fu : Nat) (σ : gSt) (k0 : Nat) (p1 : Int32) (ag20 : Int32 → Int32 → Int32 → Option (Int32)) {Γ : gX (Int32)} (h : gOk Γ cX10_doubtful 6 RX10 (some .int) 1 22) (z : gEnd Γ (gQp σ)) (hk0 : isO k0 10) (hg20 : ∀ (y2 : Int32) (y3 : Int32) (y4 : Int32), At Γ 20 [some (.ref (gAd Γ.1 k0)), some (.int p1), some (.int y2), some (.int y3), some (.int y4), none] [] σ (ag20 y2 y3 y4)) (x2 : Int32) (x3 : Int32) (x4 : Int32) : At Γ 20 [some (.ref (gAd Γ.1 k0)), some (.int p1), some (.int x2), some (.int x3), some (.int x4), none] [] σ (f_X10_doubtful_L20 fu σ k0 p1 ag20 x2 x3 x4) := by
  unfold f_X10_doubtful_L20
  refine x_iload (pc := 20) h dX10_doubtful_20 rfl ?_
  refine x_aload_n (pc := 22) (i := 0) h dX10_doubtful_22 rfl rfl ?_
  refine gf_X10_7 (pc := 23) h hk0 dX10_doubtful_23 ?_
  refine x_sipush (pc := 26) (v := 282) h dX10_doubtful_26 (by decide) ?_
  refine x_ialdS (pc := 29) h 282 (t_10_0 hk0) (by decide) (by decide) (by decide) dX10_doubtful_29 ?_
  refine x_icmp_ge (pc := 30) (tgt := 107) h dX10_doubtful_30 (by decide) ?_ ?_
  · refine x_iload_n (pc := 107) (i := 2) h dX10_doubtful_107 rfl rfl ?_
    refine x_if_lt (pc := 108) (tgt := 115) h dX10_doubtful_108 (by decide) ?_ ?_
    · refine x_iload_n (pc := 115) (i := 2) h dX10_doubtful_115 rfl rfl ?_
      refine x_goto (pc := 116) (tgt := 120) h dX10_doubtful_116 (by decide) ?_
      exact x_iretp (pc := 120) h z rfl .int rfl rfl dX10_doubtful_120
    · refine x_iload_n (pc := 111) (i := 1) h dX10_doubtful_111 rfl rfl ?_
      refine x_if_ne (pc := 112) (tgt := 119) h dX10_doubtful_112 (by decide) ?_ ?_
      · refine x_iload_n (pc := 119) (i := 3) h dX10_doubtful_119 rfl rfl ?_
        exact x_iretp (pc := 120) h z rfl .int rfl rfl dX10_doubtful_120
      · refine x_iload_n (pc := 115) (i := 2) h dX10_doubtful_115 rfl rfl ?_
        refine x_goto (pc := 116) (tgt := 120) h dX10_doubtful_116 (by decide) ?_
        exact x_iretp (pc := 120) h z rfl .int rfl rfl dX10_doubtful_120
  · refine x_aload_n (pc := 33) (i := 0) h dX10_doubtful_33 rfl rfl ?_
    refine x_iload (pc := 34) h dX10_doubtful_34 rfl ?_
    refine x_iconst (pc := 36) (v := 3) h dX10_doubtful_36 (by decide) ?_
    refine x_Vp (pc := 37) (av := fun ad => [.int x4, .int 3]) (rest := []) h m_X10_of i_X10_of kl_X10_47 hk0 (by decide) rfl (c_X10_of fu σ k0 x4 3 hk0) rfl rfl (gCaM rfl) dX10_doubtful_37 (fun v37 => ?_)
    refine x_if_ge (pc := 40) (tgt := 47) h dX10_doubtful_40 (by decide) ?_ ?_
    · refine x_aload_n (pc := 47) (i := 0) h dX10_doubtful_47 rfl rfl ?_
      refine gf_X10_7 (pc := 48) h hk0 dX10_doubtful_48 ?_
      refine x_sipush (pc := 51) (v := 276) h dX10_doubtful_51 (by decide) ?_
      refine x_aload_n (pc := 54) (i := 0) h dX10_doubtful_54 rfl rfl ?_
      refine x_iload (pc := 55) h dX10_doubtful_55 rfl ?_
      refine x_iconst (pc := 57) (v := 3) h dX10_doubtful_57 (by decide) ?_
      refine x_Vp (pc := 58) (av := fun ad => [.int x4, .int 3]) (rest := [.int 276, .ref (gAd Γ.1 (k0 + 1))]) h m_X10_of i_X10_of kl_X10_47 hk0 (by decide) rfl (c_X10_of fu σ k0 x4 3 hk0) rfl rfl (gCaM rfl) dX10_doubtful_58 (fun v58 => ?_)
      refine x_iadd (pc := 61) h dX10_doubtful_61 ?_
      refine x_iald (pc := 62) h (t_10_0 hk0) dX10_doubtful_62 (fun v62 => ?_)
      refine x_aload_n (pc := 63) (i := 0) h dX10_doubtful_63 rfl rfl ?_
      refine x_iload (pc := 64) h dX10_doubtful_64 rfl ?_
      refine x_iconst (pc := 66) (v := 2) h dX10_doubtful_66 (by decide) ?_
      refine x_Vp (pc := 67) (av := fun ad => [.int x4, .int 2]) (rest := [.int v62]) h m_X10_of i_X10_of kl_X10_47 hk0 (by decide) rfl (c_X10_of fu σ k0 x4 2 hk0) rfl rfl (gCaM rfl) dX10_doubtful_67 (fun v67 => ?_)
      refine x_Sp (pc := 70) (av := fun ad => [.int v62, .int v67]) (rest := []) h m_X10_far s_X10_far kl_X10_43 (c_X10_far fu σ v62 v67) rfl rfl (gCaM rfl) dX10_doubtful_70 (fun v70 => ?_)
      exact At.mask [true, true, true, true, true, false] rfl rfl (f_X10_doubtful_J73_at fu σ k0 p1 ag20 h z hk0 x2 x3 x4 v70 hg20)
    · refine x_iconst (pc := 43) (v := (-1)) h dX10_doubtful_43 (by decide) ?_
      refine x_goto (pc := 44) (tgt := 73) h dX10_doubtful_44 (by decide) ?_
      exact At.mask [true, true, true, true, true, false] rfl rfl (f_X10_doubtful_J73_at fu σ k0 p1 ag20 h z hk0 x2 x3 x4 (-1) hg20)

theorem f_X10_doubtful_W20_at (fu : Nat) (σ : gSt) (k0 : Nat) (p1 : Int32) {Γ : gX (Int32)} (h : gOk Γ cX10_doubtful 6 RX10 (some .int) 1 22) (z : gEnd Γ (gQp σ)) (hk0 : isO k0 10) : ∀ (n : Nat) (x2 : Int32) (x3 : Int32) (x4 : Int32), At Γ 20 [some (.ref (gAd Γ.1 k0)), some (.int p1), some (.int x2), some (.int x3), some (.int x4), none] [] σ (f_X10_doubtful_W20 fu σ k0 p1 n x2 x3 x4) := by
  intro n
  induction n with
  | zero => intro x2 x3 x4 r hr; cases hr
  | succ n ih =>
    intro x2 x3 x4
    exact f_X10_doubtful_L20_at fu σ k0 p1 (f_X10_doubtful_W20 fu σ k0 p1 n) h z hk0 ih x2 x3 x4

set_option maxRecDepth 20000 in
set_option maxHeartbeats 4000000 in
theorem c_X10_doubtful (fu : Nat) (σ : gSt) (k0 : Nat) (p1 : Int32) (hk0 : isO k0 10) : gCt yX10_doubtful cX10_doubtful 6 (some .int) 1 22 (gQp σ) (fun ad => [.ref (ad k0), .int p1]) σ (f_X10_doubtful fu σ k0 p1) := by
  refine gCt_intro RX10 rfl (by decide +kernel) (fun ad v hv => by simp only [List.mem_cons, List.not_mem_nil, or_false] at hv; rcases hv with rfl | rfl <;> rfl) (fun ad => Nat.le_of_ble_eq_true rfl) (fun Γ h z => ?_)
  show At Γ 0 [some (.ref (gAd Γ.1 k0)), some (.int p1), none, none, none, none] [] σ _
  unfold f_X10_doubtful
  refine x_iload_n (pc := 0) (i := 1) h dX10_doubtful_0 rfl rfl ?_
  refine x_iconst (pc := 1) (v := 0) h dX10_doubtful_1 (by decide) ?_
  refine x_iconst (pc := 2) (v := 1) h dX10_doubtful_2 (by decide) ?_
  refine x_Sp (pc := 3) (av := fun ad => [.int p1, .int 0, .int 1]) (rest := []) h m_X10_in s_X10_in kl_X10_39 (c_X10_in fu σ p1 0 1) rfl rfl (gCaM rfl) dX10_doubtful_3 (fun v3 => ?_)
  refine x_if_ne (pc := 6) (tgt := 12) h dX10_doubtful_6 (by decide) ?_ ?_
  · refine x_ldc (pc := 12) h kc_X10_110 dX10_doubtful_12 ?_
    refine x_istore_n (pc := 14) (i := 2) (L' := [some (.ref (gAd Γ.1 k0)), some (.int p1), some (.int (-1000004)), none, none, none]) h dX10_doubtful_14 rfl (Nat.le_of_ble_eq_true rfl) rfl ?_
    refine x_iconst (pc := 15) (v := (-1)) h dX10_doubtful_15 (by decide) ?_
    refine x_istore_n (pc := 16) (i := 3) (L' := [some (.ref (gAd Γ.1 k0)), some (.int p1), some (.int (-1000004)), some (.int (-1)), none, none]) h dX10_doubtful_16 rfl (Nat.le_of_ble_eq_true rfl) rfl ?_
    refine x_iconst (pc := 17) (v := 0) h dX10_doubtful_17 (by decide) ?_
    refine x_istore (pc := 18) (L' := [some (.ref (gAd Γ.1 k0)), some (.int p1), some (.int (-1000004)), some (.int (-1)), some (.int 0), none]) h dX10_doubtful_18 (Nat.le_of_ble_eq_true rfl) rfl ?_
    exact At.mask [true, true, true, true, true, false] rfl rfl (f_X10_doubtful_W20_at fu σ k0 p1 h z hk0 fu (-1000004) (-1) 0)
  · refine x_ldc (pc := 9) h kc_X10_50 dX10_doubtful_9 ?_
    exact x_iretp (pc := 11) h z rfl .int rfl rfl dX10_doubtful_11

set_option maxRecDepth 20000 in
set_option maxHeartbeats 4000000 in
theorem c_X1_size (fu : Nat) (σ : gSt) (k0 : Nat) (hk0 : isO k0 1) : gCt yX1_size cX1_size 1 (some .int) 0 0 (gQp σ) (fun ad => [.ref (ad k0)]) σ (f_X1_size fu σ k0) := by
  refine gCt_intro RX1 rfl (by decide +kernel) (fun ad v hv => by simp only [List.mem_cons, List.not_mem_nil, or_false] at hv; rcases hv with rfl <;> rfl) (fun ad => Nat.le_of_ble_eq_true rfl) (fun Γ h z => ?_)
  show At Γ 0 [some (.ref (gAd Γ.1 k0))] [] σ _
  unfold f_X1_size
  refine x_aload_n (pc := 0) (i := 0) h dX1_size_0 rfl rfl ?_
  refine gf_X1_18 (pc := 1) h hk0 dX1_size_1 ?_
  exact x_iretp (pc := 4) h z rfl .int rfl rfl dX1_size_4

set_option maxRecDepth 20000 in
set_option maxHeartbeats 4000000 in
theorem c_X6_length (fu : Nat) (σ : gSt) (k0 : Nat) (hk0 : isO k0 6) : gCt yX6_length cX6_length 1 (some .int) 0 0 (gQp σ) (fun ad => [.ref (ad k0)]) σ (f_X6_length fu σ k0) := by
  refine gCt_intro RX6 rfl (by decide +kernel) (fun ad v hv => by simp only [List.mem_cons, List.not_mem_nil, or_false] at hv; rcases hv with rfl <;> rfl) (fun ad => Nat.le_of_ble_eq_true rfl) (fun Γ h z => ?_)
  show At Γ 0 [some (.ref (gAd Γ.1 k0))] [] σ _
  unfold f_X6_length
  refine x_aload_n (pc := 0) (i := 0) h dX6_length_0 rfl rfl ?_
  refine gf_X6_15 (pc := 1) h hk0 dX6_length_1 ?_
  exact x_iretp (pc := 4) h z rfl .int rfl rfl dX6_length_4

set_option maxRecDepth 20000 in
set_option maxHeartbeats 4000000 in
theorem f_X4_asSet_L4_at (fu : Nat) (σ : gSt) (k0 : Nat) (ag4 : Int32 → Int32 → Option (Int32)) {Γ : gX (Int32)} (h : gOk Γ cX4_asSet 3 RX4 (some .int) 1 21) (z : gEnd Γ (gQp σ)) (hk0 : isO k0 4) (hg4 : ∀ (y1 : Int32) (y2 : Int32), At Γ 4 [some (.ref (gAd Γ.1 k0)), some (.int y1), some (.int y2)] [] σ (ag4 y1 y2)) (x1 : Int32) (x2 : Int32) : At Γ 4 [some (.ref (gAd Γ.1 k0)), some (.int x1), some (.int x2)] [] σ (f_X4_asSet_L4 fu σ k0 ag4 x1 x2) := by
  unfold f_X4_asSet_L4
  refine x_iload_n (pc := 4) (i := 2) h dX4_asSet_4 rfl rfl ?_
  refine x_bipush (pc := 5) (v := 6) h dX4_asSet_5 (by decide) ?_
  refine x_icmp_ge (pc := 7) (tgt := 30) h dX4_asSet_7 (by decide) ?_ ?_
  · refine x_iload_n (pc := 30) (i := 1) h dX4_asSet_30 rfl rfl ?_
    exact x_iretp (pc := 31) h z rfl .int rfl rfl dX4_asSet_31
  · refine x_aload_n (pc := 10) (i := 0) h dX4_asSet_10 rfl rfl ?_
    refine x_iload_n (pc := 11) (i := 2) h dX4_asSet_11 rfl rfl ?_
    refine x_Vp (pc := 12) (av := fun ad => [.int x2]) (rest := []) h m_X4_has i_X4_has kl_X4_21 hk0 (by decide) rfl (c_X4_has fu σ k0 x2 hk0) rfl rfl (gCaM rfl) dX4_asSet_12 (fun v12 => ?_)
    refine x_if_eq (pc := 15) (tgt := 24) h dX4_asSet_15 (by decide) ?_ ?_
    · refine x_iinc (pc := 24) (i := 2) (v := (x2 + 1)) (L' := [some (.ref (gAd Γ.1 k0)), some (.int x1), some (.int (x2 + 1))]) h dX4_asSet_24 rfl rfl rfl ?_
      refine x_goto (pc := 27) (tgt := 4) h dX4_asSet_27 (by decide) ?_
      exact At.mask [true, true, true] rfl rfl (hg4 x1 (x2 + 1))
    · refine x_iload_n (pc := 18) (i := 1) h dX4_asSet_18 rfl rfl ?_
      refine x_iconst (pc := 19) (v := 1) h dX4_asSet_19 (by decide) ?_
      refine x_iload_n (pc := 20) (i := 2) h dX4_asSet_20 rfl rfl ?_
      refine x_ishl (pc := 21) h dX4_asSet_21 ?_
      refine x_ior (pc := 22) h dX4_asSet_22 ?_
      refine x_lt (fun y23 => ?_)
      refine x_istore_n (pc := 23) (i := 1) (L' := [some (.ref (gAd Γ.1 k0)), some (.int y23), some (.int x2)]) h dX4_asSet_23 rfl (Nat.le_of_ble_eq_true rfl) rfl ?_
      refine x_iinc (pc := 24) (i := 2) (v := (x2 + 1)) (L' := [some (.ref (gAd Γ.1 k0)), some (.int y23), some (.int (x2 + 1))]) h dX4_asSet_24 rfl rfl rfl ?_
      refine x_goto (pc := 27) (tgt := 4) h dX4_asSet_27 (by decide) ?_
      exact At.mask [true, true, true] rfl rfl (hg4 y23 (x2 + 1))

theorem f_X4_asSet_W4_at (fu : Nat) (σ : gSt) (k0 : Nat) {Γ : gX (Int32)} (h : gOk Γ cX4_asSet 3 RX4 (some .int) 1 21) (z : gEnd Γ (gQp σ)) (hk0 : isO k0 4) : ∀ (n : Nat) (x1 : Int32) (x2 : Int32), At Γ 4 [some (.ref (gAd Γ.1 k0)), some (.int x1), some (.int x2)] [] σ (f_X4_asSet_W4 fu σ k0 n x1 x2) := by
  intro n
  induction n with
  | zero => intro x1 x2 r hr; cases hr
  | succ n ih =>
    intro x1 x2
    exact f_X4_asSet_L4_at fu σ k0 (f_X4_asSet_W4 fu σ k0 n) h z hk0 ih x1 x2

set_option maxRecDepth 20000 in
set_option maxHeartbeats 4000000 in
theorem c_X4_asSet (fu : Nat) (σ : gSt) (k0 : Nat) (hk0 : isO k0 4) : gCt yX4_asSet cX4_asSet 3 (some .int) 1 21 (gQp σ) (fun ad => [.ref (ad k0)]) σ (f_X4_asSet fu σ k0) := by
  refine gCt_intro RX4 rfl (by decide +kernel) (fun ad v hv => by simp only [List.mem_cons, List.not_mem_nil, or_false] at hv; rcases hv with rfl <;> rfl) (fun ad => Nat.le_of_ble_eq_true rfl) (fun Γ h z => ?_)
  show At Γ 0 [some (.ref (gAd Γ.1 k0)), none, none] [] σ _
  unfold f_X4_asSet
  refine x_iconst (pc := 0) (v := 0) h dX4_asSet_0 (by decide) ?_
  refine x_istore_n (pc := 1) (i := 1) (L' := [some (.ref (gAd Γ.1 k0)), some (.int 0), none]) h dX4_asSet_1 rfl (Nat.le_of_ble_eq_true rfl) rfl ?_
  refine x_iconst (pc := 2) (v := 0) h dX4_asSet_2 (by decide) ?_
  refine x_istore_n (pc := 3) (i := 2) (L' := [some (.ref (gAd Γ.1 k0)), some (.int 0), some (.int 0)]) h dX4_asSet_3 rfl (Nat.le_of_ble_eq_true rfl) rfl ?_
  exact At.mask [true, true, true] rfl rfl (f_X4_asSet_W4_at fu σ k0 h z hk0 fu 0 0)

set_option maxRecDepth 20000 in
set_option maxHeartbeats 4000000 in
theorem f_X8_placesInAll_L4_at (fu : Nat) (σ : gSt) (k0 : Nat) (ag4 : Int32 → Int32 → Option (Int32)) {Γ : gX (Int32)} (h : gOk Γ cX8_placesInAll 3 RX8 (some .int) 2 42) (z : gEnd Γ (gQp σ)) (hk0 : isO k0 8) (hg4 : ∀ (y1 : Int32) (y2 : Int32), At Γ 4 [some (.ref (gAd Γ.1 k0)), some (.int y1), some (.int y2)] [] σ (ag4 y1 y2)) (x1 : Int32) (x2 : Int32) : At Γ 4 [some (.ref (gAd Γ.1 k0)), some (.int x1), some (.int x2)] [] σ (f_X8_placesInAll_L4 fu σ k0 ag4 x1 x2) := by
  unfold f_X8_placesInAll_L4
  refine x_iload_n (pc := 4) (i := 2) h dX8_placesInAll_4 rfl rfl ?_
  refine x_aload_n (pc := 5) (i := 0) h dX8_placesInAll_5 rfl rfl ?_
  refine gf_X8_36 (pc := 6) h hk0 dX8_placesInAll_6 ?_
  refine x_icmp_ge (pc := 9) (tgt := 26) h dX8_placesInAll_9 (by decide) ?_ ?_
  · refine x_iload_n (pc := 26) (i := 1) h dX8_placesInAll_26 rfl rfl ?_
    exact x_iretp (pc := 27) h z rfl .int rfl rfl dX8_placesInAll_27
  · refine x_iload_n (pc := 12) (i := 1) h dX8_placesInAll_12 rfl rfl ?_
    refine x_aload_n (pc := 13) (i := 0) h dX8_placesInAll_13 rfl rfl ?_
    refine x_iload_n (pc := 14) (i := 2) h dX8_placesInAll_14 rfl rfl ?_
    refine x_Vp (pc := 15) (av := fun ad => [.int x2]) (rest := [.int x1]) h m_X8_termCountOf i_X8_termCountOf kl_X8_56 hk0 (by decide) rfl (c_X8_termCountOf fu σ k0 x2 hk0) rfl rfl (gCaM rfl) dX8_placesInAll_15 (fun v15 => ?_)
    refine x_iadd (pc := 18) h dX8_placesInAll_18 ?_
    refine x_istore_n (pc := 19) (i := 1) (L' := [some (.ref (gAd Γ.1 k0)), some (.int (x1 + v15)), some (.int x2)]) h dX8_placesInAll_19 rfl (Nat.le_of_ble_eq_true rfl) rfl ?_
    refine x_iinc (pc := 20) (i := 2) (v := (x2 + 1)) (L' := [some (.ref (gAd Γ.1 k0)), some (.int (x1 + v15)), some (.int (x2 + 1))]) h dX8_placesInAll_20 rfl rfl rfl ?_
    refine x_goto (pc := 23) (tgt := 4) h dX8_placesInAll_23 (by decide) ?_
    exact At.mask [true, true, true] rfl rfl (hg4 (x1 + v15) (x2 + 1))

theorem f_X8_placesInAll_W4_at (fu : Nat) (σ : gSt) (k0 : Nat) {Γ : gX (Int32)} (h : gOk Γ cX8_placesInAll 3 RX8 (some .int) 2 42) (z : gEnd Γ (gQp σ)) (hk0 : isO k0 8) : ∀ (n : Nat) (x1 : Int32) (x2 : Int32), At Γ 4 [some (.ref (gAd Γ.1 k0)), some (.int x1), some (.int x2)] [] σ (f_X8_placesInAll_W4 fu σ k0 n x1 x2) := by
  intro n
  induction n with
  | zero => intro x1 x2 r hr; cases hr
  | succ n ih =>
    intro x1 x2
    exact f_X8_placesInAll_L4_at fu σ k0 (f_X8_placesInAll_W4 fu σ k0 n) h z hk0 ih x1 x2

set_option maxRecDepth 20000 in
set_option maxHeartbeats 4000000 in
theorem c_X8_placesInAll (fu : Nat) (σ : gSt) (k0 : Nat) (hk0 : isO k0 8) : gCt yX8_placesInAll cX8_placesInAll 3 (some .int) 2 42 (gQp σ) (fun ad => [.ref (ad k0)]) σ (f_X8_placesInAll fu σ k0) := by
  refine gCt_intro RX8 rfl (by decide +kernel) (fun ad v hv => by simp only [List.mem_cons, List.not_mem_nil, or_false] at hv; rcases hv with rfl <;> rfl) (fun ad => Nat.le_of_ble_eq_true rfl) (fun Γ h z => ?_)
  show At Γ 0 [some (.ref (gAd Γ.1 k0)), none, none] [] σ _
  unfold f_X8_placesInAll
  refine x_iconst (pc := 0) (v := 0) h dX8_placesInAll_0 (by decide) ?_
  refine x_istore_n (pc := 1) (i := 1) (L' := [some (.ref (gAd Γ.1 k0)), some (.int 0), none]) h dX8_placesInAll_1 rfl (Nat.le_of_ble_eq_true rfl) rfl ?_
  refine x_iconst (pc := 2) (v := 0) h dX8_placesInAll_2 (by decide) ?_
  refine x_istore_n (pc := 3) (i := 2) (L' := [some (.ref (gAd Γ.1 k0)), some (.int 0), some (.int 0)]) h dX8_placesInAll_3 rfl (Nat.le_of_ble_eq_true rfl) rfl ?_
  exact At.mask [true, true, true] rfl rfl (f_X8_placesInAll_W4_at fu σ k0 h z hk0 fu 0 0)

set_option maxRecDepth 20000 in
set_option maxHeartbeats 4000000 in
theorem f_X0_size_L4_at (fu : Nat) (σ : gSt) (k0 : Nat) (ag4 : Int32 → Int32 → Option (Int32)) {Γ : gX (Int32)} (h : gOk Γ cX0_size 3 RX0 (some .int) 1 21) (z : gEnd Γ (gQp σ)) (hk0 : isO k0 0) (hg4 : ∀ (y1 : Int32) (y2 : Int32), At Γ 4 [some (.ref (gAd Γ.1 k0)), some (.int y1), some (.int y2)] [] σ (ag4 y1 y2)) (x1 : Int32) (x2 : Int32) : At Γ 4 [some (.ref (gAd Γ.1 k0)), some (.int x1), some (.int x2)] [] σ (f_X0_size_L4 fu σ k0 ag4 x1 x2) := by
  unfold f_X0_size_L4
  refine x_iload_n (pc := 4) (i := 2) h dX0_size_4 rfl rfl ?_
  refine x_bipush (pc := 5) (v := 16) h dX0_size_5 (by decide) ?_
  refine x_icmp_ge (pc := 7) (tgt := 27) h dX0_size_7 (by decide) ?_ ?_
  · refine x_iload_n (pc := 27) (i := 1) h dX0_size_27 rfl rfl ?_
    exact x_iretp (pc := 28) h z rfl .int rfl rfl dX0_size_28
  · refine x_aload_n (pc := 10) (i := 0) h dX0_size_10 rfl rfl ?_
    refine x_iload_n (pc := 11) (i := 2) h dX0_size_11 rfl rfl ?_
    refine x_Vp (pc := 12) (av := fun ad => [.int x2]) (rest := []) h m_X0_isCorrected i_X0_isCorrected kl_X0_31 hk0 (by decide) rfl (c_X0_isCorrected fu σ k0 x2 hk0) rfl rfl (gCaM rfl) dX0_size_12 (fun v12 => ?_)
    refine x_if_eq (pc := 15) (tgt := 21) h dX0_size_15 (by decide) ?_ ?_
    · refine x_iinc (pc := 21) (i := 2) (v := (x2 + 1)) (L' := [some (.ref (gAd Γ.1 k0)), some (.int x1), some (.int (x2 + 1))]) h dX0_size_21 rfl rfl rfl ?_
      refine x_goto (pc := 24) (tgt := 4) h dX0_size_24 (by decide) ?_
      exact At.mask [true, true, true] rfl rfl (hg4 x1 (x2 + 1))
    · refine x_iinc (pc := 18) (i := 1) (v := (x1 + 1)) (L' := [some (.ref (gAd Γ.1 k0)), some (.int (x1 + 1)), some (.int x2)]) h dX0_size_18 rfl rfl rfl ?_
      refine x_iinc (pc := 21) (i := 2) (v := (x2 + 1)) (L' := [some (.ref (gAd Γ.1 k0)), some (.int (x1 + 1)), some (.int (x2 + 1))]) h dX0_size_21 rfl rfl rfl ?_
      refine x_goto (pc := 24) (tgt := 4) h dX0_size_24 (by decide) ?_
      exact At.mask [true, true, true] rfl rfl (hg4 (x1 + 1) (x2 + 1))

theorem f_X0_size_W4_at (fu : Nat) (σ : gSt) (k0 : Nat) {Γ : gX (Int32)} (h : gOk Γ cX0_size 3 RX0 (some .int) 1 21) (z : gEnd Γ (gQp σ)) (hk0 : isO k0 0) : ∀ (n : Nat) (x1 : Int32) (x2 : Int32), At Γ 4 [some (.ref (gAd Γ.1 k0)), some (.int x1), some (.int x2)] [] σ (f_X0_size_W4 fu σ k0 n x1 x2) := by
  intro n
  induction n with
  | zero => intro x1 x2 r hr; cases hr
  | succ n ih =>
    intro x1 x2
    exact f_X0_size_L4_at fu σ k0 (f_X0_size_W4 fu σ k0 n) h z hk0 ih x1 x2

set_option maxRecDepth 20000 in
set_option maxHeartbeats 4000000 in
theorem c_X0_size (fu : Nat) (σ : gSt) (k0 : Nat) (hk0 : isO k0 0) : gCt yX0_size cX0_size 3 (some .int) 1 21 (gQp σ) (fun ad => [.ref (ad k0)]) σ (f_X0_size fu σ k0) := by
  refine gCt_intro RX0 rfl (by decide +kernel) (fun ad v hv => by simp only [List.mem_cons, List.not_mem_nil, or_false] at hv; rcases hv with rfl <;> rfl) (fun ad => Nat.le_of_ble_eq_true rfl) (fun Γ h z => ?_)
  show At Γ 0 [some (.ref (gAd Γ.1 k0)), none, none] [] σ _
  unfold f_X0_size
  refine x_iconst (pc := 0) (v := 0) h dX0_size_0 (by decide) ?_
  refine x_istore_n (pc := 1) (i := 1) (L' := [some (.ref (gAd Γ.1 k0)), some (.int 0), none]) h dX0_size_1 rfl (Nat.le_of_ble_eq_true rfl) rfl ?_
  refine x_iconst (pc := 2) (v := 0) h dX0_size_2 (by decide) ?_
  refine x_istore_n (pc := 3) (i := 2) (L' := [some (.ref (gAd Γ.1 k0)), some (.int 0), some (.int 0)]) h dX0_size_3 rfl (Nat.le_of_ble_eq_true rfl) rfl ?_
  exact At.mask [true, true, true] rfl rfl (f_X0_size_W4_at fu σ k0 h z hk0 fu 0 0)

set_option maxRecDepth 20000 in
set_option maxHeartbeats 4000000 in
theorem f_X8_overlappingPairs_L14_at (fu : Nat) (σ : gSt) (k0 : Nat) (ag4 : Int32 → Int32 → Option (Int32)) (x2 : Int32) (ag14 : Int32 → Int32 → Option (Int32)) {Γ : gX (Int32)} (h : gOk Γ cX8_overlappingPairs 4 RX8 (some .int) 3 64) (z : gEnd Γ (gQp σ)) (hk0 : isO k0 8) (hg4 : ∀ (y1 : Int32) (y2 : Int32), At Γ 4 [some (.ref (gAd Γ.1 k0)), some (.int y1), some (.int y2), none] [] σ (ag4 y1 y2)) (hg14 : ∀ (y1 : Int32) (y3 : Int32), At Γ 14 [some (.ref (gAd Γ.1 k0)), some (.int y1), some (.int x2), some (.int y3)] [] σ (ag14 y1 y3)) (x1 : Int32) (x3 : Int32) : At Γ 14 [some (.ref (gAd Γ.1 k0)), some (.int x1), some (.int x2), some (.int x3)] [] σ (f_X8_overlappingPairs_L14 fu σ k0 ag4 x2 ag14 x1 x3) := by
  unfold f_X8_overlappingPairs_L14
  refine x_iload_n (pc := 14) (i := 3) h dX8_overlappingPairs_14 rfl rfl ?_
  refine x_iload_n (pc := 15) (i := 2) h dX8_overlappingPairs_15 rfl rfl ?_
  refine x_icmp_ge (pc := 16) (tgt := 37) h dX8_overlappingPairs_16 (by decide) ?_ ?_
  · refine x_iinc (pc := 37) (i := 2) (v := (x2 + 1)) (L' := [some (.ref (gAd Γ.1 k0)), some (.int x1), some (.int (x2 + 1)), some (.int x3)]) h dX8_overlappingPairs_37 rfl rfl rfl ?_
    refine x_goto (pc := 40) (tgt := 4) h dX8_overlappingPairs_40 (by decide) ?_
    exact At.mask [true, true, true, false] rfl rfl (hg4 x1 (x2 + 1))
  · refine x_aload_n (pc := 19) (i := 0) h dX8_overlappingPairs_19 rfl rfl ?_
    refine x_iload_n (pc := 20) (i := 2) h dX8_overlappingPairs_20 rfl rfl ?_
    refine x_iload_n (pc := 21) (i := 3) h dX8_overlappingPairs_21 rfl rfl ?_
    refine x_Vp (pc := 22) (av := fun ad => [.int x2, .int x3]) (rest := []) h m_X8_overlap i_X8_overlap kl_X8_86 hk0 (by decide) rfl (c_X8_overlap fu σ k0 x2 x3 hk0) rfl rfl (gCaM rfl) dX8_overlappingPairs_22 (fun v22 => ?_)
    refine x_if_eq (pc := 25) (tgt := 31) h dX8_overlappingPairs_25 (by decide) ?_ ?_
    · refine x_iinc (pc := 31) (i := 3) (v := (x3 + 1)) (L' := [some (.ref (gAd Γ.1 k0)), some (.int x1), some (.int x2), some (.int (x3 + 1))]) h dX8_overlappingPairs_31 rfl rfl rfl ?_
      refine x_goto (pc := 34) (tgt := 14) h dX8_overlappingPairs_34 (by decide) ?_
      exact At.mask [true, true, true, true] rfl rfl (hg14 x1 (x3 + 1))
    · refine x_iinc (pc := 28) (i := 1) (v := (x1 + 1)) (L' := [some (.ref (gAd Γ.1 k0)), some (.int (x1 + 1)), some (.int x2), some (.int x3)]) h dX8_overlappingPairs_28 rfl rfl rfl ?_
      refine x_iinc (pc := 31) (i := 3) (v := (x3 + 1)) (L' := [some (.ref (gAd Γ.1 k0)), some (.int (x1 + 1)), some (.int x2), some (.int (x3 + 1))]) h dX8_overlappingPairs_31 rfl rfl rfl ?_
      refine x_goto (pc := 34) (tgt := 14) h dX8_overlappingPairs_34 (by decide) ?_
      exact At.mask [true, true, true, true] rfl rfl (hg14 (x1 + 1) (x3 + 1))

theorem f_X8_overlappingPairs_W14_at (fu : Nat) (σ : gSt) (k0 : Nat) (ag4 : Int32 → Int32 → Option (Int32)) (x2 : Int32) {Γ : gX (Int32)} (h : gOk Γ cX8_overlappingPairs 4 RX8 (some .int) 3 64) (z : gEnd Γ (gQp σ)) (hk0 : isO k0 8) (hg4 : ∀ (y1 : Int32) (y2 : Int32), At Γ 4 [some (.ref (gAd Γ.1 k0)), some (.int y1), some (.int y2), none] [] σ (ag4 y1 y2)) : ∀ (n : Nat) (x1 : Int32) (x3 : Int32), At Γ 14 [some (.ref (gAd Γ.1 k0)), some (.int x1), some (.int x2), some (.int x3)] [] σ (f_X8_overlappingPairs_W14 fu σ k0 ag4 x2 n x1 x3) := by
  intro n
  induction n with
  | zero => intro x1 x3 r hr; cases hr
  | succ n ih =>
    intro x1 x3
    exact f_X8_overlappingPairs_L14_at fu σ k0 ag4 x2 (f_X8_overlappingPairs_W14 fu σ k0 ag4 x2 n) h z hk0 hg4 ih x1 x3

set_option maxRecDepth 20000 in
set_option maxHeartbeats 4000000 in
theorem f_X8_overlappingPairs_L4_at (fu : Nat) (σ : gSt) (k0 : Nat) (ag4 : Int32 → Int32 → Option (Int32)) {Γ : gX (Int32)} (h : gOk Γ cX8_overlappingPairs 4 RX8 (some .int) 3 64) (z : gEnd Γ (gQp σ)) (hk0 : isO k0 8) (hg4 : ∀ (y1 : Int32) (y2 : Int32), At Γ 4 [some (.ref (gAd Γ.1 k0)), some (.int y1), some (.int y2), none] [] σ (ag4 y1 y2)) (x1 : Int32) (x2 : Int32) : At Γ 4 [some (.ref (gAd Γ.1 k0)), some (.int x1), some (.int x2), none] [] σ (f_X8_overlappingPairs_L4 fu σ k0 ag4 x1 x2) := by
  unfold f_X8_overlappingPairs_L4
  refine x_iload_n (pc := 4) (i := 2) h dX8_overlappingPairs_4 rfl rfl ?_
  refine x_aload_n (pc := 5) (i := 0) h dX8_overlappingPairs_5 rfl rfl ?_
  refine gf_X8_36 (pc := 6) h hk0 dX8_overlappingPairs_6 ?_
  refine x_icmp_ge (pc := 9) (tgt := 43) h dX8_overlappingPairs_9 (by decide) ?_ ?_
  · refine x_iload_n (pc := 43) (i := 1) h dX8_overlappingPairs_43 rfl rfl ?_
    exact x_iretp (pc := 44) h z rfl .int rfl rfl dX8_overlappingPairs_44
  · refine x_iconst (pc := 12) (v := 0) h dX8_overlappingPairs_12 (by decide) ?_
    refine x_istore_n (pc := 13) (i := 3) (L' := [some (.ref (gAd Γ.1 k0)), some (.int x1), some (.int x2), some (.int 0)]) h dX8_overlappingPairs_13 rfl (Nat.le_of_ble_eq_true rfl) rfl ?_
    exact At.mask [true, true, true, true] rfl rfl (f_X8_overlappingPairs_W14_at fu σ k0 ag4 x2 h z hk0 hg4 fu x1 0)

theorem f_X8_overlappingPairs_W4_at (fu : Nat) (σ : gSt) (k0 : Nat) {Γ : gX (Int32)} (h : gOk Γ cX8_overlappingPairs 4 RX8 (some .int) 3 64) (z : gEnd Γ (gQp σ)) (hk0 : isO k0 8) : ∀ (n : Nat) (x1 : Int32) (x2 : Int32), At Γ 4 [some (.ref (gAd Γ.1 k0)), some (.int x1), some (.int x2), none] [] σ (f_X8_overlappingPairs_W4 fu σ k0 n x1 x2) := by
  intro n
  induction n with
  | zero => intro x1 x2 r hr; cases hr
  | succ n ih =>
    intro x1 x2
    exact f_X8_overlappingPairs_L4_at fu σ k0 (f_X8_overlappingPairs_W4 fu σ k0 n) h z hk0 ih x1 x2

set_option maxRecDepth 20000 in
set_option maxHeartbeats 4000000 in
theorem c_X8_overlappingPairs (fu : Nat) (σ : gSt) (k0 : Nat) (hk0 : isO k0 8) : gCt yX8_overlappingPairs cX8_overlappingPairs 4 (some .int) 3 64 (gQp σ) (fun ad => [.ref (ad k0)]) σ (f_X8_overlappingPairs fu σ k0) := by
  refine gCt_intro RX8 rfl (by decide +kernel) (fun ad v hv => by simp only [List.mem_cons, List.not_mem_nil, or_false] at hv; rcases hv with rfl <;> rfl) (fun ad => Nat.le_of_ble_eq_true rfl) (fun Γ h z => ?_)
  show At Γ 0 [some (.ref (gAd Γ.1 k0)), none, none, none] [] σ _
  unfold f_X8_overlappingPairs
  refine x_iconst (pc := 0) (v := 0) h dX8_overlappingPairs_0 (by decide) ?_
  refine x_istore_n (pc := 1) (i := 1) (L' := [some (.ref (gAd Γ.1 k0)), some (.int 0), none, none]) h dX8_overlappingPairs_1 rfl (Nat.le_of_ble_eq_true rfl) rfl ?_
  refine x_iconst (pc := 2) (v := 0) h dX8_overlappingPairs_2 (by decide) ?_
  refine x_istore_n (pc := 3) (i := 2) (L' := [some (.ref (gAd Γ.1 k0)), some (.int 0), some (.int 0), none]) h dX8_overlappingPairs_3 rfl (Nat.le_of_ble_eq_true rfl) rfl ?_
  exact At.mask [true, true, true, false] rfl rfl (f_X8_overlappingPairs_W4_at fu σ k0 h z hk0 fu 0 0)

set_option maxRecDepth 20000 in
set_option maxHeartbeats 4000000 in
theorem f_X8_secondsWithAny_L6_at (fu : Nat) (σ : gSt) (k0 : Nat) (ag6 : Int32 → Int32 → Int32 → Option (Int32)) {Γ : gX (Int32)} (h : gOk Γ cX8_secondsWithAny 4 RX8 (some .int) 2 42) (z : gEnd Γ (gQp σ)) (hk0 : isO k0 8) (hg6 : ∀ (y1 : Int32) (y2 : Int32) (y3 : Int32), At Γ 6 [some (.ref (gAd Γ.1 k0)), some (.int y1), some (.int y2), some (.int y3)] [] σ (ag6 y1 y2 y3)) (x1 : Int32) (x2 : Int32) (x3 : Int32) : At Γ 6 [some (.ref (gAd Γ.1 k0)), some (.int x1), some (.int x2), some (.int x3)] [] σ (f_X8_secondsWithAny_L6 fu σ k0 ag6 x1 x2 x3) := by
  unfold f_X8_secondsWithAny_L6
  refine x_iload_n (pc := 6) (i := 3) h dX8_secondsWithAny_6 rfl rfl ?_
  refine x_aload_n (pc := 7) (i := 0) h dX8_secondsWithAny_7 rfl rfl ?_
  refine gf_X8_36 (pc := 8) h hk0 dX8_secondsWithAny_8 ?_
  refine x_icmp_ge (pc := 11) (tgt := 52) h dX8_secondsWithAny_11 (by decide) ?_ ?_
  · refine x_iload_n (pc := 52) (i := 2) h dX8_secondsWithAny_52 rfl rfl ?_
    exact x_iretp (pc := 53) h z rfl .int rfl rfl dX8_secondsWithAny_53
  · refine x_iload_n (pc := 14) (i := 2) h dX8_secondsWithAny_14 rfl rfl ?_
    refine x_iconst (pc := 15) (v := 0) h dX8_secondsWithAny_15 (by decide) ?_
    refine x_aload_n (pc := 16) (i := 0) h dX8_secondsWithAny_16 rfl rfl ?_
    refine x_iload_n (pc := 17) (i := 3) h dX8_secondsWithAny_17 rfl rfl ?_
    refine x_Vp (pc := 18) (av := fun ad => [.int x3]) (rest := [.int 0, .int x2]) h m_X8_endOf i_X8_endOf kl_X8_80 hk0 (by decide) rfl (c_X8_endOf fu σ k0 x3 hk0) rfl rfl (gCaM rfl) dX8_secondsWithAny_18 (fun v18 => ?_)
    refine x_iload_n (pc := 21) (i := 1) h dX8_secondsWithAny_21 rfl rfl ?_
    refine x_aload_n (pc := 22) (i := 0) h dX8_secondsWithAny_22 rfl rfl ?_
    refine x_iload_n (pc := 23) (i := 3) h dX8_secondsWithAny_23 rfl rfl ?_
    refine x_Vp (pc := 24) (av := fun ad => [.int x3]) (rest := [.int x1, .int v18, .int 0, .int x2]) h m_X8_beginOf i_X8_beginOf kl_X8_77 hk0 (by decide) rfl (c_X8_beginOf fu σ k0 x3 hk0) rfl rfl (gCaM rfl) dX8_secondsWithAny_24 (fun v24 => ?_)
    refine x_Sp (pc := 27) (av := fun ad => [.int x1, .int v24]) (rest := [.int v18, .int 0, .int x2]) h m_J9_max_7cf53 s_J9_max_7cf53 kl_X8_101 (c_J9_max_7cf53 fu σ x1 v24) rfl rfl (gCaM rfl) dX8_secondsWithAny_27 (fun v27 => ?_)
    refine x_isub (pc := 30) h dX8_secondsWithAny_30 ?_
    refine x_Sp (pc := 31) (av := fun ad => [.int 0, .int (v18 - v27)]) (rest := [.int x2]) h m_J9_max_7cf53 s_J9_max_7cf53 kl_X8_101 (c_J9_max_7cf53 fu σ 0 (v18 - v27)) rfl rfl (gCaM rfl) dX8_secondsWithAny_31 (fun v31 => ?_)
    refine x_iadd (pc := 34) h dX8_secondsWithAny_34 ?_
    refine x_istore_n (pc := 35) (i := 2) (L' := [some (.ref (gAd Γ.1 k0)), some (.int x1), some (.int (x2 + v31)), some (.int x3)]) h dX8_secondsWithAny_35 rfl (Nat.le_of_ble_eq_true rfl) rfl ?_
    refine x_iload_n (pc := 36) (i := 1) h dX8_secondsWithAny_36 rfl rfl ?_
    refine x_aload_n (pc := 37) (i := 0) h dX8_secondsWithAny_37 rfl rfl ?_
    refine x_iload_n (pc := 38) (i := 3) h dX8_secondsWithAny_38 rfl rfl ?_
    refine x_Vp (pc := 39) (av := fun ad => [.int x3]) (rest := [.int x1]) h m_X8_endOf i_X8_endOf kl_X8_80 hk0 (by decide) rfl (c_X8_endOf fu σ k0 x3 hk0) rfl rfl (gCaM rfl) dX8_secondsWithAny_39 (fun v39 => ?_)
    refine x_Sp (pc := 42) (av := fun ad => [.int x1, .int v39]) (rest := []) h m_J9_max_7cf53 s_J9_max_7cf53 kl_X8_101 (c_J9_max_7cf53 fu σ x1 v39) rfl rfl (gCaM rfl) dX8_secondsWithAny_42 (fun v42 => ?_)
    refine x_istore_n (pc := 45) (i := 1) (L' := [some (.ref (gAd Γ.1 k0)), some (.int v42), some (.int (x2 + v31)), some (.int x3)]) h dX8_secondsWithAny_45 rfl (Nat.le_of_ble_eq_true rfl) rfl ?_
    refine x_iinc (pc := 46) (i := 3) (v := (x3 + 1)) (L' := [some (.ref (gAd Γ.1 k0)), some (.int v42), some (.int (x2 + v31)), some (.int (x3 + 1))]) h dX8_secondsWithAny_46 rfl rfl rfl ?_
    refine x_goto (pc := 49) (tgt := 6) h dX8_secondsWithAny_49 (by decide) ?_
    exact At.mask [true, true, true, true] rfl rfl (hg6 v42 (x2 + v31) (x3 + 1))

theorem f_X8_secondsWithAny_W6_at (fu : Nat) (σ : gSt) (k0 : Nat) {Γ : gX (Int32)} (h : gOk Γ cX8_secondsWithAny 4 RX8 (some .int) 2 42) (z : gEnd Γ (gQp σ)) (hk0 : isO k0 8) : ∀ (n : Nat) (x1 : Int32) (x2 : Int32) (x3 : Int32), At Γ 6 [some (.ref (gAd Γ.1 k0)), some (.int x1), some (.int x2), some (.int x3)] [] σ (f_X8_secondsWithAny_W6 fu σ k0 n x1 x2 x3) := by
  intro n
  induction n with
  | zero => intro x1 x2 x3 r hr; cases hr
  | succ n ih =>
    intro x1 x2 x3
    exact f_X8_secondsWithAny_L6_at fu σ k0 (f_X8_secondsWithAny_W6 fu σ k0 n) h z hk0 ih x1 x2 x3

set_option maxRecDepth 20000 in
set_option maxHeartbeats 4000000 in
theorem c_X8_secondsWithAny (fu : Nat) (σ : gSt) (k0 : Nat) (hk0 : isO k0 8) : gCt yX8_secondsWithAny cX8_secondsWithAny 4 (some .int) 2 42 (gQp σ) (fun ad => [.ref (ad k0)]) σ (f_X8_secondsWithAny fu σ k0) := by
  refine gCt_intro RX8 rfl (by decide +kernel) (fun ad v hv => by simp only [List.mem_cons, List.not_mem_nil, or_false] at hv; rcases hv with rfl <;> rfl) (fun ad => Nat.le_of_ble_eq_true rfl) (fun Γ h z => ?_)
  show At Γ 0 [some (.ref (gAd Γ.1 k0)), none, none, none] [] σ _
  unfold f_X8_secondsWithAny
  refine x_iconst (pc := 0) (v := 0) h dX8_secondsWithAny_0 (by decide) ?_
  refine x_istore_n (pc := 1) (i := 1) (L' := [some (.ref (gAd Γ.1 k0)), some (.int 0), none, none]) h dX8_secondsWithAny_1 rfl (Nat.le_of_ble_eq_true rfl) rfl ?_
  refine x_iconst (pc := 2) (v := 0) h dX8_secondsWithAny_2 (by decide) ?_
  refine x_istore_n (pc := 3) (i := 2) (L' := [some (.ref (gAd Γ.1 k0)), some (.int 0), some (.int 0), none]) h dX8_secondsWithAny_3 rfl (Nat.le_of_ble_eq_true rfl) rfl ?_
  refine x_iconst (pc := 4) (v := 0) h dX8_secondsWithAny_4 (by decide) ?_
  refine x_istore_n (pc := 5) (i := 3) (L' := [some (.ref (gAd Γ.1 k0)), some (.int 0), some (.int 0), some (.int 0)]) h dX8_secondsWithAny_5 rfl (Nat.le_of_ble_eq_true rfl) rfl ?_
  exact At.mask [true, true, true, true] rfl rfl (f_X8_secondsWithAny_W6_at fu σ k0 h z hk0 fu 0 0 0)

set_option maxRecDepth 20000 in
set_option maxHeartbeats 4000000 in
theorem f_X8_secondsWithSeveral_L9_at (fu : Nat) (σ : gSt) (k0 : Nat) (ag9 : Int32 → Int32 → Int32 → Int32 → Option (Int32)) {Γ : gX (Int32)} (h : gOk Γ cX8_secondsWithSeveral 6 RX8 (some .int) 2 42) (z : gEnd Γ (gQp σ)) (hk0 : isO k0 8) (hg9 : ∀ (y1 : Int32) (y2 : Int32) (y3 : Int32) (y4 : Int32), At Γ 9 [some (.ref (gAd Γ.1 k0)), some (.int y1), some (.int y2), some (.int y3), some (.int y4), none] [] σ (ag9 y1 y2 y3 y4)) (x1 : Int32) (x2 : Int32) (x3 : Int32) (x4 : Int32) : At Γ 9 [some (.ref (gAd Γ.1 k0)), some (.int x1), some (.int x2), some (.int x3), some (.int x4), none] [] σ (f_X8_secondsWithSeveral_L9 fu σ k0 ag9 x1 x2 x3 x4) := by
  unfold f_X8_secondsWithSeveral_L9
  refine x_iload (pc := 9) h dX8_secondsWithSeveral_9 rfl ?_
  refine x_aload_n (pc := 11) (i := 0) h dX8_secondsWithSeveral_11 rfl rfl ?_
  refine gf_X8_36 (pc := 12) h hk0 dX8_secondsWithSeveral_12 ?_
  refine x_icmp_ge (pc := 15) (tgt := 74) h dX8_secondsWithSeveral_15 (by decide) ?_ ?_
  · refine x_iload_n (pc := 74) (i := 3) h dX8_secondsWithSeveral_74 rfl rfl ?_
    exact x_iretp (pc := 75) h z rfl .int rfl rfl dX8_secondsWithSeveral_75
  · refine x_aload_n (pc := 18) (i := 0) h dX8_secondsWithSeveral_18 rfl rfl ?_
    refine x_iload (pc := 19) h dX8_secondsWithSeveral_19 rfl ?_
    refine x_Vp (pc := 21) (av := fun ad => [.int x4]) (rest := []) h m_X8_endOf i_X8_endOf kl_X8_80 hk0 (by decide) rfl (c_X8_endOf fu σ k0 x4 hk0) rfl rfl (gCaM rfl) dX8_secondsWithSeveral_21 (fun v21 => ?_)
    refine x_iload_n (pc := 24) (i := 1) h dX8_secondsWithSeveral_24 rfl rfl ?_
    refine x_Sp (pc := 25) (av := fun ad => [.int v21, .int x1]) (rest := []) h m_J9_min_7cf53 s_J9_min_7cf53 kl_X8_96 (c_J9_min_7cf53 fu σ v21 x1) rfl rfl (gCaM rfl) dX8_secondsWithSeveral_25 (fun v25 => ?_)
    refine x_istore (pc := 28) (L' := [some (.ref (gAd Γ.1 k0)), some (.int x1), some (.int x2), some (.int x3), some (.int x4), some (.int v25)]) h dX8_secondsWithSeveral_28 (Nat.le_of_ble_eq_true rfl) rfl ?_
    refine x_iload_n (pc := 30) (i := 3) h dX8_secondsWithSeveral_30 rfl rfl ?_
    refine x_iconst (pc := 31) (v := 0) h dX8_secondsWithSeveral_31 (by decide) ?_
    refine x_iload (pc := 32) h dX8_secondsWithSeveral_32 rfl ?_
    refine x_iload_n (pc := 34) (i := 2) h dX8_secondsWithSeveral_34 rfl rfl ?_
    refine x_aload_n (pc := 35) (i := 0) h dX8_secondsWithSeveral_35 rfl rfl ?_
    refine x_iload (pc := 36) h dX8_secondsWithSeveral_36 rfl ?_
    refine x_Vp (pc := 38) (av := fun ad => [.int x4]) (rest := [.int x2, .int v25, .int 0, .int x3]) h m_X8_beginOf i_X8_beginOf kl_X8_77 hk0 (by decide) rfl (c_X8_beginOf fu σ k0 x4 hk0) rfl rfl (gCaM rfl) dX8_secondsWithSeveral_38 (fun v38 => ?_)
    refine x_Sp (pc := 41) (av := fun ad => [.int x2, .int v38]) (rest := [.int v25, .int 0, .int x3]) h m_J9_max_7cf53 s_J9_max_7cf53 kl_X8_101 (c_J9_max_7cf53 fu σ x2 v38) rfl rfl (gCaM rfl) dX8_secondsWithSeveral_41 (fun v41 => ?_)
    refine x_isub (pc := 44) h dX8_secondsWithSeveral_44 ?_
    refine x_Sp (pc := 45) (av := fun ad => [.int 0, .int (v25 - v41)]) (rest := [.int x3]) h m_J9_max_7cf53 s_J9_max_7cf53 kl_X8_101 (c_J9_max_7cf53 fu σ 0 (v25 - v41)) rfl rfl (gCaM rfl) dX8_secondsWithSeveral_45 (fun v45 => ?_)
    refine x_iadd (pc := 48) h dX8_secondsWithSeveral_48 ?_
    refine x_istore_n (pc := 49) (i := 3) (L' := [some (.ref (gAd Γ.1 k0)), some (.int x1), some (.int x2), some (.int (x3 + v45)), some (.int x4), some (.int v25)]) h dX8_secondsWithSeveral_49 rfl (Nat.le_of_ble_eq_true rfl) rfl ?_
    refine x_iload_n (pc := 50) (i := 2) h dX8_secondsWithSeveral_50 rfl rfl ?_
    refine x_iload (pc := 51) h dX8_secondsWithSeveral_51 rfl ?_
    refine x_Sp (pc := 53) (av := fun ad => [.int x2, .int v25]) (rest := []) h m_J9_max_7cf53 s_J9_max_7cf53 kl_X8_101 (c_J9_max_7cf53 fu σ x2 v25) rfl rfl (gCaM rfl) dX8_secondsWithSeveral_53 (fun v53 => ?_)
    refine x_istore_n (pc := 56) (i := 2) (L' := [some (.ref (gAd Γ.1 k0)), some (.int x1), some (.int v53), some (.int (x3 + v45)), some (.int x4), some (.int v25)]) h dX8_secondsWithSeveral_56 rfl (Nat.le_of_ble_eq_true rfl) rfl ?_
    refine x_iload_n (pc := 57) (i := 1) h dX8_secondsWithSeveral_57 rfl rfl ?_
    refine x_aload_n (pc := 58) (i := 0) h dX8_secondsWithSeveral_58 rfl rfl ?_
    refine x_iload (pc := 59) h dX8_secondsWithSeveral_59 rfl ?_
    refine x_Vp (pc := 61) (av := fun ad => [.int x4]) (rest := [.int x1]) h m_X8_endOf i_X8_endOf kl_X8_80 hk0 (by decide) rfl (c_X8_endOf fu σ k0 x4 hk0) rfl rfl (gCaM rfl) dX8_secondsWithSeveral_61 (fun v61 => ?_)
    refine x_Sp (pc := 64) (av := fun ad => [.int x1, .int v61]) (rest := []) h m_J9_max_7cf53 s_J9_max_7cf53 kl_X8_101 (c_J9_max_7cf53 fu σ x1 v61) rfl rfl (gCaM rfl) dX8_secondsWithSeveral_64 (fun v64 => ?_)
    refine x_istore_n (pc := 67) (i := 1) (L' := [some (.ref (gAd Γ.1 k0)), some (.int v64), some (.int v53), some (.int (x3 + v45)), some (.int x4), some (.int v25)]) h dX8_secondsWithSeveral_67 rfl (Nat.le_of_ble_eq_true rfl) rfl ?_
    refine x_iinc (pc := 68) (i := 4) (v := (x4 + 1)) (L' := [some (.ref (gAd Γ.1 k0)), some (.int v64), some (.int v53), some (.int (x3 + v45)), some (.int (x4 + 1)), some (.int v25)]) h dX8_secondsWithSeveral_68 rfl rfl rfl ?_
    refine x_goto (pc := 71) (tgt := 9) h dX8_secondsWithSeveral_71 (by decide) ?_
    exact At.mask [true, true, true, true, true, false] rfl rfl (hg9 v64 v53 (x3 + v45) (x4 + 1))

theorem f_X8_secondsWithSeveral_W9_at (fu : Nat) (σ : gSt) (k0 : Nat) {Γ : gX (Int32)} (h : gOk Γ cX8_secondsWithSeveral 6 RX8 (some .int) 2 42) (z : gEnd Γ (gQp σ)) (hk0 : isO k0 8) : ∀ (n : Nat) (x1 : Int32) (x2 : Int32) (x3 : Int32) (x4 : Int32), At Γ 9 [some (.ref (gAd Γ.1 k0)), some (.int x1), some (.int x2), some (.int x3), some (.int x4), none] [] σ (f_X8_secondsWithSeveral_W9 fu σ k0 n x1 x2 x3 x4) := by
  intro n
  induction n with
  | zero => intro x1 x2 x3 x4 r hr; cases hr
  | succ n ih =>
    intro x1 x2 x3 x4
    exact f_X8_secondsWithSeveral_L9_at fu σ k0 (f_X8_secondsWithSeveral_W9 fu σ k0 n) h z hk0 ih x1 x2 x3 x4

set_option maxRecDepth 20000 in
set_option maxHeartbeats 4000000 in
theorem c_X8_secondsWithSeveral (fu : Nat) (σ : gSt) (k0 : Nat) (hk0 : isO k0 8) : gCt yX8_secondsWithSeveral cX8_secondsWithSeveral 6 (some .int) 2 42 (gQp σ) (fun ad => [.ref (ad k0)]) σ (f_X8_secondsWithSeveral fu σ k0) := by
  refine gCt_intro RX8 rfl (by decide +kernel) (fun ad v hv => by simp only [List.mem_cons, List.not_mem_nil, or_false] at hv; rcases hv with rfl <;> rfl) (fun ad => Nat.le_of_ble_eq_true rfl) (fun Γ h z => ?_)
  show At Γ 0 [some (.ref (gAd Γ.1 k0)), none, none, none, none, none] [] σ _
  unfold f_X8_secondsWithSeveral
  refine x_iconst (pc := 0) (v := 0) h dX8_secondsWithSeveral_0 (by decide) ?_
  refine x_istore_n (pc := 1) (i := 1) (L' := [some (.ref (gAd Γ.1 k0)), some (.int 0), none, none, none, none]) h dX8_secondsWithSeveral_1 rfl (Nat.le_of_ble_eq_true rfl) rfl ?_
  refine x_iconst (pc := 2) (v := 0) h dX8_secondsWithSeveral_2 (by decide) ?_
  refine x_istore_n (pc := 3) (i := 2) (L' := [some (.ref (gAd Γ.1 k0)), some (.int 0), some (.int 0), none, none, none]) h dX8_secondsWithSeveral_3 rfl (Nat.le_of_ble_eq_true rfl) rfl ?_
  refine x_iconst (pc := 4) (v := 0) h dX8_secondsWithSeveral_4 (by decide) ?_
  refine x_istore_n (pc := 5) (i := 3) (L' := [some (.ref (gAd Γ.1 k0)), some (.int 0), some (.int 0), some (.int 0), none, none]) h dX8_secondsWithSeveral_5 rfl (Nat.le_of_ble_eq_true rfl) rfl ?_
  refine x_iconst (pc := 6) (v := 0) h dX8_secondsWithSeveral_6 (by decide) ?_
  refine x_istore (pc := 7) (L' := [some (.ref (gAd Γ.1 k0)), some (.int 0), some (.int 0), some (.int 0), some (.int 0), none]) h dX8_secondsWithSeveral_7 (Nat.le_of_ble_eq_true rfl) rfl ?_
  exact At.mask [true, true, true, true, true, false] rfl rfl (f_X8_secondsWithSeveral_W9_at fu σ k0 h z hk0 fu 0 0 0 0)

set_option maxRecDepth 20000 in
set_option maxHeartbeats 4000000 in
theorem c_X7_setting (fu : Nat) (σ : gSt) (k0 : Nat) (hk0 : isO k0 7) : gCt yX7_setting cX7_setting 1 (some .int) 0 0 (gQp σ) (fun ad => [.ref (ad k0)]) σ (f_X7_setting fu σ k0) := by
  refine gCt_intro RX7 rfl (by decide +kernel) (fun ad v hv => by simp only [List.mem_cons, List.not_mem_nil, or_false] at hv; rcases hv with rfl <;> rfl) (fun ad => Nat.le_of_ble_eq_true rfl) (fun Γ h z => ?_)
  show At Γ 0 [some (.ref (gAd Γ.1 k0))] [] σ _
  unfold f_X7_setting
  refine x_aload_n (pc := 0) (i := 0) h dX7_setting_0 rfl rfl ?_
  refine gf_X7_32 (pc := 1) h hk0 dX7_setting_1 ?_
  exact x_iretp (pc := 4) h z rfl .int rfl rfl dX7_setting_4

set_option maxRecDepth 20000 in
set_option maxHeartbeats 4000000 in
theorem c_X5_ofAll (fu : Nat) (σ : gSt) (k0 : Nat) (p1 : Int32) (hk0 : isO k0 5) : gCt yX5_ofAll cX5_ofAll 2 (some .int) 4 87 (gQp σ) (fun ad => [.ref (ad k0), .int p1]) σ (f_X5_ofAll fu σ k0 p1) := by
  refine gCt_intro RX5 rfl (by decide +kernel) (fun ad v hv => by simp only [List.mem_cons, List.not_mem_nil, or_false] at hv; rcases hv with rfl | rfl <;> rfl) (fun ad => Nat.le_of_ble_eq_true rfl) (fun Γ h z => ?_)
  show At Γ 0 [some (.ref (gAd Γ.1 k0)), some (.int p1)] [] σ _
  unfold f_X5_ofAll
  refine x_iload_n (pc := 0) (i := 1) h dX5_ofAll_0 rfl rfl ?_
  refine x_tsw (pc := 1) (tgt := 100) h 0 (0) dX5_ofAll_1 rfl (by decide) (by decide) rfl (by decide) ?_ (fun c1_0 => ?_)
  · refine x_aload_n (pc := 100) (i := 0) h dX5_ofAll_100 rfl rfl ?_
    refine gf_X5_25 (pc := 101) h hk0 dX5_ofAll_101 ?_
    refine x_Vp (pc := 104) (av := fun ad => []) (rest := []) h m_X8_size i_X8_size kl_X5_158 (t_5_1 hk0) (by decide) rfl (c_X8_size fu σ (k0 + 10) (t_5_1 hk0)) rfl rfl (gCaM rfl) dX5_ofAll_104 (fun v104 => ?_)
    exact x_iretp (pc := 107) h z rfl .int rfl rfl dX5_ofAll_107
  refine x_tsw (pc := 1) (tgt := 108) h 1 (1) dX5_ofAll_1 rfl (by decide) (by decide) rfl (by decide) ?_ (fun c1_1 => ?_)
  · refine x_aload_n (pc := 108) (i := 0) h dX5_ofAll_108 rfl rfl ?_
    refine gf_X5_35 (pc := 109) h hk0 dX5_ofAll_109 ?_
    refine x_Vp (pc := 112) (av := fun ad => []) (rest := []) h m_X4_asSet i_X4_asSet kl_X5_167 (t_5_3 hk0) (by decide) rfl (c_X4_asSet fu σ (k0 + 19) (t_5_3 hk0)) rfl rfl (gCaM rfl) dX5_ofAll_112 (fun v112 => ?_)
    refine x_Sp (pc := 115) (av := fun ad => [.int v112]) (rest := []) h m_J6_bitCount_0f7a4 s_J6_bitCount_0f7a4 kl_X5_170 (c_J6_bitCount_0f7a4 fu σ v112) rfl rfl (gCaM rfl) dX5_ofAll_115 (fun v115 => ?_)
    exact x_iretp (pc := 118) h z rfl .int rfl rfl dX5_ofAll_118
  refine x_tsw (pc := 1) (tgt := 119) h 2 (2) dX5_ofAll_1 rfl (by decide) (by decide) rfl (by decide) ?_ (fun c1_2 => ?_)
  · refine x_aload_n (pc := 119) (i := 0) h dX5_ofAll_119 rfl rfl ?_
    refine gf_X5_25 (pc := 120) h hk0 dX5_ofAll_120 ?_
    refine x_Vp (pc := 123) (av := fun ad => []) (rest := []) h m_X8_placesInAll i_X8_placesInAll kl_X5_175 (t_5_1 hk0) (by decide) rfl (c_X8_placesInAll fu σ (k0 + 10) (t_5_1 hk0)) rfl rfl (gCaM rfl) dX5_ofAll_123 (fun v123 => ?_)
    exact x_iretp (pc := 126) h z rfl .int rfl rfl dX5_ofAll_126
  refine x_tsw (pc := 1) (tgt := 127) h 3 (3) dX5_ofAll_1 rfl (by decide) (by decide) rfl (by decide) ?_ (fun c1_3 => ?_)
  · refine x_aload_n (pc := 127) (i := 0) h dX5_ofAll_127 rfl rfl ?_
    refine gf_X5_30 (pc := 128) h hk0 dX5_ofAll_128 ?_
    refine x_Vp (pc := 131) (av := fun ad => []) (rest := []) h m_X0_size i_X0_size kl_X5_178 (t_5_2 hk0) (by decide) rfl (c_X0_size fu σ (k0 + 17) (t_5_2 hk0)) rfl rfl (gCaM rfl) dX5_ofAll_131 (fun v131 => ?_)
    exact x_iretp (pc := 134) h z rfl .int rfl rfl dX5_ofAll_134
  refine x_tsw (pc := 1) (tgt := 135) h 4 (4) dX5_ofAll_1 rfl (by decide) (by decide) rfl (by decide) ?_ (fun c1_4 => ?_)
  · refine x_aload_n (pc := 135) (i := 0) h dX5_ofAll_135 rfl rfl ?_
    refine gf_X5_25 (pc := 136) h hk0 dX5_ofAll_136 ?_
    refine x_iconst (pc := 139) (v := (-1)) h dX5_ofAll_139 (by decide) ?_
    refine x_Vp (pc := 140) (av := fun ad => [.int (-1)]) (rest := []) h m_X8_turnsOf i_X8_turnsOf kl_X5_110 (t_5_1 hk0) (by decide) rfl (c_X8_turnsOf fu σ (k0 + 10) (-1) (t_5_1 hk0)) rfl rfl (gCaM rfl) dX5_ofAll_140 (fun v140 => ?_)
    exact x_iretp (pc := 143) h z rfl .int rfl rfl dX5_ofAll_143
  refine x_tsw (pc := 1) (tgt := 144) h 5 (5) dX5_ofAll_1 rfl (by decide) (by decide) rfl (by decide) ?_ (fun c1_5 => ?_)
  · refine x_aload_n (pc := 144) (i := 0) h dX5_ofAll_144 rfl rfl ?_
    refine gf_X5_25 (pc := 145) h hk0 dX5_ofAll_145 ?_
    refine x_Vp (pc := 148) (av := fun ad => []) (rest := []) h m_X8_overlappingPairs i_X8_overlappingPairs kl_X5_179 (t_5_1 hk0) (by decide) rfl (c_X8_overlappingPairs fu σ (k0 + 10) (t_5_1 hk0)) rfl rfl (gCaM rfl) dX5_ofAll_148 (fun v148 => ?_)
    exact x_iretp (pc := 151) h z rfl .int rfl rfl dX5_ofAll_151
  refine x_tsw (pc := 1) (tgt := 152) h 6 (6) dX5_ofAll_1 rfl (by decide) (by decide) rfl (by decide) ?_ (fun c1_6 => ?_)
  · refine x_aload_n (pc := 152) (i := 0) h dX5_ofAll_152 rfl rfl ?_
    refine gf_X5_25 (pc := 153) h hk0 dX5_ofAll_153 ?_
    refine x_Vp (pc := 156) (av := fun ad => []) (rest := []) h m_X8_secondsWithAny i_X8_secondsWithAny kl_X5_182 (t_5_1 hk0) (by decide) rfl (c_X8_secondsWithAny fu σ (k0 + 10) (t_5_1 hk0)) rfl rfl (gCaM rfl) dX5_ofAll_156 (fun v156 => ?_)
    exact x_iretp (pc := 159) h z rfl .int rfl rfl dX5_ofAll_159
  refine x_tsw (pc := 1) (tgt := 160) h 7 (7) dX5_ofAll_1 rfl (by decide) (by decide) rfl (by decide) ?_ (fun c1_7 => ?_)
  · refine x_aload_n (pc := 160) (i := 0) h dX5_ofAll_160 rfl rfl ?_
    refine gf_X5_25 (pc := 161) h hk0 dX5_ofAll_161 ?_
    refine x_Vp (pc := 164) (av := fun ad => []) (rest := []) h m_X8_secondsWithSeveral i_X8_secondsWithSeveral kl_X5_185 (t_5_1 hk0) (by decide) rfl (c_X8_secondsWithSeveral fu σ (k0 + 10) (t_5_1 hk0)) rfl rfl (gCaM rfl) dX5_ofAll_164 (fun v164 => ?_)
    exact x_iretp (pc := 167) h z rfl .int rfl rfl dX5_ofAll_167
  refine x_tsw (pc := 1) (tgt := 184) h 8 (8) dX5_ofAll_1 rfl (by decide) (by decide) rfl (by decide) ?_ (fun c1_8 => ?_)
  · refine x_ldc (pc := 184) h kc_X5_42 dX5_ofAll_184 ?_
    exact x_iretp (pc := 186) h z rfl .int rfl rfl dX5_ofAll_186
  refine x_tsw (pc := 1) (tgt := 184) h 9 (9) dX5_ofAll_1 rfl (by decide) (by decide) rfl (by decide) ?_ (fun c1_9 => ?_)
  · refine x_ldc (pc := 184) h kc_X5_42 dX5_ofAll_184 ?_
    exact x_iretp (pc := 186) h z rfl .int rfl rfl dX5_ofAll_186
  refine x_tsw (pc := 1) (tgt := 168) h 10 (10) dX5_ofAll_1 rfl (by decide) (by decide) rfl (by decide) ?_ (fun c1_10 => ?_)
  · refine x_aload_n (pc := 168) (i := 0) h dX5_ofAll_168 rfl rfl ?_
    refine gf_X5_35 (pc := 169) h hk0 dX5_ofAll_169 ?_
    refine x_Vp (pc := 172) (av := fun ad => []) (rest := []) h m_X4_asSet i_X4_asSet kl_X5_167 (t_5_3 hk0) (by decide) rfl (c_X4_asSet fu σ (k0 + 19) (t_5_3 hk0)) rfl rfl (gCaM rfl) dX5_ofAll_172 (fun v172 => ?_)
    exact x_iretp (pc := 175) h z rfl .int rfl rfl dX5_ofAll_175
  refine x_tsw (pc := 1) (tgt := 184) h 11 (11) dX5_ofAll_1 rfl (by decide) (by decide) rfl (by decide) ?_ (fun c1_11 => ?_)
  · refine x_ldc (pc := 184) h kc_X5_42 dX5_ofAll_184 ?_
    exact x_iretp (pc := 186) h z rfl .int rfl rfl dX5_ofAll_186
  refine x_tsw (pc := 1) (tgt := 184) h 12 (12) dX5_ofAll_1 rfl (by decide) (by decide) rfl (by decide) ?_ (fun c1_12 => ?_)
  · refine x_ldc (pc := 184) h kc_X5_42 dX5_ofAll_184 ?_
    exact x_iretp (pc := 186) h z rfl .int rfl rfl dX5_ofAll_186
  refine x_tsw (pc := 1) (tgt := 184) h 13 (13) dX5_ofAll_1 rfl (by decide) (by decide) rfl (by decide) ?_ (fun c1_13 => ?_)
  · refine x_ldc (pc := 184) h kc_X5_42 dX5_ofAll_184 ?_
    exact x_iretp (pc := 186) h z rfl .int rfl rfl dX5_ofAll_186
  refine x_tsw (pc := 1) (tgt := 184) h 14 (14) dX5_ofAll_1 rfl (by decide) (by decide) rfl (by decide) ?_ (fun c1_14 => ?_)
  · refine x_ldc (pc := 184) h kc_X5_42 dX5_ofAll_184 ?_
    exact x_iretp (pc := 186) h z rfl .int rfl rfl dX5_ofAll_186
  refine x_tsw (pc := 1) (tgt := 184) h 15 (15) dX5_ofAll_1 rfl (by decide) (by decide) rfl (by decide) ?_ (fun c1_15 => ?_)
  · refine x_ldc (pc := 184) h kc_X5_42 dX5_ofAll_184 ?_
    exact x_iretp (pc := 186) h z rfl .int rfl rfl dX5_ofAll_186
  refine x_tsw (pc := 1) (tgt := 184) h 16 (16) dX5_ofAll_1 rfl (by decide) (by decide) rfl (by decide) ?_ (fun c1_16 => ?_)
  · refine x_ldc (pc := 184) h kc_X5_42 dX5_ofAll_184 ?_
    exact x_iretp (pc := 186) h z rfl .int rfl rfl dX5_ofAll_186
  refine x_tsw (pc := 1) (tgt := 184) h 17 (17) dX5_ofAll_1 rfl (by decide) (by decide) rfl (by decide) ?_ (fun c1_17 => ?_)
  · refine x_ldc (pc := 184) h kc_X5_42 dX5_ofAll_184 ?_
    exact x_iretp (pc := 186) h z rfl .int rfl rfl dX5_ofAll_186
  refine x_tsw (pc := 1) (tgt := 184) h 18 (18) dX5_ofAll_1 rfl (by decide) (by decide) rfl (by decide) ?_ (fun c1_18 => ?_)
  · refine x_ldc (pc := 184) h kc_X5_42 dX5_ofAll_184 ?_
    exact x_iretp (pc := 186) h z rfl .int rfl rfl dX5_ofAll_186
  refine x_tsw (pc := 1) (tgt := 184) h 19 (19) dX5_ofAll_1 rfl (by decide) (by decide) rfl (by decide) ?_ (fun c1_19 => ?_)
  · refine x_ldc (pc := 184) h kc_X5_42 dX5_ofAll_184 ?_
    exact x_iretp (pc := 186) h z rfl .int rfl rfl dX5_ofAll_186
  refine x_tsw (pc := 1) (tgt := 176) h 20 (20) dX5_ofAll_1 rfl (by decide) (by decide) rfl (by decide) ?_ (fun c1_20 => ?_)
  · refine x_aload_n (pc := 176) (i := 0) h dX5_ofAll_176 rfl rfl ?_
    refine gf_X5_15 (pc := 177) h hk0 dX5_ofAll_177 ?_
    refine x_Vp (pc := 180) (av := fun ad => []) (rest := []) h m_X7_setting i_X7_setting kl_X5_188 (t_5_0 hk0) (by decide) rfl (c_X7_setting fu σ (k0 + 9) (t_5_0 hk0)) rfl rfl (gCaM rfl) dX5_ofAll_180 (fun v180 => ?_)
    exact x_iretp (pc := 183) h z rfl .int rfl rfl dX5_ofAll_183
  refine x_tswd (pc := 1) (tgt := 184) h dX5_ofAll_1 (by have e0 := gNe (0) c1_0 rfl; have e1 := gNe (1) c1_1 rfl; have e2 := gNe (2) c1_2 rfl; have e3 := gNe (3) c1_3 rfl; have e4 := gNe (4) c1_4 rfl; have e5 := gNe (5) c1_5 rfl; have e6 := gNe (6) c1_6 rfl; have e7 := gNe (7) c1_7 rfl; have e8 := gNe (8) c1_8 rfl; have e9 := gNe (9) c1_9 rfl; have e10 := gNe (10) c1_10 rfl; have e11 := gNe (11) c1_11 rfl; have e12 := gNe (12) c1_12 rfl; have e13 := gNe (13) c1_13 rfl; have e14 := gNe (14) c1_14 rfl; have e15 := gNe (15) c1_15 rfl; have e16 := gNe (16) c1_16 rfl; have e17 := gNe (17) c1_17 rfl; have e18 := gNe (18) c1_18 rfl; have e19 := gNe (19) c1_19 rfl; have e20 := gNe (20) c1_20 rfl; omega) (by decide) ?_
  refine x_ldc (pc := 184) h kc_X5_42 dX5_ofAll_184 ?_
  exact x_iretp (pc := 186) h z rfl .int rfl rfl dX5_ofAll_186

set_option maxRecDepth 20000 in
set_option maxHeartbeats 4000000 in
theorem c_X9_count (fu : Nat) (σ : gSt) (k0 : Nat) (p1 : Int32) (hk0 : isO k0 9) : gCt yX9_count cX9_count 2 (some .int) 5 108 (gQp σ) (fun ad => [.ref (ad k0), .int p1]) σ (f_X9_count fu σ k0 p1) := by
  refine gCt_intro RX9 rfl (by decide +kernel) (fun ad v hv => by simp only [List.mem_cons, List.not_mem_nil, or_false] at hv; rcases hv with rfl | rfl <;> rfl) (fun ad => Nat.le_of_ble_eq_true rfl) (fun Γ h z => ?_)
  show At Γ 0 [some (.ref (gAd Γ.1 k0)), some (.int p1)] [] σ _
  unfold f_X9_count
  refine x_iload_n (pc := 0) (i := 1) h dX9_count_0 rfl rfl ?_
  refine x_lsw (pc := 1) (off := 27) (tgt := 28) h 8 dX9_count_1 (by decide) (by decide) (by decide) ?_ (fun c1_8 => ?_)
  · refine x_aload_n (pc := 28) (i := 0) h dX9_count_28 rfl rfl ?_
    refine gf_X9_22 (pc := 29) h hk0 dX9_count_29 ?_
    refine x_Vp (pc := 32) (av := fun ad => []) (rest := []) h m_X1_size i_X1_size kl_X9_123 (t_9_2 hk0) (by decide) rfl (c_X1_size fu σ (k0 + 8) (t_9_2 hk0)) rfl rfl (gCaM rfl) dX9_count_32 (fun v32 => ?_)
    exact x_iretp (pc := 35) h z rfl .int rfl rfl dX9_count_35
  refine x_lsw (pc := 1) (off := 35) (tgt := 36) h 9 dX9_count_1 (by decide) (by decide) (by decide) ?_ (fun c1_9 => ?_)
  · refine x_aload_n (pc := 36) (i := 0) h dX9_count_36 rfl rfl ?_
    refine gf_X9_38 (pc := 37) h hk0 dX9_count_37 ?_
    refine x_Vp (pc := 40) (av := fun ad => []) (rest := []) h m_X6_length i_X6_length kl_X9_127 (t_9_4 hk0) (by decide) rfl (c_X6_length fu σ (k0 + 6) (t_9_4 hk0)) rfl rfl (gCaM rfl) dX9_count_40 (fun v40 => ?_)
    exact x_iretp (pc := 43) h z rfl .int rfl rfl dX9_count_43
  refine x_lswd (pc := 1) (tgt := 44) h dX9_count_1 (by decide) (gLso [(8, 27), (9, 35)] _ _ (by simp [gNe (8) c1_8 rfl, gNe (9) c1_9 rfl])) (by decide) ?_
  refine x_aload_n (pc := 44) (i := 0) h dX9_count_44 rfl rfl ?_
  refine gf_X9_31 (pc := 45) h hk0 dX9_count_45 ?_
  refine x_iload_n (pc := 48) (i := 1) h dX9_count_48 rfl rfl ?_
  refine x_Vp (pc := 49) (av := fun ad => [.int p1]) (rest := []) h m_X5_ofAll i_X5_ofAll kl_X9_130 (t_9_3 hk0) (by decide) rfl (c_X5_ofAll fu σ (k0 + 1) p1 (t_9_3 hk0)) rfl rfl (gCaM rfl) dX9_count_49 (fun v49 => ?_)
  exact x_iretp (pc := 52) h z rfl .int rfl rfl dX9_count_52

set_option maxRecDepth 20000 in
set_option maxHeartbeats 4000000 in
theorem f_X10_voicesAll_L4_at (fu : Nat) (σ : gSt) (k0 : Nat) (ag4 : Int32 → Int32 → Option (Int32)) {Γ : gX (Int32)} (h : gOk Γ cX10_voicesAll 3 RX10 (some .int) 0 0) (z : gEnd Γ (gQp σ)) (hk0 : isO k0 10) (hg4 : ∀ (y1 : Int32) (y2 : Int32), At Γ 4 [some (.ref (gAd Γ.1 k0)), some (.int y1), some (.int y2)] [] σ (ag4 y1 y2)) (x1 : Int32) (x2 : Int32) : At Γ 4 [some (.ref (gAd Γ.1 k0)), some (.int x1), some (.int x2)] [] σ (f_X10_voicesAll_L4 fu σ k0 ag4 x1 x2) := by
  unfold f_X10_voicesAll_L4
  refine x_iload_n (pc := 4) (i := 2) h dX10_voicesAll_4 rfl rfl ?_
  refine x_bipush (pc := 5) (v := 6) h dX10_voicesAll_5 (by decide) ?_
  refine x_icmp_ge (pc := 7) (tgt := 39) h dX10_voicesAll_7 (by decide) ?_ ?_
  · refine x_iload_n (pc := 39) (i := 1) h dX10_voicesAll_39 rfl rfl ?_
    exact x_iretp (pc := 40) h z rfl .int rfl rfl dX10_voicesAll_40
  · refine x_iload_n (pc := 10) (i := 1) h dX10_voicesAll_10 rfl rfl ?_
    refine x_aload_n (pc := 11) (i := 0) h dX10_voicesAll_11 rfl rfl ?_
    refine gf_X10_7 (pc := 12) h hk0 dX10_voicesAll_12 ?_
    refine x_sipush (pc := 15) (v := 276) h dX10_voicesAll_15 (by decide) ?_
    refine x_iload_n (pc := 18) (i := 2) h dX10_voicesAll_18 rfl rfl ?_
    refine x_iadd (pc := 19) h dX10_voicesAll_19 ?_
    refine x_iald (pc := 20) h (t_10_0 hk0) dX10_voicesAll_20 (fun v20 => ?_)
    refine x_nm (e := (if v20 ≤ 0 then 0 else (1 <<< (x2 &&& 31)))) (pcJ := 31) (LJ := [some (.ref (gAd Γ.1 k0)), some (.int x1), some (.int x2)]) (sJ := [.int x1]) (fun w21 => ?_) (fun kj21 => ?_)
    · refine x_ior (pc := 31) h dX10_voicesAll_31 ?_
      refine x_istore_n (pc := 32) (i := 1) (L' := [some (.ref (gAd Γ.1 k0)), some (.int (x1 ||| w21)), some (.int x2)]) h dX10_voicesAll_32 rfl (Nat.le_of_ble_eq_true rfl) rfl ?_
      refine x_iinc (pc := 33) (i := 2) (v := (x2 + 1)) (L' := [some (.ref (gAd Γ.1 k0)), some (.int (x1 ||| w21)), some (.int (x2 + 1))]) h dX10_voicesAll_33 rfl rfl rfl ?_
      refine x_goto (pc := 36) (tgt := 4) h dX10_voicesAll_36 (by decide) ?_
      exact At.mask [true, true, true] rfl rfl (hg4 (x1 ||| w21) (x2 + 1))
    · refine j_if_le (pc := 21) (tgt := 30) h dX10_voicesAll_21 (by decide) (fun hc21_0 => ?_) (fun hc21_0 => ?_)
      · refine x_iconst (pc := 30) (v := 0) h dX10_voicesAll_30 (by decide) ?_
        exact kj21 0 (by rw [if_pos hc21_0])
      · refine x_iconst (pc := 24) (v := 1) h dX10_voicesAll_24 (by decide) ?_
        refine x_iload_n (pc := 25) (i := 2) h dX10_voicesAll_25 rfl rfl ?_
        refine x_ishl (pc := 26) h dX10_voicesAll_26 ?_
        refine x_goto (pc := 27) (tgt := 31) h dX10_voicesAll_27 (by decide) ?_
        exact kj21 (1 <<< (x2 &&& 31)) (by rw [if_neg hc21_0])

theorem f_X10_voicesAll_W4_at (fu : Nat) (σ : gSt) (k0 : Nat) {Γ : gX (Int32)} (h : gOk Γ cX10_voicesAll 3 RX10 (some .int) 0 0) (z : gEnd Γ (gQp σ)) (hk0 : isO k0 10) : ∀ (n : Nat) (x1 : Int32) (x2 : Int32), At Γ 4 [some (.ref (gAd Γ.1 k0)), some (.int x1), some (.int x2)] [] σ (f_X10_voicesAll_W4 fu σ k0 n x1 x2) := by
  intro n
  induction n with
  | zero => intro x1 x2 r hr; cases hr
  | succ n ih =>
    intro x1 x2
    exact f_X10_voicesAll_L4_at fu σ k0 (f_X10_voicesAll_W4 fu σ k0 n) h z hk0 ih x1 x2

set_option maxRecDepth 20000 in
set_option maxHeartbeats 4000000 in
theorem c_X10_voicesAll (fu : Nat) (σ : gSt) (k0 : Nat) (hk0 : isO k0 10) : gCt yX10_voicesAll cX10_voicesAll 3 (some .int) 0 0 (gQp σ) (fun ad => [.ref (ad k0)]) σ (f_X10_voicesAll fu σ k0) := by
  refine gCt_intro RX10 rfl (by decide +kernel) (fun ad v hv => by simp only [List.mem_cons, List.not_mem_nil, or_false] at hv; rcases hv with rfl <;> rfl) (fun ad => Nat.le_of_ble_eq_true rfl) (fun Γ h z => ?_)
  show At Γ 0 [some (.ref (gAd Γ.1 k0)), none, none] [] σ _
  unfold f_X10_voicesAll
  refine x_iconst (pc := 0) (v := 0) h dX10_voicesAll_0 (by decide) ?_
  refine x_istore_n (pc := 1) (i := 1) (L' := [some (.ref (gAd Γ.1 k0)), some (.int 0), none]) h dX10_voicesAll_1 rfl (Nat.le_of_ble_eq_true rfl) rfl ?_
  refine x_iconst (pc := 2) (v := 0) h dX10_voicesAll_2 (by decide) ?_
  refine x_istore_n (pc := 3) (i := 2) (L' := [some (.ref (gAd Γ.1 k0)), some (.int 0), some (.int 0)]) h dX10_voicesAll_3 rfl (Nat.le_of_ble_eq_true rfl) rfl ?_
  exact At.mask [true, true, true] rfl rfl (f_X10_voicesAll_W4_at fu σ k0 h z hk0 fu 0 0)

set_option maxRecDepth 20000 in
set_option maxHeartbeats 4000000 in
theorem f_X10_ones_L4_at (fu : Nat) (σ : gSt) (p0 : Int32) (ag4 : Int32 → Int32 → Option (Int32)) {Γ : gX (Int32)} (h : gOk Γ cX10_ones 3 RX10 (some .int) 0 0) (z : gEnd Γ (gQp σ)) (hg4 : ∀ (y1 : Int32) (y2 : Int32), At Γ 4 [none, some (.int y1), some (.int y2)] [] σ (ag4 y1 y2)) (x1 : Int32) (x2 : Int32) : At Γ 4 [none, some (.int x1), some (.int x2)] [] σ (f_X10_ones_L4 fu σ p0 ag4 x1 x2) := by
  unfold f_X10_ones_L4
  refine x_iload_n (pc := 4) (i := 2) h dX10_ones_4 rfl rfl ?_
  refine x_if_eq (pc := 5) (tgt := 20) h dX10_ones_5 (by decide) ?_ ?_
  · refine x_iload_n (pc := 20) (i := 1) h dX10_ones_20 rfl rfl ?_
    exact x_iretp (pc := 21) h z rfl .int rfl rfl dX10_ones_21
  · refine x_iinc (pc := 8) (i := 1) (v := (x1 + 1)) (L' := [none, some (.int (x1 + 1)), some (.int x2)]) h dX10_ones_8 rfl rfl rfl ?_
    refine x_iload_n (pc := 11) (i := 2) h dX10_ones_11 rfl rfl ?_
    refine x_iload_n (pc := 12) (i := 2) h dX10_ones_12 rfl rfl ?_
    refine x_iconst (pc := 13) (v := 1) h dX10_ones_13 (by decide) ?_
    refine x_isub (pc := 14) h dX10_ones_14 ?_
    refine x_iand (pc := 15) h dX10_ones_15 ?_
    refine x_istore_n (pc := 16) (i := 2) (L' := [none, some (.int (x1 + 1)), some (.int (x2 &&& (x2 - 1)))]) h dX10_ones_16 rfl (Nat.le_of_ble_eq_true rfl) rfl ?_
    refine x_goto (pc := 17) (tgt := 4) h dX10_ones_17 (by decide) ?_
    exact At.mask [false, true, true] rfl rfl (hg4 (x1 + 1) (x2 &&& (x2 - 1)))

theorem f_X10_ones_W4_at (fu : Nat) (σ : gSt) (p0 : Int32) {Γ : gX (Int32)} (h : gOk Γ cX10_ones 3 RX10 (some .int) 0 0) (z : gEnd Γ (gQp σ)) : ∀ (n : Nat) (x1 : Int32) (x2 : Int32), At Γ 4 [none, some (.int x1), some (.int x2)] [] σ (f_X10_ones_W4 fu σ p0 n x1 x2) := by
  intro n
  induction n with
  | zero => intro x1 x2 r hr; cases hr
  | succ n ih =>
    intro x1 x2
    exact f_X10_ones_L4_at fu σ p0 (f_X10_ones_W4 fu σ p0 n) h z ih x1 x2

set_option maxRecDepth 20000 in
set_option maxHeartbeats 4000000 in
theorem c_X10_ones (fu : Nat) (σ : gSt) (p0 : Int32) : gCt yX10_ones cX10_ones 3 (some .int) 0 0 (gQp σ) (fun ad => [.int p0]) σ (f_X10_ones fu σ p0) := by
  refine gCt_intro RX10 rfl (by decide +kernel) (fun ad v hv => by simp only [List.mem_cons, List.not_mem_nil, or_false] at hv; rcases hv with rfl <;> rfl) (fun ad => Nat.le_of_ble_eq_true rfl) (fun Γ h z => ?_)
  show At Γ 0 [some (.int p0), none, none] [] σ _
  unfold f_X10_ones
  refine x_iconst (pc := 0) (v := 0) h dX10_ones_0 (by decide) ?_
  refine x_istore_n (pc := 1) (i := 1) (L' := [some (.int p0), some (.int 0), none]) h dX10_ones_1 rfl (Nat.le_of_ble_eq_true rfl) rfl ?_
  refine x_iload_n (pc := 2) (i := 0) h dX10_ones_2 rfl rfl ?_
  refine x_istore_n (pc := 3) (i := 2) (L' := [some (.int p0), some (.int 0), some (.int p0)]) h dX10_ones_3 rfl (Nat.le_of_ble_eq_true rfl) rfl ?_
  exact At.mask [false, true, true] rfl rfl (f_X10_ones_W4_at fu σ p0 h z fu 0 p0)

set_option maxRecDepth 20000 in
set_option maxHeartbeats 4000000 in
theorem f_X10_ofTurns_L4_at (fu : Nat) (σ : gSt) (k0 : Nat) (p1 : Int32) (ag4 : Int32 → Int32 → Option (Int32)) {Γ : gX (Int32)} (h : gOk Γ cX10_ofTurns 4 RX10 (some .int) 3 69) (z : gEnd Γ (gQp σ)) (hk0 : isO k0 10) (hg4 : ∀ (y2 : Int32) (y3 : Int32), At Γ 4 [some (.ref (gAd Γ.1 k0)), some (.int p1), some (.int y2), some (.int y3)] [] σ (ag4 y2 y3)) (x2 : Int32) (x3 : Int32) : At Γ 4 [some (.ref (gAd Γ.1 k0)), some (.int p1), some (.int x2), some (.int x3)] [] σ (f_X10_ofTurns_L4 fu σ k0 p1 ag4 x2 x3) := by
  unfold f_X10_ofTurns_L4
  refine x_iload_n (pc := 4) (i := 3) h dX10_ofTurns_4 rfl rfl ?_
  refine x_aload_n (pc := 5) (i := 0) h dX10_ofTurns_5 rfl rfl ?_
  refine gf_X10_7 (pc := 6) h hk0 dX10_ofTurns_6 ?_
  refine x_sipush (pc := 9) (v := 282) h dX10_ofTurns_9 (by decide) ?_
  refine x_ialdS (pc := 12) h 282 (t_10_0 hk0) (by decide) (by decide) (by decide) dX10_ofTurns_12 ?_
  refine x_icmp_ge (pc := 13) (tgt := 70) h dX10_ofTurns_13 (by decide) ?_ ?_
  · refine x_iload_n (pc := 70) (i := 1) h dX10_ofTurns_70 rfl rfl ?_
    refine x_iconst (pc := 71) (v := 5) h dX10_ofTurns_71 (by decide) ?_
    refine x_icmp_ne (pc := 72) (tgt := 81) h dX10_ofTurns_72 (by decide) ?_ ?_
    · refine x_iload_n (pc := 81) (i := 2) h dX10_ofTurns_81 rfl rfl ?_
      exact x_iretp (pc := 82) h z rfl .int rfl rfl dX10_ofTurns_82
    · refine x_iload_n (pc := 75) (i := 2) h dX10_ofTurns_75 rfl rfl ?_
      refine x_iconst (pc := 76) (v := 2) h dX10_ofTurns_76 (by decide) ?_
      refine x_idiv (pc := 77) h dX10_ofTurns_77 (fun v77 => ?_)
      refine x_goto (pc := 78) (tgt := 82) h dX10_ofTurns_78 (by decide) ?_
      exact x_iretp (pc := 82) h z rfl .int rfl rfl dX10_ofTurns_82
  · refine x_iload_n (pc := 16) (i := 2) h dX10_ofTurns_16 rfl rfl ?_
    refine x_iload_n (pc := 17) (i := 1) h dX10_ofTurns_17 rfl rfl ?_
    refine x_iconst (pc := 18) (v := 2) h dX10_ofTurns_18 (by decide) ?_
    refine x_icmp_ne (pc := 19) (tgt := 31) h dX10_ofTurns_19 (by decide) ?_ ?_
    · refine x_iload_n (pc := 31) (i := 1) h dX10_ofTurns_31 rfl rfl ?_
      refine x_iconst (pc := 32) (v := 4) h dX10_ofTurns_32 (by decide) ?_
      refine x_icmp_ne (pc := 33) (tgt := 53) h dX10_ofTurns_33 (by decide) ?_ ?_
      · refine x_aload_n (pc := 53) (i := 0) h dX10_ofTurns_53 rfl rfl ?_
        refine x_iload_n (pc := 54) (i := 3) h dX10_ofTurns_54 rfl rfl ?_
        refine x_iconst (pc := 55) (v := 0) h dX10_ofTurns_55 (by decide) ?_
        refine x_Vp (pc := 56) (av := fun ad => [.int x3, .int 0]) (rest := [.int x2]) h m_X10_overlapping i_X10_overlapping kl_X10_111 hk0 (by decide) rfl (c_X10_overlapping fu σ k0 x3 0 hk0) rfl rfl (gCaM rfl) dX10_ofTurns_56 (fun v56 => ?_)
        refine x_Sp (pc := 59) (av := fun ad => [.int v56]) (rest := [.int x2]) h m_X10_ones s_X10_ones kl_X10_159 (c_X10_ones fu σ v56) rfl rfl (gCaM rfl) dX10_ofTurns_59 (fun v59 => ?_)
        refine x_iadd (pc := 62) h dX10_ofTurns_62 ?_
        refine x_istore_n (pc := 63) (i := 2) (L' := [some (.ref (gAd Γ.1 k0)), some (.int p1), some (.int (x2 + v59)), some (.int x3)]) h dX10_ofTurns_63 rfl (Nat.le_of_ble_eq_true rfl) rfl ?_
        refine x_iinc (pc := 64) (i := 3) (v := (x3 + 1)) (L' := [some (.ref (gAd Γ.1 k0)), some (.int p1), some (.int (x2 + v59)), some (.int (x3 + 1))]) h dX10_ofTurns_64 rfl rfl rfl ?_
        refine x_goto (pc := 67) (tgt := 4) h dX10_ofTurns_67 (by decide) ?_
        exact At.mask [true, true, true, true] rfl rfl (hg4 (x2 + v59) (x3 + 1))
      · refine x_aload_n (pc := 36) (i := 0) h dX10_ofTurns_36 rfl rfl ?_
        refine x_iload_n (pc := 37) (i := 3) h dX10_ofTurns_37 rfl rfl ?_
        refine x_iconst (pc := 38) (v := 3) h dX10_ofTurns_38 (by decide) ?_
        refine x_Vp (pc := 39) (av := fun ad => [.int x3, .int 3]) (rest := [.int x2]) h m_X10_of i_X10_of kl_X10_47 hk0 (by decide) rfl (c_X10_of fu σ k0 x3 3 hk0) rfl rfl (gCaM rfl) dX10_ofTurns_39 (fun v39 => ?_)
        refine x_nm (e := (if 0 ≤ v39 then 0 else 1)) (pcJ := 62) (LJ := [some (.ref (gAd Γ.1 k0)), some (.int p1), some (.int x2), some (.int x3)]) (sJ := [.int x2]) (fun w42 => ?_) (fun kj42 => ?_)
        · refine x_iadd (pc := 62) h dX10_ofTurns_62 ?_
          refine x_istore_n (pc := 63) (i := 2) (L' := [some (.ref (gAd Γ.1 k0)), some (.int p1), some (.int (x2 + w42)), some (.int x3)]) h dX10_ofTurns_63 rfl (Nat.le_of_ble_eq_true rfl) rfl ?_
          refine x_iinc (pc := 64) (i := 3) (v := (x3 + 1)) (L' := [some (.ref (gAd Γ.1 k0)), some (.int p1), some (.int (x2 + w42)), some (.int (x3 + 1))]) h dX10_ofTurns_64 rfl rfl rfl ?_
          refine x_goto (pc := 67) (tgt := 4) h dX10_ofTurns_67 (by decide) ?_
          exact At.mask [true, true, true, true] rfl rfl (hg4 (x2 + w42) (x3 + 1))
        · refine j_if_ge (pc := 42) (tgt := 49) h dX10_ofTurns_42 (by decide) (fun hc42_0 => ?_) (fun hc42_0 => ?_)
          · refine x_iconst (pc := 49) (v := 0) h dX10_ofTurns_49 (by decide) ?_
            refine x_goto (pc := 50) (tgt := 62) h dX10_ofTurns_50 (by decide) ?_
            exact kj42 0 (by rw [if_pos hc42_0])
          · refine x_iconst (pc := 45) (v := 1) h dX10_ofTurns_45 (by decide) ?_
            refine x_goto (pc := 46) (tgt := 62) h dX10_ofTurns_46 (by decide) ?_
            exact kj42 1 (by rw [if_neg hc42_0])
    · refine x_aload_n (pc := 22) (i := 0) h dX10_ofTurns_22 rfl rfl ?_
      refine x_iload_n (pc := 23) (i := 3) h dX10_ofTurns_23 rfl rfl ?_
      refine x_iconst (pc := 24) (v := 4) h dX10_ofTurns_24 (by decide) ?_
      refine x_Vp (pc := 25) (av := fun ad => [.int x3, .int 4]) (rest := [.int x2]) h m_X10_of i_X10_of kl_X10_47 hk0 (by decide) rfl (c_X10_of fu σ k0 x3 4 hk0) rfl rfl (gCaM rfl) dX10_ofTurns_25 (fun v25 => ?_)
      refine x_goto (pc := 28) (tgt := 62) h dX10_ofTurns_28 (by decide) ?_
      refine x_iadd (pc := 62) h dX10_ofTurns_62 ?_
      refine x_istore_n (pc := 63) (i := 2) (L' := [some (.ref (gAd Γ.1 k0)), some (.int p1), some (.int (x2 + v25)), some (.int x3)]) h dX10_ofTurns_63 rfl (Nat.le_of_ble_eq_true rfl) rfl ?_
      refine x_iinc (pc := 64) (i := 3) (v := (x3 + 1)) (L' := [some (.ref (gAd Γ.1 k0)), some (.int p1), some (.int (x2 + v25)), some (.int (x3 + 1))]) h dX10_ofTurns_64 rfl rfl rfl ?_
      refine x_goto (pc := 67) (tgt := 4) h dX10_ofTurns_67 (by decide) ?_
      exact At.mask [true, true, true, true] rfl rfl (hg4 (x2 + v25) (x3 + 1))

theorem f_X10_ofTurns_W4_at (fu : Nat) (σ : gSt) (k0 : Nat) (p1 : Int32) {Γ : gX (Int32)} (h : gOk Γ cX10_ofTurns 4 RX10 (some .int) 3 69) (z : gEnd Γ (gQp σ)) (hk0 : isO k0 10) : ∀ (n : Nat) (x2 : Int32) (x3 : Int32), At Γ 4 [some (.ref (gAd Γ.1 k0)), some (.int p1), some (.int x2), some (.int x3)] [] σ (f_X10_ofTurns_W4 fu σ k0 p1 n x2 x3) := by
  intro n
  induction n with
  | zero => intro x2 x3 r hr; cases hr
  | succ n ih =>
    intro x2 x3
    exact f_X10_ofTurns_L4_at fu σ k0 p1 (f_X10_ofTurns_W4 fu σ k0 p1 n) h z hk0 ih x2 x3

set_option maxRecDepth 20000 in
set_option maxHeartbeats 4000000 in
theorem c_X10_ofTurns (fu : Nat) (σ : gSt) (k0 : Nat) (p1 : Int32) (hk0 : isO k0 10) : gCt yX10_ofTurns cX10_ofTurns 4 (some .int) 3 69 (gQp σ) (fun ad => [.ref (ad k0), .int p1]) σ (f_X10_ofTurns fu σ k0 p1) := by
  refine gCt_intro RX10 rfl (by decide +kernel) (fun ad v hv => by simp only [List.mem_cons, List.not_mem_nil, or_false] at hv; rcases hv with rfl | rfl <;> rfl) (fun ad => Nat.le_of_ble_eq_true rfl) (fun Γ h z => ?_)
  show At Γ 0 [some (.ref (gAd Γ.1 k0)), some (.int p1), none, none] [] σ _
  unfold f_X10_ofTurns
  refine x_iconst (pc := 0) (v := 0) h dX10_ofTurns_0 (by decide) ?_
  refine x_istore_n (pc := 1) (i := 2) (L' := [some (.ref (gAd Γ.1 k0)), some (.int p1), some (.int 0), none]) h dX10_ofTurns_1 rfl (Nat.le_of_ble_eq_true rfl) rfl ?_
  refine x_iconst (pc := 2) (v := 0) h dX10_ofTurns_2 (by decide) ?_
  refine x_istore_n (pc := 3) (i := 3) (L' := [some (.ref (gAd Γ.1 k0)), some (.int p1), some (.int 0), some (.int 0)]) h dX10_ofTurns_3 rfl (Nat.le_of_ble_eq_true rfl) rfl ?_
  exact At.mask [true, true, true, true] rfl rfl (f_X10_ofTurns_W4_at fu σ k0 p1 h z hk0 fu 0 0)

set_option maxRecDepth 20000 in
set_option maxHeartbeats 4000000 in
theorem f_X10_corrections_L4_at (fu : Nat) (σ : gSt) (k0 : Nat) (ag4 : Int32 → Int32 → Option (Int32)) {Γ : gX (Int32)} (h : gOk Γ cX10_corrections 3 RX10 (some .int) 0 0) (z : gEnd Γ (gQp σ)) (hk0 : isO k0 10) (hg4 : ∀ (y1 : Int32) (y2 : Int32), At Γ 4 [some (.ref (gAd Γ.1 k0)), some (.int y1), some (.int y2)] [] σ (ag4 y1 y2)) (x1 : Int32) (x2 : Int32) : At Γ 4 [some (.ref (gAd Γ.1 k0)), some (.int x1), some (.int x2)] [] σ (f_X10_corrections_L4 fu σ k0 ag4 x1 x2) := by
  unfold f_X10_corrections_L4
  refine x_iload_n (pc := 4) (i := 2) h dX10_corrections_4 rfl rfl ?_
  refine x_bipush (pc := 5) (v := 16) h dX10_corrections_5 (by decide) ?_
  refine x_icmp_ge (pc := 7) (tgt := 37) h dX10_corrections_7 (by decide) ?_ ?_
  · refine x_iload_n (pc := 37) (i := 1) h dX10_corrections_37 rfl rfl ?_
    exact x_iretp (pc := 38) h z rfl .int rfl rfl dX10_corrections_38
  · refine x_iload_n (pc := 10) (i := 1) h dX10_corrections_10 rfl rfl ?_
    refine x_aload_n (pc := 11) (i := 0) h dX10_corrections_11 rfl rfl ?_
    refine gf_X10_7 (pc := 12) h hk0 dX10_corrections_12 ?_
    refine x_sipush (pc := 15) (v := 260) h dX10_corrections_15 (by decide) ?_
    refine x_iload_n (pc := 18) (i := 2) h dX10_corrections_18 rfl rfl ?_
    refine x_iadd (pc := 19) h dX10_corrections_19 ?_
    refine x_iald (pc := 20) h (t_10_0 hk0) dX10_corrections_20 (fun v20 => ?_)
    refine x_nm (e := (if v20 < 0 then 0 else 1)) (pcJ := 29) (LJ := [some (.ref (gAd Γ.1 k0)), some (.int x1), some (.int x2)]) (sJ := [.int x1]) (fun w21 => ?_) (fun kj21 => ?_)
    · refine x_iadd (pc := 29) h dX10_corrections_29 ?_
      refine x_istore_n (pc := 30) (i := 1) (L' := [some (.ref (gAd Γ.1 k0)), some (.int (x1 + w21)), some (.int x2)]) h dX10_corrections_30 rfl (Nat.le_of_ble_eq_true rfl) rfl ?_
      refine x_iinc (pc := 31) (i := 2) (v := (x2 + 1)) (L' := [some (.ref (gAd Γ.1 k0)), some (.int (x1 + w21)), some (.int (x2 + 1))]) h dX10_corrections_31 rfl rfl rfl ?_
      refine x_goto (pc := 34) (tgt := 4) h dX10_corrections_34 (by decide) ?_
      exact At.mask [true, true, true] rfl rfl (hg4 (x1 + w21) (x2 + 1))
    · refine j_if_lt (pc := 21) (tgt := 28) h dX10_corrections_21 (by decide) (fun hc21_0 => ?_) (fun hc21_0 => ?_)
      · refine x_iconst (pc := 28) (v := 0) h dX10_corrections_28 (by decide) ?_
        exact kj21 0 (by rw [if_pos hc21_0])
      · refine x_iconst (pc := 24) (v := 1) h dX10_corrections_24 (by decide) ?_
        refine x_goto (pc := 25) (tgt := 29) h dX10_corrections_25 (by decide) ?_
        exact kj21 1 (by rw [if_neg hc21_0])

theorem f_X10_corrections_W4_at (fu : Nat) (σ : gSt) (k0 : Nat) {Γ : gX (Int32)} (h : gOk Γ cX10_corrections 3 RX10 (some .int) 0 0) (z : gEnd Γ (gQp σ)) (hk0 : isO k0 10) : ∀ (n : Nat) (x1 : Int32) (x2 : Int32), At Γ 4 [some (.ref (gAd Γ.1 k0)), some (.int x1), some (.int x2)] [] σ (f_X10_corrections_W4 fu σ k0 n x1 x2) := by
  intro n
  induction n with
  | zero => intro x1 x2 r hr; cases hr
  | succ n ih =>
    intro x1 x2
    exact f_X10_corrections_L4_at fu σ k0 (f_X10_corrections_W4 fu σ k0 n) h z hk0 ih x1 x2

set_option maxRecDepth 20000 in
set_option maxHeartbeats 4000000 in
theorem c_X10_corrections (fu : Nat) (σ : gSt) (k0 : Nat) (hk0 : isO k0 10) : gCt yX10_corrections cX10_corrections 3 (some .int) 0 0 (gQp σ) (fun ad => [.ref (ad k0)]) σ (f_X10_corrections fu σ k0) := by
  refine gCt_intro RX10 rfl (by decide +kernel) (fun ad v hv => by simp only [List.mem_cons, List.not_mem_nil, or_false] at hv; rcases hv with rfl <;> rfl) (fun ad => Nat.le_of_ble_eq_true rfl) (fun Γ h z => ?_)
  show At Γ 0 [some (.ref (gAd Γ.1 k0)), none, none] [] σ _
  unfold f_X10_corrections
  refine x_iconst (pc := 0) (v := 0) h dX10_corrections_0 (by decide) ?_
  refine x_istore_n (pc := 1) (i := 1) (L' := [some (.ref (gAd Γ.1 k0)), some (.int 0), none]) h dX10_corrections_1 rfl (Nat.le_of_ble_eq_true rfl) rfl ?_
  refine x_iconst (pc := 2) (v := 0) h dX10_corrections_2 (by decide) ?_
  refine x_istore_n (pc := 3) (i := 2) (L' := [some (.ref (gAd Γ.1 k0)), some (.int 0), some (.int 0)]) h dX10_corrections_3 rfl (Nat.le_of_ble_eq_true rfl) rfl ?_
  exact At.mask [true, true, true] rfl rfl (f_X10_corrections_W4_at fu σ k0 h z hk0 fu 0 0)

set_option maxRecDepth 20000 in
set_option maxHeartbeats 4000000 in
theorem f_X10_seconds_L4_at (fu : Nat) (σ : gSt) (k0 : Nat) (p1 : Int32) (ag4 : Int32 → Int32 → Option (Int32)) {Γ : gX (Int32)} (h : gOk Γ cX10_seconds 4 RX10 (some .int) 3 67) (z : gEnd Γ (gQp σ)) (hk0 : isO k0 10) (hg4 : ∀ (y2 : Int32) (y3 : Int32), At Γ 4 [some (.ref (gAd Γ.1 k0)), some (.int p1), some (.int y2), some (.int y3)] [] σ (ag4 y2 y3)) (x2 : Int32) (x3 : Int32) : At Γ 4 [some (.ref (gAd Γ.1 k0)), some (.int p1), some (.int x2), some (.int x3)] [] σ (f_X10_seconds_L4 fu σ k0 p1 ag4 x2 x3) := by
  unfold f_X10_seconds_L4
  refine x_iload_n (pc := 4) (i := 3) h dX10_seconds_4 rfl rfl ?_
  refine x_sipush (pc := 5) (v := 1999) h dX10_seconds_5 (by decide) ?_
  refine x_icmp_gt (pc := 8) (tgt := 37) h dX10_seconds_8 (by decide) ?_ ?_
  · refine x_iload_n (pc := 37) (i := 2) h dX10_seconds_37 rfl rfl ?_
    exact x_iretp (pc := 38) h z rfl .int rfl rfl dX10_seconds_38
  · refine x_iload_n (pc := 11) (i := 2) h dX10_seconds_11 rfl rfl ?_
    refine x_aload_n (pc := 12) (i := 0) h dX10_seconds_12 rfl rfl ?_
    refine x_iload_n (pc := 13) (i := 3) h dX10_seconds_13 rfl rfl ?_
    refine x_Vp (pc := 14) (av := fun ad => [.int x3]) (rest := [.int x2]) h m_X10_going i_X10_going kl_X10_107 hk0 (by decide) rfl (c_X10_going fu σ k0 x3 hk0) rfl rfl (gCaM rfl) dX10_seconds_14 (fun v14 => ?_)
    refine x_Sp (pc := 17) (av := fun ad => [.int v14]) (rest := [.int x2]) h m_X10_ones s_X10_ones kl_X10_159 (c_X10_ones fu σ v14) rfl rfl (gCaM rfl) dX10_seconds_17 (fun v17 => ?_)
    refine x_iload_n (pc := 20) (i := 1) h dX10_seconds_20 rfl rfl ?_
    refine x_nm (e := (if v17 < p1 then 0 else 1)) (pcJ := 29) (LJ := [some (.ref (gAd Γ.1 k0)), some (.int p1), some (.int x2), some (.int x3)]) (sJ := [.int x2]) (fun w21 => ?_) (fun kj21 => ?_)
    · refine x_iadd (pc := 29) h dX10_seconds_29 ?_
      refine x_istore_n (pc := 30) (i := 2) (L' := [some (.ref (gAd Γ.1 k0)), some (.int p1), some (.int (x2 + w21)), some (.int x3)]) h dX10_seconds_30 rfl (Nat.le_of_ble_eq_true rfl) rfl ?_
      refine x_iinc (pc := 31) (i := 3) (v := (x3 + 1)) (L' := [some (.ref (gAd Γ.1 k0)), some (.int p1), some (.int (x2 + w21)), some (.int (x3 + 1))]) h dX10_seconds_31 rfl rfl rfl ?_
      refine x_goto (pc := 34) (tgt := 4) h dX10_seconds_34 (by decide) ?_
      exact At.mask [true, true, true, true] rfl rfl (hg4 (x2 + w21) (x3 + 1))
    · refine j_icmp_lt (pc := 21) (tgt := 28) h dX10_seconds_21 (by decide) (fun hc21_0 => ?_) (fun hc21_0 => ?_)
      · refine x_iconst (pc := 28) (v := 0) h dX10_seconds_28 (by decide) ?_
        exact kj21 0 (by rw [if_pos hc21_0])
      · refine x_iconst (pc := 24) (v := 1) h dX10_seconds_24 (by decide) ?_
        refine x_goto (pc := 25) (tgt := 29) h dX10_seconds_25 (by decide) ?_
        exact kj21 1 (by rw [if_neg hc21_0])

theorem f_X10_seconds_W4_at (fu : Nat) (σ : gSt) (k0 : Nat) (p1 : Int32) {Γ : gX (Int32)} (h : gOk Γ cX10_seconds 4 RX10 (some .int) 3 67) (z : gEnd Γ (gQp σ)) (hk0 : isO k0 10) : ∀ (n : Nat) (x2 : Int32) (x3 : Int32), At Γ 4 [some (.ref (gAd Γ.1 k0)), some (.int p1), some (.int x2), some (.int x3)] [] σ (f_X10_seconds_W4 fu σ k0 p1 n x2 x3) := by
  intro n
  induction n with
  | zero => intro x2 x3 r hr; cases hr
  | succ n ih =>
    intro x2 x3
    exact f_X10_seconds_L4_at fu σ k0 p1 (f_X10_seconds_W4 fu σ k0 p1 n) h z hk0 ih x2 x3

set_option maxRecDepth 20000 in
set_option maxHeartbeats 4000000 in
theorem c_X10_seconds (fu : Nat) (σ : gSt) (k0 : Nat) (p1 : Int32) (hk0 : isO k0 10) : gCt yX10_seconds cX10_seconds 4 (some .int) 3 67 (gQp σ) (fun ad => [.ref (ad k0), .int p1]) σ (f_X10_seconds fu σ k0 p1) := by
  refine gCt_intro RX10 rfl (by decide +kernel) (fun ad v hv => by simp only [List.mem_cons, List.not_mem_nil, or_false] at hv; rcases hv with rfl | rfl <;> rfl) (fun ad => Nat.le_of_ble_eq_true rfl) (fun Γ h z => ?_)
  show At Γ 0 [some (.ref (gAd Γ.1 k0)), some (.int p1), none, none] [] σ _
  unfold f_X10_seconds
  refine x_iconst (pc := 0) (v := 0) h dX10_seconds_0 (by decide) ?_
  refine x_istore_n (pc := 1) (i := 2) (L' := [some (.ref (gAd Γ.1 k0)), some (.int p1), some (.int 0), none]) h dX10_seconds_1 rfl (Nat.le_of_ble_eq_true rfl) rfl ?_
  refine x_iconst (pc := 2) (v := 0) h dX10_seconds_2 (by decide) ?_
  refine x_istore_n (pc := 3) (i := 3) (L' := [some (.ref (gAd Γ.1 k0)), some (.int p1), some (.int 0), some (.int 0)]) h dX10_seconds_3 rfl (Nat.le_of_ble_eq_true rfl) rfl ?_
  exact At.mask [true, true, true, true] rfl rfl (f_X10_seconds_W4_at fu σ k0 p1 h z hk0 fu 0 0)

set_option maxRecDepth 20000 in
set_option maxHeartbeats 4000000 in
theorem f_X10_count_J117_at (fu : Nat) (σ : gSt) (k0 : Nat) (p1 : Int32) {Γ : gX (Int32)} (h : gOk Γ cX10_count 2 RX10 (some .int) 4 92) (z : gEnd Γ (gQp σ)) (hk0 : isO k0 10) : At Γ 117 [some (.ref (gAd Γ.1 k0)), some (.int p1)] [] σ (f_X10_count_J117 fu σ k0 p1) := by
  unfold f_X10_count_J117
  refine x_aload_n (pc := 117) (i := 0) h dX10_count_117 rfl rfl ?_
  refine x_iload_n (pc := 118) (i := 1) h dX10_count_118 rfl rfl ?_
  refine x_Vp (pc := 119) (av := fun ad => [.int p1]) (rest := []) h m_X10_ofTurns i_X10_ofTurns kl_X10_165 hk0 (by decide) rfl (c_X10_ofTurns fu σ k0 p1 hk0) rfl rfl (gCaM rfl) dX10_count_119 (fun v119 => ?_)
  exact x_iretp (pc := 122) h z rfl .int rfl rfl dX10_count_122

set_option maxRecDepth 20000 in
set_option maxHeartbeats 4000000 in
theorem f_X10_count_J128_at (fu : Nat) (σ : gSt) (k0 : Nat) (p1 : Int32) {Γ : gX (Int32)} (h : gOk Γ cX10_count 2 RX10 (some .int) 4 92) (z : gEnd Γ (gQp σ)) (hk0 : isO k0 10) : At Γ 128 [some (.ref (gAd Γ.1 k0)), some (.int p1)] [] σ (f_X10_count_J128 fu σ k0 p1) := by
  unfold f_X10_count_J128
  refine x_aload_n (pc := 128) (i := 0) h dX10_count_128 rfl rfl ?_
  refine x_iload_n (pc := 129) (i := 1) h dX10_count_129 rfl rfl ?_
  refine x_iconst (pc := 130) (v := 5) h dX10_count_130 (by decide) ?_
  refine x_isub (pc := 131) h dX10_count_131 ?_
  refine x_Vp (pc := 132) (av := fun ad => [.int (p1 - 5)]) (rest := []) h m_X10_seconds i_X10_seconds kl_X10_171 hk0 (by decide) rfl (c_X10_seconds fu σ k0 (p1 - 5) hk0) rfl rfl (gCaM rfl) dX10_count_132 (fun v132 => ?_)
  exact x_iretp (pc := 135) h z rfl .int rfl rfl dX10_count_135

set_option maxRecDepth 20000 in
set_option maxHeartbeats 4000000 in
theorem c_X10_count (fu : Nat) (σ : gSt) (k0 : Nat) (p1 : Int32) (hk0 : isO k0 10) : gCt yX10_count cX10_count 2 (some .int) 4 92 (gQp σ) (fun ad => [.ref (ad k0), .int p1]) σ (f_X10_count fu σ k0 p1) := by
  refine gCt_intro RX10 rfl (by decide +kernel) (fun ad v hv => by simp only [List.mem_cons, List.not_mem_nil, or_false] at hv; rcases hv with rfl | rfl <;> rfl) (fun ad => Nat.le_of_ble_eq_true rfl) (fun Γ h z => ?_)
  show At Γ 0 [some (.ref (gAd Γ.1 k0)), some (.int p1)] [] σ _
  unfold f_X10_count
  refine x_iload_n (pc := 0) (i := 1) h dX10_count_0 rfl rfl ?_
  refine x_tsw (pc := 1) (tgt := 100) h 0 (0) dX10_count_1 rfl (by decide) (by decide) rfl (by decide) ?_ (fun c1_0 => ?_)
  · refine x_aload_n (pc := 100) (i := 0) h dX10_count_100 rfl rfl ?_
    refine gf_X10_7 (pc := 101) h hk0 dX10_count_101 ?_
    refine x_sipush (pc := 104) (v := 282) h dX10_count_104 (by decide) ?_
    refine x_ialdS (pc := 107) h 282 (t_10_0 hk0) (by decide) (by decide) (by decide) dX10_count_107 ?_
    exact x_iretp (pc := 108) h z rfl .int rfl rfl dX10_count_108
  refine x_tsw (pc := 1) (tgt := 109) h 1 (1) dX10_count_1 rfl (by decide) (by decide) rfl (by decide) ?_ (fun c1_1 => ?_)
  · refine x_aload_n (pc := 109) (i := 0) h dX10_count_109 rfl rfl ?_
    refine x_Vp (pc := 110) (av := fun ad => []) (rest := []) h m_X10_voicesAll i_X10_voicesAll kl_X10_162 hk0 (by decide) rfl (c_X10_voicesAll fu σ k0 hk0) rfl rfl (gCaM rfl) dX10_count_110 (fun v110 => ?_)
    refine x_Sp (pc := 113) (av := fun ad => [.int v110]) (rest := []) h m_X10_ones s_X10_ones kl_X10_159 (c_X10_ones fu σ v110) rfl rfl (gCaM rfl) dX10_count_113 (fun v113 => ?_)
    exact x_iretp (pc := 116) h z rfl .int rfl rfl dX10_count_116
  refine x_tsw (pc := 1) (tgt := 117) h 2 (2) dX10_count_1 rfl (by decide) (by decide) rfl (by decide) ?_ (fun c1_2 => ?_)
  · exact At.mask [true, true] rfl rfl (f_X10_count_J117_at fu σ k0 p1 h z hk0)
  refine x_tsw (pc := 1) (tgt := 123) h 3 (3) dX10_count_1 rfl (by decide) (by decide) rfl (by decide) ?_ (fun c1_3 => ?_)
  · refine x_aload_n (pc := 123) (i := 0) h dX10_count_123 rfl rfl ?_
    refine x_Vp (pc := 124) (av := fun ad => []) (rest := []) h m_X10_corrections i_X10_corrections kl_X10_168 hk0 (by decide) rfl (c_X10_corrections fu σ k0 hk0) rfl rfl (gCaM rfl) dX10_count_124 (fun v124 => ?_)
    exact x_iretp (pc := 127) h z rfl .int rfl rfl dX10_count_127
  refine x_tsw (pc := 1) (tgt := 117) h 4 (4) dX10_count_1 rfl (by decide) (by decide) rfl (by decide) ?_ (fun c1_4 => ?_)
  · exact At.mask [true, true] rfl rfl (f_X10_count_J117_at fu σ k0 p1 h z hk0)
  refine x_tsw (pc := 1) (tgt := 117) h 5 (5) dX10_count_1 rfl (by decide) (by decide) rfl (by decide) ?_ (fun c1_5 => ?_)
  · exact At.mask [true, true] rfl rfl (f_X10_count_J117_at fu σ k0 p1 h z hk0)
  refine x_tsw (pc := 1) (tgt := 128) h 6 (6) dX10_count_1 rfl (by decide) (by decide) rfl (by decide) ?_ (fun c1_6 => ?_)
  · exact At.mask [true, true] rfl rfl (f_X10_count_J128_at fu σ k0 p1 h z hk0)
  refine x_tsw (pc := 1) (tgt := 128) h 7 (7) dX10_count_1 rfl (by decide) (by decide) rfl (by decide) ?_ (fun c1_7 => ?_)
  · exact At.mask [true, true] rfl rfl (f_X10_count_J128_at fu σ k0 p1 h z hk0)
  refine x_tsw (pc := 1) (tgt := 136) h 8 (8) dX10_count_1 rfl (by decide) (by decide) rfl (by decide) ?_ (fun c1_8 => ?_)
  · refine x_aload_n (pc := 136) (i := 0) h dX10_count_136 rfl rfl ?_
    refine gf_X10_35 (pc := 137) h hk0 dX10_count_137 ?_
    exact x_iretp (pc := 140) h z rfl .int rfl rfl dX10_count_140
  refine x_tsw (pc := 1) (tgt := 141) h 9 (9) dX10_count_1 rfl (by decide) (by decide) rfl (by decide) ?_ (fun c1_9 => ?_)
  · refine x_aload_n (pc := 141) (i := 0) h dX10_count_141 rfl rfl ?_
    refine gf_X10_174 (pc := 142) h hk0 dX10_count_142 ?_
    exact x_iretp (pc := 145) h z rfl .int rfl rfl dX10_count_145
  refine x_tsw (pc := 1) (tgt := 146) h 10 (10) dX10_count_1 rfl (by decide) (by decide) rfl (by decide) ?_ (fun c1_10 => ?_)
  · refine x_aload_n (pc := 146) (i := 0) h dX10_count_146 rfl rfl ?_
    refine x_Vp (pc := 147) (av := fun ad => []) (rest := []) h m_X10_voicesAll i_X10_voicesAll kl_X10_162 hk0 (by decide) rfl (c_X10_voicesAll fu σ k0 hk0) rfl rfl (gCaM rfl) dX10_count_147 (fun v147 => ?_)
    exact x_iretp (pc := 150) h z rfl .int rfl rfl dX10_count_150
  refine x_tsw (pc := 1) (tgt := 160) h 11 (11) dX10_count_1 rfl (by decide) (by decide) rfl (by decide) ?_ (fun c1_11 => ?_)
  · refine x_ldc (pc := 160) h kc_X10_50 dX10_count_160 ?_
    exact x_iretp (pc := 162) h z rfl .int rfl rfl dX10_count_162
  refine x_tsw (pc := 1) (tgt := 160) h 12 (12) dX10_count_1 rfl (by decide) (by decide) rfl (by decide) ?_ (fun c1_12 => ?_)
  · refine x_ldc (pc := 160) h kc_X10_50 dX10_count_160 ?_
    exact x_iretp (pc := 162) h z rfl .int rfl rfl dX10_count_162
  refine x_tsw (pc := 1) (tgt := 160) h 13 (13) dX10_count_1 rfl (by decide) (by decide) rfl (by decide) ?_ (fun c1_13 => ?_)
  · refine x_ldc (pc := 160) h kc_X10_50 dX10_count_160 ?_
    exact x_iretp (pc := 162) h z rfl .int rfl rfl dX10_count_162
  refine x_tsw (pc := 1) (tgt := 160) h 14 (14) dX10_count_1 rfl (by decide) (by decide) rfl (by decide) ?_ (fun c1_14 => ?_)
  · refine x_ldc (pc := 160) h kc_X10_50 dX10_count_160 ?_
    exact x_iretp (pc := 162) h z rfl .int rfl rfl dX10_count_162
  refine x_tsw (pc := 1) (tgt := 160) h 15 (15) dX10_count_1 rfl (by decide) (by decide) rfl (by decide) ?_ (fun c1_15 => ?_)
  · refine x_ldc (pc := 160) h kc_X10_50 dX10_count_160 ?_
    exact x_iretp (pc := 162) h z rfl .int rfl rfl dX10_count_162
  refine x_tsw (pc := 1) (tgt := 160) h 16 (16) dX10_count_1 rfl (by decide) (by decide) rfl (by decide) ?_ (fun c1_16 => ?_)
  · refine x_ldc (pc := 160) h kc_X10_50 dX10_count_160 ?_
    exact x_iretp (pc := 162) h z rfl .int rfl rfl dX10_count_162
  refine x_tsw (pc := 1) (tgt := 160) h 17 (17) dX10_count_1 rfl (by decide) (by decide) rfl (by decide) ?_ (fun c1_17 => ?_)
  · refine x_ldc (pc := 160) h kc_X10_50 dX10_count_160 ?_
    exact x_iretp (pc := 162) h z rfl .int rfl rfl dX10_count_162
  refine x_tsw (pc := 1) (tgt := 160) h 18 (18) dX10_count_1 rfl (by decide) (by decide) rfl (by decide) ?_ (fun c1_18 => ?_)
  · refine x_ldc (pc := 160) h kc_X10_50 dX10_count_160 ?_
    exact x_iretp (pc := 162) h z rfl .int rfl rfl dX10_count_162
  refine x_tsw (pc := 1) (tgt := 160) h 19 (19) dX10_count_1 rfl (by decide) (by decide) rfl (by decide) ?_ (fun c1_19 => ?_)
  · refine x_ldc (pc := 160) h kc_X10_50 dX10_count_160 ?_
    exact x_iretp (pc := 162) h z rfl .int rfl rfl dX10_count_162
  refine x_tsw (pc := 1) (tgt := 151) h 20 (20) dX10_count_1 rfl (by decide) (by decide) rfl (by decide) ?_ (fun c1_20 => ?_)
  · refine x_aload_n (pc := 151) (i := 0) h dX10_count_151 rfl rfl ?_
    refine gf_X10_7 (pc := 152) h hk0 dX10_count_152 ?_
    refine x_sipush (pc := 155) (v := 283) h dX10_count_155 (by decide) ?_
    refine x_ialdS (pc := 158) h 283 (t_10_0 hk0) (by decide) (by decide) (by decide) dX10_count_158 ?_
    exact x_iretp (pc := 159) h z rfl .int rfl rfl dX10_count_159
  refine x_tswd (pc := 1) (tgt := 160) h dX10_count_1 (by have e0 := gNe (0) c1_0 rfl; have e1 := gNe (1) c1_1 rfl; have e2 := gNe (2) c1_2 rfl; have e3 := gNe (3) c1_3 rfl; have e4 := gNe (4) c1_4 rfl; have e5 := gNe (5) c1_5 rfl; have e6 := gNe (6) c1_6 rfl; have e7 := gNe (7) c1_7 rfl; have e8 := gNe (8) c1_8 rfl; have e9 := gNe (9) c1_9 rfl; have e10 := gNe (10) c1_10 rfl; have e11 := gNe (11) c1_11 rfl; have e12 := gNe (12) c1_12 rfl; have e13 := gNe (13) c1_13 rfl; have e14 := gNe (14) c1_14 rfl; have e15 := gNe (15) c1_15 rfl; have e16 := gNe (16) c1_16 rfl; have e17 := gNe (17) c1_17 rfl; have e18 := gNe (18) c1_18 rfl; have e19 := gNe (19) c1_19 rfl; have e20 := gNe (20) c1_20 rfl; omega) (by decide) ?_
  refine x_ldc (pc := 160) h kc_X10_50 dX10_count_160 ?_
  exact x_iretp (pc := 162) h z rfl .int rfl rfl dX10_count_162

set_option maxRecDepth 20000 in
set_option maxHeartbeats 4000000 in
theorem c_X1_isEmpty (fu : Nat) (σ : gSt) (k0 : Nat) (hk0 : isO k0 1) : gCt yX1_isEmpty cX1_isEmpty 1 (some .boolean) 0 0 (gQp σ) (fun ad => [.ref (ad k0)]) σ (f_X1_isEmpty fu σ k0) := by
  refine gCt_intro RX1 rfl (by decide +kernel) (fun ad v hv => by simp only [List.mem_cons, List.not_mem_nil, or_false] at hv; rcases hv with rfl <;> rfl) (fun ad => Nat.le_of_ble_eq_true rfl) (fun Γ h z => ?_)
  show At Γ 0 [some (.ref (gAd Γ.1 k0))] [] σ _
  unfold f_X1_isEmpty
  refine x_aload_n (pc := 0) (i := 0) h dX1_isEmpty_0 rfl rfl ?_
  refine gf_X1_18 (pc := 1) h hk0 dX1_isEmpty_1 ?_
  refine x_if_ne (pc := 4) (tgt := 11) h dX1_isEmpty_4 (by decide) ?_ ?_
  · refine x_iconst (pc := 11) (v := 0) h dX1_isEmpty_11 (by decide) ?_
    exact x_iretp (pc := 12) h z rfl .boolean rfl rfl dX1_isEmpty_12
  · refine x_iconst (pc := 7) (v := 1) h dX1_isEmpty_7 (by decide) ?_
    refine x_goto (pc := 8) (tgt := 12) h dX1_isEmpty_8 (by decide) ?_
    exact x_iretp (pc := 12) h z rfl .boolean rfl rfl dX1_isEmpty_12

set_option maxRecDepth 20000 in
set_option maxHeartbeats 4000000 in
theorem c_X1_restoreLatest (fu : Nat) (σ : gSt) (k0 : Nat) (k1 : Nat) (hk0 : isO k0 1) (hk1 : isO k1 7) : gCt yX1_restoreLatest cX1_restoreLatest 2 (some .int) 4 93 gQi (fun ad => [.ref (ad k0), .ref (ad k1)]) σ (f_X1_restoreLatest fu σ k0 k1) := by
  refine gCt_intro RX1 rfl (by decide +kernel) (fun ad v hv => by simp only [List.mem_cons, List.not_mem_nil, or_false] at hv; rcases hv with rfl | rfl <;> rfl) (fun ad => Nat.le_of_ble_eq_true rfl) (fun Γ h z => ?_)
  show At Γ 0 [some (.ref (gAd Γ.1 k0)), some (.ref (gAd Γ.1 k1))] [] σ _
  unfold f_X1_restoreLatest
  refine x_aload_n (pc := 0) (i := 0) h dX1_restoreLatest_0 rfl rfl ?_
  refine gf_X1_18 (pc := 1) h hk0 dX1_restoreLatest_1 ?_
  refine x_if_le (pc := 4) (tgt := 29) h dX1_restoreLatest_4 (by decide) ?_ ?_
  · refine x_aload_n (pc := 29) (i := 0) h dX1_restoreLatest_29 rfl rfl ?_
    refine gf_X1_18 (pc := 30) h hk0 dX1_restoreLatest_30 ?_
    exact x_ireti (pc := 33) h z .int rfl rfl dX1_restoreLatest_33
  · refine x_aload_n (pc := 7) (i := 0) h dX1_restoreLatest_7 rfl rfl ?_
    refine x_dup (pc := 8) h dX1_restoreLatest_8 rfl ?_
    refine gf_X1_18 (pc := 9) h hk0 dX1_restoreLatest_9 ?_
    refine x_iconst (pc := 12) (v := 1) h dX1_restoreLatest_12 (by decide) ?_
    refine x_isub (pc := 13) h dX1_restoreLatest_13 ?_
    refine x_put (pc := 14) h 1 2 .int hk0 (by decide) (by decide) rfl rfl rfl rfl rfl kf_X1_18 dX1_restoreLatest_14 (fun σ14 => ?_)
    refine x_aload_n (pc := 17) (i := 0) h dX1_restoreLatest_17 rfl rfl ?_
    refine x_aload_n (pc := 18) (i := 0) h dX1_restoreLatest_18 rfl rfl ?_
    refine gf_X1_18 (pc := 19) h hk0 dX1_restoreLatest_19 ?_
    refine x_Vr (pc := 22) (av := fun ad => [.int (σ14 k0 2)]) (rest := []) h m_X1_stateAt i_X1_stateAt kl_X1_22 hk0 (by decide) rfl (c_X1_stateAt fu σ14 k0 (σ14 k0 2) hk0) rfl rfl (gCaM rfl) dX1_restoreLatest_22 (fun q22 hq22 => ?_)
    refine x_aload_n (pc := 25) (i := 1) h dX1_restoreLatest_25 rfl rfl ?_
    refine x_Sv (pc := 26) (av := fun ad => [.ref (ad q22), .ref (ad k1)]) (rest := []) h m_X1_copy s_X1_copy kl_X1_26 (c_X1_copy fu σ14 q22 k1 hq22 hk1) rfl rfl (gCaM rfl) dX1_restoreLatest_26 (fun σ26 => ?_)
    refine x_aload_n (pc := 29) (i := 0) h dX1_restoreLatest_29 rfl rfl ?_
    refine gf_X1_18 (pc := 30) h hk0 dX1_restoreLatest_30 ?_
    exact x_ireti (pc := 33) h z .int rfl rfl dX1_restoreLatest_33

set_option maxRecDepth 20000 in
set_option maxHeartbeats 4000000 in
theorem c_X9_undo (fu : Nat) (σ : gSt) (k0 : Nat) (hk0 : isO k0 9) : gCt yX9_undo cX9_undo 1 (some .int) 5 114 gQi (fun ad => [.ref (ad k0)]) σ (f_X9_undo fu σ k0) := by
  refine gCt_intro RX9 rfl (by decide +kernel) (fun ad v hv => by simp only [List.mem_cons, List.not_mem_nil, or_false] at hv; rcases hv with rfl <;> rfl) (fun ad => Nat.le_of_ble_eq_true rfl) (fun Γ h z => ?_)
  show At Γ 0 [some (.ref (gAd Γ.1 k0))] [] σ _
  unfold f_X9_undo
  refine x_aload_n (pc := 0) (i := 0) h dX9_undo_0 rfl rfl ?_
  refine gf_X9_22 (pc := 1) h hk0 dX9_undo_1 ?_
  refine x_Vp (pc := 4) (av := fun ad => []) (rest := []) h m_X1_isEmpty i_X1_isEmpty kl_X9_133 (t_9_2 hk0) (by decide) rfl (c_X1_isEmpty fu σ (k0 + 8) (t_9_2 hk0)) rfl rfl (gCaM rfl) dX9_undo_4 (fun v4 => ?_)
  refine x_if_eq (pc := 7) (tgt := 13) h dX9_undo_7 (by decide) ?_ ?_
  · refine x_aload_n (pc := 13) (i := 0) h dX9_undo_13 rfl rfl ?_
    refine gf_X9_22 (pc := 14) h hk0 dX9_undo_14 ?_
    refine x_aload_n (pc := 17) (i := 0) h dX9_undo_17 rfl rfl ?_
    refine gf_X9_10 (pc := 18) h hk0 dX9_undo_18 ?_
    refine x_Vi (pc := 21) (av := fun ad => [.ref (ad (k0 + 10))]) (rest := []) h m_X1_restoreLatest i_X1_restoreLatest kl_X9_138 (t_9_2 hk0) (by decide) rfl (c_X1_restoreLatest fu σ (k0 + 8) (k0 + 10) (t_9_2 hk0) (t_9_0 hk0)) rfl rfl (gCaM rfl) dX9_undo_21 (fun v21 σ21 => ?_)
    exact x_ireti (pc := 24) h z .int rfl rfl dX9_undo_24
  · refine x_ldc (pc := 10) h kc_X9_137 dX9_undo_10 ?_
    exact x_ireti (pc := 12) h z .int rfl rfl dX9_undo_12

