theorem f_X10_turnsTo_W74_at (fu : Nat) (k0 : Nat) (p1 : Int32) (p2 : Int32) (p3 : Int32) (ag58 : Int32 → Int32 → Option (Int32 × gSt)) (σ : gSt) (x4 : Int32) (x6 : Int32) {Γ : gX (Int32 × gSt)} (h : gOk Γ cX10_turnsTo 8 RX10 (some .int) 1 22) (z : gEnd Γ gQi) (hk0 : isO k0 10) (hg58 : ∀ (y5 : Int32) (y6 : Int32), At Γ 58 [some (.ref (gAd Γ.1 k0)), some (.int p1), some (.int p2), some (.int p3), some (.int x4), some (.int y5), some (.int y6), none] [] σ (ag58 y5 y6)) : ∀ (n : Nat) (x5 : Int32) (x7 : Int32), At Γ 74 [some (.ref (gAd Γ.1 k0)), some (.int p1), some (.int p2), some (.int p3), some (.int x4), some (.int x5), some (.int x6), some (.int x7)] [] σ (f_X10_turnsTo_W74 fu k0 p1 p2 p3 ag58 σ x4 x6 n x5 x7) := by
  intro n
  induction n with
  | zero => intro x5 x7 r hr; cases hr
  | succ n ih =>
    intro x5 x7
    exact f_X10_turnsTo_L74_at fu k0 p1 p2 p3 ag58 σ x4 x6 (f_X10_turnsTo_W74 fu k0 p1 p2 p3 ag58 σ x4 x6 n) h z hk0 hg58 ih x5 x7

set_option maxRecDepth 20000 in
set_option maxHeartbeats 4000000 in
theorem f_X10_turnsTo_L58_at (fu : Nat) (k0 : Nat) (p1 : Int32) (p2 : Int32) (p3 : Int32) (σ : gSt) (x4 : Int32) (ag58 : Int32 → Int32 → Option (Int32 × gSt)) {Γ : gX (Int32 × gSt)} (h : gOk Γ cX10_turnsTo 8 RX10 (some .int) 1 22) (z : gEnd Γ gQi) (hk0 : isO k0 10) (hg58 : ∀ (y5 : Int32) (y6 : Int32), At Γ 58 [some (.ref (gAd Γ.1 k0)), some (.int p1), some (.int p2), some (.int p3), some (.int x4), some (.int y5), some (.int y6), none] [] σ (ag58 y5 y6)) (x5 : Int32) (x6 : Int32) : At Γ 58 [some (.ref (gAd Γ.1 k0)), some (.int p1), some (.int p2), some (.int p3), some (.int x4), some (.int x5), some (.int x6), none] [] σ (f_X10_turnsTo_L58 fu k0 p1 p2 p3 σ x4 ag58 x5 x6) := by
  unfold f_X10_turnsTo_L58
  refine x_iload (pc := 58) h dX10_turnsTo_58 rfl ?_
  refine x_aload_n (pc := 60) (i := 0) h dX10_turnsTo_60 rfl rfl ?_
  refine gf_X10_7 (pc := 61) h hk0 dX10_turnsTo_61 ?_
  refine x_sipush (pc := 64) (v := 282) h dX10_turnsTo_64 (by decide) ?_
  refine x_ialdS (pc := 67) h 282 (t_10_0 hk0) (by decide) (by decide) (by decide) dX10_turnsTo_67 ?_
  refine x_icmp_ge (pc := 68) (tgt := 140) h dX10_turnsTo_68 (by decide) ?_ ?_
  · refine x_aload_n (pc := 140) (i := 0) h dX10_turnsTo_140 rfl rfl ?_
    refine gf_X10_7 (pc := 141) h hk0 dX10_turnsTo_141 ?_
    refine x_sipush (pc := 144) (v := 260) h dX10_turnsTo_144 (by decide) ?_
    refine x_iload_n (pc := 147) (i := 1) h dX10_turnsTo_147 rfl rfl ?_
    refine x_iadd (pc := 148) h dX10_turnsTo_148 ?_
    refine x_iload_n (pc := 149) (i := 3) h dX10_turnsTo_149 rfl rfl ?_
    refine x_nm (e := (if p3 = 0 then x4 else p2)) (pcJ := 159) (LJ := [some (.ref (gAd Γ.1 k0)), some (.int p1), some (.int p2), some (.int p3), some (.int x4), some (.int x5), some (.int x6), none]) (sJ := [.int (260 + p1), .ref (gAd Γ.1 (k0 + 1))]) (fun w150 => ?_) (fun kj150 => ?_)
    · exact At.mask [false, false, false, false, false, true, false, false] rfl rfl (f_X10_turnsTo_J159_at fu k0 p1 p2 p3 h z hk0 x5 w150 (260 + p1) σ)
    · refine j_if_eq (pc := 150) (tgt := 157) h dX10_turnsTo_150 (by decide) (fun hc150_0 => ?_) (fun hc150_0 => ?_)
      · refine x_iload (pc := 157) h dX10_turnsTo_157 rfl ?_
        exact kj150 x4 (by rw [if_pos hc150_0])
      · refine x_iload_n (pc := 153) (i := 2) h dX10_turnsTo_153 rfl rfl ?_
        refine x_goto (pc := 154) (tgt := 159) h dX10_turnsTo_154 (by decide) ?_
        exact kj150 p2 (by rw [if_neg hc150_0])
  · refine x_iconst (pc := 71) (v := 0) h dX10_turnsTo_71 (by decide) ?_
    refine x_istore (pc := 72) (L' := [some (.ref (gAd Γ.1 k0)), some (.int p1), some (.int p2), some (.int p3), some (.int x4), some (.int x5), some (.int x6), some (.int 0)]) h dX10_turnsTo_72 (Nat.le_of_ble_eq_true rfl) rfl ?_
    exact At.mask [true, true, true, true, true, true, true, true] rfl rfl (f_X10_turnsTo_W74_at fu k0 p1 p2 p3 ag58 σ x4 x6 h z hk0 hg58 fu x5 0)

theorem f_X10_turnsTo_W58_at (fu : Nat) (k0 : Nat) (p1 : Int32) (p2 : Int32) (p3 : Int32) (σ : gSt) (x4 : Int32) {Γ : gX (Int32 × gSt)} (h : gOk Γ cX10_turnsTo 8 RX10 (some .int) 1 22) (z : gEnd Γ gQi) (hk0 : isO k0 10) : ∀ (n : Nat) (x5 : Int32) (x6 : Int32), At Γ 58 [some (.ref (gAd Γ.1 k0)), some (.int p1), some (.int p2), some (.int p3), some (.int x4), some (.int x5), some (.int x6), none] [] σ (f_X10_turnsTo_W58 fu k0 p1 p2 p3 σ x4 n x5 x6) := by
  intro n
  induction n with
  | zero => intro x5 x6 r hr; cases hr
  | succ n ih =>
    intro x5 x6
    exact f_X10_turnsTo_L58_at fu k0 p1 p2 p3 σ x4 (f_X10_turnsTo_W58 fu k0 p1 p2 p3 σ x4 n) h z hk0 ih x5 x6

set_option maxRecDepth 20000 in
set_option maxHeartbeats 4000000 in
theorem f_X10_turnsTo_L15_at (fu : Nat) (k0 : Nat) (p1 : Int32) (p2 : Int32) (p3 : Int32) (x4 : Int32) (ag15 : Int32 → gSt → Option (Int32 × gSt)) {Γ : gX (Int32 × gSt)} (h : gOk Γ cX10_turnsTo 8 RX10 (some .int) 1 22) (z : gEnd Γ gQi) (hk0 : isO k0 10) (hg15 : ∀ (y5 : Int32) (τ : gSt), At Γ 15 [some (.ref (gAd Γ.1 k0)), some (.int p1), some (.int p2), some (.int p3), some (.int x4), some (.int y5), none, none] [] τ (ag15 y5 τ)) (x5 : Int32) (σ : gSt) : At Γ 15 [some (.ref (gAd Γ.1 k0)), some (.int p1), some (.int p2), some (.int p3), some (.int x4), some (.int x5), none, none] [] σ (f_X10_turnsTo_L15 fu k0 p1 p2 p3 x4 ag15 x5 σ) := by
  unfold f_X10_turnsTo_L15
  refine x_iload (pc := 15) h dX10_turnsTo_15 rfl ?_
  refine x_bipush (pc := 17) (v := 16) h dX10_turnsTo_17 (by decide) ?_
  refine x_icmp_ge (pc := 19) (tgt := 41) h dX10_turnsTo_19 (by decide) ?_ ?_
  · refine x_aload_n (pc := 41) (i := 0) h dX10_turnsTo_41 rfl rfl ?_
    refine gf_X10_7 (pc := 42) h hk0 dX10_turnsTo_42 ?_
    refine x_sipush (pc := 45) (v := 260) h dX10_turnsTo_45 (by decide) ?_
    refine x_iload_n (pc := 48) (i := 1) h dX10_turnsTo_48 rfl rfl ?_
    refine x_iadd (pc := 49) h dX10_turnsTo_49 ?_
    refine x_iload_n (pc := 50) (i := 2) h dX10_turnsTo_50 rfl rfl ?_
    refine x_iast (pc := 51) h (t_10_0 hk0) dX10_turnsTo_51 (fun σ51 => ?_)
    refine x_iconst (pc := 52) (v := 0) h dX10_turnsTo_52 (by decide) ?_
    refine x_istore (pc := 53) (L' := [some (.ref (gAd Γ.1 k0)), some (.int p1), some (.int p2), some (.int p3), some (.int x4), some (.int 0), none, none]) h dX10_turnsTo_53 (Nat.le_of_ble_eq_true rfl) rfl ?_
    refine x_iconst (pc := 55) (v := 0) h dX10_turnsTo_55 (by decide) ?_
    refine x_istore (pc := 56) (L' := [some (.ref (gAd Γ.1 k0)), some (.int p1), some (.int p2), some (.int p3), some (.int x4), some (.int 0), some (.int 0), none]) h dX10_turnsTo_56 (Nat.le_of_ble_eq_true rfl) rfl ?_
    exact At.mask [true, true, true, true, true, true, true, false] rfl rfl (f_X10_turnsTo_W58_at fu k0 p1 p2 p3 σ51 x4 h z hk0 fu 0 0)
  · refine x_aload_n (pc := 22) (i := 0) h dX10_turnsTo_22 rfl rfl ?_
    refine gf_X10_25 (pc := 23) h hk0 dX10_turnsTo_23 ?_
    refine x_iload (pc := 26) h dX10_turnsTo_26 rfl ?_
    refine x_aload_n (pc := 28) (i := 0) h dX10_turnsTo_28 rfl rfl ?_
    refine x_iload (pc := 29) h dX10_turnsTo_29 rfl ?_
    refine x_Vp (pc := 31) (av := fun ad => [.int x5]) (rest := [.int x5, .ref (gAd Γ.1 (k0 + 6))]) h m_X10_shown i_X10_shown kl_X10_73 hk0 (by decide) rfl (c_X10_shown fu σ k0 x5 hk0) rfl rfl (gCaM rfl) dX10_turnsTo_31 (fun v31 => ?_)
    refine x_iast (pc := 34) h (t_10_8 hk0) dX10_turnsTo_34 (fun σ34 => ?_)
    refine x_iinc (pc := 35) (i := 5) (v := (x5 + 1)) (L' := [some (.ref (gAd Γ.1 k0)), some (.int p1), some (.int p2), some (.int p3), some (.int x4), some (.int (x5 + 1)), none, none]) h dX10_turnsTo_35 rfl rfl rfl ?_
    refine x_goto (pc := 38) (tgt := 15) h dX10_turnsTo_38 (by decide) ?_
    exact At.mask [true, true, true, true, true, true, false, false] rfl rfl (hg15 (x5 + 1) σ34)

theorem f_X10_turnsTo_W15_at (fu : Nat) (k0 : Nat) (p1 : Int32) (p2 : Int32) (p3 : Int32) (x4 : Int32) {Γ : gX (Int32 × gSt)} (h : gOk Γ cX10_turnsTo 8 RX10 (some .int) 1 22) (z : gEnd Γ gQi) (hk0 : isO k0 10) : ∀ (n : Nat) (x5 : Int32) (σ : gSt), At Γ 15 [some (.ref (gAd Γ.1 k0)), some (.int p1), some (.int p2), some (.int p3), some (.int x4), some (.int x5), none, none] [] σ (f_X10_turnsTo_W15 fu k0 p1 p2 p3 x4 n x5 σ) := by
  intro n
  induction n with
  | zero => intro x5 σ r hr; cases hr
  | succ n ih =>
    intro x5 σ
    exact f_X10_turnsTo_L15_at fu k0 p1 p2 p3 x4 (f_X10_turnsTo_W15 fu k0 p1 p2 p3 x4 n) h z hk0 ih x5 σ

set_option maxRecDepth 20000 in
set_option maxHeartbeats 4000000 in
theorem c_X10_turnsTo (fu : Nat) (σ : gSt) (k0 : Nat) (p1 : Int32) (p2 : Int32) (p3 : Int32) (hk0 : isO k0 10) : gCt yX10_turnsTo cX10_turnsTo 8 (some .int) 1 22 gQi (fun ad => [.ref (ad k0), .int p1, .int p2, .int p3]) σ (f_X10_turnsTo fu σ k0 p1 p2 p3) := by
  refine gCt_intro RX10 rfl (by decide +kernel) (fun ad v hv => by simp only [List.mem_cons, List.not_mem_nil, or_false] at hv; rcases hv with rfl | rfl | rfl | rfl <;> rfl) (fun ad => Nat.le_of_ble_eq_true rfl) (fun Γ h z => ?_)
  show At Γ 0 [some (.ref (gAd Γ.1 k0)), some (.int p1), some (.int p2), some (.int p3), none, none, none, none] [] σ _
  unfold f_X10_turnsTo
  refine x_aload_n (pc := 0) (i := 0) h dX10_turnsTo_0 rfl rfl ?_
  refine gf_X10_7 (pc := 1) h hk0 dX10_turnsTo_1 ?_
  refine x_sipush (pc := 4) (v := 260) h dX10_turnsTo_4 (by decide) ?_
  refine x_iload_n (pc := 7) (i := 1) h dX10_turnsTo_7 rfl rfl ?_
  refine x_iadd (pc := 8) h dX10_turnsTo_8 ?_
  refine x_iald (pc := 9) h (t_10_0 hk0) dX10_turnsTo_9 (fun v9 => ?_)
  refine x_istore (pc := 10) (L' := [some (.ref (gAd Γ.1 k0)), some (.int p1), some (.int p2), some (.int p3), some (.int v9), none, none, none]) h dX10_turnsTo_10 (Nat.le_of_ble_eq_true rfl) rfl ?_
  refine x_iconst (pc := 12) (v := 0) h dX10_turnsTo_12 (by decide) ?_
  refine x_istore (pc := 13) (L' := [some (.ref (gAd Γ.1 k0)), some (.int p1), some (.int p2), some (.int p3), some (.int v9), some (.int 0), none, none]) h dX10_turnsTo_13 (Nat.le_of_ble_eq_true rfl) rfl ?_
  exact At.mask [true, true, true, true, true, true, false, false] rfl rfl (f_X10_turnsTo_W15_at fu k0 p1 p2 p3 v9 h z hk0 fu 0 σ)

set_option maxRecDepth 20000 in
set_option maxHeartbeats 4000000 in
theorem c_X10_correct (fu : Nat) (σ : gSt) (k0 : Nat) (p1 : Int32) (p2 : Int32) (hk0 : isO k0 10) : gCt yX10_correct cX10_correct 4 (some .int) 3 64 gQi (fun ad => [.ref (ad k0), .int p1, .int p2]) σ (f_X10_correct fu σ k0 p1 p2) := by
  refine gCt_intro RX10 rfl (by decide +kernel) (fun ad v hv => by simp only [List.mem_cons, List.not_mem_nil, or_false] at hv; rcases hv with rfl | rfl | rfl <;> rfl) (fun ad => Nat.le_of_ble_eq_true rfl) (fun Γ h z => ?_)
  show At Γ 0 [some (.ref (gAd Γ.1 k0)), some (.int p1), some (.int p2), none] [] σ _
  unfold f_X10_correct
  refine x_aload_n (pc := 0) (i := 0) h dX10_correct_0 rfl rfl ?_
  refine x_iload_n (pc := 1) (i := 1) h dX10_correct_1 rfl rfl ?_
  refine x_iload_n (pc := 2) (i := 2) h dX10_correct_2 rfl rfl ?_
  refine x_Vp (pc := 3) (av := fun ad => [.int p1, .int p2]) (rest := []) h m_X10_mayCorrect i_X10_mayCorrect kl_X10_81 hk0 (by decide) rfl (c_X10_mayCorrect fu σ k0 p1 p2 hk0) rfl rfl (gCaM rfl) dX10_correct_3 (fun v3 => ?_)
  refine x_istore_n (pc := 6) (i := 3) (L' := [some (.ref (gAd Γ.1 k0)), some (.int p1), some (.int p2), some (.int v3)]) h dX10_correct_6 rfl (Nat.le_of_ble_eq_true rfl) rfl ?_
  refine x_iload_n (pc := 7) (i := 3) h dX10_correct_7 rfl rfl ?_
  refine x_if_ge (pc := 8) (tgt := 13) h dX10_correct_8 (by decide) ?_ ?_
  · refine x_aload_n (pc := 13) (i := 0) h dX10_correct_13 rfl rfl ?_
    refine x_Vv (pc := 14) (av := fun ad => []) (rest := []) h m_X10_changes i_X10_changes kl_X10_52 hk0 (by decide) rfl (c_X10_changes fu σ k0 hk0) rfl rfl (gCaM rfl) dX10_correct_14 (fun σ14 => ?_)
    refine x_aload_n (pc := 17) (i := 0) h dX10_correct_17 rfl rfl ?_
    refine x_iload_n (pc := 18) (i := 1) h dX10_correct_18 rfl rfl ?_
    refine x_iload_n (pc := 19) (i := 2) h dX10_correct_19 rfl rfl ?_
    refine x_iconst (pc := 20) (v := 1) h dX10_correct_20 (by decide) ?_
    refine x_Vi (pc := 21) (av := fun ad => [.int p1, .int p2, .int 1]) (rest := []) h m_X10_turnsTo i_X10_turnsTo kl_X10_84 hk0 (by decide) rfl (c_X10_turnsTo fu σ14 k0 p1 p2 1 hk0) rfl rfl (gCaM rfl) dX10_correct_21 (fun v21 σ21 => ?_)
    exact x_ireti (pc := 24) h z .int rfl rfl dX10_correct_24
  · refine x_iload_n (pc := 11) (i := 3) h dX10_correct_11 rfl rfl ?_
    exact x_ireti (pc := 12) h z .int rfl rfl dX10_correct_12

set_option maxRecDepth 20000 in
set_option maxHeartbeats 4000000 in
theorem c_X7_dropCorrection (fu : Nat) (σ : gSt) (k0 : Nat) (p1 : Int32) (hk0 : isO k0 7) : gCt yX7_dropCorrection cX7_dropCorrection 3 (some .int) 3 69 gQi (fun ad => [.ref (ad k0), .int p1]) σ (f_X7_dropCorrection fu σ k0 p1) := by
  refine gCt_intro RX7 rfl (by decide +kernel) (fun ad v hv => by simp only [List.mem_cons, List.not_mem_nil, or_false] at hv; rcases hv with rfl | rfl <;> rfl) (fun ad => Nat.le_of_ble_eq_true rfl) (fun Γ h z => ?_)
  show At Γ 0 [some (.ref (gAd Γ.1 k0)), some (.int p1), none] [] σ _
  unfold f_X7_dropCorrection
  refine x_iload_n (pc := 0) (i := 1) h dX7_dropCorrection_0 rfl rfl ?_
  refine x_Sp (pc := 1) (av := fun ad => [.int p1]) (rest := []) h m_X0_isTerm s_X0_isTerm kl_X7_67 (c_X0_isTerm fu σ p1) rfl rfl (gCaM rfl) dX7_dropCorrection_1 (fun v1 => ?_)
  refine x_if_ne (pc := 4) (tgt := 10) h dX7_dropCorrection_4 (by decide) ?_ ?_
  · refine x_aload_n (pc := 10) (i := 0) h dX7_dropCorrection_10 rfl rfl ?_
    refine gf_X7_21 (pc := 11) h hk0 dX7_dropCorrection_11 ?_
    refine x_iload_n (pc := 14) (i := 1) h dX7_dropCorrection_14 rfl rfl ?_
    refine x_Vp (pc := 15) (av := fun ad => [.int p1]) (rest := []) h m_X0_isCorrected i_X0_isCorrected kl_X7_124 (t_7_1 hk0) (by decide) rfl (c_X0_isCorrected fu σ (k0 + 8) p1 (t_7_1 hk0)) rfl rfl (gCaM rfl) dX7_dropCorrection_15 (fun v15 => ?_)
    refine x_if_ne (pc := 18) (tgt := 24) h dX7_dropCorrection_18 (by decide) ?_ ?_
    · refine x_aload_n (pc := 24) (i := 0) h dX7_dropCorrection_24 rfl rfl ?_
      refine x_iload_n (pc := 25) (i := 1) h dX7_dropCorrection_25 rfl rfl ?_
      refine x_iload_n (pc := 26) (i := 1) h dX7_dropCorrection_26 rfl rfl ?_
      refine x_Vp (pc := 27) (av := fun ad => [.int p1, .int p1]) (rest := []) h m_X7_placesReshown i_X7_placesReshown kl_X7_118 hk0 (by decide) rfl (c_X7_placesReshown fu σ k0 p1 p1 hk0) rfl rfl (gCaM rfl) dX7_dropCorrection_27 (fun v27 => ?_)
      refine x_istore_n (pc := 30) (i := 2) (L' := [some (.ref (gAd Γ.1 k0)), some (.int p1), some (.int v27)]) h dX7_dropCorrection_30 rfl (Nat.le_of_ble_eq_true rfl) rfl ?_
      refine x_aload_n (pc := 31) (i := 0) h dX7_dropCorrection_31 rfl rfl ?_
      refine gf_X7_21 (pc := 32) h hk0 dX7_dropCorrection_32 ?_
      refine x_iload_n (pc := 35) (i := 1) h dX7_dropCorrection_35 rfl rfl ?_
      refine x_iconst (pc := 36) (v := (-1)) h dX7_dropCorrection_36 (by decide) ?_
      refine x_Vv (pc := 37) (av := fun ad => [.int p1, .int (-1)]) (rest := []) h m_X0_put i_X0_put kl_X7_121 (t_7_1 hk0) (by decide) rfl (c_X0_put fu σ (k0 + 8) p1 (-1) (t_7_1 hk0)) rfl rfl (gCaM rfl) dX7_dropCorrection_37 (fun σ37 => ?_)
      refine x_iload_n (pc := 40) (i := 2) h dX7_dropCorrection_40 rfl rfl ?_
      exact x_ireti (pc := 41) h z .int rfl rfl dX7_dropCorrection_41
    · refine x_ldc (pc := 21) h kc_X7_127 dX7_dropCorrection_21 ?_
      exact x_ireti (pc := 23) h z .int rfl rfl dX7_dropCorrection_23
  · refine x_ldc (pc := 7) h kc_X7_50 dX7_dropCorrection_7 ?_
    exact x_ireti (pc := 9) h z .int rfl rfl dX7_dropCorrection_9

set_option maxRecDepth 20000 in
set_option maxHeartbeats 4000000 in
theorem c_X9_uncorrect (fu : Nat) (σ : gSt) (k0 : Nat) (p1 : Int32) (hk0 : isO k0 9) : gCt yX9_uncorrect cX9_uncorrect 2 (some .int) 6 135 gQi (fun ad => [.ref (ad k0), .int p1]) σ (f_X9_uncorrect fu σ k0 p1) := by
  refine gCt_intro RX9 rfl (by decide +kernel) (fun ad v hv => by simp only [List.mem_cons, List.not_mem_nil, or_false] at hv; rcases hv with rfl | rfl <;> rfl) (fun ad => Nat.le_of_ble_eq_true rfl) (fun Γ h z => ?_)
  show At Γ 0 [some (.ref (gAd Γ.1 k0)), some (.int p1)] [] σ _
  unfold f_X9_uncorrect
  refine x_aload_n (pc := 0) (i := 0) h dX9_uncorrect_0 rfl rfl ?_
  refine gf_X9_16 (pc := 1) h hk0 dX9_uncorrect_1 ?_
  refine x_aload_n (pc := 4) (i := 0) h dX9_uncorrect_4 rfl rfl ?_
  refine gf_X9_10 (pc := 5) h hk0 dX9_uncorrect_5 ?_
  refine x_Vv (pc := 8) (av := fun ad => [.ref (ad (k0 + 10))]) (rest := []) h m_X7_takeFrom i_X7_takeFrom kl_X9_51 (t_9_1 hk0) (by decide) rfl (c_X7_takeFrom fu σ (k0 + 22) (k0 + 10) (t_9_1 hk0) (t_9_0 hk0)) rfl rfl (gCaM rfl) dX9_uncorrect_8 (fun σ8 => ?_)
  refine x_aload_n (pc := 11) (i := 0) h dX9_uncorrect_11 rfl rfl ?_
  refine x_aload_n (pc := 12) (i := 0) h dX9_uncorrect_12 rfl rfl ?_
  refine gf_X9_10 (pc := 13) h hk0 dX9_uncorrect_13 ?_
  refine x_iload_n (pc := 16) (i := 1) h dX9_uncorrect_16 rfl rfl ?_
  refine x_Vi (pc := 17) (av := fun ad => [.int p1]) (rest := [.ref (gAd Γ.1 k0)]) h m_X7_dropCorrection i_X7_dropCorrection kl_X9_75 (t_9_0 hk0) (by decide) rfl (c_X7_dropCorrection fu σ8 (k0 + 10) p1 (t_9_0 hk0)) rfl rfl (gCaM rfl) dX9_uncorrect_17 (fun v17 σ17 => ?_)
  refine x_Vi (pc := 20) (av := fun ad => [.int v17]) (rest := []) h m_X9_recorded i_X9_recorded kl_X9_58 hk0 (by decide) rfl (c_X9_recorded fu σ17 k0 v17 hk0) rfl rfl (gCaM rfl) dX9_uncorrect_20 (fun v20 σ20 => ?_)
  exact x_ireti (pc := 23) h z .int rfl rfl dX9_uncorrect_23

set_option maxRecDepth 20000 in
set_option maxHeartbeats 4000000 in
theorem c_X10_uncorrect (fu : Nat) (σ : gSt) (k0 : Nat) (p1 : Int32) (hk0 : isO k0 10) : gCt yX10_uncorrect cX10_uncorrect 2 (some .int) 2 49 gQi (fun ad => [.ref (ad k0), .int p1]) σ (f_X10_uncorrect fu σ k0 p1) := by
  refine gCt_intro RX10 rfl (by decide +kernel) (fun ad v hv => by simp only [List.mem_cons, List.not_mem_nil, or_false] at hv; rcases hv with rfl | rfl <;> rfl) (fun ad => Nat.le_of_ble_eq_true rfl) (fun Γ h z => ?_)
  show At Γ 0 [some (.ref (gAd Γ.1 k0)), some (.int p1)] [] σ _
  unfold f_X10_uncorrect
  refine x_iload_n (pc := 0) (i := 1) h dX10_uncorrect_0 rfl rfl ?_
  refine x_Sp (pc := 1) (av := fun ad => [.int p1]) (rest := []) h m_X10_isTerm s_X10_isTerm kl_X10_70 (c_X10_isTerm fu σ p1) rfl rfl (gCaM rfl) dX10_uncorrect_1 (fun v1 => ?_)
  refine x_if_ne (pc := 4) (tgt := 10) h dX10_uncorrect_4 (by decide) ?_ ?_
  · refine x_aload_n (pc := 10) (i := 0) h dX10_uncorrect_10 rfl rfl ?_
    refine gf_X10_7 (pc := 11) h hk0 dX10_uncorrect_11 ?_
    refine x_sipush (pc := 14) (v := 260) h dX10_uncorrect_14 (by decide) ?_
    refine x_iload_n (pc := 17) (i := 1) h dX10_uncorrect_17 rfl rfl ?_
    refine x_iadd (pc := 18) h dX10_uncorrect_18 ?_
    refine x_iald (pc := 19) h (t_10_0 hk0) dX10_uncorrect_19 (fun v19 => ?_)
    refine x_if_ge (pc := 20) (tgt := 26) h dX10_uncorrect_20 (by decide) ?_ ?_
    · refine x_aload_n (pc := 26) (i := 0) h dX10_uncorrect_26 rfl rfl ?_
      refine x_Vv (pc := 27) (av := fun ad => []) (rest := []) h m_X10_changes i_X10_changes kl_X10_52 hk0 (by decide) rfl (c_X10_changes fu σ k0 hk0) rfl rfl (gCaM rfl) dX10_uncorrect_27 (fun σ27 => ?_)
      refine x_aload_n (pc := 30) (i := 0) h dX10_uncorrect_30 rfl rfl ?_
      refine x_iload_n (pc := 31) (i := 1) h dX10_uncorrect_31 rfl rfl ?_
      refine x_iconst (pc := 32) (v := (-1)) h dX10_uncorrect_32 (by decide) ?_
      refine x_iconst (pc := 33) (v := 1) h dX10_uncorrect_33 (by decide) ?_
      refine x_Vi (pc := 34) (av := fun ad => [.int p1, .int (-1), .int 1]) (rest := []) h m_X10_turnsTo i_X10_turnsTo kl_X10_84 hk0 (by decide) rfl (c_X10_turnsTo fu σ27 k0 p1 (-1) 1 hk0) rfl rfl (gCaM rfl) dX10_uncorrect_34 (fun v34 σ34 => ?_)
      exact x_ireti (pc := 37) h z .int rfl rfl dX10_uncorrect_37
    · refine x_ldc (pc := 23) h kc_X10_80 dX10_uncorrect_23 ?_
      exact x_ireti (pc := 25) h z .int rfl rfl dX10_uncorrect_25
  · refine x_ldc (pc := 7) h kc_X10_50 dX10_uncorrect_7 ?_
    exact x_ireti (pc := 9) h z .int rfl rfl dX10_uncorrect_9

set_option maxRecDepth 20000 in
set_option maxHeartbeats 4000000 in
theorem f_X4_lowestFree_L2_at (fu : Nat) (σ : gSt) (k0 : Nat) (ag2 : Int32 → Option (Int32)) {Γ : gX (Int32)} (h : gOk Γ cX4_lowestFree 2 RX4 (some .int) 1 21) (z : gEnd Γ (gQp σ)) (hk0 : isO k0 4) (hg2 : ∀ (y1 : Int32), At Γ 2 [some (.ref (gAd Γ.1 k0)), some (.int y1)] [] σ (ag2 y1)) (x1 : Int32) : At Γ 2 [some (.ref (gAd Γ.1 k0)), some (.int x1)] [] σ (f_X4_lowestFree_L2 fu σ k0 ag2 x1) := by
  unfold f_X4_lowestFree_L2
  refine x_iload_n (pc := 2) (i := 1) h dX4_lowestFree_2 rfl rfl ?_
  refine x_bipush (pc := 3) (v := 6) h dX4_lowestFree_3 (by decide) ?_
  refine x_icmp_ge (pc := 5) (tgt := 24) h dX4_lowestFree_5 (by decide) ?_ ?_
  · refine x_iconst (pc := 24) (v := (-1)) h dX4_lowestFree_24 (by decide) ?_
    exact x_iretp (pc := 25) h z rfl .int rfl rfl dX4_lowestFree_25
  · refine x_aload_n (pc := 8) (i := 0) h dX4_lowestFree_8 rfl rfl ?_
    refine x_iload_n (pc := 9) (i := 1) h dX4_lowestFree_9 rfl rfl ?_
    refine x_Vp (pc := 10) (av := fun ad => [.int x1]) (rest := []) h m_X4_has i_X4_has kl_X4_21 hk0 (by decide) rfl (c_X4_has fu σ k0 x1 hk0) rfl rfl (gCaM rfl) dX4_lowestFree_10 (fun v10 => ?_)
    refine x_if_ne (pc := 13) (tgt := 18) h dX4_lowestFree_13 (by decide) ?_ ?_
    · refine x_iinc (pc := 18) (i := 1) (v := (x1 + 1)) (L' := [some (.ref (gAd Γ.1 k0)), some (.int (x1 + 1))]) h dX4_lowestFree_18 rfl rfl rfl ?_
      refine x_goto (pc := 21) (tgt := 2) h dX4_lowestFree_21 (by decide) ?_
      exact At.mask [true, true] rfl rfl (hg2 (x1 + 1))
    · refine x_iload_n (pc := 16) (i := 1) h dX4_lowestFree_16 rfl rfl ?_
      exact x_iretp (pc := 17) h z rfl .int rfl rfl dX4_lowestFree_17

theorem f_X4_lowestFree_W2_at (fu : Nat) (σ : gSt) (k0 : Nat) {Γ : gX (Int32)} (h : gOk Γ cX4_lowestFree 2 RX4 (some .int) 1 21) (z : gEnd Γ (gQp σ)) (hk0 : isO k0 4) : ∀ (n : Nat) (x1 : Int32), At Γ 2 [some (.ref (gAd Γ.1 k0)), some (.int x1)] [] σ (f_X4_lowestFree_W2 fu σ k0 n x1) := by
  intro n
  induction n with
  | zero => intro x1 r hr; cases hr
  | succ n ih =>
    intro x1
    exact f_X4_lowestFree_L2_at fu σ k0 (f_X4_lowestFree_W2 fu σ k0 n) h z hk0 ih x1

set_option maxRecDepth 20000 in
set_option maxHeartbeats 4000000 in
theorem c_X4_lowestFree (fu : Nat) (σ : gSt) (k0 : Nat) (hk0 : isO k0 4) : gCt yX4_lowestFree cX4_lowestFree 2 (some .int) 1 21 (gQp σ) (fun ad => [.ref (ad k0)]) σ (f_X4_lowestFree fu σ k0) := by
  refine gCt_intro RX4 rfl (by decide +kernel) (fun ad v hv => by simp only [List.mem_cons, List.not_mem_nil, or_false] at hv; rcases hv with rfl <;> rfl) (fun ad => Nat.le_of_ble_eq_true rfl) (fun Γ h z => ?_)
  show At Γ 0 [some (.ref (gAd Γ.1 k0)), none] [] σ _
  unfold f_X4_lowestFree
  refine x_iconst (pc := 0) (v := 0) h dX4_lowestFree_0 (by decide) ?_
  refine x_istore_n (pc := 1) (i := 1) (L' := [some (.ref (gAd Γ.1 k0)), some (.int 0)]) h dX4_lowestFree_1 rfl (Nat.le_of_ble_eq_true rfl) rfl ?_
  exact At.mask [true, true] rfl rfl (f_X4_lowestFree_W2_at fu σ k0 h z hk0 fu 0)

set_option maxRecDepth 20000 in
set_option maxHeartbeats 4000000 in
theorem c_X4_tune (fu : Nat) (σ : gSt) (k0 : Nat) (p1 : Int32) (p2 : Int32) (hk0 : isO k0 4) : gCt yX4_tune cX4_tune 3 none 1 22 gQv (fun ad => [.ref (ad k0), .int p1, .int p2]) σ (f_X4_tune fu σ k0 p1 p2) := by
  refine gCt_intro RX4 rfl (by decide +kernel) (fun ad v hv => by simp only [List.mem_cons, List.not_mem_nil, or_false] at hv; rcases hv with rfl | rfl | rfl <;> rfl) (fun ad => Nat.le_of_ble_eq_true rfl) (fun Γ h z => ?_)
  show At Γ 0 [some (.ref (gAd Γ.1 k0)), some (.int p1), some (.int p2)] [] σ _
  unfold f_X4_tune
  refine x_iload_n (pc := 0) (i := 1) h dX4_tune_0 rfl rfl ?_
  refine x_iconst (pc := 1) (v := 0) h dX4_tune_1 (by decide) ?_
  refine x_iconst (pc := 2) (v := 5) h dX4_tune_2 (by decide) ?_
  refine x_Np (pc := 3) (av := fun ad => [.int p1, .int 0, .int 5]) (rest := []) h m_X9_isWithin s_X9_isWithin kl_X4_25 (c_X9_isWithin fu σ p1 0 5) rfl rfl (gCaM rfl) dX4_tune_3 (fun v3 => ?_)
  refine x_if_eq (pc := 6) (tgt := 16) h dX4_tune_6 (by decide) ?_ ?_
  · exact x_vret (pc := 16) h z rfl dX4_tune_16
  · refine x_aload_n (pc := 9) (i := 0) h dX4_tune_9 rfl rfl ?_
    refine gf_X4_9 (pc := 10) h hk0 dX4_tune_10 ?_
    refine x_iload_n (pc := 13) (i := 1) h dX4_tune_13 rfl rfl ?_
    refine x_iload_n (pc := 14) (i := 2) h dX4_tune_14 rfl rfl ?_
    refine x_iast (pc := 15) h (t_4_0 hk0) dX4_tune_15 (fun σ15 => ?_)
    exact x_vret (pc := 16) h z rfl dX4_tune_16

set_option maxRecDepth 20000 in
set_option maxHeartbeats 4000000 in
theorem c_X7_addSpeaker (fu : Nat) (σ : gSt) (k0 : Nat) (p1 : Int32) (hk0 : isO k0 7) : gCt yX7_addSpeaker cX7_addSpeaker 3 (some .int) 2 44 gQi (fun ad => [.ref (ad k0), .int p1]) σ (f_X7_addSpeaker fu σ k0 p1) := by
  refine gCt_intro RX7 rfl (by decide +kernel) (fun ad v hv => by simp only [List.mem_cons, List.not_mem_nil, or_false] at hv; rcases hv with rfl | rfl <;> rfl) (fun ad => Nat.le_of_ble_eq_true rfl) (fun Γ h z => ?_)
  show At Γ 0 [some (.ref (gAd Γ.1 k0)), some (.int p1), none] [] σ _
  unfold f_X7_addSpeaker
  refine x_iload_n (pc := 0) (i := 1) h dX7_addSpeaker_0 rfl rfl ?_
  refine x_Sp (pc := 1) (av := fun ad => [.int p1]) (rest := []) h m_X7_isPitch s_X7_isPitch kl_X7_46 (c_X7_isPitch fu σ p1) rfl rfl (gCaM rfl) dX7_addSpeaker_1 (fun v1 => ?_)
  refine x_if_ne (pc := 4) (tgt := 10) h dX7_addSpeaker_4 (by decide) ?_ ?_
  · refine x_aload_n (pc := 10) (i := 0) h dX7_addSpeaker_10 rfl rfl ?_
    refine gf_X7_28 (pc := 11) h hk0 dX7_addSpeaker_11 ?_
    refine x_Vp (pc := 14) (av := fun ad => []) (rest := []) h m_X4_lowestFree i_X4_lowestFree kl_X7_128 (t_7_2 hk0) (by decide) rfl (c_X4_lowestFree fu σ (k0 + 10) (t_7_2 hk0)) rfl rfl (gCaM rfl) dX7_addSpeaker_14 (fun v14 => ?_)
    refine x_istore_n (pc := 17) (i := 2) (L' := [some (.ref (gAd Γ.1 k0)), some (.int p1), some (.int v14)]) h dX7_addSpeaker_17 rfl (Nat.le_of_ble_eq_true rfl) rfl ?_
    refine x_iload_n (pc := 18) (i := 2) h dX7_addSpeaker_18 rfl rfl ?_
    refine x_iconst (pc := 19) (v := (-1)) h dX7_addSpeaker_19 (by decide) ?_
    refine x_icmp_ne (pc := 20) (tgt := 26) h dX7_addSpeaker_20 (by decide) ?_ ?_
    · refine x_aload_n (pc := 26) (i := 0) h dX7_addSpeaker_26 rfl rfl ?_
      refine gf_X7_28 (pc := 27) h hk0 dX7_addSpeaker_27 ?_
      refine x_iload_n (pc := 30) (i := 2) h dX7_addSpeaker_30 rfl rfl ?_
      refine x_iload_n (pc := 31) (i := 1) h dX7_addSpeaker_31 rfl rfl ?_
      refine x_Vv (pc := 32) (av := fun ad => [.int v14, .int p1]) (rest := []) h m_X4_tune i_X4_tune kl_X7_131 (t_7_2 hk0) (by decide) rfl (c_X4_tune fu σ (k0 + 10) v14 p1 (t_7_2 hk0)) rfl rfl (gCaM rfl) dX7_addSpeaker_32 (fun σ32 => ?_)
      refine x_iload_n (pc := 35) (i := 2) h dX7_addSpeaker_35 rfl rfl ?_
      exact x_ireti (pc := 36) h z .int rfl rfl dX7_addSpeaker_36
    · refine x_ldc (pc := 23) h kc_X7_55 dX7_addSpeaker_23 ?_
      exact x_ireti (pc := 25) h z .int rfl rfl dX7_addSpeaker_25
  · refine x_ldc (pc := 7) h kc_X7_50 dX7_addSpeaker_7 ?_
    exact x_ireti (pc := 9) h z .int rfl rfl dX7_addSpeaker_9

set_option maxRecDepth 20000 in
set_option maxHeartbeats 4000000 in
theorem c_X9_speaker (fu : Nat) (σ : gSt) (k0 : Nat) (p1 : Int32) (hk0 : isO k0 9) : gCt yX9_speaker cX9_speaker 2 (some .int) 6 135 gQi (fun ad => [.ref (ad k0), .int p1]) σ (f_X9_speaker fu σ k0 p1) := by
  refine gCt_intro RX9 rfl (by decide +kernel) (fun ad v hv => by simp only [List.mem_cons, List.not_mem_nil, or_false] at hv; rcases hv with rfl | rfl <;> rfl) (fun ad => Nat.le_of_ble_eq_true rfl) (fun Γ h z => ?_)
  show At Γ 0 [some (.ref (gAd Γ.1 k0)), some (.int p1)] [] σ _
  unfold f_X9_speaker
  refine x_aload_n (pc := 0) (i := 0) h dX9_speaker_0 rfl rfl ?_
  refine gf_X9_16 (pc := 1) h hk0 dX9_speaker_1 ?_
  refine x_aload_n (pc := 4) (i := 0) h dX9_speaker_4 rfl rfl ?_
  refine gf_X9_10 (pc := 5) h hk0 dX9_speaker_5 ?_
  refine x_Vv (pc := 8) (av := fun ad => [.ref (ad (k0 + 10))]) (rest := []) h m_X7_takeFrom i_X7_takeFrom kl_X9_51 (t_9_1 hk0) (by decide) rfl (c_X7_takeFrom fu σ (k0 + 22) (k0 + 10) (t_9_1 hk0) (t_9_0 hk0)) rfl rfl (gCaM rfl) dX9_speaker_8 (fun σ8 => ?_)
  refine x_aload_n (pc := 11) (i := 0) h dX9_speaker_11 rfl rfl ?_
  refine x_aload_n (pc := 12) (i := 0) h dX9_speaker_12 rfl rfl ?_
  refine gf_X9_10 (pc := 13) h hk0 dX9_speaker_13 ?_
  refine x_iload_n (pc := 16) (i := 1) h dX9_speaker_16 rfl rfl ?_
  refine x_Vi (pc := 17) (av := fun ad => [.int p1]) (rest := [.ref (gAd Γ.1 k0)]) h m_X7_addSpeaker i_X7_addSpeaker kl_X9_78 (t_9_0 hk0) (by decide) rfl (c_X7_addSpeaker fu σ8 (k0 + 10) p1 (t_9_0 hk0)) rfl rfl (gCaM rfl) dX9_speaker_17 (fun v17 σ17 => ?_)
  refine x_Vi (pc := 20) (av := fun ad => [.int v17]) (rest := []) h m_X9_recorded i_X9_recorded kl_X9_58 hk0 (by decide) rfl (c_X9_recorded fu σ17 k0 v17 hk0) rfl rfl (gCaM rfl) dX9_speaker_20 (fun v20 σ20 => ?_)
  exact x_ireti (pc := 23) h z .int rfl rfl dX9_speaker_23

set_option maxRecDepth 20000 in
set_option maxHeartbeats 4000000 in
theorem f_X10_speaker_J42_at (fu : Nat) (k0 : Nat) (p1 : Int32) {Γ : gX (Int32 × gSt)} (h : gOk Γ cX10_speaker 3 RX10 (some .int) 1 22) (z : gEnd Γ gQi) (hk0 : isO k0 10) (x2 : Int32) (σ : gSt) : At Γ 42 [some (.ref (gAd Γ.1 k0)), some (.int p1), some (.int x2)] [] σ (f_X10_speaker_J42 fu k0 p1 x2 σ) := by
  unfold f_X10_speaker_J42
  refine x_iload_n (pc := 42) (i := 2) h dX10_speaker_42 rfl rfl ?_
  refine x_bipush (pc := 43) (v := 6) h dX10_speaker_43 (by decide) ?_
  refine x_icmp_ne (pc := 45) (tgt := 51) h dX10_speaker_45 (by decide) ?_ ?_
  · refine x_aload_n (pc := 51) (i := 0) h dX10_speaker_51 rfl rfl ?_
    refine x_Vv (pc := 52) (av := fun ad => []) (rest := []) h m_X10_changes i_X10_changes kl_X10_52 hk0 (by decide) rfl (c_X10_changes fu σ k0 hk0) rfl rfl (gCaM rfl) dX10_speaker_52 (fun σ52 => ?_)
    refine x_aload_n (pc := 55) (i := 0) h dX10_speaker_55 rfl rfl ?_
    refine gf_X10_7 (pc := 56) h hk0 dX10_speaker_56 ?_
    refine x_sipush (pc := 59) (v := 276) h dX10_speaker_59 (by decide) ?_
    refine x_iload_n (pc := 62) (i := 2) h dX10_speaker_62 rfl rfl ?_
    refine x_iadd (pc := 63) h dX10_speaker_63 ?_
    refine x_iload_n (pc := 64) (i := 1) h dX10_speaker_64 rfl rfl ?_
    refine x_iast (pc := 65) h (t_10_0 hk0) dX10_speaker_65 (fun σ65 => ?_)
    refine x_iload_n (pc := 66) (i := 2) h dX10_speaker_66 rfl rfl ?_
    exact x_ireti (pc := 67) h z .int rfl rfl dX10_speaker_67
  · refine x_ldc (pc := 48) h kc_X10_51 dX10_speaker_48 ?_
    exact x_ireti (pc := 50) h z .int rfl rfl dX10_speaker_50

set_option maxRecDepth 20000 in
set_option maxHeartbeats 4000000 in
theorem f_X10_speaker_L17_at (fu : Nat) (k0 : Nat) (p1 : Int32) (σ : gSt) (ag17 : Int32 → Option (Int32 × gSt)) {Γ : gX (Int32 × gSt)} (h : gOk Γ cX10_speaker 3 RX10 (some .int) 1 22) (z : gEnd Γ gQi) (hk0 : isO k0 10) (hg17 : ∀ (y2 : Int32), At Γ 17 [some (.ref (gAd Γ.1 k0)), some (.int p1), some (.int y2)] [] σ (ag17 y2)) (x2 : Int32) : At Γ 17 [some (.ref (gAd Γ.1 k0)), some (.int p1), some (.int x2)] [] σ (f_X10_speaker_L17 fu k0 p1 σ ag17 x2) := by
  unfold f_X10_speaker_L17
  refine x_iload_n (pc := 17) (i := 2) h dX10_speaker_17 rfl rfl ?_
  refine x_bipush (pc := 18) (v := 6) h dX10_speaker_18 (by decide) ?_
  refine x_icmp_ge (pc := 20) (tgt := 42) h dX10_speaker_20 (by decide) ?_ ?_
  · exact At.mask [true, true, true] rfl rfl (f_X10_speaker_J42_at fu k0 p1 h z hk0 x2 σ)
  · refine x_aload_n (pc := 23) (i := 0) h dX10_speaker_23 rfl rfl ?_
    refine gf_X10_7 (pc := 24) h hk0 dX10_speaker_24 ?_
    refine x_sipush (pc := 27) (v := 276) h dX10_speaker_27 (by decide) ?_
    refine x_iload_n (pc := 30) (i := 2) h dX10_speaker_30 rfl rfl ?_
    refine x_iadd (pc := 31) h dX10_speaker_31 ?_
    refine x_iald (pc := 32) h (t_10_0 hk0) dX10_speaker_32 (fun v32 => ?_)
    refine x_if_le (pc := 33) (tgt := 42) h dX10_speaker_33 (by decide) ?_ ?_
    · exact At.mask [true, true, true] rfl rfl (f_X10_speaker_J42_at fu k0 p1 h z hk0 x2 σ)
    · refine x_iinc (pc := 36) (i := 2) (v := (x2 + 1)) (L' := [some (.ref (gAd Γ.1 k0)), some (.int p1), some (.int (x2 + 1))]) h dX10_speaker_36 rfl rfl rfl ?_
      refine x_goto (pc := 39) (tgt := 17) h dX10_speaker_39 (by decide) ?_
      exact At.mask [true, true, true] rfl rfl (hg17 (x2 + 1))

theorem f_X10_speaker_W17_at (fu : Nat) (k0 : Nat) (p1 : Int32) (σ : gSt) {Γ : gX (Int32 × gSt)} (h : gOk Γ cX10_speaker 3 RX10 (some .int) 1 22) (z : gEnd Γ gQi) (hk0 : isO k0 10) : ∀ (n : Nat) (x2 : Int32), At Γ 17 [some (.ref (gAd Γ.1 k0)), some (.int p1), some (.int x2)] [] σ (f_X10_speaker_W17 fu k0 p1 σ n x2) := by
  intro n
  induction n with
  | zero => intro x2 r hr; cases hr
  | succ n ih =>
    intro x2
    exact f_X10_speaker_L17_at fu k0 p1 σ (f_X10_speaker_W17 fu k0 p1 σ n) h z hk0 ih x2

set_option maxRecDepth 20000 in
set_option maxHeartbeats 4000000 in
theorem c_X10_speaker (fu : Nat) (σ : gSt) (k0 : Nat) (p1 : Int32) (hk0 : isO k0 10) : gCt yX10_speaker cX10_speaker 3 (some .int) 1 22 gQi (fun ad => [.ref (ad k0), .int p1]) σ (f_X10_speaker fu σ k0 p1) := by
  refine gCt_intro RX10 rfl (by decide +kernel) (fun ad v hv => by simp only [List.mem_cons, List.not_mem_nil, or_false] at hv; rcases hv with rfl | rfl <;> rfl) (fun ad => Nat.le_of_ble_eq_true rfl) (fun Γ h z => ?_)
  show At Γ 0 [some (.ref (gAd Γ.1 k0)), some (.int p1), none] [] σ _
  unfold f_X10_speaker
  refine x_iload_n (pc := 0) (i := 1) h dX10_speaker_0 rfl rfl ?_
  refine x_bipush (pc := 1) (v := 50) h dX10_speaker_1 (by decide) ?_
  refine x_sipush (pc := 3) (v := 500) h dX10_speaker_3 (by decide) ?_
  refine x_Sp (pc := 6) (av := fun ad => [.int p1, .int 50, .int 500]) (rest := []) h m_X10_in s_X10_in kl_X10_39 (c_X10_in fu σ p1 50 500) rfl rfl (gCaM rfl) dX10_speaker_6 (fun v6 => ?_)
  refine x_if_ne (pc := 9) (tgt := 15) h dX10_speaker_9 (by decide) ?_ ?_
  · refine x_iconst (pc := 15) (v := 0) h dX10_speaker_15 (by decide) ?_
    refine x_istore_n (pc := 16) (i := 2) (L' := [some (.ref (gAd Γ.1 k0)), some (.int p1), some (.int 0)]) h dX10_speaker_16 rfl (Nat.le_of_ble_eq_true rfl) rfl ?_
    exact At.mask [true, true, true] rfl rfl (f_X10_speaker_W17_at fu k0 p1 σ h z hk0 fu 0)
  · refine x_ldc (pc := 12) h kc_X10_50 dX10_speaker_12 ?_
    exact x_ireti (pc := 14) h z .int rfl rfl dX10_speaker_14

set_option maxRecDepth 20000 in
set_option maxHeartbeats 4000000 in
theorem c_X8_own (fu : Nat) (σ : gSt) (k0 : Nat) (p1 : Int32) (p2 : Int32) (hk0 : isO k0 8) : gCt yX8_own cX8_own 3 none 1 21 gQv (fun ad => [.ref (ad k0), .int p1, .int p2]) σ (f_X8_own fu σ k0 p1 p2) := by
  refine gCt_intro RX8 rfl (by decide +kernel) (fun ad v hv => by simp only [List.mem_cons, List.not_mem_nil, or_false] at hv; rcases hv with rfl | rfl | rfl <;> rfl) (fun ad => Nat.le_of_ble_eq_true rfl) (fun Γ h z => ?_)
  show At Γ 0 [some (.ref (gAd Γ.1 k0)), some (.int p1), some (.int p2)] [] σ _
  unfold f_X8_own
  refine x_aload_n (pc := 0) (i := 0) h dX8_own_0 rfl rfl ?_
  refine x_iload_n (pc := 1) (i := 1) h dX8_own_1 rfl rfl ?_
  refine x_Vp (pc := 2) (av := fun ad => [.int p1]) (rest := []) h m_X8_has i_X8_has kl_X8_40 hk0 (by decide) rfl (c_X8_has fu σ k0 p1 hk0) rfl rfl (gCaM rfl) dX8_own_2 (fun v2 => ?_)
  refine x_if_eq (pc := 5) (tgt := 15) h dX8_own_5 (by decide) ?_ ?_
  · exact x_vret (pc := 15) h z rfl dX8_own_15
  · refine x_aload_n (pc := 8) (i := 0) h dX8_own_8 rfl rfl ?_
    refine gf_X8_21 (pc := 9) h hk0 dX8_own_9 ?_
    refine x_iload_n (pc := 12) (i := 1) h dX8_own_12 rfl rfl ?_
    refine x_iload_n (pc := 13) (i := 2) h dX8_own_13 rfl rfl ?_
    refine x_iast (pc := 14) h (t_8_3 hk0) dX8_own_14 (fun σ14 => ?_)
    exact x_vret (pc := 15) h z rfl dX8_own_15

set_option maxRecDepth 20000 in
set_option maxHeartbeats 4000000 in
theorem c_X4_pitchOf (fu : Nat) (σ : gSt) (k0 : Nat) (p1 : Int32) (hk0 : isO k0 4) : gCt yX4_pitchOf cX4_pitchOf 2 (some .int) 1 21 (gQp σ) (fun ad => [.ref (ad k0), .int p1]) σ (f_X4_pitchOf fu σ k0 p1) := by
  refine gCt_intro RX4 rfl (by decide +kernel) (fun ad v hv => by simp only [List.mem_cons, List.not_mem_nil, or_false] at hv; rcases hv with rfl | rfl <;> rfl) (fun ad => Nat.le_of_ble_eq_true rfl) (fun Γ h z => ?_)
  show At Γ 0 [some (.ref (gAd Γ.1 k0)), some (.int p1)] [] σ _
  unfold f_X4_pitchOf
  refine x_aload_n (pc := 0) (i := 0) h dX4_pitchOf_0 rfl rfl ?_
  refine x_iload_n (pc := 1) (i := 1) h dX4_pitchOf_1 rfl rfl ?_
  refine x_Vp (pc := 2) (av := fun ad => [.int p1]) (rest := []) h m_X4_has i_X4_has kl_X4_21 hk0 (by decide) rfl (c_X4_has fu σ k0 p1 hk0) rfl rfl (gCaM rfl) dX4_pitchOf_2 (fun v2 => ?_)
  refine x_if_eq (pc := 5) (tgt := 17) h dX4_pitchOf_5 (by decide) ?_ ?_
  · refine x_iconst (pc := 17) (v := 0) h dX4_pitchOf_17 (by decide) ?_
    exact x_iretp (pc := 18) h z rfl .int rfl rfl dX4_pitchOf_18
  · refine x_aload_n (pc := 8) (i := 0) h dX4_pitchOf_8 rfl rfl ?_
    refine gf_X4_9 (pc := 9) h hk0 dX4_pitchOf_9 ?_
    refine x_iload_n (pc := 12) (i := 1) h dX4_pitchOf_12 rfl rfl ?_
    refine x_iald (pc := 13) h (t_4_0 hk0) dX4_pitchOf_13 (fun v13 => ?_)
    refine x_goto (pc := 14) (tgt := 18) h dX4_pitchOf_14 (by decide) ?_
    exact x_iretp (pc := 18) h z rfl .int rfl rfl dX4_pitchOf_18

set_option maxRecDepth 20000 in
set_option maxHeartbeats 4000000 in
theorem f_X8_turnsOf_L4_at (fu : Nat) (σ : gSt) (k0 : Nat) (p1 : Int32) (ag4 : Int32 → Int32 → Option (Int32)) {Γ : gX (Int32)} (h : gOk Γ cX8_turnsOf 4 RX8 (some .int) 0 0) (z : gEnd Γ (gQp σ)) (hk0 : isO k0 8) (hg4 : ∀ (y2 : Int32) (y3 : Int32), At Γ 4 [some (.ref (gAd Γ.1 k0)), some (.int p1), some (.int y2), some (.int y3)] [] σ (ag4 y2 y3)) (x2 : Int32) (x3 : Int32) : At Γ 4 [some (.ref (gAd Γ.1 k0)), some (.int p1), some (.int x2), some (.int x3)] [] σ (f_X8_turnsOf_L4 fu σ k0 p1 ag4 x2 x3) := by
  unfold f_X8_turnsOf_L4
  refine x_iload_n (pc := 4) (i := 3) h dX8_turnsOf_4 rfl rfl ?_
  refine x_aload_n (pc := 5) (i := 0) h dX8_turnsOf_5 rfl rfl ?_
  refine gf_X8_36 (pc := 6) h hk0 dX8_turnsOf_6 ?_
  refine x_icmp_ge (pc := 9) (tgt := 37) h dX8_turnsOf_9 (by decide) ?_ ?_
  · refine x_iload_n (pc := 37) (i := 2) h dX8_turnsOf_37 rfl rfl ?_
    exact x_iretp (pc := 38) h z rfl .int rfl rfl dX8_turnsOf_38
  · refine x_iload_n (pc := 12) (i := 3) h dX8_turnsOf_12 rfl rfl ?_
    refine x_bipush (pc := 13) (v := 20) h dX8_turnsOf_13 (by decide) ?_
    refine x_icmp_ge (pc := 15) (tgt := 37) h dX8_turnsOf_15 (by decide) ?_ ?_
    · refine x_iload_n (pc := 37) (i := 2) h dX8_turnsOf_37 rfl rfl ?_
      exact x_iretp (pc := 38) h z rfl .int rfl rfl dX8_turnsOf_38
    · refine x_aload_n (pc := 18) (i := 0) h dX8_turnsOf_18 rfl rfl ?_
      refine gf_X8_21 (pc := 19) h hk0 dX8_turnsOf_19 ?_
      refine x_iload_n (pc := 22) (i := 3) h dX8_turnsOf_22 rfl rfl ?_
      refine x_iald (pc := 23) h (t_8_3 hk0) dX8_turnsOf_23 (fun v23 => ?_)
      refine x_iload_n (pc := 24) (i := 1) h dX8_turnsOf_24 rfl rfl ?_
      refine x_icmp_ne (pc := 25) (tgt := 31) h dX8_turnsOf_25 (by decide) ?_ ?_
      · refine x_iinc (pc := 31) (i := 3) (v := (x3 + 1)) (L' := [some (.ref (gAd Γ.1 k0)), some (.int p1), some (.int x2), some (.int (x3 + 1))]) h dX8_turnsOf_31 rfl rfl rfl ?_
        refine x_goto (pc := 34) (tgt := 4) h dX8_turnsOf_34 (by decide) ?_
        exact At.mask [true, true, true, true] rfl rfl (hg4 x2 (x3 + 1))
      · refine x_iinc (pc := 28) (i := 2) (v := (x2 + 1)) (L' := [some (.ref (gAd Γ.1 k0)), some (.int p1), some (.int (x2 + 1)), some (.int x3)]) h dX8_turnsOf_28 rfl rfl rfl ?_
        refine x_iinc (pc := 31) (i := 3) (v := (x3 + 1)) (L' := [some (.ref (gAd Γ.1 k0)), some (.int p1), some (.int (x2 + 1)), some (.int (x3 + 1))]) h dX8_turnsOf_31 rfl rfl rfl ?_
        refine x_goto (pc := 34) (tgt := 4) h dX8_turnsOf_34 (by decide) ?_
        exact At.mask [true, true, true, true] rfl rfl (hg4 (x2 + 1) (x3 + 1))

theorem f_X8_turnsOf_W4_at (fu : Nat) (σ : gSt) (k0 : Nat) (p1 : Int32) {Γ : gX (Int32)} (h : gOk Γ cX8_turnsOf 4 RX8 (some .int) 0 0) (z : gEnd Γ (gQp σ)) (hk0 : isO k0 8) : ∀ (n : Nat) (x2 : Int32) (x3 : Int32), At Γ 4 [some (.ref (gAd Γ.1 k0)), some (.int p1), some (.int x2), some (.int x3)] [] σ (f_X8_turnsOf_W4 fu σ k0 p1 n x2 x3) := by
  intro n
  induction n with
  | zero => intro x2 x3 r hr; cases hr
  | succ n ih =>
    intro x2 x3
    exact f_X8_turnsOf_L4_at fu σ k0 p1 (f_X8_turnsOf_W4 fu σ k0 p1 n) h z hk0 ih x2 x3

set_option maxRecDepth 20000 in
set_option maxHeartbeats 4000000 in
theorem c_X8_turnsOf (fu : Nat) (σ : gSt) (k0 : Nat) (p1 : Int32) (hk0 : isO k0 8) : gCt yX8_turnsOf cX8_turnsOf 4 (some .int) 0 0 (gQp σ) (fun ad => [.ref (ad k0), .int p1]) σ (f_X8_turnsOf fu σ k0 p1) := by
  refine gCt_intro RX8 rfl (by decide +kernel) (fun ad v hv => by simp only [List.mem_cons, List.not_mem_nil, or_false] at hv; rcases hv with rfl | rfl <;> rfl) (fun ad => Nat.le_of_ble_eq_true rfl) (fun Γ h z => ?_)
  show At Γ 0 [some (.ref (gAd Γ.1 k0)), some (.int p1), none, none] [] σ _
  unfold f_X8_turnsOf
  refine x_iconst (pc := 0) (v := 0) h dX8_turnsOf_0 (by decide) ?_
  refine x_istore_n (pc := 1) (i := 2) (L' := [some (.ref (gAd Γ.1 k0)), some (.int p1), some (.int 0), none]) h dX8_turnsOf_1 rfl (Nat.le_of_ble_eq_true rfl) rfl ?_
  refine x_iconst (pc := 2) (v := 0) h dX8_turnsOf_2 (by decide) ?_
  refine x_istore_n (pc := 3) (i := 3) (L' := [some (.ref (gAd Γ.1 k0)), some (.int p1), some (.int 0), some (.int 0)]) h dX8_turnsOf_3 rfl (Nat.le_of_ble_eq_true rfl) rfl ?_
  exact At.mask [true, true, true, true] rfl rfl (f_X8_turnsOf_W4_at fu σ k0 p1 h z hk0 fu 0 0)

set_option maxRecDepth 20000 in
set_option maxHeartbeats 4000000 in
theorem f_X8_sumOf_L5_at (fu : Nat) (σ : gSt) (k0 : Nat) (k1 : Nat) (n1 : Nat) (p2 : Int32) (ag5 : Int32 → Int32 → Option (Int32)) {Γ : gX (Int32)} (h : gOk Γ cX8_sumOf 5 RX8 (some .int) 0 0) (z : gEnd Γ (gQp σ)) (hk0 : isO k0 8) (hk1 : isA k1 n1) (hg5 : ∀ (y3 : Int32) (y4 : Int32), At Γ 5 [some (.ref (gAd Γ.1 k0)), some (.ref (gAd Γ.1 k1)), some (.int p2), some (.int y3), some (.int y4)] [] σ (ag5 y3 y4)) (x3 : Int32) (x4 : Int32) : At Γ 5 [some (.ref (gAd Γ.1 k0)), some (.ref (gAd Γ.1 k1)), some (.int p2), some (.int x3), some (.int x4)] [] σ (f_X8_sumOf_L5 fu σ k0 k1 n1 p2 ag5 x3 x4) := by
  unfold f_X8_sumOf_L5
  refine x_iload (pc := 5) h dX8_sumOf_5 rfl ?_
  refine x_aload_n (pc := 7) (i := 0) h dX8_sumOf_7 rfl rfl ?_
  refine gf_X8_36 (pc := 8) h hk0 dX8_sumOf_8 ?_
  refine x_icmp_ge (pc := 11) (tgt := 52) h dX8_sumOf_11 (by decide) ?_ ?_
  · refine x_iload_n (pc := 52) (i := 3) h dX8_sumOf_52 rfl rfl ?_
    exact x_iretp (pc := 53) h z rfl .int rfl rfl dX8_sumOf_53
  · refine x_iload (pc := 14) h dX8_sumOf_14 rfl ?_
    refine x_bipush (pc := 16) (v := 20) h dX8_sumOf_16 (by decide) ?_
    refine x_icmp_ge (pc := 18) (tgt := 52) h dX8_sumOf_18 (by decide) ?_ ?_
    · refine x_iload_n (pc := 52) (i := 3) h dX8_sumOf_52 rfl rfl ?_
      exact x_iretp (pc := 53) h z rfl .int rfl rfl dX8_sumOf_53
    · refine x_iload (pc := 21) h dX8_sumOf_21 rfl ?_
      refine x_aload_n (pc := 23) (i := 1) h dX8_sumOf_23 rfl rfl ?_
      refine x_alen (pc := 24) h hk1 dX8_sumOf_24 ?_
      refine x_icmp_ge (pc := 25) (tgt := 52) h dX8_sumOf_25 (by decide) ?_ ?_
      · refine x_iload_n (pc := 52) (i := 3) h dX8_sumOf_52 rfl rfl ?_
        exact x_iretp (pc := 53) h z rfl .int rfl rfl dX8_sumOf_53
      · refine x_aload_n (pc := 28) (i := 0) h dX8_sumOf_28 rfl rfl ?_
        refine gf_X8_21 (pc := 29) h hk0 dX8_sumOf_29 ?_
        refine x_iload (pc := 32) h dX8_sumOf_32 rfl ?_
        refine x_iald (pc := 34) h (t_8_3 hk0) dX8_sumOf_34 (fun v34 => ?_)
        refine x_iload_n (pc := 35) (i := 2) h dX8_sumOf_35 rfl rfl ?_
        refine x_icmp_ne (pc := 36) (tgt := 46) h dX8_sumOf_36 (by decide) ?_ ?_
        · refine x_iinc (pc := 46) (i := 4) (v := (x4 + 1)) (L' := [some (.ref (gAd Γ.1 k0)), some (.ref (gAd Γ.1 k1)), some (.int p2), some (.int x3), some (.int (x4 + 1))]) h dX8_sumOf_46 rfl rfl rfl ?_
          refine x_goto (pc := 49) (tgt := 5) h dX8_sumOf_49 (by decide) ?_
          exact At.mask [true, true, true, true, true] rfl rfl (hg5 x3 (x4 + 1))
        · refine x_iload_n (pc := 39) (i := 3) h dX8_sumOf_39 rfl rfl ?_
          refine x_aload_n (pc := 40) (i := 1) h dX8_sumOf_40 rfl rfl ?_
          refine x_iload (pc := 41) h dX8_sumOf_41 rfl ?_
          refine x_iald (pc := 43) h hk1 dX8_sumOf_43 (fun v43 => ?_)
          refine x_iadd (pc := 44) h dX8_sumOf_44 ?_
          refine x_istore_n (pc := 45) (i := 3) (L' := [some (.ref (gAd Γ.1 k0)), some (.ref (gAd Γ.1 k1)), some (.int p2), some (.int (x3 + v43)), some (.int x4)]) h dX8_sumOf_45 rfl (Nat.le_of_ble_eq_true rfl) rfl ?_
          refine x_iinc (pc := 46) (i := 4) (v := (x4 + 1)) (L' := [some (.ref (gAd Γ.1 k0)), some (.ref (gAd Γ.1 k1)), some (.int p2), some (.int (x3 + v43)), some (.int (x4 + 1))]) h dX8_sumOf_46 rfl rfl rfl ?_
          refine x_goto (pc := 49) (tgt := 5) h dX8_sumOf_49 (by decide) ?_
          exact At.mask [true, true, true, true, true] rfl rfl (hg5 (x3 + v43) (x4 + 1))

theorem f_X8_sumOf_W5_at (fu : Nat) (σ : gSt) (k0 : Nat) (k1 : Nat) (n1 : Nat) (p2 : Int32) {Γ : gX (Int32)} (h : gOk Γ cX8_sumOf 5 RX8 (some .int) 0 0) (z : gEnd Γ (gQp σ)) (hk0 : isO k0 8) (hk1 : isA k1 n1) : ∀ (n : Nat) (x3 : Int32) (x4 : Int32), At Γ 5 [some (.ref (gAd Γ.1 k0)), some (.ref (gAd Γ.1 k1)), some (.int p2), some (.int x3), some (.int x4)] [] σ (f_X8_sumOf_W5 fu σ k0 k1 n1 p2 n x3 x4) := by
  intro n
  induction n with
  | zero => intro x3 x4 r hr; cases hr
  | succ n ih =>
    intro x3 x4
    exact f_X8_sumOf_L5_at fu σ k0 k1 n1 p2 (f_X8_sumOf_W5 fu σ k0 k1 n1 p2 n) h z hk0 hk1 ih x3 x4

set_option maxRecDepth 20000 in
set_option maxHeartbeats 4000000 in
theorem c_X8_sumOf (fu : Nat) (σ : gSt) (k0 : Nat) (k1 : Nat) (n1 : Nat) (p2 : Int32) (hk0 : isO k0 8) (hk1 : isA k1 n1) : gCt yX8_sumOf cX8_sumOf 5 (some .int) 0 0 (gQp σ) (fun ad => [.ref (ad k0), .ref (ad k1), .int p2]) σ (f_X8_sumOf fu σ k0 k1 n1 p2) := by
  refine gCt_intro RX8 rfl (by decide +kernel) (fun ad v hv => by simp only [List.mem_cons, List.not_mem_nil, or_false] at hv; rcases hv with rfl | rfl | rfl <;> rfl) (fun ad => Nat.le_of_ble_eq_true rfl) (fun Γ h z => ?_)
  show At Γ 0 [some (.ref (gAd Γ.1 k0)), some (.ref (gAd Γ.1 k1)), some (.int p2), none, none] [] σ _
  unfold f_X8_sumOf
  refine x_iconst (pc := 0) (v := 0) h dX8_sumOf_0 (by decide) ?_
  refine x_istore_n (pc := 1) (i := 3) (L' := [some (.ref (gAd Γ.1 k0)), some (.ref (gAd Γ.1 k1)), some (.int p2), some (.int 0), none]) h dX8_sumOf_1 rfl (Nat.le_of_ble_eq_true rfl) rfl ?_
  refine x_iconst (pc := 2) (v := 0) h dX8_sumOf_2 (by decide) ?_
  refine x_istore (pc := 3) (L' := [some (.ref (gAd Γ.1 k0)), some (.ref (gAd Γ.1 k1)), some (.int p2), some (.int 0), some (.int 0)]) h dX8_sumOf_3 (Nat.le_of_ble_eq_true rfl) rfl ?_
  exact At.mask [true, true, true, true, true] rfl rfl (f_X8_sumOf_W5_at fu σ k0 k1 n1 p2 h z hk0 hk1 fu 0 0)

set_option maxRecDepth 20000 in
set_option maxHeartbeats 4000000 in
theorem c_X8_meanPitchOf (fu : Nat) (σ : gSt) (k0 : Nat) (p1 : Int32) (p2 : Int32) (hk0 : isO k0 8) : gCt yX8_meanPitchOf cX8_meanPitchOf 4 (some .int) 1 24 (gQp σ) (fun ad => [.ref (ad k0), .int p1, .int p2]) σ (f_X8_meanPitchOf fu σ k0 p1 p2) := by
  refine gCt_intro RX8 rfl (by decide +kernel) (fun ad v hv => by simp only [List.mem_cons, List.not_mem_nil, or_false] at hv; rcases hv with rfl | rfl | rfl <;> rfl) (fun ad => Nat.le_of_ble_eq_true rfl) (fun Γ h z => ?_)
  show At Γ 0 [some (.ref (gAd Γ.1 k0)), some (.int p1), some (.int p2), none] [] σ _
  unfold f_X8_meanPitchOf
  refine x_aload_n (pc := 0) (i := 0) h dX8_meanPitchOf_0 rfl rfl ?_
  refine x_iload_n (pc := 1) (i := 1) h dX8_meanPitchOf_1 rfl rfl ?_
  refine x_Vp (pc := 2) (av := fun ad => [.int p1]) (rest := []) h m_X8_turnsOf i_X8_turnsOf kl_X8_70 hk0 (by decide) rfl (c_X8_turnsOf fu σ k0 p1 hk0) rfl rfl (gCaM rfl) dX8_meanPitchOf_2 (fun v2 => ?_)
  refine x_istore_n (pc := 5) (i := 3) (L' := [some (.ref (gAd Γ.1 k0)), some (.int p1), some (.int p2), some (.int v2)]) h dX8_meanPitchOf_5 rfl (Nat.le_of_ble_eq_true rfl) rfl ?_
  refine x_iload_n (pc := 6) (i := 3) h dX8_meanPitchOf_6 rfl rfl ?_
  refine x_if_le (pc := 7) (tgt := 24) h dX8_meanPitchOf_7 (by decide) ?_ ?_
  · refine x_iload_n (pc := 24) (i := 2) h dX8_meanPitchOf_24 rfl rfl ?_
    exact x_iretp (pc := 25) h z rfl .int rfl rfl dX8_meanPitchOf_25
  · refine x_aload_n (pc := 10) (i := 0) h dX8_meanPitchOf_10 rfl rfl ?_
    refine x_aload_n (pc := 11) (i := 0) h dX8_meanPitchOf_11 rfl rfl ?_
    refine gf_X8_18 (pc := 12) h hk0 dX8_meanPitchOf_12 ?_
    refine x_iload_n (pc := 15) (i := 1) h dX8_meanPitchOf_15 rfl rfl ?_
    refine x_Vp (pc := 16) (av := fun ad => [.ref (ad (k0 + 3)), .int p1]) (rest := []) h m_X8_sumOf i_X8_sumOf kl_X8_73 hk0 (by decide) rfl (c_X8_sumOf fu σ k0 (k0 + 3) 20 p1 hk0 (t_8_2 hk0)) rfl rfl (gCaM rfl) dX8_meanPitchOf_16 (fun v16 => ?_)
    refine x_iload_n (pc := 19) (i := 3) h dX8_meanPitchOf_19 rfl rfl ?_
    refine x_idiv (pc := 20) h dX8_meanPitchOf_20 (fun v20 => ?_)
    refine x_goto (pc := 21) (tgt := 25) h dX8_meanPitchOf_21 (by decide) ?_
    exact x_iretp (pc := 25) h z rfl .int rfl rfl dX8_meanPitchOf_25

set_option maxRecDepth 20000 in
set_option maxHeartbeats 4000000 in
theorem c_X7_giveTurn (fu : Nat) (σ : gSt) (k0 : Nat) (p1 : Int32) (p2 : Int32) (hk0 : isO k0 7) : gCt yX7_giveTurn cX7_giveTurn 4 (some .int) 2 47 gQi (fun ad => [.ref (ad k0), .int p1, .int p2]) σ (f_X7_giveTurn fu σ k0 p1 p2) := by
  refine gCt_intro RX7 rfl (by decide +kernel) (fun ad v hv => by simp only [List.mem_cons, List.not_mem_nil, or_false] at hv; rcases hv with rfl | rfl | rfl <;> rfl) (fun ad => Nat.le_of_ble_eq_true rfl) (fun Γ h z => ?_)
  show At Γ 0 [some (.ref (gAd Γ.1 k0)), some (.int p1), some (.int p2), none] [] σ _
  unfold f_X7_giveTurn
  refine x_aload_n (pc := 0) (i := 0) h dX7_giveTurn_0 rfl rfl ?_
  refine gf_X7_12 (pc := 1) h hk0 dX7_giveTurn_1 ?_
  refine x_iload_n (pc := 4) (i := 1) h dX7_giveTurn_4 rfl rfl ?_
  refine x_Vp (pc := 5) (av := fun ad => [.int p1]) (rest := []) h m_X8_has i_X8_has kl_X7_64 (t_7_0 hk0) (by decide) rfl (c_X8_has fu σ (k0 + 1) p1 (t_7_0 hk0)) rfl rfl (gCaM rfl) dX7_giveTurn_5 (fun v5 => ?_)
  refine x_if_eq (pc := 8) (tgt := 22) h dX7_giveTurn_8 (by decide) ?_ ?_
  · refine x_ldc (pc := 22) h kc_X7_50 dX7_giveTurn_22 ?_
    exact x_ireti (pc := 24) h z .int rfl rfl dX7_giveTurn_24
  · refine x_aload_n (pc := 11) (i := 0) h dX7_giveTurn_11 rfl rfl ?_
    refine gf_X7_28 (pc := 12) h hk0 dX7_giveTurn_12 ?_
    refine x_iload_n (pc := 15) (i := 2) h dX7_giveTurn_15 rfl rfl ?_
    refine x_Vp (pc := 16) (av := fun ad => [.int p2]) (rest := []) h m_X4_has i_X4_has kl_X7_134 (t_7_2 hk0) (by decide) rfl (c_X4_has fu σ (k0 + 10) p2 (t_7_2 hk0)) rfl rfl (gCaM rfl) dX7_giveTurn_16 (fun v16 => ?_)
    refine x_if_ne (pc := 19) (tgt := 25) h dX7_giveTurn_19 (by decide) ?_ ?_
    · refine x_aload_n (pc := 25) (i := 0) h dX7_giveTurn_25 rfl rfl ?_
      refine gf_X7_12 (pc := 26) h hk0 dX7_giveTurn_26 ?_
      refine x_iload_n (pc := 29) (i := 1) h dX7_giveTurn_29 rfl rfl ?_
      refine x_Vp (pc := 30) (av := fun ad => [.int p1]) (rest := []) h m_X8_ownerOf i_X8_ownerOf kl_X7_93 (t_7_0 hk0) (by decide) rfl (c_X8_ownerOf fu σ (k0 + 1) p1 (t_7_0 hk0)) rfl rfl (gCaM rfl) dX7_giveTurn_30 (fun v30 => ?_)
      refine x_iload_n (pc := 33) (i := 2) h dX7_giveTurn_33 rfl rfl ?_
      refine x_icmp_ne (pc := 34) (tgt := 40) h dX7_giveTurn_34 (by decide) ?_ ?_
      · refine x_aload_n (pc := 40) (i := 0) h dX7_giveTurn_40 rfl rfl ?_
        refine gf_X7_12 (pc := 41) h hk0 dX7_giveTurn_41 ?_
        refine x_iload_n (pc := 44) (i := 1) h dX7_giveTurn_44 rfl rfl ?_
        refine x_iload_n (pc := 45) (i := 2) h dX7_giveTurn_45 rfl rfl ?_
        refine x_Vv (pc := 46) (av := fun ad => [.int p1, .int p2]) (rest := []) h m_X8_own i_X8_own kl_X7_135 (t_7_0 hk0) (by decide) rfl (c_X8_own fu σ (k0 + 1) p1 p2 (t_7_0 hk0)) rfl rfl (gCaM rfl) dX7_giveTurn_46 (fun σ46 => ?_)
        refine x_aload_n (pc := 49) (i := 0) h dX7_giveTurn_49 rfl rfl ?_
        refine gf_X7_12 (pc := 50) h hk0 dX7_giveTurn_50 ?_
        refine x_iload_n (pc := 53) (i := 2) h dX7_giveTurn_53 rfl rfl ?_
        refine x_aload_n (pc := 54) (i := 0) h dX7_giveTurn_54 rfl rfl ?_
        refine gf_X7_28 (pc := 55) h hk0 dX7_giveTurn_55 ?_
        refine x_iload_n (pc := 58) (i := 2) h dX7_giveTurn_58 rfl rfl ?_
        refine x_Vp (pc := 59) (av := fun ad => [.int p2]) (rest := [.int p2, .ref (gAd Γ.1 (k0 + 1))]) h m_X4_pitchOf i_X4_pitchOf kl_X7_138 (t_7_2 hk0) (by decide) rfl (c_X4_pitchOf fu σ46 (k0 + 10) p2 (t_7_2 hk0)) rfl rfl (gCaM rfl) dX7_giveTurn_59 (fun v59 => ?_)
        refine x_Vp (pc := 62) (av := fun ad => [.int p2, .int v59]) (rest := []) h m_X8_meanPitchOf i_X8_meanPitchOf kl_X7_139 (t_7_0 hk0) (by decide) rfl (c_X8_meanPitchOf fu σ46 (k0 + 1) p2 v59 (t_7_0 hk0)) rfl rfl (gCaM rfl) dX7_giveTurn_62 (fun v62 => ?_)
        refine x_istore_n (pc := 65) (i := 3) (L' := [some (.ref (gAd Γ.1 k0)), some (.int p1), some (.int p2), some (.int v62)]) h dX7_giveTurn_65 rfl (Nat.le_of_ble_eq_true rfl) rfl ?_
        refine x_aload_n (pc := 66) (i := 0) h dX7_giveTurn_66 rfl rfl ?_
        refine gf_X7_28 (pc := 67) h hk0 dX7_giveTurn_67 ?_
        refine x_iload_n (pc := 70) (i := 2) h dX7_giveTurn_70 rfl rfl ?_
        refine x_iload_n (pc := 71) (i := 3) h dX7_giveTurn_71 rfl rfl ?_
        refine x_Vv (pc := 72) (av := fun ad => [.int p2, .int v62]) (rest := []) h m_X4_tune i_X4_tune kl_X7_131 (t_7_2 hk0) (by decide) rfl (c_X4_tune fu σ46 (k0 + 10) p2 v62 (t_7_2 hk0)) rfl rfl (gCaM rfl) dX7_giveTurn_72 (fun σ72 => ?_)
        refine x_iload_n (pc := 75) (i := 3) h dX7_giveTurn_75 rfl rfl ?_
        exact x_ireti (pc := 76) h z .int rfl rfl dX7_giveTurn_76
      · refine x_ldc (pc := 37) h kc_X7_127 dX7_giveTurn_37 ?_
        exact x_ireti (pc := 39) h z .int rfl rfl dX7_giveTurn_39
    · refine x_ldc (pc := 22) h kc_X7_50 dX7_giveTurn_22 ?_
      exact x_ireti (pc := 24) h z .int rfl rfl dX7_giveTurn_24

set_option maxRecDepth 20000 in
set_option maxHeartbeats 4000000 in
theorem c_X9_give (fu : Nat) (σ : gSt) (k0 : Nat) (p1 : Int32) (p2 : Int32) (hk0 : isO k0 9) : gCt yX9_give cX9_give 3 (some .int) 6 135 gQi (fun ad => [.ref (ad k0), .int p1, .int p2]) σ (f_X9_give fu σ k0 p1 p2) := by
  refine gCt_intro RX9 rfl (by decide +kernel) (fun ad v hv => by simp only [List.mem_cons, List.not_mem_nil, or_false] at hv; rcases hv with rfl | rfl | rfl <;> rfl) (fun ad => Nat.le_of_ble_eq_true rfl) (fun Γ h z => ?_)
  show At Γ 0 [some (.ref (gAd Γ.1 k0)), some (.int p1), some (.int p2)] [] σ _
  unfold f_X9_give
  refine x_aload_n (pc := 0) (i := 0) h dX9_give_0 rfl rfl ?_
  refine gf_X9_16 (pc := 1) h hk0 dX9_give_1 ?_
  refine x_aload_n (pc := 4) (i := 0) h dX9_give_4 rfl rfl ?_
  refine gf_X9_10 (pc := 5) h hk0 dX9_give_5 ?_
  refine x_Vv (pc := 8) (av := fun ad => [.ref (ad (k0 + 10))]) (rest := []) h m_X7_takeFrom i_X7_takeFrom kl_X9_51 (t_9_1 hk0) (by decide) rfl (c_X7_takeFrom fu σ (k0 + 22) (k0 + 10) (t_9_1 hk0) (t_9_0 hk0)) rfl rfl (gCaM rfl) dX9_give_8 (fun σ8 => ?_)
  refine x_aload_n (pc := 11) (i := 0) h dX9_give_11 rfl rfl ?_
  refine x_aload_n (pc := 12) (i := 0) h dX9_give_12 rfl rfl ?_
  refine gf_X9_10 (pc := 13) h hk0 dX9_give_13 ?_
  refine x_iload_n (pc := 16) (i := 1) h dX9_give_16 rfl rfl ?_
  refine x_iload_n (pc := 17) (i := 2) h dX9_give_17 rfl rfl ?_
  refine x_Vi (pc := 18) (av := fun ad => [.int p1, .int p2]) (rest := [.ref (gAd Γ.1 k0)]) h m_X7_giveTurn i_X7_giveTurn kl_X9_81 (t_9_0 hk0) (by decide) rfl (c_X7_giveTurn fu σ8 (k0 + 10) p1 p2 (t_9_0 hk0)) rfl rfl (gCaM rfl) dX9_give_18 (fun v18 σ18 => ?_)
  refine x_Vi (pc := 21) (av := fun ad => [.int v18]) (rest := []) h m_X9_recorded i_X9_recorded kl_X9_58 hk0 (by decide) rfl (c_X9_recorded fu σ18 k0 v18 hk0) rfl rfl (gCaM rfl) dX9_give_21 (fun v21 σ21 => ?_)
  exact x_ireti (pc := 24) h z .int rfl rfl dX9_give_24

set_option maxRecDepth 20000 in
set_option maxHeartbeats 4000000 in
theorem c_X10_isVoice (fu : Nat) (σ : gSt) (k0 : Nat) (p1 : Int32) (hk0 : isO k0 10) : gCt yX10_isVoice cX10_isVoice 2 (some .boolean) 1 22 (gQp σ) (fun ad => [.ref (ad k0), .int p1]) σ (f_X10_isVoice fu σ k0 p1) := by
  refine gCt_intro RX10 rfl (by decide +kernel) (fun ad v hv => by simp only [List.mem_cons, List.not_mem_nil, or_false] at hv; rcases hv with rfl | rfl <;> rfl) (fun ad => Nat.le_of_ble_eq_true rfl) (fun Γ h z => ?_)
  show At Γ 0 [some (.ref (gAd Γ.1 k0)), some (.int p1)] [] σ _
  unfold f_X10_isVoice
  refine x_iload_n (pc := 0) (i := 1) h dX10_isVoice_0 rfl rfl ?_
  refine x_iconst (pc := 1) (v := 0) h dX10_isVoice_1 (by decide) ?_
  refine x_iconst (pc := 2) (v := 5) h dX10_isVoice_2 (by decide) ?_
  refine x_Sp (pc := 3) (av := fun ad => [.int p1, .int 0, .int 5]) (rest := []) h m_X10_in s_X10_in kl_X10_39 (c_X10_in fu σ p1 0 5) rfl rfl (gCaM rfl) dX10_isVoice_3 (fun v3 => ?_)
  refine x_if_eq (pc := 6) (tgt := 26) h dX10_isVoice_6 (by decide) ?_ ?_
  · refine x_iconst (pc := 26) (v := 0) h dX10_isVoice_26 (by decide) ?_
    exact x_iretp (pc := 27) h z rfl .boolean rfl rfl dX10_isVoice_27
  · refine x_aload_n (pc := 9) (i := 0) h dX10_isVoice_9 rfl rfl ?_
    refine gf_X10_7 (pc := 10) h hk0 dX10_isVoice_10 ?_
    refine x_sipush (pc := 13) (v := 276) h dX10_isVoice_13 (by decide) ?_
    refine x_iload_n (pc := 16) (i := 1) h dX10_isVoice_16 rfl rfl ?_
    refine x_iadd (pc := 17) h dX10_isVoice_17 ?_
    refine x_iald (pc := 18) h (t_10_0 hk0) dX10_isVoice_18 (fun v18 => ?_)
    refine x_if_le (pc := 19) (tgt := 26) h dX10_isVoice_19 (by decide) ?_ ?_
    · refine x_iconst (pc := 26) (v := 0) h dX10_isVoice_26 (by decide) ?_
      exact x_iretp (pc := 27) h z rfl .boolean rfl rfl dX10_isVoice_27
    · refine x_iconst (pc := 22) (v := 1) h dX10_isVoice_22 (by decide) ?_
      refine x_goto (pc := 23) (tgt := 27) h dX10_isVoice_23 (by decide) ?_
      exact x_iretp (pc := 27) h z rfl .boolean rfl rfl dX10_isVoice_27

set_option maxRecDepth 20000 in
set_option maxHeartbeats 4000000 in
theorem f_X10_turnsOf_L4_at (fu : Nat) (σ : gSt) (k0 : Nat) (p1 : Int32) (ag4 : Int32 → Int32 → Option (Int32)) {Γ : gX (Int32)} (h : gOk Γ cX10_turnsOf 4 RX10 (some .int) 1 22) (z : gEnd Γ (gQp σ)) (hk0 : isO k0 10) (hg4 : ∀ (y2 : Int32) (y3 : Int32), At Γ 4 [some (.ref (gAd Γ.1 k0)), some (.int p1), some (.int y2), some (.int y3)] [] σ (ag4 y2 y3)) (x2 : Int32) (x3 : Int32) : At Γ 4 [some (.ref (gAd Γ.1 k0)), some (.int p1), some (.int x2), some (.int x3)] [] σ (f_X10_turnsOf_L4 fu σ k0 p1 ag4 x2 x3) := by
  unfold f_X10_turnsOf_L4
  refine x_iload_n (pc := 4) (i := 3) h dX10_turnsOf_4 rfl rfl ?_
  refine x_aload_n (pc := 5) (i := 0) h dX10_turnsOf_5 rfl rfl ?_
  refine gf_X10_7 (pc := 6) h hk0 dX10_turnsOf_6 ?_
  refine x_sipush (pc := 9) (v := 282) h dX10_turnsOf_9 (by decide) ?_
  refine x_ialdS (pc := 12) h 282 (t_10_0 hk0) (by decide) (by decide) (by decide) dX10_turnsOf_12 ?_
  refine x_icmp_ge (pc := 13) (tgt := 40) h dX10_turnsOf_13 (by decide) ?_ ?_
  · refine x_iload_n (pc := 40) (i := 2) h dX10_turnsOf_40 rfl rfl ?_
    exact x_iretp (pc := 41) h z rfl .int rfl rfl dX10_turnsOf_41
  · refine x_iload_n (pc := 16) (i := 2) h dX10_turnsOf_16 rfl rfl ?_
    refine x_aload_n (pc := 17) (i := 0) h dX10_turnsOf_17 rfl rfl ?_
    refine x_iload_n (pc := 18) (i := 3) h dX10_turnsOf_18 rfl rfl ?_
    refine x_iconst (pc := 19) (v := 3) h dX10_turnsOf_19 (by decide) ?_
    refine x_Vp (pc := 20) (av := fun ad => [.int x3, .int 3]) (rest := [.int x2]) h m_X10_of i_X10_of kl_X10_47 hk0 (by decide) rfl (c_X10_of fu σ k0 x3 3 hk0) rfl rfl (gCaM rfl) dX10_turnsOf_20 (fun v20 => ?_)
    refine x_iload_n (pc := 23) (i := 1) h dX10_turnsOf_23 rfl rfl ?_
    refine x_nm (e := (if v20 = p1 then 1 else 0)) (pcJ := 32) (LJ := [some (.ref (gAd Γ.1 k0)), some (.int p1), some (.int x2), some (.int x3)]) (sJ := [.int x2]) (fun w24 => ?_) (fun kj24 => ?_)
    · refine x_iadd (pc := 32) h dX10_turnsOf_32 ?_
      refine x_istore_n (pc := 33) (i := 2) (L' := [some (.ref (gAd Γ.1 k0)), some (.int p1), some (.int (x2 + w24)), some (.int x3)]) h dX10_turnsOf_33 rfl (Nat.le_of_ble_eq_true rfl) rfl ?_
      refine x_iinc (pc := 34) (i := 3) (v := (x3 + 1)) (L' := [some (.ref (gAd Γ.1 k0)), some (.int p1), some (.int (x2 + w24)), some (.int (x3 + 1))]) h dX10_turnsOf_34 rfl rfl rfl ?_
      refine x_goto (pc := 37) (tgt := 4) h dX10_turnsOf_37 (by decide) ?_
      exact At.mask [true, true, true, true] rfl rfl (hg4 (x2 + w24) (x3 + 1))
    · refine j_icmp_ne (pc := 24) (tgt := 31) h dX10_turnsOf_24 (by decide) (fun hc24_0 => ?_) (fun hc24_0 => ?_)
      · refine x_iconst (pc := 31) (v := 0) h dX10_turnsOf_31 (by decide) ?_
        exact kj24 0 (by rw [if_neg hc24_0])
      · refine x_iconst (pc := 27) (v := 1) h dX10_turnsOf_27 (by decide) ?_
        refine x_goto (pc := 28) (tgt := 32) h dX10_turnsOf_28 (by decide) ?_
        exact kj24 1 (by rw [if_pos hc24_0])

theorem f_X10_turnsOf_W4_at (fu : Nat) (σ : gSt) (k0 : Nat) (p1 : Int32) {Γ : gX (Int32)} (h : gOk Γ cX10_turnsOf 4 RX10 (some .int) 1 22) (z : gEnd Γ (gQp σ)) (hk0 : isO k0 10) : ∀ (n : Nat) (x2 : Int32) (x3 : Int32), At Γ 4 [some (.ref (gAd Γ.1 k0)), some (.int p1), some (.int x2), some (.int x3)] [] σ (f_X10_turnsOf_W4 fu σ k0 p1 n x2 x3) := by
  intro n
  induction n with
  | zero => intro x2 x3 r hr; cases hr
  | succ n ih =>
    intro x2 x3
    exact f_X10_turnsOf_L4_at fu σ k0 p1 (f_X10_turnsOf_W4 fu σ k0 p1 n) h z hk0 ih x2 x3

set_option maxRecDepth 20000 in
set_option maxHeartbeats 4000000 in
theorem c_X10_turnsOf (fu : Nat) (σ : gSt) (k0 : Nat) (p1 : Int32) (hk0 : isO k0 10) : gCt yX10_turnsOf cX10_turnsOf 4 (some .int) 1 22 (gQp σ) (fun ad => [.ref (ad k0), .int p1]) σ (f_X10_turnsOf fu σ k0 p1) := by
  refine gCt_intro RX10 rfl (by decide +kernel) (fun ad v hv => by simp only [List.mem_cons, List.not_mem_nil, or_false] at hv; rcases hv with rfl | rfl <;> rfl) (fun ad => Nat.le_of_ble_eq_true rfl) (fun Γ h z => ?_)
  show At Γ 0 [some (.ref (gAd Γ.1 k0)), some (.int p1), none, none] [] σ _
  unfold f_X10_turnsOf
  refine x_iconst (pc := 0) (v := 0) h dX10_turnsOf_0 (by decide) ?_
  refine x_istore_n (pc := 1) (i := 2) (L' := [some (.ref (gAd Γ.1 k0)), some (.int p1), some (.int 0), none]) h dX10_turnsOf_1 rfl (Nat.le_of_ble_eq_true rfl) rfl ?_
  refine x_iconst (pc := 2) (v := 0) h dX10_turnsOf_2 (by decide) ?_
  refine x_istore_n (pc := 3) (i := 3) (L' := [some (.ref (gAd Γ.1 k0)), some (.int p1), some (.int 0), some (.int 0)]) h dX10_turnsOf_3 rfl (Nat.le_of_ble_eq_true rfl) rfl ?_
  exact At.mask [true, true, true, true] rfl rfl (f_X10_turnsOf_W4_at fu σ k0 p1 h z hk0 fu 0 0)

set_option maxRecDepth 20000 in
set_option maxHeartbeats 4000000 in
theorem f_X10_tunes_J80_at (fu : Nat) (k0 : Nat) (p1 : Int32) {Γ : gX (gSt)} (h : gOk Γ cX10_tunes 4 RX10 none 2 45) (z : gEnd Γ gQv) (hk0 : isO k0 10) (s3 : Int32) (s2 : Int32) (σ : gSt) : At Γ 80 [none, none, none, none] [.int s3, .int s2, .ref (gAd Γ.1 (k0 + 1))] σ (f_X10_tunes_J80 fu k0 p1 s3 s2 σ) := by
  unfold f_X10_tunes_J80
  refine x_iast (pc := 80) h (t_10_0 hk0) dX10_tunes_80 (fun σ80 => ?_)
  exact x_vret (pc := 81) h z rfl dX10_tunes_81

set_option maxRecDepth 20000 in
set_option maxHeartbeats 4000000 in
theorem f_X10_tunes_L4_at (fu : Nat) (k0 : Nat) (p1 : Int32) (σ : gSt) (ag4 : Int32 → Int32 → Option (gSt)) {Γ : gX (gSt)} (h : gOk Γ cX10_tunes 4 RX10 none 2 45) (z : gEnd Γ gQv) (hk0 : isO k0 10) (hg4 : ∀ (y2 : Int32) (y3 : Int32), At Γ 4 [some (.ref (gAd Γ.1 k0)), some (.int p1), some (.int y2), some (.int y3)] [] σ (ag4 y2 y3)) (x2 : Int32) (x3 : Int32) : At Γ 4 [some (.ref (gAd Γ.1 k0)), some (.int p1), some (.int x2), some (.int x3)] [] σ (f_X10_tunes_L4 fu k0 p1 σ ag4 x2 x3) := by
  unfold f_X10_tunes_L4
  refine x_iload_n (pc := 4) (i := 3) h dX10_tunes_4 rfl rfl ?_
  refine x_aload_n (pc := 5) (i := 0) h dX10_tunes_5 rfl rfl ?_
  refine gf_X10_7 (pc := 6) h hk0 dX10_tunes_6 ?_
  refine x_sipush (pc := 9) (v := 282) h dX10_tunes_9 (by decide) ?_
  refine x_ialdS (pc := 12) h 282 (t_10_0 hk0) (by decide) (by decide) (by decide) dX10_tunes_12 ?_
  refine x_icmp_ge (pc := 13) (tgt := 45) h dX10_tunes_13 (by decide) ?_ ?_
  · refine x_aload_n (pc := 45) (i := 0) h dX10_tunes_45 rfl rfl ?_
    refine x_iload_n (pc := 46) (i := 1) h dX10_tunes_46 rfl rfl ?_
    refine x_Vp (pc := 47) (av := fun ad => [.int p1]) (rest := []) h m_X10_turnsOf i_X10_turnsOf kl_X10_88 hk0 (by decide) rfl (c_X10_turnsOf fu σ k0 p1 hk0) rfl rfl (gCaM rfl) dX10_tunes_47 (fun v47 => ?_)
    refine x_istore_n (pc := 50) (i := 3) (L' := [some (.ref (gAd Γ.1 k0)), some (.int p1), some (.int x2), some (.int v47)]) h dX10_tunes_50 rfl (Nat.le_of_ble_eq_true rfl) rfl ?_
    refine x_aload_n (pc := 51) (i := 0) h dX10_tunes_51 rfl rfl ?_
    refine gf_X10_7 (pc := 52) h hk0 dX10_tunes_52 ?_
    refine x_sipush (pc := 55) (v := 276) h dX10_tunes_55 (by decide) ?_
    refine x_iload_n (pc := 58) (i := 1) h dX10_tunes_58 rfl rfl ?_
    refine x_iadd (pc := 59) h dX10_tunes_59 ?_
    refine x_iload_n (pc := 60) (i := 3) h dX10_tunes_60 rfl rfl ?_
    refine x_if_ne (pc := 61) (tgt := 77) h dX10_tunes_61 (by decide) ?_ ?_
    · refine x_iload_n (pc := 77) (i := 2) h dX10_tunes_77 rfl rfl ?_
      refine x_iload_n (pc := 78) (i := 3) h dX10_tunes_78 rfl rfl ?_
      refine x_idiv (pc := 79) h dX10_tunes_79 (fun v79 => ?_)
      exact At.mask [false, false, false, false] rfl rfl (f_X10_tunes_J80_at fu k0 p1 h z hk0 v79 (276 + p1) σ)
    · refine x_aload_n (pc := 64) (i := 0) h dX10_tunes_64 rfl rfl ?_
      refine gf_X10_7 (pc := 65) h hk0 dX10_tunes_65 ?_
      refine x_sipush (pc := 68) (v := 276) h dX10_tunes_68 (by decide) ?_
      refine x_iload_n (pc := 71) (i := 1) h dX10_tunes_71 rfl rfl ?_
      refine x_iadd (pc := 72) h dX10_tunes_72 ?_
      refine x_iald (pc := 73) h (t_10_0 hk0) dX10_tunes_73 (fun v73 => ?_)
      refine x_goto (pc := 74) (tgt := 80) h dX10_tunes_74 (by decide) ?_
      exact At.mask [false, false, false, false] rfl rfl (f_X10_tunes_J80_at fu k0 p1 h z hk0 v73 (276 + p1) σ)
  · refine x_iload_n (pc := 16) (i := 2) h dX10_tunes_16 rfl rfl ?_
    refine x_aload_n (pc := 17) (i := 0) h dX10_tunes_17 rfl rfl ?_
    refine x_iload_n (pc := 18) (i := 3) h dX10_tunes_18 rfl rfl ?_
    refine x_iconst (pc := 19) (v := 3) h dX10_tunes_19 (by decide) ?_
    refine x_Vp (pc := 20) (av := fun ad => [.int x3, .int 3]) (rest := [.int x2]) h m_X10_of i_X10_of kl_X10_47 hk0 (by decide) rfl (c_X10_of fu σ k0 x3 3 hk0) rfl rfl (gCaM rfl) dX10_tunes_20 (fun v20 => ?_)
    refine x_iload_n (pc := 23) (i := 1) h dX10_tunes_23 rfl rfl ?_
    refine x_icmp_ne (pc := 24) (tgt := 36) h dX10_tunes_24 (by decide) ?_ ?_
    · refine x_iconst (pc := 36) (v := 0) h dX10_tunes_36 (by decide) ?_
      refine x_iadd (pc := 37) h dX10_tunes_37 ?_
      refine x_istore_n (pc := 38) (i := 2) (L' := [some (.ref (gAd Γ.1 k0)), some (.int p1), some (.int (x2 + 0)), some (.int x3)]) h dX10_tunes_38 rfl (Nat.le_of_ble_eq_true rfl) rfl ?_
      refine x_iinc (pc := 39) (i := 3) (v := (x3 + 1)) (L' := [some (.ref (gAd Γ.1 k0)), some (.int p1), some (.int (x2 + 0)), some (.int (x3 + 1))]) h dX10_tunes_39 rfl rfl rfl ?_
      refine x_goto (pc := 42) (tgt := 4) h dX10_tunes_42 (by decide) ?_
      exact At.mask [true, true, true, true] rfl rfl (hg4 (x2 + 0) (x3 + 1))
    · refine x_aload_n (pc := 27) (i := 0) h dX10_tunes_27 rfl rfl ?_
      refine x_iload_n (pc := 28) (i := 3) h dX10_tunes_28 rfl rfl ?_
      refine x_iconst (pc := 29) (v := 2) h dX10_tunes_29 (by decide) ?_
      refine x_Vp (pc := 30) (av := fun ad => [.int x3, .int 2]) (rest := [.int x2]) h m_X10_of i_X10_of kl_X10_47 hk0 (by decide) rfl (c_X10_of fu σ k0 x3 2 hk0) rfl rfl (gCaM rfl) dX10_tunes_30 (fun v30 => ?_)
      refine x_goto (pc := 33) (tgt := 37) h dX10_tunes_33 (by decide) ?_
      refine x_iadd (pc := 37) h dX10_tunes_37 ?_
      refine x_istore_n (pc := 38) (i := 2) (L' := [some (.ref (gAd Γ.1 k0)), some (.int p1), some (.int (x2 + v30)), some (.int x3)]) h dX10_tunes_38 rfl (Nat.le_of_ble_eq_true rfl) rfl ?_
      refine x_iinc (pc := 39) (i := 3) (v := (x3 + 1)) (L' := [some (.ref (gAd Γ.1 k0)), some (.int p1), some (.int (x2 + v30)), some (.int (x3 + 1))]) h dX10_tunes_39 rfl rfl rfl ?_
      refine x_goto (pc := 42) (tgt := 4) h dX10_tunes_42 (by decide) ?_
      exact At.mask [true, true, true, true] rfl rfl (hg4 (x2 + v30) (x3 + 1))

theorem f_X10_tunes_W4_at (fu : Nat) (k0 : Nat) (p1 : Int32) (σ : gSt) {Γ : gX (gSt)} (h : gOk Γ cX10_tunes 4 RX10 none 2 45) (z : gEnd Γ gQv) (hk0 : isO k0 10) : ∀ (n : Nat) (x2 : Int32) (x3 : Int32), At Γ 4 [some (.ref (gAd Γ.1 k0)), some (.int p1), some (.int x2), some (.int x3)] [] σ (f_X10_tunes_W4 fu k0 p1 σ n x2 x3) := by
  intro n
  induction n with
  | zero => intro x2 x3 r hr; cases hr
  | succ n ih =>
    intro x2 x3
    exact f_X10_tunes_L4_at fu k0 p1 σ (f_X10_tunes_W4 fu k0 p1 σ n) h z hk0 ih x2 x3

set_option maxRecDepth 20000 in
set_option maxHeartbeats 4000000 in
theorem c_X10_tunes (fu : Nat) (σ : gSt) (k0 : Nat) (p1 : Int32) (hk0 : isO k0 10) : gCt yX10_tunes cX10_tunes 4 none 2 45 gQv (fun ad => [.ref (ad k0), .int p1]) σ (f_X10_tunes fu σ k0 p1) := by
  refine gCt_intro RX10 rfl (by decide +kernel) (fun ad v hv => by simp only [List.mem_cons, List.not_mem_nil, or_false] at hv; rcases hv with rfl | rfl <;> rfl) (fun ad => Nat.le_of_ble_eq_true rfl) (fun Γ h z => ?_)
  show At Γ 0 [some (.ref (gAd Γ.1 k0)), some (.int p1), none, none] [] σ _
  unfold f_X10_tunes
  refine x_iconst (pc := 0) (v := 0) h dX10_tunes_0 (by decide) ?_
  refine x_istore_n (pc := 1) (i := 2) (L' := [some (.ref (gAd Γ.1 k0)), some (.int p1), some (.int 0), none]) h dX10_tunes_1 rfl (Nat.le_of_ble_eq_true rfl) rfl ?_
  refine x_iconst (pc := 2) (v := 0) h dX10_tunes_2 (by decide) ?_
  refine x_istore_n (pc := 3) (i := 3) (L' := [some (.ref (gAd Γ.1 k0)), some (.int p1), some (.int 0), some (.int 0)]) h dX10_tunes_3 rfl (Nat.le_of_ble_eq_true rfl) rfl ?_
  exact At.mask [true, true, true, true] rfl rfl (f_X10_tunes_W4_at fu k0 p1 σ h z hk0 fu 0 0)

set_option maxRecDepth 20000 in
set_option maxHeartbeats 4000000 in
theorem c_X10_give (fu : Nat) (σ : gSt) (k0 : Nat) (p1 : Int32) (p2 : Int32) (hk0 : isO k0 10) : gCt yX10_give cX10_give 3 (some .int) 3 68 gQi (fun ad => [.ref (ad k0), .int p1, .int p2]) σ (f_X10_give fu σ k0 p1 p2) := by
  refine gCt_intro RX10 rfl (by decide +kernel) (fun ad v hv => by simp only [List.mem_cons, List.not_mem_nil, or_false] at hv; rcases hv with rfl | rfl | rfl <;> rfl) (fun ad => Nat.le_of_ble_eq_true rfl) (fun Γ h z => ?_)
  show At Γ 0 [some (.ref (gAd Γ.1 k0)), some (.int p1), some (.int p2)] [] σ _
  unfold f_X10_give
  refine x_aload_n (pc := 0) (i := 0) h dX10_give_0 rfl rfl ?_
  refine x_iload_n (pc := 1) (i := 1) h dX10_give_1 rfl rfl ?_
  refine x_Vp (pc := 2) (av := fun ad => [.int p1]) (rest := []) h m_X10_isTurn i_X10_isTurn kl_X10_66 hk0 (by decide) rfl (c_X10_isTurn fu σ k0 p1 hk0) rfl rfl (gCaM rfl) dX10_give_2 (fun v2 => ?_)
  refine x_if_eq (pc := 5) (tgt := 16) h dX10_give_5 (by decide) ?_ ?_
  · refine x_ldc (pc := 16) h kc_X10_50 dX10_give_16 ?_
    exact x_ireti (pc := 18) h z .int rfl rfl dX10_give_18
  · refine x_aload_n (pc := 8) (i := 0) h dX10_give_8 rfl rfl ?_
    refine x_iload_n (pc := 9) (i := 2) h dX10_give_9 rfl rfl ?_
    refine x_Vp (pc := 10) (av := fun ad => [.int p2]) (rest := []) h m_X10_isVoice i_X10_isVoice kl_X10_91 hk0 (by decide) rfl (c_X10_isVoice fu σ k0 p2 hk0) rfl rfl (gCaM rfl) dX10_give_10 (fun v10 => ?_)
    refine x_if_ne (pc := 13) (tgt := 19) h dX10_give_13 (by decide) ?_ ?_
    · refine x_aload_n (pc := 19) (i := 0) h dX10_give_19 rfl rfl ?_
      refine x_iload_n (pc := 20) (i := 1) h dX10_give_20 rfl rfl ?_
      refine x_iconst (pc := 21) (v := 3) h dX10_give_21 (by decide) ?_
      refine x_Vp (pc := 22) (av := fun ad => [.int p1, .int 3]) (rest := []) h m_X10_of i_X10_of kl_X10_47 hk0 (by decide) rfl (c_X10_of fu σ k0 p1 3 hk0) rfl rfl (gCaM rfl) dX10_give_22 (fun v22 => ?_)
      refine x_iload_n (pc := 25) (i := 2) h dX10_give_25 rfl rfl ?_
      refine x_icmp_ne (pc := 26) (tgt := 32) h dX10_give_26 (by decide) ?_ ?_
      · refine x_aload_n (pc := 32) (i := 0) h dX10_give_32 rfl rfl ?_
        refine x_Vv (pc := 33) (av := fun ad => []) (rest := []) h m_X10_changes i_X10_changes kl_X10_52 hk0 (by decide) rfl (c_X10_changes fu σ k0 hk0) rfl rfl (gCaM rfl) dX10_give_33 (fun σ33 => ?_)
        refine x_aload_n (pc := 36) (i := 0) h dX10_give_36 rfl rfl ?_
        refine x_iload_n (pc := 37) (i := 1) h dX10_give_37 rfl rfl ?_
        refine x_iconst (pc := 38) (v := 3) h dX10_give_38 (by decide) ?_
        refine x_iload_n (pc := 39) (i := 2) h dX10_give_39 rfl rfl ?_
        refine x_Vv (pc := 40) (av := fun ad => [.int p1, .int 3, .int p2]) (rest := []) h m_X10_sets i_X10_sets kl_X10_59 hk0 (by decide) rfl (c_X10_sets fu σ33 k0 p1 3 p2 hk0) rfl rfl (gCaM rfl) dX10_give_40 (fun σ40 => ?_)
        refine x_aload_n (pc := 43) (i := 0) h dX10_give_43 rfl rfl ?_
        refine x_iload_n (pc := 44) (i := 2) h dX10_give_44 rfl rfl ?_
        refine x_Vv (pc := 45) (av := fun ad => [.int p2]) (rest := []) h m_X10_tunes i_X10_tunes kl_X10_94 hk0 (by decide) rfl (c_X10_tunes fu σ40 k0 p2 hk0) rfl rfl (gCaM rfl) dX10_give_45 (fun σ45 => ?_)
        refine x_aload_n (pc := 48) (i := 0) h dX10_give_48 rfl rfl ?_
        refine gf_X10_7 (pc := 49) h hk0 dX10_give_49 ?_
        refine x_sipush (pc := 52) (v := 276) h dX10_give_52 (by decide) ?_
        refine x_iload_n (pc := 55) (i := 2) h dX10_give_55 rfl rfl ?_
        refine x_iadd (pc := 56) h dX10_give_56 ?_
        refine x_iald (pc := 57) h (t_10_0 hk0) dX10_give_57 (fun v57 => ?_)
        exact x_ireti (pc := 58) h z .int rfl rfl dX10_give_58
      · refine x_ldc (pc := 29) h kc_X10_80 dX10_give_29 ?_
        exact x_ireti (pc := 31) h z .int rfl rfl dX10_give_31
    · refine x_ldc (pc := 16) h kc_X10_50 dX10_give_16 ?_
      exact x_ireti (pc := 18) h z .int rfl rfl dX10_give_18

set_option maxRecDepth 20000 in
set_option maxHeartbeats 4000000 in
theorem f_X8_passTurns_L2_at (fu : Nat) (k0 : Nat) (p1 : Int32) (p2 : Int32) (ag2 : Int32 → gSt → Option (gSt)) {Γ : gX (gSt)} (h : gOk Γ cX8_passTurns 4 RX8 none 0 0) (z : gEnd Γ gQv) (hk0 : isO k0 8) (hg2 : ∀ (y3 : Int32) (τ : gSt), At Γ 2 [some (.ref (gAd Γ.1 k0)), some (.int p1), some (.int p2), some (.int y3)] [] τ (ag2 y3 τ)) (x3 : Int32) (σ : gSt) : At Γ 2 [some (.ref (gAd Γ.1 k0)), some (.int p1), some (.int p2), some (.int x3)] [] σ (f_X8_passTurns_L2 fu k0 p1 p2 ag2 x3 σ) := by
  unfold f_X8_passTurns_L2
  refine x_iload_n (pc := 2) (i := 3) h dX8_passTurns_2 rfl rfl ?_
  refine x_aload_n (pc := 3) (i := 0) h dX8_passTurns_3 rfl rfl ?_
  refine gf_X8_36 (pc := 4) h hk0 dX8_passTurns_4 ?_
  refine x_icmp_ge (pc := 7) (tgt := 39) h dX8_passTurns_7 (by decide) ?_ ?_
  · exact x_vret (pc := 39) h z rfl dX8_passTurns_39
  · refine x_iload_n (pc := 10) (i := 3) h dX8_passTurns_10 rfl rfl ?_
    refine x_bipush (pc := 11) (v := 20) h dX8_passTurns_11 (by decide) ?_
    refine x_icmp_ge (pc := 13) (tgt := 39) h dX8_passTurns_13 (by decide) ?_ ?_
    · exact x_vret (pc := 39) h z rfl dX8_passTurns_39
    · refine x_aload_n (pc := 16) (i := 0) h dX8_passTurns_16 rfl rfl ?_
      refine gf_X8_21 (pc := 17) h hk0 dX8_passTurns_17 ?_
      refine x_iload_n (pc := 20) (i := 3) h dX8_passTurns_20 rfl rfl ?_
      refine x_iald (pc := 21) h (t_8_3 hk0) dX8_passTurns_21 (fun v21 => ?_)
      refine x_iload_n (pc := 22) (i := 1) h dX8_passTurns_22 rfl rfl ?_
      refine x_icmp_ne (pc := 23) (tgt := 33) h dX8_passTurns_23 (by decide) ?_ ?_
      · refine x_iinc (pc := 33) (i := 3) (v := (x3 + 1)) (L' := [some (.ref (gAd Γ.1 k0)), some (.int p1), some (.int p2), some (.int (x3 + 1))]) h dX8_passTurns_33 rfl rfl rfl ?_
        refine x_goto (pc := 36) (tgt := 2) h dX8_passTurns_36 (by decide) ?_
        exact At.mask [true, true, true, true] rfl rfl (hg2 (x3 + 1) σ)
      · refine x_aload_n (pc := 26) (i := 0) h dX8_passTurns_26 rfl rfl ?_
        refine gf_X8_21 (pc := 27) h hk0 dX8_passTurns_27 ?_
        refine x_iload_n (pc := 30) (i := 3) h dX8_passTurns_30 rfl rfl ?_
        refine x_iload_n (pc := 31) (i := 2) h dX8_passTurns_31 rfl rfl ?_
        refine x_iast (pc := 32) h (t_8_3 hk0) dX8_passTurns_32 (fun σ32 => ?_)
        refine x_iinc (pc := 33) (i := 3) (v := (x3 + 1)) (L' := [some (.ref (gAd Γ.1 k0)), some (.int p1), some (.int p2), some (.int (x3 + 1))]) h dX8_passTurns_33 rfl rfl rfl ?_
        refine x_goto (pc := 36) (tgt := 2) h dX8_passTurns_36 (by decide) ?_
        exact At.mask [true, true, true, true] rfl rfl (hg2 (x3 + 1) σ32)

theorem f_X8_passTurns_W2_at (fu : Nat) (k0 : Nat) (p1 : Int32) (p2 : Int32) {Γ : gX (gSt)} (h : gOk Γ cX8_passTurns 4 RX8 none 0 0) (z : gEnd Γ gQv) (hk0 : isO k0 8) : ∀ (n : Nat) (x3 : Int32) (σ : gSt), At Γ 2 [some (.ref (gAd Γ.1 k0)), some (.int p1), some (.int p2), some (.int x3)] [] σ (f_X8_passTurns_W2 fu k0 p1 p2 n x3 σ) := by
  intro n
  induction n with
  | zero => intro x3 σ r hr; cases hr
  | succ n ih =>
    intro x3 σ
    exact f_X8_passTurns_L2_at fu k0 p1 p2 (f_X8_passTurns_W2 fu k0 p1 p2 n) h z hk0 ih x3 σ

set_option maxRecDepth 20000 in
set_option maxHeartbeats 4000000 in
theorem c_X8_passTurns (fu : Nat) (σ : gSt) (k0 : Nat) (p1 : Int32) (p2 : Int32) (hk0 : isO k0 8) : gCt yX8_passTurns cX8_passTurns 4 none 0 0 gQv (fun ad => [.ref (ad k0), .int p1, .int p2]) σ (f_X8_passTurns fu σ k0 p1 p2) := by
  refine gCt_intro RX8 rfl (by decide +kernel) (fun ad v hv => by simp only [List.mem_cons, List.not_mem_nil, or_false] at hv; rcases hv with rfl | rfl | rfl <;> rfl) (fun ad => Nat.le_of_ble_eq_true rfl) (fun Γ h z => ?_)
  show At Γ 0 [some (.ref (gAd Γ.1 k0)), some (.int p1), some (.int p2), none] [] σ _
  unfold f_X8_passTurns
  refine x_iconst (pc := 0) (v := 0) h dX8_passTurns_0 (by decide) ?_
  refine x_istore_n (pc := 1) (i := 3) (L' := [some (.ref (gAd Γ.1 k0)), some (.int p1), some (.int p2), some (.int 0)]) h dX8_passTurns_1 rfl (Nat.le_of_ble_eq_true rfl) rfl ?_
  exact At.mask [true, true, true, true] rfl rfl (f_X8_passTurns_W2_at fu k0 p1 p2 h z hk0 fu 0 σ)

set_option maxRecDepth 20000 in
set_option maxHeartbeats 4000000 in
theorem c_X4_free (fu : Nat) (σ : gSt) (k0 : Nat) (p1 : Int32) (hk0 : isO k0 4) : gCt yX4_free cX4_free 2 none 2 44 gQv (fun ad => [.ref (ad k0), .int p1]) σ (f_X4_free fu σ k0 p1) := by
  refine gCt_intro RX4 rfl (by decide +kernel) (fun ad v hv => by simp only [List.mem_cons, List.not_mem_nil, or_false] at hv; rcases hv with rfl | rfl <;> rfl) (fun ad => Nat.le_of_ble_eq_true rfl) (fun Γ h z => ?_)
  show At Γ 0 [some (.ref (gAd Γ.1 k0)), some (.int p1)] [] σ _
  unfold f_X4_free
  refine x_aload_n (pc := 0) (i := 0) h dX4_free_0 rfl rfl ?_
  refine x_iload_n (pc := 1) (i := 1) h dX4_free_1 rfl rfl ?_
  refine x_iconst (pc := 2) (v := 0) h dX4_free_2 (by decide) ?_
  refine x_Vv (pc := 3) (av := fun ad => [.int p1, .int 0]) (rest := []) h m_X4_tune i_X4_tune kl_X4_29 hk0 (by decide) rfl (c_X4_tune fu σ k0 p1 0 hk0) rfl rfl (gCaM rfl) dX4_free_3 (fun σ3 => ?_)
  exact x_vret (pc := 6) h z rfl dX4_free_6

set_option maxRecDepth 20000 in
set_option maxHeartbeats 4000000 in
theorem c_X7_joinSpeakers (fu : Nat) (σ : gSt) (k0 : Nat) (p1 : Int32) (p2 : Int32) (hk0 : isO k0 7) : gCt yX7_joinSpeakers cX7_joinSpeakers 3 (some .int) 3 65 gQi (fun ad => [.ref (ad k0), .int p1, .int p2]) σ (f_X7_joinSpeakers fu σ k0 p1 p2) := by
  refine gCt_intro RX7 rfl (by decide +kernel) (fun ad v hv => by simp only [List.mem_cons, List.not_mem_nil, or_false] at hv; rcases hv with rfl | rfl | rfl <;> rfl) (fun ad => Nat.le_of_ble_eq_true rfl) (fun Γ h z => ?_)
  show At Γ 0 [some (.ref (gAd Γ.1 k0)), some (.int p1), some (.int p2)] [] σ _
  unfold f_X7_joinSpeakers
  refine x_aload_n (pc := 0) (i := 0) h dX7_joinSpeakers_0 rfl rfl ?_
  refine gf_X7_28 (pc := 1) h hk0 dX7_joinSpeakers_1 ?_
  refine x_iload_n (pc := 4) (i := 1) h dX7_joinSpeakers_4 rfl rfl ?_
  refine x_Vp (pc := 5) (av := fun ad => [.int p1]) (rest := []) h m_X4_has i_X4_has kl_X7_134 (t_7_2 hk0) (by decide) rfl (c_X4_has fu σ (k0 + 10) p1 (t_7_2 hk0)) rfl rfl (gCaM rfl) dX7_joinSpeakers_5 (fun v5 => ?_)
  refine x_if_eq (pc := 8) (tgt := 27) h dX7_joinSpeakers_8 (by decide) ?_ ?_
  · refine x_ldc (pc := 27) h kc_X7_50 dX7_joinSpeakers_27 ?_
    exact x_ireti (pc := 29) h z .int rfl rfl dX7_joinSpeakers_29
  · refine x_aload_n (pc := 11) (i := 0) h dX7_joinSpeakers_11 rfl rfl ?_
    refine gf_X7_28 (pc := 12) h hk0 dX7_joinSpeakers_12 ?_
    refine x_iload_n (pc := 15) (i := 2) h dX7_joinSpeakers_15 rfl rfl ?_
    refine x_Vp (pc := 16) (av := fun ad => [.int p2]) (rest := []) h m_X4_has i_X4_has kl_X7_134 (t_7_2 hk0) (by decide) rfl (c_X4_has fu σ (k0 + 10) p2 (t_7_2 hk0)) rfl rfl (gCaM rfl) dX7_joinSpeakers_16 (fun v16 => ?_)
    refine x_if_eq (pc := 19) (tgt := 27) h dX7_joinSpeakers_19 (by decide) ?_ ?_
    · refine x_ldc (pc := 27) h kc_X7_50 dX7_joinSpeakers_27 ?_
      exact x_ireti (pc := 29) h z .int rfl rfl dX7_joinSpeakers_29
    · refine x_iload_n (pc := 22) (i := 1) h dX7_joinSpeakers_22 rfl rfl ?_
      refine x_iload_n (pc := 23) (i := 2) h dX7_joinSpeakers_23 rfl rfl ?_
      refine x_icmp_ne (pc := 24) (tgt := 30) h dX7_joinSpeakers_24 (by decide) ?_ ?_
      · refine x_aload_n (pc := 30) (i := 0) h dX7_joinSpeakers_30 rfl rfl ?_
        refine gf_X7_12 (pc := 31) h hk0 dX7_joinSpeakers_31 ?_
        refine x_iload_n (pc := 34) (i := 1) h dX7_joinSpeakers_34 rfl rfl ?_
        refine x_iload_n (pc := 35) (i := 2) h dX7_joinSpeakers_35 rfl rfl ?_
        refine x_Vv (pc := 36) (av := fun ad => [.int p1, .int p2]) (rest := []) h m_X8_passTurns i_X8_passTurns kl_X7_142 (t_7_0 hk0) (by decide) rfl (c_X8_passTurns fu σ (k0 + 1) p1 p2 (t_7_0 hk0)) rfl rfl (gCaM rfl) dX7_joinSpeakers_36 (fun σ36 => ?_)
        refine x_aload_n (pc := 39) (i := 0) h dX7_joinSpeakers_39 rfl rfl ?_
        refine gf_X7_28 (pc := 40) h hk0 dX7_joinSpeakers_40 ?_
        refine x_iload_n (pc := 43) (i := 1) h dX7_joinSpeakers_43 rfl rfl ?_
        refine x_Vv (pc := 44) (av := fun ad => [.int p1]) (rest := []) h m_X4_free i_X4_free kl_X7_145 (t_7_2 hk0) (by decide) rfl (c_X4_free fu σ36 (k0 + 10) p1 (t_7_2 hk0)) rfl rfl (gCaM rfl) dX7_joinSpeakers_44 (fun σ44 => ?_)
        refine x_aload_n (pc := 47) (i := 0) h dX7_joinSpeakers_47 rfl rfl ?_
        refine gf_X7_28 (pc := 48) h hk0 dX7_joinSpeakers_48 ?_
        refine x_iload_n (pc := 51) (i := 2) h dX7_joinSpeakers_51 rfl rfl ?_
        refine x_aload_n (pc := 52) (i := 0) h dX7_joinSpeakers_52 rfl rfl ?_
        refine gf_X7_12 (pc := 53) h hk0 dX7_joinSpeakers_53 ?_
        refine x_iload_n (pc := 56) (i := 2) h dX7_joinSpeakers_56 rfl rfl ?_
        refine x_aload_n (pc := 57) (i := 0) h dX7_joinSpeakers_57 rfl rfl ?_
        refine gf_X7_28 (pc := 58) h hk0 dX7_joinSpeakers_58 ?_
        refine x_iload_n (pc := 61) (i := 2) h dX7_joinSpeakers_61 rfl rfl ?_
        refine x_Vp (pc := 62) (av := fun ad => [.int p2]) (rest := [.int p2, .ref (gAd Γ.1 (k0 + 1)), .int p2, .ref (gAd Γ.1 (k0 + 10))]) h m_X4_pitchOf i_X4_pitchOf kl_X7_138 (t_7_2 hk0) (by decide) rfl (c_X4_pitchOf fu σ44 (k0 + 10) p2 (t_7_2 hk0)) rfl rfl (gCaM rfl) dX7_joinSpeakers_62 (fun v62 => ?_)
        refine x_Vp (pc := 65) (av := fun ad => [.int p2, .int v62]) (rest := [.int p2, .ref (gAd Γ.1 (k0 + 10))]) h m_X8_meanPitchOf i_X8_meanPitchOf kl_X7_139 (t_7_0 hk0) (by decide) rfl (c_X8_meanPitchOf fu σ44 (k0 + 1) p2 v62 (t_7_0 hk0)) rfl rfl (gCaM rfl) dX7_joinSpeakers_65 (fun v65 => ?_)
        refine x_Vv (pc := 68) (av := fun ad => [.int p2, .int v65]) (rest := []) h m_X4_tune i_X4_tune kl_X7_131 (t_7_2 hk0) (by decide) rfl (c_X4_tune fu σ44 (k0 + 10) p2 v65 (t_7_2 hk0)) rfl rfl (gCaM rfl) dX7_joinSpeakers_68 (fun σ68 => ?_)
        refine x_aload_n (pc := 71) (i := 0) h dX7_joinSpeakers_71 rfl rfl ?_
        refine gf_X7_12 (pc := 72) h hk0 dX7_joinSpeakers_72 ?_
        refine x_iload_n (pc := 75) (i := 2) h dX7_joinSpeakers_75 rfl rfl ?_
        refine x_Vp (pc := 76) (av := fun ad => [.int p2]) (rest := []) h m_X8_turnsOf i_X8_turnsOf kl_X7_148 (t_7_0 hk0) (by decide) rfl (c_X8_turnsOf fu σ68 (k0 + 1) p2 (t_7_0 hk0)) rfl rfl (gCaM rfl) dX7_joinSpeakers_76 (fun v76 => ?_)
        exact x_ireti (pc := 79) h z .int rfl rfl dX7_joinSpeakers_79
      · refine x_ldc (pc := 27) h kc_X7_50 dX7_joinSpeakers_27 ?_
        exact x_ireti (pc := 29) h z .int rfl rfl dX7_joinSpeakers_29

set_option maxRecDepth 20000 in
set_option maxHeartbeats 4000000 in
theorem c_X9_join (fu : Nat) (σ : gSt) (k0 : Nat) (p1 : Int32) (p2 : Int32) (hk0 : isO k0 9) : gCt yX9_join cX9_join 3 (some .int) 6 135 gQi (fun ad => [.ref (ad k0), .int p1, .int p2]) σ (f_X9_join fu σ k0 p1 p2) := by
  refine gCt_intro RX9 rfl (by decide +kernel) (fun ad v hv => by simp only [List.mem_cons, List.not_mem_nil, or_false] at hv; rcases hv with rfl | rfl | rfl <;> rfl) (fun ad => Nat.le_of_ble_eq_true rfl) (fun Γ h z => ?_)
  show At Γ 0 [some (.ref (gAd Γ.1 k0)), some (.int p1), some (.int p2)] [] σ _
  unfold f_X9_join
  refine x_aload_n (pc := 0) (i := 0) h dX9_join_0 rfl rfl ?_
  refine gf_X9_16 (pc := 1) h hk0 dX9_join_1 ?_
  refine x_aload_n (pc := 4) (i := 0) h dX9_join_4 rfl rfl ?_
  refine gf_X9_10 (pc := 5) h hk0 dX9_join_5 ?_
  refine x_Vv (pc := 8) (av := fun ad => [.ref (ad (k0 + 10))]) (rest := []) h m_X7_takeFrom i_X7_takeFrom kl_X9_51 (t_9_1 hk0) (by decide) rfl (c_X7_takeFrom fu σ (k0 + 22) (k0 + 10) (t_9_1 hk0) (t_9_0 hk0)) rfl rfl (gCaM rfl) dX9_join_8 (fun σ8 => ?_)
  refine x_aload_n (pc := 11) (i := 0) h dX9_join_11 rfl rfl ?_
  refine x_aload_n (pc := 12) (i := 0) h dX9_join_12 rfl rfl ?_
  refine gf_X9_10 (pc := 13) h hk0 dX9_join_13 ?_
  refine x_iload_n (pc := 16) (i := 1) h dX9_join_16 rfl rfl ?_
  refine x_iload_n (pc := 17) (i := 2) h dX9_join_17 rfl rfl ?_
  refine x_Vi (pc := 18) (av := fun ad => [.int p1, .int p2]) (rest := [.ref (gAd Γ.1 k0)]) h m_X7_joinSpeakers i_X7_joinSpeakers kl_X9_84 (t_9_0 hk0) (by decide) rfl (c_X7_joinSpeakers fu σ8 (k0 + 10) p1 p2 (t_9_0 hk0)) rfl rfl (gCaM rfl) dX9_join_18 (fun v18 σ18 => ?_)
  refine x_Vi (pc := 21) (av := fun ad => [.int v18]) (rest := []) h m_X9_recorded i_X9_recorded kl_X9_58 hk0 (by decide) rfl (c_X9_recorded fu σ18 k0 v18 hk0) rfl rfl (gCaM rfl) dX9_join_21 (fun v21 σ21 => ?_)
  exact x_ireti (pc := 24) h z .int rfl rfl dX9_join_24

set_option maxRecDepth 20000 in
set_option maxHeartbeats 4000000 in
theorem f_X10_join_J65_at (fu : Nat) (k0 : Nat) (p1 : Int32) (p2 : Int32) (ag30 : Int32 → gSt → Option (Int32 × gSt)) {Γ : gX (Int32 × gSt)} (h : gOk Γ cX10_join 4 RX10 (some .int) 3 68) (z : gEnd Γ gQi) (hk0 : isO k0 10) (x3 : Int32) (s4 : Int32) (s3 : Int32) (s2 : Int32) (σ : gSt) (hg30 : ∀ (y3 : Int32) (τ : gSt), At Γ 30 [some (.ref (gAd Γ.1 k0)), some (.int p1), some (.int p2), some (.int y3)] [] τ (ag30 y3 τ)) : At Γ 65 [some (.ref (gAd Γ.1 k0)), some (.int p1), some (.int p2), some (.int x3)] [.int s4, .int s3, .int s2, .ref (gAd Γ.1 k0)] σ (f_X10_join_J65 fu k0 p1 p2 ag30 x3 s4 s3 s2 σ) := by
  unfold f_X10_join_J65
  refine x_Vv (pc := 65) (av := fun ad => [.int s2, .int s3, .int s4]) (rest := []) h m_X10_sets i_X10_sets kl_X10_59 hk0 (by decide) rfl (c_X10_sets fu σ k0 s2 s3 s4 hk0) rfl rfl (gCaM rfl) dX10_join_65 (fun σ65 => ?_)
  refine x_iinc (pc := 68) (i := 3) (v := (x3 + 1)) (L' := [some (.ref (gAd Γ.1 k0)), some (.int p1), some (.int p2), some (.int (x3 + 1))]) h dX10_join_68 rfl rfl rfl ?_
  refine x_goto (pc := 71) (tgt := 30) h dX10_join_71 (by decide) ?_
  exact At.mask [true, true, true, true] rfl rfl (hg30 (x3 + 1) σ65)

set_option maxRecDepth 20000 in
set_option maxHeartbeats 4000000 in
theorem f_X10_join_L30_at (fu : Nat) (k0 : Nat) (p1 : Int32) (p2 : Int32) (ag30 : Int32 → gSt → Option (Int32 × gSt)) {Γ : gX (Int32 × gSt)} (h : gOk Γ cX10_join 4 RX10 (some .int) 3 68) (z : gEnd Γ gQi) (hk0 : isO k0 10) (hg30 : ∀ (y3 : Int32) (τ : gSt), At Γ 30 [some (.ref (gAd Γ.1 k0)), some (.int p1), some (.int p2), some (.int y3)] [] τ (ag30 y3 τ)) (x3 : Int32) (σ : gSt) : At Γ 30 [some (.ref (gAd Γ.1 k0)), some (.int p1), some (.int p2), some (.int x3)] [] σ (f_X10_join_L30 fu k0 p1 p2 ag30 x3 σ) := by
  unfold f_X10_join_L30
  refine x_iload_n (pc := 30) (i := 3) h dX10_join_30 rfl rfl ?_
  refine x_aload_n (pc := 31) (i := 0) h dX10_join_31 rfl rfl ?_
  refine gf_X10_7 (pc := 32) h hk0 dX10_join_32 ?_
  refine x_sipush (pc := 35) (v := 282) h dX10_join_35 (by decide) ?_
  refine x_ialdS (pc := 38) h 282 (t_10_0 hk0) (by decide) (by decide) (by decide) dX10_join_38 ?_
  refine x_icmp_ge (pc := 39) (tgt := 74) h dX10_join_39 (by decide) ?_ ?_
  · refine x_aload_n (pc := 74) (i := 0) h dX10_join_74 rfl rfl ?_
    refine gf_X10_7 (pc := 75) h hk0 dX10_join_75 ?_
    refine x_sipush (pc := 78) (v := 276) h dX10_join_78 (by decide) ?_
    refine x_iload_n (pc := 81) (i := 1) h dX10_join_81 rfl rfl ?_
    refine x_iadd (pc := 82) h dX10_join_82 ?_
    refine x_iconst (pc := 83) (v := 0) h dX10_join_83 (by decide) ?_
    refine x_iast (pc := 84) h (t_10_0 hk0) dX10_join_84 (fun σ84 => ?_)
    refine x_aload_n (pc := 85) (i := 0) h dX10_join_85 rfl rfl ?_
    refine x_iload_n (pc := 86) (i := 2) h dX10_join_86 rfl rfl ?_
    refine x_Vv (pc := 87) (av := fun ad => [.int p2]) (rest := []) h m_X10_tunes i_X10_tunes kl_X10_94 hk0 (by decide) rfl (c_X10_tunes fu σ84 k0 p2 hk0) rfl rfl (gCaM rfl) dX10_join_87 (fun σ87 => ?_)
    refine x_aload_n (pc := 90) (i := 0) h dX10_join_90 rfl rfl ?_
    refine x_iload_n (pc := 91) (i := 2) h dX10_join_91 rfl rfl ?_
    refine x_Vp (pc := 92) (av := fun ad => [.int p2]) (rest := []) h m_X10_turnsOf i_X10_turnsOf kl_X10_88 hk0 (by decide) rfl (c_X10_turnsOf fu σ87 k0 p2 hk0) rfl rfl (gCaM rfl) dX10_join_92 (fun v92 => ?_)
    exact x_ireti (pc := 95) h z .int rfl rfl dX10_join_95
  · refine x_aload_n (pc := 42) (i := 0) h dX10_join_42 rfl rfl ?_
    refine x_iload_n (pc := 43) (i := 3) h dX10_join_43 rfl rfl ?_
    refine x_iconst (pc := 44) (v := 3) h dX10_join_44 (by decide) ?_
    refine x_aload_n (pc := 45) (i := 0) h dX10_join_45 rfl rfl ?_
    refine x_iload_n (pc := 46) (i := 3) h dX10_join_46 rfl rfl ?_
    refine x_iconst (pc := 47) (v := 3) h dX10_join_47 (by decide) ?_
    refine x_Vp (pc := 48) (av := fun ad => [.int x3, .int 3]) (rest := [.int 3, .int x3, .ref (gAd Γ.1 k0)]) h m_X10_of i_X10_of kl_X10_47 hk0 (by decide) rfl (c_X10_of fu σ k0 x3 3 hk0) rfl rfl (gCaM rfl) dX10_join_48 (fun v48 => ?_)
    refine x_iload_n (pc := 51) (i := 1) h dX10_join_51 rfl rfl ?_
    refine x_icmp_ne (pc := 52) (tgt := 59) h dX10_join_52 (by decide) ?_ ?_
    · refine x_aload_n (pc := 59) (i := 0) h dX10_join_59 rfl rfl ?_
      refine x_iload_n (pc := 60) (i := 3) h dX10_join_60 rfl rfl ?_
      refine x_iconst (pc := 61) (v := 3) h dX10_join_61 (by decide) ?_
      refine x_Vp (pc := 62) (av := fun ad => [.int x3, .int 3]) (rest := [.int 3, .int x3, .ref (gAd Γ.1 k0)]) h m_X10_of i_X10_of kl_X10_47 hk0 (by decide) rfl (c_X10_of fu σ k0 x3 3 hk0) rfl rfl (gCaM rfl) dX10_join_62 (fun v62 => ?_)
      exact At.mask [true, true, true, true] rfl rfl (f_X10_join_J65_at fu k0 p1 p2 ag30 h z hk0 x3 v62 3 x3 σ hg30)
    · refine x_iload_n (pc := 55) (i := 2) h dX10_join_55 rfl rfl ?_
      refine x_goto (pc := 56) (tgt := 65) h dX10_join_56 (by decide) ?_
      exact At.mask [true, true, true, true] rfl rfl (f_X10_join_J65_at fu k0 p1 p2 ag30 h z hk0 x3 p2 3 x3 σ hg30)

theorem f_X10_join_W30_at (fu : Nat) (k0 : Nat) (p1 : Int32) (p2 : Int32) {Γ : gX (Int32 × gSt)} (h : gOk Γ cX10_join 4 RX10 (some .int) 3 68) (z : gEnd Γ gQi) (hk0 : isO k0 10) : ∀ (n : Nat) (x3 : Int32) (σ : gSt), At Γ 30 [some (.ref (gAd Γ.1 k0)), some (.int p1), some (.int p2), some (.int x3)] [] σ (f_X10_join_W30 fu k0 p1 p2 n x3 σ) := by
  intro n
  induction n with
  | zero => intro x3 σ r hr; cases hr
  | succ n ih =>
    intro x3 σ
    exact f_X10_join_L30_at fu k0 p1 p2 (f_X10_join_W30 fu k0 p1 p2 n) h z hk0 ih x3 σ

set_option maxRecDepth 20000 in
set_option maxHeartbeats 4000000 in
theorem c_X10_join (fu : Nat) (σ : gSt) (k0 : Nat) (p1 : Int32) (p2 : Int32) (hk0 : isO k0 10) : gCt yX10_join cX10_join 4 (some .int) 3 68 gQi (fun ad => [.ref (ad k0), .int p1, .int p2]) σ (f_X10_join fu σ k0 p1 p2) := by
  refine gCt_intro RX10 rfl (by decide +kernel) (fun ad v hv => by simp only [List.mem_cons, List.not_mem_nil, or_false] at hv; rcases hv with rfl | rfl | rfl <;> rfl) (fun ad => Nat.le_of_ble_eq_true rfl) (fun Γ h z => ?_)
  show At Γ 0 [some (.ref (gAd Γ.1 k0)), some (.int p1), some (.int p2), none] [] σ _
  unfold f_X10_join
  refine x_aload_n (pc := 0) (i := 0) h dX10_join_0 rfl rfl ?_
  refine x_iload_n (pc := 1) (i := 1) h dX10_join_1 rfl rfl ?_
  refine x_Vp (pc := 2) (av := fun ad => [.int p1]) (rest := []) h m_X10_isVoice i_X10_isVoice kl_X10_91 hk0 (by decide) rfl (c_X10_isVoice fu σ k0 p1 hk0) rfl rfl (gCaM rfl) dX10_join_2 (fun v2 => ?_)
  refine x_if_eq (pc := 5) (tgt := 21) h dX10_join_5 (by decide) ?_ ?_
  · refine x_ldc (pc := 21) h kc_X10_50 dX10_join_21 ?_
    exact x_ireti (pc := 23) h z .int rfl rfl dX10_join_23
  · refine x_aload_n (pc := 8) (i := 0) h dX10_join_8 rfl rfl ?_
    refine x_iload_n (pc := 9) (i := 2) h dX10_join_9 rfl rfl ?_
    refine x_Vp (pc := 10) (av := fun ad => [.int p2]) (rest := []) h m_X10_isVoice i_X10_isVoice kl_X10_91 hk0 (by decide) rfl (c_X10_isVoice fu σ k0 p2 hk0) rfl rfl (gCaM rfl) dX10_join_10 (fun v10 => ?_)
    refine x_if_eq (pc := 13) (tgt := 21) h dX10_join_13 (by decide) ?_ ?_
    · refine x_ldc (pc := 21) h kc_X10_50 dX10_join_21 ?_
      exact x_ireti (pc := 23) h z .int rfl rfl dX10_join_23
    · refine x_iload_n (pc := 16) (i := 1) h dX10_join_16 rfl rfl ?_
      refine x_iload_n (pc := 17) (i := 2) h dX10_join_17 rfl rfl ?_
      refine x_icmp_ne (pc := 18) (tgt := 24) h dX10_join_18 (by decide) ?_ ?_
      · refine x_aload_n (pc := 24) (i := 0) h dX10_join_24 rfl rfl ?_
        refine x_Vv (pc := 25) (av := fun ad => []) (rest := []) h m_X10_changes i_X10_changes kl_X10_52 hk0 (by decide) rfl (c_X10_changes fu σ k0 hk0) rfl rfl (gCaM rfl) dX10_join_25 (fun σ25 => ?_)
        refine x_iconst (pc := 28) (v := 0) h dX10_join_28 (by decide) ?_
        refine x_istore_n (pc := 29) (i := 3) (L' := [some (.ref (gAd Γ.1 k0)), some (.int p1), some (.int p2), some (.int 0)]) h dX10_join_29 rfl (Nat.le_of_ble_eq_true rfl) rfl ?_
        exact At.mask [true, true, true, true] rfl rfl (f_X10_join_W30_at fu k0 p1 p2 h z hk0 fu 0 σ25)
      · refine x_ldc (pc := 21) h kc_X10_50 dX10_join_21 ?_
        exact x_ireti (pc := 23) h z .int rfl rfl dX10_join_23

set_option maxRecDepth 20000 in
set_option maxHeartbeats 4000000 in
theorem c_X7_changeSetting (fu : Nat) (σ : gSt) (k0 : Nat) (p1 : Int32) (p2 : Int32) (hk0 : isO k0 7) : gCt yX7_changeSetting cX7_changeSetting 4 (some .int) 1 22 gQi (fun ad => [.ref (ad k0), .int p1, .int p2]) σ (f_X7_changeSetting fu σ k0 p1 p2) := by
  refine gCt_intro RX7 rfl (by decide +kernel) (fun ad v hv => by simp only [List.mem_cons, List.not_mem_nil, or_false] at hv; rcases hv with rfl | rfl | rfl <;> rfl) (fun ad => Nat.le_of_ble_eq_true rfl) (fun Γ h z => ?_)
  show At Γ 0 [some (.ref (gAd Γ.1 k0)), some (.int p1), some (.int p2), none] [] σ _
  unfold f_X7_changeSetting
  refine x_iload_n (pc := 0) (i := 1) h dX7_changeSetting_0 rfl rfl ?_
  refine x_if_ne (pc := 1) (tgt := 15) h dX7_changeSetting_1 (by decide) ?_ ?_
  · refine x_ldc (pc := 15) h kc_X7_50 dX7_changeSetting_15 ?_
    exact x_ireti (pc := 17) h z .int rfl rfl dX7_changeSetting_17
  · refine x_iload_n (pc := 4) (i := 2) h dX7_changeSetting_4 rfl rfl ?_
    refine x_iconst (pc := 5) (v := 0) h dX7_changeSetting_5 (by decide) ?_
    refine x_sipush (pc := 6) (v := 200) h dX7_changeSetting_6 (by decide) ?_
    refine x_Np (pc := 9) (av := fun ad => [.int p2, .int 0, .int 200]) (rest := []) h m_X9_isWithin s_X9_isWithin kl_X7_86 (c_X9_isWithin fu σ p2 0 200) rfl rfl (gCaM rfl) dX7_changeSetting_9 (fun v9 => ?_)
    refine x_if_ne (pc := 12) (tgt := 18) h dX7_changeSetting_12 (by decide) ?_ ?_
    · refine x_aload_n (pc := 18) (i := 0) h dX7_changeSetting_18 rfl rfl ?_
      refine gf_X7_32 (pc := 19) h hk0 dX7_changeSetting_19 ?_
      refine x_istore_n (pc := 22) (i := 3) (L' := [some (.ref (gAd Γ.1 k0)), some (.int p1), some (.int p2), some (.int (σ k0 3))]) h dX7_changeSetting_22 rfl (Nat.le_of_ble_eq_true rfl) rfl ?_
      refine x_aload_n (pc := 23) (i := 0) h dX7_changeSetting_23 rfl rfl ?_
      refine x_iload_n (pc := 24) (i := 2) h dX7_changeSetting_24 rfl rfl ?_
      refine x_put (pc := 25) h 7 3 .int hk0 (by decide) (by decide) rfl rfl rfl rfl rfl kf_X7_32 dX7_changeSetting_25 (fun σ25 => ?_)
      refine x_iload_n (pc := 28) (i := 3) h dX7_changeSetting_28 rfl rfl ?_
      exact x_ireti (pc := 29) h z .int rfl rfl dX7_changeSetting_29
    · refine x_ldc (pc := 15) h kc_X7_50 dX7_changeSetting_15 ?_
      exact x_ireti (pc := 17) h z .int rfl rfl dX7_changeSetting_17

set_option maxRecDepth 20000 in
set_option maxHeartbeats 4000000 in
theorem c_X9_set (fu : Nat) (σ : gSt) (k0 : Nat) (p1 : Int32) (p2 : Int32) (hk0 : isO k0 9) : gCt yX9_set cX9_set 3 (some .int) 6 135 gQi (fun ad => [.ref (ad k0), .int p1, .int p2]) σ (f_X9_set fu σ k0 p1 p2) := by
  refine gCt_intro RX9 rfl (by decide +kernel) (fun ad v hv => by simp only [List.mem_cons, List.not_mem_nil, or_false] at hv; rcases hv with rfl | rfl | rfl <;> rfl) (fun ad => Nat.le_of_ble_eq_true rfl) (fun Γ h z => ?_)
  show At Γ 0 [some (.ref (gAd Γ.1 k0)), some (.int p1), some (.int p2)] [] σ _
  unfold f_X9_set
  refine x_aload_n (pc := 0) (i := 0) h dX9_set_0 rfl rfl ?_
  refine gf_X9_16 (pc := 1) h hk0 dX9_set_1 ?_
  refine x_aload_n (pc := 4) (i := 0) h dX9_set_4 rfl rfl ?_
  refine gf_X9_10 (pc := 5) h hk0 dX9_set_5 ?_
  refine x_Vv (pc := 8) (av := fun ad => [.ref (ad (k0 + 10))]) (rest := []) h m_X7_takeFrom i_X7_takeFrom kl_X9_51 (t_9_1 hk0) (by decide) rfl (c_X7_takeFrom fu σ (k0 + 22) (k0 + 10) (t_9_1 hk0) (t_9_0 hk0)) rfl rfl (gCaM rfl) dX9_set_8 (fun σ8 => ?_)
  refine x_aload_n (pc := 11) (i := 0) h dX9_set_11 rfl rfl ?_
  refine x_aload_n (pc := 12) (i := 0) h dX9_set_12 rfl rfl ?_
  refine gf_X9_10 (pc := 13) h hk0 dX9_set_13 ?_
  refine x_iload_n (pc := 16) (i := 1) h dX9_set_16 rfl rfl ?_
  refine x_iload_n (pc := 17) (i := 2) h dX9_set_17 rfl rfl ?_
  refine x_Vi (pc := 18) (av := fun ad => [.int p1, .int p2]) (rest := [.ref (gAd Γ.1 k0)]) h m_X7_changeSetting i_X7_changeSetting kl_X9_87 (t_9_0 hk0) (by decide) rfl (c_X7_changeSetting fu σ8 (k0 + 10) p1 p2 (t_9_0 hk0)) rfl rfl (gCaM rfl) dX9_set_18 (fun v18 σ18 => ?_)
  refine x_Vi (pc := 21) (av := fun ad => [.int v18]) (rest := []) h m_X9_recorded i_X9_recorded kl_X9_58 hk0 (by decide) rfl (c_X9_recorded fu σ18 k0 v18 hk0) rfl rfl (gCaM rfl) dX9_set_21 (fun v21 σ21 => ?_)
  exact x_ireti (pc := 24) h z .int rfl rfl dX9_set_24

set_option maxRecDepth 20000 in
set_option maxHeartbeats 4000000 in
theorem c_X10_set (fu : Nat) (σ : gSt) (k0 : Nat) (p1 : Int32) (p2 : Int32) (hk0 : isO k0 10) : gCt yX10_set cX10_set 4 (some .int) 1 22 gQi (fun ad => [.ref (ad k0), .int p1, .int p2]) σ (f_X10_set fu σ k0 p1 p2) := by
  refine gCt_intro RX10 rfl (by decide +kernel) (fun ad v hv => by simp only [List.mem_cons, List.not_mem_nil, or_false] at hv; rcases hv with rfl | rfl | rfl <;> rfl) (fun ad => Nat.le_of_ble_eq_true rfl) (fun Γ h z => ?_)
  show At Γ 0 [some (.ref (gAd Γ.1 k0)), some (.int p1), some (.int p2), none] [] σ _
  unfold f_X10_set
  refine x_iload_n (pc := 0) (i := 1) h dX10_set_0 rfl rfl ?_
  refine x_if_ne (pc := 1) (tgt := 15) h dX10_set_1 (by decide) ?_ ?_
  · refine x_ldc (pc := 15) h kc_X10_50 dX10_set_15 ?_
    exact x_ireti (pc := 17) h z .int rfl rfl dX10_set_17
  · refine x_iload_n (pc := 4) (i := 2) h dX10_set_4 rfl rfl ?_
    refine x_iconst (pc := 5) (v := 0) h dX10_set_5 (by decide) ?_
    refine x_sipush (pc := 6) (v := 200) h dX10_set_6 (by decide) ?_
    refine x_Sp (pc := 9) (av := fun ad => [.int p2, .int 0, .int 200]) (rest := []) h m_X10_in s_X10_in kl_X10_39 (c_X10_in fu σ p2 0 200) rfl rfl (gCaM rfl) dX10_set_9 (fun v9 => ?_)
    refine x_if_ne (pc := 12) (tgt := 18) h dX10_set_12 (by decide) ?_ ?_
    · refine x_aload_n (pc := 18) (i := 0) h dX10_set_18 rfl rfl ?_
      refine x_Vv (pc := 19) (av := fun ad => []) (rest := []) h m_X10_changes i_X10_changes kl_X10_52 hk0 (by decide) rfl (c_X10_changes fu σ k0 hk0) rfl rfl (gCaM rfl) dX10_set_19 (fun σ19 => ?_)
      refine x_aload_n (pc := 22) (i := 0) h dX10_set_22 rfl rfl ?_
      refine gf_X10_7 (pc := 23) h hk0 dX10_set_23 ?_
      refine x_sipush (pc := 26) (v := 283) h dX10_set_26 (by decide) ?_
      refine x_ialdS (pc := 29) h 283 (t_10_0 hk0) (by decide) (by decide) (by decide) dX10_set_29 ?_
      refine x_istore_n (pc := 30) (i := 3) (L' := [some (.ref (gAd Γ.1 k0)), some (.int p1), some (.int p2), some (.int (σ19 (k0 + 1) 283))]) h dX10_set_30 rfl (Nat.le_of_ble_eq_true rfl) rfl ?_
      refine x_aload_n (pc := 31) (i := 0) h dX10_set_31 rfl rfl ?_
      refine gf_X10_7 (pc := 32) h hk0 dX10_set_32 ?_
      refine x_sipush (pc := 35) (v := 283) h dX10_set_35 (by decide) ?_
      refine x_iload_n (pc := 38) (i := 2) h dX10_set_38 rfl rfl ?_
      refine x_iast (pc := 39) h (t_10_0 hk0) dX10_set_39 (fun σ39 => ?_)
      refine x_iload_n (pc := 40) (i := 3) h dX10_set_40 rfl rfl ?_
      exact x_ireti (pc := 41) h z .int rfl rfl dX10_set_41
    · refine x_ldc (pc := 15) h kc_X10_50 dX10_set_15 ?_
      exact x_ireti (pc := 17) h z .int rfl rfl dX10_set_17

set_option maxRecDepth 20000 in
set_option maxHeartbeats 4000000 in
theorem c_X5_orNotFound (fu : Nat) (σ : gSt) (p0 : Int32) : gCt yX5_orNotFound cX5_orNotFound 1 (some .int) 0 0 (gQp σ) (fun ad => [.int p0]) σ (f_X5_orNotFound fu σ p0) := by
  refine gCt_intro RX5 rfl (by decide +kernel) (fun ad v hv => by simp only [List.mem_cons, List.not_mem_nil, or_false] at hv; rcases hv with rfl <;> rfl) (fun ad => Nat.le_of_ble_eq_true rfl) (fun Γ h z => ?_)
  show At Γ 0 [some (.int p0)] [] σ _
  unfold f_X5_orNotFound
  refine x_iload_n (pc := 0) (i := 0) h dX5_orNotFound_0 rfl rfl ?_
  refine x_iconst (pc := 1) (v := (-1)) h dX5_orNotFound_1 (by decide) ?_
  refine x_icmp_ne (pc := 2) (tgt := 10) h dX5_orNotFound_2 (by decide) ?_ ?_
  · refine x_iload_n (pc := 10) (i := 0) h dX5_orNotFound_10 rfl rfl ?_
    exact x_iretp (pc := 11) h z rfl .int rfl rfl dX5_orNotFound_11
  · refine x_ldc (pc := 5) h kc_X5_75 dX5_orNotFound_5 ?_
    refine x_goto (pc := 7) (tgt := 11) h dX5_orNotFound_7 (by decide) ?_
    exact x_iretp (pc := 11) h z rfl .int rfl rfl dX5_orNotFound_11

set_option maxRecDepth 20000 in
set_option maxHeartbeats 4000000 in
theorem c_X8_overlap (fu : Nat) (σ : gSt) (k0 : Nat) (p1 : Int32) (p2 : Int32) (hk0 : isO k0 8) : gCt yX8_overlap cX8_overlap 3 (some .boolean) 2 42 (gQp σ) (fun ad => [.ref (ad k0), .int p1, .int p2]) σ (f_X8_overlap fu σ k0 p1 p2) := by
  refine gCt_intro RX8 rfl (by decide +kernel) (fun ad v hv => by simp only [List.mem_cons, List.not_mem_nil, or_false] at hv; rcases hv with rfl | rfl | rfl <;> rfl) (fun ad => Nat.le_of_ble_eq_true rfl) (fun Γ h z => ?_)
  show At Γ 0 [some (.ref (gAd Γ.1 k0)), some (.int p1), some (.int p2)] [] σ _
  unfold f_X8_overlap
  refine x_iload_n (pc := 0) (i := 1) h dX8_overlap_0 rfl rfl ?_
  refine x_iload_n (pc := 1) (i := 2) h dX8_overlap_1 rfl rfl ?_
  refine x_icmp_eq (pc := 2) (tgt := 35) h dX8_overlap_2 (by decide) ?_ ?_
  · refine x_iconst (pc := 35) (v := 0) h dX8_overlap_35 (by decide) ?_
    exact x_iretp (pc := 36) h z rfl .boolean rfl rfl dX8_overlap_36
  · refine x_aload_n (pc := 5) (i := 0) h dX8_overlap_5 rfl rfl ?_
    refine x_iload_n (pc := 6) (i := 1) h dX8_overlap_6 rfl rfl ?_
    refine x_Vp (pc := 7) (av := fun ad => [.int p1]) (rest := []) h m_X8_beginOf i_X8_beginOf kl_X8_77 hk0 (by decide) rfl (c_X8_beginOf fu σ k0 p1 hk0) rfl rfl (gCaM rfl) dX8_overlap_7 (fun v7 => ?_)
    refine x_aload_n (pc := 10) (i := 0) h dX8_overlap_10 rfl rfl ?_
    refine x_iload_n (pc := 11) (i := 2) h dX8_overlap_11 rfl rfl ?_
    refine x_Vp (pc := 12) (av := fun ad => [.int p2]) (rest := [.int v7]) h m_X8_endOf i_X8_endOf kl_X8_80 hk0 (by decide) rfl (c_X8_endOf fu σ k0 p2 hk0) rfl rfl (gCaM rfl) dX8_overlap_12 (fun v12 => ?_)
    refine x_icmp_ge (pc := 15) (tgt := 35) h dX8_overlap_15 (by decide) ?_ ?_
    · refine x_iconst (pc := 35) (v := 0) h dX8_overlap_35 (by decide) ?_
      exact x_iretp (pc := 36) h z rfl .boolean rfl rfl dX8_overlap_36
    · refine x_aload_n (pc := 18) (i := 0) h dX8_overlap_18 rfl rfl ?_
      refine x_iload_n (pc := 19) (i := 2) h dX8_overlap_19 rfl rfl ?_
      refine x_Vp (pc := 20) (av := fun ad => [.int p2]) (rest := []) h m_X8_beginOf i_X8_beginOf kl_X8_77 hk0 (by decide) rfl (c_X8_beginOf fu σ k0 p2 hk0) rfl rfl (gCaM rfl) dX8_overlap_20 (fun v20 => ?_)
      refine x_aload_n (pc := 23) (i := 0) h dX8_overlap_23 rfl rfl ?_
      refine x_iload_n (pc := 24) (i := 1) h dX8_overlap_24 rfl rfl ?_
      refine x_Vp (pc := 25) (av := fun ad => [.int p1]) (rest := [.int v20]) h m_X8_endOf i_X8_endOf kl_X8_80 hk0 (by decide) rfl (c_X8_endOf fu σ k0 p1 hk0) rfl rfl (gCaM rfl) dX8_overlap_25 (fun v25 => ?_)
      refine x_icmp_ge (pc := 28) (tgt := 35) h dX8_overlap_28 (by decide) ?_ ?_
      · refine x_iconst (pc := 35) (v := 0) h dX8_overlap_35 (by decide) ?_
        exact x_iretp (pc := 36) h z rfl .boolean rfl rfl dX8_overlap_36
      · refine x_iconst (pc := 31) (v := 1) h dX8_overlap_31 (by decide) ?_
        refine x_goto (pc := 32) (tgt := 36) h dX8_overlap_32 (by decide) ?_
        exact x_iretp (pc := 36) h z rfl .boolean rfl rfl dX8_overlap_36

set_option maxRecDepth 20000 in
set_option maxHeartbeats 4000000 in
theorem f_X8_overlapping_L4_at (fu : Nat) (σ : gSt) (k0 : Nat) (p1 : Int32) (ag4 : Int32 → Int32 → Option (Int32)) {Γ : gX (Int32)} (h : gOk Γ cX8_overlapping 4 RX8 (some .int) 3 64) (z : gEnd Γ (gQp σ)) (hk0 : isO k0 8) (hg4 : ∀ (y2 : Int32) (y3 : Int32), At Γ 4 [some (.ref (gAd Γ.1 k0)), some (.int p1), some (.int y2), some (.int y3)] [] σ (ag4 y2 y3)) (x2 : Int32) (x3 : Int32) : At Γ 4 [some (.ref (gAd Γ.1 k0)), some (.int p1), some (.int x2), some (.int x3)] [] σ (f_X8_overlapping_L4 fu σ k0 p1 ag4 x2 x3) := by
  unfold f_X8_overlapping_L4
  refine x_iload_n (pc := 4) (i := 3) h dX8_overlapping_4 rfl rfl ?_
  refine x_aload_n (pc := 5) (i := 0) h dX8_overlapping_5 rfl rfl ?_
  refine gf_X8_36 (pc := 6) h hk0 dX8_overlapping_6 ?_
  refine x_icmp_ge (pc := 9) (tgt := 33) h dX8_overlapping_9 (by decide) ?_ ?_
  · refine x_iload_n (pc := 33) (i := 2) h dX8_overlapping_33 rfl rfl ?_
    exact x_iretp (pc := 34) h z rfl .int rfl rfl dX8_overlapping_34
  · refine x_aload_n (pc := 12) (i := 0) h dX8_overlapping_12 rfl rfl ?_
    refine x_iload_n (pc := 13) (i := 1) h dX8_overlapping_13 rfl rfl ?_
    refine x_iload_n (pc := 14) (i := 3) h dX8_overlapping_14 rfl rfl ?_
    refine x_Vp (pc := 15) (av := fun ad => [.int p1, .int x3]) (rest := []) h m_X8_overlap i_X8_overlap kl_X8_86 hk0 (by decide) rfl (c_X8_overlap fu σ k0 p1 x3 hk0) rfl rfl (gCaM rfl) dX8_overlapping_15 (fun v15 => ?_)
    refine x_if_eq (pc := 18) (tgt := 27) h dX8_overlapping_18 (by decide) ?_ ?_
    · refine x_iinc (pc := 27) (i := 3) (v := (x3 + 1)) (L' := [some (.ref (gAd Γ.1 k0)), some (.int p1), some (.int x2), some (.int (x3 + 1))]) h dX8_overlapping_27 rfl rfl rfl ?_
      refine x_goto (pc := 30) (tgt := 4) h dX8_overlapping_30 (by decide) ?_
      exact At.mask [true, true, true, true] rfl rfl (hg4 x2 (x3 + 1))
    · refine x_iload_n (pc := 21) (i := 2) h dX8_overlapping_21 rfl rfl ?_
      refine x_iconst (pc := 22) (v := 1) h dX8_overlapping_22 (by decide) ?_
      refine x_iload_n (pc := 23) (i := 3) h dX8_overlapping_23 rfl rfl ?_
      refine x_ishl (pc := 24) h dX8_overlapping_24 ?_
      refine x_ior (pc := 25) h dX8_overlapping_25 ?_
      refine x_lt (fun y26 => ?_)
      refine x_istore_n (pc := 26) (i := 2) (L' := [some (.ref (gAd Γ.1 k0)), some (.int p1), some (.int y26), some (.int x3)]) h dX8_overlapping_26 rfl (Nat.le_of_ble_eq_true rfl) rfl ?_
      refine x_iinc (pc := 27) (i := 3) (v := (x3 + 1)) (L' := [some (.ref (gAd Γ.1 k0)), some (.int p1), some (.int y26), some (.int (x3 + 1))]) h dX8_overlapping_27 rfl rfl rfl ?_
      refine x_goto (pc := 30) (tgt := 4) h dX8_overlapping_30 (by decide) ?_
      exact At.mask [true, true, true, true] rfl rfl (hg4 y26 (x3 + 1))

theorem f_X8_overlapping_W4_at (fu : Nat) (σ : gSt) (k0 : Nat) (p1 : Int32) {Γ : gX (Int32)} (h : gOk Γ cX8_overlapping 4 RX8 (some .int) 3 64) (z : gEnd Γ (gQp σ)) (hk0 : isO k0 8) : ∀ (n : Nat) (x2 : Int32) (x3 : Int32), At Γ 4 [some (.ref (gAd Γ.1 k0)), some (.int p1), some (.int x2), some (.int x3)] [] σ (f_X8_overlapping_W4 fu σ k0 p1 n x2 x3) := by
  intro n
  induction n with
  | zero => intro x2 x3 r hr; cases hr
  | succ n ih =>
    intro x2 x3
    exact f_X8_overlapping_L4_at fu σ k0 p1 (f_X8_overlapping_W4 fu σ k0 p1 n) h z hk0 ih x2 x3

set_option maxRecDepth 20000 in
set_option maxHeartbeats 4000000 in
theorem c_X8_overlapping (fu : Nat) (σ : gSt) (k0 : Nat) (p1 : Int32) (hk0 : isO k0 8) : gCt yX8_overlapping cX8_overlapping 4 (some .int) 3 64 (gQp σ) (fun ad => [.ref (ad k0), .int p1]) σ (f_X8_overlapping fu σ k0 p1) := by
  refine gCt_intro RX8 rfl (by decide +kernel) (fun ad v hv => by simp only [List.mem_cons, List.not_mem_nil, or_false] at hv; rcases hv with rfl | rfl <;> rfl) (fun ad => Nat.le_of_ble_eq_true rfl) (fun Γ h z => ?_)
  show At Γ 0 [some (.ref (gAd Γ.1 k0)), some (.int p1), none, none] [] σ _
  unfold f_X8_overlapping
  refine x_iconst (pc := 0) (v := 0) h dX8_overlapping_0 (by decide) ?_
  refine x_istore_n (pc := 1) (i := 2) (L' := [some (.ref (gAd Γ.1 k0)), some (.int p1), some (.int 0), none]) h dX8_overlapping_1 rfl (Nat.le_of_ble_eq_true rfl) rfl ?_
  refine x_iconst (pc := 2) (v := 0) h dX8_overlapping_2 (by decide) ?_
  refine x_istore_n (pc := 3) (i := 3) (L' := [some (.ref (gAd Γ.1 k0)), some (.int p1), some (.int 0), some (.int 0)]) h dX8_overlapping_3 rfl (Nat.le_of_ble_eq_true rfl) rfl ?_
  exact At.mask [true, true, true, true] rfl rfl (f_X8_overlapping_W4_at fu σ k0 p1 h z hk0 fu 0 0)

