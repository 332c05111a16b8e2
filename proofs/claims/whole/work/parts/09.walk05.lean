set_option maxRecDepth 20000 in
set_option maxHeartbeats 4000000 in
theorem c_X8_goesOn (fu : Nat) (σ : gSt) (k0 : Nat) (p1 : Int32) (p2 : Int32) (hk0 : isO k0 8) : gCt yX8_goesOn cX8_goesOn 3 (some .boolean) 2 42 (gQp σ) (fun ad => [.ref (ad k0), .int p1, .int p2]) σ (f_X8_goesOn fu σ k0 p1 p2) := by
  refine gCt_intro RX8 rfl (by decide +kernel) (fun ad v hv => by simp only [List.mem_cons, List.not_mem_nil, or_false] at hv; rcases hv with rfl | rfl | rfl <;> rfl) (fun ad => Nat.le_of_ble_eq_true rfl) (fun Γ h z => ?_)
  show At Γ 0 [some (.ref (gAd Γ.1 k0)), some (.int p1), some (.int p2)] [] σ _
  unfold f_X8_goesOn
  refine x_aload_n (pc := 0) (i := 0) h dX8_goesOn_0 rfl rfl ?_
  refine x_iload_n (pc := 1) (i := 1) h dX8_goesOn_1 rfl rfl ?_
  refine x_Vp (pc := 2) (av := fun ad => [.int p1]) (rest := []) h m_X8_beginOf i_X8_beginOf kl_X8_77 hk0 (by decide) rfl (c_X8_beginOf fu σ k0 p1 hk0) rfl rfl (gCaM rfl) dX8_goesOn_2 (fun v2 => ?_)
  refine x_iload_n (pc := 5) (i := 2) h dX8_goesOn_5 rfl rfl ?_
  refine x_icmp_gt (pc := 6) (tgt := 22) h dX8_goesOn_6 (by decide) ?_ ?_
  · refine x_iconst (pc := 22) (v := 0) h dX8_goesOn_22 (by decide) ?_
    exact x_iretp (pc := 23) h z rfl .boolean rfl rfl dX8_goesOn_23
  · refine x_iload_n (pc := 9) (i := 2) h dX8_goesOn_9 rfl rfl ?_
    refine x_aload_n (pc := 10) (i := 0) h dX8_goesOn_10 rfl rfl ?_
    refine x_iload_n (pc := 11) (i := 1) h dX8_goesOn_11 rfl rfl ?_
    refine x_Vp (pc := 12) (av := fun ad => [.int p1]) (rest := [.int p2]) h m_X8_endOf i_X8_endOf kl_X8_80 hk0 (by decide) rfl (c_X8_endOf fu σ k0 p1 hk0) rfl rfl (gCaM rfl) dX8_goesOn_12 (fun v12 => ?_)
    refine x_icmp_ge (pc := 15) (tgt := 22) h dX8_goesOn_15 (by decide) ?_ ?_
    · refine x_iconst (pc := 22) (v := 0) h dX8_goesOn_22 (by decide) ?_
      exact x_iretp (pc := 23) h z rfl .boolean rfl rfl dX8_goesOn_23
    · refine x_iconst (pc := 18) (v := 1) h dX8_goesOn_18 (by decide) ?_
      refine x_goto (pc := 19) (tgt := 23) h dX8_goesOn_19 (by decide) ?_
      exact x_iretp (pc := 23) h z rfl .boolean rfl rfl dX8_goesOn_23

set_option maxRecDepth 20000 in
set_option maxHeartbeats 4000000 in
theorem f_X8_goingOn_L4_at (fu : Nat) (σ : gSt) (k0 : Nat) (p1 : Int32) (ag4 : Int32 → Int32 → Option (Int32)) {Γ : gX (Int32)} (h : gOk Γ cX8_goingOn 4 RX8 (some .int) 3 64) (z : gEnd Γ (gQp σ)) (hk0 : isO k0 8) (hg4 : ∀ (y2 : Int32) (y3 : Int32), At Γ 4 [some (.ref (gAd Γ.1 k0)), some (.int p1), some (.int y2), some (.int y3)] [] σ (ag4 y2 y3)) (x2 : Int32) (x3 : Int32) : At Γ 4 [some (.ref (gAd Γ.1 k0)), some (.int p1), some (.int x2), some (.int x3)] [] σ (f_X8_goingOn_L4 fu σ k0 p1 ag4 x2 x3) := by
  unfold f_X8_goingOn_L4
  refine x_iload_n (pc := 4) (i := 3) h dX8_goingOn_4 rfl rfl ?_
  refine x_aload_n (pc := 5) (i := 0) h dX8_goingOn_5 rfl rfl ?_
  refine gf_X8_36 (pc := 6) h hk0 dX8_goingOn_6 ?_
  refine x_icmp_ge (pc := 9) (tgt := 33) h dX8_goingOn_9 (by decide) ?_ ?_
  · refine x_iload_n (pc := 33) (i := 2) h dX8_goingOn_33 rfl rfl ?_
    exact x_iretp (pc := 34) h z rfl .int rfl rfl dX8_goingOn_34
  · refine x_aload_n (pc := 12) (i := 0) h dX8_goingOn_12 rfl rfl ?_
    refine x_iload_n (pc := 13) (i := 3) h dX8_goingOn_13 rfl rfl ?_
    refine x_iload_n (pc := 14) (i := 1) h dX8_goingOn_14 rfl rfl ?_
    refine x_Vp (pc := 15) (av := fun ad => [.int x3, .int p1]) (rest := []) h m_X8_goesOn i_X8_goesOn kl_X8_93 hk0 (by decide) rfl (c_X8_goesOn fu σ k0 x3 p1 hk0) rfl rfl (gCaM rfl) dX8_goingOn_15 (fun v15 => ?_)
    refine x_if_eq (pc := 18) (tgt := 27) h dX8_goingOn_18 (by decide) ?_ ?_
    · refine x_iinc (pc := 27) (i := 3) (v := (x3 + 1)) (L' := [some (.ref (gAd Γ.1 k0)), some (.int p1), some (.int x2), some (.int (x3 + 1))]) h dX8_goingOn_27 rfl rfl rfl ?_
      refine x_goto (pc := 30) (tgt := 4) h dX8_goingOn_30 (by decide) ?_
      exact At.mask [true, true, true, true] rfl rfl (hg4 x2 (x3 + 1))
    · refine x_iload_n (pc := 21) (i := 2) h dX8_goingOn_21 rfl rfl ?_
      refine x_iconst (pc := 22) (v := 1) h dX8_goingOn_22 (by decide) ?_
      refine x_iload_n (pc := 23) (i := 3) h dX8_goingOn_23 rfl rfl ?_
      refine x_ishl (pc := 24) h dX8_goingOn_24 ?_
      refine x_ior (pc := 25) h dX8_goingOn_25 ?_
      refine x_lt (fun y26 => ?_)
      refine x_istore_n (pc := 26) (i := 2) (L' := [some (.ref (gAd Γ.1 k0)), some (.int p1), some (.int y26), some (.int x3)]) h dX8_goingOn_26 rfl (Nat.le_of_ble_eq_true rfl) rfl ?_
      refine x_iinc (pc := 27) (i := 3) (v := (x3 + 1)) (L' := [some (.ref (gAd Γ.1 k0)), some (.int p1), some (.int y26), some (.int (x3 + 1))]) h dX8_goingOn_27 rfl rfl rfl ?_
      refine x_goto (pc := 30) (tgt := 4) h dX8_goingOn_30 (by decide) ?_
      exact At.mask [true, true, true, true] rfl rfl (hg4 y26 (x3 + 1))

theorem f_X8_goingOn_W4_at (fu : Nat) (σ : gSt) (k0 : Nat) (p1 : Int32) {Γ : gX (Int32)} (h : gOk Γ cX8_goingOn 4 RX8 (some .int) 3 64) (z : gEnd Γ (gQp σ)) (hk0 : isO k0 8) : ∀ (n : Nat) (x2 : Int32) (x3 : Int32), At Γ 4 [some (.ref (gAd Γ.1 k0)), some (.int p1), some (.int x2), some (.int x3)] [] σ (f_X8_goingOn_W4 fu σ k0 p1 n x2 x3) := by
  intro n
  induction n with
  | zero => intro x2 x3 r hr; cases hr
  | succ n ih =>
    intro x2 x3
    exact f_X8_goingOn_L4_at fu σ k0 p1 (f_X8_goingOn_W4 fu σ k0 p1 n) h z hk0 ih x2 x3

set_option maxRecDepth 20000 in
set_option maxHeartbeats 4000000 in
theorem c_X8_goingOn (fu : Nat) (σ : gSt) (k0 : Nat) (p1 : Int32) (hk0 : isO k0 8) : gCt yX8_goingOn cX8_goingOn 4 (some .int) 3 64 (gQp σ) (fun ad => [.ref (ad k0), .int p1]) σ (f_X8_goingOn fu σ k0 p1) := by
  refine gCt_intro RX8 rfl (by decide +kernel) (fun ad v hv => by simp only [List.mem_cons, List.not_mem_nil, or_false] at hv; rcases hv with rfl | rfl <;> rfl) (fun ad => Nat.le_of_ble_eq_true rfl) (fun Γ h z => ?_)
  show At Γ 0 [some (.ref (gAd Γ.1 k0)), some (.int p1), none, none] [] σ _
  unfold f_X8_goingOn
  refine x_iconst (pc := 0) (v := 0) h dX8_goingOn_0 (by decide) ?_
  refine x_istore_n (pc := 1) (i := 2) (L' := [some (.ref (gAd Γ.1 k0)), some (.int p1), some (.int 0), none]) h dX8_goingOn_1 rfl (Nat.le_of_ble_eq_true rfl) rfl ?_
  refine x_iconst (pc := 2) (v := 0) h dX8_goingOn_2 (by decide) ?_
  refine x_istore_n (pc := 3) (i := 3) (L' := [some (.ref (gAd Γ.1 k0)), some (.int p1), some (.int 0), some (.int 0)]) h dX8_goingOn_3 rfl (Nat.le_of_ble_eq_true rfl) rfl ?_
  exact At.mask [true, true, true, true] rfl rfl (f_X8_goingOn_W4_at fu σ k0 p1 h z hk0 fu 0 0)

set_option maxRecDepth 20000 in
set_option maxHeartbeats 4000000 in
theorem f_X8_speakingAt_L4_at (fu : Nat) (σ : gSt) (k0 : Nat) (p1 : Int32) (ag4 : Int32 → Int32 → Option (Int32)) {Γ : gX (Int32)} (h : gOk Γ cX8_speakingAt 4 RX8 (some .int) 3 64) (z : gEnd Γ (gQp σ)) (hk0 : isO k0 8) (hg4 : ∀ (y2 : Int32) (y3 : Int32), At Γ 4 [some (.ref (gAd Γ.1 k0)), some (.int p1), some (.int y2), some (.int y3)] [] σ (ag4 y2 y3)) (x2 : Int32) (x3 : Int32) : At Γ 4 [some (.ref (gAd Γ.1 k0)), some (.int p1), some (.int x2), some (.int x3)] [] σ (f_X8_speakingAt_L4 fu σ k0 p1 ag4 x2 x3) := by
  unfold f_X8_speakingAt_L4
  refine x_iload_n (pc := 4) (i := 3) h dX8_speakingAt_4 rfl rfl ?_
  refine x_aload_n (pc := 5) (i := 0) h dX8_speakingAt_5 rfl rfl ?_
  refine gf_X8_36 (pc := 6) h hk0 dX8_speakingAt_6 ?_
  refine x_icmp_ge (pc := 9) (tgt := 46) h dX8_speakingAt_9 (by decide) ?_ ?_
  · refine x_iload_n (pc := 46) (i := 2) h dX8_speakingAt_46 rfl rfl ?_
    exact x_iretp (pc := 47) h z rfl .int rfl rfl dX8_speakingAt_47
  · refine x_aload_n (pc := 12) (i := 0) h dX8_speakingAt_12 rfl rfl ?_
    refine x_iload_n (pc := 13) (i := 3) h dX8_speakingAt_13 rfl rfl ?_
    refine x_iload_n (pc := 14) (i := 1) h dX8_speakingAt_14 rfl rfl ?_
    refine x_Vp (pc := 15) (av := fun ad => [.int x3, .int p1]) (rest := []) h m_X8_goesOn i_X8_goesOn kl_X8_93 hk0 (by decide) rfl (c_X8_goesOn fu σ k0 x3 p1 hk0) rfl rfl (gCaM rfl) dX8_speakingAt_15 (fun v15 => ?_)
    refine x_if_eq (pc := 18) (tgt := 40) h dX8_speakingAt_18 (by decide) ?_ ?_
    · refine x_iinc (pc := 40) (i := 3) (v := (x3 + 1)) (L' := [some (.ref (gAd Γ.1 k0)), some (.int p1), some (.int x2), some (.int (x3 + 1))]) h dX8_speakingAt_40 rfl rfl rfl ?_
      refine x_goto (pc := 43) (tgt := 4) h dX8_speakingAt_43 (by decide) ?_
      exact At.mask [true, true, true, true] rfl rfl (hg4 x2 (x3 + 1))
    · refine x_aload_n (pc := 21) (i := 0) h dX8_speakingAt_21 rfl rfl ?_
      refine x_iload_n (pc := 22) (i := 3) h dX8_speakingAt_22 rfl rfl ?_
      refine x_Vp (pc := 23) (av := fun ad => [.int x3]) (rest := []) h m_X8_ownerOf i_X8_ownerOf kl_X8_83 hk0 (by decide) rfl (c_X8_ownerOf fu σ k0 x3 hk0) rfl rfl (gCaM rfl) dX8_speakingAt_23 (fun v23 => ?_)
      refine x_iconst (pc := 26) (v := (-1)) h dX8_speakingAt_26 (by decide) ?_
      refine x_icmp_eq (pc := 27) (tgt := 40) h dX8_speakingAt_27 (by decide) ?_ ?_
      · refine x_iinc (pc := 40) (i := 3) (v := (x3 + 1)) (L' := [some (.ref (gAd Γ.1 k0)), some (.int p1), some (.int x2), some (.int (x3 + 1))]) h dX8_speakingAt_40 rfl rfl rfl ?_
        refine x_goto (pc := 43) (tgt := 4) h dX8_speakingAt_43 (by decide) ?_
        exact At.mask [true, true, true, true] rfl rfl (hg4 x2 (x3 + 1))
      · refine x_iload_n (pc := 30) (i := 2) h dX8_speakingAt_30 rfl rfl ?_
        refine x_iconst (pc := 31) (v := 1) h dX8_speakingAt_31 (by decide) ?_
        refine x_aload_n (pc := 32) (i := 0) h dX8_speakingAt_32 rfl rfl ?_
        refine x_iload_n (pc := 33) (i := 3) h dX8_speakingAt_33 rfl rfl ?_
        refine x_Vp (pc := 34) (av := fun ad => [.int x3]) (rest := [.int 1, .int x2]) h m_X8_ownerOf i_X8_ownerOf kl_X8_83 hk0 (by decide) rfl (c_X8_ownerOf fu σ k0 x3 hk0) rfl rfl (gCaM rfl) dX8_speakingAt_34 (fun v34 => ?_)
        refine x_ishl (pc := 37) h dX8_speakingAt_37 ?_
        refine x_ior (pc := 38) h dX8_speakingAt_38 ?_
        refine x_lt (fun y39 => ?_)
        refine x_istore_n (pc := 39) (i := 2) (L' := [some (.ref (gAd Γ.1 k0)), some (.int p1), some (.int y39), some (.int x3)]) h dX8_speakingAt_39 rfl (Nat.le_of_ble_eq_true rfl) rfl ?_
        refine x_iinc (pc := 40) (i := 3) (v := (x3 + 1)) (L' := [some (.ref (gAd Γ.1 k0)), some (.int p1), some (.int y39), some (.int (x3 + 1))]) h dX8_speakingAt_40 rfl rfl rfl ?_
        refine x_goto (pc := 43) (tgt := 4) h dX8_speakingAt_43 (by decide) ?_
        exact At.mask [true, true, true, true] rfl rfl (hg4 y39 (x3 + 1))

theorem f_X8_speakingAt_W4_at (fu : Nat) (σ : gSt) (k0 : Nat) (p1 : Int32) {Γ : gX (Int32)} (h : gOk Γ cX8_speakingAt 4 RX8 (some .int) 3 64) (z : gEnd Γ (gQp σ)) (hk0 : isO k0 8) : ∀ (n : Nat) (x2 : Int32) (x3 : Int32), At Γ 4 [some (.ref (gAd Γ.1 k0)), some (.int p1), some (.int x2), some (.int x3)] [] σ (f_X8_speakingAt_W4 fu σ k0 p1 n x2 x3) := by
  intro n
  induction n with
  | zero => intro x2 x3 r hr; cases hr
  | succ n ih =>
    intro x2 x3
    exact f_X8_speakingAt_L4_at fu σ k0 p1 (f_X8_speakingAt_W4 fu σ k0 p1 n) h z hk0 ih x2 x3

set_option maxRecDepth 20000 in
set_option maxHeartbeats 4000000 in
theorem c_X8_speakingAt (fu : Nat) (σ : gSt) (k0 : Nat) (p1 : Int32) (hk0 : isO k0 8) : gCt yX8_speakingAt cX8_speakingAt 4 (some .int) 3 64 (gQp σ) (fun ad => [.ref (ad k0), .int p1]) σ (f_X8_speakingAt fu σ k0 p1) := by
  refine gCt_intro RX8 rfl (by decide +kernel) (fun ad v hv => by simp only [List.mem_cons, List.not_mem_nil, or_false] at hv; rcases hv with rfl | rfl <;> rfl) (fun ad => Nat.le_of_ble_eq_true rfl) (fun Γ h z => ?_)
  show At Γ 0 [some (.ref (gAd Γ.1 k0)), some (.int p1), none, none] [] σ _
  unfold f_X8_speakingAt
  refine x_iconst (pc := 0) (v := 0) h dX8_speakingAt_0 (by decide) ?_
  refine x_istore_n (pc := 1) (i := 2) (L' := [some (.ref (gAd Γ.1 k0)), some (.int p1), some (.int 0), none]) h dX8_speakingAt_1 rfl (Nat.le_of_ble_eq_true rfl) rfl ?_
  refine x_iconst (pc := 2) (v := 0) h dX8_speakingAt_2 (by decide) ?_
  refine x_istore_n (pc := 3) (i := 3) (L' := [some (.ref (gAd Γ.1 k0)), some (.int p1), some (.int 0), some (.int 0)]) h dX8_speakingAt_3 rfl (Nat.le_of_ble_eq_true rfl) rfl ?_
  exact At.mask [true, true, true, true] rfl rfl (f_X8_speakingAt_W4_at fu σ k0 p1 h z hk0 fu 0 0)

set_option maxRecDepth 20000 in
set_option maxHeartbeats 4000000 in
theorem c_X5_ofSecond (fu : Nat) (σ : gSt) (k0 : Nat) (p1 : Int32) (p2 : Int32) (hk0 : isO k0 5) : gCt yX5_ofSecond cX5_ofSecond 3 (some .int) 4 87 (gQp σ) (fun ad => [.ref (ad k0), .int p1, .int p2]) σ (f_X5_ofSecond fu σ k0 p1 p2) := by
  refine gCt_intro RX5 rfl (by decide +kernel) (fun ad v hv => by simp only [List.mem_cons, List.not_mem_nil, or_false] at hv; rcases hv with rfl | rfl | rfl <;> rfl) (fun ad => Nat.le_of_ble_eq_true rfl) (fun Γ h z => ?_)
  show At Γ 0 [some (.ref (gAd Γ.1 k0)), some (.int p1), some (.int p2)] [] σ _
  unfold f_X5_ofSecond
  refine x_iload_n (pc := 0) (i := 1) h dX5_ofSecond_0 rfl rfl ?_
  refine x_iconst (pc := 1) (v := 0) h dX5_ofSecond_1 (by decide) ?_
  refine x_sipush (pc := 2) (v := 1999) h dX5_ofSecond_2 (by decide) ?_
  refine x_Np (pc := 5) (av := fun ad => [.int p1, .int 0, .int 1999]) (rest := []) h m_X9_isWithin s_X9_isWithin kl_X5_71 (c_X9_isWithin fu σ p1 0 1999) rfl rfl (gCaM rfl) dX5_ofSecond_5 (fun v5 => ?_)
  refine x_if_eq (pc := 8) (tgt := 20) h dX5_ofSecond_8 (by decide) ?_ ?_
  · refine x_ldc (pc := 20) h kc_X5_42 dX5_ofSecond_20 ?_
    exact x_iretp (pc := 22) h z rfl .int rfl rfl dX5_ofSecond_22
  · refine x_iload_n (pc := 11) (i := 2) h dX5_ofSecond_11 rfl rfl ?_
    refine x_iconst (pc := 12) (v := 0) h dX5_ofSecond_12 (by decide) ?_
    refine x_iconst (pc := 13) (v := 1) h dX5_ofSecond_13 (by decide) ?_
    refine x_Np (pc := 14) (av := fun ad => [.int p2, .int 0, .int 1]) (rest := []) h m_X9_isWithin s_X9_isWithin kl_X5_71 (c_X9_isWithin fu σ p2 0 1) rfl rfl (gCaM rfl) dX5_ofSecond_14 (fun v14 => ?_)
    refine x_if_ne (pc := 17) (tgt := 23) h dX5_ofSecond_17 (by decide) ?_ ?_
    · refine x_iload_n (pc := 23) (i := 2) h dX5_ofSecond_23 rfl rfl ?_
      refine x_if_ne (pc := 24) (tgt := 38) h dX5_ofSecond_24 (by decide) ?_ ?_
      · refine x_aload_n (pc := 38) (i := 0) h dX5_ofSecond_38 rfl rfl ?_
        refine gf_X5_25 (pc := 39) h hk0 dX5_ofSecond_39 ?_
        refine x_iload_n (pc := 42) (i := 1) h dX5_ofSecond_42 rfl rfl ?_
        refine x_Vp (pc := 43) (av := fun ad => [.int p1]) (rest := []) h m_X8_speakingAt i_X8_speakingAt kl_X5_131 (t_5_1 hk0) (by decide) rfl (c_X8_speakingAt fu σ (k0 + 10) p1 (t_5_1 hk0)) rfl rfl (gCaM rfl) dX5_ofSecond_43 (fun v43 => ?_)
        exact x_iretp (pc := 46) h z rfl .int rfl rfl dX5_ofSecond_46
      · refine x_aload_n (pc := 27) (i := 0) h dX5_ofSecond_27 rfl rfl ?_
        refine gf_X5_25 (pc := 28) h hk0 dX5_ofSecond_28 ?_
        refine x_iload_n (pc := 31) (i := 1) h dX5_ofSecond_31 rfl rfl ?_
        refine x_Vp (pc := 32) (av := fun ad => [.int p1]) (rest := []) h m_X8_goingOn i_X8_goingOn kl_X5_128 (t_5_1 hk0) (by decide) rfl (c_X8_goingOn fu σ (k0 + 10) p1 (t_5_1 hk0)) rfl rfl (gCaM rfl) dX5_ofSecond_32 (fun v32 => ?_)
        refine x_goto (pc := 35) (tgt := 46) h dX5_ofSecond_35 (by decide) ?_
        exact x_iretp (pc := 46) h z rfl .int rfl rfl dX5_ofSecond_46
    · refine x_ldc (pc := 20) h kc_X5_42 dX5_ofSecond_20 ?_
      exact x_iretp (pc := 22) h z rfl .int rfl rfl dX5_ofSecond_22

set_option maxRecDepth 20000 in
set_option maxHeartbeats 4000000 in
theorem c_X9_during (fu : Nat) (σ : gSt) (k0 : Nat) (p1 : Int32) (p2 : Int32) (hk0 : isO k0 9) : gCt yX9_during cX9_during 3 (some .int) 5 109 (gQp σ) (fun ad => [.ref (ad k0), .int p1, .int p2]) σ (f_X9_during fu σ k0 p1 p2) := by
  refine gCt_intro RX9 rfl (by decide +kernel) (fun ad v hv => by simp only [List.mem_cons, List.not_mem_nil, or_false] at hv; rcases hv with rfl | rfl | rfl <;> rfl) (fun ad => Nat.le_of_ble_eq_true rfl) (fun Γ h z => ?_)
  show At Γ 0 [some (.ref (gAd Γ.1 k0)), some (.int p1), some (.int p2)] [] σ _
  unfold f_X9_during
  refine x_aload_n (pc := 0) (i := 0) h dX9_during_0 rfl rfl ?_
  refine gf_X9_31 (pc := 1) h hk0 dX9_during_1 ?_
  refine x_iload_n (pc := 4) (i := 1) h dX9_during_4 rfl rfl ?_
  refine x_iload_n (pc := 5) (i := 2) h dX9_during_5 rfl rfl ?_
  refine x_Vp (pc := 6) (av := fun ad => [.int p1, .int p2]) (rest := []) h m_X5_ofSecond i_X5_ofSecond kl_X9_102 (t_9_3 hk0) (by decide) rfl (c_X5_ofSecond fu σ (k0 + 1) p1 p2 (t_9_3 hk0)) rfl rfl (gCaM rfl) dX9_during_6 (fun v6 => ?_)
  exact x_iretp (pc := 9) h z rfl .int rfl rfl dX9_during_9

set_option maxRecDepth 20000 in
set_option maxHeartbeats 4000000 in
theorem f_X10_voices_L4_at (fu : Nat) (σ : gSt) (k0 : Nat) (p1 : Int32) (ag4 : Int32 → Int32 → Option (Int32)) {Γ : gX (Int32)} (h : gOk Γ cX10_voices 4 RX10 (some .int) 1 22) (z : gEnd Γ (gQp σ)) (hk0 : isO k0 10) (hg4 : ∀ (y2 : Int32) (y3 : Int32), At Γ 4 [some (.ref (gAd Γ.1 k0)), some (.int p1), some (.int y2), some (.int y3)] [] σ (ag4 y2 y3)) (x2 : Int32) (x3 : Int32) : At Γ 4 [some (.ref (gAd Γ.1 k0)), some (.int p1), some (.int x2), some (.int x3)] [] σ (f_X10_voices_L4 fu σ k0 p1 ag4 x2 x3) := by
  unfold f_X10_voices_L4
  refine x_iload_n (pc := 4) (i := 3) h dX10_voices_4 rfl rfl ?_
  refine x_aload_n (pc := 5) (i := 0) h dX10_voices_5 rfl rfl ?_
  refine gf_X10_7 (pc := 6) h hk0 dX10_voices_6 ?_
  refine x_sipush (pc := 9) (v := 282) h dX10_voices_9 (by decide) ?_
  refine x_ialdS (pc := 12) h 282 (t_10_0 hk0) (by decide) (by decide) (by decide) dX10_voices_12 ?_
  refine x_icmp_ge (pc := 13) (tgt := 55) h dX10_voices_13 (by decide) ?_ ?_
  · refine x_iload_n (pc := 55) (i := 2) h dX10_voices_55 rfl rfl ?_
    exact x_iretp (pc := 56) h z rfl .int rfl rfl dX10_voices_56
  · refine x_iload_n (pc := 16) (i := 2) h dX10_voices_16 rfl rfl ?_
    refine x_iload_n (pc := 17) (i := 1) h dX10_voices_17 rfl rfl ?_
    refine x_iload_n (pc := 18) (i := 3) h dX10_voices_18 rfl rfl ?_
    refine x_ishr (pc := 19) h dX10_voices_19 ?_
    refine x_iconst (pc := 20) (v := 1) h dX10_voices_20 (by decide) ?_
    refine x_iand (pc := 21) h dX10_voices_21 ?_
    refine x_iconst (pc := 22) (v := 1) h dX10_voices_22 (by decide) ?_
    refine x_icmp_ne (pc := 23) (tgt := 46) h dX10_voices_23 (by decide) ?_ ?_
    · refine x_iconst (pc := 46) (v := 0) h dX10_voices_46 (by decide) ?_
      refine x_ior (pc := 47) h dX10_voices_47 ?_
      refine x_istore_n (pc := 48) (i := 2) (L' := [some (.ref (gAd Γ.1 k0)), some (.int p1), some (.int (x2 ||| 0)), some (.int x3)]) h dX10_voices_48 rfl (Nat.le_of_ble_eq_true rfl) rfl ?_
      refine x_iinc (pc := 49) (i := 3) (v := (x3 + 1)) (L' := [some (.ref (gAd Γ.1 k0)), some (.int p1), some (.int (x2 ||| 0)), some (.int (x3 + 1))]) h dX10_voices_49 rfl rfl rfl ?_
      refine x_goto (pc := 52) (tgt := 4) h dX10_voices_52 (by decide) ?_
      exact At.mask [true, true, true, true] rfl rfl (hg4 (x2 ||| 0) (x3 + 1))
    · refine x_aload_n (pc := 26) (i := 0) h dX10_voices_26 rfl rfl ?_
      refine x_iload_n (pc := 27) (i := 3) h dX10_voices_27 rfl rfl ?_
      refine x_iconst (pc := 28) (v := 3) h dX10_voices_28 (by decide) ?_
      refine x_Vp (pc := 29) (av := fun ad => [.int x3, .int 3]) (rest := [.int x2]) h m_X10_of i_X10_of kl_X10_47 hk0 (by decide) rfl (c_X10_of fu σ k0 x3 3 hk0) rfl rfl (gCaM rfl) dX10_voices_29 (fun v29 => ?_)
      refine x_if_lt (pc := 32) (tgt := 46) h dX10_voices_32 (by decide) ?_ ?_
      · refine x_iconst (pc := 46) (v := 0) h dX10_voices_46 (by decide) ?_
        refine x_ior (pc := 47) h dX10_voices_47 ?_
        refine x_istore_n (pc := 48) (i := 2) (L' := [some (.ref (gAd Γ.1 k0)), some (.int p1), some (.int (x2 ||| 0)), some (.int x3)]) h dX10_voices_48 rfl (Nat.le_of_ble_eq_true rfl) rfl ?_
        refine x_iinc (pc := 49) (i := 3) (v := (x3 + 1)) (L' := [some (.ref (gAd Γ.1 k0)), some (.int p1), some (.int (x2 ||| 0)), some (.int (x3 + 1))]) h dX10_voices_49 rfl rfl rfl ?_
        refine x_goto (pc := 52) (tgt := 4) h dX10_voices_52 (by decide) ?_
        exact At.mask [true, true, true, true] rfl rfl (hg4 (x2 ||| 0) (x3 + 1))
      · refine x_iconst (pc := 35) (v := 1) h dX10_voices_35 (by decide) ?_
        refine x_aload_n (pc := 36) (i := 0) h dX10_voices_36 rfl rfl ?_
        refine x_iload_n (pc := 37) (i := 3) h dX10_voices_37 rfl rfl ?_
        refine x_iconst (pc := 38) (v := 3) h dX10_voices_38 (by decide) ?_
        refine x_Vp (pc := 39) (av := fun ad => [.int x3, .int 3]) (rest := [.int 1, .int x2]) h m_X10_of i_X10_of kl_X10_47 hk0 (by decide) rfl (c_X10_of fu σ k0 x3 3 hk0) rfl rfl (gCaM rfl) dX10_voices_39 (fun v39 => ?_)
        refine x_ishl (pc := 42) h dX10_voices_42 ?_
        refine x_goto (pc := 43) (tgt := 47) h dX10_voices_43 (by decide) ?_
        refine x_ior (pc := 47) h dX10_voices_47 ?_
        refine x_lt (fun y48 => ?_)
        refine x_istore_n (pc := 48) (i := 2) (L' := [some (.ref (gAd Γ.1 k0)), some (.int p1), some (.int y48), some (.int x3)]) h dX10_voices_48 rfl (Nat.le_of_ble_eq_true rfl) rfl ?_
        refine x_iinc (pc := 49) (i := 3) (v := (x3 + 1)) (L' := [some (.ref (gAd Γ.1 k0)), some (.int p1), some (.int y48), some (.int (x3 + 1))]) h dX10_voices_49 rfl rfl rfl ?_
        refine x_goto (pc := 52) (tgt := 4) h dX10_voices_52 (by decide) ?_
        exact At.mask [true, true, true, true] rfl rfl (hg4 y48 (x3 + 1))

theorem f_X10_voices_W4_at (fu : Nat) (σ : gSt) (k0 : Nat) (p1 : Int32) {Γ : gX (Int32)} (h : gOk Γ cX10_voices 4 RX10 (some .int) 1 22) (z : gEnd Γ (gQp σ)) (hk0 : isO k0 10) : ∀ (n : Nat) (x2 : Int32) (x3 : Int32), At Γ 4 [some (.ref (gAd Γ.1 k0)), some (.int p1), some (.int x2), some (.int x3)] [] σ (f_X10_voices_W4 fu σ k0 p1 n x2 x3) := by
  intro n
  induction n with
  | zero => intro x2 x3 r hr; cases hr
  | succ n ih =>
    intro x2 x3
    exact f_X10_voices_L4_at fu σ k0 p1 (f_X10_voices_W4 fu σ k0 p1 n) h z hk0 ih x2 x3

set_option maxRecDepth 20000 in
set_option maxHeartbeats 4000000 in
theorem c_X10_voices (fu : Nat) (σ : gSt) (k0 : Nat) (p1 : Int32) (hk0 : isO k0 10) : gCt yX10_voices cX10_voices 4 (some .int) 1 22 (gQp σ) (fun ad => [.ref (ad k0), .int p1]) σ (f_X10_voices fu σ k0 p1) := by
  refine gCt_intro RX10 rfl (by decide +kernel) (fun ad v hv => by simp only [List.mem_cons, List.not_mem_nil, or_false] at hv; rcases hv with rfl | rfl <;> rfl) (fun ad => Nat.le_of_ble_eq_true rfl) (fun Γ h z => ?_)
  show At Γ 0 [some (.ref (gAd Γ.1 k0)), some (.int p1), none, none] [] σ _
  unfold f_X10_voices
  refine x_iconst (pc := 0) (v := 0) h dX10_voices_0 (by decide) ?_
  refine x_istore_n (pc := 1) (i := 2) (L' := [some (.ref (gAd Γ.1 k0)), some (.int p1), some (.int 0), none]) h dX10_voices_1 rfl (Nat.le_of_ble_eq_true rfl) rfl ?_
  refine x_iconst (pc := 2) (v := 0) h dX10_voices_2 (by decide) ?_
  refine x_istore_n (pc := 3) (i := 3) (L' := [some (.ref (gAd Γ.1 k0)), some (.int p1), some (.int 0), some (.int 0)]) h dX10_voices_3 rfl (Nat.le_of_ble_eq_true rfl) rfl ?_
  exact At.mask [true, true, true, true] rfl rfl (f_X10_voices_W4_at fu σ k0 p1 h z hk0 fu 0 0)

set_option maxRecDepth 20000 in
set_option maxHeartbeats 4000000 in
theorem c_X10_during (fu : Nat) (σ : gSt) (k0 : Nat) (p1 : Int32) (p2 : Int32) (hk0 : isO k0 10) : gCt yX10_during cX10_during 3 (some .int) 3 67 (gQp σ) (fun ad => [.ref (ad k0), .int p1, .int p2]) σ (f_X10_during fu σ k0 p1 p2) := by
  refine gCt_intro RX10 rfl (by decide +kernel) (fun ad v hv => by simp only [List.mem_cons, List.not_mem_nil, or_false] at hv; rcases hv with rfl | rfl | rfl <;> rfl) (fun ad => Nat.le_of_ble_eq_true rfl) (fun Γ h z => ?_)
  show At Γ 0 [some (.ref (gAd Γ.1 k0)), some (.int p1), some (.int p2)] [] σ _
  unfold f_X10_during
  refine x_iload_n (pc := 0) (i := 1) h dX10_during_0 rfl rfl ?_
  refine x_iconst (pc := 1) (v := 0) h dX10_during_1 (by decide) ?_
  refine x_sipush (pc := 2) (v := 1999) h dX10_during_2 (by decide) ?_
  refine x_Sp (pc := 5) (av := fun ad => [.int p1, .int 0, .int 1999]) (rest := []) h m_X10_in s_X10_in kl_X10_39 (c_X10_in fu σ p1 0 1999) rfl rfl (gCaM rfl) dX10_during_5 (fun v5 => ?_)
  refine x_if_eq (pc := 8) (tgt := 20) h dX10_during_8 (by decide) ?_ ?_
  · refine x_ldc (pc := 20) h kc_X10_50 dX10_during_20 ?_
    exact x_iretp (pc := 22) h z rfl .int rfl rfl dX10_during_22
  · refine x_iload_n (pc := 11) (i := 2) h dX10_during_11 rfl rfl ?_
    refine x_iconst (pc := 12) (v := 0) h dX10_during_12 (by decide) ?_
    refine x_iconst (pc := 13) (v := 1) h dX10_during_13 (by decide) ?_
    refine x_Sp (pc := 14) (av := fun ad => [.int p2, .int 0, .int 1]) (rest := []) h m_X10_in s_X10_in kl_X10_39 (c_X10_in fu σ p2 0 1) rfl rfl (gCaM rfl) dX10_during_14 (fun v14 => ?_)
    refine x_if_ne (pc := 17) (tgt := 23) h dX10_during_17 (by decide) ?_ ?_
    · refine x_iload_n (pc := 23) (i := 2) h dX10_during_23 rfl rfl ?_
      refine x_if_ne (pc := 24) (tgt := 35) h dX10_during_24 (by decide) ?_ ?_
      · refine x_aload_n (pc := 35) (i := 0) h dX10_during_35 rfl rfl ?_
        refine x_aload_n (pc := 36) (i := 0) h dX10_during_36 rfl rfl ?_
        refine x_iload_n (pc := 37) (i := 1) h dX10_during_37 rfl rfl ?_
        refine x_Vp (pc := 38) (av := fun ad => [.int p1]) (rest := [.ref (gAd Γ.1 k0)]) h m_X10_going i_X10_going kl_X10_107 hk0 (by decide) rfl (c_X10_going fu σ k0 p1 hk0) rfl rfl (gCaM rfl) dX10_during_38 (fun v38 => ?_)
        refine x_Vp (pc := 41) (av := fun ad => [.int v38]) (rest := []) h m_X10_voices i_X10_voices kl_X10_149 hk0 (by decide) rfl (c_X10_voices fu σ k0 v38 hk0) rfl rfl (gCaM rfl) dX10_during_41 (fun v41 => ?_)
        exact x_iretp (pc := 44) h z rfl .int rfl rfl dX10_during_44
      · refine x_aload_n (pc := 27) (i := 0) h dX10_during_27 rfl rfl ?_
        refine x_iload_n (pc := 28) (i := 1) h dX10_during_28 rfl rfl ?_
        refine x_Vp (pc := 29) (av := fun ad => [.int p1]) (rest := []) h m_X10_going i_X10_going kl_X10_107 hk0 (by decide) rfl (c_X10_going fu σ k0 p1 hk0) rfl rfl (gCaM rfl) dX10_during_29 (fun v29 => ?_)
        refine x_goto (pc := 32) (tgt := 44) h dX10_during_32 (by decide) ?_
        exact x_iretp (pc := 44) h z rfl .int rfl rfl dX10_during_44
    · refine x_ldc (pc := 20) h kc_X10_50 dX10_during_20 ?_
      exact x_iretp (pc := 22) h z rfl .int rfl rfl dX10_during_22

set_option maxRecDepth 20000 in
set_option maxHeartbeats 4000000 in
theorem c_X5_ofInterruptions (fu : Nat) (σ : gSt) (k0 : Nat) (p1 : Int32) (p2 : Int32) (hk0 : isO k0 5) : gCt yX5_ofInterruptions cX5_ofInterruptions 3 (some .int) 4 89 (gQp σ) (fun ad => [.ref (ad k0), .int p1, .int p2]) σ (f_X5_ofInterruptions fu σ k0 p1 p2) := by
  refine gCt_intro RX5 rfl (by decide +kernel) (fun ad v hv => by simp only [List.mem_cons, List.not_mem_nil, or_false] at hv; rcases hv with rfl | rfl | rfl <;> rfl) (fun ad => Nat.le_of_ble_eq_true rfl) (fun Γ h z => ?_)
  show At Γ 0 [some (.ref (gAd Γ.1 k0)), some (.int p1), some (.int p2)] [] σ _
  unfold f_X5_ofInterruptions
  refine x_aload_n (pc := 0) (i := 0) h dX5_ofInterruptions_0 rfl rfl ?_
  refine gf_X5_35 (pc := 1) h hk0 dX5_ofInterruptions_1 ?_
  refine x_iload_n (pc := 4) (i := 1) h dX5_ofInterruptions_4 rfl rfl ?_
  refine x_Vp (pc := 5) (av := fun ad => [.int p1]) (rest := []) h m_X4_has i_X4_has kl_X5_106 (t_5_3 hk0) (by decide) rfl (c_X4_has fu σ (k0 + 19) p1 (t_5_3 hk0)) rfl rfl (gCaM rfl) dX5_ofInterruptions_5 (fun v5 => ?_)
  refine x_if_eq (pc := 8) (tgt := 27) h dX5_ofInterruptions_8 (by decide) ?_ ?_
  · refine x_ldc (pc := 27) h kc_X5_42 dX5_ofInterruptions_27 ?_
    exact x_iretp (pc := 29) h z rfl .int rfl rfl dX5_ofInterruptions_29
  · refine x_aload_n (pc := 11) (i := 0) h dX5_ofInterruptions_11 rfl rfl ?_
    refine gf_X5_35 (pc := 12) h hk0 dX5_ofInterruptions_12 ?_
    refine x_iload_n (pc := 15) (i := 2) h dX5_ofInterruptions_15 rfl rfl ?_
    refine x_Vp (pc := 16) (av := fun ad => [.int p2]) (rest := []) h m_X4_has i_X4_has kl_X5_106 (t_5_3 hk0) (by decide) rfl (c_X4_has fu σ (k0 + 19) p2 (t_5_3 hk0)) rfl rfl (gCaM rfl) dX5_ofInterruptions_16 (fun v16 => ?_)
    refine x_if_eq (pc := 19) (tgt := 27) h dX5_ofInterruptions_19 (by decide) ?_ ?_
    · refine x_ldc (pc := 27) h kc_X5_42 dX5_ofInterruptions_27 ?_
      exact x_iretp (pc := 29) h z rfl .int rfl rfl dX5_ofInterruptions_29
    · refine x_iload_n (pc := 22) (i := 1) h dX5_ofInterruptions_22 rfl rfl ?_
      refine x_iload_n (pc := 23) (i := 2) h dX5_ofInterruptions_23 rfl rfl ?_
      refine x_icmp_ne (pc := 24) (tgt := 30) h dX5_ofInterruptions_24 (by decide) ?_ ?_
      · refine x_aload_n (pc := 30) (i := 0) h dX5_ofInterruptions_30 rfl rfl ?_
        refine gf_X5_25 (pc := 31) h hk0 dX5_ofInterruptions_31 ?_
        refine x_iload_n (pc := 34) (i := 1) h dX5_ofInterruptions_34 rfl rfl ?_
        refine x_iload_n (pc := 35) (i := 2) h dX5_ofInterruptions_35 rfl rfl ?_
        refine x_Vp (pc := 36) (av := fun ad => [.int p1, .int p2]) (rest := []) h m_X8_interruptions i_X8_interruptions kl_X5_134 (t_5_1 hk0) (by decide) rfl (c_X8_interruptions fu σ (k0 + 10) p1 p2 (t_5_1 hk0)) rfl rfl (gCaM rfl) dX5_ofInterruptions_36 (fun v36 => ?_)
        exact x_iretp (pc := 39) h z rfl .int rfl rfl dX5_ofInterruptions_39
      · refine x_ldc (pc := 27) h kc_X5_42 dX5_ofInterruptions_27 ?_
        exact x_iretp (pc := 29) h z rfl .int rfl rfl dX5_ofInterruptions_29

set_option maxRecDepth 20000 in
set_option maxHeartbeats 4000000 in
theorem c_X9_interrupts (fu : Nat) (σ : gSt) (k0 : Nat) (p1 : Int32) (p2 : Int32) (hk0 : isO k0 9) : gCt yX9_interrupts cX9_interrupts 3 (some .int) 5 111 (gQp σ) (fun ad => [.ref (ad k0), .int p1, .int p2]) σ (f_X9_interrupts fu σ k0 p1 p2) := by
  refine gCt_intro RX9 rfl (by decide +kernel) (fun ad v hv => by simp only [List.mem_cons, List.not_mem_nil, or_false] at hv; rcases hv with rfl | rfl | rfl <;> rfl) (fun ad => Nat.le_of_ble_eq_true rfl) (fun Γ h z => ?_)
  show At Γ 0 [some (.ref (gAd Γ.1 k0)), some (.int p1), some (.int p2)] [] σ _
  unfold f_X9_interrupts
  refine x_aload_n (pc := 0) (i := 0) h dX9_interrupts_0 rfl rfl ?_
  refine gf_X9_31 (pc := 1) h hk0 dX9_interrupts_1 ?_
  refine x_iload_n (pc := 4) (i := 1) h dX9_interrupts_4 rfl rfl ?_
  refine x_iload_n (pc := 5) (i := 2) h dX9_interrupts_5 rfl rfl ?_
  refine x_Vp (pc := 6) (av := fun ad => [.int p1, .int p2]) (rest := []) h m_X5_ofInterruptions i_X5_ofInterruptions kl_X9_105 (t_9_3 hk0) (by decide) rfl (c_X5_ofInterruptions fu σ (k0 + 1) p1 p2 (t_9_3 hk0)) rfl rfl (gCaM rfl) dX9_interrupts_6 (fun v6 => ?_)
  exact x_iretp (pc := 9) h z rfl .int rfl rfl dX9_interrupts_9

set_option maxRecDepth 20000 in
set_option maxHeartbeats 4000000 in
theorem c_X10_interrupts (fu : Nat) (σ : gSt) (k0 : Nat) (p1 : Int32) (p2 : Int32) (hk0 : isO k0 10) : gCt yX10_interrupts cX10_interrupts 3 (some .int) 3 71 (gQp σ) (fun ad => [.ref (ad k0), .int p1, .int p2]) σ (f_X10_interrupts fu σ k0 p1 p2) := by
  refine gCt_intro RX10 rfl (by decide +kernel) (fun ad v hv => by simp only [List.mem_cons, List.not_mem_nil, or_false] at hv; rcases hv with rfl | rfl | rfl <;> rfl) (fun ad => Nat.le_of_ble_eq_true rfl) (fun Γ h z => ?_)
  show At Γ 0 [some (.ref (gAd Γ.1 k0)), some (.int p1), some (.int p2)] [] σ _
  unfold f_X10_interrupts
  refine x_aload_n (pc := 0) (i := 0) h dX10_interrupts_0 rfl rfl ?_
  refine x_iload_n (pc := 1) (i := 1) h dX10_interrupts_1 rfl rfl ?_
  refine x_Vp (pc := 2) (av := fun ad => [.int p1]) (rest := []) h m_X10_isVoice i_X10_isVoice kl_X10_91 hk0 (by decide) rfl (c_X10_isVoice fu σ k0 p1 hk0) rfl rfl (gCaM rfl) dX10_interrupts_2 (fun v2 => ?_)
  refine x_if_eq (pc := 5) (tgt := 30) h dX10_interrupts_5 (by decide) ?_ ?_
  · refine x_ldc (pc := 30) h kc_X10_50 dX10_interrupts_30 ?_
    exact x_iretp (pc := 32) h z rfl .int rfl rfl dX10_interrupts_32
  · refine x_aload_n (pc := 8) (i := 0) h dX10_interrupts_8 rfl rfl ?_
    refine x_iload_n (pc := 9) (i := 2) h dX10_interrupts_9 rfl rfl ?_
    refine x_Vp (pc := 10) (av := fun ad => [.int p2]) (rest := []) h m_X10_isVoice i_X10_isVoice kl_X10_91 hk0 (by decide) rfl (c_X10_isVoice fu σ k0 p2 hk0) rfl rfl (gCaM rfl) dX10_interrupts_10 (fun v10 => ?_)
    refine x_if_eq (pc := 13) (tgt := 30) h dX10_interrupts_13 (by decide) ?_ ?_
    · refine x_ldc (pc := 30) h kc_X10_50 dX10_interrupts_30 ?_
      exact x_iretp (pc := 32) h z rfl .int rfl rfl dX10_interrupts_32
    · refine x_iload_n (pc := 16) (i := 1) h dX10_interrupts_16 rfl rfl ?_
      refine x_iload_n (pc := 17) (i := 2) h dX10_interrupts_17 rfl rfl ?_
      refine x_icmp_eq (pc := 18) (tgt := 30) h dX10_interrupts_18 (by decide) ?_ ?_
      · refine x_ldc (pc := 30) h kc_X10_50 dX10_interrupts_30 ?_
        exact x_iretp (pc := 32) h z rfl .int rfl rfl dX10_interrupts_32
      · refine x_aload_n (pc := 21) (i := 0) h dX10_interrupts_21 rfl rfl ?_
        refine x_iload_n (pc := 22) (i := 1) h dX10_interrupts_22 rfl rfl ?_
        refine x_iload_n (pc := 23) (i := 2) h dX10_interrupts_23 rfl rfl ?_
        refine x_Vp (pc := 24) (av := fun ad => [.int p1, .int p2]) (rest := []) h m_X10_often i_X10_often kl_X10_143 hk0 (by decide) rfl (c_X10_often fu σ k0 p1 p2 hk0) rfl rfl (gCaM rfl) dX10_interrupts_24 (fun v24 => ?_)
        refine x_goto (pc := 27) (tgt := 32) h dX10_interrupts_27 (by decide) ?_
        exact x_iretp (pc := 32) h z rfl .int rfl rfl dX10_interrupts_32

set_option maxRecDepth 20000 in
set_option maxHeartbeats 4000000 in
theorem c_X5_ofPitch (fu : Nat) (σ : gSt) (k0 : Nat) (p1 : Int32) (hk0 : isO k0 5) : gCt yX5_ofPitch cX5_ofPitch 2 (some .int) 3 67 (gQp σ) (fun ad => [.ref (ad k0), .int p1]) σ (f_X5_ofPitch fu σ k0 p1) := by
  refine gCt_intro RX5 rfl (by decide +kernel) (fun ad v hv => by simp only [List.mem_cons, List.not_mem_nil, or_false] at hv; rcases hv with rfl | rfl <;> rfl) (fun ad => Nat.le_of_ble_eq_true rfl) (fun Γ h z => ?_)
  show At Γ 0 [some (.ref (gAd Γ.1 k0)), some (.int p1)] [] σ _
  unfold f_X5_ofPitch
  refine x_iload_n (pc := 0) (i := 1) h dX5_ofPitch_0 rfl rfl ?_
  refine x_Sp (pc := 1) (av := fun ad => [.int p1]) (rest := []) h m_X7_isPitch s_X7_isPitch kl_X5_137 (c_X7_isPitch fu σ p1) rfl rfl (gCaM rfl) dX5_ofPitch_1 (fun v1 => ?_)
  refine x_if_ne (pc := 4) (tgt := 10) h dX5_ofPitch_4 (by decide) ?_ ?_
  · refine x_aload_n (pc := 10) (i := 0) h dX5_ofPitch_10 rfl rfl ?_
    refine gf_X5_15 (pc := 11) h hk0 dX5_ofPitch_11 ?_
    refine x_iload_n (pc := 14) (i := 1) h dX5_ofPitch_14 rfl rfl ?_
    refine x_Vp (pc := 15) (av := fun ad => [.int p1]) (rest := []) h m_X7_closestSpeaker i_X7_closestSpeaker kl_X5_140 (t_5_0 hk0) (by decide) rfl (c_X7_closestSpeaker fu σ (k0 + 9) p1 (t_5_0 hk0)) rfl rfl (gCaM rfl) dX5_ofPitch_15 (fun v15 => ?_)
    refine x_Sp (pc := 18) (av := fun ad => [.int v15]) (rest := []) h m_X5_orNotFound s_X5_orNotFound kl_X5_56 (c_X5_orNotFound fu σ v15) rfl rfl (gCaM rfl) dX5_ofPitch_18 (fun v18 => ?_)
    exact x_iretp (pc := 21) h z rfl .int rfl rfl dX5_ofPitch_21
  · refine x_ldc (pc := 7) h kc_X5_42 dX5_ofPitch_7 ?_
    exact x_iretp (pc := 9) h z rfl .int rfl rfl dX5_ofPitch_9

set_option maxRecDepth 20000 in
set_option maxHeartbeats 4000000 in
theorem c_X9_nearest (fu : Nat) (σ : gSt) (k0 : Nat) (p1 : Int32) (hk0 : isO k0 9) : gCt yX9_nearest cX9_nearest 2 (some .int) 4 88 (gQp σ) (fun ad => [.ref (ad k0), .int p1]) σ (f_X9_nearest fu σ k0 p1) := by
  refine gCt_intro RX9 rfl (by decide +kernel) (fun ad v hv => by simp only [List.mem_cons, List.not_mem_nil, or_false] at hv; rcases hv with rfl | rfl <;> rfl) (fun ad => Nat.le_of_ble_eq_true rfl) (fun Γ h z => ?_)
  show At Γ 0 [some (.ref (gAd Γ.1 k0)), some (.int p1)] [] σ _
  unfold f_X9_nearest
  refine x_aload_n (pc := 0) (i := 0) h dX9_nearest_0 rfl rfl ?_
  refine gf_X9_31 (pc := 1) h hk0 dX9_nearest_1 ?_
  refine x_iload_n (pc := 4) (i := 1) h dX9_nearest_4 rfl rfl ?_
  refine x_Vp (pc := 5) (av := fun ad => [.int p1]) (rest := []) h m_X5_ofPitch i_X5_ofPitch kl_X9_108 (t_9_3 hk0) (by decide) rfl (c_X5_ofPitch fu σ (k0 + 1) p1 (t_9_3 hk0)) rfl rfl (gCaM rfl) dX9_nearest_5 (fun v5 => ?_)
  exact x_iretp (pc := 8) h z rfl .int rfl rfl dX9_nearest_8

set_option maxRecDepth 20000 in
set_option maxHeartbeats 4000000 in
theorem c_X10_nearest (fu : Nat) (σ : gSt) (k0 : Nat) (p1 : Int32) (hk0 : isO k0 10) : gCt yX10_nearest cX10_nearest 2 (some .int) 2 45 (gQp σ) (fun ad => [.ref (ad k0), .int p1]) σ (f_X10_nearest fu σ k0 p1) := by
  refine gCt_intro RX10 rfl (by decide +kernel) (fun ad v hv => by simp only [List.mem_cons, List.not_mem_nil, or_false] at hv; rcases hv with rfl | rfl <;> rfl) (fun ad => Nat.le_of_ble_eq_true rfl) (fun Γ h z => ?_)
  show At Γ 0 [some (.ref (gAd Γ.1 k0)), some (.int p1)] [] σ _
  unfold f_X10_nearest
  refine x_iload_n (pc := 0) (i := 1) h dX10_nearest_0 rfl rfl ?_
  refine x_bipush (pc := 1) (v := 50) h dX10_nearest_1 (by decide) ?_
  refine x_sipush (pc := 3) (v := 500) h dX10_nearest_3 (by decide) ?_
  refine x_Sp (pc := 6) (av := fun ad => [.int p1, .int 50, .int 500]) (rest := []) h m_X10_in s_X10_in kl_X10_39 (c_X10_in fu σ p1 50 500) rfl rfl (gCaM rfl) dX10_nearest_6 (fun v6 => ?_)
  refine x_if_ne (pc := 9) (tgt := 15) h dX10_nearest_9 (by decide) ?_ ?_
  · refine x_aload_n (pc := 15) (i := 0) h dX10_nearest_15 rfl rfl ?_
    refine x_iload_n (pc := 16) (i := 1) h dX10_nearest_16 rfl rfl ?_
    refine x_Vp (pc := 17) (av := fun ad => [.int p1]) (rest := []) h m_X10_voiceFor i_X10_voiceFor kl_X10_63 hk0 (by decide) rfl (c_X10_voiceFor fu σ k0 p1 hk0) rfl rfl (gCaM rfl) dX10_nearest_17 (fun v17 => ?_)
    refine x_if_ge (pc := 20) (tgt := 28) h dX10_nearest_20 (by decide) ?_ ?_
    · refine x_aload_n (pc := 28) (i := 0) h dX10_nearest_28 rfl rfl ?_
      refine x_iload_n (pc := 29) (i := 1) h dX10_nearest_29 rfl rfl ?_
      refine x_Vp (pc := 30) (av := fun ad => [.int p1]) (rest := []) h m_X10_voiceFor i_X10_voiceFor kl_X10_63 hk0 (by decide) rfl (c_X10_voiceFor fu σ k0 p1 hk0) rfl rfl (gCaM rfl) dX10_nearest_30 (fun v30 => ?_)
      exact x_iretp (pc := 33) h z rfl .int rfl rfl dX10_nearest_33
    · refine x_ldc (pc := 23) h kc_X10_110 dX10_nearest_23 ?_
      refine x_goto (pc := 25) (tgt := 33) h dX10_nearest_25 (by decide) ?_
      exact x_iretp (pc := 33) h z rfl .int rfl rfl dX10_nearest_33
  · refine x_ldc (pc := 12) h kc_X10_50 dX10_nearest_12 ?_
    exact x_iretp (pc := 14) h z rfl .int rfl rfl dX10_nearest_14

set_option maxRecDepth 20000 in
set_option maxHeartbeats 4000000 in
theorem c_X5_ofCorrection (fu : Nat) (σ : gSt) (k0 : Nat) (p1 : Int32) (p2 : Int32) (hk0 : isO k0 5) : gCt yX5_ofCorrection cX5_ofCorrection 4 (some .int) 3 69 (gQp σ) (fun ad => [.ref (ad k0), .int p1, .int p2]) σ (f_X5_ofCorrection fu σ k0 p1 p2) := by
  refine gCt_intro RX5 rfl (by decide +kernel) (fun ad v hv => by simp only [List.mem_cons, List.not_mem_nil, or_false] at hv; rcases hv with rfl | rfl | rfl <;> rfl) (fun ad => Nat.le_of_ble_eq_true rfl) (fun Γ h z => ?_)
  show At Γ 0 [some (.ref (gAd Γ.1 k0)), some (.int p1), some (.int p2), none] [] σ _
  unfold f_X5_ofCorrection
  refine x_aload_n (pc := 0) (i := 0) h dX5_ofCorrection_0 rfl rfl ?_
  refine gf_X5_30 (pc := 1) h hk0 dX5_ofCorrection_1 ?_
  refine x_iload_n (pc := 4) (i := 1) h dX5_ofCorrection_4 rfl rfl ?_
  refine x_iload_n (pc := 5) (i := 2) h dX5_ofCorrection_5 rfl rfl ?_
  refine x_Vp (pc := 6) (av := fun ad => [.int p1, .int p2]) (rest := []) h m_X0_errorOf i_X0_errorOf kl_X5_143 (t_5_2 hk0) (by decide) rfl (c_X0_errorOf fu σ (k0 + 17) p1 p2 (t_5_2 hk0)) rfl rfl (gCaM rfl) dX5_ofCorrection_6 (fun v6 => ?_)
  refine x_istore_n (pc := 9) (i := 3) (L' := [some (.ref (gAd Γ.1 k0)), some (.int p1), some (.int p2), some (.int v6)]) h dX5_ofCorrection_9 rfl (Nat.le_of_ble_eq_true rfl) rfl ?_
  refine x_iload_n (pc := 10) (i := 3) h dX5_ofCorrection_10 rfl rfl ?_
  refine x_if_eq (pc := 11) (tgt := 18) h dX5_ofCorrection_11 (by decide) ?_ ?_
  · refine x_aload_n (pc := 18) (i := 0) h dX5_ofCorrection_18 rfl rfl ?_
    refine gf_X5_15 (pc := 19) h hk0 dX5_ofCorrection_19 ?_
    refine x_iload_n (pc := 22) (i := 1) h dX5_ofCorrection_22 rfl rfl ?_
    refine x_aload_n (pc := 23) (i := 0) h dX5_ofCorrection_23 rfl rfl ?_
    refine gf_X5_30 (pc := 24) h hk0 dX5_ofCorrection_24 ?_
    refine x_iload_n (pc := 27) (i := 2) h dX5_ofCorrection_27 rfl rfl ?_
    refine x_Vp (pc := 28) (av := fun ad => [.int p2]) (rest := [.int p1, .ref (gAd Γ.1 (k0 + 9))]) h m_X0_shown i_X0_shown kl_X5_80 (t_5_2 hk0) (by decide) rfl (c_X0_shown fu σ (k0 + 17) p2 (t_5_2 hk0)) rfl rfl (gCaM rfl) dX5_ofCorrection_28 (fun v28 => ?_)
    refine x_Vp (pc := 31) (av := fun ad => [.int p1, .int v28]) (rest := []) h m_X7_placesReshown i_X7_placesReshown kl_X5_146 (t_5_0 hk0) (by decide) rfl (c_X7_placesReshown fu σ (k0 + 9) p1 v28 (t_5_0 hk0)) rfl rfl (gCaM rfl) dX5_ofCorrection_31 (fun v31 => ?_)
    exact x_iretp (pc := 34) h z rfl .int rfl rfl dX5_ofCorrection_34
  · refine x_iload_n (pc := 14) (i := 3) h dX5_ofCorrection_14 rfl rfl ?_
    refine x_goto (pc := 15) (tgt := 34) h dX5_ofCorrection_15 (by decide) ?_
    exact x_iretp (pc := 34) h z rfl .int rfl rfl dX5_ofCorrection_34

set_option maxRecDepth 20000 in
set_option maxHeartbeats 4000000 in
theorem c_X9_would (fu : Nat) (σ : gSt) (k0 : Nat) (p1 : Int32) (p2 : Int32) (hk0 : isO k0 9) : gCt yX9_would cX9_would 3 (some .int) 4 92 (gQp σ) (fun ad => [.ref (ad k0), .int p1, .int p2]) σ (f_X9_would fu σ k0 p1 p2) := by
  refine gCt_intro RX9 rfl (by decide +kernel) (fun ad v hv => by simp only [List.mem_cons, List.not_mem_nil, or_false] at hv; rcases hv with rfl | rfl | rfl <;> rfl) (fun ad => Nat.le_of_ble_eq_true rfl) (fun Γ h z => ?_)
  show At Γ 0 [some (.ref (gAd Γ.1 k0)), some (.int p1), some (.int p2)] [] σ _
  unfold f_X9_would
  refine x_aload_n (pc := 0) (i := 0) h dX9_would_0 rfl rfl ?_
  refine gf_X9_31 (pc := 1) h hk0 dX9_would_1 ?_
  refine x_iload_n (pc := 4) (i := 1) h dX9_would_4 rfl rfl ?_
  refine x_iload_n (pc := 5) (i := 2) h dX9_would_5 rfl rfl ?_
  refine x_Vp (pc := 6) (av := fun ad => [.int p1, .int p2]) (rest := []) h m_X5_ofCorrection i_X5_ofCorrection kl_X9_111 (t_9_3 hk0) (by decide) rfl (c_X5_ofCorrection fu σ (k0 + 1) p1 p2 (t_9_3 hk0)) rfl rfl (gCaM rfl) dX9_would_6 (fun v6 => ?_)
  exact x_iretp (pc := 9) h z rfl .int rfl rfl dX9_would_9

set_option maxRecDepth 20000 in
set_option maxHeartbeats 4000000 in
theorem c_X10_would (fu : Nat) (σ : gSt) (k0 : Nat) (p1 : Int32) (p2 : Int32) (hk0 : isO k0 10) : gCt yX10_would cX10_would 4 (some .int) 3 64 gQi (fun ad => [.ref (ad k0), .int p1, .int p2]) σ (f_X10_would fu σ k0 p1 p2) := by
  refine gCt_intro RX10 rfl (by decide +kernel) (fun ad v hv => by simp only [List.mem_cons, List.not_mem_nil, or_false] at hv; rcases hv with rfl | rfl | rfl <;> rfl) (fun ad => Nat.le_of_ble_eq_true rfl) (fun Γ h z => ?_)
  show At Γ 0 [some (.ref (gAd Γ.1 k0)), some (.int p1), some (.int p2), none] [] σ _
  unfold f_X10_would
  refine x_aload_n (pc := 0) (i := 0) h dX10_would_0 rfl rfl ?_
  refine x_iload_n (pc := 1) (i := 1) h dX10_would_1 rfl rfl ?_
  refine x_iload_n (pc := 2) (i := 2) h dX10_would_2 rfl rfl ?_
  refine x_Vp (pc := 3) (av := fun ad => [.int p1, .int p2]) (rest := []) h m_X10_mayCorrect i_X10_mayCorrect kl_X10_81 hk0 (by decide) rfl (c_X10_mayCorrect fu σ k0 p1 p2 hk0) rfl rfl (gCaM rfl) dX10_would_3 (fun v3 => ?_)
  refine x_istore_n (pc := 6) (i := 3) (L' := [some (.ref (gAd Γ.1 k0)), some (.int p1), some (.int p2), some (.int v3)]) h dX10_would_6 rfl (Nat.le_of_ble_eq_true rfl) rfl ?_
  refine x_iload_n (pc := 7) (i := 3) h dX10_would_7 rfl rfl ?_
  refine x_if_ge (pc := 8) (tgt := 15) h dX10_would_8 (by decide) ?_ ?_
  · refine x_aload_n (pc := 15) (i := 0) h dX10_would_15 rfl rfl ?_
    refine x_iload_n (pc := 16) (i := 1) h dX10_would_16 rfl rfl ?_
    refine x_iload_n (pc := 17) (i := 2) h dX10_would_17 rfl rfl ?_
    refine x_iconst (pc := 18) (v := 0) h dX10_would_18 (by decide) ?_
    refine x_Vi (pc := 19) (av := fun ad => [.int p1, .int p2, .int 0]) (rest := []) h m_X10_turnsTo i_X10_turnsTo kl_X10_84 hk0 (by decide) rfl (c_X10_turnsTo fu σ k0 p1 p2 0 hk0) rfl rfl (gCaM rfl) dX10_would_19 (fun v19 σ19 => ?_)
    exact x_ireti (pc := 22) h z .int rfl rfl dX10_would_22
  · refine x_iload_n (pc := 11) (i := 3) h dX10_would_11 rfl rfl ?_
    refine x_goto (pc := 12) (tgt := 22) h dX10_would_12 (by decide) ?_
    exact x_ireti (pc := 22) h z .int rfl rfl dX10_would_22

set_option maxRecDepth 20000 in
set_option maxHeartbeats 4000000 in
theorem f_X5_noteShownSets_L2_at (fu : Nat) (k0 : Nat) (ag2 : Int32 → gSt → Option (gSt)) {Γ : gX (gSt)} (h : gOk Γ cX5_noteShownSets 2 RX5 none 3 67) (z : gEnd Γ gQv) (hk0 : isO k0 5) (hg2 : ∀ (y1 : Int32) (τ : gSt), At Γ 2 [some (.ref (gAd Γ.1 k0)), some (.int y1)] [] τ (ag2 y1 τ)) (x1 : Int32) (σ : gSt) : At Γ 2 [some (.ref (gAd Γ.1 k0)), some (.int x1)] [] σ (f_X5_noteShownSets_L2 fu k0 ag2 x1 σ) := by
  unfold f_X5_noteShownSets_L2
  refine x_iload_n (pc := 2) (i := 1) h dX5_noteShownSets_2 rfl rfl ?_
  refine x_aload_n (pc := 3) (i := 0) h dX5_noteShownSets_3 rfl rfl ?_
  refine gf_X5_25 (pc := 4) h hk0 dX5_noteShownSets_4 ?_
  refine x_Vp (pc := 7) (av := fun ad => []) (rest := [.int x1]) h m_X8_size i_X8_size kl_X5_158 (t_5_1 hk0) (by decide) rfl (c_X8_size fu σ (k0 + 10) (t_5_1 hk0)) rfl rfl (gCaM rfl) dX5_noteShownSets_7 (fun v7 => ?_)
  refine x_icmp_ge (pc := 10) (tgt := 36) h dX5_noteShownSets_10 (by decide) ?_ ?_
  · exact x_vret (pc := 36) h z rfl dX5_noteShownSets_36
  · refine x_iload_n (pc := 13) (i := 1) h dX5_noteShownSets_13 rfl rfl ?_
    refine x_bipush (pc := 14) (v := 20) h dX5_noteShownSets_14 (by decide) ?_
    refine x_icmp_ge (pc := 16) (tgt := 36) h dX5_noteShownSets_16 (by decide) ?_ ?_
    · exact x_vret (pc := 36) h z rfl dX5_noteShownSets_36
    · refine x_aload_n (pc := 19) (i := 0) h dX5_noteShownSets_19 rfl rfl ?_
      refine gf_X5_9 (pc := 20) h hk0 dX5_noteShownSets_20 ?_
      refine x_iload_n (pc := 23) (i := 1) h dX5_noteShownSets_23 rfl rfl ?_
      refine x_aload_n (pc := 24) (i := 0) h dX5_noteShownSets_24 rfl rfl ?_
      refine x_iload_n (pc := 25) (i := 1) h dX5_noteShownSets_25 rfl rfl ?_
      refine x_Vp (pc := 26) (av := fun ad => [.int x1]) (rest := [.int x1, .ref (gAd Γ.1 (k0 + 1))]) h m_X5_shownIn i_X5_shownIn kl_X5_191 hk0 (by decide) rfl (c_X5_shownIn fu σ k0 x1 hk0) rfl rfl (gCaM rfl) dX5_noteShownSets_26 (fun v26 => ?_)
      refine x_iast (pc := 29) h (t_5_4 hk0) dX5_noteShownSets_29 (fun σ29 => ?_)
      refine x_iinc (pc := 30) (i := 1) (v := (x1 + 1)) (L' := [some (.ref (gAd Γ.1 k0)), some (.int (x1 + 1))]) h dX5_noteShownSets_30 rfl rfl rfl ?_
      refine x_goto (pc := 33) (tgt := 2) h dX5_noteShownSets_33 (by decide) ?_
      exact At.mask [true, true] rfl rfl (hg2 (x1 + 1) σ29)

theorem f_X5_noteShownSets_W2_at (fu : Nat) (k0 : Nat) {Γ : gX (gSt)} (h : gOk Γ cX5_noteShownSets 2 RX5 none 3 67) (z : gEnd Γ gQv) (hk0 : isO k0 5) : ∀ (n : Nat) (x1 : Int32) (σ : gSt), At Γ 2 [some (.ref (gAd Γ.1 k0)), some (.int x1)] [] σ (f_X5_noteShownSets_W2 fu k0 n x1 σ) := by
  intro n
  induction n with
  | zero => intro x1 σ r hr; cases hr
  | succ n ih =>
    intro x1 σ
    exact f_X5_noteShownSets_L2_at fu k0 (f_X5_noteShownSets_W2 fu k0 n) h z hk0 ih x1 σ

set_option maxRecDepth 20000 in
set_option maxHeartbeats 4000000 in
theorem c_X5_noteShownSets (fu : Nat) (σ : gSt) (k0 : Nat) (hk0 : isO k0 5) : gCt yX5_noteShownSets cX5_noteShownSets 2 none 3 67 gQv (fun ad => [.ref (ad k0)]) σ (f_X5_noteShownSets fu σ k0) := by
  refine gCt_intro RX5 rfl (by decide +kernel) (fun ad v hv => by simp only [List.mem_cons, List.not_mem_nil, or_false] at hv; rcases hv with rfl <;> rfl) (fun ad => Nat.le_of_ble_eq_true rfl) (fun Γ h z => ?_)
  show At Γ 0 [some (.ref (gAd Γ.1 k0)), none] [] σ _
  unfold f_X5_noteShownSets
  refine x_iconst (pc := 0) (v := 0) h dX5_noteShownSets_0 (by decide) ?_
  refine x_istore_n (pc := 1) (i := 1) (L' := [some (.ref (gAd Γ.1 k0)), some (.int 0)]) h dX5_noteShownSets_1 rfl (Nat.le_of_ble_eq_true rfl) rfl ?_
  exact At.mask [true, true] rfl rfl (f_X5_noteShownSets_W2_at fu k0 h z hk0 fu 0 σ)

set_option maxRecDepth 20000 in
set_option maxHeartbeats 4000000 in
theorem f_X5_turnsWithBoth_L14_at (fu : Nat) (σ : gSt) (k0 : Nat) (p1 : Int32) (p2 : Int32) (x3 : Int32) (ag14 : Int32 → Int32 → Option (Int32)) {Γ : gX (Int32)} (h : gOk Γ cX5_turnsWithBoth 6 RX5 (some .int) 1 20) (z : gEnd Γ (gQp σ)) (hk0 : isO k0 5) (hg14 : ∀ (y4 : Int32) (y5 : Int32), At Γ 14 [some (.ref (gAd Γ.1 k0)), none, none, some (.int x3), some (.int y4), some (.int y5)] [] σ (ag14 y4 y5)) (x4 : Int32) (x5 : Int32) : At Γ 14 [some (.ref (gAd Γ.1 k0)), none, none, some (.int x3), some (.int x4), some (.int x5)] [] σ (f_X5_turnsWithBoth_L14 fu σ k0 p1 p2 x3 ag14 x4 x5) := by
  unfold f_X5_turnsWithBoth_L14
  refine x_iload (pc := 14) h dX5_turnsWithBoth_14 rfl ?_
  refine x_aload_n (pc := 16) (i := 0) h dX5_turnsWithBoth_16 rfl rfl ?_
  refine gf_X5_25 (pc := 17) h hk0 dX5_turnsWithBoth_17 ?_
  refine x_Vp (pc := 20) (av := fun ad => []) (rest := [.int x5]) h m_X8_size i_X8_size kl_X5_158 (t_5_1 hk0) (by decide) rfl (c_X8_size fu σ (k0 + 10) (t_5_1 hk0)) rfl rfl (gCaM rfl) dX5_turnsWithBoth_20 (fun v20 => ?_)
  refine x_icmp_ge (pc := 23) (tgt := 55) h dX5_turnsWithBoth_23 (by decide) ?_ ?_
  · refine x_iload (pc := 55) h dX5_turnsWithBoth_55 rfl ?_
    exact x_iretp (pc := 57) h z rfl .int rfl rfl dX5_turnsWithBoth_57
  · refine x_iload (pc := 26) h dX5_turnsWithBoth_26 rfl ?_
    refine x_bipush (pc := 28) (v := 20) h dX5_turnsWithBoth_28 (by decide) ?_
    refine x_icmp_ge (pc := 30) (tgt := 55) h dX5_turnsWithBoth_30 (by decide) ?_ ?_
    · refine x_iload (pc := 55) h dX5_turnsWithBoth_55 rfl ?_
      exact x_iretp (pc := 57) h z rfl .int rfl rfl dX5_turnsWithBoth_57
    · refine x_aload_n (pc := 33) (i := 0) h dX5_turnsWithBoth_33 rfl rfl ?_
      refine gf_X5_9 (pc := 34) h hk0 dX5_turnsWithBoth_34 ?_
      refine x_iload (pc := 37) h dX5_turnsWithBoth_37 rfl ?_
      refine x_iald (pc := 39) h (t_5_4 hk0) dX5_turnsWithBoth_39 (fun v39 => ?_)
      refine x_iload_n (pc := 40) (i := 3) h dX5_turnsWithBoth_40 rfl rfl ?_
      refine x_iand (pc := 41) h dX5_turnsWithBoth_41 ?_
      refine x_iload_n (pc := 42) (i := 3) h dX5_turnsWithBoth_42 rfl rfl ?_
      refine x_icmp_ne (pc := 43) (tgt := 49) h dX5_turnsWithBoth_43 (by decide) ?_ ?_
      · refine x_iinc (pc := 49) (i := 5) (v := (x5 + 1)) (L' := [some (.ref (gAd Γ.1 k0)), none, none, some (.int x3), some (.int x4), some (.int (x5 + 1))]) h dX5_turnsWithBoth_49 rfl rfl rfl ?_
        refine x_goto (pc := 52) (tgt := 14) h dX5_turnsWithBoth_52 (by decide) ?_
        exact At.mask [true, false, false, true, true, true] rfl rfl (hg14 x4 (x5 + 1))
      · refine x_iinc (pc := 46) (i := 4) (v := (x4 + 1)) (L' := [some (.ref (gAd Γ.1 k0)), none, none, some (.int x3), some (.int (x4 + 1)), some (.int x5)]) h dX5_turnsWithBoth_46 rfl rfl rfl ?_
        refine x_iinc (pc := 49) (i := 5) (v := (x5 + 1)) (L' := [some (.ref (gAd Γ.1 k0)), none, none, some (.int x3), some (.int (x4 + 1)), some (.int (x5 + 1))]) h dX5_turnsWithBoth_49 rfl rfl rfl ?_
        refine x_goto (pc := 52) (tgt := 14) h dX5_turnsWithBoth_52 (by decide) ?_
        exact At.mask [true, false, false, true, true, true] rfl rfl (hg14 (x4 + 1) (x5 + 1))

theorem f_X5_turnsWithBoth_W14_at (fu : Nat) (σ : gSt) (k0 : Nat) (p1 : Int32) (p2 : Int32) (x3 : Int32) {Γ : gX (Int32)} (h : gOk Γ cX5_turnsWithBoth 6 RX5 (some .int) 1 20) (z : gEnd Γ (gQp σ)) (hk0 : isO k0 5) : ∀ (n : Nat) (x4 : Int32) (x5 : Int32), At Γ 14 [some (.ref (gAd Γ.1 k0)), none, none, some (.int x3), some (.int x4), some (.int x5)] [] σ (f_X5_turnsWithBoth_W14 fu σ k0 p1 p2 x3 n x4 x5) := by
  intro n
  induction n with
  | zero => intro x4 x5 r hr; cases hr
  | succ n ih =>
    intro x4 x5
    exact f_X5_turnsWithBoth_L14_at fu σ k0 p1 p2 x3 (f_X5_turnsWithBoth_W14 fu σ k0 p1 p2 x3 n) h z hk0 ih x4 x5

set_option maxRecDepth 20000 in
set_option maxHeartbeats 4000000 in
theorem c_X5_turnsWithBoth (fu : Nat) (σ : gSt) (k0 : Nat) (p1 : Int32) (p2 : Int32) (hk0 : isO k0 5) : gCt yX5_turnsWithBoth cX5_turnsWithBoth 6 (some .int) 1 20 (gQp σ) (fun ad => [.ref (ad k0), .int p1, .int p2]) σ (f_X5_turnsWithBoth fu σ k0 p1 p2) := by
  refine gCt_intro RX5 rfl (by decide +kernel) (fun ad v hv => by simp only [List.mem_cons, List.not_mem_nil, or_false] at hv; rcases hv with rfl | rfl | rfl <;> rfl) (fun ad => Nat.le_of_ble_eq_true rfl) (fun Γ h z => ?_)
  show At Γ 0 [some (.ref (gAd Γ.1 k0)), some (.int p1), some (.int p2), none, none, none] [] σ _
  unfold f_X5_turnsWithBoth
  refine x_iconst (pc := 0) (v := 1) h dX5_turnsWithBoth_0 (by decide) ?_
  refine x_iload_n (pc := 1) (i := 1) h dX5_turnsWithBoth_1 rfl rfl ?_
  refine x_ishl (pc := 2) h dX5_turnsWithBoth_2 ?_
  refine x_iconst (pc := 3) (v := 1) h dX5_turnsWithBoth_3 (by decide) ?_
  refine x_iload_n (pc := 4) (i := 2) h dX5_turnsWithBoth_4 rfl rfl ?_
  refine x_ishl (pc := 5) h dX5_turnsWithBoth_5 ?_
  refine x_ior (pc := 6) h dX5_turnsWithBoth_6 ?_
  refine x_lt (fun y7 => ?_)
  refine x_istore_n (pc := 7) (i := 3) (L' := [some (.ref (gAd Γ.1 k0)), some (.int p1), some (.int p2), some (.int y7), none, none]) h dX5_turnsWithBoth_7 rfl (Nat.le_of_ble_eq_true rfl) rfl ?_
  refine x_iconst (pc := 8) (v := 0) h dX5_turnsWithBoth_8 (by decide) ?_
  refine x_istore (pc := 9) (L' := [some (.ref (gAd Γ.1 k0)), some (.int p1), some (.int p2), some (.int y7), some (.int 0), none]) h dX5_turnsWithBoth_9 (Nat.le_of_ble_eq_true rfl) rfl ?_
  refine x_iconst (pc := 11) (v := 0) h dX5_turnsWithBoth_11 (by decide) ?_
  refine x_istore (pc := 12) (L' := [some (.ref (gAd Γ.1 k0)), some (.int p1), some (.int p2), some (.int y7), some (.int 0), some (.int 0)]) h dX5_turnsWithBoth_12 (Nat.le_of_ble_eq_true rfl) rfl ?_
  exact At.mask [true, false, false, true, true, true] rfl rfl (f_X5_turnsWithBoth_W14_at fu σ k0 p1 p2 y7 h z hk0 fu 0 0)

set_option maxRecDepth 20000 in
set_option maxHeartbeats 4000000 in
theorem f_X5_ofPairs_L39_at (fu : Nat) (k0 : Nat) (p1 : Int32) (ag26 : Int32 → Int32 → Int32 → Int32 → Option (Int32 × gSt)) (σ : gSt) (x5 : Int32) (ag39 : Int32 → Int32 → Int32 → Int32 → Option (Int32 × gSt)) {Γ : gX (Int32 × gSt)} (h : gOk Γ cX5_ofPairs 8 RX5 (some .int) 4 88) (z : gEnd Γ gQi) (hk0 : isO k0 5) (hg26 : ∀ (y2 : Int32) (y3 : Int32) (y4 : Int32) (y5 : Int32), At Γ 26 [some (.ref (gAd Γ.1 k0)), some (.int p1), some (.int y2), some (.int y3), some (.int y4), some (.int y5), none, none] [] σ (ag26 y2 y3 y4 y5)) (hg39 : ∀ (y2 : Int32) (y3 : Int32) (y4 : Int32) (y6 : Int32), At Γ 39 [some (.ref (gAd Γ.1 k0)), some (.int p1), some (.int y2), some (.int y3), some (.int y4), some (.int x5), some (.int y6), none] [] σ (ag39 y2 y3 y4 y6)) (x2 : Int32) (x3 : Int32) (x4 : Int32) (x6 : Int32) : At Γ 39 [some (.ref (gAd Γ.1 k0)), some (.int p1), some (.int x2), some (.int x3), some (.int x4), some (.int x5), some (.int x6), none] [] σ (f_X5_ofPairs_L39 fu k0 p1 ag26 σ x5 ag39 x2 x3 x4 x6) := by
  unfold f_X5_ofPairs_L39
  refine x_iload (pc := 39) h dX5_ofPairs_39 rfl ?_
  refine x_bipush (pc := 41) (v := 16) h dX5_ofPairs_41 (by decide) ?_
  refine x_icmp_ge (pc := 43) (tgt := 79) h dX5_ofPairs_43 (by decide) ?_ ?_
  · refine x_iinc (pc := 79) (i := 5) (v := (x5 + 1)) (L' := [some (.ref (gAd Γ.1 k0)), some (.int p1), some (.int x2), some (.int x3), some (.int x4), some (.int (x5 + 1)), some (.int x6), none]) h dX5_ofPairs_79 rfl rfl rfl ?_
    refine x_goto (pc := 82) (tgt := 26) h dX5_ofPairs_82 (by decide) ?_
    exact At.mask [true, true, true, true, true, true, false, false] rfl rfl (hg26 x2 x3 x4 (x5 + 1))
  · refine x_aload_n (pc := 46) (i := 0) h dX5_ofPairs_46 rfl rfl ?_
    refine x_iload (pc := 47) h dX5_ofPairs_47 rfl ?_
    refine x_iload (pc := 49) h dX5_ofPairs_49 rfl ?_
    refine x_Vp (pc := 51) (av := fun ad => [.int x5, .int x6]) (rest := []) h m_X5_turnsWithBoth i_X5_turnsWithBoth kl_X5_152 hk0 (by decide) rfl (c_X5_turnsWithBoth fu σ k0 x5 x6 hk0) rfl rfl (gCaM rfl) dX5_ofPairs_51 (fun v51 => ?_)
    refine x_istore (pc := 54) (L' := [some (.ref (gAd Γ.1 k0)), some (.int p1), some (.int x2), some (.int x3), some (.int x4), some (.int x5), some (.int x6), some (.int v51)]) h dX5_ofPairs_54 (Nat.le_of_ble_eq_true rfl) rfl ?_
    refine x_iload (pc := 56) h dX5_ofPairs_56 rfl ?_
    refine x_iload (pc := 58) h dX5_ofPairs_58 rfl ?_
    refine x_icmp_le (pc := 60) (tgt := 73) h dX5_ofPairs_60 (by decide) ?_ ?_
    · refine x_iinc (pc := 73) (i := 6) (v := (x6 + 1)) (L' := [some (.ref (gAd Γ.1 k0)), some (.int p1), some (.int x2), some (.int x3), some (.int x4), some (.int x5), some (.int (x6 + 1)), some (.int v51)]) h dX5_ofPairs_73 rfl rfl rfl ?_
      refine x_goto (pc := 76) (tgt := 39) h dX5_ofPairs_76 (by decide) ?_
      exact At.mask [true, true, true, true, true, true, true, false] rfl rfl (hg39 x2 x3 x4 (x6 + 1))
    · refine x_iload (pc := 63) h dX5_ofPairs_63 rfl ?_
      refine x_istore_n (pc := 65) (i := 2) (L' := [some (.ref (gAd Γ.1 k0)), some (.int p1), some (.int x5), some (.int x3), some (.int x4), some (.int x5), some (.int x6), some (.int v51)]) h dX5_ofPairs_65 rfl (Nat.le_of_ble_eq_true rfl) rfl ?_
      refine x_iload (pc := 66) h dX5_ofPairs_66 rfl ?_
      refine x_istore_n (pc := 68) (i := 3) (L' := [some (.ref (gAd Γ.1 k0)), some (.int p1), some (.int x5), some (.int x6), some (.int x4), some (.int x5), some (.int x6), some (.int v51)]) h dX5_ofPairs_68 rfl (Nat.le_of_ble_eq_true rfl) rfl ?_
      refine x_iload (pc := 69) h dX5_ofPairs_69 rfl ?_
      refine x_istore (pc := 71) (L' := [some (.ref (gAd Γ.1 k0)), some (.int p1), some (.int x5), some (.int x6), some (.int v51), some (.int x5), some (.int x6), some (.int v51)]) h dX5_ofPairs_71 (Nat.le_of_ble_eq_true rfl) rfl ?_
      refine x_iinc (pc := 73) (i := 6) (v := (x6 + 1)) (L' := [some (.ref (gAd Γ.1 k0)), some (.int p1), some (.int x5), some (.int x6), some (.int v51), some (.int x5), some (.int (x6 + 1)), some (.int v51)]) h dX5_ofPairs_73 rfl rfl rfl ?_
      refine x_goto (pc := 76) (tgt := 39) h dX5_ofPairs_76 (by decide) ?_
      exact At.mask [true, true, true, true, true, true, true, false] rfl rfl (hg39 x5 x6 v51 (x6 + 1))

theorem f_X5_ofPairs_W39_at (fu : Nat) (k0 : Nat) (p1 : Int32) (ag26 : Int32 → Int32 → Int32 → Int32 → Option (Int32 × gSt)) (σ : gSt) (x5 : Int32) {Γ : gX (Int32 × gSt)} (h : gOk Γ cX5_ofPairs 8 RX5 (some .int) 4 88) (z : gEnd Γ gQi) (hk0 : isO k0 5) (hg26 : ∀ (y2 : Int32) (y3 : Int32) (y4 : Int32) (y5 : Int32), At Γ 26 [some (.ref (gAd Γ.1 k0)), some (.int p1), some (.int y2), some (.int y3), some (.int y4), some (.int y5), none, none] [] σ (ag26 y2 y3 y4 y5)) : ∀ (n : Nat) (x2 : Int32) (x3 : Int32) (x4 : Int32) (x6 : Int32), At Γ 39 [some (.ref (gAd Γ.1 k0)), some (.int p1), some (.int x2), some (.int x3), some (.int x4), some (.int x5), some (.int x6), none] [] σ (f_X5_ofPairs_W39 fu k0 p1 ag26 σ x5 n x2 x3 x4 x6) := by
  intro n
  induction n with
  | zero => intro x2 x3 x4 x6 r hr; cases hr
  | succ n ih =>
    intro x2 x3 x4 x6
    exact f_X5_ofPairs_L39_at fu k0 p1 ag26 σ x5 (f_X5_ofPairs_W39 fu k0 p1 ag26 σ x5 n) h z hk0 hg26 ih x2 x3 x4 x6

set_option maxRecDepth 20000 in
set_option maxHeartbeats 4000000 in
theorem f_X5_ofPairs_L26_at (fu : Nat) (k0 : Nat) (p1 : Int32) (σ : gSt) (ag26 : Int32 → Int32 → Int32 → Int32 → Option (Int32 × gSt)) {Γ : gX (Int32 × gSt)} (h : gOk Γ cX5_ofPairs 8 RX5 (some .int) 4 88) (z : gEnd Γ gQi) (hk0 : isO k0 5) (hg26 : ∀ (y2 : Int32) (y3 : Int32) (y4 : Int32) (y5 : Int32), At Γ 26 [some (.ref (gAd Γ.1 k0)), some (.int p1), some (.int y2), some (.int y3), some (.int y4), some (.int y5), none, none] [] σ (ag26 y2 y3 y4 y5)) (x2 : Int32) (x3 : Int32) (x4 : Int32) (x5 : Int32) : At Γ 26 [some (.ref (gAd Γ.1 k0)), some (.int p1), some (.int x2), some (.int x3), some (.int x4), some (.int x5), none, none] [] σ (f_X5_ofPairs_L26 fu k0 p1 σ ag26 x2 x3 x4 x5) := by
  unfold f_X5_ofPairs_L26
  refine x_iload (pc := 26) h dX5_ofPairs_26 rfl ?_
  refine x_bipush (pc := 28) (v := 16) h dX5_ofPairs_28 (by decide) ?_
  refine x_icmp_ge (pc := 30) (tgt := 85) h dX5_ofPairs_30 (by decide) ?_ ?_
  · refine x_iload (pc := 85) h dX5_ofPairs_85 rfl ?_
    refine x_if_ne (pc := 87) (tgt := 93) h dX5_ofPairs_87 (by decide) ?_ ?_
    · refine x_iload_n (pc := 93) (i := 1) h dX5_ofPairs_93 rfl rfl ?_
      refine x_lsw (pc := 94) (off := 26) (tgt := 120) h 0 dX5_ofPairs_94 (by decide) (by decide) (by decide) ?_ (fun c94_0 => ?_)
      · refine x_iload_n (pc := 120) (i := 2) h dX5_ofPairs_120 rfl rfl ?_
        exact x_ireti (pc := 121) h z .int rfl rfl dX5_ofPairs_121
      refine x_lsw (pc := 94) (off := 28) (tgt := 122) h 1 dX5_ofPairs_94 (by decide) (by decide) (by decide) ?_ (fun c94_1 => ?_)
      · refine x_iload_n (pc := 122) (i := 3) h dX5_ofPairs_122 rfl rfl ?_
        exact x_ireti (pc := 123) h z .int rfl rfl dX5_ofPairs_123
      refine x_lswd (pc := 94) (tgt := 124) h dX5_ofPairs_94 (by decide) (gLso [(0, 26), (1, 28)] _ _ (by simp [gNe (0) c94_0 rfl, gNe (1) c94_1 rfl])) (by decide) ?_
      refine x_iload (pc := 124) h dX5_ofPairs_124 rfl ?_
      exact x_ireti (pc := 126) h z .int rfl rfl dX5_ofPairs_126
    · refine x_ldc (pc := 90) h kc_X5_75 dX5_ofPairs_90 ?_
      exact x_ireti (pc := 92) h z .int rfl rfl dX5_ofPairs_92
  · refine x_iload (pc := 33) h dX5_ofPairs_33 rfl ?_
    refine x_iconst (pc := 35) (v := 1) h dX5_ofPairs_35 (by decide) ?_
    refine x_iadd (pc := 36) h dX5_ofPairs_36 ?_
    refine x_istore (pc := 37) (L' := [some (.ref (gAd Γ.1 k0)), some (.int p1), some (.int x2), some (.int x3), some (.int x4), some (.int x5), some (.int (x5 + 1)), none]) h dX5_ofPairs_37 (Nat.le_of_ble_eq_true rfl) rfl ?_
    exact At.mask [true, true, true, true, true, true, true, false] rfl rfl (f_X5_ofPairs_W39_at fu k0 p1 ag26 σ x5 h z hk0 hg26 fu x2 x3 x4 (x5 + 1))

theorem f_X5_ofPairs_W26_at (fu : Nat) (k0 : Nat) (p1 : Int32) (σ : gSt) {Γ : gX (Int32 × gSt)} (h : gOk Γ cX5_ofPairs 8 RX5 (some .int) 4 88) (z : gEnd Γ gQi) (hk0 : isO k0 5) : ∀ (n : Nat) (x2 : Int32) (x3 : Int32) (x4 : Int32) (x5 : Int32), At Γ 26 [some (.ref (gAd Γ.1 k0)), some (.int p1), some (.int x2), some (.int x3), some (.int x4), some (.int x5), none, none] [] σ (f_X5_ofPairs_W26 fu k0 p1 σ n x2 x3 x4 x5) := by
  intro n
  induction n with
  | zero => intro x2 x3 x4 x5 r hr; cases hr
  | succ n ih =>
    intro x2 x3 x4 x5
    exact f_X5_ofPairs_L26_at fu k0 p1 σ (f_X5_ofPairs_W26 fu k0 p1 σ n) h z hk0 ih x2 x3 x4 x5

set_option maxRecDepth 20000 in
set_option maxHeartbeats 4000000 in
theorem c_X5_ofPairs (fu : Nat) (σ : gSt) (k0 : Nat) (p1 : Int32) (hk0 : isO k0 5) : gCt yX5_ofPairs cX5_ofPairs 8 (some .int) 4 88 gQi (fun ad => [.ref (ad k0), .int p1]) σ (f_X5_ofPairs fu σ k0 p1) := by
  refine gCt_intro RX5 rfl (by decide +kernel) (fun ad v hv => by simp only [List.mem_cons, List.not_mem_nil, or_false] at hv; rcases hv with rfl | rfl <;> rfl) (fun ad => Nat.le_of_ble_eq_true rfl) (fun Γ h z => ?_)
  show At Γ 0 [some (.ref (gAd Γ.1 k0)), some (.int p1), none, none, none, none, none, none] [] σ _
  unfold f_X5_ofPairs
  refine x_iload_n (pc := 0) (i := 1) h dX5_ofPairs_0 rfl rfl ?_
  refine x_iconst (pc := 1) (v := 0) h dX5_ofPairs_1 (by decide) ?_
  refine x_iconst (pc := 2) (v := 2) h dX5_ofPairs_2 (by decide) ?_
  refine x_Np (pc := 3) (av := fun ad => [.int p1, .int 0, .int 2]) (rest := []) h m_X9_isWithin s_X9_isWithin kl_X5_71 (c_X9_isWithin fu σ p1 0 2) rfl rfl (gCaM rfl) dX5_ofPairs_3 (fun v3 => ?_)
  refine x_if_ne (pc := 6) (tgt := 12) h dX5_ofPairs_6 (by decide) ?_ ?_
  · refine x_aload_n (pc := 12) (i := 0) h dX5_ofPairs_12 rfl rfl ?_
    refine x_Vv (pc := 13) (av := fun ad => []) (rest := []) h m_X5_noteShownSets i_X5_noteShownSets kl_X5_149 hk0 (by decide) rfl (c_X5_noteShownSets fu σ k0 hk0) rfl rfl (gCaM rfl) dX5_ofPairs_13 (fun σ13 => ?_)
    refine x_iconst (pc := 16) (v := 0) h dX5_ofPairs_16 (by decide) ?_
    refine x_istore_n (pc := 17) (i := 2) (L' := [some (.ref (gAd Γ.1 k0)), some (.int p1), some (.int 0), none, none, none, none, none]) h dX5_ofPairs_17 rfl (Nat.le_of_ble_eq_true rfl) rfl ?_
    refine x_iconst (pc := 18) (v := 0) h dX5_ofPairs_18 (by decide) ?_
    refine x_istore_n (pc := 19) (i := 3) (L' := [some (.ref (gAd Γ.1 k0)), some (.int p1), some (.int 0), some (.int 0), none, none, none, none]) h dX5_ofPairs_19 rfl (Nat.le_of_ble_eq_true rfl) rfl ?_
    refine x_iconst (pc := 20) (v := 0) h dX5_ofPairs_20 (by decide) ?_
    refine x_istore (pc := 21) (L' := [some (.ref (gAd Γ.1 k0)), some (.int p1), some (.int 0), some (.int 0), some (.int 0), none, none, none]) h dX5_ofPairs_21 (Nat.le_of_ble_eq_true rfl) rfl ?_
    refine x_iconst (pc := 23) (v := 0) h dX5_ofPairs_23 (by decide) ?_
    refine x_istore (pc := 24) (L' := [some (.ref (gAd Γ.1 k0)), some (.int p1), some (.int 0), some (.int 0), some (.int 0), some (.int 0), none, none]) h dX5_ofPairs_24 (Nat.le_of_ble_eq_true rfl) rfl ?_
    exact At.mask [true, true, true, true, true, true, false, false] rfl rfl (f_X5_ofPairs_W26_at fu k0 p1 σ13 h z hk0 fu 0 0 0 0)
  · refine x_ldc (pc := 9) h kc_X5_42 dX5_ofPairs_9 ?_
    exact x_ireti (pc := 11) h z .int rfl rfl dX5_ofPairs_11

set_option maxRecDepth 20000 in
set_option maxHeartbeats 4000000 in
theorem c_X9_together (fu : Nat) (σ : gSt) (k0 : Nat) (p1 : Int32) (hk0 : isO k0 9) : gCt yX9_together cX9_together 2 (some .int) 5 115 gQi (fun ad => [.ref (ad k0), .int p1]) σ (f_X9_together fu σ k0 p1) := by
  refine gCt_intro RX9 rfl (by decide +kernel) (fun ad v hv => by simp only [List.mem_cons, List.not_mem_nil, or_false] at hv; rcases hv with rfl | rfl <;> rfl) (fun ad => Nat.le_of_ble_eq_true rfl) (fun Γ h z => ?_)
  show At Γ 0 [some (.ref (gAd Γ.1 k0)), some (.int p1)] [] σ _
  unfold f_X9_together
  refine x_aload_n (pc := 0) (i := 0) h dX9_together_0 rfl rfl ?_
  refine gf_X9_31 (pc := 1) h hk0 dX9_together_1 ?_
  refine x_iload_n (pc := 4) (i := 1) h dX9_together_4 rfl rfl ?_
  refine x_Vi (pc := 5) (av := fun ad => [.int p1]) (rest := []) h m_X5_ofPairs i_X5_ofPairs kl_X9_114 (t_9_3 hk0) (by decide) rfl (c_X5_ofPairs fu σ (k0 + 1) p1 (t_9_3 hk0)) rfl rfl (gCaM rfl) dX9_together_5 (fun v5 σ5 => ?_)
  exact x_ireti (pc := 8) h z .int rfl rfl dX9_together_8

set_option maxRecDepth 20000 in
set_option maxHeartbeats 4000000 in
theorem f_X10_both_L5_at (fu : Nat) (σ : gSt) (k0 : Nat) (p1 : Int32) (p2 : Int32) (ag5 : Int32 → Int32 → Option (Int32)) {Γ : gX (Int32)} (h : gOk Γ cX10_both 5 RX10 (some .int) 2 46) (z : gEnd Γ (gQp σ)) (hk0 : isO k0 10) (hg5 : ∀ (y3 : Int32) (y4 : Int32), At Γ 5 [some (.ref (gAd Γ.1 k0)), some (.int p1), some (.int p2), some (.int y3), some (.int y4)] [] σ (ag5 y3 y4)) (x3 : Int32) (x4 : Int32) : At Γ 5 [some (.ref (gAd Γ.1 k0)), some (.int p1), some (.int p2), some (.int x3), some (.int x4)] [] σ (f_X10_both_L5 fu σ k0 p1 p2 ag5 x3 x4) := by
  unfold f_X10_both_L5
  refine x_iload (pc := 5) h dX10_both_5 rfl ?_
  refine x_aload_n (pc := 7) (i := 0) h dX10_both_7 rfl rfl ?_
  refine gf_X10_7 (pc := 8) h hk0 dX10_both_8 ?_
  refine x_sipush (pc := 11) (v := 282) h dX10_both_11 (by decide) ?_
  refine x_ialdS (pc := 14) h 282 (t_10_0 hk0) (by decide) (by decide) (by decide) dX10_both_14 ?_
  refine x_icmp_ge (pc := 15) (tgt := 52) h dX10_both_15 (by decide) ?_ ?_
  · refine x_iload_n (pc := 52) (i := 3) h dX10_both_52 rfl rfl ?_
    exact x_iretp (pc := 53) h z rfl .int rfl rfl dX10_both_53
  · refine x_iload_n (pc := 18) (i := 3) h dX10_both_18 rfl rfl ?_
    refine x_aload_n (pc := 19) (i := 0) h dX10_both_19 rfl rfl ?_
    refine x_iload (pc := 20) h dX10_both_20 rfl ?_
    refine x_iload_n (pc := 22) (i := 1) h dX10_both_22 rfl rfl ?_
    refine x_Vp (pc := 23) (av := fun ad => [.int x4, .int p1]) (rest := [.int x3]) h m_X10_shows i_X10_shows kl_X10_118 hk0 (by decide) rfl (c_X10_shows fu σ k0 x4 p1 hk0) rfl rfl (gCaM rfl) dX10_both_23 (fun v23 => ?_)
    refine x_if_le (pc := 26) (tgt := 43) h dX10_both_26 (by decide) ?_ ?_
    · refine x_iconst (pc := 43) (v := 0) h dX10_both_43 (by decide) ?_
      refine x_iadd (pc := 44) h dX10_both_44 ?_
      refine x_istore_n (pc := 45) (i := 3) (L' := [some (.ref (gAd Γ.1 k0)), some (.int p1), some (.int p2), some (.int (x3 + 0)), some (.int x4)]) h dX10_both_45 rfl (Nat.le_of_ble_eq_true rfl) rfl ?_
      refine x_iinc (pc := 46) (i := 4) (v := (x4 + 1)) (L' := [some (.ref (gAd Γ.1 k0)), some (.int p1), some (.int p2), some (.int (x3 + 0)), some (.int (x4 + 1))]) h dX10_both_46 rfl rfl rfl ?_
      refine x_goto (pc := 49) (tgt := 5) h dX10_both_49 (by decide) ?_
      exact At.mask [true, true, true, true, true] rfl rfl (hg5 (x3 + 0) (x4 + 1))
    · refine x_aload_n (pc := 29) (i := 0) h dX10_both_29 rfl rfl ?_
      refine x_iload (pc := 30) h dX10_both_30 rfl ?_
      refine x_iload_n (pc := 32) (i := 2) h dX10_both_32 rfl rfl ?_
      refine x_Vp (pc := 33) (av := fun ad => [.int x4, .int p2]) (rest := [.int x3]) h m_X10_shows i_X10_shows kl_X10_118 hk0 (by decide) rfl (c_X10_shows fu σ k0 x4 p2 hk0) rfl rfl (gCaM rfl) dX10_both_33 (fun v33 => ?_)
      refine x_nm (e := (if v33 ≤ 0 then 0 else 1)) (pcJ := 44) (LJ := [some (.ref (gAd Γ.1 k0)), some (.int p1), some (.int p2), some (.int x3), some (.int x4)]) (sJ := [.int x3]) (fun w36 => ?_) (fun kj36 => ?_)
      · refine x_iadd (pc := 44) h dX10_both_44 ?_
        refine x_istore_n (pc := 45) (i := 3) (L' := [some (.ref (gAd Γ.1 k0)), some (.int p1), some (.int p2), some (.int (x3 + w36)), some (.int x4)]) h dX10_both_45 rfl (Nat.le_of_ble_eq_true rfl) rfl ?_
        refine x_iinc (pc := 46) (i := 4) (v := (x4 + 1)) (L' := [some (.ref (gAd Γ.1 k0)), some (.int p1), some (.int p2), some (.int (x3 + w36)), some (.int (x4 + 1))]) h dX10_both_46 rfl rfl rfl ?_
        refine x_goto (pc := 49) (tgt := 5) h dX10_both_49 (by decide) ?_
        exact At.mask [true, true, true, true, true] rfl rfl (hg5 (x3 + w36) (x4 + 1))
      · refine j_if_le (pc := 36) (tgt := 43) h dX10_both_36 (by decide) (fun hc36_0 => ?_) (fun hc36_0 => ?_)
        · refine x_iconst (pc := 43) (v := 0) h dX10_both_43 (by decide) ?_
          exact kj36 0 (by rw [if_pos hc36_0])
        · refine x_iconst (pc := 39) (v := 1) h dX10_both_39 (by decide) ?_
          refine x_goto (pc := 40) (tgt := 44) h dX10_both_40 (by decide) ?_
          exact kj36 1 (by rw [if_neg hc36_0])

theorem f_X10_both_W5_at (fu : Nat) (σ : gSt) (k0 : Nat) (p1 : Int32) (p2 : Int32) {Γ : gX (Int32)} (h : gOk Γ cX10_both 5 RX10 (some .int) 2 46) (z : gEnd Γ (gQp σ)) (hk0 : isO k0 10) : ∀ (n : Nat) (x3 : Int32) (x4 : Int32), At Γ 5 [some (.ref (gAd Γ.1 k0)), some (.int p1), some (.int p2), some (.int x3), some (.int x4)] [] σ (f_X10_both_W5 fu σ k0 p1 p2 n x3 x4) := by
  intro n
  induction n with
  | zero => intro x3 x4 r hr; cases hr
  | succ n ih =>
    intro x3 x4
    exact f_X10_both_L5_at fu σ k0 p1 p2 (f_X10_both_W5 fu σ k0 p1 p2 n) h z hk0 ih x3 x4

set_option maxRecDepth 20000 in
set_option maxHeartbeats 4000000 in
theorem c_X10_both (fu : Nat) (σ : gSt) (k0 : Nat) (p1 : Int32) (p2 : Int32) (hk0 : isO k0 10) : gCt yX10_both cX10_both 5 (some .int) 2 46 (gQp σ) (fun ad => [.ref (ad k0), .int p1, .int p2]) σ (f_X10_both fu σ k0 p1 p2) := by
  refine gCt_intro RX10 rfl (by decide +kernel) (fun ad v hv => by simp only [List.mem_cons, List.not_mem_nil, or_false] at hv; rcases hv with rfl | rfl | rfl <;> rfl) (fun ad => Nat.le_of_ble_eq_true rfl) (fun Γ h z => ?_)
  show At Γ 0 [some (.ref (gAd Γ.1 k0)), some (.int p1), some (.int p2), none, none] [] σ _
  unfold f_X10_both
  refine x_iconst (pc := 0) (v := 0) h dX10_both_0 (by decide) ?_
  refine x_istore_n (pc := 1) (i := 3) (L' := [some (.ref (gAd Γ.1 k0)), some (.int p1), some (.int p2), some (.int 0), none]) h dX10_both_1 rfl (Nat.le_of_ble_eq_true rfl) rfl ?_
  refine x_iconst (pc := 2) (v := 0) h dX10_both_2 (by decide) ?_
  refine x_istore (pc := 3) (L' := [some (.ref (gAd Γ.1 k0)), some (.int p1), some (.int p2), some (.int 0), some (.int 0)]) h dX10_both_3 (Nat.le_of_ble_eq_true rfl) rfl ?_
  exact At.mask [true, true, true, true, true] rfl rfl (f_X10_both_W5_at fu σ k0 p1 p2 h z hk0 fu 0 0)

set_option maxRecDepth 20000 in
set_option maxHeartbeats 4000000 in
theorem f_X10_together_J79_at (fu : Nat) (σ : gSt) (k0 : Nat) (p1 : Int32) (ag22 : Int32 → Int32 → Int32 → Int32 → Option (Int32)) (ag35 : Int32 → Int32 → Int32 → Int32 → Option (Int32)) {Γ : gX (Int32)} (h : gOk Γ cX10_together 8 RX10 (some .int) 3 70) (z : gEnd Γ (gQp σ)) (hk0 : isO k0 10) (x2 : Int32) (x4 : Int32) (x5 : Int32) (x6 : Int32) (x7 : Int32) (s1 : Int32) (hg22 : ∀ (y2 : Int32) (y3 : Int32) (y4 : Int32) (y5 : Int32), At Γ 22 [some (.ref (gAd Γ.1 k0)), some (.int p1), some (.int y2), some (.int y3), some (.int y4), some (.int y5), none, none] [] σ (ag22 y2 y3 y4 y5)) (hg35 : ∀ (y2 : Int32) (y3 : Int32) (y4 : Int32) (y6 : Int32), At Γ 35 [some (.ref (gAd Γ.1 k0)), some (.int p1), some (.int y2), some (.int y3), some (.int y4), some (.int x5), some (.int y6), none] [] σ (ag35 y2 y3 y4 y6)) : At Γ 79 [some (.ref (gAd Γ.1 k0)), some (.int p1), some (.int x2), none, some (.int x4), some (.int x5), some (.int x6), some (.int x7)] [.int s1] σ (f_X10_together_J79 fu σ k0 p1 ag22 ag35 x2 x4 x5 x6 x7 s1) := by
  unfold f_X10_together_J79
  refine x_istore_n (pc := 79) (i := 3) (L' := [some (.ref (gAd Γ.1 k0)), some (.int p1), some (.int x2), some (.int s1), some (.int x4), some (.int x5), some (.int x6), some (.int x7)]) h dX10_together_79 rfl (Nat.le_of_ble_eq_true rfl) rfl ?_
  refine x_iload (pc := 80) h dX10_together_80 rfl ?_
  refine x_iload (pc := 82) h dX10_together_82 rfl ?_
  refine x_nm (e := (if x7 ≤ x4 then x4 else x7)) (pcJ := 94) (LJ := [some (.ref (gAd Γ.1 k0)), some (.int p1), some (.int x2), some (.int s1), some (.int x4), some (.int x5), some (.int x6), some (.int x7)]) (sJ := []) (fun w84 => ?_) (fun kj84 => ?_)
  · refine x_istore (pc := 94) (L' := [some (.ref (gAd Γ.1 k0)), some (.int p1), some (.int x2), some (.int s1), some (.int w84), some (.int x5), some (.int x6), some (.int x7)]) h dX10_together_94 (Nat.le_of_ble_eq_true rfl) rfl ?_
    refine x_iinc (pc := 96) (i := 6) (v := (x6 + 1)) (L' := [some (.ref (gAd Γ.1 k0)), some (.int p1), some (.int x2), some (.int s1), some (.int w84), some (.int x5), some (.int (x6 + 1)), some (.int x7)]) h dX10_together_96 rfl rfl rfl ?_
    refine x_goto (pc := 99) (tgt := 35) h dX10_together_99 (by decide) ?_
    exact At.mask [true, true, true, true, true, true, true, false] rfl rfl (hg35 x2 s1 w84 (x6 + 1))
  · refine j_icmp_le (pc := 84) (tgt := 92) h dX10_together_84 (by decide) (fun hc84_0 => ?_) (fun hc84_0 => ?_)
    · refine x_iload (pc := 92) h dX10_together_92 rfl ?_
      exact kj84 x4 (by rw [if_pos hc84_0])
    · refine x_iload (pc := 87) h dX10_together_87 rfl ?_
      refine x_goto (pc := 89) (tgt := 94) h dX10_together_89 (by decide) ?_
      exact kj84 x7 (by rw [if_neg hc84_0])

set_option maxRecDepth 20000 in
set_option maxHeartbeats 4000000 in
theorem f_X10_together_J65_at (fu : Nat) (σ : gSt) (k0 : Nat) (p1 : Int32) (ag22 : Int32 → Int32 → Int32 → Int32 → Option (Int32)) (ag35 : Int32 → Int32 → Int32 → Int32 → Option (Int32)) {Γ : gX (Int32)} (h : gOk Γ cX10_together 8 RX10 (some .int) 3 70) (z : gEnd Γ (gQp σ)) (hk0 : isO k0 10) (x3 : Int32) (x4 : Int32) (x5 : Int32) (x6 : Int32) (x7 : Int32) (s1 : Int32) (hg22 : ∀ (y2 : Int32) (y3 : Int32) (y4 : Int32) (y5 : Int32), At Γ 22 [some (.ref (gAd Γ.1 k0)), some (.int p1), some (.int y2), some (.int y3), some (.int y4), some (.int y5), none, none] [] σ (ag22 y2 y3 y4 y5)) (hg35 : ∀ (y2 : Int32) (y3 : Int32) (y4 : Int32) (y6 : Int32), At Γ 35 [some (.ref (gAd Γ.1 k0)), some (.int p1), some (.int y2), some (.int y3), some (.int y4), some (.int x5), some (.int y6), none] [] σ (ag35 y2 y3 y4 y6)) : At Γ 65 [some (.ref (gAd Γ.1 k0)), some (.int p1), none, some (.int x3), some (.int x4), some (.int x5), some (.int x6), some (.int x7)] [.int s1] σ (f_X10_together_J65 fu σ k0 p1 ag22 ag35 x3 x4 x5 x6 x7 s1) := by
  unfold f_X10_together_J65
  refine x_istore_n (pc := 65) (i := 2) (L' := [some (.ref (gAd Γ.1 k0)), some (.int p1), some (.int s1), some (.int x3), some (.int x4), some (.int x5), some (.int x6), some (.int x7)]) h dX10_together_65 rfl (Nat.le_of_ble_eq_true rfl) rfl ?_
  refine x_iload (pc := 66) h dX10_together_66 rfl ?_
  refine x_iload (pc := 68) h dX10_together_68 rfl ?_
  refine x_nm (e := (if x7 ≤ x4 then x3 else x6)) (pcJ := 79) (LJ := [some (.ref (gAd Γ.1 k0)), some (.int p1), some (.int s1), some (.int x3), some (.int x4), some (.int x5), some (.int x6), some (.int x7)]) (sJ := []) (fun w70 => ?_) (fun kj70 => ?_)
  · exact At.mask [true, true, true, false, true, true, true, true] rfl rfl (f_X10_together_J79_at fu σ k0 p1 ag22 ag35 h z hk0 s1 x4 x5 x6 x7 w70 hg22 hg35)
  · refine j_icmp_le (pc := 70) (tgt := 78) h dX10_together_70 (by decide) (fun hc70_0 => ?_) (fun hc70_0 => ?_)
    · refine x_iload_n (pc := 78) (i := 3) h dX10_together_78 rfl rfl ?_
      exact kj70 x3 (by rw [if_pos hc70_0])
    · refine x_iload (pc := 73) h dX10_together_73 rfl ?_
      refine x_goto (pc := 75) (tgt := 79) h dX10_together_75 (by decide) ?_
      exact kj70 x6 (by rw [if_neg hc70_0])

set_option maxRecDepth 20000 in
set_option maxHeartbeats 4000000 in
theorem f_X10_together_L35_at (fu : Nat) (σ : gSt) (k0 : Nat) (p1 : Int32) (ag22 : Int32 → Int32 → Int32 → Int32 → Option (Int32)) (x5 : Int32) (ag35 : Int32 → Int32 → Int32 → Int32 → Option (Int32)) {Γ : gX (Int32)} (h : gOk Γ cX10_together 8 RX10 (some .int) 3 70) (z : gEnd Γ (gQp σ)) (hk0 : isO k0 10) (hg22 : ∀ (y2 : Int32) (y3 : Int32) (y4 : Int32) (y5 : Int32), At Γ 22 [some (.ref (gAd Γ.1 k0)), some (.int p1), some (.int y2), some (.int y3), some (.int y4), some (.int y5), none, none] [] σ (ag22 y2 y3 y4 y5)) (hg35 : ∀ (y2 : Int32) (y3 : Int32) (y4 : Int32) (y6 : Int32), At Γ 35 [some (.ref (gAd Γ.1 k0)), some (.int p1), some (.int y2), some (.int y3), some (.int y4), some (.int x5), some (.int y6), none] [] σ (ag35 y2 y3 y4 y6)) (x2 : Int32) (x3 : Int32) (x4 : Int32) (x6 : Int32) : At Γ 35 [some (.ref (gAd Γ.1 k0)), some (.int p1), some (.int x2), some (.int x3), some (.int x4), some (.int x5), some (.int x6), none] [] σ (f_X10_together_L35 fu σ k0 p1 ag22 x5 ag35 x2 x3 x4 x6) := by
  unfold f_X10_together_L35
  refine x_iload (pc := 35) h dX10_together_35 rfl ?_
  refine x_bipush (pc := 37) (v := 16) h dX10_together_37 (by decide) ?_
  refine x_icmp_ge (pc := 39) (tgt := 102) h dX10_together_39 (by decide) ?_ ?_
  · refine x_iinc (pc := 102) (i := 5) (v := (x5 + 1)) (L' := [some (.ref (gAd Γ.1 k0)), some (.int p1), some (.int x2), some (.int x3), some (.int x4), some (.int (x5 + 1)), some (.int x6), none]) h dX10_together_102 rfl rfl rfl ?_
    refine x_goto (pc := 105) (tgt := 22) h dX10_together_105 (by decide) ?_
    exact At.mask [true, true, true, true, true, true, false, false] rfl rfl (hg22 x2 x3 x4 (x5 + 1))
  · refine x_aload_n (pc := 42) (i := 0) h dX10_together_42 rfl rfl ?_
    refine x_iload (pc := 43) h dX10_together_43 rfl ?_
    refine x_iload (pc := 45) h dX10_together_45 rfl ?_
    refine x_Vp (pc := 47) (av := fun ad => [.int x5, .int x6]) (rest := []) h m_X10_both i_X10_both kl_X10_152 hk0 (by decide) rfl (c_X10_both fu σ k0 x5 x6 hk0) rfl rfl (gCaM rfl) dX10_together_47 (fun v47 => ?_)
    refine x_istore (pc := 50) (L' := [some (.ref (gAd Γ.1 k0)), some (.int p1), some (.int x2), some (.int x3), some (.int x4), some (.int x5), some (.int x6), some (.int v47)]) h dX10_together_50 (Nat.le_of_ble_eq_true rfl) rfl ?_
    refine x_iload (pc := 52) h dX10_together_52 rfl ?_
    refine x_iload (pc := 54) h dX10_together_54 rfl ?_
    refine x_nm (e := (if v47 ≤ x4 then x2 else x5)) (pcJ := 65) (LJ := [some (.ref (gAd Γ.1 k0)), some (.int p1), some (.int x2), some (.int x3), some (.int x4), some (.int x5), some (.int x6), some (.int v47)]) (sJ := []) (fun w56 => ?_) (fun kj56 => ?_)
    · exact At.mask [true, true, false, true, true, true, true, true] rfl rfl (f_X10_together_J65_at fu σ k0 p1 ag22 ag35 h z hk0 x3 x4 x5 x6 v47 w56 hg22 hg35)
    · refine j_icmp_le (pc := 56) (tgt := 64) h dX10_together_56 (by decide) (fun hc56_0 => ?_) (fun hc56_0 => ?_)
      · refine x_iload_n (pc := 64) (i := 2) h dX10_together_64 rfl rfl ?_
        exact kj56 x2 (by rw [if_pos hc56_0])
      · refine x_iload (pc := 59) h dX10_together_59 rfl ?_
        refine x_goto (pc := 61) (tgt := 65) h dX10_together_61 (by decide) ?_
        exact kj56 x5 (by rw [if_neg hc56_0])

theorem f_X10_together_W35_at (fu : Nat) (σ : gSt) (k0 : Nat) (p1 : Int32) (ag22 : Int32 → Int32 → Int32 → Int32 → Option (Int32)) (x5 : Int32) {Γ : gX (Int32)} (h : gOk Γ cX10_together 8 RX10 (some .int) 3 70) (z : gEnd Γ (gQp σ)) (hk0 : isO k0 10) (hg22 : ∀ (y2 : Int32) (y3 : Int32) (y4 : Int32) (y5 : Int32), At Γ 22 [some (.ref (gAd Γ.1 k0)), some (.int p1), some (.int y2), some (.int y3), some (.int y4), some (.int y5), none, none] [] σ (ag22 y2 y3 y4 y5)) : ∀ (n : Nat) (x2 : Int32) (x3 : Int32) (x4 : Int32) (x6 : Int32), At Γ 35 [some (.ref (gAd Γ.1 k0)), some (.int p1), some (.int x2), some (.int x3), some (.int x4), some (.int x5), some (.int x6), none] [] σ (f_X10_together_W35 fu σ k0 p1 ag22 x5 n x2 x3 x4 x6) := by
  intro n
  induction n with
  | zero => intro x2 x3 x4 x6 r hr; cases hr
  | succ n ih =>
    intro x2 x3 x4 x6
    exact f_X10_together_L35_at fu σ k0 p1 ag22 x5 (f_X10_together_W35 fu σ k0 p1 ag22 x5 n) h z hk0 hg22 ih x2 x3 x4 x6

set_option maxRecDepth 20000 in
set_option maxHeartbeats 4000000 in
theorem f_X10_together_L22_at (fu : Nat) (σ : gSt) (k0 : Nat) (p1 : Int32) (ag22 : Int32 → Int32 → Int32 → Int32 → Option (Int32)) {Γ : gX (Int32)} (h : gOk Γ cX10_together 8 RX10 (some .int) 3 70) (z : gEnd Γ (gQp σ)) (hk0 : isO k0 10) (hg22 : ∀ (y2 : Int32) (y3 : Int32) (y4 : Int32) (y5 : Int32), At Γ 22 [some (.ref (gAd Γ.1 k0)), some (.int p1), some (.int y2), some (.int y3), some (.int y4), some (.int y5), none, none] [] σ (ag22 y2 y3 y4 y5)) (x2 : Int32) (x3 : Int32) (x4 : Int32) (x5 : Int32) : At Γ 22 [some (.ref (gAd Γ.1 k0)), some (.int p1), some (.int x2), some (.int x3), some (.int x4), some (.int x5), none, none] [] σ (f_X10_together_L22 fu σ k0 p1 ag22 x2 x3 x4 x5) := by
  unfold f_X10_together_L22
  refine x_iload (pc := 22) h dX10_together_22 rfl ?_
  refine x_bipush (pc := 24) (v := 16) h dX10_together_24 (by decide) ?_
  refine x_icmp_ge (pc := 26) (tgt := 108) h dX10_together_26 (by decide) ?_ ?_
  · refine x_iload (pc := 108) h dX10_together_108 rfl ?_
    refine x_if_ne (pc := 110) (tgt := 118) h dX10_together_110 (by decide) ?_ ?_
    · refine x_iload_n (pc := 118) (i := 1) h dX10_together_118 rfl rfl ?_
      refine x_if_ne (pc := 119) (tgt := 126) h dX10_together_119 (by decide) ?_ ?_
      · refine x_iload_n (pc := 126) (i := 1) h dX10_together_126 rfl rfl ?_
        refine x_iconst (pc := 127) (v := 1) h dX10_together_127 (by decide) ?_
        refine x_icmp_ne (pc := 128) (tgt := 135) h dX10_together_128 (by decide) ?_ ?_
        · refine x_iload (pc := 135) h dX10_together_135 rfl ?_
          exact x_iretp (pc := 137) h z rfl .int rfl rfl dX10_together_137
        · refine x_iload_n (pc := 131) (i := 3) h dX10_together_131 rfl rfl ?_
          refine x_goto (pc := 132) (tgt := 137) h dX10_together_132 (by decide) ?_
          exact x_iretp (pc := 137) h z rfl .int rfl rfl dX10_together_137
      · refine x_iload_n (pc := 122) (i := 2) h dX10_together_122 rfl rfl ?_
        refine x_goto (pc := 123) (tgt := 137) h dX10_together_123 (by decide) ?_
        exact x_iretp (pc := 137) h z rfl .int rfl rfl dX10_together_137
    · refine x_ldc (pc := 113) h kc_X10_110 dX10_together_113 ?_
      refine x_goto (pc := 115) (tgt := 137) h dX10_together_115 (by decide) ?_
      exact x_iretp (pc := 137) h z rfl .int rfl rfl dX10_together_137
  · refine x_iload (pc := 29) h dX10_together_29 rfl ?_
    refine x_iconst (pc := 31) (v := 1) h dX10_together_31 (by decide) ?_
    refine x_iadd (pc := 32) h dX10_together_32 ?_
    refine x_istore (pc := 33) (L' := [some (.ref (gAd Γ.1 k0)), some (.int p1), some (.int x2), some (.int x3), some (.int x4), some (.int x5), some (.int (x5 + 1)), none]) h dX10_together_33 (Nat.le_of_ble_eq_true rfl) rfl ?_
    exact At.mask [true, true, true, true, true, true, true, false] rfl rfl (f_X10_together_W35_at fu σ k0 p1 ag22 x5 h z hk0 hg22 fu x2 x3 x4 (x5 + 1))

theorem f_X10_together_W22_at (fu : Nat) (σ : gSt) (k0 : Nat) (p1 : Int32) {Γ : gX (Int32)} (h : gOk Γ cX10_together 8 RX10 (some .int) 3 70) (z : gEnd Γ (gQp σ)) (hk0 : isO k0 10) : ∀ (n : Nat) (x2 : Int32) (x3 : Int32) (x4 : Int32) (x5 : Int32), At Γ 22 [some (.ref (gAd Γ.1 k0)), some (.int p1), some (.int x2), some (.int x3), some (.int x4), some (.int x5), none, none] [] σ (f_X10_together_W22 fu σ k0 p1 n x2 x3 x4 x5) := by
  intro n
  induction n with
  | zero => intro x2 x3 x4 x5 r hr; cases hr
  | succ n ih =>
    intro x2 x3 x4 x5
    exact f_X10_together_L22_at fu σ k0 p1 (f_X10_together_W22 fu σ k0 p1 n) h z hk0 ih x2 x3 x4 x5

set_option maxRecDepth 20000 in
set_option maxHeartbeats 4000000 in
theorem c_X10_together (fu : Nat) (σ : gSt) (k0 : Nat) (p1 : Int32) (hk0 : isO k0 10) : gCt yX10_together cX10_together 8 (some .int) 3 70 (gQp σ) (fun ad => [.ref (ad k0), .int p1]) σ (f_X10_together fu σ k0 p1) := by
  refine gCt_intro RX10 rfl (by decide +kernel) (fun ad v hv => by simp only [List.mem_cons, List.not_mem_nil, or_false] at hv; rcases hv with rfl | rfl <;> rfl) (fun ad => Nat.le_of_ble_eq_true rfl) (fun Γ h z => ?_)
  show At Γ 0 [some (.ref (gAd Γ.1 k0)), some (.int p1), none, none, none, none, none, none] [] σ _
  unfold f_X10_together
  refine x_iload_n (pc := 0) (i := 1) h dX10_together_0 rfl rfl ?_
  refine x_iconst (pc := 1) (v := 0) h dX10_together_1 (by decide) ?_
  refine x_iconst (pc := 2) (v := 2) h dX10_together_2 (by decide) ?_
  refine x_Sp (pc := 3) (av := fun ad => [.int p1, .int 0, .int 2]) (rest := []) h m_X10_in s_X10_in kl_X10_39 (c_X10_in fu σ p1 0 2) rfl rfl (gCaM rfl) dX10_together_3 (fun v3 => ?_)
  refine x_if_ne (pc := 6) (tgt := 12) h dX10_together_6 (by decide) ?_ ?_
  · refine x_iconst (pc := 12) (v := 0) h dX10_together_12 (by decide) ?_
    refine x_istore_n (pc := 13) (i := 2) (L' := [some (.ref (gAd Γ.1 k0)), some (.int p1), some (.int 0), none, none, none, none, none]) h dX10_together_13 rfl (Nat.le_of_ble_eq_true rfl) rfl ?_
    refine x_iconst (pc := 14) (v := 0) h dX10_together_14 (by decide) ?_
    refine x_istore_n (pc := 15) (i := 3) (L' := [some (.ref (gAd Γ.1 k0)), some (.int p1), some (.int 0), some (.int 0), none, none, none, none]) h dX10_together_15 rfl (Nat.le_of_ble_eq_true rfl) rfl ?_
    refine x_iconst (pc := 16) (v := 0) h dX10_together_16 (by decide) ?_
    refine x_istore (pc := 17) (L' := [some (.ref (gAd Γ.1 k0)), some (.int p1), some (.int 0), some (.int 0), some (.int 0), none, none, none]) h dX10_together_17 (Nat.le_of_ble_eq_true rfl) rfl ?_
    refine x_iconst (pc := 19) (v := 0) h dX10_together_19 (by decide) ?_
    refine x_istore (pc := 20) (L' := [some (.ref (gAd Γ.1 k0)), some (.int p1), some (.int 0), some (.int 0), some (.int 0), some (.int 0), none, none]) h dX10_together_20 (Nat.le_of_ble_eq_true rfl) rfl ?_
    exact At.mask [true, true, true, true, true, true, false, false] rfl rfl (f_X10_together_W22_at fu σ k0 p1 h z hk0 fu 0 0 0 0)
  · refine x_ldc (pc := 9) h kc_X10_50 dX10_together_9 ?_
    exact x_iretp (pc := 11) h z rfl .int rfl rfl dX10_together_11

set_option maxRecDepth 20000 in
set_option maxHeartbeats 4000000 in
theorem f_X8_longestSilence_J48_at (fu : Nat) (σ : gSt) (k0 : Nat) (p1 : Int32) (ag14 : Int32 → Int32 → Int32 → Int32 → Option (Int32)) {Γ : gX (Int32)} (h : gOk Γ cX8_longestSilence 6 RX8 (some .int) 2 42) (z : gEnd Γ (gQp σ)) (hk0 : isO k0 8) (x2 : Int32) (x3 : Int32) (x4 : Int32) (x5 : Int32) (hg14 : ∀ (y2 : Int32) (y3 : Int32) (y4 : Int32) (y5 : Int32), At Γ 14 [some (.ref (gAd Γ.1 k0)), some (.int p1), some (.int y2), some (.int y3), some (.int y4), some (.int y5)] [] σ (ag14 y2 y3 y4 y5)) : At Γ 48 [some (.ref (gAd Γ.1 k0)), some (.int p1), some (.int x2), some (.int x3), some (.int x4), some (.int x5)] [] σ (f_X8_longestSilence_J48 fu σ k0 p1 ag14 x2 x3 x4 x5) := by
  unfold f_X8_longestSilence_J48
  refine x_iload_n (pc := 48) (i := 2) h dX8_longestSilence_48 rfl rfl ?_
  refine x_aload_n (pc := 49) (i := 0) h dX8_longestSilence_49 rfl rfl ?_
  refine x_iload (pc := 50) h dX8_longestSilence_50 rfl ?_
  refine x_Vp (pc := 52) (av := fun ad => [.int x5]) (rest := [.int x2]) h m_X8_endOf i_X8_endOf kl_X8_80 hk0 (by decide) rfl (c_X8_endOf fu σ k0 x5 hk0) rfl rfl (gCaM rfl) dX8_longestSilence_52 (fun v52 => ?_)
  refine x_Sp (pc := 55) (av := fun ad => [.int x2, .int v52]) (rest := []) h m_J9_max_7cf53 s_J9_max_7cf53 kl_X8_101 (c_J9_max_7cf53 fu σ x2 v52) rfl rfl (gCaM rfl) dX8_longestSilence_55 (fun v55 => ?_)
  refine x_istore_n (pc := 58) (i := 2) (L' := [some (.ref (gAd Γ.1 k0)), some (.int p1), some (.int v55), some (.int x3), some (.int x4), some (.int x5)]) h dX8_longestSilence_58 rfl (Nat.le_of_ble_eq_true rfl) rfl ?_
  refine x_iinc (pc := 59) (i := 5) (v := (x5 + 1)) (L' := [some (.ref (gAd Γ.1 k0)), some (.int p1), some (.int v55), some (.int x3), some (.int x4), some (.int (x5 + 1))]) h dX8_longestSilence_59 rfl rfl rfl ?_
  refine x_goto (pc := 62) (tgt := 14) h dX8_longestSilence_62 (by decide) ?_
  exact At.mask [true, true, true, true, true, true] rfl rfl (hg14 v55 x3 x4 (x5 + 1))

set_option maxRecDepth 20000 in
set_option maxHeartbeats 4000000 in
theorem f_X8_longestSilence_L14_at (fu : Nat) (σ : gSt) (k0 : Nat) (p1 : Int32) (ag14 : Int32 → Int32 → Int32 → Int32 → Option (Int32)) {Γ : gX (Int32)} (h : gOk Γ cX8_longestSilence 6 RX8 (some .int) 2 42) (z : gEnd Γ (gQp σ)) (hk0 : isO k0 8) (hg14 : ∀ (y2 : Int32) (y3 : Int32) (y4 : Int32) (y5 : Int32), At Γ 14 [some (.ref (gAd Γ.1 k0)), some (.int p1), some (.int y2), some (.int y3), some (.int y4), some (.int y5)] [] σ (ag14 y2 y3 y4 y5)) (x2 : Int32) (x3 : Int32) (x4 : Int32) (x5 : Int32) : At Γ 14 [some (.ref (gAd Γ.1 k0)), some (.int p1), some (.int x2), some (.int x3), some (.int x4), some (.int x5)] [] σ (f_X8_longestSilence_L14 fu σ k0 p1 ag14 x2 x3 x4 x5) := by
  unfold f_X8_longestSilence_L14
  refine x_iload (pc := 14) h dX8_longestSilence_14 rfl ?_
  refine x_aload_n (pc := 16) (i := 0) h dX8_longestSilence_16 rfl rfl ?_
  refine gf_X8_36 (pc := 17) h hk0 dX8_longestSilence_17 ?_
  refine x_icmp_ge (pc := 20) (tgt := 65) h dX8_longestSilence_20 (by decide) ?_ ?_
  · refine x_iload_n (pc := 65) (i := 1) h dX8_longestSilence_65 rfl rfl ?_
    refine x_if_ne (pc := 66) (tgt := 73) h dX8_longestSilence_66 (by decide) ?_ ?_
    · refine x_iload (pc := 73) h dX8_longestSilence_73 rfl ?_
      exact x_iretp (pc := 75) h z rfl .int rfl rfl dX8_longestSilence_75
    · refine x_iload_n (pc := 69) (i := 3) h dX8_longestSilence_69 rfl rfl ?_
      refine x_goto (pc := 70) (tgt := 75) h dX8_longestSilence_70 (by decide) ?_
      exact x_iretp (pc := 75) h z rfl .int rfl rfl dX8_longestSilence_75
  · refine x_aload_n (pc := 23) (i := 0) h dX8_longestSilence_23 rfl rfl ?_
    refine x_iload (pc := 24) h dX8_longestSilence_24 rfl ?_
    refine x_Vp (pc := 26) (av := fun ad => [.int x5]) (rest := []) h m_X8_beginOf i_X8_beginOf kl_X8_77 hk0 (by decide) rfl (c_X8_beginOf fu σ k0 x5 hk0) rfl rfl (gCaM rfl) dX8_longestSilence_26 (fun v26 => ?_)
    refine x_iload_n (pc := 29) (i := 2) h dX8_longestSilence_29 rfl rfl ?_
    refine x_isub (pc := 30) h dX8_longestSilence_30 ?_
    refine x_iload (pc := 31) h dX8_longestSilence_31 rfl ?_
    refine x_icmp_le (pc := 33) (tgt := 48) h dX8_longestSilence_33 (by decide) ?_ ?_
    · exact At.mask [true, true, true, true, true, true] rfl rfl (f_X8_longestSilence_J48_at fu σ k0 p1 ag14 h z hk0 x2 x3 x4 x5 hg14)
    · refine x_aload_n (pc := 36) (i := 0) h dX8_longestSilence_36 rfl rfl ?_
      refine x_iload (pc := 37) h dX8_longestSilence_37 rfl ?_
      refine x_Vp (pc := 39) (av := fun ad => [.int x5]) (rest := []) h m_X8_beginOf i_X8_beginOf kl_X8_77 hk0 (by decide) rfl (c_X8_beginOf fu σ k0 x5 hk0) rfl rfl (gCaM rfl) dX8_longestSilence_39 (fun v39 => ?_)
      refine x_iload_n (pc := 42) (i := 2) h dX8_longestSilence_42 rfl rfl ?_
      refine x_isub (pc := 43) h dX8_longestSilence_43 ?_
      refine x_istore (pc := 44) (L' := [some (.ref (gAd Γ.1 k0)), some (.int p1), some (.int x2), some (.int x3), some (.int (v39 - x2)), some (.int x5)]) h dX8_longestSilence_44 (Nat.le_of_ble_eq_true rfl) rfl ?_
      refine x_iload_n (pc := 46) (i := 2) h dX8_longestSilence_46 rfl rfl ?_
      refine x_istore_n (pc := 47) (i := 3) (L' := [some (.ref (gAd Γ.1 k0)), some (.int p1), some (.int x2), some (.int x2), some (.int (v39 - x2)), some (.int x5)]) h dX8_longestSilence_47 rfl (Nat.le_of_ble_eq_true rfl) rfl ?_
      exact At.mask [true, true, true, true, true, true] rfl rfl (f_X8_longestSilence_J48_at fu σ k0 p1 ag14 h z hk0 x2 x2 (v39 - x2) x5 hg14)

theorem f_X8_longestSilence_W14_at (fu : Nat) (σ : gSt) (k0 : Nat) (p1 : Int32) {Γ : gX (Int32)} (h : gOk Γ cX8_longestSilence 6 RX8 (some .int) 2 42) (z : gEnd Γ (gQp σ)) (hk0 : isO k0 8) : ∀ (n : Nat) (x2 : Int32) (x3 : Int32) (x4 : Int32) (x5 : Int32), At Γ 14 [some (.ref (gAd Γ.1 k0)), some (.int p1), some (.int x2), some (.int x3), some (.int x4), some (.int x5)] [] σ (f_X8_longestSilence_W14 fu σ k0 p1 n x2 x3 x4 x5) := by
  intro n
  induction n with
  | zero => intro x2 x3 x4 x5 r hr; cases hr
  | succ n ih =>
    intro x2 x3 x4 x5
    exact f_X8_longestSilence_L14_at fu σ k0 p1 (f_X8_longestSilence_W14 fu σ k0 p1 n) h z hk0 ih x2 x3 x4 x5

set_option maxRecDepth 20000 in
set_option maxHeartbeats 4000000 in
theorem c_X8_longestSilence (fu : Nat) (σ : gSt) (k0 : Nat) (p1 : Int32) (hk0 : isO k0 8) : gCt yX8_longestSilence cX8_longestSilence 6 (some .int) 2 42 (gQp σ) (fun ad => [.ref (ad k0), .int p1]) σ (f_X8_longestSilence fu σ k0 p1) := by
  refine gCt_intro RX8 rfl (by decide +kernel) (fun ad v hv => by simp only [List.mem_cons, List.not_mem_nil, or_false] at hv; rcases hv with rfl | rfl <;> rfl) (fun ad => Nat.le_of_ble_eq_true rfl) (fun Γ h z => ?_)
  show At Γ 0 [some (.ref (gAd Γ.1 k0)), some (.int p1), none, none, none, none] [] σ _
  unfold f_X8_longestSilence
  refine x_aload_n (pc := 0) (i := 0) h dX8_longestSilence_0 rfl rfl ?_
  refine x_iconst (pc := 1) (v := 0) h dX8_longestSilence_1 (by decide) ?_
  refine x_Vp (pc := 2) (av := fun ad => [.int 0]) (rest := []) h m_X8_beginOf i_X8_beginOf kl_X8_77 hk0 (by decide) rfl (c_X8_beginOf fu σ k0 0 hk0) rfl rfl (gCaM rfl) dX8_longestSilence_2 (fun v2 => ?_)
  refine x_istore_n (pc := 5) (i := 2) (L' := [some (.ref (gAd Γ.1 k0)), some (.int p1), some (.int v2), none, none, none]) h dX8_longestSilence_5 rfl (Nat.le_of_ble_eq_true rfl) rfl ?_
  refine x_iconst (pc := 6) (v := 0) h dX8_longestSilence_6 (by decide) ?_
  refine x_istore_n (pc := 7) (i := 3) (L' := [some (.ref (gAd Γ.1 k0)), some (.int p1), some (.int v2), some (.int 0), none, none]) h dX8_longestSilence_7 rfl (Nat.le_of_ble_eq_true rfl) rfl ?_
  refine x_iconst (pc := 8) (v := 0) h dX8_longestSilence_8 (by decide) ?_
  refine x_istore (pc := 9) (L' := [some (.ref (gAd Γ.1 k0)), some (.int p1), some (.int v2), some (.int 0), some (.int 0), none]) h dX8_longestSilence_9 (Nat.le_of_ble_eq_true rfl) rfl ?_
  refine x_iconst (pc := 11) (v := 0) h dX8_longestSilence_11 (by decide) ?_
  refine x_istore (pc := 12) (L' := [some (.ref (gAd Γ.1 k0)), some (.int p1), some (.int v2), some (.int 0), some (.int 0), some (.int 0)]) h dX8_longestSilence_12 (Nat.le_of_ble_eq_true rfl) rfl ?_
  exact At.mask [true, true, true, true, true, true] rfl rfl (f_X8_longestSilence_W14_at fu σ k0 p1 h z hk0 fu v2 0 0 0)

set_option maxRecDepth 20000 in
set_option maxHeartbeats 4000000 in
theorem c_X5_ofSilence (fu : Nat) (σ : gSt) (k0 : Nat) (p1 : Int32) (hk0 : isO k0 5) : gCt yX5_ofSilence cX5_ofSilence 2 (some .int) 3 67 (gQp σ) (fun ad => [.ref (ad k0), .int p1]) σ (f_X5_ofSilence fu σ k0 p1) := by
  refine gCt_intro RX5 rfl (by decide +kernel) (fun ad v hv => by simp only [List.mem_cons, List.not_mem_nil, or_false] at hv; rcases hv with rfl | rfl <;> rfl) (fun ad => Nat.le_of_ble_eq_true rfl) (fun Γ h z => ?_)
  show At Γ 0 [some (.ref (gAd Γ.1 k0)), some (.int p1)] [] σ _
  unfold f_X5_ofSilence
  refine x_iload_n (pc := 0) (i := 1) h dX5_ofSilence_0 rfl rfl ?_
  refine x_iconst (pc := 1) (v := 0) h dX5_ofSilence_1 (by decide) ?_
  refine x_iconst (pc := 2) (v := 1) h dX5_ofSilence_2 (by decide) ?_
  refine x_Np (pc := 3) (av := fun ad => [.int p1, .int 0, .int 1]) (rest := []) h m_X9_isWithin s_X9_isWithin kl_X5_71 (c_X9_isWithin fu σ p1 0 1) rfl rfl (gCaM rfl) dX5_ofSilence_3 (fun v3 => ?_)
  refine x_if_ne (pc := 6) (tgt := 12) h dX5_ofSilence_6 (by decide) ?_ ?_
  · refine x_aload_n (pc := 12) (i := 0) h dX5_ofSilence_12 rfl rfl ?_
    refine gf_X5_25 (pc := 13) h hk0 dX5_ofSilence_13 ?_
    refine x_iconst (pc := 16) (v := 1) h dX5_ofSilence_16 (by decide) ?_
    refine x_Vp (pc := 17) (av := fun ad => [.int 1]) (rest := []) h m_X8_longestSilence i_X8_longestSilence kl_X5_155 (t_5_1 hk0) (by decide) rfl (c_X8_longestSilence fu σ (k0 + 10) 1 (t_5_1 hk0)) rfl rfl (gCaM rfl) dX5_ofSilence_17 (fun v17 => ?_)
    refine x_if_ne (pc := 20) (tgt := 26) h dX5_ofSilence_20 (by decide) ?_ ?_
    · refine x_aload_n (pc := 26) (i := 0) h dX5_ofSilence_26 rfl rfl ?_
      refine gf_X5_25 (pc := 27) h hk0 dX5_ofSilence_27 ?_
      refine x_iload_n (pc := 30) (i := 1) h dX5_ofSilence_30 rfl rfl ?_
      refine x_Vp (pc := 31) (av := fun ad => [.int p1]) (rest := []) h m_X8_longestSilence i_X8_longestSilence kl_X5_155 (t_5_1 hk0) (by decide) rfl (c_X8_longestSilence fu σ (k0 + 10) p1 (t_5_1 hk0)) rfl rfl (gCaM rfl) dX5_ofSilence_31 (fun v31 => ?_)
      exact x_iretp (pc := 34) h z rfl .int rfl rfl dX5_ofSilence_34
    · refine x_ldc (pc := 23) h kc_X5_75 dX5_ofSilence_23 ?_
      exact x_iretp (pc := 25) h z rfl .int rfl rfl dX5_ofSilence_25
  · refine x_ldc (pc := 9) h kc_X5_42 dX5_ofSilence_9 ?_
    exact x_iretp (pc := 11) h z rfl .int rfl rfl dX5_ofSilence_11

set_option maxRecDepth 20000 in
set_option maxHeartbeats 4000000 in
theorem c_X9_silence (fu : Nat) (σ : gSt) (k0 : Nat) (p1 : Int32) (hk0 : isO k0 9) : gCt yX9_silence cX9_silence 2 (some .int) 4 88 (gQp σ) (fun ad => [.ref (ad k0), .int p1]) σ (f_X9_silence fu σ k0 p1) := by
  refine gCt_intro RX9 rfl (by decide +kernel) (fun ad v hv => by simp only [List.mem_cons, List.not_mem_nil, or_false] at hv; rcases hv with rfl | rfl <;> rfl) (fun ad => Nat.le_of_ble_eq_true rfl) (fun Γ h z => ?_)
  show At Γ 0 [some (.ref (gAd Γ.1 k0)), some (.int p1)] [] σ _
  unfold f_X9_silence
  refine x_aload_n (pc := 0) (i := 0) h dX9_silence_0 rfl rfl ?_
  refine gf_X9_31 (pc := 1) h hk0 dX9_silence_1 ?_
  refine x_iload_n (pc := 4) (i := 1) h dX9_silence_4 rfl rfl ?_
  refine x_Vp (pc := 5) (av := fun ad => [.int p1]) (rest := []) h m_X5_ofSilence i_X5_ofSilence kl_X9_117 (t_9_3 hk0) (by decide) rfl (c_X5_ofSilence fu σ (k0 + 1) p1 (t_9_3 hk0)) rfl rfl (gCaM rfl) dX9_silence_5 (fun v5 => ?_)
  exact x_iretp (pc := 8) h z rfl .int rfl rfl dX9_silence_8

set_option maxRecDepth 20000 in
set_option maxHeartbeats 4000000 in
theorem f_X10_lastEnd_L4_at (fu : Nat) (σ : gSt) (k0 : Nat) (ag4 : Int32 → Int32 → Option (Int32)) {Γ : gX (Int32)} (h : gOk Γ cX10_lastEnd 3 RX10 (some .int) 1 22) (z : gEnd Γ (gQp σ)) (hk0 : isO k0 10) (hg4 : ∀ (y1 : Int32) (y2 : Int32), At Γ 4 [some (.ref (gAd Γ.1 k0)), some (.int y1), some (.int y2)] [] σ (ag4 y1 y2)) (x1 : Int32) (x2 : Int32) : At Γ 4 [some (.ref (gAd Γ.1 k0)), some (.int x1), some (.int x2)] [] σ (f_X10_lastEnd_L4 fu σ k0 ag4 x1 x2) := by
  unfold f_X10_lastEnd_L4
  refine x_iload_n (pc := 4) (i := 2) h dX10_lastEnd_4 rfl rfl ?_
  refine x_aload_n (pc := 5) (i := 0) h dX10_lastEnd_5 rfl rfl ?_
  refine gf_X10_7 (pc := 6) h hk0 dX10_lastEnd_6 ?_
  refine x_sipush (pc := 9) (v := 282) h dX10_lastEnd_9 (by decide) ?_
  refine x_ialdS (pc := 12) h 282 (t_10_0 hk0) (by decide) (by decide) (by decide) dX10_lastEnd_12 ?_
  refine x_icmp_ge (pc := 13) (tgt := 43) h dX10_lastEnd_13 (by decide) ?_ ?_
  · refine x_iload_n (pc := 43) (i := 1) h dX10_lastEnd_43 rfl rfl ?_
    exact x_iretp (pc := 44) h z rfl .int rfl rfl dX10_lastEnd_44
  · refine x_aload_n (pc := 16) (i := 0) h dX10_lastEnd_16 rfl rfl ?_
    refine x_iload_n (pc := 17) (i := 2) h dX10_lastEnd_17 rfl rfl ?_
    refine x_iconst (pc := 18) (v := 1) h dX10_lastEnd_18 (by decide) ?_
    refine x_Vp (pc := 19) (av := fun ad => [.int x2, .int 1]) (rest := []) h m_X10_of i_X10_of kl_X10_47 hk0 (by decide) rfl (c_X10_of fu σ k0 x2 1 hk0) rfl rfl (gCaM rfl) dX10_lastEnd_19 (fun v19 => ?_)
    refine x_iload_n (pc := 22) (i := 1) h dX10_lastEnd_22 rfl rfl ?_
    refine x_icmp_le (pc := 23) (tgt := 35) h dX10_lastEnd_23 (by decide) ?_ ?_
    · refine x_iload_n (pc := 35) (i := 1) h dX10_lastEnd_35 rfl rfl ?_
      refine x_istore_n (pc := 36) (i := 1) (L' := [some (.ref (gAd Γ.1 k0)), some (.int x1), some (.int x2)]) h dX10_lastEnd_36 rfl (Nat.le_of_ble_eq_true rfl) rfl ?_
      refine x_iinc (pc := 37) (i := 2) (v := (x2 + 1)) (L' := [some (.ref (gAd Γ.1 k0)), some (.int x1), some (.int (x2 + 1))]) h dX10_lastEnd_37 rfl rfl rfl ?_
      refine x_goto (pc := 40) (tgt := 4) h dX10_lastEnd_40 (by decide) ?_
      exact At.mask [true, true, true] rfl rfl (hg4 x1 (x2 + 1))
    · refine x_aload_n (pc := 26) (i := 0) h dX10_lastEnd_26 rfl rfl ?_
      refine x_iload_n (pc := 27) (i := 2) h dX10_lastEnd_27 rfl rfl ?_
      refine x_iconst (pc := 28) (v := 1) h dX10_lastEnd_28 (by decide) ?_
      refine x_Vp (pc := 29) (av := fun ad => [.int x2, .int 1]) (rest := []) h m_X10_of i_X10_of kl_X10_47 hk0 (by decide) rfl (c_X10_of fu σ k0 x2 1 hk0) rfl rfl (gCaM rfl) dX10_lastEnd_29 (fun v29 => ?_)
      refine x_goto (pc := 32) (tgt := 36) h dX10_lastEnd_32 (by decide) ?_
      refine x_istore_n (pc := 36) (i := 1) (L' := [some (.ref (gAd Γ.1 k0)), some (.int v29), some (.int x2)]) h dX10_lastEnd_36 rfl (Nat.le_of_ble_eq_true rfl) rfl ?_
      refine x_iinc (pc := 37) (i := 2) (v := (x2 + 1)) (L' := [some (.ref (gAd Γ.1 k0)), some (.int v29), some (.int (x2 + 1))]) h dX10_lastEnd_37 rfl rfl rfl ?_
      refine x_goto (pc := 40) (tgt := 4) h dX10_lastEnd_40 (by decide) ?_
      exact At.mask [true, true, true] rfl rfl (hg4 v29 (x2 + 1))

theorem f_X10_lastEnd_W4_at (fu : Nat) (σ : gSt) (k0 : Nat) {Γ : gX (Int32)} (h : gOk Γ cX10_lastEnd 3 RX10 (some .int) 1 22) (z : gEnd Γ (gQp σ)) (hk0 : isO k0 10) : ∀ (n : Nat) (x1 : Int32) (x2 : Int32), At Γ 4 [some (.ref (gAd Γ.1 k0)), some (.int x1), some (.int x2)] [] σ (f_X10_lastEnd_W4 fu σ k0 n x1 x2) := by
  intro n
  induction n with
  | zero => intro x1 x2 r hr; cases hr
  | succ n ih =>
    intro x1 x2
    exact f_X10_lastEnd_L4_at fu σ k0 (f_X10_lastEnd_W4 fu σ k0 n) h z hk0 ih x1 x2

set_option maxRecDepth 20000 in
set_option maxHeartbeats 4000000 in
theorem c_X10_lastEnd (fu : Nat) (σ : gSt) (k0 : Nat) (hk0 : isO k0 10) : gCt yX10_lastEnd cX10_lastEnd 3 (some .int) 1 22 (gQp σ) (fun ad => [.ref (ad k0)]) σ (f_X10_lastEnd fu σ k0) := by
  refine gCt_intro RX10 rfl (by decide +kernel) (fun ad v hv => by simp only [List.mem_cons, List.not_mem_nil, or_false] at hv; rcases hv with rfl <;> rfl) (fun ad => Nat.le_of_ble_eq_true rfl) (fun Γ h z => ?_)
  show At Γ 0 [some (.ref (gAd Γ.1 k0)), none, none] [] σ _
  unfold f_X10_lastEnd
  refine x_iconst (pc := 0) (v := 0) h dX10_lastEnd_0 (by decide) ?_
  refine x_istore_n (pc := 1) (i := 1) (L' := [some (.ref (gAd Γ.1 k0)), some (.int 0), none]) h dX10_lastEnd_1 rfl (Nat.le_of_ble_eq_true rfl) rfl ?_
  refine x_iconst (pc := 2) (v := 0) h dX10_lastEnd_2 (by decide) ?_
  refine x_istore_n (pc := 3) (i := 2) (L' := [some (.ref (gAd Γ.1 k0)), some (.int 0), some (.int 0)]) h dX10_lastEnd_3 rfl (Nat.le_of_ble_eq_true rfl) rfl ?_
  exact At.mask [true, true, true] rfl rfl (f_X10_lastEnd_W4_at fu σ k0 h z hk0 fu 0 0)

set_option maxRecDepth 20000 in
set_option maxHeartbeats 4000000 in
theorem f_X10_silence_J107_at (fu : Nat) (σ : gSt) (k0 : Nat) (p1 : Int32) {Γ : gX (Int32)} (h : gOk Γ cX10_silence 7 RX10 (some .int) 3 67) (z : gEnd Γ (gQp σ)) (hk0 : isO k0 10) (x2 : Int32) (x3 : Int32) : At Γ 107 [none, some (.int p1), some (.int x2), some (.int x3), none, none, none] [] σ (f_X10_silence_J107 fu σ k0 p1 x2 x3) := by
  unfold f_X10_silence_J107
  refine x_iload_n (pc := 107) (i := 3) h dX10_silence_107 rfl rfl ?_
  refine x_if_ne (pc := 108) (tgt := 116) h dX10_silence_108 (by decide) ?_ ?_
  · refine x_iload_n (pc := 116) (i := 1) h dX10_silence_116 rfl rfl ?_
    refine x_if_ne (pc := 117) (tgt := 124) h dX10_silence_117 (by decide) ?_ ?_
    · refine x_iload_n (pc := 124) (i := 3) h dX10_silence_124 rfl rfl ?_
      exact x_iretp (pc := 125) h z rfl .int rfl rfl dX10_silence_125
    · refine x_iload_n (pc := 120) (i := 2) h dX10_silence_120 rfl rfl ?_
      refine x_goto (pc := 121) (tgt := 125) h dX10_silence_121 (by decide) ?_
      exact x_iretp (pc := 125) h z rfl .int rfl rfl dX10_silence_125
  · refine x_ldc (pc := 111) h kc_X10_110 dX10_silence_111 ?_
    refine x_goto (pc := 113) (tgt := 125) h dX10_silence_113 (by decide) ?_
    exact x_iretp (pc := 125) h z rfl .int rfl rfl dX10_silence_125

set_option maxRecDepth 20000 in
set_option maxHeartbeats 4000000 in
theorem f_X10_silence_J87_at (fu : Nat) (σ : gSt) (k0 : Nat) (p1 : Int32) (ag33 : Int32 → Int32 → Int32 → Int32 → Option (Int32)) {Γ : gX (Int32)} (h : gOk Γ cX10_silence 7 RX10 (some .int) 3 67) (z : gEnd Γ (gQp σ)) (hk0 : isO k0 10) (x3 : Int32) (x4 : Int32) (x5 : Int32) (x6 : Int32) (s1 : Int32) (hg33 : ∀ (y2 : Int32) (y3 : Int32) (y4 : Int32) (y6 : Int32), At Γ 33 [some (.ref (gAd Γ.1 k0)), some (.int p1), some (.int y2), some (.int y3), some (.int y4), some (.int x5), some (.int y6)] [] σ (ag33 y2 y3 y4 y6)) : At Γ 87 [some (.ref (gAd Γ.1 k0)), some (.int p1), none, some (.int x3), some (.int x4), some (.int x5), some (.int x6)] [.int s1] σ (f_X10_silence_J87 fu σ k0 p1 ag33 x3 x4 x5 x6 s1) := by
  unfold f_X10_silence_J87
  refine x_istore_n (pc := 87) (i := 2) (L' := [some (.ref (gAd Γ.1 k0)), some (.int p1), some (.int s1), some (.int x3), some (.int x4), some (.int x5), some (.int x6)]) h dX10_silence_87 rfl (Nat.le_of_ble_eq_true rfl) rfl ?_
  refine x_iload (pc := 88) h dX10_silence_88 rfl ?_
  refine x_iload_n (pc := 90) (i := 3) h dX10_silence_90 rfl rfl ?_
  refine x_nm (e := (if x4 ≤ x3 then x3 else x4)) (pcJ := 100) (LJ := [some (.ref (gAd Γ.1 k0)), some (.int p1), some (.int s1), some (.int x3), some (.int x4), some (.int x5), some (.int x6)]) (sJ := []) (fun w91 => ?_) (fun kj91 => ?_)
  · refine x_istore_n (pc := 100) (i := 3) (L' := [some (.ref (gAd Γ.1 k0)), some (.int p1), some (.int s1), some (.int w91), some (.int x4), some (.int x5), some (.int x6)]) h dX10_silence_100 rfl (Nat.le_of_ble_eq_true rfl) rfl ?_
    refine x_iinc (pc := 101) (i := 6) (v := (x6 + 1)) (L' := [some (.ref (gAd Γ.1 k0)), some (.int p1), some (.int s1), some (.int w91), some (.int x4), some (.int x5), some (.int (x6 + 1))]) h dX10_silence_101 rfl rfl rfl ?_
    refine x_goto (pc := 104) (tgt := 33) h dX10_silence_104 (by decide) ?_
    exact At.mask [true, true, true, true, true, true, true] rfl rfl (hg33 s1 w91 x4 (x6 + 1))
  · refine j_icmp_le (pc := 91) (tgt := 99) h dX10_silence_91 (by decide) (fun hc91_0 => ?_) (fun hc91_0 => ?_)
    · refine x_iload_n (pc := 99) (i := 3) h dX10_silence_99 rfl rfl ?_
      exact kj91 x3 (by rw [if_pos hc91_0])
    · refine x_iload (pc := 94) h dX10_silence_94 rfl ?_
      refine x_goto (pc := 96) (tgt := 100) h dX10_silence_96 (by decide) ?_
      exact kj91 x4 (by rw [if_neg hc91_0])

set_option maxRecDepth 20000 in
set_option maxHeartbeats 4000000 in
theorem f_X10_silence_J68_at (fu : Nat) (σ : gSt) (k0 : Nat) (p1 : Int32) (ag33 : Int32 → Int32 → Int32 → Int32 → Option (Int32)) {Γ : gX (Int32)} (h : gOk Γ cX10_silence 7 RX10 (some .int) 3 67) (z : gEnd Γ (gQp σ)) (hk0 : isO k0 10) (x2 : Int32) (x3 : Int32) (x5 : Int32) (x6 : Int32) (s1 : Int32) (hg33 : ∀ (y2 : Int32) (y3 : Int32) (y4 : Int32) (y6 : Int32), At Γ 33 [some (.ref (gAd Γ.1 k0)), some (.int p1), some (.int y2), some (.int y3), some (.int y4), some (.int x5), some (.int y6)] [] σ (ag33 y2 y3 y4 y6)) : At Γ 68 [some (.ref (gAd Γ.1 k0)), some (.int p1), some (.int x2), some (.int x3), none, some (.int x5), some (.int x6)] [.int s1] σ (f_X10_silence_J68 fu σ k0 p1 ag33 x2 x3 x5 x6 s1) := by
  unfold f_X10_silence_J68
  refine x_istore (pc := 68) (L' := [some (.ref (gAd Γ.1 k0)), some (.int p1), some (.int x2), some (.int x3), some (.int s1), some (.int x5), some (.int x6)]) h dX10_silence_68 (Nat.le_of_ble_eq_true rfl) rfl ?_
  refine x_iload (pc := 70) h dX10_silence_70 rfl ?_
  refine x_iload_n (pc := 72) (i := 3) h dX10_silence_72 rfl rfl ?_
  refine x_nm (e := (if s1 ≤ x3 then x2 else ((x6 - s1) + 1))) (pcJ := 87) (LJ := [some (.ref (gAd Γ.1 k0)), some (.int p1), some (.int x2), some (.int x3), some (.int s1), some (.int x5), some (.int x6)]) (sJ := []) (fun w73 => ?_) (fun kj73 => ?_)
  · exact At.mask [true, true, false, true, true, true, true] rfl rfl (f_X10_silence_J87_at fu σ k0 p1 ag33 h z hk0 x3 s1 x5 x6 w73 hg33)
  · refine j_icmp_le (pc := 73) (tgt := 86) h dX10_silence_73 (by decide) (fun hc73_0 => ?_) (fun hc73_0 => ?_)
    · refine x_iload_n (pc := 86) (i := 2) h dX10_silence_86 rfl rfl ?_
      exact kj73 x2 (by rw [if_pos hc73_0])
    · refine x_iload (pc := 76) h dX10_silence_76 rfl ?_
      refine x_iload (pc := 78) h dX10_silence_78 rfl ?_
      refine x_isub (pc := 80) h dX10_silence_80 ?_
      refine x_iconst (pc := 81) (v := 1) h dX10_silence_81 (by decide) ?_
      refine x_iadd (pc := 82) h dX10_silence_82 ?_
      refine x_goto (pc := 83) (tgt := 87) h dX10_silence_83 (by decide) ?_
      exact kj73 ((x6 - s1) + 1) (by rw [if_neg hc73_0])

set_option maxRecDepth 20000 in
set_option maxHeartbeats 4000000 in
theorem f_X10_silence_L33_at (fu : Nat) (σ : gSt) (k0 : Nat) (p1 : Int32) (x5 : Int32) (ag33 : Int32 → Int32 → Int32 → Int32 → Option (Int32)) {Γ : gX (Int32)} (h : gOk Γ cX10_silence 7 RX10 (some .int) 3 67) (z : gEnd Γ (gQp σ)) (hk0 : isO k0 10) (hg33 : ∀ (y2 : Int32) (y3 : Int32) (y4 : Int32) (y6 : Int32), At Γ 33 [some (.ref (gAd Γ.1 k0)), some (.int p1), some (.int y2), some (.int y3), some (.int y4), some (.int x5), some (.int y6)] [] σ (ag33 y2 y3 y4 y6)) (x2 : Int32) (x3 : Int32) (x4 : Int32) (x6 : Int32) : At Γ 33 [some (.ref (gAd Γ.1 k0)), some (.int p1), some (.int x2), some (.int x3), some (.int x4), some (.int x5), some (.int x6)] [] σ (f_X10_silence_L33 fu σ k0 p1 x5 ag33 x2 x3 x4 x6) := by
  unfold f_X10_silence_L33
  refine x_iload (pc := 33) h dX10_silence_33 rfl ?_
  refine x_iload (pc := 35) h dX10_silence_35 rfl ?_
  refine x_icmp_ge (pc := 37) (tgt := 107) h dX10_silence_37 (by decide) ?_ ?_
  · exact At.mask [false, true, true, true, false, false, false] rfl rfl (f_X10_silence_J107_at fu σ k0 p1 h z hk0 x2 x3)
  · refine x_aload_n (pc := 40) (i := 0) h dX10_silence_40 rfl rfl ?_
    refine gf_X10_7 (pc := 41) h hk0 dX10_silence_41 ?_
    refine x_sipush (pc := 44) (v := 282) h dX10_silence_44 (by decide) ?_
    refine x_ialdS (pc := 47) h 282 (t_10_0 hk0) (by decide) (by decide) (by decide) dX10_silence_47 ?_
    refine x_if_le (pc := 48) (tgt := 107) h dX10_silence_48 (by decide) ?_ ?_
    · exact At.mask [false, true, true, true, false, false, false] rfl rfl (f_X10_silence_J107_at fu σ k0 p1 h z hk0 x2 x3)
    · refine x_aload_n (pc := 51) (i := 0) h dX10_silence_51 rfl rfl ?_
      refine x_iload (pc := 52) h dX10_silence_52 rfl ?_
      refine x_Vp (pc := 54) (av := fun ad => [.int x6]) (rest := []) h m_X10_going i_X10_going kl_X10_107 hk0 (by decide) rfl (c_X10_going fu σ k0 x6 hk0) rfl rfl (gCaM rfl) dX10_silence_54 (fun v54 => ?_)
      refine x_nm (e := (if v54 = 0 then (x4 + 1) else 0)) (pcJ := 68) (LJ := [some (.ref (gAd Γ.1 k0)), some (.int p1), some (.int x2), some (.int x3), some (.int x4), some (.int x5), some (.int x6)]) (sJ := []) (fun w57 => ?_) (fun kj57 => ?_)
      · exact At.mask [true, true, true, true, false, true, true] rfl rfl (f_X10_silence_J68_at fu σ k0 p1 ag33 h z hk0 x2 x3 x5 x6 w57 hg33)
      · refine j_if_ne (pc := 57) (tgt := 67) h dX10_silence_57 (by decide) (fun hc57_0 => ?_) (fun hc57_0 => ?_)
        · refine x_iconst (pc := 67) (v := 0) h dX10_silence_67 (by decide) ?_
          exact kj57 0 (by rw [if_neg hc57_0])
        · refine x_iload (pc := 60) h dX10_silence_60 rfl ?_
          refine x_iconst (pc := 62) (v := 1) h dX10_silence_62 (by decide) ?_
          refine x_iadd (pc := 63) h dX10_silence_63 ?_
          refine x_goto (pc := 64) (tgt := 68) h dX10_silence_64 (by decide) ?_
          exact kj57 (x4 + 1) (by rw [if_pos hc57_0])

