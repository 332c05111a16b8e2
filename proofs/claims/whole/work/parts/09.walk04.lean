set_option maxRecDepth 20000 in
set_option maxHeartbeats 4000000 in
theorem c_X9_termOf (fu : Nat) (σ : gSt) (k0 : Nat) (p1 : Int32) (p2 : Int32) (hk0 : isO k0 9) : gCt yX9_termOf cX9_termOf 3 (some .int) 6 134 (gQp σ) (fun ad => [.ref (ad k0), .int p1, .int p2]) σ (f_X9_termOf fu σ k0 p1 p2) := by
  refine gCt_intro RX9 rfl (by decide +kernel) (fun ad v hv => by simp only [List.mem_cons, List.not_mem_nil, or_false] at hv; rcases hv with rfl | rfl | rfl <;> rfl) (fun ad => Nat.le_of_ble_eq_true rfl) (fun Γ h z => ?_)
  show At Γ 0 [some (.ref (gAd Γ.1 k0)), some (.int p1), some (.int p2)] [] σ _
  unfold f_X9_termOf
  refine x_aload_n (pc := 0) (i := 0) h dX9_termOf_0 rfl rfl ?_
  refine gf_X9_31 (pc := 1) h hk0 dX9_termOf_1 ?_
  refine x_iload_n (pc := 4) (i := 1) h dX9_termOf_4 rfl rfl ?_
  refine x_iload_n (pc := 5) (i := 2) h dX9_termOf_5 rfl rfl ?_
  refine x_Vp (pc := 6) (av := fun ad => [.int p1, .int p2]) (rest := []) h m_X5_ofTerm i_X5_ofTerm kl_X9_96 (t_9_3 hk0) (by decide) rfl (c_X5_ofTerm fu σ (k0 + 1) p1 p2 (t_9_3 hk0)) rfl rfl (gCaM rfl) dX9_termOf_6 (fun v6 => ?_)
  exact x_iretp (pc := 9) h z rfl .int rfl rfl dX9_termOf_9

set_option maxRecDepth 20000 in
set_option maxHeartbeats 4000000 in
theorem f_X10_chain_L4_at (fu : Nat) (σ : gSt) (k0 : Nat) (p1 : Int32) (ag4 : Int32 → Int32 → Option (Int32)) {Γ : gX (Int32)} (h : gOk Γ cX10_chain 4 RX10 (some .int) 0 0) (z : gEnd Γ (gQp σ)) (hk0 : isO k0 10) (hg4 : ∀ (y2 : Int32) (y3 : Int32), At Γ 4 [some (.ref (gAd Γ.1 k0)), none, some (.int y2), some (.int y3)] [] σ (ag4 y2 y3)) (x2 : Int32) (x3 : Int32) : At Γ 4 [some (.ref (gAd Γ.1 k0)), none, some (.int x2), some (.int x3)] [] σ (f_X10_chain_L4 fu σ k0 p1 ag4 x2 x3) := by
  unfold f_X10_chain_L4
  refine x_aload_n (pc := 4) (i := 0) h dX10_chain_4 rfl rfl ?_
  refine gf_X10_7 (pc := 5) h hk0 dX10_chain_5 ?_
  refine x_sipush (pc := 8) (v := 260) h dX10_chain_8 (by decide) ?_
  refine x_iload_n (pc := 11) (i := 3) h dX10_chain_11 rfl rfl ?_
  refine x_iadd (pc := 12) h dX10_chain_12 ?_
  refine x_iald (pc := 13) h (t_10_0 hk0) dX10_chain_13 (fun v13 => ?_)
  refine x_if_lt (pc := 14) (tgt := 34) h dX10_chain_14 (by decide) ?_ ?_
  · refine x_iload_n (pc := 34) (i := 2) h dX10_chain_34 rfl rfl ?_
    exact x_iretp (pc := 35) h z rfl .int rfl rfl dX10_chain_35
  · refine x_iinc (pc := 17) (i := 2) (v := (x2 + 1)) (L' := [some (.ref (gAd Γ.1 k0)), none, some (.int (x2 + 1)), some (.int x3)]) h dX10_chain_17 rfl rfl rfl ?_
    refine x_aload_n (pc := 20) (i := 0) h dX10_chain_20 rfl rfl ?_
    refine gf_X10_7 (pc := 21) h hk0 dX10_chain_21 ?_
    refine x_sipush (pc := 24) (v := 260) h dX10_chain_24 (by decide) ?_
    refine x_iload_n (pc := 27) (i := 3) h dX10_chain_27 rfl rfl ?_
    refine x_iadd (pc := 28) h dX10_chain_28 ?_
    refine x_iald (pc := 29) h (t_10_0 hk0) dX10_chain_29 (fun v29 => ?_)
    refine x_istore_n (pc := 30) (i := 3) (L' := [some (.ref (gAd Γ.1 k0)), none, some (.int (x2 + 1)), some (.int v29)]) h dX10_chain_30 rfl (Nat.le_of_ble_eq_true rfl) rfl ?_
    refine x_goto (pc := 31) (tgt := 4) h dX10_chain_31 (by decide) ?_
    exact At.mask [true, false, true, true] rfl rfl (hg4 (x2 + 1) v29)

theorem f_X10_chain_W4_at (fu : Nat) (σ : gSt) (k0 : Nat) (p1 : Int32) {Γ : gX (Int32)} (h : gOk Γ cX10_chain 4 RX10 (some .int) 0 0) (z : gEnd Γ (gQp σ)) (hk0 : isO k0 10) : ∀ (n : Nat) (x2 : Int32) (x3 : Int32), At Γ 4 [some (.ref (gAd Γ.1 k0)), none, some (.int x2), some (.int x3)] [] σ (f_X10_chain_W4 fu σ k0 p1 n x2 x3) := by
  intro n
  induction n with
  | zero => intro x2 x3 r hr; cases hr
  | succ n ih =>
    intro x2 x3
    exact f_X10_chain_L4_at fu σ k0 p1 (f_X10_chain_W4 fu σ k0 p1 n) h z hk0 ih x2 x3

set_option maxRecDepth 20000 in
set_option maxHeartbeats 4000000 in
theorem c_X10_chain (fu : Nat) (σ : gSt) (k0 : Nat) (p1 : Int32) (hk0 : isO k0 10) : gCt yX10_chain cX10_chain 4 (some .int) 0 0 (gQp σ) (fun ad => [.ref (ad k0), .int p1]) σ (f_X10_chain fu σ k0 p1) := by
  refine gCt_intro RX10 rfl (by decide +kernel) (fun ad v hv => by simp only [List.mem_cons, List.not_mem_nil, or_false] at hv; rcases hv with rfl | rfl <;> rfl) (fun ad => Nat.le_of_ble_eq_true rfl) (fun Γ h z => ?_)
  show At Γ 0 [some (.ref (gAd Γ.1 k0)), some (.int p1), none, none] [] σ _
  unfold f_X10_chain
  refine x_iconst (pc := 0) (v := 0) h dX10_chain_0 (by decide) ?_
  refine x_istore_n (pc := 1) (i := 2) (L' := [some (.ref (gAd Γ.1 k0)), some (.int p1), some (.int 0), none]) h dX10_chain_1 rfl (Nat.le_of_ble_eq_true rfl) rfl ?_
  refine x_iload_n (pc := 2) (i := 1) h dX10_chain_2 rfl rfl ?_
  refine x_istore_n (pc := 3) (i := 3) (L' := [some (.ref (gAd Γ.1 k0)), some (.int p1), some (.int 0), some (.int p1)]) h dX10_chain_3 rfl (Nat.le_of_ble_eq_true rfl) rfl ?_
  exact At.mask [true, false, true, true] rfl rfl (f_X10_chain_W4_at fu σ k0 p1 h z hk0 fu 0 p1)

set_option maxRecDepth 20000 in
set_option maxHeartbeats 4000000 in
theorem f_X10_shownAs_L4_at (fu : Nat) (σ : gSt) (k0 : Nat) (p1 : Int32) (ag4 : Int32 → Int32 → Option (Int32)) {Γ : gX (Int32)} (h : gOk Γ cX10_shownAs 4 RX10 (some .int) 1 22) (z : gEnd Γ (gQp σ)) (hk0 : isO k0 10) (hg4 : ∀ (y2 : Int32) (y3 : Int32), At Γ 4 [some (.ref (gAd Γ.1 k0)), some (.int p1), some (.int y2), some (.int y3)] [] σ (ag4 y2 y3)) (x2 : Int32) (x3 : Int32) : At Γ 4 [some (.ref (gAd Γ.1 k0)), some (.int p1), some (.int x2), some (.int x3)] [] σ (f_X10_shownAs_L4 fu σ k0 p1 ag4 x2 x3) := by
  unfold f_X10_shownAs_L4
  refine x_iload_n (pc := 4) (i := 3) h dX10_shownAs_4 rfl rfl ?_
  refine x_bipush (pc := 5) (v := 16) h dX10_shownAs_5 (by decide) ?_
  refine x_icmp_ge (pc := 7) (tgt := 35) h dX10_shownAs_7 (by decide) ?_ ?_
  · refine x_iload_n (pc := 35) (i := 2) h dX10_shownAs_35 rfl rfl ?_
    exact x_iretp (pc := 36) h z rfl .int rfl rfl dX10_shownAs_36
  · refine x_iload_n (pc := 10) (i := 2) h dX10_shownAs_10 rfl rfl ?_
    refine x_aload_n (pc := 11) (i := 0) h dX10_shownAs_11 rfl rfl ?_
    refine x_iload_n (pc := 12) (i := 3) h dX10_shownAs_12 rfl rfl ?_
    refine x_Vp (pc := 13) (av := fun ad => [.int x3]) (rest := [.int x2]) h m_X10_shown i_X10_shown kl_X10_73 hk0 (by decide) rfl (c_X10_shown fu σ k0 x3 hk0) rfl rfl (gCaM rfl) dX10_shownAs_13 (fun v13 => ?_)
    refine x_iload_n (pc := 16) (i := 1) h dX10_shownAs_16 rfl rfl ?_
    refine x_nm (e := (if v13 = p1 then (1 <<< (x3 &&& 31)) else 0)) (pcJ := 27) (LJ := [some (.ref (gAd Γ.1 k0)), some (.int p1), some (.int x2), some (.int x3)]) (sJ := [.int x2]) (fun w17 => ?_) (fun kj17 => ?_)
    · refine x_ior (pc := 27) h dX10_shownAs_27 ?_
      refine x_istore_n (pc := 28) (i := 2) (L' := [some (.ref (gAd Γ.1 k0)), some (.int p1), some (.int (x2 ||| w17)), some (.int x3)]) h dX10_shownAs_28 rfl (Nat.le_of_ble_eq_true rfl) rfl ?_
      refine x_iinc (pc := 29) (i := 3) (v := (x3 + 1)) (L' := [some (.ref (gAd Γ.1 k0)), some (.int p1), some (.int (x2 ||| w17)), some (.int (x3 + 1))]) h dX10_shownAs_29 rfl rfl rfl ?_
      refine x_goto (pc := 32) (tgt := 4) h dX10_shownAs_32 (by decide) ?_
      exact At.mask [true, true, true, true] rfl rfl (hg4 (x2 ||| w17) (x3 + 1))
    · refine j_icmp_ne (pc := 17) (tgt := 26) h dX10_shownAs_17 (by decide) (fun hc17_0 => ?_) (fun hc17_0 => ?_)
      · refine x_iconst (pc := 26) (v := 0) h dX10_shownAs_26 (by decide) ?_
        exact kj17 0 (by rw [if_neg hc17_0])
      · refine x_iconst (pc := 20) (v := 1) h dX10_shownAs_20 (by decide) ?_
        refine x_iload_n (pc := 21) (i := 3) h dX10_shownAs_21 rfl rfl ?_
        refine x_ishl (pc := 22) h dX10_shownAs_22 ?_
        refine x_goto (pc := 23) (tgt := 27) h dX10_shownAs_23 (by decide) ?_
        exact kj17 (1 <<< (x3 &&& 31)) (by rw [if_pos hc17_0])

theorem f_X10_shownAs_W4_at (fu : Nat) (σ : gSt) (k0 : Nat) (p1 : Int32) {Γ : gX (Int32)} (h : gOk Γ cX10_shownAs 4 RX10 (some .int) 1 22) (z : gEnd Γ (gQp σ)) (hk0 : isO k0 10) : ∀ (n : Nat) (x2 : Int32) (x3 : Int32), At Γ 4 [some (.ref (gAd Γ.1 k0)), some (.int p1), some (.int x2), some (.int x3)] [] σ (f_X10_shownAs_W4 fu σ k0 p1 n x2 x3) := by
  intro n
  induction n with
  | zero => intro x2 x3 r hr; cases hr
  | succ n ih =>
    intro x2 x3
    exact f_X10_shownAs_L4_at fu σ k0 p1 (f_X10_shownAs_W4 fu σ k0 p1 n) h z hk0 ih x2 x3

set_option maxRecDepth 20000 in
set_option maxHeartbeats 4000000 in
theorem c_X10_shownAs (fu : Nat) (σ : gSt) (k0 : Nat) (p1 : Int32) (hk0 : isO k0 10) : gCt yX10_shownAs cX10_shownAs 4 (some .int) 1 22 (gQp σ) (fun ad => [.ref (ad k0), .int p1]) σ (f_X10_shownAs fu σ k0 p1) := by
  refine gCt_intro RX10 rfl (by decide +kernel) (fun ad v hv => by simp only [List.mem_cons, List.not_mem_nil, or_false] at hv; rcases hv with rfl | rfl <;> rfl) (fun ad => Nat.le_of_ble_eq_true rfl) (fun Γ h z => ?_)
  show At Γ 0 [some (.ref (gAd Γ.1 k0)), some (.int p1), none, none] [] σ _
  unfold f_X10_shownAs
  refine x_iconst (pc := 0) (v := 0) h dX10_shownAs_0 (by decide) ?_
  refine x_istore_n (pc := 1) (i := 2) (L' := [some (.ref (gAd Γ.1 k0)), some (.int p1), some (.int 0), none]) h dX10_shownAs_1 rfl (Nat.le_of_ble_eq_true rfl) rfl ?_
  refine x_iconst (pc := 2) (v := 0) h dX10_shownAs_2 (by decide) ?_
  refine x_istore_n (pc := 3) (i := 3) (L' := [some (.ref (gAd Γ.1 k0)), some (.int p1), some (.int 0), some (.int 0)]) h dX10_shownAs_3 rfl (Nat.le_of_ble_eq_true rfl) rfl ?_
  exact At.mask [true, true, true, true] rfl rfl (f_X10_shownAs_W4_at fu σ k0 p1 h z hk0 fu 0 0)

set_option maxRecDepth 20000 in
set_option maxHeartbeats 4000000 in
theorem f_X10_shows_L5_at (fu : Nat) (σ : gSt) (k0 : Nat) (p1 : Int32) (p2 : Int32) (ag5 : Int32 → Int32 → Option (Int32)) {Γ : gX (Int32)} (h : gOk Γ cX10_shows 5 RX10 (some .int) 1 22) (z : gEnd Γ (gQp σ)) (hk0 : isO k0 10) (hg5 : ∀ (y3 : Int32) (y4 : Int32), At Γ 5 [some (.ref (gAd Γ.1 k0)), some (.int p1), some (.int p2), some (.int y3), some (.int y4)] [] σ (ag5 y3 y4)) (x3 : Int32) (x4 : Int32) : At Γ 5 [some (.ref (gAd Γ.1 k0)), some (.int p1), some (.int p2), some (.int x3), some (.int x4)] [] σ (f_X10_shows_L5 fu σ k0 p1 p2 ag5 x3 x4) := by
  unfold f_X10_shows_L5
  refine x_iload (pc := 5) h dX10_shows_5 rfl ?_
  refine x_aload_n (pc := 7) (i := 0) h dX10_shows_7 rfl rfl ?_
  refine x_iload_n (pc := 8) (i := 1) h dX10_shows_8 rfl rfl ?_
  refine x_iconst (pc := 9) (v := 4) h dX10_shows_9 (by decide) ?_
  refine x_Vp (pc := 10) (av := fun ad => [.int p1, .int 4]) (rest := [.int x4]) h m_X10_of i_X10_of kl_X10_47 hk0 (by decide) rfl (c_X10_of fu σ k0 p1 4 hk0) rfl rfl (gCaM rfl) dX10_shows_10 (fun v10 => ?_)
  refine x_icmp_ge (pc := 13) (tgt := 47) h dX10_shows_13 (by decide) ?_ ?_
  · refine x_iload_n (pc := 47) (i := 3) h dX10_shows_47 rfl rfl ?_
    exact x_iretp (pc := 48) h z rfl .int rfl rfl dX10_shows_48
  · refine x_iload_n (pc := 16) (i := 3) h dX10_shows_16 rfl rfl ?_
    refine x_aload_n (pc := 17) (i := 0) h dX10_shows_17 rfl rfl ?_
    refine x_aload_n (pc := 18) (i := 0) h dX10_shows_18 rfl rfl ?_
    refine x_iload_n (pc := 19) (i := 1) h dX10_shows_19 rfl rfl ?_
    refine x_iconst (pc := 20) (v := 5) h dX10_shows_20 (by decide) ?_
    refine x_iload (pc := 21) h dX10_shows_21 rfl ?_
    refine x_iadd (pc := 23) h dX10_shows_23 ?_
    refine x_Vp (pc := 24) (av := fun ad => [.int p1, .int (5 + x4)]) (rest := [.ref (gAd Γ.1 k0), .int x3]) h m_X10_of i_X10_of kl_X10_47 hk0 (by decide) rfl (c_X10_of fu σ k0 p1 (5 + x4) hk0) rfl rfl (gCaM rfl) dX10_shows_24 (fun v24 => ?_)
    refine x_Vp (pc := 27) (av := fun ad => [.int v24]) (rest := [.int x3]) h m_X10_shown i_X10_shown kl_X10_73 hk0 (by decide) rfl (c_X10_shown fu σ k0 v24 hk0) rfl rfl (gCaM rfl) dX10_shows_27 (fun v27 => ?_)
    refine x_iload_n (pc := 30) (i := 2) h dX10_shows_30 rfl rfl ?_
    refine x_nm (e := (if v27 = p2 then 1 else 0)) (pcJ := 39) (LJ := [some (.ref (gAd Γ.1 k0)), some (.int p1), some (.int p2), some (.int x3), some (.int x4)]) (sJ := [.int x3]) (fun w31 => ?_) (fun kj31 => ?_)
    · refine x_iadd (pc := 39) h dX10_shows_39 ?_
      refine x_istore_n (pc := 40) (i := 3) (L' := [some (.ref (gAd Γ.1 k0)), some (.int p1), some (.int p2), some (.int (x3 + w31)), some (.int x4)]) h dX10_shows_40 rfl (Nat.le_of_ble_eq_true rfl) rfl ?_
      refine x_iinc (pc := 41) (i := 4) (v := (x4 + 1)) (L' := [some (.ref (gAd Γ.1 k0)), some (.int p1), some (.int p2), some (.int (x3 + w31)), some (.int (x4 + 1))]) h dX10_shows_41 rfl rfl rfl ?_
      refine x_goto (pc := 44) (tgt := 5) h dX10_shows_44 (by decide) ?_
      exact At.mask [true, true, true, true, true] rfl rfl (hg5 (x3 + w31) (x4 + 1))
    · refine j_icmp_ne (pc := 31) (tgt := 38) h dX10_shows_31 (by decide) (fun hc31_0 => ?_) (fun hc31_0 => ?_)
      · refine x_iconst (pc := 38) (v := 0) h dX10_shows_38 (by decide) ?_
        exact kj31 0 (by rw [if_neg hc31_0])
      · refine x_iconst (pc := 34) (v := 1) h dX10_shows_34 (by decide) ?_
        refine x_goto (pc := 35) (tgt := 39) h dX10_shows_35 (by decide) ?_
        exact kj31 1 (by rw [if_pos hc31_0])

theorem f_X10_shows_W5_at (fu : Nat) (σ : gSt) (k0 : Nat) (p1 : Int32) (p2 : Int32) {Γ : gX (Int32)} (h : gOk Γ cX10_shows 5 RX10 (some .int) 1 22) (z : gEnd Γ (gQp σ)) (hk0 : isO k0 10) : ∀ (n : Nat) (x3 : Int32) (x4 : Int32), At Γ 5 [some (.ref (gAd Γ.1 k0)), some (.int p1), some (.int p2), some (.int x3), some (.int x4)] [] σ (f_X10_shows_W5 fu σ k0 p1 p2 n x3 x4) := by
  intro n
  induction n with
  | zero => intro x3 x4 r hr; cases hr
  | succ n ih =>
    intro x3 x4
    exact f_X10_shows_L5_at fu σ k0 p1 p2 (f_X10_shows_W5 fu σ k0 p1 p2 n) h z hk0 ih x3 x4

set_option maxRecDepth 20000 in
set_option maxHeartbeats 4000000 in
theorem c_X10_shows (fu : Nat) (σ : gSt) (k0 : Nat) (p1 : Int32) (p2 : Int32) (hk0 : isO k0 10) : gCt yX10_shows cX10_shows 5 (some .int) 1 22 (gQp σ) (fun ad => [.ref (ad k0), .int p1, .int p2]) σ (f_X10_shows fu σ k0 p1 p2) := by
  refine gCt_intro RX10 rfl (by decide +kernel) (fun ad v hv => by simp only [List.mem_cons, List.not_mem_nil, or_false] at hv; rcases hv with rfl | rfl | rfl <;> rfl) (fun ad => Nat.le_of_ble_eq_true rfl) (fun Γ h z => ?_)
  show At Γ 0 [some (.ref (gAd Γ.1 k0)), some (.int p1), some (.int p2), none, none] [] σ _
  unfold f_X10_shows
  refine x_iconst (pc := 0) (v := 0) h dX10_shows_0 (by decide) ?_
  refine x_istore_n (pc := 1) (i := 3) (L' := [some (.ref (gAd Γ.1 k0)), some (.int p1), some (.int p2), some (.int 0), none]) h dX10_shows_1 rfl (Nat.le_of_ble_eq_true rfl) rfl ?_
  refine x_iconst (pc := 2) (v := 0) h dX10_shows_2 (by decide) ?_
  refine x_istore (pc := 3) (L' := [some (.ref (gAd Γ.1 k0)), some (.int p1), some (.int p2), some (.int 0), some (.int 0)]) h dX10_shows_3 (Nat.le_of_ble_eq_true rfl) rfl ?_
  exact At.mask [true, true, true, true, true] rfl rfl (f_X10_shows_W5_at fu σ k0 p1 p2 h z hk0 fu 0 0)

set_option maxRecDepth 20000 in
set_option maxHeartbeats 4000000 in
theorem f_X10_showing_J50_at (fu : Nat) (σ : gSt) (k0 : Nat) (p1 : Int32) (p2 : Int32) (ag5 : Int32 → Int32 → Option (Int32)) {Γ : gX (Int32)} (h : gOk Γ cX10_showing 7 RX10 (some .int) 2 46) (z : gEnd Γ (gQp σ)) (hk0 : isO k0 10) (x3 : Int32) (x4 : Int32) (x5 : Int32) (s1 : Int32) (hg5 : ∀ (y3 : Int32) (y4 : Int32), At Γ 5 [some (.ref (gAd Γ.1 k0)), some (.int p1), some (.int p2), some (.int y3), some (.int y4), none, none] [] σ (ag5 y3 y4)) : At Γ 50 [some (.ref (gAd Γ.1 k0)), some (.int p1), some (.int p2), some (.int x3), some (.int x4), some (.int x5), none] [.int s1] σ (f_X10_showing_J50 fu σ k0 p1 p2 ag5 x3 x4 x5 s1) := by
  unfold f_X10_showing_J50
  refine x_istore (pc := 50) (L' := [some (.ref (gAd Γ.1 k0)), some (.int p1), some (.int p2), some (.int x3), some (.int x4), some (.int x5), some (.int s1)]) h dX10_showing_50 (Nat.le_of_ble_eq_true rfl) rfl ?_
  refine x_iload_n (pc := 52) (i := 2) h dX10_showing_52 rfl rfl ?_
  refine x_iconst (pc := 53) (v := 3) h dX10_showing_53 (by decide) ?_
  refine x_nm (e := (if p2 = 3 then (x3 + x5) else (if x5 = 0 then x3 else (if p2 = 4 then (x3 ||| (1 <<< (x4 &&& 31))) else (x3 ||| s1))))) (pcJ := 89) (LJ := [some (.ref (gAd Γ.1 k0)), some (.int p1), some (.int p2), some (.int x3), some (.int x4), some (.int x5), some (.int s1)]) (sJ := []) (fun w54 => ?_) (fun kj54 => ?_)
  · refine x_istore_n (pc := 89) (i := 3) (L' := [some (.ref (gAd Γ.1 k0)), some (.int p1), some (.int p2), some (.int w54), some (.int x4), some (.int x5), some (.int s1)]) h dX10_showing_89 rfl (Nat.le_of_ble_eq_true rfl) rfl ?_
    refine x_iinc (pc := 90) (i := 4) (v := (x4 + 1)) (L' := [some (.ref (gAd Γ.1 k0)), some (.int p1), some (.int p2), some (.int w54), some (.int (x4 + 1)), some (.int x5), some (.int s1)]) h dX10_showing_90 rfl rfl rfl ?_
    refine x_goto (pc := 93) (tgt := 5) h dX10_showing_93 (by decide) ?_
    exact At.mask [true, true, true, true, true, false, false] rfl rfl (hg5 w54 (x4 + 1))
  · refine j_icmp_ne (pc := 54) (tgt := 64) h dX10_showing_54 (by decide) (fun hc54_0 => ?_) (fun hc54_0 => ?_)
    · refine x_iload (pc := 64) h dX10_showing_64 rfl ?_
      refine j_if_ne (pc := 66) (tgt := 73) h dX10_showing_66 (by decide) (fun hc66_1 => ?_) (fun hc66_1 => ?_)
      · refine x_iload_n (pc := 73) (i := 3) h dX10_showing_73 rfl rfl ?_
        refine x_iload_n (pc := 74) (i := 2) h dX10_showing_74 rfl rfl ?_
        refine x_iconst (pc := 75) (v := 4) h dX10_showing_75 (by decide) ?_
        refine j_icmp_ne (pc := 76) (tgt := 86) h dX10_showing_76 (by decide) (fun hc76_2 => ?_) (fun hc76_2 => ?_)
        · refine x_iload (pc := 86) h dX10_showing_86 rfl ?_
          refine x_ior (pc := 88) h dX10_showing_88 ?_
          exact kj54 (x3 ||| s1) (by rw [if_neg hc54_0, if_neg hc66_1, if_neg hc76_2])
        · refine x_iconst (pc := 79) (v := 1) h dX10_showing_79 (by decide) ?_
          refine x_iload (pc := 80) h dX10_showing_80 rfl ?_
          refine x_ishl (pc := 82) h dX10_showing_82 ?_
          refine x_goto (pc := 83) (tgt := 88) h dX10_showing_83 (by decide) ?_
          refine x_ior (pc := 88) h dX10_showing_88 ?_
          exact kj54 (x3 ||| (1 <<< (x4 &&& 31))) (by rw [if_neg hc54_0, if_neg hc66_1, if_pos hc76_2])
      · refine x_iload_n (pc := 69) (i := 3) h dX10_showing_69 rfl rfl ?_
        refine x_goto (pc := 70) (tgt := 89) h dX10_showing_70 (by decide) ?_
        exact kj54 x3 (by rw [if_neg hc54_0, if_pos hc66_1])
    · refine x_iload_n (pc := 57) (i := 3) h dX10_showing_57 rfl rfl ?_
      refine x_iload (pc := 58) h dX10_showing_58 rfl ?_
      refine x_iadd (pc := 60) h dX10_showing_60 ?_
      refine x_goto (pc := 61) (tgt := 89) h dX10_showing_61 (by decide) ?_
      exact kj54 (x3 + x5) (by rw [if_pos hc54_0])

set_option maxRecDepth 20000 in
set_option maxHeartbeats 4000000 in
theorem f_X10_showing_L5_at (fu : Nat) (σ : gSt) (k0 : Nat) (p1 : Int32) (p2 : Int32) (ag5 : Int32 → Int32 → Option (Int32)) {Γ : gX (Int32)} (h : gOk Γ cX10_showing 7 RX10 (some .int) 2 46) (z : gEnd Γ (gQp σ)) (hk0 : isO k0 10) (hg5 : ∀ (y3 : Int32) (y4 : Int32), At Γ 5 [some (.ref (gAd Γ.1 k0)), some (.int p1), some (.int p2), some (.int y3), some (.int y4), none, none] [] σ (ag5 y3 y4)) (x3 : Int32) (x4 : Int32) : At Γ 5 [some (.ref (gAd Γ.1 k0)), some (.int p1), some (.int p2), some (.int x3), some (.int x4), none, none] [] σ (f_X10_showing_L5 fu σ k0 p1 p2 ag5 x3 x4) := by
  unfold f_X10_showing_L5
  refine x_iload (pc := 5) h dX10_showing_5 rfl ?_
  refine x_aload_n (pc := 7) (i := 0) h dX10_showing_7 rfl rfl ?_
  refine gf_X10_7 (pc := 8) h hk0 dX10_showing_8 ?_
  refine x_sipush (pc := 11) (v := 282) h dX10_showing_11 (by decide) ?_
  refine x_ialdS (pc := 14) h 282 (t_10_0 hk0) (by decide) (by decide) (by decide) dX10_showing_14 ?_
  refine x_icmp_ge (pc := 15) (tgt := 96) h dX10_showing_15 (by decide) ?_ ?_
  · refine x_iload_n (pc := 96) (i := 3) h dX10_showing_96 rfl rfl ?_
    exact x_iretp (pc := 97) h z rfl .int rfl rfl dX10_showing_97
  · refine x_aload_n (pc := 18) (i := 0) h dX10_showing_18 rfl rfl ?_
    refine x_iload (pc := 19) h dX10_showing_19 rfl ?_
    refine x_iload_n (pc := 21) (i := 1) h dX10_showing_21 rfl rfl ?_
    refine x_Vp (pc := 22) (av := fun ad => [.int x4, .int p1]) (rest := []) h m_X10_shows i_X10_shows kl_X10_118 hk0 (by decide) rfl (c_X10_shows fu σ k0 x4 p1 hk0) rfl rfl (gCaM rfl) dX10_showing_22 (fun v22 => ?_)
    refine x_istore (pc := 25) (L' := [some (.ref (gAd Γ.1 k0)), some (.int p1), some (.int p2), some (.int x3), some (.int x4), some (.int v22), none]) h dX10_showing_25 (Nat.le_of_ble_eq_true rfl) rfl ?_
    refine x_aload_n (pc := 27) (i := 0) h dX10_showing_27 rfl rfl ?_
    refine x_iload (pc := 28) h dX10_showing_28 rfl ?_
    refine x_iconst (pc := 30) (v := 3) h dX10_showing_30 (by decide) ?_
    refine x_Vp (pc := 31) (av := fun ad => [.int x4, .int 3]) (rest := []) h m_X10_of i_X10_of kl_X10_47 hk0 (by decide) rfl (c_X10_of fu σ k0 x4 3 hk0) rfl rfl (gCaM rfl) dX10_showing_31 (fun v31 => ?_)
    refine x_if_lt (pc := 34) (tgt := 49) h dX10_showing_34 (by decide) ?_ ?_
    · refine x_iconst (pc := 49) (v := 0) h dX10_showing_49 (by decide) ?_
      exact At.mask [true, true, true, true, true, true, false] rfl rfl (f_X10_showing_J50_at fu σ k0 p1 p2 ag5 h z hk0 x3 x4 v22 0 hg5)
    · refine x_iconst (pc := 37) (v := 1) h dX10_showing_37 (by decide) ?_
      refine x_aload_n (pc := 38) (i := 0) h dX10_showing_38 rfl rfl ?_
      refine x_iload (pc := 39) h dX10_showing_39 rfl ?_
      refine x_iconst (pc := 41) (v := 3) h dX10_showing_41 (by decide) ?_
      refine x_Vp (pc := 42) (av := fun ad => [.int x4, .int 3]) (rest := [.int 1]) h m_X10_of i_X10_of kl_X10_47 hk0 (by decide) rfl (c_X10_of fu σ k0 x4 3 hk0) rfl rfl (gCaM rfl) dX10_showing_42 (fun v42 => ?_)
      refine x_ishl (pc := 45) h dX10_showing_45 ?_
      refine x_goto (pc := 46) (tgt := 50) h dX10_showing_46 (by decide) ?_
      exact At.mask [true, true, true, true, true, true, false] rfl rfl (f_X10_showing_J50_at fu σ k0 p1 p2 ag5 h z hk0 x3 x4 v22 (1 <<< (v42 &&& 31)) hg5)

theorem f_X10_showing_W5_at (fu : Nat) (σ : gSt) (k0 : Nat) (p1 : Int32) (p2 : Int32) {Γ : gX (Int32)} (h : gOk Γ cX10_showing 7 RX10 (some .int) 2 46) (z : gEnd Γ (gQp σ)) (hk0 : isO k0 10) : ∀ (n : Nat) (x3 : Int32) (x4 : Int32), At Γ 5 [some (.ref (gAd Γ.1 k0)), some (.int p1), some (.int p2), some (.int x3), some (.int x4), none, none] [] σ (f_X10_showing_W5 fu σ k0 p1 p2 n x3 x4) := by
  intro n
  induction n with
  | zero => intro x3 x4 r hr; cases hr
  | succ n ih =>
    intro x3 x4
    exact f_X10_showing_L5_at fu σ k0 p1 p2 (f_X10_showing_W5 fu σ k0 p1 p2 n) h z hk0 ih x3 x4

set_option maxRecDepth 20000 in
set_option maxHeartbeats 4000000 in
theorem c_X10_showing (fu : Nat) (σ : gSt) (k0 : Nat) (p1 : Int32) (p2 : Int32) (hk0 : isO k0 10) : gCt yX10_showing cX10_showing 7 (some .int) 2 46 (gQp σ) (fun ad => [.ref (ad k0), .int p1, .int p2]) σ (f_X10_showing fu σ k0 p1 p2) := by
  refine gCt_intro RX10 rfl (by decide +kernel) (fun ad v hv => by simp only [List.mem_cons, List.not_mem_nil, or_false] at hv; rcases hv with rfl | rfl | rfl <;> rfl) (fun ad => Nat.le_of_ble_eq_true rfl) (fun Γ h z => ?_)
  show At Γ 0 [some (.ref (gAd Γ.1 k0)), some (.int p1), some (.int p2), none, none, none, none] [] σ _
  unfold f_X10_showing
  refine x_iconst (pc := 0) (v := 0) h dX10_showing_0 (by decide) ?_
  refine x_istore_n (pc := 1) (i := 3) (L' := [some (.ref (gAd Γ.1 k0)), some (.int p1), some (.int p2), some (.int 0), none, none, none]) h dX10_showing_1 rfl (Nat.le_of_ble_eq_true rfl) rfl ?_
  refine x_iconst (pc := 2) (v := 0) h dX10_showing_2 (by decide) ?_
  refine x_istore (pc := 3) (L' := [some (.ref (gAd Γ.1 k0)), some (.int p1), some (.int p2), some (.int 0), some (.int 0), none, none]) h dX10_showing_3 (Nat.le_of_ble_eq_true rfl) rfl ?_
  exact At.mask [true, true, true, true, true, false, false] rfl rfl (f_X10_showing_W5_at fu σ k0 p1 p2 h z hk0 fu 0 0)

set_option maxRecDepth 20000 in
set_option maxHeartbeats 4000000 in
theorem f_X10_termOf_J111_at (fu : Nat) (σ : gSt) (k0 : Nat) (p1 : Int32) (p2 : Int32) {Γ : gX (Int32)} (h : gOk Γ cX10_termOf 3 RX10 (some .int) 3 72) (z : gEnd Γ (gQp σ)) (hk0 : isO k0 10) : At Γ 111 [some (.ref (gAd Γ.1 k0)), some (.int p1), some (.int p2)] [] σ (f_X10_termOf_J111 fu σ k0 p1 p2) := by
  unfold f_X10_termOf_J111
  refine x_aload_n (pc := 111) (i := 0) h dX10_termOf_111 rfl rfl ?_
  refine x_iload_n (pc := 112) (i := 1) h dX10_termOf_112 rfl rfl ?_
  refine x_iload_n (pc := 113) (i := 2) h dX10_termOf_113 rfl rfl ?_
  refine x_Vp (pc := 114) (av := fun ad => [.int p1, .int p2]) (rest := []) h m_X10_showing i_X10_showing kl_X10_127 hk0 (by decide) rfl (c_X10_showing fu σ k0 p1 p2 hk0) rfl rfl (gCaM rfl) dX10_termOf_114 (fun v114 => ?_)
  exact x_iretp (pc := 117) h z rfl .int rfl rfl dX10_termOf_117

set_option maxRecDepth 20000 in
set_option maxHeartbeats 4000000 in
theorem c_X10_termOf (fu : Nat) (σ : gSt) (k0 : Nat) (p1 : Int32) (p2 : Int32) (hk0 : isO k0 10) : gCt yX10_termOf cX10_termOf 3 (some .int) 3 72 (gQp σ) (fun ad => [.ref (ad k0), .int p1, .int p2]) σ (f_X10_termOf fu σ k0 p1 p2) := by
  refine gCt_intro RX10 rfl (by decide +kernel) (fun ad v hv => by simp only [List.mem_cons, List.not_mem_nil, or_false] at hv; rcases hv with rfl | rfl | rfl <;> rfl) (fun ad => Nat.le_of_ble_eq_true rfl) (fun Γ h z => ?_)
  show At Γ 0 [some (.ref (gAd Γ.1 k0)), some (.int p1), some (.int p2)] [] σ _
  unfold f_X10_termOf
  refine x_iload_n (pc := 0) (i := 1) h dX10_termOf_0 rfl rfl ?_
  refine x_Sp (pc := 1) (av := fun ad => [.int p1]) (rest := []) h m_X10_isTerm s_X10_isTerm kl_X10_70 (c_X10_isTerm fu σ p1) rfl rfl (gCaM rfl) dX10_termOf_1 (fun v1 => ?_)
  refine x_if_eq (pc := 4) (tgt := 17) h dX10_termOf_4 (by decide) ?_ ?_
  · refine x_ldc (pc := 17) h kc_X10_50 dX10_termOf_17 ?_
    exact x_iretp (pc := 19) h z rfl .int rfl rfl dX10_termOf_19
  · refine x_iload_n (pc := 7) (i := 2) h dX10_termOf_7 rfl rfl ?_
    refine x_iconst (pc := 8) (v := 0) h dX10_termOf_8 (by decide) ?_
    refine x_bipush (pc := 9) (v := 6) h dX10_termOf_9 (by decide) ?_
    refine x_Sp (pc := 11) (av := fun ad => [.int p2, .int 0, .int 6]) (rest := []) h m_X10_in s_X10_in kl_X10_39 (c_X10_in fu σ p2 0 6) rfl rfl (gCaM rfl) dX10_termOf_11 (fun v11 => ?_)
    refine x_if_ne (pc := 14) (tgt := 20) h dX10_termOf_14 (by decide) ?_ ?_
    · refine x_iload_n (pc := 20) (i := 2) h dX10_termOf_20 rfl rfl ?_
      refine x_tsw (pc := 21) (tgt := 64) h 0 (0) dX10_termOf_21 rfl (by decide) (by decide) rfl (by decide) ?_ (fun c21_0 => ?_)
      · refine x_aload_n (pc := 64) (i := 0) h dX10_termOf_64 rfl rfl ?_
        refine gf_X10_7 (pc := 65) h hk0 dX10_termOf_65 ?_
        refine x_sipush (pc := 68) (v := 260) h dX10_termOf_68 (by decide) ?_
        refine x_iload_n (pc := 71) (i := 1) h dX10_termOf_71 rfl rfl ?_
        refine x_iadd (pc := 72) h dX10_termOf_72 ?_
        refine x_iald (pc := 73) h (t_10_0 hk0) dX10_termOf_73 (fun v73 => ?_)
        refine x_if_ge (pc := 74) (tgt := 82) h dX10_termOf_74 (by decide) ?_ ?_
        · refine x_aload_n (pc := 82) (i := 0) h dX10_termOf_82 rfl rfl ?_
          refine gf_X10_7 (pc := 83) h hk0 dX10_termOf_83 ?_
          refine x_sipush (pc := 86) (v := 260) h dX10_termOf_86 (by decide) ?_
          refine x_iload_n (pc := 89) (i := 1) h dX10_termOf_89 rfl rfl ?_
          refine x_iadd (pc := 90) h dX10_termOf_90 ?_
          refine x_iald (pc := 91) h (t_10_0 hk0) dX10_termOf_91 (fun v91 => ?_)
          exact x_iretp (pc := 92) h z rfl .int rfl rfl dX10_termOf_92
        · refine x_ldc (pc := 77) h kc_X10_110 dX10_termOf_77 ?_
          refine x_goto (pc := 79) (tgt := 92) h dX10_termOf_79 (by decide) ?_
          exact x_iretp (pc := 92) h z rfl .int rfl rfl dX10_termOf_92
      refine x_tsw (pc := 21) (tgt := 93) h 1 (1) dX10_termOf_21 rfl (by decide) (by decide) rfl (by decide) ?_ (fun c21_1 => ?_)
      · refine x_aload_n (pc := 93) (i := 0) h dX10_termOf_93 rfl rfl ?_
        refine x_iload_n (pc := 94) (i := 1) h dX10_termOf_94 rfl rfl ?_
        refine x_Vp (pc := 95) (av := fun ad => [.int p1]) (rest := []) h m_X10_shown i_X10_shown kl_X10_73 hk0 (by decide) rfl (c_X10_shown fu σ k0 p1 hk0) rfl rfl (gCaM rfl) dX10_termOf_95 (fun v95 => ?_)
        exact x_iretp (pc := 98) h z rfl .int rfl rfl dX10_termOf_98
      refine x_tsw (pc := 21) (tgt := 99) h 2 (2) dX10_termOf_21 rfl (by decide) (by decide) rfl (by decide) ?_ (fun c21_2 => ?_)
      · refine x_aload_n (pc := 99) (i := 0) h dX10_termOf_99 rfl rfl ?_
        refine x_iload_n (pc := 100) (i := 1) h dX10_termOf_100 rfl rfl ?_
        refine x_Vp (pc := 101) (av := fun ad => [.int p1]) (rest := []) h m_X10_chain i_X10_chain kl_X10_121 hk0 (by decide) rfl (c_X10_chain fu σ k0 p1 hk0) rfl rfl (gCaM rfl) dX10_termOf_101 (fun v101 => ?_)
        exact x_iretp (pc := 104) h z rfl .int rfl rfl dX10_termOf_104
      refine x_tsw (pc := 21) (tgt := 111) h 3 (3) dX10_termOf_21 rfl (by decide) (by decide) rfl (by decide) ?_ (fun c21_3 => ?_)
      · exact At.mask [true, true, true] rfl rfl (f_X10_termOf_J111_at fu σ k0 p1 p2 h z hk0)
      refine x_tsw (pc := 21) (tgt := 111) h 4 (4) dX10_termOf_21 rfl (by decide) (by decide) rfl (by decide) ?_ (fun c21_4 => ?_)
      · exact At.mask [true, true, true] rfl rfl (f_X10_termOf_J111_at fu σ k0 p1 p2 h z hk0)
      refine x_tsw (pc := 21) (tgt := 111) h 5 (5) dX10_termOf_21 rfl (by decide) (by decide) rfl (by decide) ?_ (fun c21_5 => ?_)
      · exact At.mask [true, true, true] rfl rfl (f_X10_termOf_J111_at fu σ k0 p1 p2 h z hk0)
      refine x_tsw (pc := 21) (tgt := 105) h 6 (6) dX10_termOf_21 rfl (by decide) (by decide) rfl (by decide) ?_ (fun c21_6 => ?_)
      · refine x_aload_n (pc := 105) (i := 0) h dX10_termOf_105 rfl rfl ?_
        refine x_iload_n (pc := 106) (i := 1) h dX10_termOf_106 rfl rfl ?_
        refine x_Vp (pc := 107) (av := fun ad => [.int p1]) (rest := []) h m_X10_shownAs i_X10_shownAs kl_X10_124 hk0 (by decide) rfl (c_X10_shownAs fu σ k0 p1 hk0) rfl rfl (gCaM rfl) dX10_termOf_107 (fun v107 => ?_)
        exact x_iretp (pc := 110) h z rfl .int rfl rfl dX10_termOf_110
      refine x_tswd (pc := 21) (tgt := 111) h dX10_termOf_21 (by have e0 := gNe (0) c21_0 rfl; have e1 := gNe (1) c21_1 rfl; have e2 := gNe (2) c21_2 rfl; have e3 := gNe (3) c21_3 rfl; have e4 := gNe (4) c21_4 rfl; have e5 := gNe (5) c21_5 rfl; have e6 := gNe (6) c21_6 rfl; omega) (by decide) ?_
      exact At.mask [true, true, true] rfl rfl (f_X10_termOf_J111_at fu σ k0 p1 p2 h z hk0)
    · refine x_ldc (pc := 17) h kc_X10_50 dX10_termOf_17 ?_
      exact x_iretp (pc := 19) h z rfl .int rfl rfl dX10_termOf_19

set_option maxRecDepth 20000 in
set_option maxHeartbeats 4000000 in
theorem c_X8_secondsOfAll (fu : Nat) (σ : gSt) (k0 : Nat) (p1 : Int32) (hk0 : isO k0 8) : gCt yX8_secondsOfAll cX8_secondsOfAll 2 (some .int) 1 24 (gQp σ) (fun ad => [.ref (ad k0), .int p1]) σ (f_X8_secondsOfAll fu σ k0 p1) := by
  refine gCt_intro RX8 rfl (by decide +kernel) (fun ad v hv => by simp only [List.mem_cons, List.not_mem_nil, or_false] at hv; rcases hv with rfl | rfl <;> rfl) (fun ad => Nat.le_of_ble_eq_true rfl) (fun Γ h z => ?_)
  show At Γ 0 [some (.ref (gAd Γ.1 k0)), some (.int p1)] [] σ _
  unfold f_X8_secondsOfAll
  refine x_aload_n (pc := 0) (i := 0) h dX8_secondsOfAll_0 rfl rfl ?_
  refine x_aload_n (pc := 1) (i := 0) h dX8_secondsOfAll_1 rfl rfl ?_
  refine gf_X8_15 (pc := 2) h hk0 dX8_secondsOfAll_2 ?_
  refine x_iload_n (pc := 5) (i := 1) h dX8_secondsOfAll_5 rfl rfl ?_
  refine x_Vp (pc := 6) (av := fun ad => [.ref (ad (k0 + 2)), .int p1]) (rest := []) h m_X8_sumOf i_X8_sumOf kl_X8_73 hk0 (by decide) rfl (c_X8_sumOf fu σ k0 (k0 + 2) 20 p1 hk0 (t_8_1 hk0)) rfl rfl (gCaM rfl) dX8_secondsOfAll_6 (fun v6 => ?_)
  refine x_aload_n (pc := 9) (i := 0) h dX8_secondsOfAll_9 rfl rfl ?_
  refine x_aload_n (pc := 10) (i := 0) h dX8_secondsOfAll_10 rfl rfl ?_
  refine gf_X8_9 (pc := 11) h hk0 dX8_secondsOfAll_11 ?_
  refine x_iload_n (pc := 14) (i := 1) h dX8_secondsOfAll_14 rfl rfl ?_
  refine x_Vp (pc := 15) (av := fun ad => [.ref (ad (k0 + 1)), .int p1]) (rest := [.int v6]) h m_X8_sumOf i_X8_sumOf kl_X8_73 hk0 (by decide) rfl (c_X8_sumOf fu σ k0 (k0 + 1) 20 p1 hk0 (t_8_0 hk0)) rfl rfl (gCaM rfl) dX8_secondsOfAll_15 (fun v15 => ?_)
  refine x_isub (pc := 18) h dX8_secondsOfAll_18 ?_
  exact x_iretp (pc := 19) h z rfl .int rfl rfl dX8_secondsOfAll_19

set_option maxRecDepth 20000 in
set_option maxHeartbeats 4000000 in
theorem f_X5_termsShownBy_L4_at (fu : Nat) (σ : gSt) (k0 : Nat) (p1 : Int32) (ag4 : Int32 → Int32 → Option (Int32)) {Γ : gX (Int32)} (h : gOk Γ cX5_termsShownBy 4 RX5 (some .int) 3 67) (z : gEnd Γ (gQp σ)) (hk0 : isO k0 5) (hg4 : ∀ (y2 : Int32) (y3 : Int32), At Γ 4 [some (.ref (gAd Γ.1 k0)), some (.int p1), some (.int y2), some (.int y3)] [] σ (ag4 y2 y3)) (x2 : Int32) (x3 : Int32) : At Γ 4 [some (.ref (gAd Γ.1 k0)), some (.int p1), some (.int x2), some (.int x3)] [] σ (f_X5_termsShownBy_L4 fu σ k0 p1 ag4 x2 x3) := by
  unfold f_X5_termsShownBy_L4
  refine x_iload_n (pc := 4) (i := 3) h dX5_termsShownBy_4 rfl rfl ?_
  refine x_aload_n (pc := 5) (i := 0) h dX5_termsShownBy_5 rfl rfl ?_
  refine gf_X5_25 (pc := 6) h hk0 dX5_termsShownBy_6 ?_
  refine x_Vp (pc := 9) (av := fun ad => []) (rest := [.int x3]) h m_X8_size i_X8_size kl_X5_158 (t_5_1 hk0) (by decide) rfl (c_X8_size fu σ (k0 + 10) (t_5_1 hk0)) rfl rfl (gCaM rfl) dX5_termsShownBy_9 (fun v9 => ?_)
  refine x_icmp_ge (pc := 12) (tgt := 41) h dX5_termsShownBy_12 (by decide) ?_ ?_
  · refine x_iload_n (pc := 41) (i := 2) h dX5_termsShownBy_41 rfl rfl ?_
    exact x_iretp (pc := 42) h z rfl .int rfl rfl dX5_termsShownBy_42
  · refine x_aload_n (pc := 15) (i := 0) h dX5_termsShownBy_15 rfl rfl ?_
    refine gf_X5_25 (pc := 16) h hk0 dX5_termsShownBy_16 ?_
    refine x_iload_n (pc := 19) (i := 3) h dX5_termsShownBy_19 rfl rfl ?_
    refine x_Vp (pc := 20) (av := fun ad => [.int x3]) (rest := []) h m_X8_ownerOf i_X8_ownerOf kl_X5_53 (t_5_1 hk0) (by decide) rfl (c_X8_ownerOf fu σ (k0 + 10) x3 (t_5_1 hk0)) rfl rfl (gCaM rfl) dX5_termsShownBy_20 (fun v20 => ?_)
    refine x_iload_n (pc := 23) (i := 1) h dX5_termsShownBy_23 rfl rfl ?_
    refine x_icmp_ne (pc := 24) (tgt := 35) h dX5_termsShownBy_24 (by decide) ?_ ?_
    · refine x_iinc (pc := 35) (i := 3) (v := (x3 + 1)) (L' := [some (.ref (gAd Γ.1 k0)), some (.int p1), some (.int x2), some (.int (x3 + 1))]) h dX5_termsShownBy_35 rfl rfl rfl ?_
      refine x_goto (pc := 38) (tgt := 4) h dX5_termsShownBy_38 (by decide) ?_
      exact At.mask [true, true, true, true] rfl rfl (hg4 x2 (x3 + 1))
    · refine x_iload_n (pc := 27) (i := 2) h dX5_termsShownBy_27 rfl rfl ?_
      refine x_aload_n (pc := 28) (i := 0) h dX5_termsShownBy_28 rfl rfl ?_
      refine x_iload_n (pc := 29) (i := 3) h dX5_termsShownBy_29 rfl rfl ?_
      refine x_Vp (pc := 30) (av := fun ad => [.int x3]) (rest := [.int x2]) h m_X5_shownIn i_X5_shownIn kl_X5_191 hk0 (by decide) rfl (c_X5_shownIn fu σ k0 x3 hk0) rfl rfl (gCaM rfl) dX5_termsShownBy_30 (fun v30 => ?_)
      refine x_ior (pc := 33) h dX5_termsShownBy_33 ?_
      refine x_istore_n (pc := 34) (i := 2) (L' := [some (.ref (gAd Γ.1 k0)), some (.int p1), some (.int (x2 ||| v30)), some (.int x3)]) h dX5_termsShownBy_34 rfl (Nat.le_of_ble_eq_true rfl) rfl ?_
      refine x_iinc (pc := 35) (i := 3) (v := (x3 + 1)) (L' := [some (.ref (gAd Γ.1 k0)), some (.int p1), some (.int (x2 ||| v30)), some (.int (x3 + 1))]) h dX5_termsShownBy_35 rfl rfl rfl ?_
      refine x_goto (pc := 38) (tgt := 4) h dX5_termsShownBy_38 (by decide) ?_
      exact At.mask [true, true, true, true] rfl rfl (hg4 (x2 ||| v30) (x3 + 1))

theorem f_X5_termsShownBy_W4_at (fu : Nat) (σ : gSt) (k0 : Nat) (p1 : Int32) {Γ : gX (Int32)} (h : gOk Γ cX5_termsShownBy 4 RX5 (some .int) 3 67) (z : gEnd Γ (gQp σ)) (hk0 : isO k0 5) : ∀ (n : Nat) (x2 : Int32) (x3 : Int32), At Γ 4 [some (.ref (gAd Γ.1 k0)), some (.int p1), some (.int x2), some (.int x3)] [] σ (f_X5_termsShownBy_W4 fu σ k0 p1 n x2 x3) := by
  intro n
  induction n with
  | zero => intro x2 x3 r hr; cases hr
  | succ n ih =>
    intro x2 x3
    exact f_X5_termsShownBy_L4_at fu σ k0 p1 (f_X5_termsShownBy_W4 fu σ k0 p1 n) h z hk0 ih x2 x3

set_option maxRecDepth 20000 in
set_option maxHeartbeats 4000000 in
theorem c_X5_termsShownBy (fu : Nat) (σ : gSt) (k0 : Nat) (p1 : Int32) (hk0 : isO k0 5) : gCt yX5_termsShownBy cX5_termsShownBy 4 (some .int) 3 67 (gQp σ) (fun ad => [.ref (ad k0), .int p1]) σ (f_X5_termsShownBy fu σ k0 p1) := by
  refine gCt_intro RX5 rfl (by decide +kernel) (fun ad v hv => by simp only [List.mem_cons, List.not_mem_nil, or_false] at hv; rcases hv with rfl | rfl <;> rfl) (fun ad => Nat.le_of_ble_eq_true rfl) (fun Γ h z => ?_)
  show At Γ 0 [some (.ref (gAd Γ.1 k0)), some (.int p1), none, none] [] σ _
  unfold f_X5_termsShownBy
  refine x_iconst (pc := 0) (v := 0) h dX5_termsShownBy_0 (by decide) ?_
  refine x_istore_n (pc := 1) (i := 2) (L' := [some (.ref (gAd Γ.1 k0)), some (.int p1), some (.int 0), none]) h dX5_termsShownBy_1 rfl (Nat.le_of_ble_eq_true rfl) rfl ?_
  refine x_iconst (pc := 2) (v := 0) h dX5_termsShownBy_2 (by decide) ?_
  refine x_istore_n (pc := 3) (i := 3) (L' := [some (.ref (gAd Γ.1 k0)), some (.int p1), some (.int 0), some (.int 0)]) h dX5_termsShownBy_3 rfl (Nat.le_of_ble_eq_true rfl) rfl ?_
  exact At.mask [true, true, true, true] rfl rfl (f_X5_termsShownBy_W4_at fu σ k0 p1 h z hk0 fu 0 0)

set_option maxRecDepth 20000 in
set_option maxHeartbeats 4000000 in
theorem f_X8_interruptions_L17_at (fu : Nat) (σ : gSt) (k0 : Nat) (p1 : Int32) (p2 : Int32) (ag5 : Int32 → Int32 → Option (Int32)) (x4 : Int32) (ag17 : Int32 → Int32 → Option (Int32)) {Γ : gX (Int32)} (h : gOk Γ cX8_interruptions 6 RX8 (some .int) 3 64) (z : gEnd Γ (gQp σ)) (hk0 : isO k0 8) (hg5 : ∀ (y3 : Int32) (y4 : Int32), At Γ 5 [some (.ref (gAd Γ.1 k0)), some (.int p1), some (.int p2), some (.int y3), some (.int y4), none] [] σ (ag5 y3 y4)) (hg17 : ∀ (y3 : Int32) (y5 : Int32), At Γ 17 [some (.ref (gAd Γ.1 k0)), some (.int p1), some (.int p2), some (.int y3), some (.int x4), some (.int y5)] [] σ (ag17 y3 y5)) (x3 : Int32) (x5 : Int32) : At Γ 17 [some (.ref (gAd Γ.1 k0)), some (.int p1), some (.int p2), some (.int x3), some (.int x4), some (.int x5)] [] σ (f_X8_interruptions_L17 fu σ k0 p1 p2 ag5 x4 ag17 x3 x5) := by
  unfold f_X8_interruptions_L17
  refine x_iload (pc := 17) h dX8_interruptions_17 rfl ?_
  refine x_aload_n (pc := 19) (i := 0) h dX8_interruptions_19 rfl rfl ?_
  refine gf_X8_36 (pc := 20) h hk0 dX8_interruptions_20 ?_
  refine x_icmp_ge (pc := 23) (tgt := 66) h dX8_interruptions_23 (by decide) ?_ ?_
  · refine x_iinc (pc := 66) (i := 4) (v := (x4 + 1)) (L' := [some (.ref (gAd Γ.1 k0)), some (.int p1), some (.int p2), some (.int x3), some (.int (x4 + 1)), some (.int x5)]) h dX8_interruptions_66 rfl rfl rfl ?_
    refine x_goto (pc := 69) (tgt := 5) h dX8_interruptions_69 (by decide) ?_
    exact At.mask [true, true, true, true, true, false] rfl rfl (hg5 x3 (x4 + 1))
  · refine x_aload_n (pc := 26) (i := 0) h dX8_interruptions_26 rfl rfl ?_
    refine x_iload (pc := 27) h dX8_interruptions_27 rfl ?_
    refine x_Vp (pc := 29) (av := fun ad => [.int x4]) (rest := []) h m_X8_ownerOf i_X8_ownerOf kl_X8_83 hk0 (by decide) rfl (c_X8_ownerOf fu σ k0 x4 hk0) rfl rfl (gCaM rfl) dX8_interruptions_29 (fun v29 => ?_)
    refine x_iload_n (pc := 32) (i := 1) h dX8_interruptions_32 rfl rfl ?_
    refine x_icmp_ne (pc := 33) (tgt := 60) h dX8_interruptions_33 (by decide) ?_ ?_
    · refine x_iinc (pc := 60) (i := 5) (v := (x5 + 1)) (L' := [some (.ref (gAd Γ.1 k0)), some (.int p1), some (.int p2), some (.int x3), some (.int x4), some (.int (x5 + 1))]) h dX8_interruptions_60 rfl rfl rfl ?_
      refine x_goto (pc := 63) (tgt := 17) h dX8_interruptions_63 (by decide) ?_
      exact At.mask [true, true, true, true, true, true] rfl rfl (hg17 x3 (x5 + 1))
    · refine x_aload_n (pc := 36) (i := 0) h dX8_interruptions_36 rfl rfl ?_
      refine x_iload (pc := 37) h dX8_interruptions_37 rfl ?_
      refine x_Vp (pc := 39) (av := fun ad => [.int x5]) (rest := []) h m_X8_ownerOf i_X8_ownerOf kl_X8_83 hk0 (by decide) rfl (c_X8_ownerOf fu σ k0 x5 hk0) rfl rfl (gCaM rfl) dX8_interruptions_39 (fun v39 => ?_)
      refine x_iload_n (pc := 42) (i := 2) h dX8_interruptions_42 rfl rfl ?_
      refine x_icmp_ne (pc := 43) (tgt := 60) h dX8_interruptions_43 (by decide) ?_ ?_
      · refine x_iinc (pc := 60) (i := 5) (v := (x5 + 1)) (L' := [some (.ref (gAd Γ.1 k0)), some (.int p1), some (.int p2), some (.int x3), some (.int x4), some (.int (x5 + 1))]) h dX8_interruptions_60 rfl rfl rfl ?_
        refine x_goto (pc := 63) (tgt := 17) h dX8_interruptions_63 (by decide) ?_
        exact At.mask [true, true, true, true, true, true] rfl rfl (hg17 x3 (x5 + 1))
      · refine x_aload_n (pc := 46) (i := 0) h dX8_interruptions_46 rfl rfl ?_
        refine x_iload (pc := 47) h dX8_interruptions_47 rfl ?_
        refine x_iload (pc := 49) h dX8_interruptions_49 rfl ?_
        refine x_Vp (pc := 51) (av := fun ad => [.int x4, .int x5]) (rest := []) h m_X8_interrupt i_X8_interrupt kl_X8_90 hk0 (by decide) rfl (c_X8_interrupt fu σ k0 x4 x5 hk0) rfl rfl (gCaM rfl) dX8_interruptions_51 (fun v51 => ?_)
        refine x_if_eq (pc := 54) (tgt := 60) h dX8_interruptions_54 (by decide) ?_ ?_
        · refine x_iinc (pc := 60) (i := 5) (v := (x5 + 1)) (L' := [some (.ref (gAd Γ.1 k0)), some (.int p1), some (.int p2), some (.int x3), some (.int x4), some (.int (x5 + 1))]) h dX8_interruptions_60 rfl rfl rfl ?_
          refine x_goto (pc := 63) (tgt := 17) h dX8_interruptions_63 (by decide) ?_
          exact At.mask [true, true, true, true, true, true] rfl rfl (hg17 x3 (x5 + 1))
        · refine x_iinc (pc := 57) (i := 3) (v := (x3 + 1)) (L' := [some (.ref (gAd Γ.1 k0)), some (.int p1), some (.int p2), some (.int (x3 + 1)), some (.int x4), some (.int x5)]) h dX8_interruptions_57 rfl rfl rfl ?_
          refine x_iinc (pc := 60) (i := 5) (v := (x5 + 1)) (L' := [some (.ref (gAd Γ.1 k0)), some (.int p1), some (.int p2), some (.int (x3 + 1)), some (.int x4), some (.int (x5 + 1))]) h dX8_interruptions_60 rfl rfl rfl ?_
          refine x_goto (pc := 63) (tgt := 17) h dX8_interruptions_63 (by decide) ?_
          exact At.mask [true, true, true, true, true, true] rfl rfl (hg17 (x3 + 1) (x5 + 1))

theorem f_X8_interruptions_W17_at (fu : Nat) (σ : gSt) (k0 : Nat) (p1 : Int32) (p2 : Int32) (ag5 : Int32 → Int32 → Option (Int32)) (x4 : Int32) {Γ : gX (Int32)} (h : gOk Γ cX8_interruptions 6 RX8 (some .int) 3 64) (z : gEnd Γ (gQp σ)) (hk0 : isO k0 8) (hg5 : ∀ (y3 : Int32) (y4 : Int32), At Γ 5 [some (.ref (gAd Γ.1 k0)), some (.int p1), some (.int p2), some (.int y3), some (.int y4), none] [] σ (ag5 y3 y4)) : ∀ (n : Nat) (x3 : Int32) (x5 : Int32), At Γ 17 [some (.ref (gAd Γ.1 k0)), some (.int p1), some (.int p2), some (.int x3), some (.int x4), some (.int x5)] [] σ (f_X8_interruptions_W17 fu σ k0 p1 p2 ag5 x4 n x3 x5) := by
  intro n
  induction n with
  | zero => intro x3 x5 r hr; cases hr
  | succ n ih =>
    intro x3 x5
    exact f_X8_interruptions_L17_at fu σ k0 p1 p2 ag5 x4 (f_X8_interruptions_W17 fu σ k0 p1 p2 ag5 x4 n) h z hk0 hg5 ih x3 x5

set_option maxRecDepth 20000 in
set_option maxHeartbeats 4000000 in
theorem f_X8_interruptions_L5_at (fu : Nat) (σ : gSt) (k0 : Nat) (p1 : Int32) (p2 : Int32) (ag5 : Int32 → Int32 → Option (Int32)) {Γ : gX (Int32)} (h : gOk Γ cX8_interruptions 6 RX8 (some .int) 3 64) (z : gEnd Γ (gQp σ)) (hk0 : isO k0 8) (hg5 : ∀ (y3 : Int32) (y4 : Int32), At Γ 5 [some (.ref (gAd Γ.1 k0)), some (.int p1), some (.int p2), some (.int y3), some (.int y4), none] [] σ (ag5 y3 y4)) (x3 : Int32) (x4 : Int32) : At Γ 5 [some (.ref (gAd Γ.1 k0)), some (.int p1), some (.int p2), some (.int x3), some (.int x4), none] [] σ (f_X8_interruptions_L5 fu σ k0 p1 p2 ag5 x3 x4) := by
  unfold f_X8_interruptions_L5
  refine x_iload (pc := 5) h dX8_interruptions_5 rfl ?_
  refine x_aload_n (pc := 7) (i := 0) h dX8_interruptions_7 rfl rfl ?_
  refine gf_X8_36 (pc := 8) h hk0 dX8_interruptions_8 ?_
  refine x_icmp_ge (pc := 11) (tgt := 72) h dX8_interruptions_11 (by decide) ?_ ?_
  · refine x_iload_n (pc := 72) (i := 3) h dX8_interruptions_72 rfl rfl ?_
    exact x_iretp (pc := 73) h z rfl .int rfl rfl dX8_interruptions_73
  · refine x_iconst (pc := 14) (v := 0) h dX8_interruptions_14 (by decide) ?_
    refine x_istore (pc := 15) (L' := [some (.ref (gAd Γ.1 k0)), some (.int p1), some (.int p2), some (.int x3), some (.int x4), some (.int 0)]) h dX8_interruptions_15 (Nat.le_of_ble_eq_true rfl) rfl ?_
    exact At.mask [true, true, true, true, true, true] rfl rfl (f_X8_interruptions_W17_at fu σ k0 p1 p2 ag5 x4 h z hk0 hg5 fu x3 0)

theorem f_X8_interruptions_W5_at (fu : Nat) (σ : gSt) (k0 : Nat) (p1 : Int32) (p2 : Int32) {Γ : gX (Int32)} (h : gOk Γ cX8_interruptions 6 RX8 (some .int) 3 64) (z : gEnd Γ (gQp σ)) (hk0 : isO k0 8) : ∀ (n : Nat) (x3 : Int32) (x4 : Int32), At Γ 5 [some (.ref (gAd Γ.1 k0)), some (.int p1), some (.int p2), some (.int x3), some (.int x4), none] [] σ (f_X8_interruptions_W5 fu σ k0 p1 p2 n x3 x4) := by
  intro n
  induction n with
  | zero => intro x3 x4 r hr; cases hr
  | succ n ih =>
    intro x3 x4
    exact f_X8_interruptions_L5_at fu σ k0 p1 p2 (f_X8_interruptions_W5 fu σ k0 p1 p2 n) h z hk0 ih x3 x4

set_option maxRecDepth 20000 in
set_option maxHeartbeats 4000000 in
theorem c_X8_interruptions (fu : Nat) (σ : gSt) (k0 : Nat) (p1 : Int32) (p2 : Int32) (hk0 : isO k0 8) : gCt yX8_interruptions cX8_interruptions 6 (some .int) 3 64 (gQp σ) (fun ad => [.ref (ad k0), .int p1, .int p2]) σ (f_X8_interruptions fu σ k0 p1 p2) := by
  refine gCt_intro RX8 rfl (by decide +kernel) (fun ad v hv => by simp only [List.mem_cons, List.not_mem_nil, or_false] at hv; rcases hv with rfl | rfl | rfl <;> rfl) (fun ad => Nat.le_of_ble_eq_true rfl) (fun Γ h z => ?_)
  show At Γ 0 [some (.ref (gAd Γ.1 k0)), some (.int p1), some (.int p2), none, none, none] [] σ _
  unfold f_X8_interruptions
  refine x_iconst (pc := 0) (v := 0) h dX8_interruptions_0 (by decide) ?_
  refine x_istore_n (pc := 1) (i := 3) (L' := [some (.ref (gAd Γ.1 k0)), some (.int p1), some (.int p2), some (.int 0), none, none]) h dX8_interruptions_1 rfl (Nat.le_of_ble_eq_true rfl) rfl ?_
  refine x_iconst (pc := 2) (v := 0) h dX8_interruptions_2 (by decide) ?_
  refine x_istore (pc := 3) (L' := [some (.ref (gAd Γ.1 k0)), some (.int p1), some (.int p2), some (.int 0), some (.int 0), none]) h dX8_interruptions_3 (Nat.le_of_ble_eq_true rfl) rfl ?_
  exact At.mask [true, true, true, true, true, false] rfl rfl (f_X8_interruptions_W5_at fu σ k0 p1 p2 h z hk0 fu 0 0)

set_option maxRecDepth 20000 in
set_option maxHeartbeats 4000000 in
theorem f_X5_interruptionsBy_L4_at (fu : Nat) (σ : gSt) (k0 : Nat) (p1 : Int32) (ag4 : Int32 → Int32 → Option (Int32)) {Γ : gX (Int32)} (h : gOk Γ cX5_interruptionsBy 4 RX5 (some .int) 4 89) (z : gEnd Γ (gQp σ)) (hk0 : isO k0 5) (hg4 : ∀ (y2 : Int32) (y3 : Int32), At Γ 4 [some (.ref (gAd Γ.1 k0)), some (.int p1), some (.int y2), some (.int y3)] [] σ (ag4 y2 y3)) (x2 : Int32) (x3 : Int32) : At Γ 4 [some (.ref (gAd Γ.1 k0)), some (.int p1), some (.int x2), some (.int x3)] [] σ (f_X5_interruptionsBy_L4 fu σ k0 p1 ag4 x2 x3) := by
  unfold f_X5_interruptionsBy_L4
  refine x_iload_n (pc := 4) (i := 3) h dX5_interruptionsBy_4 rfl rfl ?_
  refine x_bipush (pc := 5) (v := 6) h dX5_interruptionsBy_5 (by decide) ?_
  refine x_icmp_ge (pc := 7) (tgt := 28) h dX5_interruptionsBy_7 (by decide) ?_ ?_
  · refine x_iload_n (pc := 28) (i := 2) h dX5_interruptionsBy_28 rfl rfl ?_
    exact x_iretp (pc := 29) h z rfl .int rfl rfl dX5_interruptionsBy_29
  · refine x_iload_n (pc := 10) (i := 2) h dX5_interruptionsBy_10 rfl rfl ?_
    refine x_aload_n (pc := 11) (i := 0) h dX5_interruptionsBy_11 rfl rfl ?_
    refine gf_X5_25 (pc := 12) h hk0 dX5_interruptionsBy_12 ?_
    refine x_iload_n (pc := 15) (i := 1) h dX5_interruptionsBy_15 rfl rfl ?_
    refine x_iload_n (pc := 16) (i := 3) h dX5_interruptionsBy_16 rfl rfl ?_
    refine x_Vp (pc := 17) (av := fun ad => [.int p1, .int x3]) (rest := [.int x2]) h m_X8_interruptions i_X8_interruptions kl_X5_134 (t_5_1 hk0) (by decide) rfl (c_X8_interruptions fu σ (k0 + 10) p1 x3 (t_5_1 hk0)) rfl rfl (gCaM rfl) dX5_interruptionsBy_17 (fun v17 => ?_)
    refine x_iadd (pc := 20) h dX5_interruptionsBy_20 ?_
    refine x_istore_n (pc := 21) (i := 2) (L' := [some (.ref (gAd Γ.1 k0)), some (.int p1), some (.int (x2 + v17)), some (.int x3)]) h dX5_interruptionsBy_21 rfl (Nat.le_of_ble_eq_true rfl) rfl ?_
    refine x_iinc (pc := 22) (i := 3) (v := (x3 + 1)) (L' := [some (.ref (gAd Γ.1 k0)), some (.int p1), some (.int (x2 + v17)), some (.int (x3 + 1))]) h dX5_interruptionsBy_22 rfl rfl rfl ?_
    refine x_goto (pc := 25) (tgt := 4) h dX5_interruptionsBy_25 (by decide) ?_
    exact At.mask [true, true, true, true] rfl rfl (hg4 (x2 + v17) (x3 + 1))

theorem f_X5_interruptionsBy_W4_at (fu : Nat) (σ : gSt) (k0 : Nat) (p1 : Int32) {Γ : gX (Int32)} (h : gOk Γ cX5_interruptionsBy 4 RX5 (some .int) 4 89) (z : gEnd Γ (gQp σ)) (hk0 : isO k0 5) : ∀ (n : Nat) (x2 : Int32) (x3 : Int32), At Γ 4 [some (.ref (gAd Γ.1 k0)), some (.int p1), some (.int x2), some (.int x3)] [] σ (f_X5_interruptionsBy_W4 fu σ k0 p1 n x2 x3) := by
  intro n
  induction n with
  | zero => intro x2 x3 r hr; cases hr
  | succ n ih =>
    intro x2 x3
    exact f_X5_interruptionsBy_L4_at fu σ k0 p1 (f_X5_interruptionsBy_W4 fu σ k0 p1 n) h z hk0 ih x2 x3

set_option maxRecDepth 20000 in
set_option maxHeartbeats 4000000 in
theorem c_X5_interruptionsBy (fu : Nat) (σ : gSt) (k0 : Nat) (p1 : Int32) (hk0 : isO k0 5) : gCt yX5_interruptionsBy cX5_interruptionsBy 4 (some .int) 4 89 (gQp σ) (fun ad => [.ref (ad k0), .int p1]) σ (f_X5_interruptionsBy fu σ k0 p1) := by
  refine gCt_intro RX5 rfl (by decide +kernel) (fun ad v hv => by simp only [List.mem_cons, List.not_mem_nil, or_false] at hv; rcases hv with rfl | rfl <;> rfl) (fun ad => Nat.le_of_ble_eq_true rfl) (fun Γ h z => ?_)
  show At Γ 0 [some (.ref (gAd Γ.1 k0)), some (.int p1), none, none] [] σ _
  unfold f_X5_interruptionsBy
  refine x_iconst (pc := 0) (v := 0) h dX5_interruptionsBy_0 (by decide) ?_
  refine x_istore_n (pc := 1) (i := 2) (L' := [some (.ref (gAd Γ.1 k0)), some (.int p1), some (.int 0), none]) h dX5_interruptionsBy_1 rfl (Nat.le_of_ble_eq_true rfl) rfl ?_
  refine x_iconst (pc := 2) (v := 0) h dX5_interruptionsBy_2 (by decide) ?_
  refine x_istore_n (pc := 3) (i := 3) (L' := [some (.ref (gAd Γ.1 k0)), some (.int p1), some (.int 0), some (.int 0)]) h dX5_interruptionsBy_3 rfl (Nat.le_of_ble_eq_true rfl) rfl ?_
  exact At.mask [true, true, true, true] rfl rfl (f_X5_interruptionsBy_W4_at fu σ k0 p1 h z hk0 fu 0 0)

set_option maxRecDepth 20000 in
set_option maxHeartbeats 4000000 in
theorem f_X5_interruptionsOf_L4_at (fu : Nat) (σ : gSt) (k0 : Nat) (p1 : Int32) (ag4 : Int32 → Int32 → Option (Int32)) {Γ : gX (Int32)} (h : gOk Γ cX5_interruptionsOf 4 RX5 (some .int) 4 89) (z : gEnd Γ (gQp σ)) (hk0 : isO k0 5) (hg4 : ∀ (y2 : Int32) (y3 : Int32), At Γ 4 [some (.ref (gAd Γ.1 k0)), some (.int p1), some (.int y2), some (.int y3)] [] σ (ag4 y2 y3)) (x2 : Int32) (x3 : Int32) : At Γ 4 [some (.ref (gAd Γ.1 k0)), some (.int p1), some (.int x2), some (.int x3)] [] σ (f_X5_interruptionsOf_L4 fu σ k0 p1 ag4 x2 x3) := by
  unfold f_X5_interruptionsOf_L4
  refine x_iload_n (pc := 4) (i := 3) h dX5_interruptionsOf_4 rfl rfl ?_
  refine x_bipush (pc := 5) (v := 6) h dX5_interruptionsOf_5 (by decide) ?_
  refine x_icmp_ge (pc := 7) (tgt := 28) h dX5_interruptionsOf_7 (by decide) ?_ ?_
  · refine x_iload_n (pc := 28) (i := 2) h dX5_interruptionsOf_28 rfl rfl ?_
    exact x_iretp (pc := 29) h z rfl .int rfl rfl dX5_interruptionsOf_29
  · refine x_iload_n (pc := 10) (i := 2) h dX5_interruptionsOf_10 rfl rfl ?_
    refine x_aload_n (pc := 11) (i := 0) h dX5_interruptionsOf_11 rfl rfl ?_
    refine gf_X5_25 (pc := 12) h hk0 dX5_interruptionsOf_12 ?_
    refine x_iload_n (pc := 15) (i := 3) h dX5_interruptionsOf_15 rfl rfl ?_
    refine x_iload_n (pc := 16) (i := 1) h dX5_interruptionsOf_16 rfl rfl ?_
    refine x_Vp (pc := 17) (av := fun ad => [.int x3, .int p1]) (rest := [.int x2]) h m_X8_interruptions i_X8_interruptions kl_X5_134 (t_5_1 hk0) (by decide) rfl (c_X8_interruptions fu σ (k0 + 10) x3 p1 (t_5_1 hk0)) rfl rfl (gCaM rfl) dX5_interruptionsOf_17 (fun v17 => ?_)
    refine x_iadd (pc := 20) h dX5_interruptionsOf_20 ?_
    refine x_istore_n (pc := 21) (i := 2) (L' := [some (.ref (gAd Γ.1 k0)), some (.int p1), some (.int (x2 + v17)), some (.int x3)]) h dX5_interruptionsOf_21 rfl (Nat.le_of_ble_eq_true rfl) rfl ?_
    refine x_iinc (pc := 22) (i := 3) (v := (x3 + 1)) (L' := [some (.ref (gAd Γ.1 k0)), some (.int p1), some (.int (x2 + v17)), some (.int (x3 + 1))]) h dX5_interruptionsOf_22 rfl rfl rfl ?_
    refine x_goto (pc := 25) (tgt := 4) h dX5_interruptionsOf_25 (by decide) ?_
    exact At.mask [true, true, true, true] rfl rfl (hg4 (x2 + v17) (x3 + 1))

theorem f_X5_interruptionsOf_W4_at (fu : Nat) (σ : gSt) (k0 : Nat) (p1 : Int32) {Γ : gX (Int32)} (h : gOk Γ cX5_interruptionsOf 4 RX5 (some .int) 4 89) (z : gEnd Γ (gQp σ)) (hk0 : isO k0 5) : ∀ (n : Nat) (x2 : Int32) (x3 : Int32), At Γ 4 [some (.ref (gAd Γ.1 k0)), some (.int p1), some (.int x2), some (.int x3)] [] σ (f_X5_interruptionsOf_W4 fu σ k0 p1 n x2 x3) := by
  intro n
  induction n with
  | zero => intro x2 x3 r hr; cases hr
  | succ n ih =>
    intro x2 x3
    exact f_X5_interruptionsOf_L4_at fu σ k0 p1 (f_X5_interruptionsOf_W4 fu σ k0 p1 n) h z hk0 ih x2 x3

set_option maxRecDepth 20000 in
set_option maxHeartbeats 4000000 in
theorem c_X5_interruptionsOf (fu : Nat) (σ : gSt) (k0 : Nat) (p1 : Int32) (hk0 : isO k0 5) : gCt yX5_interruptionsOf cX5_interruptionsOf 4 (some .int) 4 89 (gQp σ) (fun ad => [.ref (ad k0), .int p1]) σ (f_X5_interruptionsOf fu σ k0 p1) := by
  refine gCt_intro RX5 rfl (by decide +kernel) (fun ad v hv => by simp only [List.mem_cons, List.not_mem_nil, or_false] at hv; rcases hv with rfl | rfl <;> rfl) (fun ad => Nat.le_of_ble_eq_true rfl) (fun Γ h z => ?_)
  show At Γ 0 [some (.ref (gAd Γ.1 k0)), some (.int p1), none, none] [] σ _
  unfold f_X5_interruptionsOf
  refine x_iconst (pc := 0) (v := 0) h dX5_interruptionsOf_0 (by decide) ?_
  refine x_istore_n (pc := 1) (i := 2) (L' := [some (.ref (gAd Γ.1 k0)), some (.int p1), some (.int 0), none]) h dX5_interruptionsOf_1 rfl (Nat.le_of_ble_eq_true rfl) rfl ?_
  refine x_iconst (pc := 2) (v := 0) h dX5_interruptionsOf_2 (by decide) ?_
  refine x_istore_n (pc := 3) (i := 3) (L' := [some (.ref (gAd Γ.1 k0)), some (.int p1), some (.int 0), some (.int 0)]) h dX5_interruptionsOf_3 rfl (Nat.le_of_ble_eq_true rfl) rfl ?_
  exact At.mask [true, true, true, true] rfl rfl (f_X5_interruptionsOf_W4_at fu σ k0 p1 h z hk0 fu 0 0)

set_option maxRecDepth 20000 in
set_option maxHeartbeats 4000000 in
theorem c_X8_termsOfAll (fu : Nat) (σ : gSt) (k0 : Nat) (p1 : Int32) (hk0 : isO k0 8) : gCt yX8_termsOfAll cX8_termsOfAll 2 (some .int) 1 24 (gQp σ) (fun ad => [.ref (ad k0), .int p1]) σ (f_X8_termsOfAll fu σ k0 p1) := by
  refine gCt_intro RX8 rfl (by decide +kernel) (fun ad v hv => by simp only [List.mem_cons, List.not_mem_nil, or_false] at hv; rcases hv with rfl | rfl <;> rfl) (fun ad => Nat.le_of_ble_eq_true rfl) (fun Γ h z => ?_)
  show At Γ 0 [some (.ref (gAd Γ.1 k0)), some (.int p1)] [] σ _
  unfold f_X8_termsOfAll
  refine x_aload_n (pc := 0) (i := 0) h dX8_termsOfAll_0 rfl rfl ?_
  refine x_aload_n (pc := 1) (i := 0) h dX8_termsOfAll_1 rfl rfl ?_
  refine gf_X8_24 (pc := 2) h hk0 dX8_termsOfAll_2 ?_
  refine x_iload_n (pc := 5) (i := 1) h dX8_termsOfAll_5 rfl rfl ?_
  refine x_Vp (pc := 6) (av := fun ad => [.ref (ad (k0 + 5)), .int p1]) (rest := []) h m_X8_sumOf i_X8_sumOf kl_X8_73 hk0 (by decide) rfl (c_X8_sumOf fu σ k0 (k0 + 5) 20 p1 hk0 (t_8_4 hk0)) rfl rfl (gCaM rfl) dX8_termsOfAll_6 (fun v6 => ?_)
  exact x_iretp (pc := 9) h z rfl .int rfl rfl dX8_termsOfAll_9

set_option maxRecDepth 20000 in
set_option maxHeartbeats 4000000 in
theorem f_X5_bitsOf_J57_at (fu : Nat) (σ : gSt) (p0 : UInt32) {Γ : gX (Int32)} (h : gOk Γ cX5_bitsOf 3 RX5 (some .int) 0 0) (z : gEnd Γ (gQp σ)) (x1 : UInt32) (x2 : Int32) : At Γ 57 [none, some (.float x1), some (.int x2)] [] σ (f_X5_bitsOf_J57 fu σ p0 x1 x2) := by
  unfold f_X5_bitsOf_J57
  refine x_iload_n (pc := 57) (i := 2) h dX5_bitsOf_57 rfl rfl ?_
  refine x_bipush (pc := 58) (v := 23) h dX5_bitsOf_58 (by decide) ?_
  refine x_ishl (pc := 60) h dX5_bitsOf_60 ?_
  refine x_fload_n (pc := 61) (i := 1) h dX5_bitsOf_61 rfl rfl ?_
  refine x_fconst1 (pc := 62) h dX5_bitsOf_62 ?_
  refine x_fsub (pc := 63) h dX5_bitsOf_63 (fun v63 => ?_)
  refine x_ldcf (pc := 64) h kc_X5_209 dX5_bitsOf_64 ?_
  refine x_fmul (pc := 66) h dX5_bitsOf_66 (fun v66 => ?_)
  refine x_f2i (pc := 67) h dX5_bitsOf_67 ?_
  refine x_iadd (pc := 68) h dX5_bitsOf_68 ?_
  exact x_iretp (pc := 69) h z rfl .int rfl rfl dX5_bitsOf_69

set_option maxRecDepth 20000 in
set_option maxHeartbeats 4000000 in
theorem f_X5_bitsOf_L36_at (fu : Nat) (σ : gSt) (p0 : UInt32) (ag36 : UInt32 → Int32 → Option (Int32)) {Γ : gX (Int32)} (h : gOk Γ cX5_bitsOf 3 RX5 (some .int) 0 0) (z : gEnd Γ (gQp σ)) (hg36 : ∀ (y1 : UInt32) (y2 : Int32), At Γ 36 [none, some (.float y1), some (.int y2)] [] σ (ag36 y1 y2)) (x1 : UInt32) (x2 : Int32) : At Γ 36 [none, some (.float x1), some (.int x2)] [] σ (f_X5_bitsOf_L36 fu σ p0 ag36 x1 x2) := by
  unfold f_X5_bitsOf_L36
  refine x_iload_n (pc := 36) (i := 2) h dX5_bitsOf_36 rfl rfl ?_
  refine x_iconst (pc := 37) (v := 1) h dX5_bitsOf_37 (by decide) ?_
  refine x_icmp_le (pc := 38) (tgt := 57) h dX5_bitsOf_38 (by decide) ?_ ?_
  · exact At.mask [false, true, true] rfl rfl (f_X5_bitsOf_J57_at fu σ p0 h z x1 x2)
  · refine x_fload_n (pc := 41) (i := 1) h dX5_bitsOf_41 rfl rfl ?_
    refine x_fconst1 (pc := 42) h dX5_bitsOf_42 ?_
    refine x_fcmp (pc := 43) h dX5_bitsOf_43 ?_
    refine x_if_ge (pc := 44) (tgt := 57) h dX5_bitsOf_44 (by decide) ?_ ?_
    · exact At.mask [false, true, true] rfl rfl (f_X5_bitsOf_J57_at fu σ p0 h z x1 x2)
    · refine x_fload_n (pc := 47) (i := 1) h dX5_bitsOf_47 rfl rfl ?_
      refine x_fconst2 (pc := 48) h dX5_bitsOf_48 ?_
      refine x_fmul (pc := 49) h dX5_bitsOf_49 (fun v49 => ?_)
      refine x_fstore_n (pc := 50) (i := 1) (L' := [none, some (.float v49), some (.int x2)]) h dX5_bitsOf_50 rfl (Nat.le_of_ble_eq_true rfl) rfl ?_
      refine x_iinc (pc := 51) (i := 2) (v := (x2 + (-1))) (L' := [none, some (.float v49), some (.int (x2 + (-1)))]) h dX5_bitsOf_51 rfl rfl rfl ?_
      refine x_goto (pc := 54) (tgt := 36) h dX5_bitsOf_54 (by decide) ?_
      exact At.mask [false, true, true] rfl rfl (hg36 v49 (x2 + (-1)))

theorem f_X5_bitsOf_W36_at (fu : Nat) (σ : gSt) (p0 : UInt32) {Γ : gX (Int32)} (h : gOk Γ cX5_bitsOf 3 RX5 (some .int) 0 0) (z : gEnd Γ (gQp σ)) : ∀ (n : Nat) (x1 : UInt32) (x2 : Int32), At Γ 36 [none, some (.float x1), some (.int x2)] [] σ (f_X5_bitsOf_W36 fu σ p0 n x1 x2) := by
  intro n
  induction n with
  | zero => intro x1 x2 r hr; cases hr
  | succ n ih =>
    intro x1 x2
    exact f_X5_bitsOf_L36_at fu σ p0 (f_X5_bitsOf_W36 fu σ p0 n) h z ih x1 x2

set_option maxRecDepth 20000 in
set_option maxHeartbeats 4000000 in
theorem f_X5_bitsOf_L13_at (fu : Nat) (σ : gSt) (p0 : UInt32) (ag13 : UInt32 → Int32 → Option (Int32)) {Γ : gX (Int32)} (h : gOk Γ cX5_bitsOf 3 RX5 (some .int) 0 0) (z : gEnd Γ (gQp σ)) (hg13 : ∀ (y1 : UInt32) (y2 : Int32), At Γ 13 [none, some (.float y1), some (.int y2)] [] σ (ag13 y1 y2)) (x1 : UInt32) (x2 : Int32) : At Γ 13 [none, some (.float x1), some (.int x2)] [] σ (f_X5_bitsOf_L13 fu σ p0 ag13 x1 x2) := by
  unfold f_X5_bitsOf_L13
  refine x_iload_n (pc := 13) (i := 2) h dX5_bitsOf_13 rfl rfl ?_
  refine x_sipush (pc := 14) (v := 254) h dX5_bitsOf_14 (by decide) ?_
  refine x_icmp_ge (pc := 17) (tgt := 36) h dX5_bitsOf_17 (by decide) ?_ ?_
  · exact At.mask [false, true, true] rfl rfl (f_X5_bitsOf_W36_at fu σ p0 h z fu x1 x2)
  · refine x_fload_n (pc := 20) (i := 1) h dX5_bitsOf_20 rfl rfl ?_
    refine x_fconst2 (pc := 21) h dX5_bitsOf_21 ?_
    refine x_fcmp (pc := 22) h dX5_bitsOf_22 ?_
    refine x_if_lt (pc := 23) (tgt := 36) h dX5_bitsOf_23 (by decide) ?_ ?_
    · exact At.mask [false, true, true] rfl rfl (f_X5_bitsOf_W36_at fu σ p0 h z fu x1 x2)
    · refine x_fload_n (pc := 26) (i := 1) h dX5_bitsOf_26 rfl rfl ?_
      refine x_fconst2 (pc := 27) h dX5_bitsOf_27 ?_
      refine x_fdiv (pc := 28) h dX5_bitsOf_28 (fun v28 => ?_)
      refine x_fstore_n (pc := 29) (i := 1) (L' := [none, some (.float v28), some (.int x2)]) h dX5_bitsOf_29 rfl (Nat.le_of_ble_eq_true rfl) rfl ?_
      refine x_iinc (pc := 30) (i := 2) (v := (x2 + 1)) (L' := [none, some (.float v28), some (.int (x2 + 1))]) h dX5_bitsOf_30 rfl rfl rfl ?_
      refine x_goto (pc := 33) (tgt := 13) h dX5_bitsOf_33 (by decide) ?_
      exact At.mask [false, true, true] rfl rfl (hg13 v28 (x2 + 1))

theorem f_X5_bitsOf_W13_at (fu : Nat) (σ : gSt) (p0 : UInt32) {Γ : gX (Int32)} (h : gOk Γ cX5_bitsOf 3 RX5 (some .int) 0 0) (z : gEnd Γ (gQp σ)) : ∀ (n : Nat) (x1 : UInt32) (x2 : Int32), At Γ 13 [none, some (.float x1), some (.int x2)] [] σ (f_X5_bitsOf_W13 fu σ p0 n x1 x2) := by
  intro n
  induction n with
  | zero => intro x1 x2 r hr; cases hr
  | succ n ih =>
    intro x1 x2
    exact f_X5_bitsOf_L13_at fu σ p0 (f_X5_bitsOf_W13 fu σ p0 n) h z ih x1 x2

set_option maxRecDepth 20000 in
set_option maxHeartbeats 4000000 in
theorem c_X5_bitsOf (fu : Nat) (σ : gSt) (p0 : UInt32) : gCt yX5_bitsOf cX5_bitsOf 3 (some .int) 0 0 (gQp σ) (fun ad => [.float p0]) σ (f_X5_bitsOf fu σ p0) := by
  refine gCt_intro RX5 rfl (by decide +kernel) (fun ad v hv => by simp only [List.mem_cons, List.not_mem_nil, or_false] at hv; rcases hv with rfl <;> rfl) (fun ad => Nat.le_of_ble_eq_true rfl) (fun Γ h z => ?_)
  show At Γ 0 [some (.float p0), none, none] [] σ _
  unfold f_X5_bitsOf
  refine x_fload_n (pc := 0) (i := 0) h dX5_bitsOf_0 rfl rfl ?_
  refine x_fconst0 (pc := 1) h dX5_bitsOf_1 ?_
  refine x_fcmp (pc := 2) h dX5_bitsOf_2 ?_
  refine x_if_gt (pc := 3) (tgt := 8) h dX5_bitsOf_3 (by decide) ?_ ?_
  · refine x_fload_n (pc := 8) (i := 0) h dX5_bitsOf_8 rfl rfl ?_
    refine x_fstore_n (pc := 9) (i := 1) (L' := [some (.float p0), some (.float p0), none]) h dX5_bitsOf_9 rfl (Nat.le_of_ble_eq_true rfl) rfl ?_
    refine x_bipush (pc := 10) (v := 127) h dX5_bitsOf_10 (by decide) ?_
    refine x_istore_n (pc := 12) (i := 2) (L' := [some (.float p0), some (.float p0), some (.int 127)]) h dX5_bitsOf_12 rfl (Nat.le_of_ble_eq_true rfl) rfl ?_
    exact At.mask [false, true, true] rfl rfl (f_X5_bitsOf_W13_at fu σ p0 h z fu p0 127)
  · refine x_iconst (pc := 6) (v := 0) h dX5_bitsOf_6 (by decide) ?_
    exact x_iretp (pc := 7) h z rfl .int rfl rfl dX5_bitsOf_7

set_option maxRecDepth 20000 in
set_option maxHeartbeats 4000000 in
theorem c_X5_bitsOfTermsByMinute (fu : Nat) (σ : gSt) (k0 : Nat) (p1 : Int32) (hk0 : isO k0 5) : gCt yX5_bitsOfTermsByMinute cX5_bitsOfTermsByMinute 3 (some .int) 2 45 (gQp σ) (fun ad => [.ref (ad k0), .int p1]) σ (f_X5_bitsOfTermsByMinute fu σ k0 p1) := by
  refine gCt_intro RX5 rfl (by decide +kernel) (fun ad v hv => by simp only [List.mem_cons, List.not_mem_nil, or_false] at hv; rcases hv with rfl | rfl <;> rfl) (fun ad => Nat.le_of_ble_eq_true rfl) (fun Γ h z => ?_)
  show At Γ 0 [some (.ref (gAd Γ.1 k0)), some (.int p1), none] [] σ _
  unfold f_X5_bitsOfTermsByMinute
  refine x_aload_n (pc := 0) (i := 0) h dX5_bitsOfTermsByMinute_0 rfl rfl ?_
  refine gf_X5_25 (pc := 1) h hk0 dX5_bitsOfTermsByMinute_1 ?_
  refine x_iload_n (pc := 4) (i := 1) h dX5_bitsOfTermsByMinute_4 rfl rfl ?_
  refine x_Vp (pc := 5) (av := fun ad => [.int p1]) (rest := []) h m_X8_secondsOfAll i_X8_secondsOfAll kl_X5_113 (t_5_1 hk0) (by decide) rfl (c_X8_secondsOfAll fu σ (k0 + 10) p1 (t_5_1 hk0)) rfl rfl (gCaM rfl) dX5_bitsOfTermsByMinute_5 (fun v5 => ?_)
  refine x_istore_n (pc := 8) (i := 2) (L' := [some (.ref (gAd Γ.1 k0)), some (.int p1), some (.int v5)]) h dX5_bitsOfTermsByMinute_8 rfl (Nat.le_of_ble_eq_true rfl) rfl ?_
  refine x_iload_n (pc := 9) (i := 2) h dX5_bitsOfTermsByMinute_9 rfl rfl ?_
  refine x_if_gt (pc := 10) (tgt := 16) h dX5_bitsOfTermsByMinute_10 (by decide) ?_ ?_
  · refine x_aload_n (pc := 16) (i := 0) h dX5_bitsOfTermsByMinute_16 rfl rfl ?_
    refine gf_X5_25 (pc := 17) h hk0 dX5_bitsOfTermsByMinute_17 ?_
    refine x_iload_n (pc := 20) (i := 1) h dX5_bitsOfTermsByMinute_20 rfl rfl ?_
    refine x_Vp (pc := 21) (av := fun ad => [.int p1]) (rest := []) h m_X8_termsOfAll i_X8_termsOfAll kl_X5_201 (t_5_1 hk0) (by decide) rfl (c_X8_termsOfAll fu σ (k0 + 10) p1 (t_5_1 hk0)) rfl rfl (gCaM rfl) dX5_bitsOfTermsByMinute_21 (fun v21 => ?_)
    refine x_i2f (pc := 24) h dX5_bitsOfTermsByMinute_24 ?_
    refine x_ldcf (pc := 25) h kc_X5_204 dX5_bitsOfTermsByMinute_25 ?_
    refine x_fmul (pc := 27) h dX5_bitsOfTermsByMinute_27 (fun v27 => ?_)
    refine x_iload_n (pc := 28) (i := 2) h dX5_bitsOfTermsByMinute_28 rfl rfl ?_
    refine x_i2f (pc := 29) h dX5_bitsOfTermsByMinute_29 ?_
    refine x_fdiv (pc := 30) h dX5_bitsOfTermsByMinute_30 (fun v30 => ?_)
    refine x_Sp (pc := 31) (av := fun ad => [.float v30]) (rest := []) h m_X5_bitsOf s_X5_bitsOf kl_X5_205 (c_X5_bitsOf fu σ v30) rfl rfl (gCaM rfl) dX5_bitsOfTermsByMinute_31 (fun v31 => ?_)
    exact x_iretp (pc := 34) h z rfl .int rfl rfl dX5_bitsOfTermsByMinute_34
  · refine x_ldc (pc := 13) h kc_X5_75 dX5_bitsOfTermsByMinute_13 ?_
    exact x_iretp (pc := 15) h z rfl .int rfl rfl dX5_bitsOfTermsByMinute_15

set_option maxRecDepth 20000 in
set_option maxHeartbeats 4000000 in
theorem c_X5_ofSpeaker (fu : Nat) (σ : gSt) (k0 : Nat) (p1 : Int32) (p2 : Int32) (hk0 : isO k0 5) : gCt yX5_ofSpeaker cX5_ofSpeaker 3 (some .int) 5 112 (gQp σ) (fun ad => [.ref (ad k0), .int p1, .int p2]) σ (f_X5_ofSpeaker fu σ k0 p1 p2) := by
  refine gCt_intro RX5 rfl (by decide +kernel) (fun ad v hv => by simp only [List.mem_cons, List.not_mem_nil, or_false] at hv; rcases hv with rfl | rfl | rfl <;> rfl) (fun ad => Nat.le_of_ble_eq_true rfl) (fun Γ h z => ?_)
  show At Γ 0 [some (.ref (gAd Γ.1 k0)), some (.int p1), some (.int p2)] [] σ _
  unfold f_X5_ofSpeaker
  refine x_aload_n (pc := 0) (i := 0) h dX5_ofSpeaker_0 rfl rfl ?_
  refine gf_X5_35 (pc := 1) h hk0 dX5_ofSpeaker_1 ?_
  refine x_iload_n (pc := 4) (i := 1) h dX5_ofSpeaker_4 rfl rfl ?_
  refine x_Vp (pc := 5) (av := fun ad => [.int p1]) (rest := []) h m_X4_has i_X4_has kl_X5_106 (t_5_3 hk0) (by decide) rfl (c_X4_has fu σ (k0 + 19) p1 (t_5_3 hk0)) rfl rfl (gCaM rfl) dX5_ofSpeaker_5 (fun v5 => ?_)
  refine x_if_ne (pc := 8) (tgt := 14) h dX5_ofSpeaker_8 (by decide) ?_ ?_
  · refine x_iload_n (pc := 14) (i := 2) h dX5_ofSpeaker_14 rfl rfl ?_
    refine x_tsw (pc := 15) (tgt := 56) h 0 (0) dX5_ofSpeaker_15 rfl (by decide) (by decide) rfl (by decide) ?_ (fun c15_0 => ?_)
    · refine x_aload_n (pc := 56) (i := 0) h dX5_ofSpeaker_56 rfl rfl ?_
      refine gf_X5_35 (pc := 57) h hk0 dX5_ofSpeaker_57 ?_
      refine x_iload_n (pc := 60) (i := 1) h dX5_ofSpeaker_60 rfl rfl ?_
      refine x_Vp (pc := 61) (av := fun ad => [.int p1]) (rest := []) h m_X4_pitchOf i_X4_pitchOf kl_X5_109 (t_5_3 hk0) (by decide) rfl (c_X4_pitchOf fu σ (k0 + 19) p1 (t_5_3 hk0)) rfl rfl (gCaM rfl) dX5_ofSpeaker_61 (fun v61 => ?_)
      exact x_iretp (pc := 64) h z rfl .int rfl rfl dX5_ofSpeaker_64
    refine x_tsw (pc := 15) (tgt := 65) h 1 (1) dX5_ofSpeaker_15 rfl (by decide) (by decide) rfl (by decide) ?_ (fun c15_1 => ?_)
    · refine x_aload_n (pc := 65) (i := 0) h dX5_ofSpeaker_65 rfl rfl ?_
      refine gf_X5_25 (pc := 66) h hk0 dX5_ofSpeaker_66 ?_
      refine x_iload_n (pc := 69) (i := 1) h dX5_ofSpeaker_69 rfl rfl ?_
      refine x_Vp (pc := 70) (av := fun ad => [.int p1]) (rest := []) h m_X8_turnsOf i_X8_turnsOf kl_X5_110 (t_5_1 hk0) (by decide) rfl (c_X8_turnsOf fu σ (k0 + 10) p1 (t_5_1 hk0)) rfl rfl (gCaM rfl) dX5_ofSpeaker_70 (fun v70 => ?_)
      exact x_iretp (pc := 73) h z rfl .int rfl rfl dX5_ofSpeaker_73
    refine x_tsw (pc := 15) (tgt := 74) h 2 (2) dX5_ofSpeaker_15 rfl (by decide) (by decide) rfl (by decide) ?_ (fun c15_2 => ?_)
    · refine x_aload_n (pc := 74) (i := 0) h dX5_ofSpeaker_74 rfl rfl ?_
      refine gf_X5_25 (pc := 75) h hk0 dX5_ofSpeaker_75 ?_
      refine x_iload_n (pc := 78) (i := 1) h dX5_ofSpeaker_78 rfl rfl ?_
      refine x_Vp (pc := 79) (av := fun ad => [.int p1]) (rest := []) h m_X8_secondsOfAll i_X8_secondsOfAll kl_X5_113 (t_5_1 hk0) (by decide) rfl (c_X8_secondsOfAll fu σ (k0 + 10) p1 (t_5_1 hk0)) rfl rfl (gCaM rfl) dX5_ofSpeaker_79 (fun v79 => ?_)
      exact x_iretp (pc := 82) h z rfl .int rfl rfl dX5_ofSpeaker_82
    refine x_tsw (pc := 15) (tgt := 83) h 3 (3) dX5_ofSpeaker_15 rfl (by decide) (by decide) rfl (by decide) ?_ (fun c15_3 => ?_)
    · refine x_aload_n (pc := 83) (i := 0) h dX5_ofSpeaker_83 rfl rfl ?_
      refine x_iload_n (pc := 84) (i := 1) h dX5_ofSpeaker_84 rfl rfl ?_
      refine x_Vp (pc := 85) (av := fun ad => [.int p1]) (rest := []) h m_X5_termsShownBy i_X5_termsShownBy kl_X5_116 hk0 (by decide) rfl (c_X5_termsShownBy fu σ k0 p1 hk0) rfl rfl (gCaM rfl) dX5_ofSpeaker_85 (fun v85 => ?_)
      exact x_iretp (pc := 88) h z rfl .int rfl rfl dX5_ofSpeaker_88
    refine x_tsw (pc := 15) (tgt := 89) h 4 (4) dX5_ofSpeaker_15 rfl (by decide) (by decide) rfl (by decide) ?_ (fun c15_4 => ?_)
    · refine x_aload_n (pc := 89) (i := 0) h dX5_ofSpeaker_89 rfl rfl ?_
      refine x_iload_n (pc := 90) (i := 1) h dX5_ofSpeaker_90 rfl rfl ?_
      refine x_Vp (pc := 91) (av := fun ad => [.int p1]) (rest := []) h m_X5_interruptionsBy i_X5_interruptionsBy kl_X5_119 hk0 (by decide) rfl (c_X5_interruptionsBy fu σ k0 p1 hk0) rfl rfl (gCaM rfl) dX5_ofSpeaker_91 (fun v91 => ?_)
      exact x_iretp (pc := 94) h z rfl .int rfl rfl dX5_ofSpeaker_94
    refine x_tsw (pc := 15) (tgt := 95) h 5 (5) dX5_ofSpeaker_15 rfl (by decide) (by decide) rfl (by decide) ?_ (fun c15_5 => ?_)
    · refine x_aload_n (pc := 95) (i := 0) h dX5_ofSpeaker_95 rfl rfl ?_
      refine x_iload_n (pc := 96) (i := 1) h dX5_ofSpeaker_96 rfl rfl ?_
      refine x_Vp (pc := 97) (av := fun ad => [.int p1]) (rest := []) h m_X5_interruptionsOf i_X5_interruptionsOf kl_X5_122 hk0 (by decide) rfl (c_X5_interruptionsOf fu σ k0 p1 hk0) rfl rfl (gCaM rfl) dX5_ofSpeaker_97 (fun v97 => ?_)
      exact x_iretp (pc := 100) h z rfl .int rfl rfl dX5_ofSpeaker_100
    refine x_tsw (pc := 15) (tgt := 101) h 6 (6) dX5_ofSpeaker_15 rfl (by decide) (by decide) rfl (by decide) ?_ (fun c15_6 => ?_)
    · refine x_aload_n (pc := 101) (i := 0) h dX5_ofSpeaker_101 rfl rfl ?_
      refine x_iload_n (pc := 102) (i := 1) h dX5_ofSpeaker_102 rfl rfl ?_
      refine x_Vp (pc := 103) (av := fun ad => [.int p1]) (rest := []) h m_X5_bitsOfTermsByMinute i_X5_bitsOfTermsByMinute kl_X5_125 hk0 (by decide) rfl (c_X5_bitsOfTermsByMinute fu σ k0 p1 hk0) rfl rfl (gCaM rfl) dX5_ofSpeaker_103 (fun v103 => ?_)
      exact x_iretp (pc := 106) h z rfl .int rfl rfl dX5_ofSpeaker_106
    refine x_tswd (pc := 15) (tgt := 107) h dX5_ofSpeaker_15 (by have e0 := gNe (0) c15_0 rfl; have e1 := gNe (1) c15_1 rfl; have e2 := gNe (2) c15_2 rfl; have e3 := gNe (3) c15_3 rfl; have e4 := gNe (4) c15_4 rfl; have e5 := gNe (5) c15_5 rfl; have e6 := gNe (6) c15_6 rfl; omega) (by decide) ?_
    refine x_ldc (pc := 107) h kc_X5_42 dX5_ofSpeaker_107 ?_
    exact x_iretp (pc := 109) h z rfl .int rfl rfl dX5_ofSpeaker_109
  · refine x_ldc (pc := 11) h kc_X5_42 dX5_ofSpeaker_11 ?_
    exact x_iretp (pc := 13) h z rfl .int rfl rfl dX5_ofSpeaker_13

set_option maxRecDepth 20000 in
set_option maxHeartbeats 4000000 in
theorem c_X9_speakerOf (fu : Nat) (σ : gSt) (k0 : Nat) (p1 : Int32) (p2 : Int32) (hk0 : isO k0 9) : gCt yX9_speakerOf cX9_speakerOf 3 (some .int) 6 134 (gQp σ) (fun ad => [.ref (ad k0), .int p1, .int p2]) σ (f_X9_speakerOf fu σ k0 p1 p2) := by
  refine gCt_intro RX9 rfl (by decide +kernel) (fun ad v hv => by simp only [List.mem_cons, List.not_mem_nil, or_false] at hv; rcases hv with rfl | rfl | rfl <;> rfl) (fun ad => Nat.le_of_ble_eq_true rfl) (fun Γ h z => ?_)
  show At Γ 0 [some (.ref (gAd Γ.1 k0)), some (.int p1), some (.int p2)] [] σ _
  unfold f_X9_speakerOf
  refine x_aload_n (pc := 0) (i := 0) h dX9_speakerOf_0 rfl rfl ?_
  refine gf_X9_31 (pc := 1) h hk0 dX9_speakerOf_1 ?_
  refine x_iload_n (pc := 4) (i := 1) h dX9_speakerOf_4 rfl rfl ?_
  refine x_iload_n (pc := 5) (i := 2) h dX9_speakerOf_5 rfl rfl ?_
  refine x_Vp (pc := 6) (av := fun ad => [.int p1, .int p2]) (rest := []) h m_X5_ofSpeaker i_X5_ofSpeaker kl_X9_99 (t_9_3 hk0) (by decide) rfl (c_X5_ofSpeaker fu σ (k0 + 1) p1 p2 (t_9_3 hk0)) rfl rfl (gCaM rfl) dX9_speakerOf_6 (fun v6 => ?_)
  exact x_iretp (pc := 9) h z rfl .int rfl rfl dX9_speakerOf_9

set_option maxRecDepth 20000 in
set_option maxHeartbeats 4000000 in
theorem f_X10_secondsOf_L4_at (fu : Nat) (σ : gSt) (k0 : Nat) (p1 : Int32) (ag4 : Int32 → Int32 → Option (Int32)) {Γ : gX (Int32)} (h : gOk Γ cX10_secondsOf 4 RX10 (some .int) 1 22) (z : gEnd Γ (gQp σ)) (hk0 : isO k0 10) (hg4 : ∀ (y2 : Int32) (y3 : Int32), At Γ 4 [some (.ref (gAd Γ.1 k0)), some (.int p1), some (.int y2), some (.int y3)] [] σ (ag4 y2 y3)) (x2 : Int32) (x3 : Int32) : At Γ 4 [some (.ref (gAd Γ.1 k0)), some (.int p1), some (.int x2), some (.int x3)] [] σ (f_X10_secondsOf_L4 fu σ k0 p1 ag4 x2 x3) := by
  unfold f_X10_secondsOf_L4
  refine x_iload_n (pc := 4) (i := 3) h dX10_secondsOf_4 rfl rfl ?_
  refine x_aload_n (pc := 5) (i := 0) h dX10_secondsOf_5 rfl rfl ?_
  refine gf_X10_7 (pc := 6) h hk0 dX10_secondsOf_6 ?_
  refine x_sipush (pc := 9) (v := 282) h dX10_secondsOf_9 (by decide) ?_
  refine x_ialdS (pc := 12) h 282 (t_10_0 hk0) (by decide) (by decide) (by decide) dX10_secondsOf_12 ?_
  refine x_icmp_ge (pc := 13) (tgt := 52) h dX10_secondsOf_13 (by decide) ?_ ?_
  · refine x_iload_n (pc := 52) (i := 2) h dX10_secondsOf_52 rfl rfl ?_
    exact x_iretp (pc := 53) h z rfl .int rfl rfl dX10_secondsOf_53
  · refine x_iload_n (pc := 16) (i := 2) h dX10_secondsOf_16 rfl rfl ?_
    refine x_aload_n (pc := 17) (i := 0) h dX10_secondsOf_17 rfl rfl ?_
    refine x_iload_n (pc := 18) (i := 3) h dX10_secondsOf_18 rfl rfl ?_
    refine x_iconst (pc := 19) (v := 3) h dX10_secondsOf_19 (by decide) ?_
    refine x_Vp (pc := 20) (av := fun ad => [.int x3, .int 3]) (rest := [.int x2]) h m_X10_of i_X10_of kl_X10_47 hk0 (by decide) rfl (c_X10_of fu σ k0 x3 3 hk0) rfl rfl (gCaM rfl) dX10_secondsOf_20 (fun v20 => ?_)
    refine x_iload_n (pc := 23) (i := 1) h dX10_secondsOf_23 rfl rfl ?_
    refine x_icmp_ne (pc := 24) (tgt := 43) h dX10_secondsOf_24 (by decide) ?_ ?_
    · refine x_iconst (pc := 43) (v := 0) h dX10_secondsOf_43 (by decide) ?_
      refine x_iadd (pc := 44) h dX10_secondsOf_44 ?_
      refine x_istore_n (pc := 45) (i := 2) (L' := [some (.ref (gAd Γ.1 k0)), some (.int p1), some (.int (x2 + 0)), some (.int x3)]) h dX10_secondsOf_45 rfl (Nat.le_of_ble_eq_true rfl) rfl ?_
      refine x_iinc (pc := 46) (i := 3) (v := (x3 + 1)) (L' := [some (.ref (gAd Γ.1 k0)), some (.int p1), some (.int (x2 + 0)), some (.int (x3 + 1))]) h dX10_secondsOf_46 rfl rfl rfl ?_
      refine x_goto (pc := 49) (tgt := 4) h dX10_secondsOf_49 (by decide) ?_
      exact At.mask [true, true, true, true] rfl rfl (hg4 (x2 + 0) (x3 + 1))
    · refine x_aload_n (pc := 27) (i := 0) h dX10_secondsOf_27 rfl rfl ?_
      refine x_iload_n (pc := 28) (i := 3) h dX10_secondsOf_28 rfl rfl ?_
      refine x_iconst (pc := 29) (v := 1) h dX10_secondsOf_29 (by decide) ?_
      refine x_Vp (pc := 30) (av := fun ad => [.int x3, .int 1]) (rest := [.int x2]) h m_X10_of i_X10_of kl_X10_47 hk0 (by decide) rfl (c_X10_of fu σ k0 x3 1 hk0) rfl rfl (gCaM rfl) dX10_secondsOf_30 (fun v30 => ?_)
      refine x_aload_n (pc := 33) (i := 0) h dX10_secondsOf_33 rfl rfl ?_
      refine x_iload_n (pc := 34) (i := 3) h dX10_secondsOf_34 rfl rfl ?_
      refine x_iconst (pc := 35) (v := 0) h dX10_secondsOf_35 (by decide) ?_
      refine x_Vp (pc := 36) (av := fun ad => [.int x3, .int 0]) (rest := [.int v30, .int x2]) h m_X10_of i_X10_of kl_X10_47 hk0 (by decide) rfl (c_X10_of fu σ k0 x3 0 hk0) rfl rfl (gCaM rfl) dX10_secondsOf_36 (fun v36 => ?_)
      refine x_isub (pc := 39) h dX10_secondsOf_39 ?_
      refine x_goto (pc := 40) (tgt := 44) h dX10_secondsOf_40 (by decide) ?_
      refine x_iadd (pc := 44) h dX10_secondsOf_44 ?_
      refine x_istore_n (pc := 45) (i := 2) (L' := [some (.ref (gAd Γ.1 k0)), some (.int p1), some (.int (x2 + (v30 - v36))), some (.int x3)]) h dX10_secondsOf_45 rfl (Nat.le_of_ble_eq_true rfl) rfl ?_
      refine x_iinc (pc := 46) (i := 3) (v := (x3 + 1)) (L' := [some (.ref (gAd Γ.1 k0)), some (.int p1), some (.int (x2 + (v30 - v36))), some (.int (x3 + 1))]) h dX10_secondsOf_46 rfl rfl rfl ?_
      refine x_goto (pc := 49) (tgt := 4) h dX10_secondsOf_49 (by decide) ?_
      exact At.mask [true, true, true, true] rfl rfl (hg4 (x2 + (v30 - v36)) (x3 + 1))

theorem f_X10_secondsOf_W4_at (fu : Nat) (σ : gSt) (k0 : Nat) (p1 : Int32) {Γ : gX (Int32)} (h : gOk Γ cX10_secondsOf 4 RX10 (some .int) 1 22) (z : gEnd Γ (gQp σ)) (hk0 : isO k0 10) : ∀ (n : Nat) (x2 : Int32) (x3 : Int32), At Γ 4 [some (.ref (gAd Γ.1 k0)), some (.int p1), some (.int x2), some (.int x3)] [] σ (f_X10_secondsOf_W4 fu σ k0 p1 n x2 x3) := by
  intro n
  induction n with
  | zero => intro x2 x3 r hr; cases hr
  | succ n ih =>
    intro x2 x3
    exact f_X10_secondsOf_L4_at fu σ k0 p1 (f_X10_secondsOf_W4 fu σ k0 p1 n) h z hk0 ih x2 x3

set_option maxRecDepth 20000 in
set_option maxHeartbeats 4000000 in
theorem c_X10_secondsOf (fu : Nat) (σ : gSt) (k0 : Nat) (p1 : Int32) (hk0 : isO k0 10) : gCt yX10_secondsOf cX10_secondsOf 4 (some .int) 1 22 (gQp σ) (fun ad => [.ref (ad k0), .int p1]) σ (f_X10_secondsOf fu σ k0 p1) := by
  refine gCt_intro RX10 rfl (by decide +kernel) (fun ad v hv => by simp only [List.mem_cons, List.not_mem_nil, or_false] at hv; rcases hv with rfl | rfl <;> rfl) (fun ad => Nat.le_of_ble_eq_true rfl) (fun Γ h z => ?_)
  show At Γ 0 [some (.ref (gAd Γ.1 k0)), some (.int p1), none, none] [] σ _
  unfold f_X10_secondsOf
  refine x_iconst (pc := 0) (v := 0) h dX10_secondsOf_0 (by decide) ?_
  refine x_istore_n (pc := 1) (i := 2) (L' := [some (.ref (gAd Γ.1 k0)), some (.int p1), some (.int 0), none]) h dX10_secondsOf_1 rfl (Nat.le_of_ble_eq_true rfl) rfl ?_
  refine x_iconst (pc := 2) (v := 0) h dX10_secondsOf_2 (by decide) ?_
  refine x_istore_n (pc := 3) (i := 3) (L' := [some (.ref (gAd Γ.1 k0)), some (.int p1), some (.int 0), some (.int 0)]) h dX10_secondsOf_3 rfl (Nat.le_of_ble_eq_true rfl) rfl ?_
  exact At.mask [true, true, true, true] rfl rfl (f_X10_secondsOf_W4_at fu σ k0 p1 h z hk0 fu 0 0)

set_option maxRecDepth 20000 in
set_option maxHeartbeats 4000000 in
theorem f_X10_termsOf_L50_at (fu : Nat) (σ : gSt) (k0 : Nat) (p1 : Int32) (p2 : Int32) (ag5 : Int32 → Int32 → Option (Int32)) (x4 : Int32) (ag50 : Int32 → Int32 → Option (Int32)) {Γ : gX (Int32)} (h : gOk Γ cX10_termsOf 6 RX10 (some .int) 1 22) (z : gEnd Γ (gQp σ)) (hk0 : isO k0 10) (hg5 : ∀ (y3 : Int32) (y4 : Int32), At Γ 5 [some (.ref (gAd Γ.1 k0)), some (.int p1), some (.int p2), some (.int y3), some (.int y4), none] [] σ (ag5 y3 y4)) (hg50 : ∀ (y3 : Int32) (y5 : Int32), At Γ 50 [some (.ref (gAd Γ.1 k0)), some (.int p1), some (.int p2), some (.int y3), some (.int x4), some (.int y5)] [] σ (ag50 y3 y5)) (x3 : Int32) (x5 : Int32) : At Γ 50 [some (.ref (gAd Γ.1 k0)), some (.int p1), some (.int p2), some (.int x3), some (.int x4), some (.int x5)] [] σ (f_X10_termsOf_L50 fu σ k0 p1 p2 ag5 x4 ag50 x3 x5) := by
  unfold f_X10_termsOf_L50
  refine x_iload (pc := 50) h dX10_termsOf_50 rfl ?_
  refine x_aload_n (pc := 52) (i := 0) h dX10_termsOf_52 rfl rfl ?_
  refine x_iload (pc := 53) h dX10_termsOf_53 rfl ?_
  refine x_iconst (pc := 55) (v := 4) h dX10_termsOf_55 (by decide) ?_
  refine x_Vp (pc := 56) (av := fun ad => [.int x4, .int 4]) (rest := [.int x5]) h m_X10_of i_X10_of kl_X10_47 hk0 (by decide) rfl (c_X10_of fu σ k0 x4 4 hk0) rfl rfl (gCaM rfl) dX10_termsOf_56 (fun v56 => ?_)
  refine x_icmp_ge (pc := 59) (tgt := 91) h dX10_termsOf_59 (by decide) ?_ ?_
  · refine x_iinc (pc := 91) (i := 4) (v := (x4 + 1)) (L' := [some (.ref (gAd Γ.1 k0)), some (.int p1), some (.int p2), some (.int x3), some (.int (x4 + 1)), some (.int x5)]) h dX10_termsOf_91 rfl rfl rfl ?_
    refine x_goto (pc := 94) (tgt := 5) h dX10_termsOf_94 (by decide) ?_
    exact At.mask [true, true, true, true, true, false] rfl rfl (hg5 x3 (x4 + 1))
  · refine x_iload_n (pc := 62) (i := 2) h dX10_termsOf_62 rfl rfl ?_
    refine x_if_eq (pc := 63) (tgt := 91) h dX10_termsOf_63 (by decide) ?_ ?_
    · refine x_iinc (pc := 91) (i := 4) (v := (x4 + 1)) (L' := [some (.ref (gAd Γ.1 k0)), some (.int p1), some (.int p2), some (.int x3), some (.int (x4 + 1)), some (.int x5)]) h dX10_termsOf_91 rfl rfl rfl ?_
      refine x_goto (pc := 94) (tgt := 5) h dX10_termsOf_94 (by decide) ?_
      exact At.mask [true, true, true, true, true, false] rfl rfl (hg5 x3 (x4 + 1))
    · refine x_iload_n (pc := 66) (i := 3) h dX10_termsOf_66 rfl rfl ?_
      refine x_iconst (pc := 67) (v := 1) h dX10_termsOf_67 (by decide) ?_
      refine x_aload_n (pc := 68) (i := 0) h dX10_termsOf_68 rfl rfl ?_
      refine x_aload_n (pc := 69) (i := 0) h dX10_termsOf_69 rfl rfl ?_
      refine x_iload (pc := 70) h dX10_termsOf_70 rfl ?_
      refine x_iconst (pc := 72) (v := 5) h dX10_termsOf_72 (by decide) ?_
      refine x_iload (pc := 73) h dX10_termsOf_73 rfl ?_
      refine x_iadd (pc := 75) h dX10_termsOf_75 ?_
      refine x_Vp (pc := 76) (av := fun ad => [.int x4, .int (5 + x5)]) (rest := [.ref (gAd Γ.1 k0), .int 1, .int x3]) h m_X10_of i_X10_of kl_X10_47 hk0 (by decide) rfl (c_X10_of fu σ k0 x4 (5 + x5) hk0) rfl rfl (gCaM rfl) dX10_termsOf_76 (fun v76 => ?_)
      refine x_Vp (pc := 79) (av := fun ad => [.int v76]) (rest := [.int 1, .int x3]) h m_X10_shown i_X10_shown kl_X10_73 hk0 (by decide) rfl (c_X10_shown fu σ k0 v76 hk0) rfl rfl (gCaM rfl) dX10_termsOf_79 (fun v79 => ?_)
      refine x_ishl (pc := 82) h dX10_termsOf_82 ?_
      refine x_ior (pc := 83) h dX10_termsOf_83 ?_
      refine x_lt (fun y84 => ?_)
      refine x_istore_n (pc := 84) (i := 3) (L' := [some (.ref (gAd Γ.1 k0)), some (.int p1), some (.int p2), some (.int y84), some (.int x4), some (.int x5)]) h dX10_termsOf_84 rfl (Nat.le_of_ble_eq_true rfl) rfl ?_
      refine x_iinc (pc := 85) (i := 5) (v := (x5 + 1)) (L' := [some (.ref (gAd Γ.1 k0)), some (.int p1), some (.int p2), some (.int y84), some (.int x4), some (.int (x5 + 1))]) h dX10_termsOf_85 rfl rfl rfl ?_
      refine x_goto (pc := 88) (tgt := 50) h dX10_termsOf_88 (by decide) ?_
      exact At.mask [true, true, true, true, true, true] rfl rfl (hg50 y84 (x5 + 1))

theorem f_X10_termsOf_W50_at (fu : Nat) (σ : gSt) (k0 : Nat) (p1 : Int32) (p2 : Int32) (ag5 : Int32 → Int32 → Option (Int32)) (x4 : Int32) {Γ : gX (Int32)} (h : gOk Γ cX10_termsOf 6 RX10 (some .int) 1 22) (z : gEnd Γ (gQp σ)) (hk0 : isO k0 10) (hg5 : ∀ (y3 : Int32) (y4 : Int32), At Γ 5 [some (.ref (gAd Γ.1 k0)), some (.int p1), some (.int p2), some (.int y3), some (.int y4), none] [] σ (ag5 y3 y4)) : ∀ (n : Nat) (x3 : Int32) (x5 : Int32), At Γ 50 [some (.ref (gAd Γ.1 k0)), some (.int p1), some (.int p2), some (.int x3), some (.int x4), some (.int x5)] [] σ (f_X10_termsOf_W50 fu σ k0 p1 p2 ag5 x4 n x3 x5) := by
  intro n
  induction n with
  | zero => intro x3 x5 r hr; cases hr
  | succ n ih =>
    intro x3 x5
    exact f_X10_termsOf_L50_at fu σ k0 p1 p2 ag5 x4 (f_X10_termsOf_W50 fu σ k0 p1 p2 ag5 x4 n) h z hk0 hg5 ih x3 x5

set_option maxRecDepth 20000 in
set_option maxHeartbeats 4000000 in
theorem f_X10_termsOf_J45_at (fu : Nat) (σ : gSt) (k0 : Nat) (p1 : Int32) (p2 : Int32) (ag5 : Int32 → Int32 → Option (Int32)) {Γ : gX (Int32)} (h : gOk Γ cX10_termsOf 6 RX10 (some .int) 1 22) (z : gEnd Γ (gQp σ)) (hk0 : isO k0 10) (x4 : Int32) (s2 : Int32) (s1 : Int32) (hg5 : ∀ (y3 : Int32) (y4 : Int32), At Γ 5 [some (.ref (gAd Γ.1 k0)), some (.int p1), some (.int p2), some (.int y3), some (.int y4), none] [] σ (ag5 y3 y4)) : At Γ 45 [some (.ref (gAd Γ.1 k0)), some (.int p1), some (.int p2), none, some (.int x4), none] [.int s2, .int s1] σ (f_X10_termsOf_J45 fu σ k0 p1 p2 ag5 x4 s2 s1) := by
  unfold f_X10_termsOf_J45
  refine x_iadd (pc := 45) h dX10_termsOf_45 ?_
  refine x_istore_n (pc := 46) (i := 3) (L' := [some (.ref (gAd Γ.1 k0)), some (.int p1), some (.int p2), some (.int (s1 + s2)), some (.int x4), none]) h dX10_termsOf_46 rfl (Nat.le_of_ble_eq_true rfl) rfl ?_
  refine x_iconst (pc := 47) (v := 0) h dX10_termsOf_47 (by decide) ?_
  refine x_istore (pc := 48) (L' := [some (.ref (gAd Γ.1 k0)), some (.int p1), some (.int p2), some (.int (s1 + s2)), some (.int x4), some (.int 0)]) h dX10_termsOf_48 (Nat.le_of_ble_eq_true rfl) rfl ?_
  exact At.mask [true, true, true, true, true, true] rfl rfl (f_X10_termsOf_W50_at fu σ k0 p1 p2 ag5 x4 h z hk0 hg5 fu (s1 + s2) 0)

set_option maxRecDepth 20000 in
set_option maxHeartbeats 4000000 in
theorem f_X10_termsOf_L5_at (fu : Nat) (σ : gSt) (k0 : Nat) (p1 : Int32) (p2 : Int32) (ag5 : Int32 → Int32 → Option (Int32)) {Γ : gX (Int32)} (h : gOk Γ cX10_termsOf 6 RX10 (some .int) 1 22) (z : gEnd Γ (gQp σ)) (hk0 : isO k0 10) (hg5 : ∀ (y3 : Int32) (y4 : Int32), At Γ 5 [some (.ref (gAd Γ.1 k0)), some (.int p1), some (.int p2), some (.int y3), some (.int y4), none] [] σ (ag5 y3 y4)) (x3 : Int32) (x4 : Int32) : At Γ 5 [some (.ref (gAd Γ.1 k0)), some (.int p1), some (.int p2), some (.int x3), some (.int x4), none] [] σ (f_X10_termsOf_L5 fu σ k0 p1 p2 ag5 x3 x4) := by
  unfold f_X10_termsOf_L5
  refine x_iload (pc := 5) h dX10_termsOf_5 rfl ?_
  refine x_aload_n (pc := 7) (i := 0) h dX10_termsOf_7 rfl rfl ?_
  refine gf_X10_7 (pc := 8) h hk0 dX10_termsOf_8 ?_
  refine x_sipush (pc := 11) (v := 282) h dX10_termsOf_11 (by decide) ?_
  refine x_ialdS (pc := 14) h 282 (t_10_0 hk0) (by decide) (by decide) (by decide) dX10_termsOf_14 ?_
  refine x_icmp_ge (pc := 15) (tgt := 97) h dX10_termsOf_15 (by decide) ?_ ?_
  · refine x_iload_n (pc := 97) (i := 3) h dX10_termsOf_97 rfl rfl ?_
    exact x_iretp (pc := 98) h z rfl .int rfl rfl dX10_termsOf_98
  · refine x_aload_n (pc := 18) (i := 0) h dX10_termsOf_18 rfl rfl ?_
    refine x_iload (pc := 19) h dX10_termsOf_19 rfl ?_
    refine x_iconst (pc := 21) (v := 3) h dX10_termsOf_21 (by decide) ?_
    refine x_Vp (pc := 22) (av := fun ad => [.int x4, .int 3]) (rest := []) h m_X10_of i_X10_of kl_X10_47 hk0 (by decide) rfl (c_X10_of fu σ k0 x4 3 hk0) rfl rfl (gCaM rfl) dX10_termsOf_22 (fun v22 => ?_)
    refine x_iload_n (pc := 25) (i := 1) h dX10_termsOf_25 rfl rfl ?_
    refine x_icmp_ne (pc := 26) (tgt := 91) h dX10_termsOf_26 (by decide) ?_ ?_
    · refine x_iinc (pc := 91) (i := 4) (v := (x4 + 1)) (L' := [some (.ref (gAd Γ.1 k0)), some (.int p1), some (.int p2), some (.int x3), some (.int (x4 + 1)), none]) h dX10_termsOf_91 rfl rfl rfl ?_
      refine x_goto (pc := 94) (tgt := 5) h dX10_termsOf_94 (by decide) ?_
      exact At.mask [true, true, true, true, true, false] rfl rfl (hg5 x3 (x4 + 1))
    · refine x_iload_n (pc := 29) (i := 3) h dX10_termsOf_29 rfl rfl ?_
      refine x_iload_n (pc := 30) (i := 2) h dX10_termsOf_30 rfl rfl ?_
      refine x_if_eq (pc := 31) (tgt := 38) h dX10_termsOf_31 (by decide) ?_ ?_
      · refine x_aload_n (pc := 38) (i := 0) h dX10_termsOf_38 rfl rfl ?_
        refine x_iload (pc := 39) h dX10_termsOf_39 rfl ?_
        refine x_iconst (pc := 41) (v := 4) h dX10_termsOf_41 (by decide) ?_
        refine x_Vp (pc := 42) (av := fun ad => [.int x4, .int 4]) (rest := [.int x3]) h m_X10_of i_X10_of kl_X10_47 hk0 (by decide) rfl (c_X10_of fu σ k0 x4 4 hk0) rfl rfl (gCaM rfl) dX10_termsOf_42 (fun v42 => ?_)
        exact At.mask [true, true, true, false, true, false] rfl rfl (f_X10_termsOf_J45_at fu σ k0 p1 p2 ag5 h z hk0 x4 v42 x3 hg5)
      · refine x_iconst (pc := 34) (v := 0) h dX10_termsOf_34 (by decide) ?_
        refine x_goto (pc := 35) (tgt := 45) h dX10_termsOf_35 (by decide) ?_
        exact At.mask [true, true, true, false, true, false] rfl rfl (f_X10_termsOf_J45_at fu σ k0 p1 p2 ag5 h z hk0 x4 0 x3 hg5)

theorem f_X10_termsOf_W5_at (fu : Nat) (σ : gSt) (k0 : Nat) (p1 : Int32) (p2 : Int32) {Γ : gX (Int32)} (h : gOk Γ cX10_termsOf 6 RX10 (some .int) 1 22) (z : gEnd Γ (gQp σ)) (hk0 : isO k0 10) : ∀ (n : Nat) (x3 : Int32) (x4 : Int32), At Γ 5 [some (.ref (gAd Γ.1 k0)), some (.int p1), some (.int p2), some (.int x3), some (.int x4), none] [] σ (f_X10_termsOf_W5 fu σ k0 p1 p2 n x3 x4) := by
  intro n
  induction n with
  | zero => intro x3 x4 r hr; cases hr
  | succ n ih =>
    intro x3 x4
    exact f_X10_termsOf_L5_at fu σ k0 p1 p2 (f_X10_termsOf_W5 fu σ k0 p1 p2 n) h z hk0 ih x3 x4

set_option maxRecDepth 20000 in
set_option maxHeartbeats 4000000 in
theorem c_X10_termsOf (fu : Nat) (σ : gSt) (k0 : Nat) (p1 : Int32) (p2 : Int32) (hk0 : isO k0 10) : gCt yX10_termsOf cX10_termsOf 6 (some .int) 1 22 (gQp σ) (fun ad => [.ref (ad k0), .int p1, .int p2]) σ (f_X10_termsOf fu σ k0 p1 p2) := by
  refine gCt_intro RX10 rfl (by decide +kernel) (fun ad v hv => by simp only [List.mem_cons, List.not_mem_nil, or_false] at hv; rcases hv with rfl | rfl | rfl <;> rfl) (fun ad => Nat.le_of_ble_eq_true rfl) (fun Γ h z => ?_)
  show At Γ 0 [some (.ref (gAd Γ.1 k0)), some (.int p1), some (.int p2), none, none, none] [] σ _
  unfold f_X10_termsOf
  refine x_iconst (pc := 0) (v := 0) h dX10_termsOf_0 (by decide) ?_
  refine x_istore_n (pc := 1) (i := 3) (L' := [some (.ref (gAd Γ.1 k0)), some (.int p1), some (.int p2), some (.int 0), none, none]) h dX10_termsOf_1 rfl (Nat.le_of_ble_eq_true rfl) rfl ?_
  refine x_iconst (pc := 2) (v := 0) h dX10_termsOf_2 (by decide) ?_
  refine x_istore (pc := 3) (L' := [some (.ref (gAd Γ.1 k0)), some (.int p1), some (.int p2), some (.int 0), some (.int 0), none]) h dX10_termsOf_3 (Nat.le_of_ble_eq_true rfl) rfl ?_
  exact At.mask [true, true, true, true, true, false] rfl rfl (f_X10_termsOf_W5_at fu σ k0 p1 p2 h z hk0 fu 0 0)

set_option maxRecDepth 20000 in
set_option maxHeartbeats 4000000 in
theorem f_X10_often_J69_at (fu : Nat) (σ : gSt) (k0 : Nat) (p1 : Int32) (p2 : Int32) (ag5 : Int32 → Int32 → Option (Int32)) (ag21 : Int32 → Int32 → Option (Int32)) {Γ : gX (Int32)} (h : gOk Γ cX10_often 7 RX10 (some .int) 2 45) (z : gEnd Γ (gQp σ)) (hk0 : isO k0 10) (x3 : Int32) (x4 : Int32) (x5 : Int32) (s1 : Int32) (hg5 : ∀ (y3 : Int32) (y4 : Int32), At Γ 5 [some (.ref (gAd Γ.1 k0)), some (.int p1), some (.int p2), some (.int y3), some (.int y4), none, none] [] σ (ag5 y3 y4)) (hg21 : ∀ (y3 : Int32) (y5 : Int32), At Γ 21 [some (.ref (gAd Γ.1 k0)), some (.int p1), some (.int p2), some (.int y3), some (.int x4), some (.int y5), none] [] σ (ag21 y3 y5)) : At Γ 69 [some (.ref (gAd Γ.1 k0)), some (.int p1), some (.int p2), some (.int x3), some (.int x4), some (.int x5), none] [.int s1] σ (f_X10_often_J69 fu σ k0 p1 p2 ag5 ag21 x3 x4 x5 s1) := by
  unfold f_X10_often_J69
  refine x_istore (pc := 69) (L' := [some (.ref (gAd Γ.1 k0)), some (.int p1), some (.int p2), some (.int x3), some (.int x4), some (.int x5), some (.int s1)]) h dX10_often_69 (Nat.le_of_ble_eq_true rfl) rfl ?_
  refine x_iload_n (pc := 71) (i := 3) h dX10_often_71 rfl rfl ?_
  refine x_iload (pc := 72) h dX10_often_72 rfl ?_
  refine x_if_eq (pc := 74) (tgt := 92) h dX10_often_74 (by decide) ?_ ?_
  · refine x_iconst (pc := 92) (v := 0) h dX10_often_92 (by decide) ?_
    refine x_iadd (pc := 93) h dX10_often_93 ?_
    refine x_istore_n (pc := 94) (i := 3) (L' := [some (.ref (gAd Γ.1 k0)), some (.int p1), some (.int p2), some (.int (x3 + 0)), some (.int x4), some (.int x5), some (.int s1)]) h dX10_often_94 rfl (Nat.le_of_ble_eq_true rfl) rfl ?_
    refine x_iinc (pc := 95) (i := 5) (v := (x5 + 1)) (L' := [some (.ref (gAd Γ.1 k0)), some (.int p1), some (.int p2), some (.int (x3 + 0)), some (.int x4), some (.int (x5 + 1)), some (.int s1)]) h dX10_often_95 rfl rfl rfl ?_
    refine x_goto (pc := 98) (tgt := 21) h dX10_often_98 (by decide) ?_
    exact At.mask [true, true, true, true, true, true, false] rfl rfl (hg21 (x3 + 0) (x5 + 1))
  · refine x_aload_n (pc := 77) (i := 0) h dX10_often_77 rfl rfl ?_
    refine x_iload (pc := 78) h dX10_often_78 rfl ?_
    refine x_iload (pc := 80) h dX10_often_80 rfl ?_
    refine x_Vp (pc := 82) (av := fun ad => [.int x4, .int x5]) (rest := [.int x3]) h m_X10_interrupt i_X10_interrupt kl_X10_98 hk0 (by decide) rfl (c_X10_interrupt fu σ k0 x4 x5 hk0) rfl rfl (gCaM rfl) dX10_often_82 (fun v82 => ?_)
    refine x_nm (e := (if v82 = 0 then 0 else 1)) (pcJ := 93) (LJ := [some (.ref (gAd Γ.1 k0)), some (.int p1), some (.int p2), some (.int x3), some (.int x4), some (.int x5), some (.int s1)]) (sJ := [.int x3]) (fun w85 => ?_) (fun kj85 => ?_)
    · refine x_iadd (pc := 93) h dX10_often_93 ?_
      refine x_istore_n (pc := 94) (i := 3) (L' := [some (.ref (gAd Γ.1 k0)), some (.int p1), some (.int p2), some (.int (x3 + w85)), some (.int x4), some (.int x5), some (.int s1)]) h dX10_often_94 rfl (Nat.le_of_ble_eq_true rfl) rfl ?_
      refine x_iinc (pc := 95) (i := 5) (v := (x5 + 1)) (L' := [some (.ref (gAd Γ.1 k0)), some (.int p1), some (.int p2), some (.int (x3 + w85)), some (.int x4), some (.int (x5 + 1)), some (.int s1)]) h dX10_often_95 rfl rfl rfl ?_
      refine x_goto (pc := 98) (tgt := 21) h dX10_often_98 (by decide) ?_
      exact At.mask [true, true, true, true, true, true, false] rfl rfl (hg21 (x3 + w85) (x5 + 1))
    · refine j_if_eq (pc := 85) (tgt := 92) h dX10_often_85 (by decide) (fun hc85_0 => ?_) (fun hc85_0 => ?_)
      · refine x_iconst (pc := 92) (v := 0) h dX10_often_92 (by decide) ?_
        exact kj85 0 (by rw [if_pos hc85_0])
      · refine x_iconst (pc := 88) (v := 1) h dX10_often_88 (by decide) ?_
        refine x_goto (pc := 89) (tgt := 93) h dX10_often_89 (by decide) ?_
        exact kj85 1 (by rw [if_neg hc85_0])

set_option maxRecDepth 20000 in
set_option maxHeartbeats 4000000 in
theorem f_X10_often_J49_at (fu : Nat) (σ : gSt) (k0 : Nat) (p1 : Int32) (p2 : Int32) (ag5 : Int32 → Int32 → Option (Int32)) (ag21 : Int32 → Int32 → Option (Int32)) {Γ : gX (Int32)} (h : gOk Γ cX10_often 7 RX10 (some .int) 2 45) (z : gEnd Γ (gQp σ)) (hk0 : isO k0 10) (x3 : Int32) (x4 : Int32) (x5 : Int32) (hg5 : ∀ (y3 : Int32) (y4 : Int32), At Γ 5 [some (.ref (gAd Γ.1 k0)), some (.int p1), some (.int p2), some (.int y3), some (.int y4), none, none] [] σ (ag5 y3 y4)) (hg21 : ∀ (y3 : Int32) (y5 : Int32), At Γ 21 [some (.ref (gAd Γ.1 k0)), some (.int p1), some (.int p2), some (.int y3), some (.int x4), some (.int y5), none] [] σ (ag21 y3 y5)) : At Γ 49 [some (.ref (gAd Γ.1 k0)), some (.int p1), some (.int p2), some (.int x3), some (.int x4), some (.int x5), none] [] σ (f_X10_often_J49 fu σ k0 p1 p2 ag5 ag21 x3 x4 x5) := by
  unfold f_X10_often_J49
  refine x_iload_n (pc := 49) (i := 2) h dX10_often_49 rfl rfl ?_
  refine x_if_lt (pc := 50) (tgt := 64) h dX10_often_50 (by decide) ?_ ?_
  · refine x_iconst (pc := 64) (v := 1) h dX10_often_64 (by decide) ?_
    refine x_goto (pc := 65) (tgt := 69) h dX10_often_65 (by decide) ?_
    exact At.mask [true, true, true, true, true, true, false] rfl rfl (f_X10_often_J69_at fu σ k0 p1 p2 ag5 ag21 h z hk0 x3 x4 x5 1 hg5 hg21)
  · refine x_aload_n (pc := 53) (i := 0) h dX10_often_53 rfl rfl ?_
    refine x_iload (pc := 54) h dX10_often_54 rfl ?_
    refine x_iconst (pc := 56) (v := 3) h dX10_often_56 (by decide) ?_
    refine x_Vp (pc := 57) (av := fun ad => [.int x5, .int 3]) (rest := []) h m_X10_of i_X10_of kl_X10_47 hk0 (by decide) rfl (c_X10_of fu σ k0 x5 3 hk0) rfl rfl (gCaM rfl) dX10_often_57 (fun v57 => ?_)
    refine x_iload_n (pc := 60) (i := 2) h dX10_often_60 rfl rfl ?_
    refine x_nm (e := (if v57 = p2 then 1 else 0)) (pcJ := 69) (LJ := [some (.ref (gAd Γ.1 k0)), some (.int p1), some (.int p2), some (.int x3), some (.int x4), some (.int x5), none]) (sJ := []) (fun w61 => ?_) (fun kj61 => ?_)
    · exact At.mask [true, true, true, true, true, true, false] rfl rfl (f_X10_often_J69_at fu σ k0 p1 p2 ag5 ag21 h z hk0 x3 x4 x5 w61 hg5 hg21)
    · refine j_icmp_ne (pc := 61) (tgt := 68) h dX10_often_61 (by decide) (fun hc61_0 => ?_) (fun hc61_0 => ?_)
      · refine x_iconst (pc := 68) (v := 0) h dX10_often_68 (by decide) ?_
        exact kj61 0 (by rw [if_neg hc61_0])
      · refine x_iconst (pc := 64) (v := 1) h dX10_often_64 (by decide) ?_
        refine x_goto (pc := 65) (tgt := 69) h dX10_often_65 (by decide) ?_
        exact kj61 1 (by rw [if_pos hc61_0])

set_option maxRecDepth 20000 in
set_option maxHeartbeats 4000000 in
theorem f_X10_often_L21_at (fu : Nat) (σ : gSt) (k0 : Nat) (p1 : Int32) (p2 : Int32) (ag5 : Int32 → Int32 → Option (Int32)) (x4 : Int32) (ag21 : Int32 → Int32 → Option (Int32)) {Γ : gX (Int32)} (h : gOk Γ cX10_often 7 RX10 (some .int) 2 45) (z : gEnd Γ (gQp σ)) (hk0 : isO k0 10) (hg5 : ∀ (y3 : Int32) (y4 : Int32), At Γ 5 [some (.ref (gAd Γ.1 k0)), some (.int p1), some (.int p2), some (.int y3), some (.int y4), none, none] [] σ (ag5 y3 y4)) (hg21 : ∀ (y3 : Int32) (y5 : Int32), At Γ 21 [some (.ref (gAd Γ.1 k0)), some (.int p1), some (.int p2), some (.int y3), some (.int x4), some (.int y5), none] [] σ (ag21 y3 y5)) (x3 : Int32) (x5 : Int32) : At Γ 21 [some (.ref (gAd Γ.1 k0)), some (.int p1), some (.int p2), some (.int x3), some (.int x4), some (.int x5), none] [] σ (f_X10_often_L21 fu σ k0 p1 p2 ag5 x4 ag21 x3 x5) := by
  unfold f_X10_often_L21
  refine x_iload (pc := 21) h dX10_often_21 rfl ?_
  refine x_aload_n (pc := 23) (i := 0) h dX10_often_23 rfl rfl ?_
  refine gf_X10_7 (pc := 24) h hk0 dX10_often_24 ?_
  refine x_sipush (pc := 27) (v := 282) h dX10_often_27 (by decide) ?_
  refine x_ialdS (pc := 30) h 282 (t_10_0 hk0) (by decide) (by decide) (by decide) dX10_often_30 ?_
  refine x_icmp_ge (pc := 31) (tgt := 101) h dX10_often_31 (by decide) ?_ ?_
  · refine x_iinc (pc := 101) (i := 4) (v := (x4 + 1)) (L' := [some (.ref (gAd Γ.1 k0)), some (.int p1), some (.int p2), some (.int x3), some (.int (x4 + 1)), some (.int x5), none]) h dX10_often_101 rfl rfl rfl ?_
    refine x_goto (pc := 104) (tgt := 5) h dX10_often_104 (by decide) ?_
    exact At.mask [true, true, true, true, true, false, false] rfl rfl (hg5 x3 (x4 + 1))
  · refine x_iload_n (pc := 34) (i := 1) h dX10_often_34 rfl rfl ?_
    refine x_if_lt (pc := 35) (tgt := 49) h dX10_often_35 (by decide) ?_ ?_
    · exact At.mask [true, true, true, true, true, true, false] rfl rfl (f_X10_often_J49_at fu σ k0 p1 p2 ag5 ag21 h z hk0 x3 x4 x5 hg5 hg21)
    · refine x_aload_n (pc := 38) (i := 0) h dX10_often_38 rfl rfl ?_
      refine x_iload (pc := 39) h dX10_often_39 rfl ?_
      refine x_iconst (pc := 41) (v := 3) h dX10_often_41 (by decide) ?_
      refine x_Vp (pc := 42) (av := fun ad => [.int x4, .int 3]) (rest := []) h m_X10_of i_X10_of kl_X10_47 hk0 (by decide) rfl (c_X10_of fu σ k0 x4 3 hk0) rfl rfl (gCaM rfl) dX10_often_42 (fun v42 => ?_)
      refine x_iload_n (pc := 45) (i := 1) h dX10_often_45 rfl rfl ?_
      refine x_icmp_ne (pc := 46) (tgt := 68) h dX10_often_46 (by decide) ?_ ?_
      · refine x_iconst (pc := 68) (v := 0) h dX10_often_68 (by decide) ?_
        exact At.mask [true, true, true, true, true, true, false] rfl rfl (f_X10_often_J69_at fu σ k0 p1 p2 ag5 ag21 h z hk0 x3 x4 x5 0 hg5 hg21)
      · exact At.mask [true, true, true, true, true, true, false] rfl rfl (f_X10_often_J49_at fu σ k0 p1 p2 ag5 ag21 h z hk0 x3 x4 x5 hg5 hg21)

theorem f_X10_often_W21_at (fu : Nat) (σ : gSt) (k0 : Nat) (p1 : Int32) (p2 : Int32) (ag5 : Int32 → Int32 → Option (Int32)) (x4 : Int32) {Γ : gX (Int32)} (h : gOk Γ cX10_often 7 RX10 (some .int) 2 45) (z : gEnd Γ (gQp σ)) (hk0 : isO k0 10) (hg5 : ∀ (y3 : Int32) (y4 : Int32), At Γ 5 [some (.ref (gAd Γ.1 k0)), some (.int p1), some (.int p2), some (.int y3), some (.int y4), none, none] [] σ (ag5 y3 y4)) : ∀ (n : Nat) (x3 : Int32) (x5 : Int32), At Γ 21 [some (.ref (gAd Γ.1 k0)), some (.int p1), some (.int p2), some (.int x3), some (.int x4), some (.int x5), none] [] σ (f_X10_often_W21 fu σ k0 p1 p2 ag5 x4 n x3 x5) := by
  intro n
  induction n with
  | zero => intro x3 x5 r hr; cases hr
  | succ n ih =>
    intro x3 x5
    exact f_X10_often_L21_at fu σ k0 p1 p2 ag5 x4 (f_X10_often_W21 fu σ k0 p1 p2 ag5 x4 n) h z hk0 hg5 ih x3 x5

set_option maxRecDepth 20000 in
set_option maxHeartbeats 4000000 in
theorem f_X10_often_L5_at (fu : Nat) (σ : gSt) (k0 : Nat) (p1 : Int32) (p2 : Int32) (ag5 : Int32 → Int32 → Option (Int32)) {Γ : gX (Int32)} (h : gOk Γ cX10_often 7 RX10 (some .int) 2 45) (z : gEnd Γ (gQp σ)) (hk0 : isO k0 10) (hg5 : ∀ (y3 : Int32) (y4 : Int32), At Γ 5 [some (.ref (gAd Γ.1 k0)), some (.int p1), some (.int p2), some (.int y3), some (.int y4), none, none] [] σ (ag5 y3 y4)) (x3 : Int32) (x4 : Int32) : At Γ 5 [some (.ref (gAd Γ.1 k0)), some (.int p1), some (.int p2), some (.int x3), some (.int x4), none, none] [] σ (f_X10_often_L5 fu σ k0 p1 p2 ag5 x3 x4) := by
  unfold f_X10_often_L5
  refine x_iload (pc := 5) h dX10_often_5 rfl ?_
  refine x_aload_n (pc := 7) (i := 0) h dX10_often_7 rfl rfl ?_
  refine gf_X10_7 (pc := 8) h hk0 dX10_often_8 ?_
  refine x_sipush (pc := 11) (v := 282) h dX10_often_11 (by decide) ?_
  refine x_ialdS (pc := 14) h 282 (t_10_0 hk0) (by decide) (by decide) (by decide) dX10_often_14 ?_
  refine x_icmp_ge (pc := 15) (tgt := 107) h dX10_often_15 (by decide) ?_ ?_
  · refine x_iload_n (pc := 107) (i := 3) h dX10_often_107 rfl rfl ?_
    exact x_iretp (pc := 108) h z rfl .int rfl rfl dX10_often_108
  · refine x_iconst (pc := 18) (v := 0) h dX10_often_18 (by decide) ?_
    refine x_istore (pc := 19) (L' := [some (.ref (gAd Γ.1 k0)), some (.int p1), some (.int p2), some (.int x3), some (.int x4), some (.int 0), none]) h dX10_often_19 (Nat.le_of_ble_eq_true rfl) rfl ?_
    exact At.mask [true, true, true, true, true, true, false] rfl rfl (f_X10_often_W21_at fu σ k0 p1 p2 ag5 x4 h z hk0 hg5 fu x3 0)

theorem f_X10_often_W5_at (fu : Nat) (σ : gSt) (k0 : Nat) (p1 : Int32) (p2 : Int32) {Γ : gX (Int32)} (h : gOk Γ cX10_often 7 RX10 (some .int) 2 45) (z : gEnd Γ (gQp σ)) (hk0 : isO k0 10) : ∀ (n : Nat) (x3 : Int32) (x4 : Int32), At Γ 5 [some (.ref (gAd Γ.1 k0)), some (.int p1), some (.int p2), some (.int x3), some (.int x4), none, none] [] σ (f_X10_often_W5 fu σ k0 p1 p2 n x3 x4) := by
  intro n
  induction n with
  | zero => intro x3 x4 r hr; cases hr
  | succ n ih =>
    intro x3 x4
    exact f_X10_often_L5_at fu σ k0 p1 p2 (f_X10_often_W5 fu σ k0 p1 p2 n) h z hk0 ih x3 x4

set_option maxRecDepth 20000 in
set_option maxHeartbeats 4000000 in
theorem c_X10_often (fu : Nat) (σ : gSt) (k0 : Nat) (p1 : Int32) (p2 : Int32) (hk0 : isO k0 10) : gCt yX10_often cX10_often 7 (some .int) 2 45 (gQp σ) (fun ad => [.ref (ad k0), .int p1, .int p2]) σ (f_X10_often fu σ k0 p1 p2) := by
  refine gCt_intro RX10 rfl (by decide +kernel) (fun ad v hv => by simp only [List.mem_cons, List.not_mem_nil, or_false] at hv; rcases hv with rfl | rfl | rfl <;> rfl) (fun ad => Nat.le_of_ble_eq_true rfl) (fun Γ h z => ?_)
  show At Γ 0 [some (.ref (gAd Γ.1 k0)), some (.int p1), some (.int p2), none, none, none, none] [] σ _
  unfold f_X10_often
  refine x_iconst (pc := 0) (v := 0) h dX10_often_0 (by decide) ?_
  refine x_istore_n (pc := 1) (i := 3) (L' := [some (.ref (gAd Γ.1 k0)), some (.int p1), some (.int p2), some (.int 0), none, none, none]) h dX10_often_1 rfl (Nat.le_of_ble_eq_true rfl) rfl ?_
  refine x_iconst (pc := 2) (v := 0) h dX10_often_2 (by decide) ?_
  refine x_istore (pc := 3) (L' := [some (.ref (gAd Γ.1 k0)), some (.int p1), some (.int p2), some (.int 0), some (.int 0), none, none]) h dX10_often_3 (Nat.le_of_ble_eq_true rfl) rfl ?_
  exact At.mask [true, true, true, true, true, false, false] rfl rfl (f_X10_often_W5_at fu σ k0 p1 p2 h z hk0 fu 0 0)

set_option maxRecDepth 20000 in
set_option maxHeartbeats 4000000 in
theorem f_X10_byMinute_J25_at (fu : Nat) (σ : gSt) (k0 : Nat) (p1 : Int32) {Γ : gX (Int32)} (h : gOk Γ cX10_byMinute 4 RX10 (some .int) 2 50) (z : gEnd Γ (gQp σ)) (hk0 : isO k0 10) (x2 : Int32) (s2 : Int32) (s1 : UInt32) : At Γ 25 [none, none, some (.int x2), none] [.int s2, .float s1] σ (f_X10_byMinute_J25 fu σ k0 p1 x2 s2 s1) := by
  unfold f_X10_byMinute_J25
  refine x_i2f (pc := 25) h dX10_byMinute_25 ?_
  refine x_fdiv (pc := 26) h dX10_byMinute_26 (fun v26 => ?_)
  refine x_fstore_n (pc := 27) (i := 3) (L' := [none, none, some (.int x2), some (.float v26)]) h dX10_byMinute_27 rfl (Nat.le_of_ble_eq_true rfl) rfl ?_
  refine x_iload_n (pc := 28) (i := 2) h dX10_byMinute_28 rfl rfl ?_
  refine x_if_ne (pc := 29) (tgt := 37) h dX10_byMinute_29 (by decide) ?_ ?_
  · refine x_fload_n (pc := 37) (i := 3) h dX10_byMinute_37 rfl rfl ?_
    refine x_Sp (pc := 38) (av := fun ad => [.float v26]) (rest := []) h m_Jxf58ca_floatToIntBits_5c35a s_Jxf58ca_floatToIntBits_5c35a kl_X10_137 (c_Jxf58ca_floatToIntBits_5c35a fu σ v26) rfl rfl (gCaM rfl) dX10_byMinute_38 (fun v38 => ?_)
    exact x_iretp (pc := 41) h z rfl .int rfl rfl dX10_byMinute_41
  · refine x_ldc (pc := 32) h kc_X10_110 dX10_byMinute_32 ?_
    refine x_goto (pc := 34) (tgt := 41) h dX10_byMinute_34 (by decide) ?_
    exact x_iretp (pc := 41) h z rfl .int rfl rfl dX10_byMinute_41

set_option maxRecDepth 20000 in
set_option maxHeartbeats 4000000 in
theorem c_X10_byMinute (fu : Nat) (σ : gSt) (k0 : Nat) (p1 : Int32) (hk0 : isO k0 10) : gCt yX10_byMinute cX10_byMinute 4 (some .int) 2 50 (gQp σ) (fun ad => [.ref (ad k0), .int p1]) σ (f_X10_byMinute fu σ k0 p1) := by
  refine gCt_intro RX10 rfl (by decide +kernel) (fun ad v hv => by simp only [List.mem_cons, List.not_mem_nil, or_false] at hv; rcases hv with rfl | rfl <;> rfl) (fun ad => Nat.le_of_ble_eq_true rfl) (fun Γ h z => ?_)
  show At Γ 0 [some (.ref (gAd Γ.1 k0)), some (.int p1), none, none] [] σ _
  unfold f_X10_byMinute
  refine x_aload_n (pc := 0) (i := 0) h dX10_byMinute_0 rfl rfl ?_
  refine x_iload_n (pc := 1) (i := 1) h dX10_byMinute_1 rfl rfl ?_
  refine x_Vp (pc := 2) (av := fun ad => [.int p1]) (rest := []) h m_X10_secondsOf i_X10_secondsOf kl_X10_130 hk0 (by decide) rfl (c_X10_secondsOf fu σ k0 p1 hk0) rfl rfl (gCaM rfl) dX10_byMinute_2 (fun v2 => ?_)
  refine x_istore_n (pc := 5) (i := 2) (L' := [some (.ref (gAd Γ.1 k0)), some (.int p1), some (.int v2), none]) h dX10_byMinute_5 rfl (Nat.le_of_ble_eq_true rfl) rfl ?_
  refine x_aload_n (pc := 6) (i := 0) h dX10_byMinute_6 rfl rfl ?_
  refine x_iload_n (pc := 7) (i := 1) h dX10_byMinute_7 rfl rfl ?_
  refine x_iconst (pc := 8) (v := 0) h dX10_byMinute_8 (by decide) ?_
  refine x_Vp (pc := 9) (av := fun ad => [.int p1, .int 0]) (rest := []) h m_X10_termsOf i_X10_termsOf kl_X10_133 hk0 (by decide) rfl (c_X10_termsOf fu σ k0 p1 0 hk0) rfl rfl (gCaM rfl) dX10_byMinute_9 (fun v9 => ?_)
  refine x_i2f (pc := 12) h dX10_byMinute_12 ?_
  refine x_ldcf (pc := 13) h kc_X10_136 dX10_byMinute_13 ?_
  refine x_fmul (pc := 15) h dX10_byMinute_15 (fun v15 => ?_)
  refine x_iload_n (pc := 16) (i := 2) h dX10_byMinute_16 rfl rfl ?_
  refine x_nm (e := (if v2 = 0 then 1 else v2)) (pcJ := 25) (LJ := [some (.ref (gAd Γ.1 k0)), some (.int p1), some (.int v2), none]) (sJ := [.float v15]) (fun w17 => ?_) (fun kj17 => ?_)
  · exact At.mask [false, false, true, false] rfl rfl (f_X10_byMinute_J25_at fu σ k0 p1 h z hk0 v2 w17 v15)
  · refine j_if_ne (pc := 17) (tgt := 24) h dX10_byMinute_17 (by decide) (fun hc17_0 => ?_) (fun hc17_0 => ?_)
    · refine x_iload_n (pc := 24) (i := 2) h dX10_byMinute_24 rfl rfl ?_
      exact kj17 v2 (by rw [if_neg hc17_0])
    · refine x_iconst (pc := 20) (v := 1) h dX10_byMinute_20 (by decide) ?_
      refine x_goto (pc := 21) (tgt := 25) h dX10_byMinute_21 (by decide) ?_
      exact kj17 1 (by rw [if_pos hc17_0])

set_option maxRecDepth 20000 in
set_option maxHeartbeats 4000000 in
theorem c_X10_speakerOf (fu : Nat) (σ : gSt) (k0 : Nat) (p1 : Int32) (p2 : Int32) (hk0 : isO k0 10) : gCt yX10_speakerOf cX10_speakerOf 3 (some .int) 3 73 (gQp σ) (fun ad => [.ref (ad k0), .int p1, .int p2]) σ (f_X10_speakerOf fu σ k0 p1 p2) := by
  refine gCt_intro RX10 rfl (by decide +kernel) (fun ad v hv => by simp only [List.mem_cons, List.not_mem_nil, or_false] at hv; rcases hv with rfl | rfl | rfl <;> rfl) (fun ad => Nat.le_of_ble_eq_true rfl) (fun Γ h z => ?_)
  show At Γ 0 [some (.ref (gAd Γ.1 k0)), some (.int p1), some (.int p2)] [] σ _
  unfold f_X10_speakerOf
  refine x_aload_n (pc := 0) (i := 0) h dX10_speakerOf_0 rfl rfl ?_
  refine x_iload_n (pc := 1) (i := 1) h dX10_speakerOf_1 rfl rfl ?_
  refine x_Vp (pc := 2) (av := fun ad => [.int p1]) (rest := []) h m_X10_isVoice i_X10_isVoice kl_X10_91 hk0 (by decide) rfl (c_X10_isVoice fu σ k0 p1 hk0) rfl rfl (gCaM rfl) dX10_speakerOf_2 (fun v2 => ?_)
  refine x_if_eq (pc := 5) (tgt := 18) h dX10_speakerOf_5 (by decide) ?_ ?_
  · refine x_ldc (pc := 18) h kc_X10_50 dX10_speakerOf_18 ?_
    exact x_iretp (pc := 20) h z rfl .int rfl rfl dX10_speakerOf_20
  · refine x_iload_n (pc := 8) (i := 2) h dX10_speakerOf_8 rfl rfl ?_
    refine x_iconst (pc := 9) (v := 0) h dX10_speakerOf_9 (by decide) ?_
    refine x_bipush (pc := 10) (v := 6) h dX10_speakerOf_10 (by decide) ?_
    refine x_Sp (pc := 12) (av := fun ad => [.int p2, .int 0, .int 6]) (rest := []) h m_X10_in s_X10_in kl_X10_39 (c_X10_in fu σ p2 0 6) rfl rfl (gCaM rfl) dX10_speakerOf_12 (fun v12 => ?_)
    refine x_if_ne (pc := 15) (tgt := 21) h dX10_speakerOf_15 (by decide) ?_ ?_
    · refine x_iload_n (pc := 21) (i := 2) h dX10_speakerOf_21 rfl rfl ?_
      refine x_tsw (pc := 22) (tgt := 60) h 0 (0) dX10_speakerOf_22 rfl (by decide) (by decide) rfl (by decide) ?_ (fun c22_0 => ?_)
      · refine x_aload_n (pc := 60) (i := 0) h dX10_speakerOf_60 rfl rfl ?_
        refine gf_X10_7 (pc := 61) h hk0 dX10_speakerOf_61 ?_
        refine x_sipush (pc := 64) (v := 276) h dX10_speakerOf_64 (by decide) ?_
        refine x_iload_n (pc := 67) (i := 1) h dX10_speakerOf_67 rfl rfl ?_
        refine x_iadd (pc := 68) h dX10_speakerOf_68 ?_
        refine x_iald (pc := 69) h (t_10_0 hk0) dX10_speakerOf_69 (fun v69 => ?_)
        exact x_iretp (pc := 70) h z rfl .int rfl rfl dX10_speakerOf_70
      refine x_tsw (pc := 22) (tgt := 71) h 1 (1) dX10_speakerOf_22 rfl (by decide) (by decide) rfl (by decide) ?_ (fun c22_1 => ?_)
      · refine x_aload_n (pc := 71) (i := 0) h dX10_speakerOf_71 rfl rfl ?_
        refine x_iload_n (pc := 72) (i := 1) h dX10_speakerOf_72 rfl rfl ?_
        refine x_Vp (pc := 73) (av := fun ad => [.int p1]) (rest := []) h m_X10_turnsOf i_X10_turnsOf kl_X10_88 hk0 (by decide) rfl (c_X10_turnsOf fu σ k0 p1 hk0) rfl rfl (gCaM rfl) dX10_speakerOf_73 (fun v73 => ?_)
        exact x_iretp (pc := 76) h z rfl .int rfl rfl dX10_speakerOf_76
      refine x_tsw (pc := 22) (tgt := 77) h 2 (2) dX10_speakerOf_22 rfl (by decide) (by decide) rfl (by decide) ?_ (fun c22_2 => ?_)
      · refine x_aload_n (pc := 77) (i := 0) h dX10_speakerOf_77 rfl rfl ?_
        refine x_iload_n (pc := 78) (i := 1) h dX10_speakerOf_78 rfl rfl ?_
        refine x_Vp (pc := 79) (av := fun ad => [.int p1]) (rest := []) h m_X10_secondsOf i_X10_secondsOf kl_X10_130 hk0 (by decide) rfl (c_X10_secondsOf fu σ k0 p1 hk0) rfl rfl (gCaM rfl) dX10_speakerOf_79 (fun v79 => ?_)
        exact x_iretp (pc := 82) h z rfl .int rfl rfl dX10_speakerOf_82
      refine x_tsw (pc := 22) (tgt := 83) h 3 (3) dX10_speakerOf_22 rfl (by decide) (by decide) rfl (by decide) ?_ (fun c22_3 => ?_)
      · refine x_aload_n (pc := 83) (i := 0) h dX10_speakerOf_83 rfl rfl ?_
        refine x_iload_n (pc := 84) (i := 1) h dX10_speakerOf_84 rfl rfl ?_
        refine x_iconst (pc := 85) (v := 1) h dX10_speakerOf_85 (by decide) ?_
        refine x_Vp (pc := 86) (av := fun ad => [.int p1, .int 1]) (rest := []) h m_X10_termsOf i_X10_termsOf kl_X10_133 hk0 (by decide) rfl (c_X10_termsOf fu σ k0 p1 1 hk0) rfl rfl (gCaM rfl) dX10_speakerOf_86 (fun v86 => ?_)
        exact x_iretp (pc := 89) h z rfl .int rfl rfl dX10_speakerOf_89
      refine x_tsw (pc := 22) (tgt := 90) h 4 (4) dX10_speakerOf_22 rfl (by decide) (by decide) rfl (by decide) ?_ (fun c22_4 => ?_)
      · refine x_aload_n (pc := 90) (i := 0) h dX10_speakerOf_90 rfl rfl ?_
        refine x_iload_n (pc := 91) (i := 1) h dX10_speakerOf_91 rfl rfl ?_
        refine x_iconst (pc := 92) (v := (-1)) h dX10_speakerOf_92 (by decide) ?_
        refine x_Vp (pc := 93) (av := fun ad => [.int p1, .int (-1)]) (rest := []) h m_X10_often i_X10_often kl_X10_143 hk0 (by decide) rfl (c_X10_often fu σ k0 p1 (-1) hk0) rfl rfl (gCaM rfl) dX10_speakerOf_93 (fun v93 => ?_)
        exact x_iretp (pc := 96) h z rfl .int rfl rfl dX10_speakerOf_96
      refine x_tsw (pc := 22) (tgt := 97) h 5 (5) dX10_speakerOf_22 rfl (by decide) (by decide) rfl (by decide) ?_ (fun c22_5 => ?_)
      · refine x_aload_n (pc := 97) (i := 0) h dX10_speakerOf_97 rfl rfl ?_
        refine x_iconst (pc := 98) (v := (-1)) h dX10_speakerOf_98 (by decide) ?_
        refine x_iload_n (pc := 99) (i := 1) h dX10_speakerOf_99 rfl rfl ?_
        refine x_Vp (pc := 100) (av := fun ad => [.int (-1), .int p1]) (rest := []) h m_X10_often i_X10_often kl_X10_143 hk0 (by decide) rfl (c_X10_often fu σ k0 (-1) p1 hk0) rfl rfl (gCaM rfl) dX10_speakerOf_100 (fun v100 => ?_)
        exact x_iretp (pc := 103) h z rfl .int rfl rfl dX10_speakerOf_103
      refine x_tswd (pc := 22) (tgt := 104) h dX10_speakerOf_22 (by have e0 := gNe (0) c22_0 rfl; have e1 := gNe (1) c22_1 rfl; have e2 := gNe (2) c22_2 rfl; have e3 := gNe (3) c22_3 rfl; have e4 := gNe (4) c22_4 rfl; have e5 := gNe (5) c22_5 rfl; omega) (by decide) ?_
      refine x_aload_n (pc := 104) (i := 0) h dX10_speakerOf_104 rfl rfl ?_
      refine x_iload_n (pc := 105) (i := 1) h dX10_speakerOf_105 rfl rfl ?_
      refine x_Vp (pc := 106) (av := fun ad => [.int p1]) (rest := []) h m_X10_byMinute i_X10_byMinute kl_X10_146 hk0 (by decide) rfl (c_X10_byMinute fu σ k0 p1 hk0) rfl rfl (gCaM rfl) dX10_speakerOf_106 (fun v106 => ?_)
      exact x_iretp (pc := 109) h z rfl .int rfl rfl dX10_speakerOf_109
    · refine x_ldc (pc := 18) h kc_X10_50 dX10_speakerOf_18 ?_
      exact x_iretp (pc := 20) h z rfl .int rfl rfl dX10_speakerOf_20

