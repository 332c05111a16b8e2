set_option maxRecDepth 20000 in
set_option maxHeartbeats 4000000 in
theorem f_X10_undo_L22_at (fu : Nat) (k0 : Nat) (ag22 : Int32 → gSt → Option (Int32 × gSt)) {Γ : gX (Int32 × gSt)} (h : gOk Γ cX10_undo 2 RX10 (some .int) 0 0) (z : gEnd Γ gQi) (hk0 : isO k0 10) (hg22 : ∀ (y1 : Int32) (τ : gSt), At Γ 22 [some (.ref (gAd Γ.1 k0)), some (.int y1)] [] τ (ag22 y1 τ)) (x1 : Int32) (σ : gSt) : At Γ 22 [some (.ref (gAd Γ.1 k0)), some (.int x1)] [] σ (f_X10_undo_L22 fu k0 ag22 x1 σ) := by
  unfold f_X10_undo_L22
  refine x_iload_n (pc := 22) (i := 1) h dX10_undo_22 rfl rfl ?_
  refine x_sipush (pc := 23) (v := 284) h dX10_undo_23 (by decide) ?_
  refine x_icmp_ge (pc := 26) (tgt := 56) h dX10_undo_26 (by decide) ?_ ?_
  · refine x_aload_n (pc := 56) (i := 0) h dX10_undo_56 rfl rfl ?_
    refine gf_X10_35 (pc := 57) h hk0 dX10_undo_57 ?_
    exact x_ireti (pc := 60) h z .int rfl rfl dX10_undo_60
  · refine x_aload_n (pc := 29) (i := 0) h dX10_undo_29 rfl rfl ?_
    refine gf_X10_7 (pc := 30) h hk0 dX10_undo_30 ?_
    refine x_iload_n (pc := 33) (i := 1) h dX10_undo_33 rfl rfl ?_
    refine x_aload_n (pc := 34) (i := 0) h dX10_undo_34 rfl rfl ?_
    refine gf_X10_13 (pc := 35) h hk0 dX10_undo_35 ?_
    refine x_sipush (pc := 38) (v := 284) h dX10_undo_38 (by decide) ?_
    refine x_aload_n (pc := 41) (i := 0) h dX10_undo_41 rfl rfl ?_
    refine gf_X10_35 (pc := 42) h hk0 dX10_undo_42 ?_
    refine x_imul (pc := 45) h dX10_undo_45 ?_
    refine x_iload_n (pc := 46) (i := 1) h dX10_undo_46 rfl rfl ?_
    refine x_iadd (pc := 47) h dX10_undo_47 ?_
    refine x_iald (pc := 48) h (t_10_1 hk0) dX10_undo_48 (fun v48 => ?_)
    refine x_iast (pc := 49) h (t_10_0 hk0) dX10_undo_49 (fun σ49 => ?_)
    refine x_iinc (pc := 50) (i := 1) (v := (x1 + 1)) (L' := [some (.ref (gAd Γ.1 k0)), some (.int (x1 + 1))]) h dX10_undo_50 rfl rfl rfl ?_
    refine x_goto (pc := 53) (tgt := 22) h dX10_undo_53 (by decide) ?_
    exact At.mask [true, true] rfl rfl (hg22 (x1 + 1) σ49)

theorem f_X10_undo_W22_at (fu : Nat) (k0 : Nat) {Γ : gX (Int32 × gSt)} (h : gOk Γ cX10_undo 2 RX10 (some .int) 0 0) (z : gEnd Γ gQi) (hk0 : isO k0 10) : ∀ (n : Nat) (x1 : Int32) (σ : gSt), At Γ 22 [some (.ref (gAd Γ.1 k0)), some (.int x1)] [] σ (f_X10_undo_W22 fu k0 n x1 σ) := by
  intro n
  induction n with
  | zero => intro x1 σ r hr; cases hr
  | succ n ih =>
    intro x1 σ
    exact f_X10_undo_L22_at fu k0 (f_X10_undo_W22 fu k0 n) h z hk0 ih x1 σ

set_option maxRecDepth 20000 in
set_option maxHeartbeats 4000000 in
theorem c_X10_undo (fu : Nat) (σ : gSt) (k0 : Nat) (hk0 : isO k0 10) : gCt yX10_undo cX10_undo 2 (some .int) 0 0 gQi (fun ad => [.ref (ad k0)]) σ (f_X10_undo fu σ k0) := by
  refine gCt_intro RX10 rfl (by decide +kernel) (fun ad v hv => by simp only [List.mem_cons, List.not_mem_nil, or_false] at hv; rcases hv with rfl <;> rfl) (fun ad => Nat.le_of_ble_eq_true rfl) (fun Γ h z => ?_)
  show At Γ 0 [some (.ref (gAd Γ.1 k0)), none] [] σ _
  unfold f_X10_undo
  refine x_aload_n (pc := 0) (i := 0) h dX10_undo_0 rfl rfl ?_
  refine gf_X10_35 (pc := 1) h hk0 dX10_undo_1 ?_
  refine x_if_ne (pc := 4) (tgt := 10) h dX10_undo_4 (by decide) ?_ ?_
  · refine x_aload_n (pc := 10) (i := 0) h dX10_undo_10 rfl rfl ?_
    refine x_dup (pc := 11) h dX10_undo_11 rfl ?_
    refine gf_X10_35 (pc := 12) h hk0 dX10_undo_12 ?_
    refine x_iconst (pc := 15) (v := 1) h dX10_undo_15 (by decide) ?_
    refine x_isub (pc := 16) h dX10_undo_16 ?_
    refine x_put (pc := 17) h 10 3 .int hk0 (by decide) (by decide) rfl rfl rfl rfl rfl kf_X10_35 dX10_undo_17 (fun σ17 => ?_)
    refine x_iconst (pc := 20) (v := 0) h dX10_undo_20 (by decide) ?_
    refine x_istore_n (pc := 21) (i := 1) (L' := [some (.ref (gAd Γ.1 k0)), some (.int 0)]) h dX10_undo_21 rfl (Nat.le_of_ble_eq_true rfl) rfl ?_
    exact At.mask [true, true] rfl rfl (f_X10_undo_W22_at fu k0 h z hk0 fu 0 σ17)
  · refine x_ldc (pc := 7) h kc_X10_80 dX10_undo_7 ?_
    exact x_ireti (pc := 9) h z .int rfl rfl dX10_undo_9

set_option maxRecDepth 20000 in
set_option maxHeartbeats 4000000 in
theorem c_X6_isFull (fu : Nat) (σ : gSt) (k0 : Nat) (hk0 : isO k0 6) : gCt yX6_isFull cX6_isFull 1 (some .boolean) 0 0 (gQp σ) (fun ad => [.ref (ad k0)]) σ (f_X6_isFull fu σ k0) := by
  refine gCt_intro RX6 rfl (by decide +kernel) (fun ad v hv => by simp only [List.mem_cons, List.not_mem_nil, or_false] at hv; rcases hv with rfl <;> rfl) (fun ad => Nat.le_of_ble_eq_true rfl) (fun Γ h z => ?_)
  show At Γ 0 [some (.ref (gAd Γ.1 k0))] [] σ _
  unfold f_X6_isFull
  refine x_aload_n (pc := 0) (i := 0) h dX6_isFull_0 rfl rfl ?_
  refine gf_X6_15 (pc := 1) h hk0 dX6_isFull_1 ?_
  refine x_bipush (pc := 4) (v := 60) h dX6_isFull_4 (by decide) ?_
  refine x_icmp_lt (pc := 6) (tgt := 13) h dX6_isFull_6 (by decide) ?_ ?_
  · refine x_iconst (pc := 13) (v := 0) h dX6_isFull_13 (by decide) ?_
    exact x_iretp (pc := 14) h z rfl .boolean rfl rfl dX6_isFull_14
  · refine x_iconst (pc := 9) (v := 1) h dX6_isFull_9 (by decide) ?_
    refine x_goto (pc := 10) (tgt := 14) h dX6_isFull_10 (by decide) ?_
    exact x_iretp (pc := 14) h z rfl .boolean rfl rfl dX6_isFull_14

set_option maxRecDepth 20000 in
set_option maxHeartbeats 4000000 in
theorem c_X6_append (fu : Nat) (σ : gSt) (k0 : Nat) (p1 : Int32) (hk0 : isO k0 6) : gCt yX6_append cX6_append 2 (some .int) 1 22 gQi (fun ad => [.ref (ad k0), .int p1]) σ (f_X6_append fu σ k0 p1) := by
  refine gCt_intro RX6 rfl (by decide +kernel) (fun ad v hv => by simp only [List.mem_cons, List.not_mem_nil, or_false] at hv; rcases hv with rfl | rfl <;> rfl) (fun ad => Nat.le_of_ble_eq_true rfl) (fun Γ h z => ?_)
  show At Γ 0 [some (.ref (gAd Γ.1 k0)), some (.int p1)] [] σ _
  unfold f_X6_append
  refine x_aload_n (pc := 0) (i := 0) h dX6_append_0 rfl rfl ?_
  refine gf_X6_15 (pc := 1) h hk0 dX6_append_1 ?_
  refine x_iconst (pc := 4) (v := 0) h dX6_append_4 (by decide) ?_
  refine x_bipush (pc := 5) (v := 59) h dX6_append_5 (by decide) ?_
  refine x_Np (pc := 7) (av := fun ad => [.int (σ k0 1), .int 0, .int 59]) (rest := []) h m_X9_isWithin s_X9_isWithin kl_X6_19 (c_X9_isWithin fu σ (σ k0 1) 0 59) rfl rfl (gCaM rfl) dX6_append_7 (fun v7 => ?_)
  refine x_if_eq (pc := 10) (tgt := 33) h dX6_append_10 (by decide) ?_ ?_
  · refine x_aload_n (pc := 33) (i := 0) h dX6_append_33 rfl rfl ?_
    refine gf_X6_15 (pc := 34) h hk0 dX6_append_34 ?_
    exact x_ireti (pc := 37) h z .int rfl rfl dX6_append_37
  · refine x_aload_n (pc := 13) (i := 0) h dX6_append_13 rfl rfl ?_
    refine gf_X6_9 (pc := 14) h hk0 dX6_append_14 ?_
    refine x_aload_n (pc := 17) (i := 0) h dX6_append_17 rfl rfl ?_
    refine gf_X6_15 (pc := 18) h hk0 dX6_append_18 ?_
    refine x_iload_n (pc := 21) (i := 1) h dX6_append_21 rfl rfl ?_
    refine x_iast (pc := 22) h (t_6_0 hk0) dX6_append_22 (fun σ22 => ?_)
    refine x_aload_n (pc := 23) (i := 0) h dX6_append_23 rfl rfl ?_
    refine x_dup (pc := 24) h dX6_append_24 rfl ?_
    refine gf_X6_15 (pc := 25) h hk0 dX6_append_25 ?_
    refine x_iconst (pc := 28) (v := 1) h dX6_append_28 (by decide) ?_
    refine x_iadd (pc := 29) h dX6_append_29 ?_
    refine x_put (pc := 30) h 6 1 .int hk0 (by decide) (by decide) rfl rfl rfl rfl rfl kf_X6_15 dX6_append_30 (fun σ30 => ?_)
    refine x_aload_n (pc := 33) (i := 0) h dX6_append_33 rfl rfl ?_
    refine gf_X6_15 (pc := 34) h hk0 dX6_append_34 ?_
    exact x_ireti (pc := 37) h z .int rfl rfl dX6_append_37

set_option maxRecDepth 20000 in
set_option maxHeartbeats 4000000 in
theorem c_X9_type (fu : Nat) (σ : gSt) (k0 : Nat) (p1 : Int32) (hk0 : isO k0 9) : gCt yX9_type cX9_type 2 (some .int) 2 43 gQi (fun ad => [.ref (ad k0), .int p1]) σ (f_X9_type fu σ k0 p1) := by
  refine gCt_intro RX9 rfl (by decide +kernel) (fun ad v hv => by simp only [List.mem_cons, List.not_mem_nil, or_false] at hv; rcases hv with rfl | rfl <;> rfl) (fun ad => Nat.le_of_ble_eq_true rfl) (fun Γ h z => ?_)
  show At Γ 0 [some (.ref (gAd Γ.1 k0)), some (.int p1)] [] σ _
  unfold f_X9_type
  refine x_iload_n (pc := 0) (i := 1) h dX9_type_0 rfl rfl ?_
  refine x_bipush (pc := 1) (v := 32) h dX9_type_1 (by decide) ?_
  refine x_bipush (pc := 3) (v := 126) h dX9_type_3 (by decide) ?_
  refine x_Sp (pc := 5) (av := fun ad => [.int p1, .int 32, .int 126]) (rest := []) h m_X9_isWithin s_X9_isWithin kl_X9_142 (c_X9_isWithin fu σ p1 32 126) rfl rfl (gCaM rfl) dX9_type_5 (fun v5 => ?_)
  refine x_if_ne (pc := 8) (tgt := 14) h dX9_type_8 (by decide) ?_ ?_
  · refine x_aload_n (pc := 14) (i := 0) h dX9_type_14 rfl rfl ?_
    refine gf_X9_38 (pc := 15) h hk0 dX9_type_15 ?_
    refine x_Vp (pc := 18) (av := fun ad => []) (rest := []) h m_X6_isFull i_X6_isFull kl_X9_147 (t_9_4 hk0) (by decide) rfl (c_X6_isFull fu σ (k0 + 6) (t_9_4 hk0)) rfl rfl (gCaM rfl) dX9_type_18 (fun v18 => ?_)
    refine x_if_eq (pc := 21) (tgt := 27) h dX9_type_21 (by decide) ?_ ?_
    · refine x_aload_n (pc := 27) (i := 0) h dX9_type_27 rfl rfl ?_
      refine gf_X9_38 (pc := 28) h hk0 dX9_type_28 ?_
      refine x_iload_n (pc := 31) (i := 1) h dX9_type_31 rfl rfl ?_
      refine x_Vi (pc := 32) (av := fun ad => [.int p1]) (rest := []) h m_X6_append i_X6_append kl_X9_151 (t_9_4 hk0) (by decide) rfl (c_X6_append fu σ (k0 + 6) p1 (t_9_4 hk0)) rfl rfl (gCaM rfl) dX9_type_32 (fun v32 σ32 => ?_)
      exact x_ireti (pc := 35) h z .int rfl rfl dX9_type_35
    · refine x_ldc (pc := 24) h kc_X9_150 dX9_type_24 ?_
      exact x_ireti (pc := 26) h z .int rfl rfl dX9_type_26
  · refine x_ldc (pc := 11) h kc_X9_146 dX9_type_11 ?_
    exact x_ireti (pc := 13) h z .int rfl rfl dX9_type_13

set_option maxRecDepth 20000 in
set_option maxHeartbeats 4000000 in
theorem c_X10_type (fu : Nat) (σ : gSt) (k0 : Nat) (p1 : Int32) (hk0 : isO k0 10) : gCt yX10_type cX10_type 2 (some .int) 1 22 gQi (fun ad => [.ref (ad k0), .int p1]) σ (f_X10_type fu σ k0 p1) := by
  refine gCt_intro RX10 rfl (by decide +kernel) (fun ad v hv => by simp only [List.mem_cons, List.not_mem_nil, or_false] at hv; rcases hv with rfl | rfl <;> rfl) (fun ad => Nat.le_of_ble_eq_true rfl) (fun Γ h z => ?_)
  show At Γ 0 [some (.ref (gAd Γ.1 k0)), some (.int p1)] [] σ _
  unfold f_X10_type
  refine x_iload_n (pc := 0) (i := 1) h dX10_type_0 rfl rfl ?_
  refine x_bipush (pc := 1) (v := 32) h dX10_type_1 (by decide) ?_
  refine x_bipush (pc := 3) (v := 126) h dX10_type_3 (by decide) ?_
  refine x_Sp (pc := 5) (av := fun ad => [.int p1, .int 32, .int 126]) (rest := []) h m_X10_in s_X10_in kl_X10_39 (c_X10_in fu σ p1 32 126) rfl rfl (gCaM rfl) dX10_type_5 (fun v5 => ?_)
  refine x_if_ne (pc := 8) (tgt := 14) h dX10_type_8 (by decide) ?_ ?_
  · refine x_aload_n (pc := 14) (i := 0) h dX10_type_14 rfl rfl ?_
    refine gf_X10_174 (pc := 15) h hk0 dX10_type_15 ?_
    refine x_bipush (pc := 18) (v := 60) h dX10_type_18 (by decide) ?_
    refine x_icmp_ne (pc := 20) (tgt := 26) h dX10_type_20 (by decide) ?_ ?_
    · refine x_aload_n (pc := 26) (i := 0) h dX10_type_26 rfl rfl ?_
      refine gf_X10_19 (pc := 27) h hk0 dX10_type_27 ?_
      refine x_aload_n (pc := 30) (i := 0) h dX10_type_30 rfl rfl ?_
      refine gf_X10_174 (pc := 31) h hk0 dX10_type_31 ?_
      refine x_iload_n (pc := 34) (i := 1) h dX10_type_34 rfl rfl ?_
      refine x_iast (pc := 35) h (t_10_5 hk0) dX10_type_35 (fun σ35 => ?_)
      refine x_aload_n (pc := 36) (i := 0) h dX10_type_36 rfl rfl ?_
      refine x_dup (pc := 37) h dX10_type_37 rfl ?_
      refine gf_X10_174 (pc := 38) h hk0 dX10_type_38 ?_
      refine x_iconst (pc := 41) (v := 1) h dX10_type_41 (by decide) ?_
      refine x_iadd (pc := 42) h dX10_type_42 ?_
      refine x_put (pc := 43) h 10 6 .int hk0 (by decide) (by decide) rfl rfl rfl rfl rfl kf_X10_174 dX10_type_43 (fun σ43 => ?_)
      refine x_aload_n (pc := 46) (i := 0) h dX10_type_46 rfl rfl ?_
      refine gf_X10_174 (pc := 47) h hk0 dX10_type_47 ?_
      exact x_ireti (pc := 50) h z .int rfl rfl dX10_type_50
    · refine x_ldc (pc := 23) h kc_X10_51 dX10_type_23 ?_
      exact x_ireti (pc := 25) h z .int rfl rfl dX10_type_25
  · refine x_ldc (pc := 11) h kc_X10_50 dX10_type_11 ?_
    exact x_ireti (pc := 13) h z .int rfl rfl dX10_type_13

set_option maxRecDepth 20000 in
set_option maxHeartbeats 4000000 in
theorem c_X6_empty (fu : Nat) (σ : gSt) (k0 : Nat) (hk0 : isO k0 6) : gCt yX6_empty cX6_empty 2 (some .int) 0 0 gQi (fun ad => [.ref (ad k0)]) σ (f_X6_empty fu σ k0) := by
  refine gCt_intro RX6 rfl (by decide +kernel) (fun ad v hv => by simp only [List.mem_cons, List.not_mem_nil, or_false] at hv; rcases hv with rfl <;> rfl) (fun ad => Nat.le_of_ble_eq_true rfl) (fun Γ h z => ?_)
  show At Γ 0 [some (.ref (gAd Γ.1 k0)), none] [] σ _
  unfold f_X6_empty
  refine x_aload_n (pc := 0) (i := 0) h dX6_empty_0 rfl rfl ?_
  refine gf_X6_15 (pc := 1) h hk0 dX6_empty_1 ?_
  refine x_istore_n (pc := 4) (i := 1) (L' := [some (.ref (gAd Γ.1 k0)), some (.int (σ k0 1))]) h dX6_empty_4 rfl (Nat.le_of_ble_eq_true rfl) rfl ?_
  refine x_aload_n (pc := 5) (i := 0) h dX6_empty_5 rfl rfl ?_
  refine x_iconst (pc := 6) (v := 0) h dX6_empty_6 (by decide) ?_
  refine x_put (pc := 7) h 6 1 .int hk0 (by decide) (by decide) rfl rfl rfl rfl rfl kf_X6_15 dX6_empty_7 (fun σ7 => ?_)
  refine x_iload_n (pc := 10) (i := 1) h dX6_empty_10 rfl rfl ?_
  exact x_ireti (pc := 11) h z .int rfl rfl dX6_empty_11

set_option maxRecDepth 20000 in
set_option maxHeartbeats 4000000 in
theorem c_X9_clearText (fu : Nat) (σ : gSt) (k0 : Nat) (hk0 : isO k0 9) : gCt yX9_clearText cX9_clearText 1 (some .int) 1 21 gQi (fun ad => [.ref (ad k0)]) σ (f_X9_clearText fu σ k0) := by
  refine gCt_intro RX9 rfl (by decide +kernel) (fun ad v hv => by simp only [List.mem_cons, List.not_mem_nil, or_false] at hv; rcases hv with rfl <;> rfl) (fun ad => Nat.le_of_ble_eq_true rfl) (fun Γ h z => ?_)
  show At Γ 0 [some (.ref (gAd Γ.1 k0))] [] σ _
  unfold f_X9_clearText
  refine x_aload_n (pc := 0) (i := 0) h dX9_clearText_0 rfl rfl ?_
  refine gf_X9_38 (pc := 1) h hk0 dX9_clearText_1 ?_
  refine x_Vi (pc := 4) (av := fun ad => []) (rest := []) h m_X6_empty i_X6_empty kl_X9_154 (t_9_4 hk0) (by decide) rfl (c_X6_empty fu σ (k0 + 6) (t_9_4 hk0)) rfl rfl (gCaM rfl) dX9_clearText_4 (fun v4 σ4 => ?_)
  exact x_ireti (pc := 7) h z .int rfl rfl dX9_clearText_7

set_option maxRecDepth 20000 in
set_option maxHeartbeats 4000000 in
theorem c_X10_clearText (fu : Nat) (σ : gSt) (k0 : Nat) (hk0 : isO k0 10) : gCt yX10_clearText cX10_clearText 2 (some .int) 0 0 gQi (fun ad => [.ref (ad k0)]) σ (f_X10_clearText fu σ k0) := by
  refine gCt_intro RX10 rfl (by decide +kernel) (fun ad v hv => by simp only [List.mem_cons, List.not_mem_nil, or_false] at hv; rcases hv with rfl <;> rfl) (fun ad => Nat.le_of_ble_eq_true rfl) (fun Γ h z => ?_)
  show At Γ 0 [some (.ref (gAd Γ.1 k0)), none] [] σ _
  unfold f_X10_clearText
  refine x_aload_n (pc := 0) (i := 0) h dX10_clearText_0 rfl rfl ?_
  refine gf_X10_174 (pc := 1) h hk0 dX10_clearText_1 ?_
  refine x_istore_n (pc := 4) (i := 1) (L' := [some (.ref (gAd Γ.1 k0)), some (.int (σ k0 6))]) h dX10_clearText_4 rfl (Nat.le_of_ble_eq_true rfl) rfl ?_
  refine x_aload_n (pc := 5) (i := 0) h dX10_clearText_5 rfl rfl ?_
  refine x_iconst (pc := 6) (v := 0) h dX10_clearText_6 (by decide) ?_
  refine x_put (pc := 7) h 10 6 .int hk0 (by decide) (by decide) rfl rfl rfl rfl rfl kf_X10_174 dX10_clearText_7 (fun σ7 => ?_)
  refine x_iload_n (pc := 10) (i := 1) h dX10_clearText_10 rfl rfl ?_
  exact x_ireti (pc := 11) h z .int rfl rfl dX10_clearText_11

set_option maxRecDepth 20000 in
set_option maxHeartbeats 4000000 in
theorem c_X6_characterAt (fu : Nat) (σ : gSt) (k0 : Nat) (p1 : Int32) (hk0 : isO k0 6) : gCt yX6_characterAt cX6_characterAt 2 (some .int) 0 0 (gQp σ) (fun ad => [.ref (ad k0), .int p1]) σ (f_X6_characterAt fu σ k0 p1) := by
  refine gCt_intro RX6 rfl (by decide +kernel) (fun ad v hv => by simp only [List.mem_cons, List.not_mem_nil, or_false] at hv; rcases hv with rfl | rfl <;> rfl) (fun ad => Nat.le_of_ble_eq_true rfl) (fun Γ h z => ?_)
  show At Γ 0 [some (.ref (gAd Γ.1 k0)), some (.int p1)] [] σ _
  unfold f_X6_characterAt
  refine x_iload_n (pc := 0) (i := 1) h dX6_characterAt_0 rfl rfl ?_
  refine x_if_lt (pc := 1) (tgt := 27) h dX6_characterAt_1 (by decide) ?_ ?_
  · refine x_iconst (pc := 27) (v := (-1)) h dX6_characterAt_27 (by decide) ?_
    exact x_iretp (pc := 28) h z rfl .int rfl rfl dX6_characterAt_28
  · refine x_iload_n (pc := 4) (i := 1) h dX6_characterAt_4 rfl rfl ?_
    refine x_aload_n (pc := 5) (i := 0) h dX6_characterAt_5 rfl rfl ?_
    refine gf_X6_15 (pc := 6) h hk0 dX6_characterAt_6 ?_
    refine x_icmp_ge (pc := 9) (tgt := 27) h dX6_characterAt_9 (by decide) ?_ ?_
    · refine x_iconst (pc := 27) (v := (-1)) h dX6_characterAt_27 (by decide) ?_
      exact x_iretp (pc := 28) h z rfl .int rfl rfl dX6_characterAt_28
    · refine x_iload_n (pc := 12) (i := 1) h dX6_characterAt_12 rfl rfl ?_
      refine x_bipush (pc := 13) (v := 60) h dX6_characterAt_13 (by decide) ?_
      refine x_icmp_ge (pc := 15) (tgt := 27) h dX6_characterAt_15 (by decide) ?_ ?_
      · refine x_iconst (pc := 27) (v := (-1)) h dX6_characterAt_27 (by decide) ?_
        exact x_iretp (pc := 28) h z rfl .int rfl rfl dX6_characterAt_28
      · refine x_aload_n (pc := 18) (i := 0) h dX6_characterAt_18 rfl rfl ?_
        refine gf_X6_9 (pc := 19) h hk0 dX6_characterAt_19 ?_
        refine x_iload_n (pc := 22) (i := 1) h dX6_characterAt_22 rfl rfl ?_
        refine x_iald (pc := 23) h (t_6_0 hk0) dX6_characterAt_23 (fun v23 => ?_)
        refine x_goto (pc := 24) (tgt := 28) h dX6_characterAt_24 (by decide) ?_
        exact x_iretp (pc := 28) h z rfl .int rfl rfl dX6_characterAt_28

set_option maxRecDepth 20000 in
set_option maxHeartbeats 4000000 in
theorem c_X2_numbersOf (fu : Nat) (σ : gSt) (p0 : Int32) : gCt yX2_numbersOf cX2_numbersOf 1 (some .int) 0 0 (gQp σ) (fun ad => [.int p0]) σ (f_X2_numbersOf fu σ p0) := by
  refine gCt_intro RX2 rfl (by decide +kernel) (fun ad v hv => by simp only [List.mem_cons, List.not_mem_nil, or_false] at hv; rcases hv with rfl <;> rfl) (fun ad => Nat.le_of_ble_eq_true rfl) (fun Γ h z => ?_)
  show At Γ 0 [some (.int p0)] [] σ _
  unfold f_X2_numbersOf
  refine x_iload_n (pc := 0) (i := 0) h dX2_numbersOf_0 rfl rfl ?_
  refine x_lsw (pc := 1) (off := 53) (tgt := 54) h 99 dX2_numbersOf_1 (by decide) (by decide) (by decide) ?_ (fun c1_99 => ?_)
  · refine x_iconst (pc := 54) (v := 2) h dX2_numbersOf_54 (by decide) ?_
    exact x_iretp (pc := 55) h z rfl .int rfl rfl dX2_numbersOf_55
  refine x_lsw (pc := 1) (off := 53) (tgt := 54) h 103 dX2_numbersOf_1 (by decide) (by decide) (by decide) ?_ (fun c1_103 => ?_)
  · refine x_iconst (pc := 54) (v := 2) h dX2_numbersOf_54 (by decide) ?_
    exact x_iretp (pc := 55) h z rfl .int rfl rfl dX2_numbersOf_55
  refine x_lsw (pc := 1) (off := 55) (tgt := 56) h 115 dX2_numbersOf_1 (by decide) (by decide) (by decide) ?_ (fun c1_115 => ?_)
  · refine x_iconst (pc := 56) (v := 1) h dX2_numbersOf_56 (by decide) ?_
    exact x_iretp (pc := 57) h z rfl .int rfl rfl dX2_numbersOf_57
  refine x_lsw (pc := 1) (off := 51) (tgt := 52) h 116 dX2_numbersOf_1 (by decide) (by decide) (by decide) ?_ (fun c1_116 => ?_)
  · refine x_iconst (pc := 52) (v := 3) h dX2_numbersOf_52 (by decide) ?_
    exact x_iretp (pc := 53) h z rfl .int rfl rfl dX2_numbersOf_53
  refine x_lsw (pc := 1) (off := 53) (tgt := 54) h 119 dX2_numbersOf_1 (by decide) (by decide) (by decide) ?_ (fun c1_119 => ?_)
  · refine x_iconst (pc := 54) (v := 2) h dX2_numbersOf_54 (by decide) ?_
    exact x_iretp (pc := 55) h z rfl .int rfl rfl dX2_numbersOf_55
  refine x_lswd (pc := 1) (tgt := 58) h dX2_numbersOf_1 (by decide) (gLso [(99, 53), (103, 53), (115, 55), (116, 51), (119, 53)] _ _ (by simp [gNe (99) c1_99 rfl, gNe (103) c1_103 rfl, gNe (115) c1_115 rfl, gNe (116) c1_116 rfl, gNe (119) c1_119 rfl])) (by decide) ?_
  refine x_iconst (pc := 58) (v := 0) h dX2_numbersOf_58 (by decide) ?_
  exact x_iretp (pc := 59) h z rfl .int rfl rfl dX2_numbersOf_59

set_option maxRecDepth 20000 in
set_option maxHeartbeats 4000000 in
theorem f_X2_readNumber_J86_at (fu : Nat) (k0 : Nat) (k1 : Nat) (p2 : Int32) (p3 : Int32) {Γ : gX (Int32 × gSt)} (h : gOk Γ cX2_readNumber 6 RX2 (some .boolean) 1 22) (z : gEnd Γ gQi) (hk0 : isO k0 2) (hk1 : isO k1 6) (x5 : Int32) (σ : gSt) : At Γ 86 [none, none, none, none, none, some (.int x5)] [] σ (f_X2_readNumber_J86 fu k0 k1 p2 p3 x5 σ) := by
  unfold f_X2_readNumber_J86
  refine x_iload (pc := 86) h dX2_readNumber_86 rfl ?_
  refine x_if_le (pc := 88) (tgt := 95) h dX2_readNumber_88 (by decide) ?_ ?_
  · refine x_iconst (pc := 95) (v := 0) h dX2_readNumber_95 (by decide) ?_
    exact x_ireti (pc := 96) h z .boolean rfl rfl dX2_readNumber_96
  · refine x_iconst (pc := 91) (v := 1) h dX2_readNumber_91 (by decide) ?_
    refine x_goto (pc := 92) (tgt := 96) h dX2_readNumber_92 (by decide) ?_
    exact x_ireti (pc := 96) h z .boolean rfl rfl dX2_readNumber_96

set_option maxRecDepth 20000 in
set_option maxHeartbeats 4000000 in
theorem f_X2_readNumber_J69_at (fu : Nat) (k0 : Nat) (k1 : Nat) (p2 : Int32) (p3 : Int32) {Γ : gX (Int32 × gSt)} (h : gOk Γ cX2_readNumber 6 RX2 (some .boolean) 1 22) (z : gEnd Γ gQi) (hk0 : isO k0 2) (hk1 : isO k1 6) (x4 : Int32) (x5 : Int32) (σ : gSt) : At Γ 69 [some (.ref (gAd Γ.1 k0)), none, none, some (.int p3), some (.int x4), some (.int x5)] [] σ (f_X2_readNumber_J69 fu k0 k1 p2 p3 x4 x5 σ) := by
  unfold f_X2_readNumber_J69
  refine x_iload_n (pc := 69) (i := 3) h dX2_readNumber_69 rfl rfl ?_
  refine x_iconst (pc := 70) (v := 0) h dX2_readNumber_70 (by decide) ?_
  refine x_iconst (pc := 71) (v := 2) h dX2_readNumber_71 (by decide) ?_
  refine x_Np (pc := 72) (av := fun ad => [.int p3, .int 0, .int 2]) (rest := []) h m_X9_isWithin s_X9_isWithin kl_X2_39 (c_X9_isWithin fu σ p3 0 2) rfl rfl (gCaM rfl) dX2_readNumber_72 (fun v72 => ?_)
  refine x_if_eq (pc := 75) (tgt := 86) h dX2_readNumber_75 (by decide) ?_ ?_
  · exact At.mask [false, false, false, false, false, true] rfl rfl (f_X2_readNumber_J86_at fu k0 k1 p2 p3 h z hk0 hk1 x5 σ)
  · refine x_aload_n (pc := 78) (i := 0) h dX2_readNumber_78 rfl rfl ?_
    refine gf_X2_9 (pc := 79) h hk0 dX2_readNumber_79 ?_
    refine x_iload_n (pc := 82) (i := 3) h dX2_readNumber_82 rfl rfl ?_
    refine x_iload (pc := 83) h dX2_readNumber_83 rfl ?_
    refine x_iast (pc := 85) h (t_2_0 hk0) dX2_readNumber_85 (fun σ85 => ?_)
    exact At.mask [false, false, false, false, false, true] rfl rfl (f_X2_readNumber_J86_at fu k0 k1 p2 p3 h z hk0 hk1 x5 σ85)

set_option maxRecDepth 20000 in
set_option maxHeartbeats 4000000 in
theorem f_X2_readNumber_L6_at (fu : Nat) (k0 : Nat) (k1 : Nat) (p2 : Int32) (p3 : Int32) (ag6 : Int32 → Int32 → gSt → Option (Int32 × gSt)) {Γ : gX (Int32 × gSt)} (h : gOk Γ cX2_readNumber 6 RX2 (some .boolean) 1 22) (z : gEnd Γ gQi) (hk0 : isO k0 2) (hk1 : isO k1 6) (hg6 : ∀ (y4 : Int32) (y5 : Int32) (τ : gSt), At Γ 6 [some (.ref (gAd Γ.1 k0)), some (.ref (gAd Γ.1 k1)), some (.int p2), some (.int p3), some (.int y4), some (.int y5)] [] τ (ag6 y4 y5 τ)) (x4 : Int32) (x5 : Int32) (σ : gSt) : At Γ 6 [some (.ref (gAd Γ.1 k0)), some (.ref (gAd Γ.1 k1)), some (.int p2), some (.int p3), some (.int x4), some (.int x5)] [] σ (f_X2_readNumber_L6 fu k0 k1 p2 p3 ag6 x4 x5 σ) := by
  unfold f_X2_readNumber_L6
  refine x_iload (pc := 6) h dX2_readNumber_6 rfl ?_
  refine x_iconst (pc := 8) (v := 4) h dX2_readNumber_8 (by decide) ?_
  refine x_icmp_ge (pc := 9) (tgt := 69) h dX2_readNumber_9 (by decide) ?_ ?_
  · exact At.mask [true, false, false, true, true, true] rfl rfl (f_X2_readNumber_J69_at fu k0 k1 p2 p3 h z hk0 hk1 x4 x5 σ)
  · refine x_aload_n (pc := 12) (i := 1) h dX2_readNumber_12 rfl rfl ?_
    refine x_iload_n (pc := 13) (i := 2) h dX2_readNumber_13 rfl rfl ?_
    refine x_aload_n (pc := 14) (i := 0) h dX2_readNumber_14 rfl rfl ?_
    refine gf_X2_25 (pc := 15) h hk0 dX2_readNumber_15 ?_
    refine x_iadd (pc := 18) h dX2_readNumber_18 ?_
    refine x_Vp (pc := 19) (av := fun ad => [.int (p2 + (σ k0 2))]) (rest := []) h m_X6_characterAt i_X6_characterAt kl_X2_15 hk1 (by decide) rfl (c_X6_characterAt fu σ k1 (p2 + (σ k0 2)) hk1) rfl rfl (gCaM rfl) dX2_readNumber_19 (fun v19 => ?_)
    refine x_bipush (pc := 22) (v := 48) h dX2_readNumber_22 (by decide) ?_
    refine x_bipush (pc := 24) (v := 57) h dX2_readNumber_24 (by decide) ?_
    refine x_Np (pc := 26) (av := fun ad => [.int v19, .int 48, .int 57]) (rest := []) h m_X9_isWithin s_X9_isWithin kl_X2_39 (c_X9_isWithin fu σ v19 48 57) rfl rfl (gCaM rfl) dX2_readNumber_26 (fun v26 => ?_)
    refine x_if_eq (pc := 29) (tgt := 69) h dX2_readNumber_29 (by decide) ?_ ?_
    · exact At.mask [true, false, false, true, true, true] rfl rfl (f_X2_readNumber_J69_at fu k0 k1 p2 p3 h z hk0 hk1 x4 x5 σ)
    · refine x_iload (pc := 32) h dX2_readNumber_32 rfl ?_
      refine x_bipush (pc := 34) (v := 10) h dX2_readNumber_34 (by decide) ?_
      refine x_imul (pc := 36) h dX2_readNumber_36 ?_
      refine x_aload_n (pc := 37) (i := 1) h dX2_readNumber_37 rfl rfl ?_
      refine x_iload_n (pc := 38) (i := 2) h dX2_readNumber_38 rfl rfl ?_
      refine x_aload_n (pc := 39) (i := 0) h dX2_readNumber_39 rfl rfl ?_
      refine gf_X2_25 (pc := 40) h hk0 dX2_readNumber_40 ?_
      refine x_iadd (pc := 43) h dX2_readNumber_43 ?_
      refine x_Vp (pc := 44) (av := fun ad => [.int (p2 + (σ k0 2))]) (rest := [.int (x4 * 10)]) h m_X6_characterAt i_X6_characterAt kl_X2_15 hk1 (by decide) rfl (c_X6_characterAt fu σ k1 (p2 + (σ k0 2)) hk1) rfl rfl (gCaM rfl) dX2_readNumber_44 (fun v44 => ?_)
      refine x_iadd (pc := 47) h dX2_readNumber_47 ?_
      refine x_bipush (pc := 48) (v := 48) h dX2_readNumber_48 (by decide) ?_
      refine x_isub (pc := 50) h dX2_readNumber_50 ?_
      refine x_istore (pc := 51) (L' := [some (.ref (gAd Γ.1 k0)), some (.ref (gAd Γ.1 k1)), some (.int p2), some (.int p3), some (.int (((x4 * 10) + v44) - 48)), some (.int x5)]) h dX2_readNumber_51 (Nat.le_of_ble_eq_true rfl) rfl ?_
      refine x_aload_n (pc := 53) (i := 0) h dX2_readNumber_53 rfl rfl ?_
      refine x_dup (pc := 54) h dX2_readNumber_54 rfl ?_
      refine gf_X2_25 (pc := 55) h hk0 dX2_readNumber_55 ?_
      refine x_iconst (pc := 58) (v := 1) h dX2_readNumber_58 (by decide) ?_
      refine x_iadd (pc := 59) h dX2_readNumber_59 ?_
      refine x_put (pc := 60) h 2 2 .int hk0 (by decide) (by decide) rfl rfl rfl rfl rfl kf_X2_25 dX2_readNumber_60 (fun σ60 => ?_)
      refine x_iinc (pc := 63) (i := 5) (v := (x5 + 1)) (L' := [some (.ref (gAd Γ.1 k0)), some (.ref (gAd Γ.1 k1)), some (.int p2), some (.int p3), some (.int (((x4 * 10) + v44) - 48)), some (.int (x5 + 1))]) h dX2_readNumber_63 rfl rfl rfl ?_
      refine x_goto (pc := 66) (tgt := 6) h dX2_readNumber_66 (by decide) ?_
      exact At.mask [true, true, true, true, true, true] rfl rfl (hg6 (((x4 * 10) + v44) - 48) (x5 + 1) σ60)

theorem f_X2_readNumber_W6_at (fu : Nat) (k0 : Nat) (k1 : Nat) (p2 : Int32) (p3 : Int32) {Γ : gX (Int32 × gSt)} (h : gOk Γ cX2_readNumber 6 RX2 (some .boolean) 1 22) (z : gEnd Γ gQi) (hk0 : isO k0 2) (hk1 : isO k1 6) : ∀ (n : Nat) (x4 : Int32) (x5 : Int32) (σ : gSt), At Γ 6 [some (.ref (gAd Γ.1 k0)), some (.ref (gAd Γ.1 k1)), some (.int p2), some (.int p3), some (.int x4), some (.int x5)] [] σ (f_X2_readNumber_W6 fu k0 k1 p2 p3 n x4 x5 σ) := by
  intro n
  induction n with
  | zero => intro x4 x5 σ r hr; cases hr
  | succ n ih =>
    intro x4 x5 σ
    exact f_X2_readNumber_L6_at fu k0 k1 p2 p3 (f_X2_readNumber_W6 fu k0 k1 p2 p3 n) h z hk0 hk1 ih x4 x5 σ

set_option maxRecDepth 20000 in
set_option maxHeartbeats 4000000 in
theorem c_X2_readNumber (fu : Nat) (σ : gSt) (k0 : Nat) (k1 : Nat) (p2 : Int32) (p3 : Int32) (hk0 : isO k0 2) (hk1 : isO k1 6) : gCt yX2_readNumber cX2_readNumber 6 (some .boolean) 1 22 gQi (fun ad => [.ref (ad k0), .ref (ad k1), .int p2, .int p3]) σ (f_X2_readNumber fu σ k0 k1 p2 p3) := by
  refine gCt_intro RX2 rfl (by decide +kernel) (fun ad v hv => by simp only [List.mem_cons, List.not_mem_nil, or_false] at hv; rcases hv with rfl | rfl | rfl | rfl <;> rfl) (fun ad => Nat.le_of_ble_eq_true rfl) (fun Γ h z => ?_)
  show At Γ 0 [some (.ref (gAd Γ.1 k0)), some (.ref (gAd Γ.1 k1)), some (.int p2), some (.int p3), none, none] [] σ _
  unfold f_X2_readNumber
  refine x_iconst (pc := 0) (v := 0) h dX2_readNumber_0 (by decide) ?_
  refine x_istore (pc := 1) (L' := [some (.ref (gAd Γ.1 k0)), some (.ref (gAd Γ.1 k1)), some (.int p2), some (.int p3), some (.int 0), none]) h dX2_readNumber_1 (Nat.le_of_ble_eq_true rfl) rfl ?_
  refine x_iconst (pc := 3) (v := 0) h dX2_readNumber_3 (by decide) ?_
  refine x_istore (pc := 4) (L' := [some (.ref (gAd Γ.1 k0)), some (.ref (gAd Γ.1 k1)), some (.int p2), some (.int p3), some (.int 0), some (.int 0)]) h dX2_readNumber_4 (Nat.le_of_ble_eq_true rfl) rfl ?_
  exact At.mask [true, true, true, true, true, true] rfl rfl (f_X2_readNumber_W6_at fu k0 k1 p2 p3 h z hk0 hk1 fu 0 0 σ)

set_option maxRecDepth 20000 in
set_option maxHeartbeats 4000000 in
theorem f_X2_readFrom_J61_at (fu : Nat) (k0 : Nat) (k1 : Nat) (p2 : Int32) (ag40 : Int32 → gSt → Option (gSt)) {Γ : gX (gSt)} (h : gOk Γ cX2_readFrom 6 RX2 none 2 47) (z : gEnd Γ gQv) (hk0 : isO k0 2) (hk1 : isO k1 6) (x3 : Int32) (x4 : Int32) (s1 : Int32) (σ : gSt) (hg40 : ∀ (y4 : Int32) (τ : gSt), At Γ 40 [some (.ref (gAd Γ.1 k0)), some (.ref (gAd Γ.1 k1)), some (.int p2), some (.int x3), some (.int y4), none] [] τ (ag40 y4 τ)) : At Γ 61 [some (.ref (gAd Γ.1 k0)), some (.ref (gAd Γ.1 k1)), some (.int p2), some (.int x3), some (.int x4), none] [.int s1] σ (f_X2_readFrom_J61 fu k0 k1 p2 ag40 x3 x4 s1 σ) := by
  unfold f_X2_readFrom_J61
  refine x_istore (pc := 61) (L' := [some (.ref (gAd Γ.1 k0)), some (.ref (gAd Γ.1 k1)), some (.int p2), some (.int x3), some (.int x4), some (.int s1)]) h dX2_readFrom_61 (Nat.le_of_ble_eq_true rfl) rfl ?_
  refine x_aload_n (pc := 63) (i := 0) h dX2_readFrom_63 rfl rfl ?_
  refine x_aload_n (pc := 64) (i := 1) h dX2_readFrom_64 rfl rfl ?_
  refine x_iload_n (pc := 65) (i := 2) h dX2_readFrom_65 rfl rfl ?_
  refine x_iload (pc := 66) h dX2_readFrom_66 rfl ?_
  refine x_Vi (pc := 68) (av := fun ad => [.ref (ad k1), .int p2, .int x4]) (rest := []) h m_X2_readNumber i_X2_readNumber kl_X2_35 hk0 (by decide) rfl (c_X2_readNumber fu σ k0 k1 p2 x4 hk0 hk1) rfl rfl (gCaM rfl) dX2_readFrom_68 (fun v68 σ68 => ?_)
  refine x_if_eq (pc := 71) (tgt := 89) h dX2_readFrom_71 (by decide) ?_ ?_
  · exact x_vret (pc := 89) h z rfl dX2_readFrom_89
  · refine x_aload_n (pc := 74) (i := 1) h dX2_readFrom_74 rfl rfl ?_
    refine x_iload_n (pc := 75) (i := 2) h dX2_readFrom_75 rfl rfl ?_
    refine x_aload_n (pc := 76) (i := 0) h dX2_readFrom_76 rfl rfl ?_
    refine gf_X2_25 (pc := 77) h hk0 dX2_readFrom_77 ?_
    refine x_iadd (pc := 80) h dX2_readFrom_80 ?_
    refine x_Vp (pc := 81) (av := fun ad => [.int (p2 + (σ68 k0 2))]) (rest := []) h m_X6_characterAt i_X6_characterAt kl_X2_15 hk1 (by decide) rfl (c_X6_characterAt fu σ68 k1 (p2 + (σ68 k0 2)) hk1) rfl rfl (gCaM rfl) dX2_readFrom_81 (fun v81 => ?_)
    refine x_iload (pc := 84) h dX2_readFrom_84 rfl ?_
    refine x_icmp_eq (pc := 86) (tgt := 90) h dX2_readFrom_86 (by decide) ?_ ?_
    · refine x_aload_n (pc := 90) (i := 0) h dX2_readFrom_90 rfl rfl ?_
      refine x_dup (pc := 91) h dX2_readFrom_91 rfl ?_
      refine gf_X2_25 (pc := 92) h hk0 dX2_readFrom_92 ?_
      refine x_iconst (pc := 95) (v := 1) h dX2_readFrom_95 (by decide) ?_
      refine x_iadd (pc := 96) h dX2_readFrom_96 ?_
      refine x_put (pc := 97) h 2 2 .int hk0 (by decide) (by decide) rfl rfl rfl rfl rfl kf_X2_25 dX2_readFrom_97 (fun σ97 => ?_)
      refine x_iinc (pc := 100) (i := 4) (v := (x4 + 1)) (L' := [some (.ref (gAd Γ.1 k0)), some (.ref (gAd Γ.1 k1)), some (.int p2), some (.int x3), some (.int (x4 + 1)), some (.int s1)]) h dX2_readFrom_100 rfl rfl rfl ?_
      refine x_goto (pc := 103) (tgt := 40) h dX2_readFrom_103 (by decide) ?_
      exact At.mask [true, true, true, true, true, false] rfl rfl (hg40 (x4 + 1) σ97)
    · exact x_vret (pc := 89) h z rfl dX2_readFrom_89

set_option maxRecDepth 20000 in
set_option maxHeartbeats 4000000 in
theorem f_X2_readFrom_L40_at (fu : Nat) (k0 : Nat) (k1 : Nat) (p2 : Int32) (x3 : Int32) (ag40 : Int32 → gSt → Option (gSt)) {Γ : gX (gSt)} (h : gOk Γ cX2_readFrom 6 RX2 none 2 47) (z : gEnd Γ gQv) (hk0 : isO k0 2) (hk1 : isO k1 6) (hg40 : ∀ (y4 : Int32) (τ : gSt), At Γ 40 [some (.ref (gAd Γ.1 k0)), some (.ref (gAd Γ.1 k1)), some (.int p2), some (.int x3), some (.int y4), none] [] τ (ag40 y4 τ)) (x4 : Int32) (σ : gSt) : At Γ 40 [some (.ref (gAd Γ.1 k0)), some (.ref (gAd Γ.1 k1)), some (.int p2), some (.int x3), some (.int x4), none] [] σ (f_X2_readFrom_L40 fu k0 k1 p2 x3 ag40 x4 σ) := by
  unfold f_X2_readFrom_L40
  refine x_iload (pc := 40) h dX2_readFrom_40 rfl ?_
  refine x_iload_n (pc := 42) (i := 3) h dX2_readFrom_42 rfl rfl ?_
  refine x_icmp_ge (pc := 43) (tgt := 106) h dX2_readFrom_43 (by decide) ?_ ?_
  · refine x_aload_n (pc := 106) (i := 0) h dX2_readFrom_106 rfl rfl ?_
    refine x_iconst (pc := 107) (v := 1) h dX2_readFrom_107 (by decide) ?_
    refine x_put (pc := 108) h 2 3 .boolean hk0 (by decide) (by decide) rfl rfl rfl rfl rfl kf_X2_28 dX2_readFrom_108 (fun σ108 => ?_)
    exact x_vret (pc := 111) h z rfl dX2_readFrom_111
  · refine x_iload (pc := 46) h dX2_readFrom_46 rfl ?_
    refine x_iload_n (pc := 48) (i := 3) h dX2_readFrom_48 rfl rfl ?_
    refine x_iconst (pc := 49) (v := 1) h dX2_readFrom_49 (by decide) ?_
    refine x_isub (pc := 50) h dX2_readFrom_50 ?_
    refine x_nm (e := (if (x3 - 1) ≤ x4 then 59 else 44)) (pcJ := 61) (LJ := [some (.ref (gAd Γ.1 k0)), some (.ref (gAd Γ.1 k1)), some (.int p2), some (.int x3), some (.int x4), none]) (sJ := []) (fun w51 => ?_) (fun kj51 => ?_)
    · exact At.mask [true, true, true, true, true, false] rfl rfl (f_X2_readFrom_J61_at fu k0 k1 p2 ag40 h z hk0 hk1 x3 x4 w51 σ hg40)
    · refine j_icmp_ge (pc := 51) (tgt := 59) h dX2_readFrom_51 (by decide) (fun hc51_0 => ?_) (fun hc51_0 => ?_)
      · refine x_bipush (pc := 59) (v := 59) h dX2_readFrom_59 (by decide) ?_
        exact kj51 59 (by rw [if_pos hc51_0])
      · refine x_bipush (pc := 54) (v := 44) h dX2_readFrom_54 (by decide) ?_
        refine x_goto (pc := 56) (tgt := 61) h dX2_readFrom_56 (by decide) ?_
        exact kj51 44 (by rw [if_neg hc51_0])

theorem f_X2_readFrom_W40_at (fu : Nat) (k0 : Nat) (k1 : Nat) (p2 : Int32) (x3 : Int32) {Γ : gX (gSt)} (h : gOk Γ cX2_readFrom 6 RX2 none 2 47) (z : gEnd Γ gQv) (hk0 : isO k0 2) (hk1 : isO k1 6) : ∀ (n : Nat) (x4 : Int32) (σ : gSt), At Γ 40 [some (.ref (gAd Γ.1 k0)), some (.ref (gAd Γ.1 k1)), some (.int p2), some (.int x3), some (.int x4), none] [] σ (f_X2_readFrom_W40 fu k0 k1 p2 x3 n x4 σ) := by
  intro n
  induction n with
  | zero => intro x4 σ r hr; cases hr
  | succ n ih =>
    intro x4 σ
    exact f_X2_readFrom_L40_at fu k0 k1 p2 x3 (f_X2_readFrom_W40 fu k0 k1 p2 x3 n) h z hk0 hk1 ih x4 σ

set_option maxRecDepth 20000 in
set_option maxHeartbeats 4000000 in
theorem c_X2_readFrom (fu : Nat) (σ : gSt) (k0 : Nat) (k1 : Nat) (p2 : Int32) (hk0 : isO k0 2) (hk1 : isO k1 6) : gCt yX2_readFrom cX2_readFrom 6 none 2 47 gQv (fun ad => [.ref (ad k0), .ref (ad k1), .int p2]) σ (f_X2_readFrom fu σ k0 k1 p2) := by
  refine gCt_intro RX2 rfl (by decide +kernel) (fun ad v hv => by simp only [List.mem_cons, List.not_mem_nil, or_false] at hv; rcases hv with rfl | rfl | rfl <;> rfl) (fun ad => Nat.le_of_ble_eq_true rfl) (fun Γ h z => ?_)
  show At Γ 0 [some (.ref (gAd Γ.1 k0)), some (.ref (gAd Γ.1 k1)), some (.int p2), none, none, none] [] σ _
  unfold f_X2_readFrom
  refine x_aload_n (pc := 0) (i := 0) h dX2_readFrom_0 rfl rfl ?_
  refine x_aload_n (pc := 1) (i := 1) h dX2_readFrom_1 rfl rfl ?_
  refine x_iload_n (pc := 2) (i := 2) h dX2_readFrom_2 rfl rfl ?_
  refine x_Vp (pc := 3) (av := fun ad => [.int p2]) (rest := [.ref (gAd Γ.1 k0)]) h m_X6_characterAt i_X6_characterAt kl_X2_15 hk1 (by decide) rfl (c_X6_characterAt fu σ k1 p2 hk1) rfl rfl (gCaM rfl) dX2_readFrom_3 (fun v3 => ?_)
  refine x_put (pc := 6) h 2 1 .int hk0 (by decide) (by decide) rfl rfl rfl rfl rfl kf_X2_21 dX2_readFrom_6 (fun σ6 => ?_)
  refine x_aload_n (pc := 9) (i := 0) h dX2_readFrom_9 rfl rfl ?_
  refine x_iconst (pc := 10) (v := 0) h dX2_readFrom_10 (by decide) ?_
  refine x_put (pc := 11) h 2 2 .int hk0 (by decide) (by decide) rfl rfl rfl rfl rfl kf_X2_25 dX2_readFrom_11 (fun σ11 => ?_)
  refine x_aload_n (pc := 14) (i := 0) h dX2_readFrom_14 rfl rfl ?_
  refine x_iconst (pc := 15) (v := 0) h dX2_readFrom_15 (by decide) ?_
  refine x_put (pc := 16) h 2 3 .boolean hk0 (by decide) (by decide) rfl rfl rfl rfl rfl kf_X2_28 dX2_readFrom_16 (fun σ16 => ?_)
  refine x_aload_n (pc := 19) (i := 0) h dX2_readFrom_19 rfl rfl ?_
  refine gf_X2_21 (pc := 20) h hk0 dX2_readFrom_20 ?_
  refine x_Sp (pc := 23) (av := fun ad => [.int (σ16 k0 1)]) (rest := []) h m_X2_numbersOf s_X2_numbersOf kl_X2_32 (c_X2_numbersOf fu σ16 (σ16 k0 1)) rfl rfl (gCaM rfl) dX2_readFrom_23 (fun v23 => ?_)
  refine x_istore_n (pc := 26) (i := 3) (L' := [some (.ref (gAd Γ.1 k0)), some (.ref (gAd Γ.1 k1)), some (.int p2), some (.int v23), none, none]) h dX2_readFrom_26 rfl (Nat.le_of_ble_eq_true rfl) rfl ?_
  refine x_iload_n (pc := 27) (i := 3) h dX2_readFrom_27 rfl rfl ?_
  refine x_if_ne (pc := 28) (tgt := 32) h dX2_readFrom_28 (by decide) ?_ ?_
  · refine x_aload_n (pc := 32) (i := 0) h dX2_readFrom_32 rfl rfl ?_
    refine x_iconst (pc := 33) (v := 1) h dX2_readFrom_33 (by decide) ?_
    refine x_put (pc := 34) h 2 2 .int hk0 (by decide) (by decide) rfl rfl rfl rfl rfl kf_X2_25 dX2_readFrom_34 (fun σ34 => ?_)
    refine x_iconst (pc := 37) (v := 0) h dX2_readFrom_37 (by decide) ?_
    refine x_istore (pc := 38) (L' := [some (.ref (gAd Γ.1 k0)), some (.ref (gAd Γ.1 k1)), some (.int p2), some (.int v23), some (.int 0), none]) h dX2_readFrom_38 (Nat.le_of_ble_eq_true rfl) rfl ?_
    exact At.mask [true, true, true, true, true, false] rfl rfl (f_X2_readFrom_W40_at fu k0 k1 p2 v23 h z hk0 hk1 fu 0 σ34)
  · exact x_vret (pc := 31) h z rfl dX2_readFrom_31

set_option maxRecDepth 20000 in
set_option maxHeartbeats 4000000 in
theorem c_X2_isWhole (fu : Nat) (σ : gSt) (k0 : Nat) (hk0 : isO k0 2) : gCt yX2_isWhole cX2_isWhole 1 (some .boolean) 0 0 (gQp σ) (fun ad => [.ref (ad k0)]) σ (f_X2_isWhole fu σ k0) := by
  refine gCt_intro RX2 rfl (by decide +kernel) (fun ad v hv => by simp only [List.mem_cons, List.not_mem_nil, or_false] at hv; rcases hv with rfl <;> rfl) (fun ad => Nat.le_of_ble_eq_true rfl) (fun Γ h z => ?_)
  show At Γ 0 [some (.ref (gAd Γ.1 k0))] [] σ _
  unfold f_X2_isWhole
  refine x_aload_n (pc := 0) (i := 0) h dX2_isWhole_0 rfl rfl ?_
  refine gf_X2_28 (pc := 1) h hk0 dX2_isWhole_1 ?_
  exact x_zretp (pc := 4) h z rfl rfl dX2_isWhole_4

set_option maxRecDepth 20000 in
set_option maxHeartbeats 4000000 in
theorem c_X2_doOn (fu : Nat) (σ : gSt) (k0 : Nat) (k1 : Nat) (hk0 : isO k0 2) (hk1 : isO k1 7) : gCt yX2_doOn cX2_doOn 2 (some .int) 4 101 gQi (fun ad => [.ref (ad k0), .ref (ad k1)]) σ (f_X2_doOn fu σ k0 k1) := by
  refine gCt_intro RX2 rfl (by decide +kernel) (fun ad v hv => by simp only [List.mem_cons, List.not_mem_nil, or_false] at hv; rcases hv with rfl | rfl <;> rfl) (fun ad => Nat.le_of_ble_eq_true rfl) (fun Γ h z => ?_)
  show At Γ 0 [some (.ref (gAd Γ.1 k0)), some (.ref (gAd Γ.1 k1))] [] σ _
  unfold f_X2_doOn
  refine x_aload_n (pc := 0) (i := 0) h dX2_doOn_0 rfl rfl ?_
  refine gf_X2_21 (pc := 1) h hk0 dX2_doOn_1 ?_
  refine x_lsw (pc := 4) (off := 92) (tgt := 96) h 99 dX2_doOn_4 (by decide) (by decide) (by decide) ?_ (fun c4_99 => ?_)
  · refine x_aload_n (pc := 96) (i := 1) h dX2_doOn_96 rfl rfl ?_
    refine x_aload_n (pc := 97) (i := 0) h dX2_doOn_97 rfl rfl ?_
    refine gf_X2_9 (pc := 98) h hk0 dX2_doOn_98 ?_
    refine x_iconst (pc := 101) (v := 0) h dX2_doOn_101 (by decide) ?_
    refine x_ialdS (pc := 102) h 0 (t_2_0 hk0) (by decide) (by decide) (by decide) dX2_doOn_102 ?_
    refine x_aload_n (pc := 103) (i := 0) h dX2_doOn_103 rfl rfl ?_
    refine gf_X2_9 (pc := 104) h hk0 dX2_doOn_104 ?_
    refine x_iconst (pc := 107) (v := 1) h dX2_doOn_107 (by decide) ?_
    refine x_ialdS (pc := 108) h 1 (t_2_0 hk0) (by decide) (by decide) (by decide) dX2_doOn_108 ?_
    refine x_Vi (pc := 109) (av := fun ad => [.int (σ (k0 + 1) 0), .int (σ (k0 + 1) 1)]) (rest := []) h m_X7_addCorrection i_X7_addCorrection kl_X2_53 hk1 (by decide) rfl (c_X7_addCorrection fu σ k1 (σ (k0 + 1) 0) (σ (k0 + 1) 1) hk1) rfl rfl (gCaM rfl) dX2_doOn_109 (fun v109 σ109 => ?_)
    exact x_ireti (pc := 112) h z .int rfl rfl dX2_doOn_112
  refine x_lsw (pc := 4) (off := 109) (tgt := 113) h 103 dX2_doOn_4 (by decide) (by decide) (by decide) ?_ (fun c4_103 => ?_)
  · refine x_aload_n (pc := 113) (i := 1) h dX2_doOn_113 rfl rfl ?_
    refine x_aload_n (pc := 114) (i := 0) h dX2_doOn_114 rfl rfl ?_
    refine gf_X2_9 (pc := 115) h hk0 dX2_doOn_115 ?_
    refine x_iconst (pc := 118) (v := 0) h dX2_doOn_118 (by decide) ?_
    refine x_ialdS (pc := 119) h 0 (t_2_0 hk0) (by decide) (by decide) (by decide) dX2_doOn_119 ?_
    refine x_aload_n (pc := 120) (i := 0) h dX2_doOn_120 rfl rfl ?_
    refine gf_X2_9 (pc := 121) h hk0 dX2_doOn_121 ?_
    refine x_iconst (pc := 124) (v := 1) h dX2_doOn_124 (by decide) ?_
    refine x_ialdS (pc := 125) h 1 (t_2_0 hk0) (by decide) (by decide) (by decide) dX2_doOn_125 ?_
    refine x_Vi (pc := 126) (av := fun ad => [.int (σ (k0 + 1) 0), .int (σ (k0 + 1) 1)]) (rest := []) h m_X7_giveTurn i_X7_giveTurn kl_X2_56 hk1 (by decide) rfl (c_X7_giveTurn fu σ k1 (σ (k0 + 1) 0) (σ (k0 + 1) 1) hk1) rfl rfl (gCaM rfl) dX2_doOn_126 (fun v126 σ126 => ?_)
    exact x_ireti (pc := 129) h z .int rfl rfl dX2_doOn_129
  refine x_lsw (pc := 4) (off := 126) (tgt := 130) h 115 dX2_doOn_4 (by decide) (by decide) (by decide) ?_ (fun c4_115 => ?_)
  · refine x_aload_n (pc := 130) (i := 1) h dX2_doOn_130 rfl rfl ?_
    refine x_aload_n (pc := 131) (i := 0) h dX2_doOn_131 rfl rfl ?_
    refine gf_X2_9 (pc := 132) h hk0 dX2_doOn_132 ?_
    refine x_iconst (pc := 135) (v := 0) h dX2_doOn_135 (by decide) ?_
    refine x_ialdS (pc := 136) h 0 (t_2_0 hk0) (by decide) (by decide) (by decide) dX2_doOn_136 ?_
    refine x_Vi (pc := 137) (av := fun ad => [.int (σ (k0 + 1) 0)]) (rest := []) h m_X7_addSpeaker i_X7_addSpeaker kl_X2_59 hk1 (by decide) rfl (c_X7_addSpeaker fu σ k1 (σ (k0 + 1) 0) hk1) rfl rfl (gCaM rfl) dX2_doOn_137 (fun v137 σ137 => ?_)
    exact x_ireti (pc := 140) h z .int rfl rfl dX2_doOn_140
  refine x_lsw (pc := 4) (off := 52) (tgt := 56) h 116 dX2_doOn_4 (by decide) (by decide) (by decide) ?_ (fun c4_116 => ?_)
  · refine x_aload_n (pc := 56) (i := 1) h dX2_doOn_56 rfl rfl ?_
    refine x_aload_n (pc := 57) (i := 0) h dX2_doOn_57 rfl rfl ?_
    refine gf_X2_9 (pc := 58) h hk0 dX2_doOn_58 ?_
    refine x_iconst (pc := 61) (v := 0) h dX2_doOn_61 (by decide) ?_
    refine x_ialdS (pc := 62) h 0 (t_2_0 hk0) (by decide) (by decide) (by decide) dX2_doOn_62 ?_
    refine x_aload_n (pc := 63) (i := 0) h dX2_doOn_63 rfl rfl ?_
    refine gf_X2_9 (pc := 64) h hk0 dX2_doOn_64 ?_
    refine x_iconst (pc := 67) (v := 1) h dX2_doOn_67 (by decide) ?_
    refine x_ialdS (pc := 68) h 1 (t_2_0 hk0) (by decide) (by decide) (by decide) dX2_doOn_68 ?_
    refine x_aload_n (pc := 69) (i := 0) h dX2_doOn_69 rfl rfl ?_
    refine gf_X2_9 (pc := 70) h hk0 dX2_doOn_70 ?_
    refine x_iconst (pc := 73) (v := 2) h dX2_doOn_73 (by decide) ?_
    refine x_ialdS (pc := 74) h 2 (t_2_0 hk0) (by decide) (by decide) (by decide) dX2_doOn_74 ?_
    refine x_Vi (pc := 75) (av := fun ad => [.int (σ (k0 + 1) 0), .int (σ (k0 + 1) 1), .int (σ (k0 + 1) 2)]) (rest := []) h m_X7_addTurn i_X7_addTurn kl_X2_43 hk1 (by decide) rfl (c_X7_addTurn fu σ k1 (σ (k0 + 1) 0) (σ (k0 + 1) 1) (σ (k0 + 1) 2) hk1) rfl rfl (gCaM rfl) dX2_doOn_75 (fun v75 σ75 => ?_)
    exact x_ireti (pc := 78) h z .int rfl rfl dX2_doOn_78
  refine x_lsw (pc := 4) (off := 75) (tgt := 79) h 119 dX2_doOn_4 (by decide) (by decide) (by decide) ?_ (fun c4_119 => ?_)
  · refine x_aload_n (pc := 79) (i := 1) h dX2_doOn_79 rfl rfl ?_
    refine x_aload_n (pc := 80) (i := 0) h dX2_doOn_80 rfl rfl ?_
    refine gf_X2_9 (pc := 81) h hk0 dX2_doOn_81 ?_
    refine x_iconst (pc := 84) (v := 0) h dX2_doOn_84 (by decide) ?_
    refine x_ialdS (pc := 85) h 0 (t_2_0 hk0) (by decide) (by decide) (by decide) dX2_doOn_85 ?_
    refine x_aload_n (pc := 86) (i := 0) h dX2_doOn_86 rfl rfl ?_
    refine gf_X2_9 (pc := 87) h hk0 dX2_doOn_87 ?_
    refine x_iconst (pc := 90) (v := 1) h dX2_doOn_90 (by decide) ?_
    refine x_ialdS (pc := 91) h 1 (t_2_0 hk0) (by decide) (by decide) (by decide) dX2_doOn_91 ?_
    refine x_Vi (pc := 92) (av := fun ad => [.int (σ (k0 + 1) 0), .int (σ (k0 + 1) 1)]) (rest := []) h m_X7_addTerm i_X7_addTerm kl_X2_49 hk1 (by decide) rfl (c_X7_addTerm fu σ k1 (σ (k0 + 1) 0) (σ (k0 + 1) 1) hk1) rfl rfl (gCaM rfl) dX2_doOn_92 (fun v92 σ92 => ?_)
    exact x_ireti (pc := 95) h z .int rfl rfl dX2_doOn_95
  refine x_lswd (pc := 4) (tgt := 141) h dX2_doOn_4 (by decide) (gLso [(99, 92), (103, 109), (115, 126), (116, 52), (119, 75)] _ _ (by simp [gNe (99) c4_99 rfl, gNe (103) c4_103 rfl, gNe (115) c4_115 rfl, gNe (116) c4_116 rfl, gNe (119) c4_119 rfl])) (by decide) ?_
  refine x_ldc (pc := 141) h kc_X2_62 dX2_doOn_141 ?_
  exact x_ireti (pc := 143) h z .int rfl rfl dX2_doOn_143

set_option maxRecDepth 20000 in
set_option maxHeartbeats 4000000 in
theorem c_X2_length (fu : Nat) (σ : gSt) (k0 : Nat) (hk0 : isO k0 2) : gCt yX2_length cX2_length 1 (some .int) 0 0 (gQp σ) (fun ad => [.ref (ad k0)]) σ (f_X2_length fu σ k0) := by
  refine gCt_intro RX2 rfl (by decide +kernel) (fun ad v hv => by simp only [List.mem_cons, List.not_mem_nil, or_false] at hv; rcases hv with rfl <;> rfl) (fun ad => Nat.le_of_ble_eq_true rfl) (fun Γ h z => ?_)
  show At Γ 0 [some (.ref (gAd Γ.1 k0))] [] σ _
  unfold f_X2_length
  refine x_aload_n (pc := 0) (i := 0) h dX2_length_0 rfl rfl ?_
  refine gf_X2_25 (pc := 1) h hk0 dX2_length_1 ?_
  exact x_iretp (pc := 4) h z rfl .int rfl rfl dX2_length_4

set_option maxRecDepth 20000 in
set_option maxHeartbeats 4000000 in
theorem c_X3_noteAnswer (fu : Nat) (σ : gSt) (k0 : Nat) (p1 : Int32) (hk0 : isO k0 3) : gCt yX3_noteAnswer cX3_noteAnswer 2 none 1 20 gQv (fun ad => [.ref (ad k0), .int p1]) σ (f_X3_noteAnswer fu σ k0 p1) := by
  refine gCt_intro RX3 rfl (by decide +kernel) (fun ad v hv => by simp only [List.mem_cons, List.not_mem_nil, or_false] at hv; rcases hv with rfl | rfl <;> rfl) (fun ad => Nat.le_of_ble_eq_true rfl) (fun Γ h z => ?_)
  show At Γ 0 [some (.ref (gAd Γ.1 k0)), some (.int p1)] [] σ _
  unfold f_X3_noteAnswer
  refine x_aload_n (pc := 0) (i := 0) h dX3_noteAnswer_0 rfl rfl ?_
  refine gf_X3_21 (pc := 1) h hk0 dX3_noteAnswer_1 ?_
  refine x_Vp (pc := 4) (av := fun ad => []) (rest := []) h m_X2_isWhole i_X2_isWhole kl_X3_56 (t_3_2 hk0) (by decide) rfl (c_X2_isWhole fu σ (k0 + 1) (t_3_2 hk0)) rfl rfl (gCaM rfl) dX3_noteAnswer_4 (fun v4 => ?_)
  refine x_if_ne (pc := 7) (tgt := 29) h dX3_noteAnswer_7 (by decide) ?_ ?_
  · refine x_iload_n (pc := 29) (i := 1) h dX3_noteAnswer_29 rfl rfl ?_
    refine x_if_ge (pc := 30) (tgt := 46) h dX3_noteAnswer_30 (by decide) ?_ ?_
    · refine x_aload_n (pc := 46) (i := 0) h dX3_noteAnswer_46 rfl rfl ?_
      refine x_dup (pc := 47) h dX3_noteAnswer_47 rfl ?_
      refine gf_X3_33 (pc := 48) h hk0 dX3_noteAnswer_48 ?_
      refine x_aload_n (pc := 51) (i := 0) h dX3_noteAnswer_51 rfl rfl ?_
      refine gf_X3_21 (pc := 52) h hk0 dX3_noteAnswer_52 ?_
      refine x_Vp (pc := 55) (av := fun ad => []) (rest := [.int (σ k0 3), .ref (gAd Γ.1 k0)]) h m_X2_length i_X2_length kl_X3_68 (t_3_2 hk0) (by decide) rfl (c_X2_length fu σ (k0 + 1) (t_3_2 hk0)) rfl rfl (gCaM rfl) dX3_noteAnswer_55 (fun v55 => ?_)
      refine x_iadd (pc := 58) h dX3_noteAnswer_58 ?_
      refine x_put (pc := 59) h 3 3 .int hk0 (by decide) (by decide) rfl rfl rfl rfl rfl kf_X3_33 dX3_noteAnswer_59 (fun σ59 => ?_)
      refine x_aload_n (pc := 62) (i := 0) h dX3_noteAnswer_62 rfl rfl ?_
      refine x_dup (pc := 63) h dX3_noteAnswer_63 rfl ?_
      refine gf_X3_37 (pc := 64) h hk0 dX3_noteAnswer_64 ?_
      refine x_iconst (pc := 67) (v := 1) h dX3_noteAnswer_67 (by decide) ?_
      refine x_iadd (pc := 68) h dX3_noteAnswer_68 ?_
      refine x_put (pc := 69) h 3 4 .int hk0 (by decide) (by decide) rfl rfl rfl rfl rfl kf_X3_37 dX3_noteAnswer_69 (fun σ69 => ?_)
      exact x_vret (pc := 72) h z rfl dX3_noteAnswer_72
    · refine x_aload_n (pc := 33) (i := 0) h dX3_noteAnswer_33 rfl rfl ?_
      refine x_iconst (pc := 34) (v := 2) h dX3_noteAnswer_34 (by decide) ?_
      refine x_put (pc := 35) h 3 5 .int hk0 (by decide) (by decide) rfl rfl rfl rfl rfl kf_X3_40 dX3_noteAnswer_35 (fun σ35 => ?_)
      refine x_aload_n (pc := 38) (i := 0) h dX3_noteAnswer_38 rfl rfl ?_
      refine x_iload_n (pc := 39) (i := 1) h dX3_noteAnswer_39 rfl rfl ?_
      refine x_put (pc := 40) h 3 6 .int hk0 (by decide) (by decide) rfl rfl rfl rfl rfl kf_X3_43 dX3_noteAnswer_40 (fun σ40 => ?_)
      refine x_goto (pc := 43) (tgt := 72) h dX3_noteAnswer_43 (by decide) ?_
      exact x_vret (pc := 72) h z rfl dX3_noteAnswer_72
  · refine x_aload_n (pc := 10) (i := 0) h dX3_noteAnswer_10 rfl rfl ?_
    refine x_iconst (pc := 11) (v := 1) h dX3_noteAnswer_11 (by decide) ?_
    refine x_put (pc := 12) h 3 5 .int hk0 (by decide) (by decide) rfl rfl rfl rfl rfl kf_X3_40 dX3_noteAnswer_12 (fun σ12 => ?_)
    refine x_aload_n (pc := 15) (i := 0) h dX3_noteAnswer_15 rfl rfl ?_
    refine x_aload_n (pc := 16) (i := 0) h dX3_noteAnswer_16 rfl rfl ?_
    refine gf_X3_21 (pc := 17) h hk0 dX3_noteAnswer_17 ?_
    refine x_Vp (pc := 20) (av := fun ad => []) (rest := [.ref (gAd Γ.1 k0)]) h m_X2_length i_X2_length kl_X3_68 (t_3_2 hk0) (by decide) rfl (c_X2_length fu σ12 (k0 + 1) (t_3_2 hk0)) rfl rfl (gCaM rfl) dX3_noteAnswer_20 (fun v20 => ?_)
    refine x_put (pc := 23) h 3 6 .int hk0 (by decide) (by decide) rfl rfl rfl rfl rfl kf_X3_43 dX3_noteAnswer_23 (fun σ23 => ?_)
    refine x_goto (pc := 26) (tgt := 72) h dX3_noteAnswer_26 (by decide) ?_
    exact x_vret (pc := 72) h z rfl dX3_noteAnswer_72

set_option maxRecDepth 20000 in
set_option maxHeartbeats 4000000 in
theorem f_X3_run_J99_at (fu : Nat) (k0 : Nat) (k1 : Nat) (ag28 : gSt → Option (gSt)) {Γ : gX (gSt)} (h : gOk Γ cX3_run 2 RX3 none 5 122) (z : gEnd Γ gQv) (hk0 : isO k0 3) (hk1 : isO k1 7) (s2 : Int32) (σ : gSt) (hg28 : ∀ (τ : gSt), At Γ 28 [some (.ref (gAd Γ.1 k0)), none] [] τ (ag28 τ)) : At Γ 99 [some (.ref (gAd Γ.1 k0)), none] [.int s2, .ref (gAd Γ.1 k0)] σ (f_X3_run_J99 fu k0 k1 ag28 s2 σ) := by
  unfold f_X3_run_J99
  refine x_Vv (pc := 99) (av := fun ad => [.int s2]) (rest := []) h m_X3_noteAnswer i_X3_noteAnswer kl_X3_64 hk0 (by decide) rfl (c_X3_noteAnswer fu σ k0 s2 hk0) rfl rfl (gCaM rfl) dX3_run_99 (fun σ99 => ?_)
  refine x_goto (pc := 102) (tgt := 28) h dX3_run_102 (by decide) ?_
  exact At.mask [true, false] rfl rfl (hg28 σ99)

set_option maxRecDepth 20000 in
set_option maxHeartbeats 4000000 in
theorem f_X3_run_L28_at (fu : Nat) (k0 : Nat) (k1 : Nat) (ag28 : gSt → Option (gSt)) {Γ : gX (gSt)} (h : gOk Γ cX3_run 2 RX3 none 5 122) (z : gEnd Γ gQv) (hk0 : isO k0 3) (hk1 : isO k1 7) (hg28 : ∀ (τ : gSt), At Γ 28 [some (.ref (gAd Γ.1 k0)), none] [] τ (ag28 τ)) (σ : gSt) : At Γ 28 [some (.ref (gAd Γ.1 k0)), none] [] σ (f_X3_run_L28 fu k0 k1 ag28 σ) := by
  unfold f_X3_run_L28
  refine x_aload_n (pc := 28) (i := 0) h dX3_run_28 rfl rfl ?_
  refine gf_X3_37 (pc := 29) h hk0 dX3_run_29 ?_
  refine x_bipush (pc := 32) (v := 60) h dX3_run_32 (by decide) ?_
  refine x_icmp_ge (pc := 34) (tgt := 105) h dX3_run_34 (by decide) ?_ ?_
  · exact x_vret (pc := 105) h z rfl dX3_run_105
  · refine x_aload_n (pc := 37) (i := 0) h dX3_run_37 rfl rfl ?_
    refine gf_X3_33 (pc := 38) h hk0 dX3_run_38 ?_
    refine x_aload_n (pc := 41) (i := 0) h dX3_run_41 rfl rfl ?_
    refine gf_X3_25 (pc := 42) h hk0 dX3_run_42 ?_
    refine x_Vp (pc := 45) (av := fun ad => []) (rest := [.int (σ k0 3)]) h m_X6_length i_X6_length kl_X3_46 (t_3_0 hk0) (by decide) rfl (c_X6_length fu σ (k0 + 3) (t_3_0 hk0)) rfl rfl (gCaM rfl) dX3_run_45 (fun v45 => ?_)
    refine x_icmp_ge (pc := 48) (tgt := 105) h dX3_run_48 (by decide) ?_ ?_
    · exact x_vret (pc := 105) h z rfl dX3_run_105
    · refine x_aload_n (pc := 51) (i := 0) h dX3_run_51 rfl rfl ?_
      refine gf_X3_40 (pc := 52) h hk0 dX3_run_52 ?_
      refine x_if_ne (pc := 55) (tgt := 105) h dX3_run_55 (by decide) ?_ ?_
      · exact x_vret (pc := 105) h z rfl dX3_run_105
      · refine x_aload_n (pc := 58) (i := 0) h dX3_run_58 rfl rfl ?_
        refine gf_X3_21 (pc := 59) h hk0 dX3_run_59 ?_
        refine x_aload_n (pc := 62) (i := 0) h dX3_run_62 rfl rfl ?_
        refine gf_X3_25 (pc := 63) h hk0 dX3_run_63 ?_
        refine x_aload_n (pc := 66) (i := 0) h dX3_run_66 rfl rfl ?_
        refine gf_X3_33 (pc := 67) h hk0 dX3_run_67 ?_
        refine x_Vv (pc := 70) (av := fun ad => [.ref (ad (k0 + 3)), .int (σ k0 3)]) (rest := []) h m_X2_readFrom i_X2_readFrom kl_X3_52 (t_3_2 hk0) (by decide) rfl (c_X2_readFrom fu σ (k0 + 1) (k0 + 3) (σ k0 3) (t_3_2 hk0) (t_3_0 hk0)) rfl rfl (gCaM rfl) dX3_run_70 (fun σ70 => ?_)
        refine x_aload_n (pc := 73) (i := 0) h dX3_run_73 rfl rfl ?_
        refine x_aload_n (pc := 74) (i := 0) h dX3_run_74 rfl rfl ?_
        refine gf_X3_21 (pc := 75) h hk0 dX3_run_75 ?_
        refine x_Vp (pc := 78) (av := fun ad => []) (rest := [.ref (gAd Γ.1 k0)]) h m_X2_isWhole i_X2_isWhole kl_X3_56 (t_3_2 hk0) (by decide) rfl (c_X2_isWhole fu σ70 (k0 + 1) (t_3_2 hk0)) rfl rfl (gCaM rfl) dX3_run_78 (fun v78 => ?_)
        refine x_if_eq (pc := 81) (tgt := 98) h dX3_run_81 (by decide) ?_ ?_
        · refine x_iconst (pc := 98) (v := (-1)) h dX3_run_98 (by decide) ?_
          exact At.mask [true, false] rfl rfl (f_X3_run_J99_at fu k0 k1 ag28 h z hk0 hk1 (-1) σ70 hg28)
        · refine x_aload_n (pc := 84) (i := 0) h dX3_run_84 rfl rfl ?_
          refine gf_X3_21 (pc := 85) h hk0 dX3_run_85 ?_
          refine x_aload_n (pc := 88) (i := 0) h dX3_run_88 rfl rfl ?_
          refine gf_X3_12 (pc := 89) h hk0 dX3_run_89 ?_
          refine x_Vi (pc := 92) (av := fun ad => [.ref (ad (k0 + 79))]) (rest := [.ref (gAd Γ.1 k0)]) h m_X2_doOn i_X2_doOn kl_X3_60 (t_3_2 hk0) (by decide) rfl (c_X2_doOn fu σ70 (k0 + 1) (k0 + 79) (t_3_2 hk0) (t_3_1 hk0)) rfl rfl (gCaM rfl) dX3_run_92 (fun v92 σ92 => ?_)
          refine x_goto (pc := 95) (tgt := 99) h dX3_run_95 (by decide) ?_
          exact At.mask [true, false] rfl rfl (f_X3_run_J99_at fu k0 k1 ag28 h z hk0 hk1 v92 σ92 hg28)

theorem f_X3_run_W28_at (fu : Nat) (k0 : Nat) (k1 : Nat) {Γ : gX (gSt)} (h : gOk Γ cX3_run 2 RX3 none 5 122) (z : gEnd Γ gQv) (hk0 : isO k0 3) (hk1 : isO k1 7) : ∀ (n : Nat) (σ : gSt), At Γ 28 [some (.ref (gAd Γ.1 k0)), none] [] σ (f_X3_run_W28 fu k0 k1 n σ) := by
  intro n
  induction n with
  | zero => intro σ r hr; cases hr
  | succ n ih =>
    intro σ
    exact f_X3_run_L28_at fu k0 k1 (f_X3_run_W28 fu k0 k1 n) h z hk0 hk1 ih σ

set_option maxRecDepth 20000 in
set_option maxHeartbeats 4000000 in
theorem c_X3_run (fu : Nat) (σ : gSt) (k0 : Nat) (k1 : Nat) (hk0 : isO k0 3) (hk1 : isO k1 7) : gCt yX3_run cX3_run 2 none 5 122 gQv (fun ad => [.ref (ad k0), .ref (ad k1)]) σ (f_X3_run fu σ k0 k1) := by
  refine gCt_intro RX3 rfl (by decide +kernel) (fun ad v hv => by simp only [List.mem_cons, List.not_mem_nil, or_false] at hv; rcases hv with rfl | rfl <;> rfl) (fun ad => Nat.le_of_ble_eq_true rfl) (fun Γ h z => ?_)
  show At Γ 0 [some (.ref (gAd Γ.1 k0)), some (.ref (gAd Γ.1 k1))] [] σ _
  unfold f_X3_run
  refine x_aload_n (pc := 0) (i := 0) h dX3_run_0 rfl rfl ?_
  refine gf_X3_12 (pc := 1) h hk0 dX3_run_1 ?_
  refine x_aload_n (pc := 4) (i := 1) h dX3_run_4 rfl rfl ?_
  refine x_Vv (pc := 5) (av := fun ad => [.ref (ad k1)]) (rest := []) h m_X7_takeFrom i_X7_takeFrom kl_X3_29 (t_3_1 hk0) (by decide) rfl (c_X7_takeFrom fu σ (k0 + 79) k1 (t_3_1 hk0) hk1) rfl rfl (gCaM rfl) dX3_run_5 (fun σ5 => ?_)
  refine x_aload_n (pc := 8) (i := 0) h dX3_run_8 rfl rfl ?_
  refine x_iconst (pc := 9) (v := 0) h dX3_run_9 (by decide) ?_
  refine x_put (pc := 10) h 3 3 .int hk0 (by decide) (by decide) rfl rfl rfl rfl rfl kf_X3_33 dX3_run_10 (fun σ10 => ?_)
  refine x_aload_n (pc := 13) (i := 0) h dX3_run_13 rfl rfl ?_
  refine x_iconst (pc := 14) (v := 0) h dX3_run_14 (by decide) ?_
  refine x_put (pc := 15) h 3 4 .int hk0 (by decide) (by decide) rfl rfl rfl rfl rfl kf_X3_37 dX3_run_15 (fun σ15 => ?_)
  refine x_aload_n (pc := 18) (i := 0) h dX3_run_18 rfl rfl ?_
  refine x_iconst (pc := 19) (v := 0) h dX3_run_19 (by decide) ?_
  refine x_put (pc := 20) h 3 5 .int hk0 (by decide) (by decide) rfl rfl rfl rfl rfl kf_X3_40 dX3_run_20 (fun σ20 => ?_)
  refine x_aload_n (pc := 23) (i := 0) h dX3_run_23 rfl rfl ?_
  refine x_iconst (pc := 24) (v := 0) h dX3_run_24 (by decide) ?_
  refine x_put (pc := 25) h 3 6 .int hk0 (by decide) (by decide) rfl rfl rfl rfl rfl kf_X3_43 dX3_run_25 (fun σ25 => ?_)
  exact At.mask [true, false] rfl rfl (f_X3_run_W28_at fu k0 k1 h z hk0 hk1 fu σ25)

set_option maxRecDepth 20000 in
set_option maxHeartbeats 4000000 in
theorem c_X3_foundFault (fu : Nat) (σ : gSt) (k0 : Nat) (hk0 : isO k0 3) : gCt yX3_foundFault cX3_foundFault 1 (some .boolean) 0 0 (gQp σ) (fun ad => [.ref (ad k0)]) σ (f_X3_foundFault fu σ k0) := by
  refine gCt_intro RX3 rfl (by decide +kernel) (fun ad v hv => by simp only [List.mem_cons, List.not_mem_nil, or_false] at hv; rcases hv with rfl <;> rfl) (fun ad => Nat.le_of_ble_eq_true rfl) (fun Γ h z => ?_)
  show At Γ 0 [some (.ref (gAd Γ.1 k0))] [] σ _
  unfold f_X3_foundFault
  refine x_aload_n (pc := 0) (i := 0) h dX3_foundFault_0 rfl rfl ?_
  refine gf_X3_40 (pc := 1) h hk0 dX3_foundFault_1 ?_
  refine x_if_eq (pc := 4) (tgt := 11) h dX3_foundFault_4 (by decide) ?_ ?_
  · refine x_iconst (pc := 11) (v := 0) h dX3_foundFault_11 (by decide) ?_
    exact x_iretp (pc := 12) h z rfl .boolean rfl rfl dX3_foundFault_12
  · refine x_iconst (pc := 7) (v := 1) h dX3_foundFault_7 (by decide) ?_
    refine x_goto (pc := 8) (tgt := 12) h dX3_foundFault_8 (by decide) ?_
    exact x_iretp (pc := 12) h z rfl .boolean rfl rfl dX3_foundFault_12

set_option maxRecDepth 20000 in
set_option maxHeartbeats 4000000 in
theorem c_X3_position (fu : Nat) (σ : gSt) (k0 : Nat) (hk0 : isO k0 3) : gCt yX3_position cX3_position 1 (some .int) 0 0 (gQp σ) (fun ad => [.ref (ad k0)]) σ (f_X3_position fu σ k0) := by
  refine gCt_intro RX3 rfl (by decide +kernel) (fun ad v hv => by simp only [List.mem_cons, List.not_mem_nil, or_false] at hv; rcases hv with rfl <;> rfl) (fun ad => Nat.le_of_ble_eq_true rfl) (fun Γ h z => ?_)
  show At Γ 0 [some (.ref (gAd Γ.1 k0))] [] σ _
  unfold f_X3_position
  refine x_aload_n (pc := 0) (i := 0) h dX3_position_0 rfl rfl ?_
  refine gf_X3_33 (pc := 1) h hk0 dX3_position_1 ?_
  exact x_iretp (pc := 4) h z rfl .int rfl rfl dX3_position_4

set_option maxRecDepth 20000 in
set_option maxHeartbeats 4000000 in
theorem c_X3_reason (fu : Nat) (σ : gSt) (k0 : Nat) (hk0 : isO k0 3) : gCt yX3_reason cX3_reason 1 (some .int) 0 0 (gQp σ) (fun ad => [.ref (ad k0)]) σ (f_X3_reason fu σ k0) := by
  refine gCt_intro RX3 rfl (by decide +kernel) (fun ad v hv => by simp only [List.mem_cons, List.not_mem_nil, or_false] at hv; rcases hv with rfl <;> rfl) (fun ad => Nat.le_of_ble_eq_true rfl) (fun Γ h z => ?_)
  show At Γ 0 [some (.ref (gAd Γ.1 k0))] [] σ _
  unfold f_X3_reason
  refine x_aload_n (pc := 0) (i := 0) h dX3_reason_0 rfl rfl ?_
  refine gf_X3_40 (pc := 1) h hk0 dX3_reason_1 ?_
  exact x_iretp (pc := 4) h z rfl .int rfl rfl dX3_reason_4

set_option maxRecDepth 20000 in
set_option maxHeartbeats 4000000 in
theorem c_X3_cause (fu : Nat) (σ : gSt) (k0 : Nat) (hk0 : isO k0 3) : gCt yX3_cause cX3_cause 1 (some .int) 0 0 (gQp σ) (fun ad => [.ref (ad k0)]) σ (f_X3_cause fu σ k0) := by
  refine gCt_intro RX3 rfl (by decide +kernel) (fun ad v hv => by simp only [List.mem_cons, List.not_mem_nil, or_false] at hv; rcases hv with rfl <;> rfl) (fun ad => Nat.le_of_ble_eq_true rfl) (fun Γ h z => ?_)
  show At Γ 0 [some (.ref (gAd Γ.1 k0))] [] σ _
  unfold f_X3_cause
  refine x_aload_n (pc := 0) (i := 0) h dX3_cause_0 rfl rfl ?_
  refine gf_X3_43 (pc := 1) h hk0 dX3_cause_1 ?_
  exact x_iretp (pc := 4) h z rfl .int rfl rfl dX3_cause_4

set_option maxRecDepth 20000 in
set_option maxHeartbeats 4000000 in
theorem c_X9_fault (fu : Nat) (σ : gSt) (k0 : Nat) (p1 : Int32) (hk0 : isO k0 9) : gCt yX9_fault cX9_fault 2 (some .int) 6 143 gQi (fun ad => [.ref (ad k0), .int p1]) σ (f_X9_fault fu σ k0 p1) := by
  refine gCt_intro RX9 rfl (by decide +kernel) (fun ad v hv => by simp only [List.mem_cons, List.not_mem_nil, or_false] at hv; rcases hv with rfl | rfl <;> rfl) (fun ad => Nat.le_of_ble_eq_true rfl) (fun Γ h z => ?_)
  show At Γ 0 [some (.ref (gAd Γ.1 k0)), some (.int p1)] [] σ _
  unfold f_X9_fault
  refine x_iload_n (pc := 0) (i := 1) h dX9_fault_0 rfl rfl ?_
  refine x_iconst (pc := 1) (v := 0) h dX9_fault_1 (by decide) ?_
  refine x_iconst (pc := 2) (v := 2) h dX9_fault_2 (by decide) ?_
  refine x_Sp (pc := 3) (av := fun ad => [.int p1, .int 0, .int 2]) (rest := []) h m_X9_isWithin s_X9_isWithin kl_X9_142 (c_X9_isWithin fu σ p1 0 2) rfl rfl (gCaM rfl) dX9_fault_3 (fun v3 => ?_)
  refine x_if_ne (pc := 6) (tgt := 12) h dX9_fault_6 (by decide) ?_ ?_
  · refine x_aload_n (pc := 12) (i := 0) h dX9_fault_12 rfl rfl ?_
    refine gf_X9_47 (pc := 13) h hk0 dX9_fault_13 ?_
    refine x_aload_n (pc := 16) (i := 0) h dX9_fault_16 rfl rfl ?_
    refine gf_X9_10 (pc := 17) h hk0 dX9_fault_17 ?_
    refine x_Vv (pc := 20) (av := fun ad => [.ref (ad (k0 + 10))]) (rest := []) h m_X3_run i_X3_run kl_X9_157 (t_9_5 hk0) (by decide) rfl (c_X3_run fu σ (k0 + 3) (k0 + 10) (t_9_5 hk0) (t_9_0 hk0)) rfl rfl (gCaM rfl) dX9_fault_20 (fun σ20 => ?_)
    refine x_aload_n (pc := 23) (i := 0) h dX9_fault_23 rfl rfl ?_
    refine gf_X9_47 (pc := 24) h hk0 dX9_fault_24 ?_
    refine x_Vp (pc := 27) (av := fun ad => []) (rest := []) h m_X3_foundFault i_X3_foundFault kl_X9_160 (t_9_5 hk0) (by decide) rfl (c_X3_foundFault fu σ20 (k0 + 3) (t_9_5 hk0)) rfl rfl (gCaM rfl) dX9_fault_27 (fun v27 => ?_)
    refine x_if_ne (pc := 30) (tgt := 36) h dX9_fault_30 (by decide) ?_ ?_
    · refine x_iload_n (pc := 36) (i := 1) h dX9_fault_36 rfl rfl ?_
      refine x_lsw (pc := 37) (off := 27) (tgt := 64) h 0 dX9_fault_37 (by decide) (by decide) (by decide) ?_ (fun c37_0 => ?_)
      · refine x_aload_n (pc := 64) (i := 0) h dX9_fault_64 rfl rfl ?_
        refine gf_X9_47 (pc := 65) h hk0 dX9_fault_65 ?_
        refine x_Vp (pc := 68) (av := fun ad => []) (rest := []) h m_X3_position i_X3_position kl_X9_164 (t_9_5 hk0) (by decide) rfl (c_X3_position fu σ20 (k0 + 3) (t_9_5 hk0)) rfl rfl (gCaM rfl) dX9_fault_68 (fun v68 => ?_)
        exact x_ireti (pc := 71) h z .int rfl rfl dX9_fault_71
      refine x_lsw (pc := 37) (off := 35) (tgt := 72) h 1 dX9_fault_37 (by decide) (by decide) (by decide) ?_ (fun c37_1 => ?_)
      · refine x_aload_n (pc := 72) (i := 0) h dX9_fault_72 rfl rfl ?_
        refine gf_X9_47 (pc := 73) h hk0 dX9_fault_73 ?_
        refine x_Vp (pc := 76) (av := fun ad => []) (rest := []) h m_X3_reason i_X3_reason kl_X9_167 (t_9_5 hk0) (by decide) rfl (c_X3_reason fu σ20 (k0 + 3) (t_9_5 hk0)) rfl rfl (gCaM rfl) dX9_fault_76 (fun v76 => ?_)
        exact x_ireti (pc := 79) h z .int rfl rfl dX9_fault_79
      refine x_lswd (pc := 37) (tgt := 80) h dX9_fault_37 (by decide) (gLso [(0, 27), (1, 35)] _ _ (by simp [gNe (0) c37_0 rfl, gNe (1) c37_1 rfl])) (by decide) ?_
      refine x_aload_n (pc := 80) (i := 0) h dX9_fault_80 rfl rfl ?_
      refine gf_X9_47 (pc := 81) h hk0 dX9_fault_81 ?_
      refine x_Vp (pc := 84) (av := fun ad => []) (rest := []) h m_X3_cause i_X3_cause kl_X9_170 (t_9_5 hk0) (by decide) rfl (c_X3_cause fu σ20 (k0 + 3) (t_9_5 hk0)) rfl rfl (gCaM rfl) dX9_fault_84 (fun v84 => ?_)
      exact x_ireti (pc := 87) h z .int rfl rfl dX9_fault_87
    · refine x_ldc (pc := 33) h kc_X9_163 dX9_fault_33 ?_
      exact x_ireti (pc := 35) h z .int rfl rfl dX9_fault_35
  · refine x_ldc (pc := 9) h kc_X9_146 dX9_fault_9 ?_
    exact x_ireti (pc := 11) h z .int rfl rfl dX9_fault_11

set_option maxRecDepth 20000 in
set_option maxHeartbeats 4000000 in
theorem f_X10_copies_L2_at (fu : Nat) (k0 : Nat) (n0 : Nat) (k1 : Nat) (n1 : Nat) (ag2 : Int32 → gSt → Option (gSt)) {Γ : gX (gSt)} (h : gOk Γ cX10_copies 3 RX10 none 0 0) (z : gEnd Γ gQv) (hk0 : isA k0 n0) (hk1 : isA k1 n1) (hg2 : ∀ (y2 : Int32) (τ : gSt), At Γ 2 [some (.ref (gAd Γ.1 k0)), some (.ref (gAd Γ.1 k1)), some (.int y2)] [] τ (ag2 y2 τ)) (x2 : Int32) (σ : gSt) : At Γ 2 [some (.ref (gAd Γ.1 k0)), some (.ref (gAd Γ.1 k1)), some (.int x2)] [] σ (f_X10_copies_L2 fu k0 n0 k1 n1 ag2 x2 σ) := by
  unfold f_X10_copies_L2
  refine x_iload_n (pc := 2) (i := 2) h dX10_copies_2 rfl rfl ?_
  refine x_sipush (pc := 3) (v := 284) h dX10_copies_3 (by decide) ?_
  refine x_icmp_ge (pc := 6) (tgt := 21) h dX10_copies_6 (by decide) ?_ ?_
  · exact x_vret (pc := 21) h z rfl dX10_copies_21
  · refine x_aload_n (pc := 9) (i := 1) h dX10_copies_9 rfl rfl ?_
    refine x_iload_n (pc := 10) (i := 2) h dX10_copies_10 rfl rfl ?_
    refine x_aload_n (pc := 11) (i := 0) h dX10_copies_11 rfl rfl ?_
    refine x_iload_n (pc := 12) (i := 2) h dX10_copies_12 rfl rfl ?_
    refine x_iald (pc := 13) h hk0 dX10_copies_13 (fun v13 => ?_)
    refine x_iast (pc := 14) h hk1 dX10_copies_14 (fun σ14 => ?_)
    refine x_iinc (pc := 15) (i := 2) (v := (x2 + 1)) (L' := [some (.ref (gAd Γ.1 k0)), some (.ref (gAd Γ.1 k1)), some (.int (x2 + 1))]) h dX10_copies_15 rfl rfl rfl ?_
    refine x_goto (pc := 18) (tgt := 2) h dX10_copies_18 (by decide) ?_
    exact At.mask [true, true, true] rfl rfl (hg2 (x2 + 1) σ14)

theorem f_X10_copies_W2_at (fu : Nat) (k0 : Nat) (n0 : Nat) (k1 : Nat) (n1 : Nat) {Γ : gX (gSt)} (h : gOk Γ cX10_copies 3 RX10 none 0 0) (z : gEnd Γ gQv) (hk0 : isA k0 n0) (hk1 : isA k1 n1) : ∀ (n : Nat) (x2 : Int32) (σ : gSt), At Γ 2 [some (.ref (gAd Γ.1 k0)), some (.ref (gAd Γ.1 k1)), some (.int x2)] [] σ (f_X10_copies_W2 fu k0 n0 k1 n1 n x2 σ) := by
  intro n
  induction n with
  | zero => intro x2 σ r hr; cases hr
  | succ n ih =>
    intro x2 σ
    exact f_X10_copies_L2_at fu k0 n0 k1 n1 (f_X10_copies_W2 fu k0 n0 k1 n1 n) h z hk0 hk1 ih x2 σ

set_option maxRecDepth 20000 in
set_option maxHeartbeats 4000000 in
theorem c_X10_copies (fu : Nat) (σ : gSt) (k0 : Nat) (n0 : Nat) (k1 : Nat) (n1 : Nat) (hk0 : isA k0 n0) (hk1 : isA k1 n1) : gCt yX10_copies cX10_copies 3 none 0 0 gQv (fun ad => [.ref (ad k0), .ref (ad k1)]) σ (f_X10_copies fu σ k0 n0 k1 n1) := by
  refine gCt_intro RX10 rfl (by decide +kernel) (fun ad v hv => by simp only [List.mem_cons, List.not_mem_nil, or_false] at hv; rcases hv with rfl | rfl <;> rfl) (fun ad => Nat.le_of_ble_eq_true rfl) (fun Γ h z => ?_)
  show At Γ 0 [some (.ref (gAd Γ.1 k0)), some (.ref (gAd Γ.1 k1)), none] [] σ _
  unfold f_X10_copies
  refine x_iconst (pc := 0) (v := 0) h dX10_copies_0 (by decide) ?_
  refine x_istore_n (pc := 1) (i := 2) (L' := [some (.ref (gAd Γ.1 k0)), some (.ref (gAd Γ.1 k1)), some (.int 0)]) h dX10_copies_1 rfl (Nat.le_of_ble_eq_true rfl) rfl ?_
  exact At.mask [true, true, true] rfl rfl (f_X10_copies_W2_at fu k0 n0 k1 n1 h z hk0 hk1 fu 0 σ)

set_option maxRecDepth 20000 in
set_option maxHeartbeats 4000000 in
theorem c_X10_isAt (fu : Nat) (σ : gSt) (k0 : Nat) (p1 : Int32) (p2 : Int32) (hk0 : isO k0 10) : gCt yX10_isAt cX10_isAt 3 (some .boolean) 1 22 (gQp σ) (fun ad => [.ref (ad k0), .int p1, .int p2]) σ (f_X10_isAt fu σ k0 p1 p2) := by
  refine gCt_intro RX10 rfl (by decide +kernel) (fun ad v hv => by simp only [List.mem_cons, List.not_mem_nil, or_false] at hv; rcases hv with rfl | rfl | rfl <;> rfl) (fun ad => Nat.le_of_ble_eq_true rfl) (fun Γ h z => ?_)
  show At Γ 0 [some (.ref (gAd Γ.1 k0)), some (.int p1), some (.int p2)] [] σ _
  unfold f_X10_isAt
  refine x_aload_n (pc := 0) (i := 0) h dX10_isAt_0 rfl rfl ?_
  refine gf_X10_177 (pc := 1) h hk0 dX10_isAt_1 ?_
  refine x_aload_n (pc := 4) (i := 0) h dX10_isAt_4 rfl rfl ?_
  refine gf_X10_174 (pc := 5) h hk0 dX10_isAt_5 ?_
  refine x_icmp_ge (pc := 8) (tgt := 32) h dX10_isAt_8 (by decide) ?_ ?_
  · refine x_iconst (pc := 32) (v := 0) h dX10_isAt_32 (by decide) ?_
    exact x_iretp (pc := 33) h z rfl .boolean rfl rfl dX10_isAt_33
  · refine x_aload_n (pc := 11) (i := 0) h dX10_isAt_11 rfl rfl ?_
    refine gf_X10_19 (pc := 12) h hk0 dX10_isAt_12 ?_
    refine x_aload_n (pc := 15) (i := 0) h dX10_isAt_15 rfl rfl ?_
    refine gf_X10_177 (pc := 16) h hk0 dX10_isAt_16 ?_
    refine x_iald (pc := 19) h (t_10_5 hk0) dX10_isAt_19 (fun v19 => ?_)
    refine x_iload_n (pc := 20) (i := 1) h dX10_isAt_20 rfl rfl ?_
    refine x_iload_n (pc := 21) (i := 2) h dX10_isAt_21 rfl rfl ?_
    refine x_Sp (pc := 22) (av := fun ad => [.int v19, .int p1, .int p2]) (rest := []) h m_X10_in s_X10_in kl_X10_39 (c_X10_in fu σ v19 p1 p2) rfl rfl (gCaM rfl) dX10_isAt_22 (fun v22 => ?_)
    refine x_if_eq (pc := 25) (tgt := 32) h dX10_isAt_25 (by decide) ?_ ?_
    · refine x_iconst (pc := 32) (v := 0) h dX10_isAt_32 (by decide) ?_
      exact x_iretp (pc := 33) h z rfl .boolean rfl rfl dX10_isAt_33
    · refine x_iconst (pc := 28) (v := 1) h dX10_isAt_28 (by decide) ?_
      refine x_goto (pc := 29) (tgt := 33) h dX10_isAt_29 (by decide) ?_
      exact x_iretp (pc := 33) h z rfl .boolean rfl rfl dX10_isAt_33

set_option maxRecDepth 20000 in
set_option maxHeartbeats 4000000 in
theorem c_X10_numbersOf (fu : Nat) (σ : gSt) (p0 : Int32) : gCt yX10_numbersOf cX10_numbersOf 1 (some .int) 0 0 (gQp σ) (fun ad => [.int p0]) σ (f_X10_numbersOf fu σ p0) := by
  refine gCt_intro RX10 rfl (by decide +kernel) (fun ad v hv => by simp only [List.mem_cons, List.not_mem_nil, or_false] at hv; rcases hv with rfl <;> rfl) (fun ad => Nat.le_of_ble_eq_true rfl) (fun Γ h z => ?_)
  show At Γ 0 [some (.int p0)] [] σ _
  unfold f_X10_numbersOf
  refine x_iload_n (pc := 0) (i := 0) h dX10_numbersOf_0 rfl rfl ?_
  refine x_bipush (pc := 1) (v := 116) h dX10_numbersOf_1 (by decide) ?_
  refine x_icmp_ne (pc := 3) (tgt := 10) h dX10_numbersOf_3 (by decide) ?_ ?_
  · refine x_iload_n (pc := 10) (i := 0) h dX10_numbersOf_10 rfl rfl ?_
    refine x_bipush (pc := 11) (v := 119) h dX10_numbersOf_11 (by decide) ?_
    refine x_icmp_eq (pc := 13) (tgt := 28) h dX10_numbersOf_13 (by decide) ?_ ?_
    · refine x_iconst (pc := 28) (v := 2) h dX10_numbersOf_28 (by decide) ?_
      refine x_goto (pc := 29) (tgt := 43) h dX10_numbersOf_29 (by decide) ?_
      exact x_iretp (pc := 43) h z rfl .int rfl rfl dX10_numbersOf_43
    · refine x_iload_n (pc := 16) (i := 0) h dX10_numbersOf_16 rfl rfl ?_
      refine x_bipush (pc := 17) (v := 99) h dX10_numbersOf_17 (by decide) ?_
      refine x_icmp_eq (pc := 19) (tgt := 28) h dX10_numbersOf_19 (by decide) ?_ ?_
      · refine x_iconst (pc := 28) (v := 2) h dX10_numbersOf_28 (by decide) ?_
        refine x_goto (pc := 29) (tgt := 43) h dX10_numbersOf_29 (by decide) ?_
        exact x_iretp (pc := 43) h z rfl .int rfl rfl dX10_numbersOf_43
      · refine x_iload_n (pc := 22) (i := 0) h dX10_numbersOf_22 rfl rfl ?_
        refine x_bipush (pc := 23) (v := 103) h dX10_numbersOf_23 (by decide) ?_
        refine x_icmp_ne (pc := 25) (tgt := 32) h dX10_numbersOf_25 (by decide) ?_ ?_
        · refine x_iload_n (pc := 32) (i := 0) h dX10_numbersOf_32 rfl rfl ?_
          refine x_bipush (pc := 33) (v := 115) h dX10_numbersOf_33 (by decide) ?_
          refine x_icmp_ne (pc := 35) (tgt := 42) h dX10_numbersOf_35 (by decide) ?_ ?_
          · refine x_iconst (pc := 42) (v := 0) h dX10_numbersOf_42 (by decide) ?_
            exact x_iretp (pc := 43) h z rfl .int rfl rfl dX10_numbersOf_43
          · refine x_iconst (pc := 38) (v := 1) h dX10_numbersOf_38 (by decide) ?_
            refine x_goto (pc := 39) (tgt := 43) h dX10_numbersOf_39 (by decide) ?_
            exact x_iretp (pc := 43) h z rfl .int rfl rfl dX10_numbersOf_43
        · refine x_iconst (pc := 28) (v := 2) h dX10_numbersOf_28 (by decide) ?_
          refine x_goto (pc := 29) (tgt := 43) h dX10_numbersOf_29 (by decide) ?_
          exact x_iretp (pc := 43) h z rfl .int rfl rfl dX10_numbersOf_43
  · refine x_iconst (pc := 6) (v := 3) h dX10_numbersOf_6 (by decide) ?_
    refine x_goto (pc := 7) (tgt := 43) h dX10_numbersOf_7 (by decide) ?_
    exact x_iretp (pc := 43) h z rfl .int rfl rfl dX10_numbersOf_43

set_option maxRecDepth 20000 in
set_option maxHeartbeats 4000000 in
theorem f_X10_number_J74_at (fu : Nat) (k0 : Nat) (p1 : Int32) {Γ : gX (Int32 × gSt)} (h : gOk Γ cX10_number 3 RX10 (some .boolean) 2 44) (z : gEnd Γ gQi) (hk0 : isO k0 10) (x2 : Int32) (σ : gSt) : At Γ 74 [some (.ref (gAd Γ.1 k0)), none, some (.int x2)] [] σ (f_X10_number_J74 fu k0 p1 x2 σ) := by
  unfold f_X10_number_J74
  refine x_aload_n (pc := 74) (i := 0) h dX10_number_74 rfl rfl ?_
  refine gf_X10_177 (pc := 75) h hk0 dX10_number_75 ?_
  refine x_iload_n (pc := 78) (i := 2) h dX10_number_78 rfl rfl ?_
  refine x_icmp_le (pc := 79) (tgt := 86) h dX10_number_79 (by decide) ?_ ?_
  · refine x_iconst (pc := 86) (v := 0) h dX10_number_86 (by decide) ?_
    exact x_ireti (pc := 87) h z .boolean rfl rfl dX10_number_87
  · refine x_iconst (pc := 82) (v := 1) h dX10_number_82 (by decide) ?_
    refine x_goto (pc := 83) (tgt := 87) h dX10_number_83 (by decide) ?_
    exact x_ireti (pc := 87) h z .boolean rfl rfl dX10_number_87

set_option maxRecDepth 20000 in
set_option maxHeartbeats 4000000 in
theorem f_X10_number_L12_at (fu : Nat) (k0 : Nat) (p1 : Int32) (x2 : Int32) (ag12 : gSt → Option (Int32 × gSt)) {Γ : gX (Int32 × gSt)} (h : gOk Γ cX10_number 3 RX10 (some .boolean) 2 44) (z : gEnd Γ gQi) (hk0 : isO k0 10) (hg12 : ∀ (τ : gSt), At Γ 12 [some (.ref (gAd Γ.1 k0)), some (.int p1), some (.int x2)] [] τ (ag12 τ)) (σ : gSt) : At Γ 12 [some (.ref (gAd Γ.1 k0)), some (.int p1), some (.int x2)] [] σ (f_X10_number_L12 fu k0 p1 x2 ag12 σ) := by
  unfold f_X10_number_L12
  refine x_aload_n (pc := 12) (i := 0) h dX10_number_12 rfl rfl ?_
  refine x_bipush (pc := 13) (v := 48) h dX10_number_13 (by decide) ?_
  refine x_bipush (pc := 15) (v := 57) h dX10_number_15 (by decide) ?_
  refine x_Vp (pc := 17) (av := fun ad => [.int 48, .int 57]) (rest := []) h m_X10_isAt i_X10_isAt kl_X10_180 hk0 (by decide) rfl (c_X10_isAt fu σ k0 48 57 hk0) rfl rfl (gCaM rfl) dX10_number_17 (fun v17 => ?_)
  refine x_if_eq (pc := 20) (tgt := 74) h dX10_number_20 (by decide) ?_ ?_
  · exact At.mask [true, false, true] rfl rfl (f_X10_number_J74_at fu k0 p1 h z hk0 x2 σ)
  · refine x_aload_n (pc := 23) (i := 0) h dX10_number_23 rfl rfl ?_
    refine gf_X10_177 (pc := 24) h hk0 dX10_number_24 ?_
    refine x_iload_n (pc := 27) (i := 2) h dX10_number_27 rfl rfl ?_
    refine x_isub (pc := 28) h dX10_number_28 ?_
    refine x_iconst (pc := 29) (v := 4) h dX10_number_29 (by decide) ?_
    refine x_icmp_ge (pc := 30) (tgt := 74) h dX10_number_30 (by decide) ?_ ?_
    · exact At.mask [true, false, true] rfl rfl (f_X10_number_J74_at fu k0 p1 h z hk0 x2 σ)
    · refine x_aload_n (pc := 33) (i := 0) h dX10_number_33 rfl rfl ?_
      refine gf_X10_28 (pc := 34) h hk0 dX10_number_34 ?_
      refine x_iload_n (pc := 37) (i := 1) h dX10_number_37 rfl rfl ?_
      refine x_bipush (pc := 38) (v := 10) h dX10_number_38 (by decide) ?_
      refine x_aload_n (pc := 40) (i := 0) h dX10_number_40 rfl rfl ?_
      refine gf_X10_28 (pc := 41) h hk0 dX10_number_41 ?_
      refine x_iload_n (pc := 44) (i := 1) h dX10_number_44 rfl rfl ?_
      refine x_iald (pc := 45) h (t_10_15 hk0) dX10_number_45 (fun v45 => ?_)
      refine x_imul (pc := 46) h dX10_number_46 ?_
      refine x_aload_n (pc := 47) (i := 0) h dX10_number_47 rfl rfl ?_
      refine gf_X10_19 (pc := 48) h hk0 dX10_number_48 ?_
      refine x_aload_n (pc := 51) (i := 0) h dX10_number_51 rfl rfl ?_
      refine gf_X10_177 (pc := 52) h hk0 dX10_number_52 ?_
      refine x_iald (pc := 55) h (t_10_5 hk0) dX10_number_55 (fun v55 => ?_)
      refine x_iadd (pc := 56) h dX10_number_56 ?_
      refine x_bipush (pc := 57) (v := 48) h dX10_number_57 (by decide) ?_
      refine x_isub (pc := 59) h dX10_number_59 ?_
      refine x_iast (pc := 60) h (t_10_15 hk0) dX10_number_60 (fun σ60 => ?_)
      refine x_aload_n (pc := 61) (i := 0) h dX10_number_61 rfl rfl ?_
      refine x_dup (pc := 62) h dX10_number_62 rfl ?_
      refine gf_X10_177 (pc := 63) h hk0 dX10_number_63 ?_
      refine x_iconst (pc := 66) (v := 1) h dX10_number_66 (by decide) ?_
      refine x_iadd (pc := 67) h dX10_number_67 ?_
      refine x_put (pc := 68) h 10 9 .int hk0 (by decide) (by decide) rfl rfl rfl rfl rfl kf_X10_177 dX10_number_68 (fun σ68 => ?_)
      refine x_goto (pc := 71) (tgt := 12) h dX10_number_71 (by decide) ?_
      exact At.mask [true, true, true] rfl rfl (hg12 σ68)

theorem f_X10_number_W12_at (fu : Nat) (k0 : Nat) (p1 : Int32) (x2 : Int32) {Γ : gX (Int32 × gSt)} (h : gOk Γ cX10_number 3 RX10 (some .boolean) 2 44) (z : gEnd Γ gQi) (hk0 : isO k0 10) : ∀ (n : Nat) (σ : gSt), At Γ 12 [some (.ref (gAd Γ.1 k0)), some (.int p1), some (.int x2)] [] σ (f_X10_number_W12 fu k0 p1 x2 n σ) := by
  intro n
  induction n with
  | zero => intro σ r hr; cases hr
  | succ n ih =>
    intro σ
    exact f_X10_number_L12_at fu k0 p1 x2 (f_X10_number_W12 fu k0 p1 x2 n) h z hk0 ih σ

set_option maxRecDepth 20000 in
set_option maxHeartbeats 4000000 in
theorem c_X10_number (fu : Nat) (σ : gSt) (k0 : Nat) (p1 : Int32) (hk0 : isO k0 10) : gCt yX10_number cX10_number 3 (some .boolean) 2 44 gQi (fun ad => [.ref (ad k0), .int p1]) σ (f_X10_number fu σ k0 p1) := by
  refine gCt_intro RX10 rfl (by decide +kernel) (fun ad v hv => by simp only [List.mem_cons, List.not_mem_nil, or_false] at hv; rcases hv with rfl | rfl <;> rfl) (fun ad => Nat.le_of_ble_eq_true rfl) (fun Γ h z => ?_)
  show At Γ 0 [some (.ref (gAd Γ.1 k0)), some (.int p1), none] [] σ _
  unfold f_X10_number
  refine x_aload_n (pc := 0) (i := 0) h dX10_number_0 rfl rfl ?_
  refine gf_X10_177 (pc := 1) h hk0 dX10_number_1 ?_
  refine x_istore_n (pc := 4) (i := 2) (L' := [some (.ref (gAd Γ.1 k0)), some (.int p1), some (.int (σ k0 9))]) h dX10_number_4 rfl (Nat.le_of_ble_eq_true rfl) rfl ?_
  refine x_aload_n (pc := 5) (i := 0) h dX10_number_5 rfl rfl ?_
  refine gf_X10_28 (pc := 6) h hk0 dX10_number_6 ?_
  refine x_iload_n (pc := 9) (i := 1) h dX10_number_9 rfl rfl ?_
  refine x_iconst (pc := 10) (v := 0) h dX10_number_10 (by decide) ?_
  refine x_iast (pc := 11) h (t_10_15 hk0) dX10_number_11 (fun σ11 => ?_)
  exact At.mask [true, true, true] rfl rfl (f_X10_number_W12_at fu k0 p1 (σ k0 9) h z hk0 fu σ11)

set_option maxRecDepth 20000 in
set_option maxHeartbeats 4000000 in
theorem f_X10_sign_J21_at (fu : Nat) (k0 : Nat) (p1 : Int32) {Γ : gX (Int32 × gSt)} (h : gOk Γ cX10_sign 3 RX10 (some .boolean) 2 44) (z : gEnd Γ gQi) (hk0 : isO k0 10) (x2 : Int32) (s3 : Int32) (s2 : Int32) (σ : gSt) : At Γ 21 [none, none, some (.int x2)] [.int s3, .int s2, .ref (gAd Γ.1 k0)] σ (f_X10_sign_J21 fu k0 p1 x2 s3 s2 σ) := by
  unfold f_X10_sign_J21
  refine x_iadd (pc := 21) h dX10_sign_21 ?_
  refine x_put (pc := 22) h 10 9 .int hk0 (by decide) (by decide) rfl rfl rfl rfl rfl kf_X10_177 dX10_sign_22 (fun σ22 => ?_)
  refine x_iload_n (pc := 25) (i := 2) h dX10_sign_25 rfl rfl ?_
  exact x_zreti (pc := 26) h z rfl dX10_sign_26

set_option maxRecDepth 20000 in
set_option maxHeartbeats 4000000 in
theorem c_X10_sign (fu : Nat) (σ : gSt) (k0 : Nat) (p1 : Int32) (hk0 : isO k0 10) : gCt yX10_sign cX10_sign 3 (some .boolean) 2 44 gQi (fun ad => [.ref (ad k0), .int p1]) σ (f_X10_sign fu σ k0 p1) := by
  refine gCt_intro RX10 rfl (by decide +kernel) (fun ad v hv => by simp only [List.mem_cons, List.not_mem_nil, or_false] at hv; rcases hv with rfl | rfl <;> rfl) (fun ad => Nat.le_of_ble_eq_true rfl) (fun Γ h z => ?_)
  show At Γ 0 [some (.ref (gAd Γ.1 k0)), some (.int p1), none] [] σ _
  unfold f_X10_sign
  refine x_aload_n (pc := 0) (i := 0) h dX10_sign_0 rfl rfl ?_
  refine x_iload_n (pc := 1) (i := 1) h dX10_sign_1 rfl rfl ?_
  refine x_iload_n (pc := 2) (i := 1) h dX10_sign_2 rfl rfl ?_
  refine x_Vp (pc := 3) (av := fun ad => [.int p1, .int p1]) (rest := []) h m_X10_isAt i_X10_isAt kl_X10_180 hk0 (by decide) rfl (c_X10_isAt fu σ k0 p1 p1 hk0) rfl rfl (gCaM rfl) dX10_sign_3 (fun v3 => ?_)
  refine x_istore_n (pc := 6) (i := 2) (L' := [some (.ref (gAd Γ.1 k0)), some (.int p1), some (.int v3)]) h dX10_sign_6 rfl (Nat.le_of_ble_eq_true rfl) rfl ?_
  refine x_aload_n (pc := 7) (i := 0) h dX10_sign_7 rfl rfl ?_
  refine x_dup (pc := 8) h dX10_sign_8 rfl ?_
  refine gf_X10_177 (pc := 9) h hk0 dX10_sign_9 ?_
  refine x_iload_n (pc := 12) (i := 2) h dX10_sign_12 rfl rfl ?_
  refine x_nm (e := (if v3 = 0 then 0 else 1)) (pcJ := 21) (LJ := [some (.ref (gAd Γ.1 k0)), some (.int p1), some (.int v3)]) (sJ := [.int (σ k0 9), .ref (gAd Γ.1 k0)]) (fun w13 => ?_) (fun kj13 => ?_)
  · exact At.mask [false, false, true] rfl rfl (f_X10_sign_J21_at fu k0 p1 h z hk0 v3 w13 (σ k0 9) σ)
  · refine j_if_eq (pc := 13) (tgt := 20) h dX10_sign_13 (by decide) (fun hc13_0 => ?_) (fun hc13_0 => ?_)
    · refine x_iconst (pc := 20) (v := 0) h dX10_sign_20 (by decide) ?_
      exact kj13 0 (by rw [if_pos hc13_0])
    · refine x_iconst (pc := 16) (v := 1) h dX10_sign_16 (by decide) ?_
      refine x_goto (pc := 17) (tgt := 21) h dX10_sign_17 (by decide) ?_
      exact kj13 1 (by rw [if_neg hc13_0])

set_option maxRecDepth 20000 in
set_option maxHeartbeats 4000000 in
theorem f_X10_reads_J98_at (fu : Nat) (k0 : Nat) {Γ : gX (Int32 × gSt)} (h : gOk Γ cX10_reads 4 RX10 (some .boolean) 3 66) (z : gEnd Γ gQi) (hk0 : isO k0 10) (x2 : Int32) (σ : gSt) : At Γ 98 [some (.ref (gAd Γ.1 k0)), none, some (.int x2), none] [] σ (f_X10_reads_J98 fu k0 x2 σ) := by
  unfold f_X10_reads_J98
  refine x_iload_n (pc := 98) (i := 2) h dX10_reads_98 rfl rfl ?_
  refine x_if_eq (pc := 99) (tgt := 115) h dX10_reads_99 (by decide) ?_ ?_
  · refine x_iconst (pc := 115) (v := 0) h dX10_reads_115 (by decide) ?_
    exact x_ireti (pc := 116) h z .boolean rfl rfl dX10_reads_116
  · refine x_aload_n (pc := 102) (i := 0) h dX10_reads_102 rfl rfl ?_
    refine x_bipush (pc := 103) (v := 59) h dX10_reads_103 (by decide) ?_
    refine x_Vi (pc := 105) (av := fun ad => [.int 59]) (rest := []) h m_X10_sign i_X10_sign kl_X10_192 hk0 (by decide) rfl (c_X10_sign fu σ k0 59 hk0) rfl rfl (gCaM rfl) dX10_reads_105 (fun v105 σ105 => ?_)
    refine x_if_eq (pc := 108) (tgt := 115) h dX10_reads_108 (by decide) ?_ ?_
    · refine x_iconst (pc := 115) (v := 0) h dX10_reads_115 (by decide) ?_
      exact x_ireti (pc := 116) h z .boolean rfl rfl dX10_reads_116
    · refine x_iconst (pc := 111) (v := 1) h dX10_reads_111 (by decide) ?_
      refine x_goto (pc := 112) (tgt := 116) h dX10_reads_112 (by decide) ?_
      exact x_ireti (pc := 116) h z .boolean rfl rfl dX10_reads_116

set_option maxRecDepth 20000 in
set_option maxHeartbeats 4000000 in
theorem f_X10_reads_L60_at (fu : Nat) (k0 : Nat) (x1 : Int32) (ag60 : Int32 → Int32 → gSt → Option (Int32 × gSt)) {Γ : gX (Int32 × gSt)} (h : gOk Γ cX10_reads 4 RX10 (some .boolean) 3 66) (z : gEnd Γ gQi) (hk0 : isO k0 10) (hg60 : ∀ (y2 : Int32) (y3 : Int32) (τ : gSt), At Γ 60 [some (.ref (gAd Γ.1 k0)), some (.int x1), some (.int y2), some (.int y3)] [] τ (ag60 y2 y3 τ)) (x2 : Int32) (x3 : Int32) (σ : gSt) : At Γ 60 [some (.ref (gAd Γ.1 k0)), some (.int x1), some (.int x2), some (.int x3)] [] σ (f_X10_reads_L60 fu k0 x1 ag60 x2 x3 σ) := by
  unfold f_X10_reads_L60
  refine x_iload_n (pc := 60) (i := 3) h dX10_reads_60 rfl rfl ?_
  refine x_iload_n (pc := 61) (i := 1) h dX10_reads_61 rfl rfl ?_
  refine x_icmp_ge (pc := 62) (tgt := 98) h dX10_reads_62 (by decide) ?_ ?_
  · exact At.mask [true, false, true, false] rfl rfl (f_X10_reads_J98_at fu k0 h z hk0 x2 σ)
  · refine x_iload_n (pc := 65) (i := 2) h dX10_reads_65 rfl rfl ?_
    refine x_if_eq (pc := 66) (tgt := 98) h dX10_reads_66 (by decide) ?_ ?_
    · exact At.mask [true, false, true, false] rfl rfl (f_X10_reads_J98_at fu k0 h z hk0 x2 σ)
    · refine x_aload_n (pc := 69) (i := 0) h dX10_reads_69 rfl rfl ?_
      refine x_bipush (pc := 70) (v := 44) h dX10_reads_70 (by decide) ?_
      refine x_Vi (pc := 72) (av := fun ad => [.int 44]) (rest := []) h m_X10_sign i_X10_sign kl_X10_192 hk0 (by decide) rfl (c_X10_sign fu σ k0 44 hk0) rfl rfl (gCaM rfl) dX10_reads_72 (fun v72 σ72 => ?_)
      refine x_if_eq (pc := 75) (tgt := 90) h dX10_reads_75 (by decide) ?_ ?_
      · refine x_iconst (pc := 90) (v := 0) h dX10_reads_90 (by decide) ?_
        refine x_istore_n (pc := 91) (i := 2) (L' := [some (.ref (gAd Γ.1 k0)), some (.int x1), some (.int 0), some (.int x3)]) h dX10_reads_91 rfl (Nat.le_of_ble_eq_true rfl) rfl ?_
        refine x_iinc (pc := 92) (i := 3) (v := (x3 + 1)) (L' := [some (.ref (gAd Γ.1 k0)), some (.int x1), some (.int 0), some (.int (x3 + 1))]) h dX10_reads_92 rfl rfl rfl ?_
        refine x_goto (pc := 95) (tgt := 60) h dX10_reads_95 (by decide) ?_
        exact At.mask [true, true, true, true] rfl rfl (hg60 0 (x3 + 1) σ72)
      · refine x_aload_n (pc := 78) (i := 0) h dX10_reads_78 rfl rfl ?_
        refine x_iload_n (pc := 79) (i := 3) h dX10_reads_79 rfl rfl ?_
        refine x_Vi (pc := 80) (av := fun ad => [.int x3]) (rest := []) h m_X10_number i_X10_number kl_X10_189 hk0 (by decide) rfl (c_X10_number fu σ72 k0 x3 hk0) rfl rfl (gCaM rfl) dX10_reads_80 (fun v80 σ80 => ?_)
        refine x_nm (e := (if v80 = 0 then 0 else 1)) (pcJ := 91) (LJ := [some (.ref (gAd Γ.1 k0)), some (.int x1), some (.int x2), some (.int x3)]) (sJ := []) (fun w83 => ?_) (fun kj83 => ?_)
        · refine x_istore_n (pc := 91) (i := 2) (L' := [some (.ref (gAd Γ.1 k0)), some (.int x1), some (.int w83), some (.int x3)]) h dX10_reads_91 rfl (Nat.le_of_ble_eq_true rfl) rfl ?_
          refine x_iinc (pc := 92) (i := 3) (v := (x3 + 1)) (L' := [some (.ref (gAd Γ.1 k0)), some (.int x1), some (.int w83), some (.int (x3 + 1))]) h dX10_reads_92 rfl rfl rfl ?_
          refine x_goto (pc := 95) (tgt := 60) h dX10_reads_95 (by decide) ?_
          exact At.mask [true, true, true, true] rfl rfl (hg60 w83 (x3 + 1) σ80)
        · refine j_if_eq (pc := 83) (tgt := 90) h dX10_reads_83 (by decide) (fun hc83_0 => ?_) (fun hc83_0 => ?_)
          · refine x_iconst (pc := 90) (v := 0) h dX10_reads_90 (by decide) ?_
            exact kj83 0 (by rw [if_pos hc83_0])
          · refine x_iconst (pc := 86) (v := 1) h dX10_reads_86 (by decide) ?_
            refine x_goto (pc := 87) (tgt := 91) h dX10_reads_87 (by decide) ?_
            exact kj83 1 (by rw [if_neg hc83_0])

theorem f_X10_reads_W60_at (fu : Nat) (k0 : Nat) (x1 : Int32) {Γ : gX (Int32 × gSt)} (h : gOk Γ cX10_reads 4 RX10 (some .boolean) 3 66) (z : gEnd Γ gQi) (hk0 : isO k0 10) : ∀ (n : Nat) (x2 : Int32) (x3 : Int32) (σ : gSt), At Γ 60 [some (.ref (gAd Γ.1 k0)), some (.int x1), some (.int x2), some (.int x3)] [] σ (f_X10_reads_W60 fu k0 x1 n x2 x3 σ) := by
  intro n
  induction n with
  | zero => intro x2 x3 σ r hr; cases hr
  | succ n ih =>
    intro x2 x3 σ
    exact f_X10_reads_L60_at fu k0 x1 (f_X10_reads_W60 fu k0 x1 n) h z hk0 ih x2 x3 σ

set_option maxRecDepth 20000 in
set_option maxHeartbeats 4000000 in
theorem f_X10_reads_J25_at (fu : Nat) (k0 : Nat) {Γ : gX (Int32 × gSt)} (h : gOk Γ cX10_reads 4 RX10 (some .boolean) 3 66) (z : gEnd Γ gQi) (hk0 : isO k0 10) (s2 : Int32) (σ : gSt) : At Γ 25 [some (.ref (gAd Γ.1 k0)), none, none, none] [.int s2, .ref (gAd Γ.1 k0)] σ (f_X10_reads_J25 fu k0 s2 σ) := by
  unfold f_X10_reads_J25
  refine x_put (pc := 25) h 10 14 .int hk0 (by decide) (by decide) rfl rfl rfl rfl rfl kf_X10_183 dX10_reads_25 (fun σ25 => ?_)
  refine x_aload_n (pc := 28) (i := 0) h dX10_reads_28 rfl rfl ?_
  refine gf_X10_183 (pc := 29) h hk0 dX10_reads_29 ?_
  refine x_Sp (pc := 32) (av := fun ad => [.int (σ25 k0 14)]) (rest := []) h m_X10_numbersOf s_X10_numbersOf kl_X10_186 (c_X10_numbersOf fu σ25 (σ25 k0 14)) rfl rfl (gCaM rfl) dX10_reads_32 (fun v32 => ?_)
  refine x_istore_n (pc := 35) (i := 1) (L' := [some (.ref (gAd Γ.1 k0)), some (.int v32), none, none]) h dX10_reads_35 rfl (Nat.le_of_ble_eq_true rfl) rfl ?_
  refine x_iload_n (pc := 36) (i := 1) h dX10_reads_36 rfl rfl ?_
  refine x_if_ne (pc := 37) (tgt := 42) h dX10_reads_37 (by decide) ?_ ?_
  · refine x_aload_n (pc := 42) (i := 0) h dX10_reads_42 rfl rfl ?_
    refine x_dup (pc := 43) h dX10_reads_43 rfl ?_
    refine gf_X10_177 (pc := 44) h hk0 dX10_reads_44 ?_
    refine x_iconst (pc := 47) (v := 1) h dX10_reads_47 (by decide) ?_
    refine x_iadd (pc := 48) h dX10_reads_48 ?_
    refine x_put (pc := 49) h 10 9 .int hk0 (by decide) (by decide) rfl rfl rfl rfl rfl kf_X10_177 dX10_reads_49 (fun σ49 => ?_)
    refine x_aload_n (pc := 52) (i := 0) h dX10_reads_52 rfl rfl ?_
    refine x_iconst (pc := 53) (v := 0) h dX10_reads_53 (by decide) ?_
    refine x_Vi (pc := 54) (av := fun ad => [.int 0]) (rest := []) h m_X10_number i_X10_number kl_X10_189 hk0 (by decide) rfl (c_X10_number fu σ49 k0 0 hk0) rfl rfl (gCaM rfl) dX10_reads_54 (fun v54 σ54 => ?_)
    refine x_istore_n (pc := 57) (i := 2) (L' := [some (.ref (gAd Γ.1 k0)), some (.int v32), some (.int v54), none]) h dX10_reads_57 rfl (Nat.le_of_ble_eq_true rfl) rfl ?_
    refine x_iconst (pc := 58) (v := 1) h dX10_reads_58 (by decide) ?_
    refine x_istore_n (pc := 59) (i := 3) (L' := [some (.ref (gAd Γ.1 k0)), some (.int v32), some (.int v54), some (.int 1)]) h dX10_reads_59 rfl (Nat.le_of_ble_eq_true rfl) rfl ?_
    exact At.mask [true, true, true, true] rfl rfl (f_X10_reads_W60_at fu k0 v32 h z hk0 fu v54 1 σ54)
  · refine x_iconst (pc := 40) (v := 0) h dX10_reads_40 (by decide) ?_
    exact x_ireti (pc := 41) h z .boolean rfl rfl dX10_reads_41

set_option maxRecDepth 20000 in
set_option maxHeartbeats 4000000 in
theorem c_X10_reads (fu : Nat) (σ : gSt) (k0 : Nat) (hk0 : isO k0 10) : gCt yX10_reads cX10_reads 4 (some .boolean) 3 66 gQi (fun ad => [.ref (ad k0)]) σ (f_X10_reads fu σ k0) := by
  refine gCt_intro RX10 rfl (by decide +kernel) (fun ad v hv => by simp only [List.mem_cons, List.not_mem_nil, or_false] at hv; rcases hv with rfl <;> rfl) (fun ad => Nat.le_of_ble_eq_true rfl) (fun Γ h z => ?_)
  show At Γ 0 [some (.ref (gAd Γ.1 k0)), none, none, none] [] σ _
  unfold f_X10_reads
  refine x_aload_n (pc := 0) (i := 0) h dX10_reads_0 rfl rfl ?_
  refine x_aload_n (pc := 1) (i := 0) h dX10_reads_1 rfl rfl ?_
  refine x_bipush (pc := 2) (v := 33) h dX10_reads_2 (by decide) ?_
  refine x_bipush (pc := 4) (v := 126) h dX10_reads_4 (by decide) ?_
  refine x_Vp (pc := 6) (av := fun ad => [.int 33, .int 126]) (rest := [.ref (gAd Γ.1 k0)]) h m_X10_isAt i_X10_isAt kl_X10_180 hk0 (by decide) rfl (c_X10_isAt fu σ k0 33 126 hk0) rfl rfl (gCaM rfl) dX10_reads_6 (fun v6 => ?_)
  refine x_if_eq (pc := 9) (tgt := 24) h dX10_reads_9 (by decide) ?_ ?_
  · refine x_iconst (pc := 24) (v := 0) h dX10_reads_24 (by decide) ?_
    exact At.mask [true, false, false, false] rfl rfl (f_X10_reads_J25_at fu k0 h z hk0 0 σ)
  · refine x_aload_n (pc := 12) (i := 0) h dX10_reads_12 rfl rfl ?_
    refine gf_X10_19 (pc := 13) h hk0 dX10_reads_13 ?_
    refine x_aload_n (pc := 16) (i := 0) h dX10_reads_16 rfl rfl ?_
    refine gf_X10_177 (pc := 17) h hk0 dX10_reads_17 ?_
    refine x_iald (pc := 20) h (t_10_5 hk0) dX10_reads_20 (fun v20 => ?_)
    refine x_goto (pc := 21) (tgt := 25) h dX10_reads_21 (by decide) ?_
    exact At.mask [true, false, false, false] rfl rfl (f_X10_reads_J25_at fu k0 h z hk0 v20 σ)

set_option maxRecDepth 20000 in
set_option maxHeartbeats 4000000 in
theorem c_X10_calls (fu : Nat) (σ : gSt) (k0 : Nat) (hk0 : isO k0 10) : gCt yX10_calls cX10_calls 1 (some .int) 4 90 gQi (fun ad => [.ref (ad k0)]) σ (f_X10_calls fu σ k0) := by
  refine gCt_intro RX10 rfl (by decide +kernel) (fun ad v hv => by simp only [List.mem_cons, List.not_mem_nil, or_false] at hv; rcases hv with rfl <;> rfl) (fun ad => Nat.le_of_ble_eq_true rfl) (fun Γ h z => ?_)
  show At Γ 0 [some (.ref (gAd Γ.1 k0))] [] σ _
  unfold f_X10_calls
  refine x_aload_n (pc := 0) (i := 0) h dX10_calls_0 rfl rfl ?_
  refine gf_X10_183 (pc := 1) h hk0 dX10_calls_1 ?_
  refine x_lsw (pc := 4) (off := 84) (tgt := 88) h 99 dX10_calls_4 (by decide) (by decide) (by decide) ?_ (fun c4_99 => ?_)
  · refine x_aload_n (pc := 88) (i := 0) h dX10_calls_88 rfl rfl ?_
    refine x_aload_n (pc := 89) (i := 0) h dX10_calls_89 rfl rfl ?_
    refine gf_X10_28 (pc := 90) h hk0 dX10_calls_90 ?_
    refine x_iconst (pc := 93) (v := 0) h dX10_calls_93 (by decide) ?_
    refine x_ialdS (pc := 94) h 0 (t_10_15 hk0) (by decide) (by decide) (by decide) dX10_calls_94 ?_
    refine x_aload_n (pc := 95) (i := 0) h dX10_calls_95 rfl rfl ?_
    refine gf_X10_28 (pc := 96) h hk0 dX10_calls_96 ?_
    refine x_iconst (pc := 99) (v := 1) h dX10_calls_99 (by decide) ?_
    refine x_ialdS (pc := 100) h 1 (t_10_15 hk0) (by decide) (by decide) (by decide) dX10_calls_100 ?_
    refine x_Vi (pc := 101) (av := fun ad => [.int (σ (k0 + 7) 0), .int (σ (k0 + 7) 1)]) (rest := []) h m_X10_correct i_X10_correct kl_X10_202 hk0 (by decide) rfl (c_X10_correct fu σ k0 (σ (k0 + 7) 0) (σ (k0 + 7) 1) hk0) rfl rfl (gCaM rfl) dX10_calls_101 (fun v101 σ101 => ?_)
    exact x_ireti (pc := 104) h z .int rfl rfl dX10_calls_104
  refine x_lsw (pc := 4) (off := 101) (tgt := 105) h 115 dX10_calls_4 (by decide) (by decide) (by decide) ?_ (fun c4_115 => ?_)
  · refine x_aload_n (pc := 105) (i := 0) h dX10_calls_105 rfl rfl ?_
    refine x_aload_n (pc := 106) (i := 0) h dX10_calls_106 rfl rfl ?_
    refine gf_X10_28 (pc := 107) h hk0 dX10_calls_107 ?_
    refine x_iconst (pc := 110) (v := 0) h dX10_calls_110 (by decide) ?_
    refine x_ialdS (pc := 111) h 0 (t_10_15 hk0) (by decide) (by decide) (by decide) dX10_calls_111 ?_
    refine x_Vi (pc := 112) (av := fun ad => [.int (σ (k0 + 7) 0)]) (rest := []) h m_X10_speaker i_X10_speaker kl_X10_205 hk0 (by decide) rfl (c_X10_speaker fu σ k0 (σ (k0 + 7) 0) hk0) rfl rfl (gCaM rfl) dX10_calls_112 (fun v112 σ112 => ?_)
    exact x_ireti (pc := 115) h z .int rfl rfl dX10_calls_115
  refine x_lsw (pc := 4) (off := 44) (tgt := 48) h 116 dX10_calls_4 (by decide) (by decide) (by decide) ?_ (fun c4_116 => ?_)
  · refine x_aload_n (pc := 48) (i := 0) h dX10_calls_48 rfl rfl ?_
    refine x_aload_n (pc := 49) (i := 0) h dX10_calls_49 rfl rfl ?_
    refine gf_X10_28 (pc := 50) h hk0 dX10_calls_50 ?_
    refine x_iconst (pc := 53) (v := 0) h dX10_calls_53 (by decide) ?_
    refine x_ialdS (pc := 54) h 0 (t_10_15 hk0) (by decide) (by decide) (by decide) dX10_calls_54 ?_
    refine x_aload_n (pc := 55) (i := 0) h dX10_calls_55 rfl rfl ?_
    refine gf_X10_28 (pc := 56) h hk0 dX10_calls_56 ?_
    refine x_iconst (pc := 59) (v := 1) h dX10_calls_59 (by decide) ?_
    refine x_ialdS (pc := 60) h 1 (t_10_15 hk0) (by decide) (by decide) (by decide) dX10_calls_60 ?_
    refine x_aload_n (pc := 61) (i := 0) h dX10_calls_61 rfl rfl ?_
    refine gf_X10_28 (pc := 62) h hk0 dX10_calls_62 ?_
    refine x_iconst (pc := 65) (v := 2) h dX10_calls_65 (by decide) ?_
    refine x_ialdS (pc := 66) h 2 (t_10_15 hk0) (by decide) (by decide) (by decide) dX10_calls_66 ?_
    refine x_Vi (pc := 67) (av := fun ad => [.int (σ (k0 + 7) 0), .int (σ (k0 + 7) 1), .int (σ (k0 + 7) 2)]) (rest := []) h m_X10_turn i_X10_turn kl_X10_195 hk0 (by decide) rfl (c_X10_turn fu σ k0 (σ (k0 + 7) 0) (σ (k0 + 7) 1) (σ (k0 + 7) 2) hk0) rfl rfl (gCaM rfl) dX10_calls_67 (fun v67 σ67 => ?_)
    exact x_ireti (pc := 70) h z .int rfl rfl dX10_calls_70
  refine x_lsw (pc := 4) (off := 67) (tgt := 71) h 119 dX10_calls_4 (by decide) (by decide) (by decide) ?_ (fun c4_119 => ?_)
  · refine x_aload_n (pc := 71) (i := 0) h dX10_calls_71 rfl rfl ?_
    refine x_aload_n (pc := 72) (i := 0) h dX10_calls_72 rfl rfl ?_
    refine gf_X10_28 (pc := 73) h hk0 dX10_calls_73 ?_
    refine x_iconst (pc := 76) (v := 0) h dX10_calls_76 (by decide) ?_
    refine x_ialdS (pc := 77) h 0 (t_10_15 hk0) (by decide) (by decide) (by decide) dX10_calls_77 ?_
    refine x_aload_n (pc := 78) (i := 0) h dX10_calls_78 rfl rfl ?_
    refine gf_X10_28 (pc := 79) h hk0 dX10_calls_79 ?_
    refine x_iconst (pc := 82) (v := 1) h dX10_calls_82 (by decide) ?_
    refine x_ialdS (pc := 83) h 1 (t_10_15 hk0) (by decide) (by decide) (by decide) dX10_calls_83 ?_
    refine x_Vi (pc := 84) (av := fun ad => [.int (σ (k0 + 7) 0), .int (σ (k0 + 7) 1)]) (rest := []) h m_X10_say i_X10_say kl_X10_199 hk0 (by decide) rfl (c_X10_say fu σ k0 (σ (k0 + 7) 0) (σ (k0 + 7) 1) hk0) rfl rfl (gCaM rfl) dX10_calls_84 (fun v84 σ84 => ?_)
    exact x_ireti (pc := 87) h z .int rfl rfl dX10_calls_87
  refine x_lswd (pc := 4) (tgt := 116) h dX10_calls_4 (by decide) (gLso [(99, 84), (115, 101), (116, 44), (119, 67)] _ _ (by simp [gNe (99) c4_99 rfl, gNe (115) c4_115 rfl, gNe (116) c4_116 rfl, gNe (119) c4_119 rfl])) (by decide) ?_
  refine x_aload_n (pc := 116) (i := 0) h dX10_calls_116 rfl rfl ?_
  refine x_aload_n (pc := 117) (i := 0) h dX10_calls_117 rfl rfl ?_
  refine gf_X10_28 (pc := 118) h hk0 dX10_calls_118 ?_
  refine x_iconst (pc := 121) (v := 0) h dX10_calls_121 (by decide) ?_
  refine x_ialdS (pc := 122) h 0 (t_10_15 hk0) (by decide) (by decide) (by decide) dX10_calls_122 ?_
  refine x_aload_n (pc := 123) (i := 0) h dX10_calls_123 rfl rfl ?_
  refine gf_X10_28 (pc := 124) h hk0 dX10_calls_124 ?_
  refine x_iconst (pc := 127) (v := 1) h dX10_calls_127 (by decide) ?_
  refine x_ialdS (pc := 128) h 1 (t_10_15 hk0) (by decide) (by decide) (by decide) dX10_calls_128 ?_
  refine x_Vi (pc := 129) (av := fun ad => [.int (σ (k0 + 7) 0), .int (σ (k0 + 7) 1)]) (rest := []) h m_X10_give i_X10_give kl_X10_208 hk0 (by decide) rfl (c_X10_give fu σ k0 (σ (k0 + 7) 0) (σ (k0 + 7) 1) hk0) rfl rfl (gCaM rfl) dX10_calls_129 (fun v129 σ129 => ?_)
  exact x_ireti (pc := 132) h z .int rfl rfl dX10_calls_132

set_option maxRecDepth 20000 in
set_option maxHeartbeats 4000000 in
theorem f_X10_plays_J124_at (fu : Nat) (k0 : Nat) {Γ : gX (Int32 × gSt)} (h : gOk Γ cX10_plays 4 RX10 (some .boolean) 5 110) (z : gEnd Γ gQi) (hk0 : isO k0 10) (x1 : Int32) (σ : gSt) : At Γ 124 [some (.ref (gAd Γ.1 k0)), some (.int x1), none, none] [] σ (f_X10_plays_J124 fu k0 x1 σ) := by
  unfold f_X10_plays_J124
  refine x_aload_n (pc := 124) (i := 0) h dX10_plays_124 rfl rfl ?_
  refine x_iconst (pc := 125) (v := 0) h dX10_plays_125 (by decide) ?_
  refine x_put (pc := 126) h 10 4 .boolean hk0 (by decide) (by decide) rfl rfl rfl rfl rfl kf_X10_31 dX10_plays_126 (fun σ126 => ?_)
  refine x_iload_n (pc := 129) (i := 1) h dX10_plays_129 rfl rfl ?_
  exact x_zreti (pc := 130) h z rfl dX10_plays_130

set_option maxRecDepth 20000 in
set_option maxHeartbeats 4000000 in
theorem f_X10_plays_J108_at (fu : Nat) (k0 : Nat) (ag22 : Int32 → gSt → Option (Int32 × gSt)) {Γ : gX (Int32 × gSt)} (h : gOk Γ cX10_plays 4 RX10 (some .boolean) 5 110) (z : gEnd Γ gQi) (hk0 : isO k0 10) (x1 : Int32) (s2 : Int32) (σ : gSt) (hg22 : ∀ (y1 : Int32) (τ : gSt), At Γ 22 [some (.ref (gAd Γ.1 k0)), some (.int y1), none, none] [] τ (ag22 y1 τ)) : At Γ 108 [some (.ref (gAd Γ.1 k0)), some (.int x1), none, none] [.int s2, .ref (gAd Γ.1 k0)] σ (f_X10_plays_J108 fu k0 ag22 x1 s2 σ) := by
  unfold f_X10_plays_J108
  refine x_put (pc := 108) h 10 12 .int hk0 (by decide) (by decide) rfl rfl rfl rfl rfl kf_X10_227 dX10_plays_108 (fun σ108 => ?_)
  refine x_aload_n (pc := 111) (i := 0) h dX10_plays_111 rfl rfl ?_
  refine x_dup (pc := 112) h dX10_plays_112 rfl ?_
  refine gf_X10_214 (pc := 113) h hk0 dX10_plays_113 ?_
  refine x_iconst (pc := 116) (v := 1) h dX10_plays_116 (by decide) ?_
  refine x_iadd (pc := 117) h dX10_plays_117 ?_
  refine x_put (pc := 118) h 10 13 .int hk0 (by decide) (by decide) rfl rfl rfl rfl rfl kf_X10_214 dX10_plays_118 (fun σ118 => ?_)
  refine x_goto (pc := 121) (tgt := 22) h dX10_plays_121 (by decide) ?_
  exact At.mask [true, true, false, false] rfl rfl (hg22 x1 σ118)

set_option maxRecDepth 20000 in
set_option maxHeartbeats 4000000 in
theorem f_X10_plays_J87_at (fu : Nat) (k0 : Nat) (ag22 : Int32 → gSt → Option (Int32 × gSt)) {Γ : gX (Int32 × gSt)} (h : gOk Γ cX10_plays 4 RX10 (some .boolean) 5 110) (z : gEnd Γ gQi) (hk0 : isO k0 10) (x1 : Int32) (x2 : Int32) (x3 : Int32) (s2 : Int32) (σ : gSt) (hg22 : ∀ (y1 : Int32) (τ : gSt), At Γ 22 [some (.ref (gAd Γ.1 k0)), some (.int y1), none, none] [] τ (ag22 y1 τ)) : At Γ 87 [some (.ref (gAd Γ.1 k0)), some (.int x1), some (.int x2), some (.int x3)] [.int s2, .ref (gAd Γ.1 k0)] σ (f_X10_plays_J87 fu k0 ag22 x1 x2 x3 s2 σ) := by
  unfold f_X10_plays_J87
  refine x_put (pc := 87) h 10 11 .int hk0 (by decide) (by decide) rfl rfl rfl rfl rfl kf_X10_224 dX10_plays_87 (fun σ87 => ?_)
  refine x_aload_n (pc := 90) (i := 0) h dX10_plays_90 rfl rfl ?_
  refine x_iload_n (pc := 91) (i := 2) h dX10_plays_91 rfl rfl ?_
  refine x_nm (e := (if x2 = 0 then ((σ87 k0 9) - (σ87 k0 10)) else x3)) (pcJ := 108) (LJ := [some (.ref (gAd Γ.1 k0)), some (.int x1), some (.int x2), some (.int x3)]) (sJ := [.ref (gAd Γ.1 k0)]) (fun w92 => ?_) (fun kj92 => ?_)
  · exact At.mask [true, true, false, false] rfl rfl (f_X10_plays_J108_at fu k0 ag22 h z hk0 x1 w92 σ87 hg22)
  · refine j_if_eq (pc := 92) (tgt := 99) h dX10_plays_92 (by decide) (fun hc92_0 => ?_) (fun hc92_0 => ?_)
    · refine x_aload_n (pc := 99) (i := 0) h dX10_plays_99 rfl rfl ?_
      refine gf_X10_177 (pc := 100) h hk0 dX10_plays_100 ?_
      refine x_aload_n (pc := 103) (i := 0) h dX10_plays_103 rfl rfl ?_
      refine gf_X10_211 (pc := 104) h hk0 dX10_plays_104 ?_
      refine x_isub (pc := 107) h dX10_plays_107 ?_
      exact kj92 ((σ87 k0 9) - (σ87 k0 10)) (by rw [if_pos hc92_0])
    · refine x_iload_n (pc := 95) (i := 3) h dX10_plays_95 rfl rfl ?_
      refine x_goto (pc := 96) (tgt := 108) h dX10_plays_96 (by decide) ?_
      exact kj92 x3 (by rw [if_neg hc92_0])

set_option maxRecDepth 20000 in
set_option maxHeartbeats 4000000 in
theorem f_X10_plays_J76_at (fu : Nat) (k0 : Nat) (ag22 : Int32 → gSt → Option (Int32 × gSt)) {Γ : gX (Int32 × gSt)} (h : gOk Γ cX10_plays 4 RX10 (some .boolean) 5 110) (z : gEnd Γ gQi) (hk0 : isO k0 10) (x2 : Int32) (x3 : Int32) (s1 : Int32) (σ : gSt) (hg22 : ∀ (y1 : Int32) (τ : gSt), At Γ 22 [some (.ref (gAd Γ.1 k0)), some (.int y1), none, none] [] τ (ag22 y1 τ)) : At Γ 76 [some (.ref (gAd Γ.1 k0)), none, some (.int x2), some (.int x3)] [.int s1] σ (f_X10_plays_J76 fu k0 ag22 x2 x3 s1 σ) := by
  unfold f_X10_plays_J76
  refine x_istore_n (pc := 76) (i := 1) (L' := [some (.ref (gAd Γ.1 k0)), some (.int s1), some (.int x2), some (.int x3)]) h dX10_plays_76 rfl (Nat.le_of_ble_eq_true rfl) rfl ?_
  refine x_aload_n (pc := 77) (i := 0) h dX10_plays_77 rfl rfl ?_
  refine x_iload_n (pc := 78) (i := 2) h dX10_plays_78 rfl rfl ?_
  refine x_nm (e := (if x2 = 0 then 1 else 2)) (pcJ := 87) (LJ := [some (.ref (gAd Γ.1 k0)), some (.int s1), some (.int x2), some (.int x3)]) (sJ := [.ref (gAd Γ.1 k0)]) (fun w79 => ?_) (fun kj79 => ?_)
  · exact At.mask [true, true, true, true] rfl rfl (f_X10_plays_J87_at fu k0 ag22 h z hk0 s1 x2 x3 w79 σ hg22)
  · refine j_if_eq (pc := 79) (tgt := 86) h dX10_plays_79 (by decide) (fun hc79_0 => ?_) (fun hc79_0 => ?_)
    · refine x_iconst (pc := 86) (v := 1) h dX10_plays_86 (by decide) ?_
      exact kj79 1 (by rw [if_pos hc79_0])
    · refine x_iconst (pc := 82) (v := 2) h dX10_plays_82 (by decide) ?_
      refine x_goto (pc := 83) (tgt := 87) h dX10_plays_83 (by decide) ?_
      exact kj79 2 (by rw [if_neg hc79_0])

set_option maxRecDepth 20000 in
set_option maxHeartbeats 4000000 in
theorem f_X10_plays_J62_at (fu : Nat) (k0 : Nat) (ag22 : Int32 → gSt → Option (Int32 × gSt)) {Γ : gX (Int32 × gSt)} (h : gOk Γ cX10_plays 4 RX10 (some .boolean) 5 110) (z : gEnd Γ gQi) (hk0 : isO k0 10) (x2 : Int32) (s1 : Int32) (σ : gSt) (hg22 : ∀ (y1 : Int32) (τ : gSt), At Γ 22 [some (.ref (gAd Γ.1 k0)), some (.int y1), none, none] [] τ (ag22 y1 τ)) : At Γ 62 [some (.ref (gAd Γ.1 k0)), none, some (.int x2), none] [.int s1] σ (f_X10_plays_J62 fu k0 ag22 x2 s1 σ) := by
  unfold f_X10_plays_J62
  refine x_istore_n (pc := 62) (i := 3) (L' := [some (.ref (gAd Γ.1 k0)), none, some (.int x2), some (.int s1)]) h dX10_plays_62 rfl (Nat.le_of_ble_eq_true rfl) rfl ?_
  refine x_iload_n (pc := 63) (i := 2) h dX10_plays_63 rfl rfl ?_
  refine x_nm (e := (if x2 = 0 then 0 else (if s1 < 0 then 0 else 1))) (pcJ := 76) (LJ := [some (.ref (gAd Γ.1 k0)), none, some (.int x2), some (.int s1)]) (sJ := []) (fun w64 => ?_) (fun kj64 => ?_)
  · exact At.mask [true, false, true, true] rfl rfl (f_X10_plays_J76_at fu k0 ag22 h z hk0 x2 s1 w64 σ hg22)
  · refine j_if_eq (pc := 64) (tgt := 75) h dX10_plays_64 (by decide) (fun hc64_0 => ?_) (fun hc64_0 => ?_)
    · refine x_iconst (pc := 75) (v := 0) h dX10_plays_75 (by decide) ?_
      exact kj64 0 (by rw [if_pos hc64_0])
    · refine x_iload_n (pc := 67) (i := 3) h dX10_plays_67 rfl rfl ?_
      refine j_if_lt (pc := 68) (tgt := 75) h dX10_plays_68 (by decide) (fun hc68_1 => ?_) (fun hc68_1 => ?_)
      · refine x_iconst (pc := 75) (v := 0) h dX10_plays_75 (by decide) ?_
        exact kj64 0 (by rw [if_neg hc64_0, if_pos hc68_1])
      · refine x_iconst (pc := 71) (v := 1) h dX10_plays_71 (by decide) ?_
        refine x_goto (pc := 72) (tgt := 76) h dX10_plays_72 (by decide) ?_
        exact kj64 1 (by rw [if_neg hc64_0, if_neg hc68_1])

set_option maxRecDepth 20000 in
set_option maxHeartbeats 4000000 in
theorem f_X10_plays_L22_at (fu : Nat) (k0 : Nat) (ag22 : Int32 → gSt → Option (Int32 × gSt)) {Γ : gX (Int32 × gSt)} (h : gOk Γ cX10_plays 4 RX10 (some .boolean) 5 110) (z : gEnd Γ gQi) (hk0 : isO k0 10) (hg22 : ∀ (y1 : Int32) (τ : gSt), At Γ 22 [some (.ref (gAd Γ.1 k0)), some (.int y1), none, none] [] τ (ag22 y1 τ)) (x1 : Int32) (σ : gSt) : At Γ 22 [some (.ref (gAd Γ.1 k0)), some (.int x1), none, none] [] σ (f_X10_plays_L22 fu k0 ag22 x1 σ) := by
  unfold f_X10_plays_L22
  refine x_aload_n (pc := 22) (i := 0) h dX10_plays_22 rfl rfl ?_
  refine gf_X10_177 (pc := 23) h hk0 dX10_plays_23 ?_
  refine x_aload_n (pc := 26) (i := 0) h dX10_plays_26 rfl rfl ?_
  refine gf_X10_174 (pc := 27) h hk0 dX10_plays_27 ?_
  refine x_icmp_ge (pc := 30) (tgt := 124) h dX10_plays_30 (by decide) ?_ ?_
  · exact At.mask [true, true, false, false] rfl rfl (f_X10_plays_J124_at fu k0 h z hk0 x1 σ)
  · refine x_iload_n (pc := 33) (i := 1) h dX10_plays_33 rfl rfl ?_
    refine x_if_eq (pc := 34) (tgt := 124) h dX10_plays_34 (by decide) ?_ ?_
    · exact At.mask [true, true, false, false] rfl rfl (f_X10_plays_J124_at fu k0 h z hk0 x1 σ)
    · refine x_aload_n (pc := 37) (i := 0) h dX10_plays_37 rfl rfl ?_
      refine x_aload_n (pc := 38) (i := 0) h dX10_plays_38 rfl rfl ?_
      refine gf_X10_177 (pc := 39) h hk0 dX10_plays_39 ?_
      refine x_put (pc := 42) h 10 10 .int hk0 (by decide) (by decide) rfl rfl rfl rfl rfl kf_X10_211 dX10_plays_42 (fun σ42 => ?_)
      refine x_aload_n (pc := 45) (i := 0) h dX10_plays_45 rfl rfl ?_
      refine x_Vi (pc := 46) (av := fun ad => []) (rest := []) h m_X10_reads i_X10_reads kl_X10_217 hk0 (by decide) rfl (c_X10_reads fu σ42 k0 hk0) rfl rfl (gCaM rfl) dX10_plays_46 (fun v46 σ46 => ?_)
      refine x_istore_n (pc := 49) (i := 2) (L' := [some (.ref (gAd Γ.1 k0)), some (.int x1), some (.int v46), none]) h dX10_plays_49 rfl (Nat.le_of_ble_eq_true rfl) rfl ?_
      refine x_iload_n (pc := 50) (i := 2) h dX10_plays_50 rfl rfl ?_
      refine x_if_eq (pc := 51) (tgt := 61) h dX10_plays_51 (by decide) ?_ ?_
      · refine x_iconst (pc := 61) (v := 0) h dX10_plays_61 (by decide) ?_
        exact At.mask [true, false, true, false] rfl rfl (f_X10_plays_J62_at fu k0 ag22 h z hk0 v46 0 σ46 hg22)
      · refine x_aload_n (pc := 54) (i := 0) h dX10_plays_54 rfl rfl ?_
        refine x_Vi (pc := 55) (av := fun ad => []) (rest := []) h m_X10_calls i_X10_calls kl_X10_221 hk0 (by decide) rfl (c_X10_calls fu σ46 k0 hk0) rfl rfl (gCaM rfl) dX10_plays_55 (fun v55 σ55 => ?_)
        refine x_goto (pc := 58) (tgt := 62) h dX10_plays_58 (by decide) ?_
        exact At.mask [true, false, true, false] rfl rfl (f_X10_plays_J62_at fu k0 ag22 h z hk0 v46 v55 σ55 hg22)

theorem f_X10_plays_W22_at (fu : Nat) (k0 : Nat) {Γ : gX (Int32 × gSt)} (h : gOk Γ cX10_plays 4 RX10 (some .boolean) 5 110) (z : gEnd Γ gQi) (hk0 : isO k0 10) : ∀ (n : Nat) (x1 : Int32) (σ : gSt), At Γ 22 [some (.ref (gAd Γ.1 k0)), some (.int x1), none, none] [] σ (f_X10_plays_W22 fu k0 n x1 σ) := by
  intro n
  induction n with
  | zero => intro x1 σ r hr; cases hr
  | succ n ih =>
    intro x1 σ
    exact f_X10_plays_L22_at fu k0 (f_X10_plays_W22 fu k0 n) h z hk0 ih x1 σ

set_option maxRecDepth 20000 in
set_option maxHeartbeats 4000000 in
theorem c_X10_plays (fu : Nat) (σ : gSt) (k0 : Nat) (hk0 : isO k0 10) : gCt yX10_plays cX10_plays 4 (some .boolean) 5 110 gQi (fun ad => [.ref (ad k0)]) σ (f_X10_plays fu σ k0) := by
  refine gCt_intro RX10 rfl (by decide +kernel) (fun ad v hv => by simp only [List.mem_cons, List.not_mem_nil, or_false] at hv; rcases hv with rfl <;> rfl) (fun ad => Nat.le_of_ble_eq_true rfl) (fun Γ h z => ?_)
  show At Γ 0 [some (.ref (gAd Γ.1 k0)), none, none, none] [] σ _
  unfold f_X10_plays
  refine x_aload_n (pc := 0) (i := 0) h dX10_plays_0 rfl rfl ?_
  refine x_iconst (pc := 1) (v := 1) h dX10_plays_1 (by decide) ?_
  refine x_put (pc := 2) h 10 4 .boolean hk0 (by decide) (by decide) rfl rfl rfl rfl rfl kf_X10_31 dX10_plays_2 (fun σ2 => ?_)
  refine x_aload_n (pc := 5) (i := 0) h dX10_plays_5 rfl rfl ?_
  refine x_iconst (pc := 6) (v := 0) h dX10_plays_6 (by decide) ?_
  refine x_put (pc := 7) h 10 9 .int hk0 (by decide) (by decide) rfl rfl rfl rfl rfl kf_X10_177 dX10_plays_7 (fun σ7 => ?_)
  refine x_aload_n (pc := 10) (i := 0) h dX10_plays_10 rfl rfl ?_
  refine x_iconst (pc := 11) (v := 0) h dX10_plays_11 (by decide) ?_
  refine x_put (pc := 12) h 10 10 .int hk0 (by decide) (by decide) rfl rfl rfl rfl rfl kf_X10_211 dX10_plays_12 (fun σ12 => ?_)
  refine x_aload_n (pc := 15) (i := 0) h dX10_plays_15 rfl rfl ?_
  refine x_iconst (pc := 16) (v := 0) h dX10_plays_16 (by decide) ?_
  refine x_put (pc := 17) h 10 13 .int hk0 (by decide) (by decide) rfl rfl rfl rfl rfl kf_X10_214 dX10_plays_17 (fun σ17 => ?_)
  refine x_iconst (pc := 20) (v := 1) h dX10_plays_20 (by decide) ?_
  refine x_istore_n (pc := 21) (i := 1) (L' := [some (.ref (gAd Γ.1 k0)), some (.int 1), none, none]) h dX10_plays_21 rfl (Nat.le_of_ble_eq_true rfl) rfl ?_
  exact At.mask [true, true, false, false] rfl rfl (f_X10_plays_W22_at fu k0 h z hk0 fu 1 σ17)

