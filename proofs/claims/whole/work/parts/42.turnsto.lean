/-! ===== corrections anew ===== -/
def hits (T : Nat → Nat) (x t : Nat) : Prop := ∃ j, shn T j x = t
section Alg
variable {T : Nat → Nat} {t u : Nat}
theorem nh_shn : ∀ (k x : Nat), ¬ hits T x t → shn (uF T t u) k x = shn T k x
  | 0, _, _ => rfl
  | k + 1, x, h => by
    have hx : x ≠ t := fun e => h ⟨0, e⟩
    by_cases h0 : T x = 0
    · rw [shn_stop h0, shn_stop (T := uF T t u) (by rw [uF_n _ _ hx]; exact h0)]
    · rw [shn_go h0, shn_go (T := uF T t u) (by rw [uF_n _ _ hx]; exact h0), uF_n _ _ hx]
      exact nh_shn k _ (fun ⟨j, hj⟩ => h ⟨j + 1, by rw [shn_go h0]; exact hj⟩)
theorem hit_shn : ∀ (j x : Nat), shn T j x = t → ∃ i, shn (uF T t u) i x = t
  | 0, _, h => ⟨0, h⟩
  | j + 1, x, h => by
    by_cases e : x = t
    · exact ⟨0, e⟩
    · by_cases h0 : T x = 0
      · rw [shn_stop h0] at h
        exact absurd h e
      · rw [shn_go h0] at h
        obtain ⟨i, hi⟩ := hit_shn j _ h
        refine ⟨i + 1, ?_⟩
        rw [shn_go (T := uF T t u) (by rw [uF_n _ _ e]; exact h0), uF_n _ _ e]
        exact hi
def zEnd (T : Nat → Nat) (t u : Nat) : Nat := if u = 0 then t else sh T (u - 1)
theorem uF_end (hT : TW T) (hb : TB T) (hu : u = 0 ∨ (u - 1 < 16 ∧ ¬ hits T (u - 1) t)) {x : Nat} (hx : x < 16) : ∃ m, uF T t u (shn (uF T t u) m x) = 0 ∧ (hits T x t → shn (uF T t u) m x = zEnd T t u) ∧ (¬ hits T x t → shn (uF T t u) m x = sh T x) := by
  by_cases h : hits T x t
  · obtain ⟨j, hj⟩ := h
    obtain ⟨i, hi⟩ := hit_shn (u := u) j x hj
    rcases hu with rfl | ⟨h16, hn⟩
    · exact ⟨i, by rw [hi, uF_e], fun _ => by rw [hi]; rfl, fun z => absurd ⟨j, hj⟩ z⟩
    · by_cases hu0 : u = 0
      · subst hu0
        exact ⟨i, by rw [hi, uF_e], fun _ => by rw [hi]; rfl, fun z => absurd ⟨j, hj⟩ z⟩
      · have e : shn (uF T t u) (i + (16 + 1)) x = sh T (u - 1) := by
          rw [shn_add, hi, shn_go (T := uF T t u) (by rw [uF_e]; exact hu0), uF_e]
          exact nh_shn 16 _ hn
        have hne : sh T (u - 1) ≠ t := fun z => hn ⟨16, z⟩
        refine ⟨i + (16 + 1), ?_, fun _ => ?_, fun z => absurd ⟨j, hj⟩ z⟩
        · rw [e, uF_n _ _ hne]
          exact sh_end hb h16
        · rw [e]
          unfold zEnd
          rw [if_neg hu0]
  · have hne : sh T x ≠ t := fun z => h ⟨16, z⟩
    refine ⟨16, ?_, fun z => absurd z h, fun _ => nh_shn 16 x h⟩
    rw [nh_shn 16 x h]
    exact (uF_n _ _ hne).trans (sh_end hb hx)
theorem uF_TW (hT : TW T) (hu : u ≤ 16) : TW (uF T t u) := fun x hx => by
  by_cases e : x = t
  · subst e
    rw [uF_e]
    exact hu
  · rw [uF_n _ _ e]
    exact hT x hx
theorem uF_TA (hT : TW T) (hb : TB T) (hu : u = 0 ∨ (u - 1 < 16 ∧ ¬ hits T (u - 1) t)) : TA (uF T t u) := fun x hx => by
  obtain ⟨m, hm, -⟩ := uF_end hT hb hu hx
  exact ⟨m, hm⟩
theorem sh_hit (hb : TB T) {x : Nat} (hx : x < 16) (ht : t < 16) (h : hits T x t) : sh T x = sh T t := by
  obtain ⟨j, hj⟩ := h
  have e : shn T (j + 16) x = sh T t := by rw [shn_add, hj]
  have := sh_same hb hx (m := j + 16) (by rw [e]; exact sh_end hb ht)
  rw [← this, e]
end Alg
/-- places that are shown anew -/
def chg (v : gV) (T' : Nat → Nat) : Nat := sumN (vn v) (fun i => sumN (vC v i) (fun j => on1 (decide (sh T' (vQ v i j) ≠ sh (vT v) (vQ v i j)))))
section Mm4
variable {fu k : Nat} {σ σ1 : gSt} {v : gV}
theorem chg_eq (hw : WT v) (hT : TW (vT v)) (hb : TB (vT v)) {t u : Nat} (ht : t < 16) (hu16 : u ≤ 16) (hu : u = 0 ∨ (u - 1 < 16 ∧ ¬ hits (vT v) (u - 1) t)) : chg v (uF (vT v) t u) = rsN v t (zEnd (vT v) t u) := by
  have hb' := tb_of (uF_TW hT hu16) (uF_TA hT hb hu)
  have one : ∀ q, q < 16 → (sh (uF (vT v) t u) q ≠ sh (vT v) q ↔ sh (vT v) t ≠ zEnd (vT v) t u ∧ ldn (vT v) t 16 q = true) := fun q hq => by
    obtain ⟨m, m0, m1, m2⟩ := uF_end hT hb hu hq
    have e := sh_same hb' hq m0
    by_cases h : hits (vT v) q t
    · rw [← e, m1 h, sh_hit hb hq ht h]
      exact ⟨fun z => ⟨fun y => z y.symm, (ld_all hb hq t).mpr h⟩, fun z y => z.1 y.symm⟩
    · rw [← e, m2 h]
      exact ⟨fun z => absurd rfl z, fun z => absurd ((ld_all hb hq t).mp z.2) h⟩
  unfold chg rsN
  by_cases h : sh (vT v) t = zEnd (vT v) t u
  · rw [if_pos h]
    refine (sumN_congr _ (fun i hi => ?_)).trans (sumN_0 _)
    refine (sumN_congr _ (fun j hj => ?_)).trans (sumN_0 _)
    exact on1_f (fun z => ((one _ ((hw.2.2 i hi).2 j hj)).mp (of_decide_eq_true z)).1 h)
  · rw [if_neg h, tt_sum hw (fun x => ldn (vT v) t 16 x)]
    refine sumN_congr _ (fun i hi => sumN_congr _ (fun j hj => ?_))
    have o := one _ ((hw.2.2 i hi).2 j hj)
    by_cases y : ldn (vT v) t 16 (vQ v i j) = true
    · rw [on1_t y, on1_t (decide_eq_true (o.mpr ⟨h, y⟩))]
    · rw [on1_f y, on1_f (fun z => y (o.mp (of_decide_eq_true z)).2)]
theorem chg_le (hw : WT v) (T' : Nat → Nat) : chg v T' ≤ vn v * 8 := sumN_le _ (fun i hi => by
  have h1 := cnt_le (vC v i) (fun j => decide (sh T' (vQ v i j) ≠ sh (vT v) (vQ v i j)))
  have h8 := (hw.2.2 i hi).1
  omega)
theorem to_1 (hf : 16 < fu) (h : RR v (σ (k + 1))) (hT : TW (vT v)) (hb : TB (vT v)) (t y s w : Int32) : ∀ (n i : Nat) (τ : gSt), i ≤ 16 → 16 - i < n → (∀ c, c ≠ k + 6 → τ c = σ c) → (∀ j, j < i → τ (k + 6) j = nI (sh (vT v) j)) →
    ∃ υ, f_X10_turnsTo_W15 fu k t y s w n (nI i) τ = f_X10_turnsTo_L15 fu k t y s w (fun _ _ => none) (nI 16) υ ∧ (∀ c, c ≠ k + 6 → υ c = σ c) ∧ (∀ j, j < 16 → υ (k + 6) j = nI (sh (vT v) j))
  | 0, _, _, _, q, _, _ => absurd q (by omega)
  | n + 1, i, τ, h1, h2, g1, g2 => by
    rw [f_X10_turnsTo_W15_s]
    rcases Nat.lt_or_ge i 16 with q | q
    · have hr : RR v (τ (k + 1)) := by rw [g1 _ (by omega)]; exact h
      unfold f_X10_turnsTo_L15
      rw [if_neg (show ¬ 16 ≤ nI i from zo_le (n := 16) q (by omega)), zm_shown hf (zr_to hr) hT hb q, bd_some, wrN i rfl (by omega) (by omega), bd_some, z_add1]
      obtain ⟨υ, u0, u1, u2⟩ := to_1 hf h hT hb t y s w n (i + 1) (gu τ (k + 6) (upd (τ (k + 6)) i (nI (sh (vT v) i)))) q (by omega) (fun c hc => by rw [gu_n _ _ hc]; exact g1 c hc) (fun j hj => by
        rw [gu_s]
        by_cases e : j = i
        · subst e
          rw [up_e]
        · rw [up_n _ _ e]
          exact g2 j (by omega))
      unfold f_X10_turnsTo_L15 at u0
      exact ⟨υ, u0, u1, u2⟩
    · have e : i = 16 := by omega
      subst e
      refine ⟨τ, ?_, g1, g2⟩
      unfold f_X10_turnsTo_L15
      rw [if_pos (show 16 ≤ nI 16 by decide), if_pos (show 16 ≤ nI 16 by decide)]
theorem to_2 (hf : 20 < fu) {w : gV} (h : RR w (σ (k + 1))) (hw : WT w) (hT : TW (vT w)) (hb : TB (vT w)) {T : Nat → Nat} (hT0 : TW T) (h6 : ∀ j, j < 16 → σ (k + 6) j = nI (sh T j)) (t y s x : Int32) : f_X10_turnsTo_W58 fu k t y s σ x fu 0 0 = f_X10_turnsTo_J159 fu k t y s (nI (sumN (vn w) (fun i => sumN (vC w i) (fun j => on1 (decide (sh (vT w) (vQ w i j) ≠ sh T (vQ w i j))))))) (if s = 0 then x else y) (260 + t) σ := by
  have h20 := hw.1
  have e1 := itr_sum (g := fun i x => x + nI (sumN (vC w i) (fun j => on1 (decide (sh (vT w) (vQ w i j) ≠ sh T (vQ w i j)))))) (vn w) 0 (fun i x _ => rfl)
  rw [Nat.zero_add] at e1
  have key := lpU0 (fun n i a => f_X10_turnsTo_W58 fu k t y s σ x n a (nI i)) (vn w) (fun i x => x + nI (sumN (vC w i) (fun j => on1 (decide (sh (vT w) (vQ w i j) ≠ sh T (vQ w i j)))))) (fun a => f_X10_turnsTo_J159 fu k t y s a (if s = 0 then x else y) (260 + t) σ) (fun n i a hi => ?_) (fun n a => ?_) fu (nI 0) (by omega)
  · refine Eq.trans key ?_
    rw [e1]
  · rw [f_X10_turnsTo_W58_s]
    unfold f_X10_turnsTo_L58
    rw [h.1, if_neg (zl_le hi (by omega))]
    have h8 := (hw.2.2 i hi).1
    have inner := lpU0 (fun m j b => f_X10_turnsTo_W74 fu k t y s (f_X10_turnsTo_W58 fu k t y s σ x n) σ x (nI i) m b (nI j)) (vC w i) (fun j b => if decide (sh (vT w) (vQ w i j) ≠ sh T (vQ w i j)) = true then b + 1 else b) (fun b => f_X10_turnsTo_W58 fu k t y s σ x n b (nI (i + 1))) (fun m j b hj => ?_) (fun m b => ?_) fu a (by omega)
    · refine Eq.trans inner ?_
      have e2 : itr (fun j b => if decide (sh (vT w) (vQ w i j) ≠ sh T (vQ w i j)) = true then b + 1 else b) 0 (vC w i) a = a + nI (sumN (vC w i) (fun j => on1 (decide (sh (vT w) (vQ w i j) ≠ sh T (vQ w i j))))) := by
        have gen : ∀ c, itr (fun j b => if decide (sh (vT w) (vQ w i j) ≠ sh T (vQ w i j)) = true then b + 1 else b) 0 c a = a + nI (sumN c (fun j => on1 (decide (sh (vT w) (vQ w i j) ≠ sh T (vQ w i j))))) := by
          intro c
          induction c with
          | zero => exact (Int32.add_zero a).symm
          | succ c ih =>
            rw [itr_snoc, ih, Nat.zero_add]
            show (if decide (sh (vT w) (vQ w i c) ≠ sh T (vQ w i c)) = true then _ + 1 else _) = a + nI (sumN c (fun j => on1 (decide (sh (vT w) (vQ w i j) ≠ sh T (vQ w i j)))) + on1 (decide (sh (vT w) (vQ w i c) ≠ sh T (vQ w i c))))
            by_cases q : decide (sh (vT w) (vQ w i c) ≠ sh T (vQ w i c)) = true
            · rw [if_pos q, on1_t q, ← nI_add, ← Int32.add_assoc]
              rfl
            · rw [if_neg q, on1_f q, Nat.add_zero]
        exact gen (vC w i)
      rw [e2]
    · have hq := (hw.2.2 i hi).2 j hj
      rw [f_X10_turnsTo_W74_s]
      unfold f_X10_turnsTo_L74
      rw [zm_C (zr_to h) hw hi, bd_some, if_neg (zl_le hj (by omega)), zm_Q (zr_to h) hw hi hj, bd_some, zm_shown (by omega) (zr_to h) hT hb hq, bd_some, bd_some, rdN (vQ w i j) rfl hq (by omega), h6 _ hq, bd_some, lt_eq, z_add1]
      have b1 : sh (vT w) (vQ w i j) < 16 := shn_lt hT 16 _ hq
      have b2 : sh T (vQ w i j) < 16 := shn_lt hT0 16 _ hq
      by_cases q : sh (vT w) (vQ w i j) = sh T (vQ w i j)
      · rw [if_pos (show nI (sh (vT w) (vQ w i j)) = nI (sh T (vQ w i j)) by rw [q]), if_neg (show ¬ decide (sh (vT w) (vQ w i j) ≠ sh T (vQ w i j)) = true from fun z => of_decide_eq_true z q), Int32.add_zero]
      · rw [if_neg (show ¬ nI (sh (vT w) (vQ w i j)) = nI (sh T (vQ w i j)) from fun z => q ((z_eq (by omega) (by omega)).mp z)), if_pos (decide_eq_true q)]
    · rw [f_X10_turnsTo_W74_s]
      unfold f_X10_turnsTo_L74
      rw [zm_C (zr_to h) hw hi, bd_some, if_pos (zl_ge (Nat.le_refl _) (by omega)), z_add1]
  · rw [f_X10_turnsTo_W58_s]
    unfold f_X10_turnsTo_L58
    rw [h.1, if_pos (zl_ge (Nat.le_refl _) (by omega)), lt_eq]
theorem zm_turnsTo (hf : 20 < fu) (h : RR v (σ (k + 1))) (hw : WT v) (hT : TW (vT v)) (hb : TB (vT v)) {t u : Nat} (ht : t < 16) (hT' : TW (uF (vT v) t u)) (hb' : TB (uF (vT v) t u)) (s : Int32) : ∃ τ, f_X10_turnsTo fu σ k (nI t) (en u) s = some (nI (chg v (uF (vT v) t u)), τ) ∧ (∀ c, c ≠ k + 1 → c ≠ k + 6 → τ c = σ c) ∧ τ (k + 1) = upd (upd (σ (k + 1)) (260 + t) (en u)) (260 + t) (if s = 0 then en (vT v t) else en u) := by
  unfold f_X10_turnsTo
  rw [zm_rdT (zr_to h) ht, bd_some]
  obtain ⟨υ, u0, u1, u2⟩ := to_1 (fu := fu) (k := k) (by omega) h hT hb (nI t) (en u) s (en (vT v t)) fu 0 σ (by omega) (by omega) (fun _ _ => rfl) (fun j hj => absurd hj (Nat.not_lt_zero j))
  rw [show f_X10_turnsTo_W15 fu k (nI t) (en u) s (en (vT v t)) fu 0 σ = _ from u0]
  unfold f_X10_turnsTo_L15
  rw [if_pos (show 16 ≤ nI 16 by decide), wrN (260 + t) (z_plus 260 t) (by omega) (by omega), bd_some, u1 (k + 1) (by omega)]
  have h2 : RR (tgtV v (uF (vT v) t u)) (gu υ (k + 1) (upd (σ (k + 1)) (260 + t) (en u)) (k + 1)) := by
    rw [gu_s]
    exact RR_T h hw ht u
  rw [to_2 (T := vT v) hf h2 hw hT' hb' hT (fun j hj => by rw [gu_n _ _ (by omega)]; exact u2 j hj)]
  unfold f_X10_turnsTo_J159
  rw [wrN (260 + t) (z_plus 260 t) (by omega) (by omega), bd_some]
  refine ⟨_, rfl, fun c c1 c2 => ?_, ?_⟩
  · rw [gu_n _ _ c1, gu_n _ _ c1]
    exact u1 c c2
  · rw [gu_s, gu_s]
theorem up_up (f : Nat → Int32) (i : Nat) (x y : Int32) : upd (upd f i x) i y = upd f i y := by
  funext j
  by_cases e : j = i
  · subst e
    rw [up_e, up_e]
  · rw [up_n _ _ e, up_n _ _ e, up_n _ _ e]
theorem up_id (f : Nat → Int32) (i : Nat) {x : Int32} (h : f i = x) : upd f i x = f := by
  funext j
  by_cases e : j = i
  · subst e
    rw [up_e, h]
  · rw [up_n _ _ e]
theorem spErr_neg {T : Nat → Nat} {x y : Int32} (h : ¬ spErr T x y = 0) : spErr T x y < 0 := by
  unfold spErr at h ⊢
  split
  · split
    · split
      · decide
      · split
        · decide
        · next a b c d => exact absurd (by rw [if_pos a, if_pos b, if_neg c, if_neg d]) h
    · decide
  · decide
theorem cor_ok (hb : TB (vT v)) {t u : Nat} (hu : u < 16) (h : ¬ ldn (vT v) t 16 u = true) : u + 1 = 0 ∨ (u + 1 - 1 < 16 ∧ ¬ hits (vT v) (u + 1 - 1) t) := Or.inr ⟨by omega, fun z => h ((ld_all hb hu t).mpr z)⟩
theorem mm_cor (hf : 20 < fu) (h : RR v (σ (k + 1))) (hW : WF v) (hc : f_X10_changes fu σ k = some σ1) (e1 : σ1 (k + 1) = σ (k + 1)) (x y : Int32) : MMut k σ σ1 (f_X10_correct fu σ k x y) (opCor v x y) := by
  obtain ⟨hw, hs, ho, hT, hA, -⟩ := hW
  have h20 := hw.1
  have hb := tb_of hT hA
  have h1 : RR v (σ1 (k + 1)) := by rw [e1]; exact h
  unfold f_X10_correct opCor
  rw [zm_mayCorrect (by omega) (zr_to h) hT hb, bd_some]
  by_cases e : spErr (vT v) x y = 0
  · obtain ⟨t, u, ht, hu, rfl, rfl, htu, hl⟩ := spErr_0 e
    have ok := cor_ok hb hu hl
    rw [e, if_pos (by decide), if_pos rfl, hc, bd_some, nI_clamp (by omega), nI_clamp (by omega)]
    obtain ⟨τ, t0, t1, t2⟩ := zm_turnsTo (fu := fu) (u := u + 1) hf h1 hw hT hb ht (uF_TW hT (by omega)) (tb_of (uF_TW hT (by omega)) (uF_TA hT hb ok)) 1
    rw [show f_X10_turnsTo fu σ1 k (nI t) (nI u) 1 = _ from t0, b2_some, chg_eq hw hT hb ht (by omega) ok]
    have hz : zEnd (vT v) t (u + 1) = sh (vT v) u := if_neg (by omega)
    have hle := chg_le hw (uF (vT v) t (u + 1))
    rw [chg_eq hw hT hb ht (by omega) ok] at hle
    rw [hz] at hle ⊢
    refine MMut_1 (nI_pos (by omega)) ?_ (fun c c1 _ c3 => t1 c c1 c3)
    rw [t2, if_neg (by decide), up_up]
    exact RR_T h1 hw ht (u + 1)
  · rw [if_neg (z_nle.mpr (spErr_neg e)), if_neg e]
    exact MMut_0 (spErr_neg e) h
theorem mm_unc (hf : 20 < fu) (h : RR v (σ (k + 1))) (hW : WF v) (hc : f_X10_changes fu σ k = some σ1) (e1 : σ1 (k + 1) = σ (k + 1)) (x : Int32) : MMut k σ σ1 (f_X10_uncorrect fu σ k x) (opUnc v x) := by
  obtain ⟨hw, hs, ho, hT, hA, -⟩ := hW
  have h20 := hw.1
  have hb := tb_of hT hA
  have h1 : RR v (σ1 (k + 1)) := by rw [e1]; exact h
  unfold f_X10_uncorrect opUnc
  rw [zm_isTerm, bd_some]
  rcases z_ix16 x with ⟨t, ht, rfl, hx⟩ | ⟨hx, -⟩
  · rw [if_neg (fun z => bi_0.mp z hx), if_pos hx, zm_rdT (zr_to h) ht, bd_some, nI_clamp (by omega)]
    by_cases q : vT v t = 0
    · rw [if_pos q, if_neg (fun z => (en_nn (hT t ht)).mp z q)]
      exact MMut_0 (by decide) h
    · rw [if_neg q, if_pos ((en_nn (hT t ht)).mpr q), hc, bd_some]
      obtain ⟨τ, t0, t1, t2⟩ := zm_turnsTo (fu := fu) (u := 0) hf h1 hw hT hb ht (uF_TW hT (by omega)) (tb_of (uF_TW hT (by omega)) (uF_TA hT hb (Or.inl rfl))) 1
      rw [show f_X10_turnsTo fu σ1 k (nI t) (-1) 1 = _ from t0, b2_some, chg_eq hw hT hb ht (by omega) (Or.inl rfl)]
      have hle := chg_le hw (uF (vT v) t 0)
      rw [chg_eq hw hT hb ht (by omega) (Or.inl rfl)] at hle
      rw [show zEnd (vT v) t 0 = t from rfl] at hle ⊢
      refine MMut_1 (nI_pos (by omega)) ?_ (fun c c1 _ c3 => t1 c c1 c3)
      rw [t2, if_neg (by decide), up_up]
      exact RR_T h1 hw ht 0
  · rw [if_pos (bi_0.mpr hx), if_neg hx]
    exact MMut_0 (by decide) h
/-- what a correction would change -/
def spWould (v : gV) (x y : Int32) : Int32 := if spErr (vT v) x y = 0 then nI (rsN v x.toNatClampNeg (sh (vT v) y.toNatClampNeg)) else spErr (vT v) x y
theorem mm_would (hf : 20 < fu) (h : RR v (σ (k + 1))) (hW : WF v) (x y : Int32) : ∃ τ, f_X10_would fu σ k x y = some (spWould v x y, τ) ∧ (∀ c, c ≠ k + 6 → τ c = σ c) := by
  obtain ⟨hw, hs, ho, hT, hA, -⟩ := hW
  have hb := tb_of hT hA
  unfold f_X10_would spWould
  rw [zm_mayCorrect (by omega) (zr_to h) hT hb, bd_some]
  by_cases e : spErr (vT v) x y = 0
  · obtain ⟨t, u, ht, hu, rfl, rfl, htu, hl⟩ := spErr_0 e
    have ok := cor_ok hb hu hl
    rw [e, if_pos (by decide), if_pos rfl, nI_clamp (by omega), nI_clamp (by omega)]
    obtain ⟨τ, t0, t1, t2⟩ := zm_turnsTo (fu := fu) (u := u + 1) hf h hw hT hb ht (uF_TW hT (by omega)) (tb_of (uF_TW hT (by omega)) (uF_TA hT hb ok)) 0
    rw [show f_X10_turnsTo fu σ k (nI t) (nI u) 0 = _ from t0, b2_some, chg_eq hw hT hb ht (by omega) ok, show zEnd (vT v) t (u + 1) = sh (vT v) u from if_neg (by omega)]
    refine ⟨_, rfl, fun c c3 => ?_⟩
    by_cases c1 : c = k + 1
    · subst c1
      rw [t2, if_pos rfl, up_up]
      exact up_id _ _ (h.2.2.1 t ht)
    · exact t1 c c1 c3
  · rw [if_neg (z_nle.mpr (spErr_neg e)), if_neg e]
    exact ⟨σ, rfl, fun _ _ => rfl⟩
end Mm4
theorem zy_would {fu : Nat} {σ : gSt} {v : gV} (hf : 20 < fu) (h : RC 10 v σ) (hW : WF v) (x y : Int32) : f_X9_would fu σ 0 x y = some (spWould v x y) := by
  obtain ⟨hw, hs, ho, hT, hA, -⟩ := hW
  unfold f_X9_would f_X5_ofCorrection spWould
  simp only [bd_id]
  rw [show f_X0_errorOf fu σ (0 + 1 + 17) x y = _ from zc_error (k := 18) (by omega) h.2.1 hT x y, bd_some]
  by_cases e : spErr (vT v) x y = 0
  · obtain ⟨t, u, ht, hu, rfl, rfl, htu, -⟩ := spErr_0 e
    rw [if_pos e, if_pos e, show f_X0_shown fu σ (0 + 1 + 17) (nI u) = _ from zc_shown (k := 18) (by omega) h.2.1 hT hu, bd_some, nI_clamp (by omega), nI_clamp (by omega)]
    exact zc_reshown hf h hw hT ht (sh_lt hT hu)
  · rw [if_neg e, if_neg e]
