/-! ===== a transcript's changes, as answers and what they leave ===== -/
theorem el_s {α β : Type} (a : α) (b : β) (f : α → β) : (some a).elim b f = f a := rfl
theorem el_n {α β : Type} (b : β) (f : α → β) : (none : Option α).elim b f = b := rfl
theorem z_nle {a b : Int32} : ¬ a ≤ b ↔ b < a := by rw [z_lei, z_lti]; omega
theorem z_nlt {a b : Int32} : ¬ a < b ↔ b ≤ a := by rw [z_lei, z_lti]; omega
def opTurn (v : gV) (b e p : Int32) : Int32 × gV := if (0 ≤ b ∧ b < e ∧ e ≤ 1999) ∧ (50 ≤ p ∧ p ≤ 500) then (if vn v = 20 then (-1000003, v) else (nI (plV v b), insV v (plV v b) b e p (clS (vS v) p (vA v)).1 0 (fun _ => 0))) else (-1000001, v)
def opSay (v : gV) (p t : Int32) : Int32 × gV := (ix (vn v) p).elim (-1000001, v) fun i => if 0 ≤ t ∧ t ≤ 15 then (if vC v i = 8 then (-1000003, v) else (nI (vC v i + 1), sayV v i (vC v i + 1) (uF (vQ v i) (vC v i) t.toNatClampNeg))) else (-1000001, v)
def cutV (v : gV) (i : Nat) (t : Int32) (x : Nat) : gV := insV (endV (sayV v i x (vQ v i)) i t) (plV v t) t (vE v i) (vP v i) (vO v i) (vC v i - x) (fun j => vQ v i (x + j))
def opPart (v : gV) (p t x : Int32) : Int32 × gV := (ix (vn v) p).elim (-1000001, v) fun i => if (vB v i < t ∧ t < vE v i) ∧ (0 ≤ x ∧ x ≤ nI (vC v i)) then (if vn v = 20 then (-1000003, v) else (nI (plV v t), cutV v i t x.toNatClampNeg)) else (-1000001, v)
def opRem (v : gV) (p : Int32) : Int32 × gV := (ix (vn v) p).elim (-1000001, v) fun i => (nI (vn v - 1), delV v i)
def opCor (v : gV) (x y : Int32) : Int32 × gV := if spErr (vT v) x y = 0 then (nI (rsN v x.toNatClampNeg (sh (vT v) y.toNatClampNeg)), tgtV v (uF (vT v) x.toNatClampNeg (y.toNatClampNeg + 1))) else (spErr (vT v) x y, v)
def opUnc (v : gV) (x : Int32) : Int32 × gV := if 0 ≤ x ∧ x ≤ 15 then (if vT v x.toNatClampNeg = 0 then (-1000002, v) else (nI (rsN v x.toNatClampNeg x.toNatClampNeg), tgtV v (uF (vT v) x.toNatClampNeg 0))) else (-1000001, v)
def opSpk (v : gV) (p : Int32) : Int32 × gV := if 50 ≤ p ∧ p ≤ 500 then (if frS (vS v) 0 6 = 6 then (-1000003, v) else (nI (frS (vS v) 0 6), pitV v (uF (vS v) (frS (vS v) 0 6) p))) else (-1000001, v)
def givV (v : gV) (i a : Nat) : gV := pitV (ownV v (uF (vO v) i (nI a))) (uF (vS v) a (mnV (ownV v (uF (vO v) i (nI a))) (nI a) (vS v a)))
def opGiv (v : gV) (p s : Int32) : Int32 × gV := (ix (vn v) p).elim (-1000001, v) fun i => (vx (vS v) s).elim (-1000001, v) fun a => if vO v i = s then (-1000002, v) else (mnV (ownV v (uF (vO v) i (nI a))) (nI a) (vS v a), givV v i a)
def toV (v : gV) (a u : Nat) : gV := ownV v (fun j => if vO v j = nI a then nI u else vO v j)
def joiV (v : gV) (a u : Nat) : gV := pitV (toV v a u) (uF (uF (vS v) a 0) u (mnV (toV v a u) (nI u) (vS v u)))
def opJoi (v : gV) (s o : Int32) : Int32 × gV := (vx (vS v) s).elim (-1000001, v) fun a => (vx (vS v) o).elim (-1000001, v) fun u => if s = o then (-1000001, v) else (ctS (vn v) (fun i => decide (vO (toV v a u) i = nI u)) 0, joiV v a u)
def opSet (v : gV) (w x : Int32) : Int32 × gV := if w = 0 then (if 0 ≤ x ∧ x ≤ 200 then (vA v, setV v x) else (-1000001, v)) else (-1000001, v)
def FrC (b : Nat) (σ τ : gSt) : Prop := ∀ c, c < b ∨ b + 12 ≤ c → τ c = σ c
/-- what a call does to the transcript at b -/
def CMut (b : Nat) (σ : gSt) (o : Option (Int32 × gSt)) (r : Int32 × gV) : Prop := ∃ τ, o = some (r.1, τ) ∧ RC b r.2 τ ∧ FrC b σ τ
theorem CMut_0 {b : Nat} {σ : gSt} {v : gV} {x : Int32} (h : RC b v σ) : CMut b σ (some (x, σ)) (x, v) := ⟨σ, rfl, h, fun _ _ => rfl⟩
theorem spErr_0 {T : Nat → Nat} {x y : Int32} (h : spErr T x y = 0) : ∃ t u, t < 16 ∧ u < 16 ∧ x = nI t ∧ y = nI u ∧ t ≠ u ∧ ¬ ldn T t 16 u = true := by
  unfold spErr at h
  rcases z_ix16 x with ⟨t, ht, rfl, hx⟩ | ⟨hx, -⟩
  · rw [if_pos hx] at h
    rcases z_ix16 y with ⟨u, hu, rfl, hy⟩ | ⟨hy, -⟩
    · rw [if_pos hy] at h
      by_cases e : nI t = nI u
      · rw [if_pos e] at h
        exact absurd h (by decide)
      · rw [if_neg e, nI_clamp (by omega), nI_clamp (by omega)] at h
        by_cases q : ldn T t 16 u = true
        · rw [if_pos q] at h
          exact absurd h (by decide)
        · exact ⟨t, u, ht, hu, rfl, rfl, fun z => e (by rw [z]), q⟩
    · rw [if_neg hy] at h
      exact absurd h (by decide)
  · rw [if_neg hx] at h
    exact absurd h (by decide)
section Cm
variable {fu b : Nat} {σ : gSt} {v : gV}
theorem RC_t {w : gV} {τ : gSt} (h : RC b v σ) (ht : RCt (b + 1) w τ) (hf : FrT (b + 1) σ τ) (e1 : vT w = vT v) (e2 : vS w = vS v) (e3 : vA w = vA v) : RC b w τ := by
  refine ⟨ht, fun t h6 => ?_, fun s h6 => ?_, ?_⟩
  · rw [e1, hf _ (by omega)]
    exact h.2.1 t h6
  · rw [e2, hf _ (by omega)]
    exact h.2.2.1 s h6
  · rw [e3, hf _ (by omega)]
    exact h.2.2.2
theorem FrC_t {τ : gSt} (hf : FrT (b + 1) σ τ) : FrC b σ τ := fun c hc => hf c (by omega)
theorem RC_s (h : RC b v σ) (s : Nat) (x : Int32) : RC b (pitV v (uF (vS v) s x)) (gu σ (b + 10 + 1) (upd (σ (b + 10 + 1)) s x)) := by
  refine ⟨RCt_fr (RCt_eq h.1 rfl (fun i _ => ⟨rfl, rfl, rfl, rfl, rfl, fun j _ => rfl⟩)) (fun c _ _ => gu_n _ _ (by omega)), fun t h6 => ?_, fun r h6 => ?_, ?_⟩
  · rw [gu_n _ _ (by omega)]
    exact h.2.1 t h6
  · rw [gu_s]
    show upd (σ (b + 10 + 1)) s x r = uF (vS v) s x r
    by_cases q : r = s
    · subst q
      rw [up_e, uF_e]
    · rw [up_n _ _ q, uF_n _ _ q]
      exact h.2.2.1 r h6
  · rw [gu_n _ _ (by omega)]
    exact h.2.2.2
theorem RC_c (h : RC b v σ) (t u : Nat) : RC b (tgtV v (uF (vT v) t u)) (gu σ (b + 8 + 1) (upd (σ (b + 8 + 1)) t (en u))) := by
  refine ⟨RCt_fr (RCt_eq h.1 rfl (fun i _ => ⟨rfl, rfl, rfl, rfl, rfl, fun j _ => rfl⟩)) (fun c _ _ => gu_n _ _ (by omega)), fun r h6 => ?_, fun r h6 => ?_, ?_⟩
  · rw [gu_s]
    show upd (σ (b + 8 + 1)) t (en u) r = en (uF (vT v) t u r)
    by_cases q : r = t
    · subst q
      rw [up_e, uF_e]
    · rw [up_n _ _ q, uF_n _ _ q]
      exact h.2.1 r h6
  · rw [gu_n _ _ (by omega)]
    exact h.2.2.1 r h6
  · rw [gu_n _ _ (by omega)]
    exact h.2.2.2
theorem FrC_1 {c : Nat} {f : Nat → Int32} (h1 : b ≤ c) (h2 : c < b + 12) : FrC b σ (gu σ c f) := fun d hd => gu_n _ _ (by omega)
theorem FrC_tr {τ υ : gSt} (h1 : FrC b σ τ) (h2 : FrC b τ υ) : FrC b σ υ := fun c h => (h2 c h).trans (h1 c h)
theorem zs_tune {k s : Nat} (hs : s < 6) (x : Int32) : f_X4_tune fu σ k (nI s) x = some (gu σ (k + 1) (upd (σ (k + 1)) s x)) := by
  unfold f_X4_tune
  rw [z_within, bd_some, if_neg (show ¬ bi (0 ≤ nI s ∧ nI s ≤ 5) = 0 from z_bl (m := 5) (by omega) (by omega)), wrN s rfl hs (by omega), bd_some]
theorem zc_closest (hf : 6 < fu) (h : RC b v σ) (hs : WS v) {p : Nat} (hp : p < 4096) : f_X7_closestSpeaker fu σ b (nI p) = some (clS (vS v) (nI p) (vA v)).1 := by
  unfold f_X7_closestSpeaker
  rw [h.2.2.2, zs_closest (k := b + 10) hf h.2.2.1 hs.2 hp (vA v), bd_some]
theorem cm_turn (hf : 20 < fu) (h : RC b v σ) (hW : WF v) (x e p : Int32) : CMut b σ (f_X7_addTurn fu σ b x e p) (opTurn v x e p) := by
  obtain ⟨hw, hs, -⟩ := hW
  unfold f_X7_addTurn opTurn f_X7_isPitch
  by_cases h1 : x < 0
  · rw [if_pos h1, if_neg (fun q => (z_nle.mpr h1) q.1.1)]
    exact CMut_0 h
  · rw [if_neg h1]
    by_cases h2 : e ≤ x
    · rw [if_pos h2, if_neg (fun q => (z_nlt.mpr h2) q.1.2.1)]
      exact CMut_0 h
    · rw [if_neg h2]
      by_cases h3 : 1999 < e
      · rw [if_pos h3, if_neg (fun q => (z_nle.mpr h3) q.1.2.2)]
        exact CMut_0 h
      · rw [if_neg h3, z_within, bd_some, bi_zb, bd_some]
        rcases z_pitch p with ⟨y, rfl, y1, y2, hp⟩ | hp
        · rw [if_neg (fun z => bi_0.mp z hp), if_pos ⟨⟨z_nlt.mp h1, z_nle.mp h2, z_nlt.mp h3⟩, hp⟩, zt_full h.1 hw, bd_some]
          by_cases q : vn v = 20
          · rw [if_pos q, if_neg (fun z => bi_0.mp z q)]
            exact CMut_0 h
          · rw [if_neg q, if_pos (bi_0.mpr q), zc_closest (by omega) h hs (by omega), bd_some]
            obtain ⟨τ, t0, t1, t2⟩ := zt_insert hf h.1 (by have := hw.1; omega) hw x e (nI y) (clS (vS v) (nI y) (vA v)).1
            rw [t0, b2_some]
            exact ⟨τ, rfl, RC_t h t1 t2 rfl rfl rfl, FrC_t t2⟩
        · rw [if_pos (bi_0.mpr hp), if_neg (fun z => hp z.2)]
          exact CMut_0 h
theorem cm_say (h : RC b v σ) (hW : WF v) (p t : Int32) : CMut b σ (f_X7_addTerm fu σ b p t) (opSay v p t) := by
  obtain ⟨hw, hs, -⟩ := hW
  have h20 := hw.1
  unfold f_X7_addTerm opSay f_X8_isFullOfTerms
  rcases ix_cases (vn v) p (by omega) with ⟨i, hi, rfl, hx⟩ | ⟨hp, hx⟩
  · rw [hx, el_s, zt_has h.1 hw hi, bd_some, if_neg (show ¬ (1 : Int32) = 0 by decide), z_term, bd_some, zt_count h.1 hw hi, bd_some]
    have h8 := (hw.2.2 i hi).1
    rcases z_ix16 t with ⟨u, hu, rfl, ht⟩ | ⟨ht, -⟩
    · rw [if_neg (fun z => bi_0.mp z ht), if_pos ht, nI_clamp (by omega)]
      by_cases q : vC v i = 8
      · rw [if_pos q, if_neg (show ¬ nI (vC v i) < 8 from zo_nlt (n := 8) (by omega) (by omega)), bd_some, if_neg (show ¬ (1 : Int32) = 0 by decide)]
        exact CMut_0 h
      · rw [if_neg q, if_pos (show nI (vC v i) < 8 from zo_lt (n := 8) (by omega) (by omega)), bd_some, if_pos rfl]
        obtain ⟨τ, t0, t1, t2⟩ := zt_append (fu := fu) (t := u) h.1 hw hi (by omega)
        have hw' : WT (sayV v i (vC v i + 1) (uF (vQ v i) (vC v i) u)) := WT_say hw (by omega) (fun j hj => by
          by_cases e : j = vC v i
          · subst e
            rw [uF_e]
            exact hu
          · rw [uF_n _ _ e]
            exact (hw.2.2 i hi).2 j (by omega))
        rw [t0, bd_some, zt_count t1 hw' hi, bd_some, show vC (sayV v i (vC v i + 1) (uF (vQ v i) (vC v i) u)) i = vC v i + 1 from uF_e _ _ _]
        exact ⟨τ, rfl, RC_t h t1 t2 rfl rfl rfl, FrC_t t2⟩
    · rw [if_pos (bi_0.mpr ht), if_neg ht]
      exact CMut_0 h
  · rw [hx, el_n, zt_has_out h.1 hp, bd_some, if_pos rfl]
    exact CMut_0 h
theorem cm_rem (h : RC b v σ) (hW : WF v) (p : Int32) : CMut b σ (f_X7_dropTurn fu σ b p) (opRem v p) := by
  obtain ⟨hw, hs, -⟩ := hW
  have h20 := hw.1
  unfold f_X7_dropTurn opRem f_X8_size
  rcases ix_cases (vn v) p (by omega) with ⟨i, hi, rfl, hx⟩ | ⟨hp, hx⟩
  · obtain ⟨τ, t0, t1, t2⟩ := zt_delete (fu := fu) h.1 hw hi
    rw [hx, el_s, zt_has h.1 hw hi, bd_some, if_neg (show ¬ (1 : Int32) = 0 by decide), t0, bd_some, bd_some, t1.1]
    exact ⟨τ, rfl, RC_t h t1 t2 rfl rfl rfl, FrC_t t2⟩
  · rw [hx, el_n, zt_has_out h.1 hp, bd_some, if_pos rfl]
    exact CMut_0 h
theorem uF_inF {α : Type} (f : Nat → α) {i m : Nat} (x y : α) (h : i < m) : uF (inF f m y) i x = inF (uF f i x) m y := by
  funext j
  by_cases e : j = i
  · subst e
    rw [uF_e, inF_l _ _ h, uF_e]
  · rw [uF_n _ _ e]
    rcases Nat.lt_trichotomy j m with q | q | q
    · rw [inF_l _ _ q, inF_l _ _ q, uF_n _ _ e]
    · subst q
      rw [inF_e, inF_e]
    · rw [inF_g _ _ q, inF_g _ _ q, uF_n _ _ (by omega)]
theorem uF_inE {α : Type} (f : Nat → α) (m : Nat) (x y : α) : uF (inF f m y) m x = inF f m x := by
  funext j
  unfold uF inF
  by_cases e : j = m
  · subst e
    rw [if_pos rfl, if_neg (Nat.lt_irrefl j), if_pos rfl]
  · rw [if_neg e]
    by_cases q : j < m
    · rw [if_pos q, if_pos q]
    · rw [if_neg q, if_neg q, if_neg e, if_neg e]
theorem plV_gt (hw : WT v) (ho : WO v) {i : Nat} (hi : i < vn v) {t : Int32} (ht : vB v i < t) : i < plV v t := by
  have hp := plV_le v t
  rcases Nat.lt_or_ge i (plV v t) with q | q
  · exact q
  · exfalso
    have h1 := plF_hi (vB v) t (vn v) 0 (by show plV v t < 0 + vn v; omega)
    have h2 : t < vB v (plV v t) := h1
    have h3 : vB v (plV v t) ≤ vB v i := by
      rcases Nat.lt_or_ge (plV v t) i with z | z
      · exact ho _ _ z hi
      · rw [show plV v t = i by omega]
        rw [z_lei]
        omega
    rw [z_lti] at h2 ht
    rw [z_lei] at h3
    omega
theorem z_btw {a b : Nat} {t : Int32} (ha : a < 4096) (hb : b < 4096) (h1 : nI a < t) (h2 : t < nI b) : ∃ c, t = nI c ∧ a < c ∧ c < b := by
  rw [z_lti, nI_toInt (by omega)] at h1 h2
  refine ⟨t.toInt.toNat, ?_, by omega, by omega⟩
  apply Int32.toInt_inj.mp
  rw [nI_toInt (by omega)]
  omega
theorem WT_ins (hw : WT v) (hn : vn v < 20) {p : Nat} (hp : p ≤ vn v) {x e pi o : Int32} {c : Nat} {q : Nat → Nat} (ht : ∃ b e' p' : Nat, x = nI b ∧ e = nI e' ∧ pi = nI p' ∧ b < e' ∧ e' ≤ 1999 ∧ 50 ≤ p' ∧ p' ≤ 500) (hc : c ≤ 8) (hq : ∀ j, j < c → q j < 16) : WT (insV v p x e pi o c q) := by
  refine ⟨show vn v + 1 ≤ 20 by omega, fun i hi => ?_, fun i hi => ?_⟩
  · have hi' : i < vn v + 1 := hi
    show ∃ b e' p' : Nat, inF (vB v) p x i = nI b ∧ inF (vE v) p e i = nI e' ∧ inF (vP v) p pi i = nI p' ∧ b < e' ∧ e' ≤ 1999 ∧ 50 ≤ p' ∧ p' ≤ 500
    rcases Nat.lt_trichotomy i p with z | z | z
    · rw [inF_l _ _ z, inF_l _ _ z, inF_l _ _ z]
      exact hw.2.1 i (by omega)
    · subst z
      rw [inF_e, inF_e, inF_e]
      exact ht
    · rw [inF_g _ _ z, inF_g _ _ z, inF_g _ _ z]
      exact hw.2.1 (i - 1) (by omega)
  · have hi' : i < vn v + 1 := hi
    show inF (vC v) p c i ≤ 8 ∧ ∀ j, j < inF (vC v) p c i → inF (vQ v) p q i j < 16
    rcases Nat.lt_trichotomy i p with z | z | z
    · rw [inF_l _ _ z, inF_l _ _ z]
      exact hw.2.2 i (by omega)
    · subst z
      rw [inF_e, inF_e]
      exact ⟨hc, hq⟩
    · rw [inF_g _ _ z, inF_g _ _ z]
      exact hw.2.2 (i - 1) (by omega)
theorem cm_part (hf : 20 < fu) (h : RC b v σ) (hW : WF v) (p t x : Int32) : CMut b σ (f_X7_partTurn fu σ b p t x) (opPart v p t x) := by
  obtain ⟨hw, hs, ho, -⟩ := hW
  have h20 := hw.1
  unfold f_X7_partTurn opPart
  rcases ix_cases (vn v) p (by omega) with ⟨i, hi, rfl, hx⟩ | ⟨hp, hx⟩
  · have h8 := (hw.2.2 i hi).1
    rw [hx, el_s, zt_has h.1 hw hi, bd_some, if_neg (show ¬ (1 : Int32) = 0 by decide), zt_begin h.1 hw hi, bd_some, zt_end h.1 hw hi, bd_some, zt_count h.1 hw hi, bd_some, bd_some, zt_pitch h.1 hw hi, bd_some, zt_owner h.1 hw hi, bd_some, z_within, bd_some]
    by_cases h1 : t ≤ vB v i
    · rw [if_pos h1, if_neg (fun q => (z_nlt.mpr h1) q.1.1)]
      exact CMut_0 h
    · rw [if_neg h1]
      by_cases h2 : vE v i ≤ t
      · rw [if_pos h2, if_neg (fun q => (z_nlt.mpr h2) q.1.2)]
        exact CMut_0 h
      · rw [if_neg h2]
        by_cases h3 : 0 ≤ x ∧ x ≤ nI (vC v i)
        · rw [if_neg (fun z => bi_0.mp z h3), if_pos ⟨⟨z_nle.mp h1, z_nle.mp h2⟩, h3⟩, zt_full h.1 hw, bd_some]
          by_cases q : vn v = 20
          · rw [if_pos q, if_neg (fun z => bi_0.mp z q)]
            exact CMut_0 h
          · obtain ⟨y, hy, rfl⟩ : ∃ y, y ≤ vC v i ∧ x = nI y := by
              rcases z_ix x (n := vC v i + 1) (by omega) with ⟨y, y1, y2⟩ | hx
              · exact ⟨y, by omega, y2⟩
              · exfalso
                obtain ⟨a1, a2⟩ := h3
                rcases hx with z | z
                · exact (z_nle.mpr z) a1
                · rw [z_lei] at a2 z
                  rw [nI_toInt (by omega)] at a2 z
                  omega
            rw [if_neg q, if_pos (bi_0.mpr q), nI_clamp (by omega)]
            obtain ⟨τ, t0, t1, t2⟩ := zt_insert hf h.1 (by omega) hw t (vE v i) (vP v i) (vO v i)
            rw [t0, b2_some]
            have hm : i < plV v t := plV_gt hw ho hi (z_nle.mp h1)
            have hmn := plV_le v t
            have hw1 : WT (insV v (plV v t) t (vE v i) (vP v i) (vO v i) 0 (fun _ => 0)) := by
              obtain ⟨b1, b2, b3, b4⟩ := wt_nat hw hi
              obtain ⟨p1, p2, p3⟩ := wt_np hw hi
              have g1 := z_nle.mp h1
              have g2 := z_nle.mp h2
              rw [b1] at g1
              rw [b2] at g2
              obtain ⟨c, rfl, c1, c2⟩ := z_btw (by omega) (by omega) g1 g2
              exact WT_ins hw (by omega) hmn ⟨c, ne v i, np v i, rfl, b2, p1, c2, b4, p2, p3⟩ (by omega) (fun j hj => absurd hj (Nat.not_lt_zero j))
            have eC : vC (insV v (plV v t) t (vE v i) (vP v i) (vO v i) 0 (fun _ => 0)) i = vC v i := inF_l _ _ hm
            have eQ : vQ (insV v (plV v t) t (vE v i) (vP v i) (vO v i) 0 (fun _ => 0)) i = vQ v i := inF_l _ _ hm
            obtain ⟨υ, u0, u1, u2⟩ := zt_pass hf t1 hw1 (i := i) (m := plV v t) (x := y) (show i < vn v + 1 by omega) (show plV v t < vn v + 1 by omega) (by omega) (by rw [eC]; exact hy) (inF_e _ _ _)
            rw [u0, bd_some]
            have hw2 : WT (sayV (sayV (insV v (plV v t) t (vE v i) (vP v i) (vO v i) 0 (fun _ => 0)) (plV v t) (vC (insV v (plV v t) t (vE v i) (vP v i) (vO v i) 0 (fun _ => 0)) i - y) (fun j => vQ (insV v (plV v t) t (vE v i) (vP v i) (vO v i) 0 (fun _ => 0)) i (y + j))) i y (vQ (insV v (plV v t) t (vE v i) (vP v i) (vO v i) 0 (fun _ => 0)) i)) := by
              rw [eC, eQ]
              exact WT_say (WT_say hw1 (by omega) (fun j hj => (hw.2.2 i hi).2 _ (by omega))) (by omega) (fun j hj => (hw.2.2 i hi).2 _ (by omega))
            obtain ⟨φ, f0, f1, f2⟩ := zt_endAt (fu := fu) u1 hw2 (i := i) (show i < vn v + 1 by omega) t
            rw [f0, bd_some]
            have ev : endV (sayV (sayV (insV v (plV v t) t (vE v i) (vP v i) (vO v i) 0 (fun _ => 0)) (plV v t) (vC (insV v (plV v t) t (vE v i) (vP v i) (vO v i) 0 (fun _ => 0)) i - y) (fun j => vQ (insV v (plV v t) t (vE v i) (vP v i) (vO v i) 0 (fun _ => 0)) i (y + j))) i y (vQ (insV v (plV v t) t (vE v i) (vP v i) (vO v i) 0 (fun _ => 0)) i)) i t = cutV v i t y := by
              rw [eC, eQ]
              show (vn v + 1, inF (vB v) (plV v t) t, uF (inF (vE v) (plV v t) (vE v i)) i t, inF (vP v) (plV v t) (vP v i), inF (vO v) (plV v t) (vO v i), uF (uF (inF (vC v) (plV v t) 0) (plV v t) (vC v i - y)) i y, uF (uF (inF (vQ v) (plV v t) (fun _ => 0)) (plV v t) (fun j => vQ v i (y + j))) i (vQ v i), vT v, vS v, vA v) = (vn v + 1, inF (vB v) (plV v t) t, inF (uF (vE v) i t) (plV v t) (vE v i), inF (vP v) (plV v t) (vP v i), inF (vO v) (plV v t) (vO v i), inF (uF (vC v) i y) (plV v t) (vC v i - y), inF (uF (vQ v) i (vQ v i)) (plV v t) (fun j => vQ v i (y + j)), vT v, vS v, vA v)
              rw [uF_inE, uF_inE, uF_inF _ _ _ hm, uF_inF _ _ _ hm, uF_inF _ _ _ hm]
            rw [ev] at f1
            have hfr : FrT (b + 1) σ φ := FrT_t (FrT_t t2 u2) f2
            exact ⟨φ, rfl, RC_t h f1 hfr rfl rfl rfl, FrC_t hfr⟩
        · rw [if_pos (bi_0.mpr h3), if_neg (fun z => h3 z.2)]
          exact CMut_0 h
  · rw [hx, el_n, zt_has_out h.1 hp, bd_some, if_pos rfl]
    exact CMut_0 h
theorem cm_cor (hf : 20 < fu) (h : RC b v σ) (hW : WF v) (x y : Int32) : CMut b σ (f_X7_addCorrection fu σ b x y) (opCor v x y) := by
  obtain ⟨hw, hs, ho, hT, hA, -⟩ := hW
  unfold f_X7_addCorrection opCor f_X0_put
  rw [zc_error (k := b + 8) (by omega) h.2.1 hT, bd_some]
  by_cases e : spErr (vT v) x y = 0
  · obtain ⟨t, u, ht, hu, rfl, rfl, htu, -⟩ := spErr_0 e
    rw [if_pos e, if_pos e, zc_shown (k := b + 8) (by omega) h.2.1 hT hu, bd_some, zc_reshown hf h hw hT ht (sh_lt hT hu), bd_some, z_term, bd_some, if_neg (show ¬ bi (0 ≤ nI t ∧ nI t ≤ 15) = 0 from z_bl (m := 15) (by omega) (by omega)), wrN t rfl (by omega) (by omega), bd_some, bd_some, nI_clamp (by omega), nI_clamp (by omega)]
    exact ⟨_, rfl, RC_c h t (u + 1), FrC_1 (by omega) (by omega)⟩
  · rw [if_neg e, if_neg e]
    exact CMut_0 h
theorem cm_unc (hf : 20 < fu) (h : RC b v σ) (hW : WF v) (x : Int32) : CMut b σ (f_X7_dropCorrection fu σ b x) (opUnc v x) := by
  obtain ⟨hw, hs, ho, hT, hA, -⟩ := hW
  unfold f_X7_dropCorrection opUnc f_X0_put
  rw [z_term, bd_some]
  rcases z_ix16 x with ⟨t, ht, rfl, hx⟩ | ⟨hx, -⟩
  · rw [if_neg (fun z => bi_0.mp z hx), if_pos hx, zc_isCorrected (k := b + 8) h.2.1 hT ht, bd_some, nI_clamp (by omega)]
    by_cases q : vT v t = 0
    · rw [if_pos q, if_pos (bi_0.mpr (fun z => z q))]
      exact CMut_0 h
    · rw [if_neg q, if_neg (fun z => bi_0.mp z q), zc_reshown hf h hw hT ht ht, bd_some, bd_some, if_neg (fun z => bi_0.mp z hx), wrN t rfl (by omega) (by omega), bd_some, bd_some]
      exact ⟨_, rfl, RC_c h t 0, FrC_1 (by omega) (by omega)⟩
  · rw [if_pos (bi_0.mpr hx), if_neg hx]
    exact CMut_0 h
theorem cm_spk (hf : 6 < fu) (h : RC b v σ) (p : Int32) : CMut b σ (f_X7_addSpeaker fu σ b p) (opSpk v p) := by
  have h6 := (frS_le (vS v) 6 0).2
  unfold f_X7_addSpeaker opSpk f_X7_isPitch
  rw [z_within, bd_some, bi_zb, bd_some]
  by_cases hp : 50 ≤ p ∧ p ≤ 500
  · rw [if_neg (fun z => bi_0.mp z hp), if_pos hp, zs_lowest (k := b + 10) hf h.2.2.1, bd_some]
    by_cases q : frS (vS v) 0 6 = 6
    · rw [if_pos q, if_pos rfl, if_pos q]
      exact CMut_0 h
    · rw [if_neg q, if_neg (z_m1 _ (by omega)), if_neg q, zs_tune (by omega), bd_some]
      exact ⟨_, rfl, RC_s h _ p, FrC_1 (by omega) (by omega)⟩
  · rw [if_pos (bi_0.mpr hp), if_neg hp]
    exact CMut_0 h
theorem WT_own (hw : WT v) (f : Nat → Int32) : WT (ownV v f) := hw
theorem cm_giv (hf : 20 < fu) (h : RC b v σ) (hW : WF v) (p s : Int32) : CMut b σ (f_X7_giveTurn fu σ b p s) (opGiv v p s) := by
  obtain ⟨hw, hs, -⟩ := hW
  have h20 := hw.1
  unfold f_X7_giveTurn opGiv
  rcases ix_cases (vn v) p (by omega) with ⟨i, hi, rfl, hx⟩ | ⟨hp, hx⟩
  · rw [hx, el_s, zt_has h.1 hw hi, bd_some, if_neg (show ¬ (1 : Int32) = 0 by decide), zs_hasx (k := b + 10) h.2.2.1, bd_some, zt_owner h.1 hw hi, bd_some]
    rcases vx_cases (vS v) s with ⟨a, h6, rfl, h0, hv⟩ | ⟨hv, -⟩
    · rw [hv, el_s, if_neg (show ¬ bi ((some a).isSome = true) = 0 from fun q => bi_0.mp q rfl)]
      by_cases q : vO v i = nI a
      · rw [if_pos q, if_pos q]
        exact CMut_0 h
      · rw [if_neg q, if_neg q]
        obtain ⟨τ, t0, t1, t2⟩ := zt_own (fu := fu) h.1 hw hi (nI a)
        have h1 : RC b (ownV v (uF (vO v) i (nI a))) τ := RC_t h t1 t2 rfl rfl rfl
        rw [t0, bd_some, zs_pitch (k := b + 10) h1.2.2.1 h6, bd_some, zt_mean hf t1 hw, bd_some, zs_tune h6, bd_some]
        exact ⟨_, rfl, RC_s h1 a _, FrC_tr (FrC_t t2) (FrC_1 (by omega) (by omega))⟩
    · rw [hv, el_n, if_pos (by decide)]
      exact CMut_0 h
  · rw [hx, el_n, zt_has_out h.1 hp, bd_some, if_pos rfl]
    exact CMut_0 h
theorem cm_joi (hf : 20 < fu) (h : RC b v σ) (hW : WF v) (s o : Int32) : CMut b σ (f_X7_joinSpeakers fu σ b s o) (opJoi v s o) := by
  obtain ⟨hw, hs, -⟩ := hW
  have h20 := hw.1
  unfold f_X7_joinSpeakers opJoi f_X4_free
  rw [zs_hasx (k := b + 10) h.2.2.1, bd_some, zs_hasx (k := b + 10) h.2.2.1, bd_some]
  rcases vx_cases (vS v) s with ⟨a, a6, rfl, a0, hv⟩ | ⟨hv, -⟩
  · rw [hv, el_s, if_neg (show ¬ bi ((some a).isSome = true) = 0 from fun q => bi_0.mp q rfl)]
    rcases vx_cases (vS v) o with ⟨u, u6, rfl, u0, hu⟩ | ⟨hu, -⟩
    · rw [hu, el_s, if_neg (show ¬ bi ((some u).isSome = true) = 0 from fun q => bi_0.mp q rfl)]
      by_cases q : nI a = nI u
      · rw [if_pos q, if_pos q]
        exact CMut_0 h
      · have hau : u ≠ a := fun z => q (by rw [z])
        rw [if_neg q, if_neg q]
        obtain ⟨τ, t0, t1, t2⟩ := zt_passTurns (fu := fu) hf h.1 hw (nI a) (nI u)
        have h1 : RC b (toV v a u) τ := RC_t h t1 t2 rfl rfl rfl
        rw [t0, bd_some, zs_tune a6, bd_some, bd_some]
        have h2 := RC_s h1 a 0
        rw [zs_pitch (k := b + 10) h2.2.2.1 u6, bd_some, show vS (pitV (toV v a u) (uF (vS (toV v a u)) a 0)) u = vS v u from uF_n _ _ hau, zt_mean hf h2.1 hw, bd_some, zs_tune u6, bd_some]
        have h3 := RC_s h2 u (mnV (pitV (toV v a u) (uF (vS (toV v a u)) a 0)) (nI u) (vS v u))
        rw [zt_turnsOf hf h3.1 hw, bd_some]
        exact ⟨_, rfl, h3, FrC_tr (FrC_t t2) (FrC_tr (FrC_1 (by omega) (by omega)) (FrC_1 (by omega) (by omega)))⟩
    · rw [hu, el_n, if_pos (by decide)]
      exact CMut_0 h
  · rw [hv, el_n, if_pos (by decide)]
    exact CMut_0 h
theorem cm_set (h : RC b v σ) (w x : Int32) : CMut b σ (f_X7_changeSetting fu σ b w x) (opSet v w x) := by
  unfold f_X7_changeSetting opSet
  by_cases hw : w = 0
  · rw [if_pos hw, if_pos hw, z_within, bd_some]
    by_cases hx : 0 ≤ x ∧ x ≤ 200
    · rw [if_neg (fun z => bi_0.mp z hx), if_pos hx, lt_eq, h.2.2.2]
      refine ⟨_, rfl, ⟨RCt_fr (RCt_eq h.1 rfl (fun i _ => ⟨rfl, rfl, rfl, rfl, rfl, fun j _ => rfl⟩)) (fun c _ _ => gu_n _ _ (by omega)), fun r h6 => ?_, fun r h6 => ?_, ?_⟩, FrC_1 (by omega) (by omega)⟩
      · rw [gu_n _ _ (by omega)]
        exact h.2.1 r h6
      · rw [gu_n _ _ (by omega)]
        exact h.2.2.1 r h6
      · rw [gu_s, up_e]
        rfl
    · rw [if_pos (bi_0.mpr hx), if_neg hx]
      exact CMut_0 h
  · rw [if_neg hw, if_neg hw]
    exact CMut_0 h
end Cm
