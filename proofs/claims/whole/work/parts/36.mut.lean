/-! ===== changes of a transcript: what they do ===== -/
def uF {α : Type} (f : Nat → α) (i : Nat) (x : α) : Nat → α := fun j => if j = i then x else f j
def inF {α : Type} (f : Nat → α) (p : Nat) (x : α) : Nat → α := fun j => if j < p then f j else if j = p then x else f (j - 1)
def deF {α : Type} (f : Nat → α) (p : Nat) : Nat → α := fun j => if j < p then f j else f (j + 1)
theorem uF_e {α : Type} (f : Nat → α) (i : Nat) (x : α) : uF f i x i = x := if_pos rfl
theorem uF_n {α : Type} (f : Nat → α) {i j : Nat} (x : α) (h : j ≠ i) : uF f i x j = f j := if_neg h
theorem inF_l {α : Type} (f : Nat → α) {p j : Nat} (x : α) (h : j < p) : inF f p x j = f j := if_pos h
theorem inF_e {α : Type} (f : Nat → α) (p : Nat) (x : α) : inF f p x p = x := by
  unfold inF
  rw [if_neg (Nat.lt_irrefl p), if_pos rfl]
theorem inF_g {α : Type} (f : Nat → α) {p j : Nat} (x : α) (h : p < j) : inF f p x j = f (j - 1) := by
  unfold inF
  rw [if_neg (by omega), if_neg (by omega)]
theorem deF_l {α : Type} (f : Nat → α) {p j : Nat} (h : j < p) : deF f p j = f j := if_pos h
theorem deF_g {α : Type} (f : Nat → α) {p j : Nat} (h : p ≤ j) : deF f p j = f (j + 1) := if_neg (by omega)
theorem up_e (f : Nat → Int32) (i : Nat) (x : Int32) : upd f i x i = x := if_pos rfl
theorem up_n (f : Nat → Int32) {i j : Nat} (x : Int32) (h : j ≠ i) : upd f i x j = f j := if_neg h
theorem cp_i (f g : Nat → Int32) {a b c i : Nat} (h1 : b ≤ i) (h2 : i < b + c) : va_cpy f g a b c i = f (a + (i - b)) := if_pos ⟨h1, h2⟩
theorem cp_o (f g : Nat → Int32) {a b c i : Nat} (h : i < b ∨ b + c ≤ i) : va_cpy f g a b c i = g i := if_neg (by omega)
/-- the place for a turn that begins at x -/
def plF (B : Nat → Int32) (x : Int32) : Nat → Nat → Nat
  | i, 0 => i
  | i, c + 1 => if x < B i then i else plF B x (i + 1) c
def plV (v : gV) (x : Int32) : Nat := plF (vB v) x 0 (vn v)
theorem plF_b (B : Nat → Int32) (x : Int32) : ∀ (c i : Nat), i ≤ plF B x i c ∧ plF B x i c ≤ i + c
  | 0, _ => ⟨Nat.le_refl _, Nat.le_refl _⟩
  | c + 1, i => by
    unfold plF
    have h := plF_b B x c (i + 1)
    split <;> omega
theorem plF_lo (B : Nat → Int32) (x : Int32) : ∀ (c i j : Nat), i ≤ j → j < plF B x i c → ¬ x < B j
  | 0, i, j, h1, h2 => absurd h2 (by unfold plF; omega)
  | c + 1, i, j, h1, h2 => by
    unfold plF at h2
    by_cases q : x < B i
    · rw [if_pos q] at h2
      omega
    · rw [if_neg q] at h2
      by_cases e : j = i
      · rw [e]
        exact q
      · exact plF_lo B x c (i + 1) j (by omega) h2
theorem plF_hi (B : Nat → Int32) (x : Int32) : ∀ (c i : Nat), plF B x i c < i + c → x < B (plF B x i c)
  | 0, i, h => absurd h (by unfold plF; omega)
  | c + 1, i, h => by
    unfold plF at h ⊢
    by_cases q : x < B i
    · rw [if_pos q]
      exact q
    · rw [if_neg q] at h ⊢
      exact plF_hi B x c (i + 1) (by omega)
theorem plV_le (v : gV) (x : Int32) : plV v x ≤ vn v := by
  have := (plF_b (vB v) x (vn v) 0).2
  unfold plV
  omega
def insV (v : gV) (p : Nat) (b e pi o : Int32) (c : Nat) (q : Nat → Nat) : gV := (vn v + 1, inF (vB v) p b, inF (vE v) p e, inF (vP v) p pi, inF (vO v) p o, inF (vC v) p c, inF (vQ v) p q, vT v, vS v, vA v)
def delV (v : gV) (p : Nat) : gV := (vn v - 1, deF (vB v) p, deF (vE v) p, deF (vP v) p, deF (vO v) p, deF (vC v) p, deF (vQ v) p, vT v, vS v, vA v)
def sayV (v : gV) (i : Nat) (c : Nat) (q : Nat → Nat) : gV := (vn v, vB v, vE v, vP v, vO v, uF (vC v) i c, uF (vQ v) i q, vT v, vS v, vA v)
def endV (v : gV) (i : Nat) (e : Int32) : gV := (vn v, vB v, uF (vE v) i e, vP v, vO v, vC v, vQ v, vT v, vS v, vA v)
def ownV (v : gV) (f : Nat → Int32) : gV := (vn v, vB v, vE v, vP v, f, vC v, vQ v, vT v, vS v, vA v)
def tgtV (v : gV) (T : Nat → Nat) : gV := (vn v, vB v, vE v, vP v, vO v, vC v, vQ v, T, vS v, vA v)
def pitV (v : gV) (S : Nat → Int32) : gV := (vn v, vB v, vE v, vP v, vO v, vC v, vQ v, vT v, S, vA v)
def setV (v : gV) (a : Int32) : gV := (vn v, vB v, vE v, vP v, vO v, vC v, vQ v, vT v, vS v, a)
/-- nothing but the turns changes -/
def FrT (k : Nat) (σ τ : gSt) : Prop := ∀ c, c < k ∨ k + 7 ≤ c → τ c = σ c
theorem FrT_0 (k : Nat) (σ : gSt) : FrT k σ σ := fun _ _ => rfl
theorem FrT_t {k : Nat} {σ τ υ : gSt} (h1 : FrT k σ τ) (h2 : FrT k τ υ) : FrT k σ υ := fun c h => (h2 c h).trans (h1 c h)
section Mut
variable {fu k : Nat} {σ : gSt} {v : gV}
theorem zt_place_W (h : RCt k v σ) (hn : vn v < 20) (x : Int32) : ∀ (n i : Nat), i ≤ vn v → vn v - i < n → f_X8_placeFor_W2 fu σ k x n (nI i) = some (nI (plF (vB v) x i (vn v - i)))
  | 0, _, _, q => absurd q (by omega)
  | n + 1, i, hi, hn' => by
    rw [f_X8_placeFor_W2_s]
    unfold f_X8_placeFor_L2
    rw [h.1]
    rcases Nat.lt_or_ge i (vn v) with q | q
    · rw [if_neg (zl_le q (by omega)), if_neg (zo_le (n := 19) (by omega) (by omega)), rdN i rfl (by omega) (by omega), bd_some, (h.2 i q).1, show vn v - i = (vn v - (i + 1)) + 1 by omega]
      unfold plF
      by_cases e : x < vB v i
      · rw [if_pos e, if_pos e]
      · rw [if_neg e, if_neg e, z_add1]
        exact zt_place_W h hn x n (i + 1) (by omega) (by omega)
    · have e : i = vn v := by omega
      subst e
      rw [if_pos (zl_ge (Nat.le_refl _) (by omega)), Nat.sub_self]
      rfl
theorem zt_place (hf : 20 < fu) (h : RCt k v σ) (hn : vn v < 20) (x : Int32) : f_X8_placeFor fu σ k x = some (nI (plV v x)) :=
  zt_place_W h hn x fu 0 (Nat.zero_le _) (by omega)
theorem z_8 (a : Nat) : nI a * 8 = nI (8 * a) := by rw [Nat.mul_comm]; exact (Int32.ofNat_mul a 8).symm
theorem zt_move {a b c : Nat} (h6 : σ k 6 = nI (a + c)) (ha : a + c ≤ 20) (hb : b + c ≤ 20) : ∃ σ', f_X8_moveRows fu σ k (nI a) (nI b) = some σ' ∧ σ' k = σ k ∧ σ' (k + 1) = va_cpy (σ (k + 1)) (σ (k + 1)) a b c ∧ σ' (k + 2) = va_cpy (σ (k + 2)) (σ (k + 2)) a b c ∧ σ' (k + 3) = va_cpy (σ (k + 3)) (σ (k + 3)) a b c ∧ σ' (k + 4) = va_cpy (σ (k + 4)) (σ (k + 4)) a b c ∧ σ' (k + 5) = va_cpy (σ (k + 5)) (σ (k + 5)) a b c ∧ σ' (k + 6) = va_cpy (σ (k + 6)) (σ (k + 6)) (8 * a) (8 * b) (8 * c) ∧ FrT k σ σ' := by
  unfold f_X8_moveRows
  have e : nI (a + c) - nI a = nI c := by rw [z_sub (by omega)]; congr 1; omega
  have e2 : nI a + nI c = nI (a + c) := by rw [nI_add]
  have e3 : nI b + nI c = nI (b + c) := by rw [nI_add]
  rw [if_neg (z_neg (by omega)), if_neg (z_neg (by omega)), h6, e, if_neg (z_neg (by omega)), e2, if_neg (show ¬ (20 : Int32) < nI (a + c) from zl_nlt (i := 20) ha (by omega)), e3, if_pos (show nI (b + c) ≤ 20 from (z_le (b := 20) (by omega) (by omega)).mpr hb), z_8, z_8, z_8]
  rw [cpyN a b c rfl rfl rfl ha hb (by omega) (by omega), bd_some, cpyN a b c rfl rfl rfl ha hb (by omega) (by omega), bd_some, cpyN a b c rfl rfl rfl ha hb (by omega) (by omega), bd_some, cpyN a b c rfl rfl rfl ha hb (by omega) (by omega), bd_some, cpyN a b c rfl rfl rfl ha hb (by omega) (by omega), bd_some, cpyN (8 * a) (8 * b) (8 * c) rfl rfl rfl (by omega) (by omega) (by omega) (by omega), bd_some]
  refine ⟨_, rfl, ?_, ?_, ?_, ?_, ?_, ?_, ?_, ?_⟩
  · simp (disch := omega) only [gu_n]
  · simp (disch := omega) only [gu_n, gu_s]
  · simp (disch := omega) only [gu_n, gu_s]
  · simp (disch := omega) only [gu_n, gu_s]
  · simp (disch := omega) only [gu_n, gu_s]
  · simp (disch := omega) only [gu_n, gu_s]
  · simp (disch := omega) only [gu_n, gu_s]
  · intro d hd
    simp (disch := omega) only [gu_n]
theorem row_in {f g : Nat → Int32} {n p : Nat} (x : Int32) (hp : p ≤ n) (h : ∀ i, i < n → f i = g i) {i : Nat} (hi : i < n + 1) : upd (va_cpy f f p (p + 1) (n - p)) p x i = inF g p x i := by
  rcases Nat.lt_trichotomy i p with q | q | q
  · rw [up_n _ _ (by omega), cp_o _ _ (by omega), inF_l _ _ q, h i (by omega)]
  · subst q
    rw [up_e, inF_e]
  · rw [up_n _ _ (by omega), cp_i _ _ (by omega) (by omega), inF_g _ _ q, show p + (i - (p + 1)) = i - 1 by omega, h _ (by omega)]
theorem row_de {f g : Nat → Int32} {n p : Nat} (hp : p < n) (h : ∀ i, i < n → f i = g i) {i : Nat} (hi : i < n - 1) : va_cpy f f (p + 1) p (n - (p + 1)) i = deF g p i := by
  rcases Nat.lt_or_ge i p with q | q
  · rw [cp_o _ _ (by omega), deF_l _ q, h i (by omega)]
  · rw [cp_i _ _ (by omega) (by omega), deF_g _ q, show p + 1 + (i - p) = i + 1 by omega, h _ (by omega)]
theorem zt_insert (hf : 20 < fu) (h : RCt k v σ) (hn : vn v < 20) (hw : WT v) (x e p o : Int32) : ∃ σ', f_X8_insert fu σ k x e p o = some (nI (plV v x), σ') ∧ RCt k (insV v (plV v x) x e p o 0 (fun _ => 0)) σ' ∧ FrT k σ σ' := by
  have hp := plV_le v x
  unfold f_X8_insert
  rw [zt_full h hw, bd_some, if_pos (bi_0.mpr (by omega)), zt_place hf h hn, bd_some, z_add1]
  obtain ⟨τ, t0, tk, t1, t2, t3, t4, t5, t6, tf⟩ := zt_move (fu := fu) (σ := σ) (k := k) (a := plV v x) (b := plV v x + 1) (c := vn v - plV v x) (h.1.trans (by congr 1; omega)) (by omega) (by omega)
  rw [t0, bd_some, lt_eq]
  generalize plV v x = m at *
  rw [wrN m rfl (by omega) (by omega), bd_some, wrN m rfl (by omega) (by omega), bd_some, wrN m rfl (by omega) (by omega), bd_some, wrN m rfl (by omega) (by omega), bd_some, wrN m rfl (by omega) (by omega), bd_some]
  refine ⟨_, rfl, ⟨?_, fun i hi => ?_⟩, ?_⟩
  · simp (disch := omega) only [gu_n, gu_s, up_e]
    rw [tk, h.1, z_add1]
    rfl
  · have hi' : i < vn v + 1 := hi
    simp (disch := omega) only [gu_n, gu_s, t1, t2, t3, t4, t5, t6]
    refine ⟨row_in _ hp (fun i q => (h.2 i q).1) hi', row_in _ hp (fun i q => (h.2 i q).2.1) hi', row_in _ hp (fun i q => (h.2 i q).2.2.1) hi', row_in _ hp (fun i q => (h.2 i q).2.2.2.1) hi', ?_, ?_⟩
    · rw [row_in (g := fun i => nI (vC v i)) _ hp (fun i q => (h.2 i q).2.2.2.2.1) hi']
      show inF (fun i => nI (vC v i)) m (nI 0) i = nI (inF (vC v) m 0 i)
      unfold inF
      split
      · rfl
      · split <;> rfl
    · intro j hj
      have hj' : j < inF (vC v) m 0 i := hj
      show va_cpy (σ (k + 6)) (σ (k + 6)) (8 * m) (8 * (m + 1)) (8 * (vn v - m)) (8 * i + j) = nI (inF (vQ v) m (fun _ => 0) i j)
      rcases Nat.lt_trichotomy i m with q | q | q
      · rw [inF_l _ _ q] at hj' ⊢
        have h8 := (hw.2.2 i (by omega)).1
        rw [cp_o _ _ (by omega), (h.2 i (by omega)).2.2.2.2.2 j hj']
      · subst q
        rw [inF_e] at hj'
        exact absurd hj' (Nat.not_lt_zero j)
      · rw [inF_g _ _ q] at hj' ⊢
        have h8 := (hw.2.2 (i - 1) (by omega)).1
        rw [cp_i _ _ (by omega) (by omega), show 8 * m + (8 * i + j - 8 * (m + 1)) = 8 * (i - 1) + j by omega, (h.2 (i - 1) (by omega)).2.2.2.2.2 j hj']
  · intro c hc
    simp (disch := omega) only [gu_n]
    exact tf c hc
theorem zt_delete (h : RCt k v σ) (hw : WT v) {p : Nat} (hp : p < vn v) : ∃ σ', f_X8_delete fu σ k (nI p) = some σ' ∧ RCt k (delV v p) σ' ∧ FrT k σ σ' := by
  have h20 := hw.1
  unfold f_X8_delete
  rw [zt_has h hw hp, bd_some, if_neg (show ¬ (1 : Int32) = 0 by decide), z_add1]
  obtain ⟨τ, t0, tk, t1, t2, t3, t4, t5, t6, tf⟩ := zt_move (fu := fu) (σ := σ) (k := k) (a := p + 1) (b := p) (c := vn v - (p + 1)) (h.1.trans (by congr 1; omega)) (by omega) (by omega)
  rw [t0, bd_some, lt_eq]
  refine ⟨_, rfl, ⟨?_, fun i hi => ?_⟩, ?_⟩
  · rw [gu_s, up_e, tk, h.1]
    exact z_sub (b := 1) (by omega)
  · have hi' : i < vn v - 1 := hi
    simp (disch := omega) only [gu_n, t1, t2, t3, t4, t5, t6]
    refine ⟨row_de hp (fun i q => (h.2 i q).1) hi', row_de hp (fun i q => (h.2 i q).2.1) hi', row_de hp (fun i q => (h.2 i q).2.2.1) hi', row_de hp (fun i q => (h.2 i q).2.2.2.1) hi', ?_, ?_⟩
    · rw [row_de (g := fun i => nI (vC v i)) hp (fun i q => (h.2 i q).2.2.2.2.1) hi']
      show deF (fun i => nI (vC v i)) p i = nI (deF (vC v) p i)
      unfold deF
      split <;> rfl
    · intro j hj
      have hj' : j < deF (vC v) p i := hj
      show va_cpy (σ (k + 6)) (σ (k + 6)) (8 * (p + 1)) (8 * p) (8 * (vn v - (p + 1))) (8 * i + j) = nI (deF (vQ v) p i j)
      rcases Nat.lt_or_ge i p with q | q
      · rw [deF_l _ q] at hj' ⊢
        have h8 := (hw.2.2 i (by omega)).1
        rw [cp_o _ _ (by omega), (h.2 i (by omega)).2.2.2.2.2 j hj']
      · rw [deF_g _ q] at hj' ⊢
        have h8 := (hw.2.2 (i + 1) (by omega)).1
        rw [cp_i _ _ (by omega) (by omega), show 8 * (p + 1) + (8 * i + j - 8 * p) = 8 * (i + 1) + j by omega, (h.2 (i + 1) (by omega)).2.2.2.2.2 j hj']
  · intro c hc
    rw [gu_n _ _ (by omega)]
    exact tf c hc
theorem zt_append (h : RCt k v σ) (hw : WT v) {i t : Nat} (hi : i < vn v) (hc : vC v i < 8) : ∃ σ', f_X8_appendTerm fu σ k (nI i) (nI t) = some σ' ∧ RCt k (sayV v i (vC v i + 1) (uF (vQ v i) (vC v i) t)) σ' ∧ FrT k σ σ' := by
  have h20 := hw.1
  unfold f_X8_appendTerm
  rw [zt_has h hw hi, bd_some, if_neg (show ¬ (1 : Int32) = 0 by decide), zt_rdc h hw hi, bd_some, z_within, bd_some, if_neg (show ¬ bi (0 ≤ nI (vC v i) ∧ nI (vC v i) ≤ 7) = 0 from z_bl (m := 7) (by omega) (by omega)), bd_some, z_mul8, wrN (8 * i + vC v i) rfl (by omega) (by omega), bd_some, rdN i rfl (by omega) (by omega), gu_n _ _ (show k + 5 ≠ k + 6 by omega), (h.2 i hi).2.2.2.2.1, bd_some, z_add1, wrN i rfl (by omega) (by omega), bd_some]
  refine ⟨_, rfl, ⟨?_, fun l hl => ?_⟩, ?_⟩
  · simp (disch := omega) only [gu_n]
    exact h.1
  · have hl' : l < vn v := hl
    obtain ⟨g1, g2, g3, g4, g5, g6⟩ := h.2 l hl'
    simp (disch := omega) only [gu_n, gu_s]
    refine ⟨g1, g2, g3, g4, ?_, fun j hj => ?_⟩
    · show upd (σ (k + 5)) i (nI (vC v i + 1)) l = nI (uF (vC v) i (vC v i + 1) l)
      by_cases q : l = i
      · subst q
        rw [up_e, uF_e]
      · rw [up_n _ _ q, uF_n _ _ q, g5]
    · have hj' : j < uF (vC v) i (vC v i + 1) l := hj
      show upd (σ (k + 6)) (8 * i + vC v i) (nI t) (8 * l + j) = nI (uF (vQ v) i (uF (vQ v i) (vC v i) t) l j)
      by_cases q : l = i
      · subst q
        rw [uF_e] at hj' ⊢
        by_cases q2 : j = vC v l
        · subst q2
          rw [up_e, uF_e]
        · rw [up_n _ _ (by omega), uF_n _ _ q2, g6 j (by omega)]
      · rw [uF_n _ _ q] at hj' ⊢
        have h8 := (hw.2.2 l hl').1
        rw [up_n _ _ (by omega), g6 j hj']
  · intro c hc
    simp (disch := omega) only [gu_n]
end Mut
