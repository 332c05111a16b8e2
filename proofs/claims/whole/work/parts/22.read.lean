/-! ===== LectureTurns: what Speakers and Turns answer ===== -/
/-- a set of those below n of which c holds -/
def orS (n : Nat) (c : Nat → Bool) : Int32 := itr (fun i acc => if c i = true then acc ||| (1 <<< (nI i &&& 31)) else acc) 0 n 0
/-- how many below n of which c holds -/
def ctS (n : Nat) (c : Nat → Bool) (a : Int32) : Int32 := itr (fun i acc => if c i = true then acc + 1 else acc) 0 n a
/-- a sum -/
def smS (n : Nat) (c : Nat → Bool) (f : Nat → Int32) : Int32 := itr (fun i acc => if c i = true then acc + f i else acc) 0 n 0
theorem orS_congr {n : Nat} {c d : Nat → Bool} (h : ∀ i, i < n → c i = d i) : orS n c = orS n d := itr_congr n 0 0 (fun j t _ h2 => by rw [h j (by omega)])
theorem ctS_congr {n : Nat} {c d : Nat → Bool} {a : Int32} (h : ∀ i, i < n → c i = d i) : ctS n c a = ctS n d a := itr_congr n 0 a (fun j t _ h2 => by rw [h j (by omega)])
theorem smS_congr {n : Nat} {c d : Nat → Bool} {f g : Nat → Int32} (h : ∀ i, i < n → c i = d i) (h2 : ∀ i, i < n → f i = g i) : smS n c f = smS n d g := itr_congr n 0 0 (fun j t _ q => by rw [h j (by omega), h2 j (by omega)])
def dist (a b : Int32) : Int32 := if b ≤ a then a - b else b - a
theorem z_abs (fu : Nat) (σ : gSt) {a b : Nat} (ha : a < 4096) (hb : b < 4096) : f_J9_abs_0f7a4 fu σ (nI a - nI b) = some (dist (nI a) (nI b)) := by
  unfold f_J9_abs_0f7a4 dist
  rcases Nat.lt_or_ge a b with q | q
  · rw [if_neg (by rw [Int32.not_le]; exact pk_sneg (by omega) q), if_neg (zl_le q (by omega)), Int32.neg_sub]
  · rw [if_pos (zl_ge q (by omega)), if_pos (by rw [pk_sub q]; exact nI_pos' (by omega))]
def isV (S : Nat → Int32) (x : Int32) : Prop := (0 ≤ x ∧ x ≤ 5) ∧ S x.toNatClampNeg ≠ 0
theorem z_ix6 (x : Int32) : (∃ t, t < 6 ∧ x = nI t ∧ (0 ≤ x ∧ x ≤ 5)) ∨ (¬ (0 ≤ x ∧ x ≤ 5) ∧ (x < 0 ∨ nI 6 ≤ x)) := by
  rcases z_ix x (n := 6) (by omega) with ⟨t, h1, rfl⟩ | h
  · exact Or.inl ⟨t, h1, rfl, nI_pos' (by omega), (zl_ge (i := 5) (n := t) (by omega) (by omega) : nI t ≤ nI 5)⟩
  · refine Or.inr ⟨fun q => ?_, h⟩
    obtain ⟨q1, q2⟩ := q
    rw [z_lei] at q1 q2
    rcases h with h | h
    · rw [z_lti] at h
      omega
    · rw [z_lei, nI_toInt (by omega)] at h
      have : (5 : Int32).toInt = 5 := by decide
      omega
/-- speakers as a range and what stands there; as a number or not -/
def vx (S : Nat → Int32) (x : Int32) : Option Nat := match ix 6 x with
  | some s => if S s = 0 then none else some s
  | none => none
theorem vx_cases (S : Nat → Int32) (x : Int32) : (∃ s, s < 6 ∧ x = nI s ∧ S s ≠ 0 ∧ vx S x = some s) ∨ (vx S x = none ∧ ((x < 0 ∨ nI 6 ≤ x) ∨ ∃ s, s < 6 ∧ x = nI s ∧ S s = 0)) := by
  unfold vx
  rcases ix_cases 6 x (by omega) with ⟨s, h1, rfl, h2⟩ | ⟨h1, h2⟩
  · rw [h2]
    by_cases h0 : S s = 0
    · exact Or.inr ⟨if_pos h0, Or.inr ⟨s, h1, rfl, h0⟩⟩
    · exact Or.inl ⟨s, h1, rfl, h0, if_neg h0⟩
  · rw [h2]
    exact Or.inr ⟨rfl, Or.inl h1⟩
section Spk
variable {fu k : Nat} {σ : gSt} {S : Nat → Int32}
theorem zs_has (h : RCs k S σ) {s : Nat} (hs : s < 6) : f_X4_has fu σ k (nI s) = some (bi (S s ≠ 0)) := by
  unfold f_X4_has
  rw [if_neg (z_neg (by omega)), if_neg (zo_le (n := 6) hs (by omega)), rdN s rfl hs (by omega), bd_some, h s hs]
  unfold bi
  by_cases h0 : S s = 0
  · rw [if_pos h0, if_neg (fun q => q h0)]
  · rw [if_neg h0, if_pos h0]
theorem zs_has_out {x : Int32} (hx : x < 0 ∨ nI 6 ≤ x) : f_X4_has fu σ k x = some 0 := by
  unfold f_X4_has
  rcases hx with q | q
  · rw [if_pos q]
  · by_cases h0 : x < 0
    · rw [if_pos h0]
    · rw [if_neg h0, if_pos (show (6 : Int32) ≤ x from q)]
theorem zs_hasx (h : RCs k S σ) (x : Int32) : f_X4_has fu σ k x = some (bi ((vx S x).isSome = true)) := by
  rcases vx_cases S x with ⟨s, hs, rfl, h0, h1⟩ | ⟨h1, h2 | ⟨s, hs, rfl, h0⟩⟩
  · rw [zs_has h hs, h1, bi_t h0]
    rfl
  · rw [zs_has_out h2, h1]
    rfl
  · rw [zs_has h hs, h1, bi_f (fun q => q h0)]
    rfl
theorem zs_pitch (h : RCs k S σ) {s : Nat} (hs : s < 6) : f_X4_pitchOf fu σ k (nI s) = some (S s) := by
  unfold f_X4_pitchOf
  rw [zs_has h hs, bd_some]
  by_cases h0 : S s = 0
  · rw [if_pos (bi_0.mpr (fun q => q h0)), h0]
  · rw [if_neg (fun q => bi_0.mp q h0), rdN s rfl hs (by omega), bd_some, h s hs]
theorem zs_pitch_out {x : Int32} (hx : x < 0 ∨ nI 6 ≤ x) : f_X4_pitchOf fu σ k x = some 0 := by
  unfold f_X4_pitchOf
  rw [zs_has_out hx, bd_some, if_pos rfl]
/-- the first free number, 6 if there is none -/
def frS (S : Nat → Int32) : Nat → Nat → Nat
  | i, 0 => i
  | i, c + 1 => if S i = 0 then i else frS S (i + 1) c
theorem frS_le (S : Nat → Int32) : ∀ (c i : Nat), i ≤ frS S i c ∧ frS S i c ≤ i + c
  | 0, i => ⟨Nat.le_refl _, Nat.le_refl _⟩
  | c + 1, i => by
    unfold frS
    by_cases h : S i = 0
    · rw [if_pos h]
      omega
    · rw [if_neg h]
      have := frS_le S c (i + 1)
      omega
theorem frS_0 (S : Nat → Int32) : ∀ (c i : Nat), frS S i c < i + c → S (frS S i c) = 0
  | 0, i, h => absurd h (by unfold frS; omega)
  | c + 1, i, h => by
    unfold frS at h ⊢
    by_cases h0 : S i = 0
    · rw [if_pos h0]
      exact h0
    · rw [if_neg h0] at h ⊢
      exact frS_0 S c (i + 1) (by omega)
theorem zs_lowest_W (h : RCs k S σ) : ∀ (n s : Nat), s ≤ 6 → 6 - s < n → f_X4_lowestFree_W2 fu σ k n (nI s) = some (if frS S s (6 - s) = 6 then -1 else nI (frS S s (6 - s)))
  | 0, _, _, q => absurd q (by omega)
  | n + 1, s, hs, hn => by
    rw [f_X4_lowestFree_W2_s]
    unfold f_X4_lowestFree_L2
    rcases Nat.lt_or_ge s 6 with q | q
    · rw [if_neg (zo_le (n := 6) q (by omega)), zs_has h q, bd_some, show 6 - s = (6 - (s + 1)) + 1 by omega]
      unfold frS
      by_cases h0 : S s = 0
      · rw [if_pos (bi_0.mpr (fun q => q h0)), if_pos h0, if_neg (by omega)]
      · rw [if_neg (fun q => bi_0.mp q h0), if_neg h0, z_add1, zs_lowest_W h n (s + 1) q (by omega)]
    · have e : s = 6 := by omega
      subst e
      rw [if_pos (zo_ge (n := 6) (i := 6) (by omega) (by omega))]
      rfl
theorem zs_lowest (hf : 6 < fu) (h : RCs k S σ) : f_X4_lowestFree fu σ k = some (if frS S 0 6 = 6 then -1 else nI (frS S 0 6)) := zs_lowest_W h fu 0 (by omega) (by omega)
/-- the nearest speaker: who, and less than how far the next one must be -/
def clS (S : Nat → Int32) (p a : Int32) : Int32 × Int32 := itr (fun i t => if S i ≠ 0 ∧ dist (S i) p < t.2 then (nI i, dist (S i) p) else t) 0 6 (-1, a + 1)
theorem zs_closest (hf : 6 < fu) (h : RCs k S σ) (hS : ∀ s, s < 6 → S s = 0 ∨ ∃ p : Nat, S s = nI p ∧ 50 ≤ p ∧ p ≤ 500) {p : Nat} (hp : p < 4096) (a : Int32) : f_X4_closestTo fu σ k (nI p) a = some (clS S (nI p) a).1 := by
  refine lpU0 (fun n i (t : Int32 × Int32) => f_X4_closestTo_W10 fu σ k (nI p) a n t.1 t.2 (nI i)) 6 _ (fun t => some t.1) (fun n i t hi => ?_) (fun n t => ?_) fu (-1, a + 1) hf
  · show f_X4_closestTo_W10 fu σ k (nI p) a (n + 1) t.1 t.2 (nI i) = _
    rw [f_X4_closestTo_W10_s]
    unfold f_X4_closestTo_L10
    rw [if_neg (zo_le (n := 6) hi (by omega)), zs_has h hi, bd_some]
    rcases hS i hi with h0 | ⟨q, h0, q1, q2⟩
    · rw [if_pos (bi_0.mpr (fun q => q h0)), if_neg (fun q => q.1 h0), z_add1]
    · have hne : S i ≠ 0 := by
        rw [h0]
        exact fun e => by
          have := (z_eq (a := q) (b := 0) (by omega) (by omega)).mp e
          omega
      rw [if_neg (fun q => bi_0.mp q hne), rdN i rfl hi (by omega), bd_some, h i hi, h0, z_abs fu σ (by omega) hp, bd_some]
      by_cases q3 : t.2 ≤ dist (nI q) (nI p)
      · rw [if_pos q3, if_neg (fun e => absurd e.2 (Int32.not_lt.mpr q3)), z_add1]
      · rw [if_neg q3, if_pos ⟨h0 ▸ hne, Int32.not_le.mp q3⟩, bd_some, z_abs fu σ (by omega) hp, bd_some, z_add1]
  · show f_X4_closestTo_W10 fu σ k (nI p) a (n + 1) t.1 t.2 (nI 6) = _
    rw [f_X4_closestTo_W10_s]
    unfold f_X4_closestTo_L10
    rw [if_pos (zo_ge (n := 6) (i := 6) (by omega) (by omega))]
def spSet (S : Nat → Int32) : Int32 := orS 6 (fun i => decide (S i ≠ 0))
theorem zs_asSet (hf : 6 < fu) (h : RCs k S σ) : f_X4_asSet fu σ k = some (spSet S) := by
  unfold spSet orS
  refine lpU0 (fun n i t => f_X4_asSet_W4 fu σ k n t (nI i)) 6 _ some (fun n i t hi => ?_) (fun n t => ?_) fu 0 hf
  · rw [f_X4_asSet_W4_s]
    unfold f_X4_asSet_L4
    rw [if_neg (zo_le (n := 6) hi (by omega)), zs_has h hi, bd_some]
    by_cases e : S i = 0
    · rw [if_pos (bi_0.mpr (fun q => q e)), if_neg (by simp [e]), z_add1]
    · rw [if_neg (fun q => bi_0.mp q e), if_pos (by simp [e]), lt_eq, z_add1]
  · rw [f_X4_asSet_W4_s]
    unfold f_X4_asSet_L4
    rw [if_pos (zo_ge (n := 6) (i := 6) (by omega) (by omega))]
end Spk
section Tur
variable {fu k : Nat} {σ : gSt} {v : gV}
theorem zt_has (h : RCt k v σ) (hw : WT v) {i : Nat} (hi : i < vn v) : f_X8_has fu σ k (nI i) = some 1 := by
  have hn := hw.1
  unfold f_X8_has
  rw [if_neg (z_neg (by omega)), h.1, if_neg (zl_le hi (by omega)), if_neg (zo_le (n := 20) (by omega) (by omega))]
theorem zt_has_out (h : RCt k v σ) {x : Int32} (hx : x < 0 ∨ nI (vn v) ≤ x) : f_X8_has fu σ k x = some 0 := by
  unfold f_X8_has
  rcases hx with q | q
  · rw [if_pos q]
  · by_cases h0 : x < 0
    · rw [if_pos h0]
    · rw [if_neg h0, h.1, if_pos q]
theorem zt_begin (h : RCt k v σ) (hw : WT v) {i : Nat} (hi : i < vn v) : f_X8_beginOf fu σ k (nI i) = some (vB v i) := by
  have hn := hw.1
  unfold f_X8_beginOf
  rw [zt_has h hw hi, bd_some, if_neg (by decide), rdN i rfl (by omega) (by omega), bd_some, (h.2 i hi).1]
theorem zt_end (h : RCt k v σ) (hw : WT v) {i : Nat} (hi : i < vn v) : f_X8_endOf fu σ k (nI i) = some (vE v i) := by
  have hn := hw.1
  unfold f_X8_endOf
  rw [zt_has h hw hi, bd_some, if_neg (by decide), rdN i rfl (by omega) (by omega), bd_some, (h.2 i hi).2.1]
theorem zt_pitch (h : RCt k v σ) (hw : WT v) {i : Nat} (hi : i < vn v) : f_X8_pitchOf fu σ k (nI i) = some (vP v i) := by
  have hn := hw.1
  unfold f_X8_pitchOf
  rw [zt_has h hw hi, bd_some, if_neg (by decide), rdN i rfl (by omega) (by omega), bd_some, (h.2 i hi).2.2.1]
theorem zt_owner (h : RCt k v σ) (hw : WT v) {i : Nat} (hi : i < vn v) : f_X8_ownerOf fu σ k (nI i) = some (vO v i) := by
  have hn := hw.1
  unfold f_X8_ownerOf
  rw [zt_has h hw hi, bd_some, if_neg (by decide), rdN i rfl (by omega) (by omega), bd_some, (h.2 i hi).2.2.2.1]
theorem zt_count (h : RCt k v σ) (hw : WT v) {i : Nat} (hi : i < vn v) : f_X8_termCountOf fu σ k (nI i) = some (nI (vC v i)) := by
  have hn := hw.1
  unfold f_X8_termCountOf
  rw [zt_has h hw hi, bd_some, if_neg (by decide), rdN i rfl (by omega) (by omega), bd_some, (h.2 i hi).2.2.2.2.1]
theorem zt_rdc (h : RCt k v σ) (hw : WT v) {i : Nat} (hi : i < vn v) : rd 20 σ (k + 5) (nI i) = some (nI (vC v i)) := by
  have hn := hw.1
  rw [rdN i rfl (by omega) (by omega), (h.2 i hi).2.2.2.2.1]
theorem zt_rdo (h : RCt k v σ) (hw : WT v) {i : Nat} (hi : i < vn v) : rd 20 σ (k + 4) (nI i) = some (vO v i) := by
  have hn := hw.1
  rw [rdN i rfl (by omega) (by omega), (h.2 i hi).2.2.2.1]
theorem z_mul8 (i j : Nat) : nI i * 8 + nI j = nI (8 * i + j) := by
  rw [show (8 : Int32) = nI 8 from rfl, pk_mul, nI_add, Nat.mul_comm]
theorem zt_rdq (h : RCt k v σ) (hw : WT v) {i j : Nat} (hi : i < vn v) (hj : j < vC v i) : rd 160 σ (k + 6) (nI i * 8 + nI j) = some (nI (vQ v i j)) := by
  have hn := hw.1
  have hc := (hw.2.2 i hi).1
  rw [rdN (8 * i + j) (z_mul8 i j) (by omega) (by omega), (h.2 i hi).2.2.2.2.2 j hj]
theorem zt_told (h : RCt k v σ) (hw : WT v) {i j : Nat} (hi : i < vn v) (hj : j < vC v i) : f_X8_toldTerm fu σ k (nI i) (nI j) = some (nI (vQ v i j)) := by
  have hn := hw.1
  have hc := (hw.2.2 i hi).1
  unfold f_X8_toldTerm
  rw [zt_has h hw hi, bd_some, if_neg (by decide), if_neg (z_neg (by omega)), zt_rdc h hw hi, bd_some, if_neg (zl_le hj (by omega)), if_neg (show ¬ (8 : Int32) ≤ nI j from zo_le (n := 8) (by omega) (by omega)), zt_rdq h hw hi hj, bd_some]
theorem zt_full (h : RCt k v σ) (hw : WT v) : f_X8_isFull fu σ k = some (bi (vn v = 20)) := by
  have hn := hw.1
  unfold f_X8_isFull
  rw [h.1]
  by_cases q : vn v = 20
  · rw [if_neg (zo_nlt (n := 20) (by omega) (by omega)), bi_t q]
  · rw [if_pos (zo_lt (n := 20) (by omega) (by omega)), bi_f q]
/-- relations of turns -/
def ov (v : gV) (i j : Nat) : Bool := decide (i ≠ j ∧ vB v i < vE v j ∧ vB v j < vE v i)
def itp (v : gV) (i j : Nat) : Bool := decide (vB v j < vB v i ∧ vB v i < vE v j ∧ vO v i ≠ -1 ∧ vO v j ≠ -1 ∧ vO v i ≠ vO v j)
def onT (v : gV) (t : Int32) (i : Nat) : Bool := decide (vB v i ≤ t ∧ t < vE v i)
theorem bi_b {b : Bool} : bi (b = true) = if b = true then 1 else 0 := rfl
theorem zt_overlap (h : RCt k v σ) (hw : WT v) {i j : Nat} (hi : i < vn v) (hj : j < vn v) : f_X8_overlap fu σ k (nI i) (nI j) = some (bi (ov v i j = true)) := by
  have hn := hw.1
  unfold f_X8_overlap
  rw [zt_begin h hw hi, zt_begin h hw hj, zt_end h hw hi, zt_end h hw hj]
  simp only [bd_some]
  by_cases q : i = j
  · rw [if_pos (by rw [q]), bi_f (by simp [ov, q])]
  · rw [if_neg (fun e => q ((z_eq (by omega) (by omega)).mp e))]
    by_cases q1 : vE v j ≤ vB v i
    · rw [if_pos q1, bi_f (by simp [ov, q]; intro z; exact absurd q1 (Int32.not_le.mpr z))]
    · rw [if_neg q1]
      by_cases q2 : vE v i ≤ vB v j
      · rw [if_pos q2, bi_f (by simp [ov, q]; intro _; exact q2)]
      · rw [if_neg q2, bi_t (by simp only [ov, decide_eq_true_eq]; exact ⟨q, Int32.not_le.mp q1, Int32.not_le.mp q2⟩)]
theorem zt_interrupt (h : RCt k v σ) (hw : WT v) {i j : Nat} (hi : i < vn v) (hj : j < vn v) : f_X8_interrupt fu σ k (nI i) (nI j) = some (bi (itp v i j = true)) := by
  unfold f_X8_interrupt
  rw [zt_begin h hw hi, zt_begin h hw hj, zt_end h hw hj, zt_owner h hw hi, zt_owner h hw hj]
  simp only [bd_some]
  by_cases q1 : vB v i ≤ vB v j
  · rw [if_pos q1, bi_f (by simp only [itp, decide_eq_true_eq]; exact fun z => absurd q1 (Int32.not_le.mpr z.1))]
  · rw [if_neg q1]
    by_cases q2 : vE v j ≤ vB v i
    · rw [if_pos q2, bi_f (by simp only [itp, decide_eq_true_eq]; exact fun z => absurd q2 (Int32.not_le.mpr z.2.1))]
    · rw [if_neg q2]
      by_cases q3 : vO v i = -1
      · rw [if_pos q3, bi_f (by simp only [itp, decide_eq_true_eq]; exact fun z => z.2.2.1 q3)]
      · rw [if_neg q3]
        by_cases q4 : vO v j = -1
        · rw [if_pos q4, bi_f (by simp only [itp, decide_eq_true_eq]; exact fun z => z.2.2.2.1 q4)]
        · rw [if_neg q4]
          by_cases q5 : vO v i = vO v j
          · rw [if_pos q5, bi_f (by simp only [itp, decide_eq_true_eq]; exact fun z => z.2.2.2.2 q5)]
          · rw [if_neg q5, bi_t (by simp only [itp, decide_eq_true_eq]; exact ⟨Int32.not_le.mp q1, Int32.not_le.mp q2, q3, q4, q5⟩)]
theorem zt_goesOn (h : RCt k v σ) (hw : WT v) {i : Nat} (hi : i < vn v) (t : Int32) : f_X8_goesOn fu σ k (nI i) t = some (bi (onT v t i = true)) := by
  unfold f_X8_goesOn
  rw [zt_begin h hw hi, zt_end h hw hi]
  simp only [bd_some]
  by_cases q1 : t < vB v i
  · rw [if_pos q1, bi_f (by simp only [onT, decide_eq_true_eq]; exact fun z => absurd q1 (Int32.not_lt.mpr z.1))]
  · rw [if_neg q1]
    by_cases q2 : vE v i ≤ t
    · rw [if_pos q2, bi_f (by simp only [onT, decide_eq_true_eq]; exact fun z => absurd q2 (Int32.not_le.mpr z.2))]
    · rw [if_neg q2, bi_t (by simp only [onT, decide_eq_true_eq]; exact ⟨Int32.not_lt.mp q1, Int32.not_le.mp q2⟩)]
theorem zt_overlapping (hf : 20 < fu) (h : RCt k v σ) (hw : WT v) {p : Nat} (hp : p < vn v) : f_X8_overlapping fu σ k (nI p) = some (orS (vn v) (ov v p)) := by
  have hn := hw.1
  refine lpU0 (fun n i t => f_X8_overlapping_W4 fu σ k (nI p) n t (nI i)) (vn v) _ some (fun n i t hi => ?_) (fun n t => ?_) fu 0 (by omega)
  · rw [f_X8_overlapping_W4_s]
    unfold f_X8_overlapping_L4
    rw [h.1, if_neg (zl_le hi (by omega)), zt_overlap h hw hp hi, bd_some]
    by_cases e : ov v p i = true
    · rw [if_neg (fun q => bi_0.mp q e), if_pos e, lt_eq, z_add1]
    · rw [if_pos (bi_0.mpr e), if_neg e, z_add1]
  · rw [f_X8_overlapping_W4_s]
    unfold f_X8_overlapping_L4
    rw [h.1, if_pos (zl_ge (Nat.le_refl _) (by omega))]
theorem zt_interruptedBy (hf : 20 < fu) (h : RCt k v σ) (hw : WT v) {p : Nat} (hp : p < vn v) : f_X8_interruptedBy fu σ k (nI p) = some (orS (vn v) (itp v p)) := by
  have hn := hw.1
  refine lpU0 (fun n i t => f_X8_interruptedBy_W4 fu σ k (nI p) n t (nI i)) (vn v) _ some (fun n i t hi => ?_) (fun n t => ?_) fu 0 (by omega)
  · rw [f_X8_interruptedBy_W4_s]
    unfold f_X8_interruptedBy_L4
    rw [h.1, if_neg (zl_le hi (by omega)), zt_interrupt h hw hp hi, bd_some]
    by_cases e : itp v p i = true
    · rw [if_neg (fun q => bi_0.mp q e), if_pos e, lt_eq, z_add1]
    · rw [if_pos (bi_0.mpr e), if_neg e, z_add1]
  · rw [f_X8_interruptedBy_W4_s]
    unfold f_X8_interruptedBy_L4
    rw [h.1, if_pos (zl_ge (Nat.le_refl _) (by omega))]
theorem zt_goingOn (hf : 20 < fu) (h : RCt k v σ) (hw : WT v) (x : Int32) : f_X8_goingOn fu σ k x = some (orS (vn v) (onT v x)) := by
  have hn := hw.1
  refine lpU0 (fun n i t => f_X8_goingOn_W4 fu σ k x n t (nI i)) (vn v) _ some (fun n i t hi => ?_) (fun n t => ?_) fu 0 (by omega)
  · rw [f_X8_goingOn_W4_s]
    unfold f_X8_goingOn_L4
    rw [h.1, if_neg (zl_le hi (by omega)), zt_goesOn h hw hi, bd_some]
    by_cases e : onT v x i = true
    · rw [if_neg (fun q => bi_0.mp q e), if_pos e, lt_eq, z_add1]
    · rw [if_pos (bi_0.mpr e), if_neg e, z_add1]
  · rw [f_X8_goingOn_W4_s]
    unfold f_X8_goingOn_L4
    rw [h.1, if_pos (zl_ge (Nat.le_refl _) (by omega))]
/-- the speakers of those turns of which c holds -/
def orO (v : gV) (c : Nat → Bool) : Int32 := itr (fun i acc => if c i = true ∧ vO v i ≠ -1 then acc ||| (1 <<< (vO v i &&& 31)) else acc) 0 (vn v) 0
theorem zt_speakingAt (hf : 20 < fu) (h : RCt k v σ) (hw : WT v) (x : Int32) : f_X8_speakingAt fu σ k x = some (orO v (onT v x)) := by
  have hn := hw.1
  refine lpU0 (fun n i t => f_X8_speakingAt_W4 fu σ k x n t (nI i)) (vn v) _ some (fun n i t hi => ?_) (fun n t => ?_) fu 0 (by omega)
  · rw [f_X8_speakingAt_W4_s]
    unfold f_X8_speakingAt_L4
    rw [h.1, if_neg (zl_le hi (by omega)), zt_goesOn h hw hi, bd_some, zt_owner h hw hi]
    simp only [bd_some]
    by_cases e : onT v x i = true
    · rw [if_neg (fun q => bi_0.mp q e)]
      by_cases e2 : vO v i = -1
      · rw [if_pos e2, if_neg (fun q => q.2 e2), z_add1]
      · rw [if_neg e2, if_pos ⟨e, e2⟩, lt_eq, z_add1]
    · rw [if_pos (bi_0.mpr e), if_neg (fun q => e q.1), z_add1]
  · rw [f_X8_speakingAt_W4_s]
    unfold f_X8_speakingAt_L4
    rw [h.1, if_pos (zl_ge (Nat.le_refl _) (by omega))]
theorem zt_places (hf : 20 < fu) (h : RCt k v σ) (hw : WT v) : f_X8_placesInAll fu σ k = some (smS (vn v) (fun _ => true) (fun i => nI (vC v i))) := by
  have hn := hw.1
  refine lpU0 (fun n i t => f_X8_placesInAll_W4 fu σ k n t (nI i)) (vn v) _ some (fun n i t hi => ?_) (fun n t => ?_) fu 0 (by omega)
  · rw [f_X8_placesInAll_W4_s]
    unfold f_X8_placesInAll_L4
    rw [h.1, if_neg (zl_le hi (by omega)), zt_count h hw hi, bd_some, if_pos rfl, z_add1]
  · rw [f_X8_placesInAll_W4_s]
    unfold f_X8_placesInAll_L4
    rw [h.1, if_pos (zl_ge (Nat.le_refl _) (by omega))]
theorem zt_turnsOf (hf : 20 < fu) (h : RCt k v σ) (hw : WT v) (x : Int32) : f_X8_turnsOf fu σ k x = some (ctS (vn v) (fun i => decide (vO v i = x)) 0) := by
  have hn := hw.1
  refine lpU0 (fun n i t => f_X8_turnsOf_W4 fu σ k x n t (nI i)) (vn v) _ some (fun n i t hi => ?_) (fun n t => ?_) fu 0 (by omega)
  · rw [f_X8_turnsOf_W4_s]
    unfold f_X8_turnsOf_L4
    rw [h.1, if_neg (zl_le hi (by omega)), if_neg (zo_le (n := 20) (by omega) (by omega)), zt_rdo h hw hi, bd_some]
    by_cases e : vO v i = x
    · rw [if_pos e, if_pos (by simp [e]), z_add1]
    · rw [if_neg e, if_neg (by simp [e]), z_add1]
  · rw [f_X8_turnsOf_W4_s]
    unfold f_X8_turnsOf_L4
    rw [h.1, if_pos (zl_ge (Nat.le_refl _) (by omega))]
theorem zt_sumOf (hf : 20 < fu) (h : RCt k v σ) (hw : WT v) (x : Int32) (k1 : Nat) {g : Nat → Int32} (hg : ∀ i, i < vn v → σ k1 i = g i) : f_X8_sumOf fu σ k k1 20 x = some (smS (vn v) (fun i => decide (vO v i = x)) g) := by
  have hn := hw.1
  refine lpU0 (fun n i t => f_X8_sumOf_W5 fu σ k k1 20 x n t (nI i)) (vn v) _ some (fun n i t hi => ?_) (fun n t => ?_) fu 0 (by omega)
  · rw [f_X8_sumOf_W5_s]
    unfold f_X8_sumOf_L5
    rw [h.1, if_neg (zl_le hi (by omega)), if_neg (zo_le (n := 20) (by omega) (by omega)), if_neg (show ¬ Int32.ofNat 20 ≤ nI i from zl_le (n := 20) (by omega) (by omega)), zt_rdo h hw hi, bd_some, rdN i rfl (by omega) (by omega), bd_some, hg i hi]
    by_cases e : vO v i = x
    · rw [if_pos e, if_pos (by simp [e]), z_add1]
    · rw [if_neg e, if_neg (by simp [e]), z_add1]
  · rw [f_X8_sumOf_W5_s]
    unfold f_X8_sumOf_L5
    rw [h.1, if_pos (zl_ge (Nat.le_refl _) (by omega))]
end Tur
