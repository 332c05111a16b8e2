abbrev gSt : Type := Nat → Nat → Int32
abbrev gKd : Type := Nat ⊕ (Nat ⊕ Nat)
/-- the kinds of the cells: an int array of a length, an object of a class, an array of references -/
def gTr : List gKd := [.inr (.inl 7), .inr (.inl 8), .inl 20, .inl 20, .inl 20, .inl 20, .inl 20, .inl 160, .inr (.inl 0), .inl 16, .inr (.inl 4), .inl 6]
def gHd : List gKd := [.inr (.inl 9), .inr (.inl 5), .inl 20, .inr (.inl 3), .inr (.inl 2), .inl 3, .inr (.inl 6), .inl 60, .inr (.inl 1), .inr (.inr 4)]
def gMo : List gKd := [.inr (.inl 10), .inl 284, .inl 1136, .inl 284, .inl 60, .inl 13, .inl 16, .inl 3]
def gList : List gKd := gHd ++ (gTr ++ (gTr ++ (gTr ++ (gTr ++ (gTr ++ (gTr ++ (gTr ++ gMo)))))))
def gKind (k : Nat) : gKd := gList.getD k (.inl 0)
def gNs : List Nat := [1, 3, 4, 7, 1, 5, 2, 4, 7, 6, 16]
def gN (ci : Nat) : Nat := gNs.getD ci 0
def gDls : List (List Nat) := [[1], [1, 0, 0], [1, 0, 0, 0], [3, 79, 1, 0, 0, 0, 0], [1], [9, 10, 17, 19, 1], [1, 0], [1, 8, 10, 0], [1, 2, 3, 4, 5, 6, 0], [10, 22, 8, 1, 6, 3], [1, 2, 3, 0, 0, 4, 0, 5, 6, 0, 0, 0, 0, 0, 0, 7]]
def gDl (ci i : Nat) : Nat := (gDls.getD ci []).getD i 0
def gTgs : List (List gKd) := [[.inl 16], [.inr (.inr 4), .inl 0, .inl 0], [.inl 3, .inl 0, .inl 0, .inl 0], [.inr (.inl 6), .inr (.inl 7), .inr (.inl 2), .inl 0, .inl 0, .inl 0, .inl 0], [.inl 6], [.inr (.inl 7), .inr (.inl 8), .inr (.inl 0), .inr (.inl 4), .inl 20], [.inl 60, .inl 0], [.inr (.inl 8), .inr (.inl 0), .inr (.inl 4), .inl 0], [.inl 20, .inl 20, .inl 20, .inl 20, .inl 20, .inl 160, .inl 0], [.inr (.inl 7), .inr (.inl 7), .inr (.inl 1), .inr (.inl 5), .inr (.inl 6), .inr (.inl 3)], [.inl 284, .inl 1136, .inl 284, .inl 0, .inl 0, .inl 60, .inl 0, .inl 13, .inl 16, .inl 0, .inl 0, .inl 0, .inl 0, .inl 0, .inl 0, .inl 3]]
def gTg (ci i : Nat) : gKd := (gTgs.getD ci []).getD i (.inl 0)
def gR (ci : Nat) : String := match ci with
  | 0 => RX0
  | 1 => RX1
  | 2 => RX2
  | 3 => RX3
  | 4 => RX4
  | 5 => RX5
  | 6 => RX6
  | 7 => RX7
  | 8 => RX8
  | 9 => RX9
  | _ => RX10
def gT (ci : Nat) : u_T := match ci with
  | 0 => TX0
  | 1 => TX1
  | 2 => TX2
  | 3 => TX3
  | 4 => TX4
  | 5 => TX5
  | 6 => TX6
  | 7 => TX7
  | 8 => TX8
  | 9 => TX9
  | _ => TX10
def gTy (ci : Nat) : Nat → FieldType := match ci with
  | 0 => tyX0
  | 1 => tyX1
  | 2 => tyX2
  | 3 => tyX3
  | 4 => tyX4
  | 5 => tyX5
  | 6 => tyX6
  | 7 => tyX7
  | 8 => tyX8
  | 9 => tyX9
  | _ => tyX10
abbrev gQ0 : Nat := 25
abbrev gQd : Nat := 12
/-- the links between nest mates: who, where, what, whose nest -/
def gNl : List (String × Nat × MethodName × String) := [("LectureTurns", 9, ⟨"LectureTurns$Transcript", "<init>", "()V"⟩, "LectureTurns"), ("LectureTurns$Transcript", 11, ⟨"LectureTurns$Turns", "<init>", "()V"⟩, "LectureTurns"), ("LectureTurns$Transcript", 27, ⟨"LectureTurns$Speakers", "<init>", "()V"⟩, "LectureTurns"), ("LectureTurns$History", 17, ⟨"LectureTurns$Transcript", "<init>", "()V"⟩, "LectureTurns"), ("LectureTurns", 37, ⟨"LectureTurns$Text", "<init>", "()V"⟩, "LectureTurns"), ("LectureTurns$Review", 11, ⟨"LectureTurns$Transcript", "<init>", "()V"⟩, "LectureTurns"), ("LectureTurns$Review", 20, ⟨"LectureTurns$Order", "<init>", "()V"⟩, "LectureTurns"), ("LectureTurns$Transcript", 86, ⟨"LectureTurns", "isWithin", "(III)Z"⟩, "LectureTurns"), ("LectureTurns$Corrections", 27, ⟨"LectureTurns", "isWithin", "(III)Z"⟩, "LectureTurns"), ("LectureTurns$Turns", 59, ⟨"LectureTurns", "isWithin", "(III)Z"⟩, "LectureTurns"), ("LectureTurns$Speakers", 25, ⟨"LectureTurns", "isWithin", "(III)Z"⟩, "LectureTurns"), ("LectureTurns$Survey", 71, ⟨"LectureTurns", "isWithin", "(III)Z"⟩, "LectureTurns"), ("LectureTurns$Text", 19, ⟨"LectureTurns", "isWithin", "(III)Z"⟩, "LectureTurns"), ("LectureTurns$Order", 39, ⟨"LectureTurns", "isWithin", "(III)Z"⟩, "LectureTurns")]
def gNf : List (String × Nat × String × String × String × String) := [("LectureTurns$Survey", 19, "LectureTurns$Transcript", "turns", "LLectureTurns$Turns;", "LectureTurns"), ("LectureTurns$Survey", 26, "LectureTurns$Transcript", "corrections", "LLectureTurns$Corrections;", "LectureTurns"), ("LectureTurns$Survey", 31, "LectureTurns$Transcript", "speakers", "LLectureTurns$Speakers;", "LectureTurns")]
def gTb : List Cond := lw_tbl.filter goodWord
theorem gM {w : Cond} (i : Nat) (h : lw_tbl[i]? = some w) (g : goodWord w = true) : w ∈ gTb := List.mem_filter.mpr ⟨List.mem_of_getElem? h, g⟩
theorem gTbG {w : Cond} (h : w ∈ gTb) : (w.onTables && w.keeps) = true ∨ ∃ ty, w = .arrayClass ty := good_of_word (List.mem_filter.mp h).2
theorem gGood {ws : List Cond} (h : ∀ w ∈ ws, w ∈ gTb) : GoodIn gTb ws := fun w hw => ⟨h w hw, gTbG (h w hw)⟩
theorem gGoodC {w : Cond} (h : w ∈ gTb) : ∀ v ∈ w :: gTb, v ∈ gTb := fun v hv => by
  rcases List.mem_cons.mp hv with rfl | q
  · exact h
  · exact q
theorem gIn0 : ∀ w ∈ u_ws RX0 TX0 1, w ∈ gTb := by decide +kernel
theorem gIn1 : ∀ w ∈ u_ws RX1 TX1 3, w ∈ gTb := by decide +kernel
theorem gIn2 : ∀ w ∈ u_ws RX2 TX2 4, w ∈ gTb := by decide +kernel
theorem gIn3 : ∀ w ∈ u_ws RX3 TX3 7, w ∈ gTb := by decide +kernel
theorem gIn4 : ∀ w ∈ u_ws RX4 TX4 1, w ∈ gTb := by decide +kernel
theorem gIn5 : ∀ w ∈ u_ws RX5 TX5 5, w ∈ gTb := by decide +kernel
theorem gIn6 : ∀ w ∈ u_ws RX6 TX6 2, w ∈ gTb := by decide +kernel
theorem gIn7 : ∀ w ∈ u_ws RX7 TX7 4, w ∈ gTb := by decide +kernel
theorem gIn8 : ∀ w ∈ u_ws RX8 TX8 7, w ∈ gTb := by decide +kernel
theorem gIn9 : ∀ w ∈ u_ws RX9 TX9 6, w ∈ gTb := by decide +kernel
theorem gIn10 : ∀ w ∈ u_ws RX10 TX10 16, w ∈ gTb := by decide +kernel
theorem g11 {P : Nat → Prop} (h0 : P 0) (h1 : P 1) (h2 : P 2) (h3 : P 3) (h4 : P 4) (h5 : P 5) (h6 : P 6) (h7 : P 7) (h8 : P 8) (h9 : P 9) (h10 : P 10) (ci : Nat) (h : ci < 11) : P ci := by
  match ci, h with
  | 0, _ => exact h0
  | 1, _ => exact h1
  | 2, _ => exact h2
  | 3, _ => exact h3
  | 4, _ => exact h4
  | 5, _ => exact h5
  | 6, _ => exact h6
  | 7, _ => exact h7
  | 8, _ => exact h8
  | 9, _ => exact h9
  | 10, _ => exact h10
  | n + 11, h => exact absurd h (by omega)
theorem gIn (ci : Nat) (h : ci < 11) : ∀ w ∈ u_ws (gR ci) (gT ci) (gN ci), w ∈ gTb := g11 (P := fun ci => ∀ w ∈ u_ws (gR ci) (gT ci) (gN ci), w ∈ gTb) gIn0 gIn1 gIn2 gIn3 gIn4 gIn5 gIn6 gIn7 gIn8 gIn9 gIn10 ci h
theorem gCl (ci : Nat) (h : ci < 11) : vwCl[ci]? = some (gR ci, gT ci, gN ci) := g11 (P := fun ci => vwCl[ci]? = some (gR ci, gT ci, gN ci)) rfl rfl rfl rfl rfl rfl rfl rfl rfl rfl rfl ci h
theorem gTyOk (ci : Nat) (h : ci < 11) : ∀ k, k < gN ci → parseFieldDescriptor (gT ci k).2.2.1 = some (gTy ci k) := g11 (P := fun ci => ∀ k, k < gN ci → parseFieldDescriptor (gT ci k).2.2.1 = some (gTy ci k)) tyX0_ok tyX1_ok tyX2_ok tyX3_ok tyX4_ok tyX5_ok tyX6_ok tyX7_ok tyX8_ok tyX9_ok tyX10_ok ci h
theorem gNm (ci : Nat) (h : ci < 11) : ∀ a, a < gN ci → ∀ b, b < gN ci → a ≠ b → (gT ci a).2.1 ≠ (gT ci b).2.1 := g11 (P := fun ci => ∀ a, a < gN ci → ∀ b, b < gN ci → a ≠ b → (gT ci a).2.1 ≠ (gT ci b).2.1) nmX0 nmX1 nmX2 nmX3 nmX4 nmX5 nmX6 nmX7 nmX8 nmX9 nmX10 ci h
/-- cells by kind -/
def isA (k n : Nat) : Prop := k < 102 ∧ gKind k = .inl n
def isO (k ci : Nat) : Prop := k < 102 ∧ gKind k = .inr (.inl ci)
def isQ (k n : Nat) : Prop := k < 102 ∧ gKind k = .inr (.inr n)
def gChk1 (k : Nat) : Bool := match gKind k with
  | .inr (.inl ci) => (List.range (gN ci)).all fun i => Nat.beq (gDl ci i) 0 || (decide (k + gDl ci i < 102) && decide (gKind (k + gDl ci i) = gTg ci i))
  | _ => true
theorem gChk1_all : (List.range 102).all gChk1 = true := by decide +kernel
theorem gTab1 (k : Nat) (hk : k < 102) (ci : Nat) (hg : gKind k = .inr (.inl ci)) (i : Nat) (hi : i < gN ci) (h0 : gDl ci i ≠ 0) : k + gDl ci i < 102 ∧ gKind (k + gDl ci i) = gTg ci i := by
  have h := List.all_eq_true.mp gChk1_all k (List.mem_range.mpr hk)
  unfold gChk1 at h
  rw [hg] at h
  have h2 := List.all_eq_true.mp h i (List.mem_range.mpr hi)
  have h3 : Nat.beq (gDl ci i) 0 = false := by
    cases hq : gDl ci i with
    | zero => exact absurd hq h0
    | succ n => rfl
  rw [h3, Bool.false_or, Bool.and_eq_true] at h2
  exact ⟨of_decide_eq_true h2.1, of_decide_eq_true h2.2⟩
theorem gTab2 : ∀ k, k < 102 → gKind k = .inr (.inr 4) → ∀ j, j < 4 → k + gQ0 + gQd * j < 102 ∧ gKind (k + gQ0 + gQd * j) = .inr (.inl 7) := by decide +kernel
theorem gToA {k ci : Nat} (hk : isO k ci) (i d n : Nat) (h1 : ci < 11) (h2 : i < gN ci) (h3 : gDl ci i = d) (h4 : d ≠ 0) (h5 : gTg ci i = .inl n) : isA (k + d) n := by
  subst h3
  obtain ⟨a, b⟩ := gTab1 k hk.1 ci hk.2 i h2 h4
  exact ⟨a, b.trans h5⟩
theorem gToO {k ci : Nat} (hk : isO k ci) (i d cj : Nat) (h1 : ci < 11) (h2 : i < gN ci) (h3 : gDl ci i = d) (h4 : d ≠ 0) (h5 : gTg ci i = .inr (.inl cj)) : isO (k + d) cj := by
  subst h3
  obtain ⟨a, b⟩ := gTab1 k hk.1 ci hk.2 i h2 h4
  exact ⟨a, b.trans h5⟩
theorem gToQ {k ci : Nat} (hk : isO k ci) (i d n : Nat) (h1 : ci < 11) (h2 : i < gN ci) (h3 : gDl ci i = d) (h4 : d ≠ 0) (h5 : gTg ci i = .inr (.inr n)) : isQ (k + d) n := by
  subst h3
  obtain ⟨a, b⟩ := gTab1 k hk.1 ci hk.2 i h2 h4
  exact ⟨a, b.trans h5⟩
/-- what is the same for a whole run: the classes' numbers, the array classes, the addresses of the cells, where the heap began -/
abbrev gG : Type := va_G × ClassId × ClassId × (Nat → Nat) × Nat
abbrev gAd (G : gG) : Nat → Nat := G.2.2.2.1
abbrev gH0 (G : gG) : Nat := G.2.2.2.2
def gFv (ad : Nat → Nat) (f : Nat → Int32) (k ci i : Nat) : Value := bif Nat.beq (gDl ci i) 0 then .int (f i) else .ref (ad (k + gDl ci i))
def gFs (ad : Nat → Nat) (f : Nat → Int32) (k ci : Nat) : List Value := (List.range (gN ci)).map (gFv ad f k ci)
def gCel (G : gG) (f : Nat → Int32) (k : Nat) : va_E := match gKind k with
  | .inl n => .inl (G.2.1, n, .inl f)
  | .inr (.inl ci) => .inr (ci, gFs (gAd G) f k ci)
  | .inr (.inr n) => .inl (G.2.2.1, n, .inr (.inr (.inr (.inr (fun j => some (gAd G (k + gQ0 + gQd * j)))))))
def gWs (G : gG) (σ : gSt) : va_W := (List.range 102).map (fun k => (gAd G k, gCel G (σ k) k))
def gAp (G : gG) : Prop := (∀ i j, i < 102 → j < 102 → gAd G i = gAd G j → i = j) ∧ ∀ i, i < 102 → gH0 G ≤ gAd G i
theorem gWsAt {G : gG} {σ : gSt} {k : Nat} (hk : k < 102) : (gWs G σ)[k]? = some (gAd G k, gCel G (σ k) k) := by simp [gWs, hk]
theorem gWsA {G : gG} {σ : gSt} {k n : Nat} (hk : isA k n) : (gWs G σ)[k]? = some (gAd G k, .inl (G.2.1, n, .inl (σ k))) := by
  rw [gWsAt hk.1, gCel, hk.2]
theorem gWsO {G : gG} {σ : gSt} {k ci : Nat} (hk : isO k ci) : (gWs G σ)[k]? = some (gAd G k, .inr (ci, gFs (gAd G) (σ k) k ci)) := by
  rw [gWsAt hk.1, gCel, hk.2]
theorem gWsQ {G : gG} {σ : gSt} {k n : Nat} (hk : isQ k n) : (gWs G σ)[k]? = some (gAd G k, .inl (G.2.2.1, n, .inr (.inr (.inr (.inr (fun j => some (gAd G (k + gQ0 + gQd * j)))))))) := by
  rw [gWsAt hk.1, gCel, hk.2]
theorem gFsI {ad : Nat → Nat} {f : Nat → Int32} {k ci i : Nat} (hi : i < gN ci) (hd : gDl ci i = 0) : (gFs ad f k ci)[i]? = some (.int (f i)) := by
  simp [gFs, hi, gFv, hd]
theorem gFsR {ad : Nat → Nat} {f : Nat → Int32} {k ci i d : Nat} (hi : i < gN ci) (hd : gDl ci i = d) (h0 : d ≠ 0) : (gFs ad f k ci)[i]? = some (.ref (ad (k + d))) := by
  have hb : Nat.beq d 0 = false := by cases d with
    | zero => exact absurd rfl h0
    | succ n => rfl
  simp [gFs, hi, gFv, hd, hb]
theorem gFsL {ad : Nat → Nat} {f : Nat → Int32} {k ci : Nat} : (gFs ad f k ci).length = gN ci := by simp [gFs]
/-- one cell's contents anew -/
def gu (σ : gSt) (k : Nat) (f : Nat → Int32) : gSt := fun j => if j = k then f else σ j
theorem gu_s (σ : gSt) (k : Nat) (f : Nat → Int32) : gu σ k f k = f := if_pos rfl
theorem gu_n (σ : gSt) {k j : Nat} (f : Nat → Int32) (h : j ≠ k) : gu σ k f j = σ j := if_neg h
theorem gWsU {G : gG} {σ : gSt} {k : Nat} {f : Nat → Int32} {e : va_E} (hk : k < 102) (he : gCel G f k = e) : (gWs G σ).set k (gAd G k, e) = gWs G (gu σ k f) := by
  apply List.ext_getElem?
  intro j
  by_cases hj : j < 102
  · rw [gWsAt hj]
    by_cases hjk : j = k
    · subst hjk
      rw [List.getElem?_set_self (by simp [gWs]; exact hj), gu_s, he]
    · rw [List.getElem?_set_ne (fun q => hjk q.symm), gWsAt hj, gu_n _ _ hjk]
  · have h1 : (gWs G (gu σ k f)).length ≤ j := by simp [gWs]; omega
    have h2 : ((gWs G σ).set k (gAd G k, e)).length ≤ j := by simp [gWs]; omega
    rw [List.getElem?_eq_none h1, List.getElem?_eq_none h2]
theorem gCelA {G : gG} {f : Nat → Int32} {k n : Nat} (hk : isA k n) : gCel G f k = .inl (G.2.1, n, .inl f) := by rw [gCel, hk.2]
theorem gCelO {G : gG} {f : Nat → Int32} {k ci i : Nat} {v : Int32} (hk : isO k ci) (hi : i < gN ci) (hd : gDl ci i = 0) : gCel G (upd f i v) k = .inr (ci, (gFs (gAd G) f k ci).set i (.int v)) := by
  rw [gCel, hk.2]
  show (Sum.inr (ci, gFs (gAd G) (upd f i v) k ci) : va_E) = _
  refine congrArg (fun l => (Sum.inr (ci, l) : va_E)) ?_
  apply List.ext_getElem?
  intro j
  by_cases hj : j < gN ci
  · by_cases hji : j = i
    · subst hji
      rw [List.getElem?_set_self (by rw [gFsL]; exact hi), gFsI hi hd]
      simp [upd]
    · rw [List.getElem?_set_ne (fun q => hji q.symm)]
      simp [gFs, hj, gFv, upd, hji]
  · rw [List.getElem?_eq_none (by rw [gFsL]; omega), List.getElem?_eq_none (by rw [List.length_set, gFsL]; omega)]
theorem gDs {G : gG} (h : gAp G) (σ : gSt) : va_D (fun q => gH0 G ≤ q) (gWs G σ) := by
  have hlt : ∀ (k : Nat) (q : Nat × va_E), (gWs G σ)[k]? = some q → k < 102 ∧ q.1 = gAd G k := by
    intro k q hq
    have hk : k < 102 := by
      have := (List.getElem?_eq_some_iff.mp hq).1
      simpa [gWs] using this
    rw [gWsAt hk] at hq
    cases hq
    exact ⟨hk, rfl⟩
  refine ⟨fun i j p q hp hq he => ?_, fun k q hq => ?_⟩
  · obtain ⟨h1, e1⟩ := hlt i p hp
    obtain ⟨h2, e2⟩ := hlt j q hq
    exact h.1 i j h1 h2 (by rw [← e1, ← e2, he])
  · obtain ⟨h1, e1⟩ := hlt k q hq
    show gH0 G ≤ q.1
    rw [e1]
    exact h.2 k h1
