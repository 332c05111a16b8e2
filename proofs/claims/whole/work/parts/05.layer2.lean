/-! ===== a point of a method's walk, over a pure computation ===== -/
abbrev gX (ρ : Type) : Type := gG × (Program × Launch × Env × Room × State) × (MethodId × Array Value × List Frame × Method × Code) × (Nat × Nat) × (ρ → State → Prop)
def gFx (G : gG) (U : State) : Prop := va_K G.1 vwCl [(G.2.1, .int), (G.2.2.1, .object RX7)] U ∧ (∀ q ∈ gNl, va_Nw (.methodLinkNest q.1 q.2.1 q.2.2.1 q.2.2.2) U) ∧ gAp G
/-- the locals, by their places -/
def gL (ls : Array Slot) (L : List (Option Value)) : Prop := ls.size = L.length ∧ lv_wf ls ∧ ∀ (i : Nat) (v : Value), L[i]? = some (some v) → ls[i]? = some (.val v) ∧ v.category = 1
def gAl (L : List (Option Value)) : List (Nat × Value) := (List.range L.length).filterMap fun i => match L[i]? with
  | some (some v) => some (i, v)
  | _ => none
theorem gAlM {L : List (Option Value)} {i : Nat} {v : Value} : (i, v) ∈ gAl L ↔ L[i]? = some (some v) := by
  constructor
  · intro h
    obtain ⟨j, -, hj⟩ := List.mem_filterMap.mp h
    cases hq : L[j]? with
    | none =>
      rw [hq] at hj
      cases hj
    | some ov =>
      rw [hq] at hj
      cases ov with
      | none => cases hj
      | some vv =>
        have e : (j, vv) = (i, v) := Option.some.inj hj
        cases e
        exact hq
  · intro h
    refine List.mem_filterMap.mpr ⟨i, List.mem_range.mpr (List.getElem?_eq_some_iff.mp h).1, ?_⟩
    rw [h]
theorem gLh {ls : Array Slot} {L : List (Option Value)} (h : gL ls L) : lv_has ls L.length (gAl L) := ⟨h.1, h.2.1, fun q hq => (h.2.2 q.1 q.2 (gAlM.mp hq)).1⟩
theorem gLs {ls ls' : Array Slot} {L L' : List (Option Value)} {i : Nat} {v : Value} (h : gL ls L) (hc : v.category = 1) (hL : L.set i (some v) = L')
    (h' : lv_has ls' L.length ((i, v) :: (gAl L).filter (fun q => !(q.1 == i) && !(q.1 + 1 == i && q.2.category == 2)))) : gL ls' L' := by
  subst hL
  refine ⟨by rw [h'.1, List.length_set], h'.2.1, fun j w hj => ?_⟩
  by_cases hji : j = i
  · subst hji
    have hlt : j < L.length := by
      have := (List.getElem?_eq_some_iff.mp hj).1
      simpa using this
    rw [List.getElem?_set_self hlt] at hj
    cases hj
    exact ⟨h'.2.2 (j, v) List.mem_cons_self, hc⟩
  · rw [List.getElem?_set_ne (fun q => hji q.symm)] at hj
    have hw := (h.2.2 j w hj).2
    refine ⟨h'.2.2 (j, w) (List.mem_cons_of_mem _ (List.mem_filter.mpr ⟨gAlM.mpr hj, ?_⟩)), hw⟩
    simp [hji, hw]
/-- some places are forgotten -/
theorem gLw {ls : Array Slot} {L L' : List (Option Value)} (h : gL ls L) (hn : L'.length = L.length) (hs : ∀ (i : Nat) (v : Value), L'[i]? = some (some v) → L[i]? = some (some v)) : gL ls L' := ⟨h.1.trans hn.symm, h.2.1, fun i v hv => h.2.2 i v (hs i v hv)⟩
def gLe : List (Option Value) → List (Option Value) → Prop
  | [], [] => True
  | none :: l', _ :: l => gLe l' l
  | some v' :: l', some v :: l => v' = v ∧ gLe l' l
  | _, _ => False
theorem gLe_get : ∀ (L' L : List (Option Value)), gLe L' L → L'.length = L.length ∧ ∀ (i : Nat) (v : Value), L'[i]? = some (some v) → L[i]? = some (some v)
  | [], [], _ => ⟨rfl, fun _ _ h => h⟩
  | [], _ :: _, h => h.elim
  | none :: _, [], h => h.elim
  | some _ :: _, [], h => h.elim
  | none :: l', w :: l, h => by
    obtain ⟨h1, h2⟩ := gLe_get l' l h
    refine ⟨by simp [h1], fun i v hv => ?_⟩
    cases i with
    | zero => simp at hv
    | succ i => exact h2 i v (by simpa using hv)
  | some _ :: _, none :: _, h => h.elim
  | some v' :: l', some w :: l, h => by
    obtain ⟨h1, h2⟩ := gLe_get l' l h.2
    refine ⟨by simp [h1], fun i v hv => ?_⟩
    cases i with
    | zero => rw [← h.1]; exact hv
    | succ i => exact h2 i v (by simpa using hv)
/-- AT a point of a method, over the state σ: if what is still to be computed ends, with r, the machine comes to what r promises -/
def At {ρ : Type} (Γ : gX ρ) (pc : Nat) (L : List (Option Value)) (st : List Value) (σ : gSt) (o : Option ρ) : Prop :=
  ∀ r, o = some r → ∀ (H : Heap) (locs : List Loc) (ls : Array Slot), va_P Γ.1.1 vwCl (gWs Γ.1 σ) H → va_S (fun q => gH0 Γ.1 ≤ q) Γ.2.1.2.2.2.2.heap H locs → gL ls L →
    W Γ.2.1.1 Γ.2.1.2.1 Γ.2.1.2.2.1 Γ.2.1.2.2.2.1 Γ.2.1.2.2.2.2 Γ.2.2.1.1 Γ.2.2.1.2.1 Γ.2.2.1.2.2.1 Γ.2.2.1.2.2.2.1 Γ.2.2.1.2.2.2.2 H locs Γ.2.2.2.1.1 Γ.2.2.2.1.2 (Γ.2.2.2.2 r) (F0 Γ.2.2.1.1 pc ls st)
/-- what stands all through a method -/
def gOk {ρ : Type} (Γ : gX ρ) (cc : ByteArray) (nL : Nat) (own : String) (ret : Option FieldType) (fr lo : Nat) : Prop :=
  Γ.2.1.1.tables.exec = Jvm.exec ∧ Γ.2.2.1.2.2.2.2.code = cc ∧ Γ.2.2.1.2.2.2.2.maxLocals = nL ∧ Γ.2.1.2.2.2.2.vm.findClass own = some Γ.2.2.1.1.cls ∧
  (∀ w ∈ gTb, w.before Γ.2.2.1.2.1 Γ.2.1.2.2.2.2 = true) ∧ gFx Γ.1 Γ.2.1.2.2.2.2 ∧ Γ.2.2.1.2.2.2.1.sig.returnType = ret ∧ Γ.2.2.1.2.2.2.1.locks = false ∧
  fr ≤ Γ.2.1.2.2.2.1.frames ∧ lo ≤ Γ.2.1.2.2.2.1.locals ∧ Γ.2.2.2.1.1 ≤ Γ.2.1.2.2.2.1.cells ∧ Γ.2.2.2.1.2 ≤ Γ.2.1.2.2.2.1.slots
/-- a name for a value -/
def lt {α β : Type} (x : α) (f : α → β) : β := f x
def b2 {α β ρ : Type} (o : Option (α × β)) (f : α → β → Option ρ) : Option ρ := o.bind fun x => f x.1 x.2
def rd (n : Nat) (σ : gSt) (k : Nat) (i : Int32) : Option Int32 := if i < 0 ∨ n ≤ i.toNatClampNeg then none else some (σ k i.toNatClampNeg)
def wr (n : Nat) (σ : gSt) (k : Nat) (i v : Int32) : Option gSt := if i < 0 ∨ n ≤ i.toNatClampNeg then none else some (gu σ k (upd (σ k) i.toNatClampNeg v))
def rdq (n : Nat) (k : Nat) (i : Int32) : Option Nat := if i < 0 ∨ n ≤ i.toNatClampNeg then none else some (k + gQ0 + gQd * i.toNatClampNeg)
def dv (x y : Int32) : Option Int32 := if y = 0 then none else some (x / y)
def rm (x y : Int32) : Option Int32 := if y = 0 then none else some (x - x / y * y)
def fop (z : UInt32) : Option UInt32 := if z &&& 0x7fffffff ≤ 0x7f800000 then some z else none
def cpy (n0 n1 : Nat) (σ : gSt) (k0 : Nat) (sp : Int32) (k1 : Nat) (dp n : Int32) : Option gSt :=
  if sp < 0 ∨ dp < 0 ∨ n < 0 ∨ n0 < sp.toNatClampNeg + n.toNatClampNeg ∨ n1 < dp.toNatClampNeg + n.toNatClampNeg then none
  else some (gu σ k1 (va_cpy (σ k0) (σ k1) sp.toNatClampNeg dp.toNatClampNeg n.toNatClampNeg))
def zb (v : Int32) : Option Int32 := if v = 0 ∨ v = 1 then some v else none
theorem some_bind {α β : Type} {o : Option α} {f : α → Option β} {r : β} (h : o.bind f = some r) : ∃ a, o = some a ∧ f a = some r := Option.bind_eq_some_iff.mp h
theorem some_b2 {α β ρ : Type} {o : Option (α × β)} {f : α → β → Option ρ} {r : ρ} (h : b2 o f = some r) : ∃ a b, o = some (a, b) ∧ f a b = some r := by
  obtain ⟨⟨a, b⟩, h1, h2⟩ := some_bind h
  exact ⟨a, b, h1, h2⟩
theorem some_if {ρ : Type} {c : Prop} [Decidable c] {x r : ρ} (h : (if c then none else some x) = some r) : ¬ c ∧ x = r := by
  split at h
  · cases h
  · next hc => exact ⟨hc, by cases h; rfl⟩
theorem some_ifp {ρ : Type} {c : Prop} [Decidable c] {x r : ρ} (h : (if c then some x else none) = some r) : c ∧ x = r := by
  split at h
  · next hc => exact ⟨hc, by cases h; rfl⟩
  · cases h
section Rows
variable {ρ : Type} {Γ : gX ρ} {cc : ByteArray} {nL : Nat} {own : String} {ret : Option FieldType} {fr lo : Nat} {pc : Nat} {L : List (Option Value)} {st : List Value} {σ : gSt} {o : Option ρ}
theorem At.weak {L' : List (Option Value)} (hl : gLe L' L) (k : At Γ pc L' st σ o) : At Γ pc L st σ o :=
  fun r hr H locs ls hP hS hL => k r hr H locs ls hP hS (gLw hL (gLe_get L' L hl).1 (gLe_get L' L hl).2)
theorem x_iload_n (h : gOk Γ cc nL own ret fr lo) {k : Fin 4} {i : Nat} {x : Int32} (hd : decode cc pc = .ok (.iload_n k, 1)) (hi : (k : Nat) = i) (hl : L[i]? = some (some (.int x))) (kk : At Γ (pc + 1) L (.int x :: st) σ o) : At Γ pc L st σ o :=
  fun r hr H locs ls hP hS hL => lv_iload_n h.1 h.2.1 hd hi (hL.2.2 i _ hl).1 (kk r hr H locs ls hP hS hL)
theorem x_iload (h : gOk Γ cc nL own ret fr lo) {i : Nat} {x : Int32} (hd : decode cc pc = .ok (.iload i, 2)) (hl : L[i]? = some (some (.int x))) (kk : At Γ (pc + 2) L (.int x :: st) σ o) : At Γ pc L st σ o :=
  fun r hr H locs ls hP hS hL => lv_iload h.1 h.2.1 hd (hL.2.2 i _ hl).1 (kk r hr H locs ls hP hS hL)
theorem x_fload_n (h : gOk Γ cc nL own ret fr lo) {k : Fin 4} {i : Nat} {x : UInt32} (hd : decode cc pc = .ok (.fload_n k, 1)) (hi : (k : Nat) = i) (hl : L[i]? = some (some (.float x))) (kk : At Γ (pc + 1) L (.float x :: st) σ o) : At Γ pc L st σ o :=
  fun r hr H locs ls hP hS hL => lv_fload_n h.1 h.2.1 hd hi (hL.2.2 i _ hl).1 (kk r hr H locs ls hP hS hL)
theorem x_aload_n (h : gOk Γ cc nL own ret fr lo) {k : Fin 4} {i : Nat} {x : Nat} (hd : decode cc pc = .ok (.aload_n k, 1)) (hi : (k : Nat) = i) (hl : L[i]? = some (some (.ref x))) (kk : At Γ (pc + 1) L (.ref x :: st) σ o) : At Γ pc L st σ o :=
  fun r hr H locs ls hP hS hL => lv_aload_n h.1 h.2.1 hd hi (hL.2.2 i _ hl).1 (kk r hr H locs ls hP hS hL)
theorem x_istore_n (h : gOk Γ cc nL own ret fr lo) {k : Fin 4} {i : Nat} {x : Int32} {L' : List (Option Value)} (hd : decode cc pc = .ok (.istore_n k, 1)) (hi : (k : Nat) = i) (hn : i < L.length) (hl : L.set i (some (.int x)) = L') (kk : At Γ (pc + 1) L' st σ o) : At Γ pc L (.int x :: st) σ o :=
  fun r hr H locs ls hP hS hL => lv_istore_n h.1 h.2.1 hd hi (gLh hL) hn rfl (fun ls' h' => kk r hr H locs ls' hP hS (gLs hL rfl hl h'))
theorem x_istore (h : gOk Γ cc nL own ret fr lo) {i : Nat} {x : Int32} {L' : List (Option Value)} (hd : decode cc pc = .ok (.istore i, 2)) (hn : i < L.length) (hl : L.set i (some (.int x)) = L') (kk : At Γ (pc + 2) L' st σ o) : At Γ pc L (.int x :: st) σ o :=
  fun r hr H locs ls hP hS hL => lv_istore h.1 h.2.1 hd (gLh hL) hn rfl (fun ls' h' => kk r hr H locs ls' hP hS (gLs hL rfl hl h'))
theorem x_fstore_n (h : gOk Γ cc nL own ret fr lo) {k : Fin 4} {i : Nat} {x : UInt32} {L' : List (Option Value)} (hd : decode cc pc = .ok (.fstore_n k, 1)) (hi : (k : Nat) = i) (hn : i < L.length) (hl : L.set i (some (.float x)) = L') (kk : At Γ (pc + 1) L' st σ o) : At Γ pc L (.float x :: st) σ o :=
  fun r hr H locs ls hP hS hL => lv_fstore_n h.1 h.2.1 hd hi (gLh hL) hn rfl (fun ls' h' => kk r hr H locs ls' hP hS (gLs hL rfl hl h'))
theorem x_iinc (h : gOk Γ cc nL own ret fr lo) {i : Nat} {n : Int} {x v : Int32} {L' : List (Option Value)} (hd : decode cc pc = .ok (.iinc i n, 3)) (hk : L[i]? = some (some (.int x))) (hv : x + Int32.ofInt n = v) (hl : L.set i (some (.int v)) = L') (kk : At Γ (pc + 3) L' st σ o) : At Γ pc L st σ o := by
  intro r hr H locs ls hP hS hL
  obtain ⟨j, hj⟩ := List.getElem?_of_mem (gAlM.mpr hk)
  exact lv_iinc h.1 h.2.1 hd (gLh hL) hj hv (List.getElem?_eq_some_iff.mp hk).1 rfl (fun ls' h' => kk r hr H locs ls' hP hS (gLs hL rfl hl h'))
theorem x_iconst (h : gOk Γ cc nL own ret fr lo) {n : Int} {v : Int32} (hd : decode cc pc = .ok (.iconst n, 1)) (hv : Int32.ofInt n = v) (kk : At Γ (pc + 1) L (.int v :: st) σ o) : At Γ pc L st σ o :=
  fun r hr H locs ls hP hS hL => lv_iconst h.1 h.2.1 hd hv (kk r hr H locs ls hP hS hL)
theorem x_bipush (h : gOk Γ cc nL own ret fr lo) {n : Int} {v : Int32} (hd : decode cc pc = .ok (.bipush n, 2)) (hv : (Int8.ofInt n).toInt32 = v) (kk : At Γ (pc + 2) L (.int v :: st) σ o) : At Γ pc L st σ o :=
  fun r hr H locs ls hP hS hL => lv_bipush h.1 h.2.1 hd hv (kk r hr H locs ls hP hS hL)
theorem x_sipush (h : gOk Γ cc nL own ret fr lo) {n : Int} {v : Int32} (hd : decode cc pc = .ok (.sipush n, 3)) (hv : (Int16.ofInt n).toInt32 = v) (kk : At Γ (pc + 3) L (.int v :: st) σ o) : At Γ pc L st σ o :=
  fun r hr H locs ls hP hS hL => lv_sipush h.1 h.2.1 hd hv (kk r hr H locs ls hP hS hL)
theorem x_ldc (h : gOk Γ cc nL own ret fr lo) {index : Nat} {v : Int32} (hw : Cond.constant own index v ∈ gTb) (hd : decode cc pc = .ok (.ldc index, 2)) (kk : At Γ (pc + 2) L (.int v :: st) σ o) : At Γ pc L st σ o :=
  fun r hr H locs ls hP hS hL => lv_ldc h.1 h.2.1 h.2.2.2.1 (h.2.2.2.2.1 _ hw) hd (kk r hr H locs ls hP hS hL)
theorem x_ldcw (h : gOk Γ cc nL own ret fr lo) {index : Nat} {v : Int32} (hw : Cond.constant own index v ∈ gTb) (hd : decode cc pc = .ok (.ldc_w index, 3)) (kk : At Γ (pc + 3) L (.int v :: st) σ o) : At Γ pc L st σ o :=
  fun r hr H locs ls hP hS hL => lv_ldcw h.1 h.2.1 h.2.2.2.1 (h.2.2.2.2.1 _ hw) hd (kk r hr H locs ls hP hS hL)
theorem x_ldcf (h : gOk Γ cc nL own ret fr lo) {index : Nat} {v : UInt32} (hw : Cond.constantFloat own index v ∈ gTb) (hd : decode cc pc = .ok (.ldc index, 2)) (kk : At Γ (pc + 2) L (.float v :: st) σ o) : At Γ pc L st σ o :=
  fun r hr H locs ls hP hS hL => lv_ldcf h.1 h.2.1 h.2.2.2.1 (h.2.2.2.2.1 _ hw) hd (kk r hr H locs ls hP hS hL)
theorem x_fconst0 (h : gOk Γ cc nL own ret fr lo) (hd : decode cc pc = .ok (.fconst 0, 1)) (kk : At Γ (pc + 1) L (.float FP.fconst0 :: st) σ o) : At Γ pc L st σ o :=
  fun r hr H locs ls hP hS hL => lv_fconst0 h.1 h.2.1 hd (kk r hr H locs ls hP hS hL)
theorem x_fconst1 (h : gOk Γ cc nL own ret fr lo) (hd : decode cc pc = .ok (.fconst 1, 1)) (kk : At Γ (pc + 1) L (.float FP.fconst1 :: st) σ o) : At Γ pc L st σ o :=
  fun r hr H locs ls hP hS hL => lv_fconst1 h.1 h.2.1 hd (kk r hr H locs ls hP hS hL)
theorem x_fconst2 (h : gOk Γ cc nL own ret fr lo) (hd : decode cc pc = .ok (.fconst 2, 1)) (kk : At Γ (pc + 1) L (.float FP.fconst2 :: st) σ o) : At Γ pc L st σ o :=
  fun r hr H locs ls hP hS hL => lv_fconst2 h.1 h.2.1 hd (kk r hr H locs ls hP hS hL)
theorem x_iadd (h : gOk Γ cc nL own ret fr lo) {x y : Int32} (hd : decode cc pc = .ok (.iadd, 1)) (kk : At Γ (pc + 1) L (.int (x + y) :: st) σ o) : At Γ pc L (.int y :: .int x :: st) σ o :=
  fun r hr H locs ls hP hS hL => lv_iadd h.1 h.2.1 hd (kk r hr H locs ls hP hS hL)
theorem x_isub (h : gOk Γ cc nL own ret fr lo) {x y : Int32} (hd : decode cc pc = .ok (.isub, 1)) (kk : At Γ (pc + 1) L (.int (x - y) :: st) σ o) : At Γ pc L (.int y :: .int x :: st) σ o :=
  fun r hr H locs ls hP hS hL => lv_isub h.1 h.2.1 hd (kk r hr H locs ls hP hS hL)
theorem x_imul (h : gOk Γ cc nL own ret fr lo) {x y : Int32} (hd : decode cc pc = .ok (.imul, 1)) (kk : At Γ (pc + 1) L (.int (x * y) :: st) σ o) : At Γ pc L (.int y :: .int x :: st) σ o :=
  fun r hr H locs ls hP hS hL => lv_imul h.1 h.2.1 hd (kk r hr H locs ls hP hS hL)
theorem x_iand (h : gOk Γ cc nL own ret fr lo) {x y : Int32} (hd : decode cc pc = .ok (.iand, 1)) (kk : At Γ (pc + 1) L (.int (x &&& y) :: st) σ o) : At Γ pc L (.int y :: .int x :: st) σ o :=
  fun r hr H locs ls hP hS hL => lv_iand h.1 h.2.1 hd (kk r hr H locs ls hP hS hL)
theorem x_ior (h : gOk Γ cc nL own ret fr lo) {x y : Int32} (hd : decode cc pc = .ok (.ior, 1)) (kk : At Γ (pc + 1) L (.int (x ||| y) :: st) σ o) : At Γ pc L (.int y :: .int x :: st) σ o :=
  fun r hr H locs ls hP hS hL => lv_ior h.1 h.2.1 hd (kk r hr H locs ls hP hS hL)
theorem x_ixor (h : gOk Γ cc nL own ret fr lo) {x y : Int32} (hd : decode cc pc = .ok (.ixor, 1)) (kk : At Γ (pc + 1) L (.int (x ^^^ y) :: st) σ o) : At Γ pc L (.int y :: .int x :: st) σ o :=
  fun r hr H locs ls hP hS hL => lv_ixor h.1 h.2.1 hd (kk r hr H locs ls hP hS hL)
theorem x_ineg (h : gOk Γ cc nL own ret fr lo) {x : Int32} (hd : decode cc pc = .ok (.ineg, 1)) (kk : At Γ (pc + 1) L (.int (-x) :: st) σ o) : At Γ pc L (.int x :: st) σ o :=
  fun r hr H locs ls hP hS hL => lv_ineg h.1 h.2.1 hd (kk r hr H locs ls hP hS hL)
theorem x_ishl (h : gOk Γ cc nL own ret fr lo) {x y : Int32} (hd : decode cc pc = .ok (.ishl, 1)) (kk : At Γ (pc + 1) L (.int (x <<< (y &&& 31)) :: st) σ o) : At Γ pc L (.int y :: .int x :: st) σ o :=
  fun r hr H locs ls hP hS hL => lv_ishl h.1 h.2.1 hd (kk r hr H locs ls hP hS hL)
theorem x_ishr (h : gOk Γ cc nL own ret fr lo) {x y : Int32} (hd : decode cc pc = .ok (.ishr, 1)) (kk : At Γ (pc + 1) L (.int (x >>> (y &&& 31)) :: st) σ o) : At Γ pc L (.int y :: .int x :: st) σ o :=
  fun r hr H locs ls hP hS hL => lv_ishr h.1 h.2.1 hd (kk r hr H locs ls hP hS hL)
def ushr (x y : Int32) : Int32 := (x.toUInt32 >>> (y.toUInt32 &&& Int32.toUInt32 31)).toInt32
theorem x_iushr (h : gOk Γ cc nL own ret fr lo) {x y : Int32} (hd : decode cc pc = .ok (.iushr, 1)) (kk : At Γ (pc + 1) L (.int (ushr x y) :: st) σ o) : At Γ pc L (.int y :: .int x :: st) σ o :=
  fun r hr H locs ls hP hS hL => lv_iushr h.1 h.2.1 hd rfl (kk r hr H locs ls hP hS hL)
theorem x_idiv (h : gOk Γ cc nL own ret fr lo) {x y : Int32} {f : Int32 → Option ρ} (hd : decode cc pc = .ok (.idiv, 1)) (kk : ∀ z, At Γ (pc + 1) L (.int z :: st) σ (f z)) : At Γ pc L (.int y :: .int x :: st) σ ((dv x y).bind f) := by
  intro r hr H locs ls hP hS hL
  obtain ⟨a, ha, hf⟩ := some_bind hr
  obtain ⟨hc, rfl⟩ := some_if ha
  exact lv_idiv h.1 h.2.1 hd hc (kk _ r hf H locs ls hP hS hL)
theorem x_irem (h : gOk Γ cc nL own ret fr lo) {x y : Int32} {f : Int32 → Option ρ} (hd : decode cc pc = .ok (.irem, 1)) (kk : ∀ z, At Γ (pc + 1) L (.int z :: st) σ (f z)) : At Γ pc L (.int y :: .int x :: st) σ ((rm x y).bind f) := by
  intro r hr H locs ls hP hS hL
  obtain ⟨a, ha, hf⟩ := some_bind hr
  obtain ⟨hc, rfl⟩ := some_if ha
  exact lv_irem h.1 h.2.1 hd hc (kk _ r hf H locs ls hP hS hL)
theorem x_fmul (h : gOk Γ cc nL own ret fr lo) {x y : UInt32} {f : UInt32 → Option ρ} (hd : decode cc pc = .ok (.fmul, 1)) (kk : ∀ z, At Γ (pc + 1) L (.float z :: st) σ (f z)) : At Γ pc L (.float y :: .float x :: st) σ ((fop (FP.fmul x y)).bind f) := by
  intro r hr H locs ls hP hS hL
  obtain ⟨a, ha, hf⟩ := some_bind hr
  obtain ⟨hc, rfl⟩ := some_ifp ha
  exact lv_fmul h.1 h.2.1 hd hc (kk _ r hf H locs ls hP hS hL)
theorem x_fdiv (h : gOk Γ cc nL own ret fr lo) {x y : UInt32} {f : UInt32 → Option ρ} (hd : decode cc pc = .ok (.fdiv, 1)) (kk : ∀ z, At Γ (pc + 1) L (.float z :: st) σ (f z)) : At Γ pc L (.float y :: .float x :: st) σ ((fop (FP.fdiv x y)).bind f) := by
  intro r hr H locs ls hP hS hL
  obtain ⟨a, ha, hf⟩ := some_bind hr
  obtain ⟨hc, rfl⟩ := some_ifp ha
  exact lv_fdiv h.1 h.2.1 hd hc (kk _ r hf H locs ls hP hS hL)
theorem x_fsub (h : gOk Γ cc nL own ret fr lo) {x y : UInt32} {f : UInt32 → Option ρ} (hd : decode cc pc = .ok (.fsub, 1)) (kk : ∀ z, At Γ (pc + 1) L (.float z :: st) σ (f z)) : At Γ pc L (.float y :: .float x :: st) σ ((fop (FP.fsub x y)).bind f) := by
  intro r hr H locs ls hP hS hL
  obtain ⟨a, ha, hf⟩ := some_bind hr
  obtain ⟨hc, rfl⟩ := some_ifp ha
  exact lv_fsub h.1 h.2.1 hd hc (kk _ r hf H locs ls hP hS hL)
theorem x_fadd (h : gOk Γ cc nL own ret fr lo) {x y : UInt32} {f : UInt32 → Option ρ} (hd : decode cc pc = .ok (.fadd, 1)) (kk : ∀ z, At Γ (pc + 1) L (.float z :: st) σ (f z)) : At Γ pc L (.float y :: .float x :: st) σ ((fop (FP.fadd x y)).bind f) := by
  intro r hr H locs ls hP hS hL
  obtain ⟨a, ha, hf⟩ := some_bind hr
  obtain ⟨hc, rfl⟩ := some_ifp ha
  exact lv_fadd h.1 h.2.1 hd hc (kk _ r hf H locs ls hP hS hL)
theorem x_fcmp (h : gOk Γ cc nL own ret fr lo) {x y : UInt32} {op : CmpOp} (hd : decode cc pc = .ok (.fcmp op, 1)) (kk : At Γ (pc + 1) L (.int (Op.cmpValue (FP.fcmp x y) op) :: st) σ o) : At Γ pc L (.float y :: .float x :: st) σ o :=
  fun r hr H locs ls hP hS hL => lv_fcmp h.1 h.2.1 hd (kk r hr H locs ls hP hS hL)
theorem x_i2f (h : gOk Γ cc nL own ret fr lo) {x : Int32} (hd : decode cc pc = .ok (.i2f, 1)) (kk : At Γ (pc + 1) L (.float (FP.i2f x) :: st) σ o) : At Γ pc L (.int x :: st) σ o :=
  fun r hr H locs ls hP hS hL => lv_i2f h.1 h.2.1 hd (kk r hr H locs ls hP hS hL)
theorem x_f2i (h : gOk Γ cc nL own ret fr lo) {x : UInt32} (hd : decode cc pc = .ok (.f2i, 1)) (kk : At Γ (pc + 1) L (.int (FP.f2i x) :: st) σ o) : At Γ pc L (.float x :: st) σ o :=
  fun r hr H locs ls hP hS hL => lv_f2i h.1 h.2.1 hd (kk r hr H locs ls hP hS hL)
theorem x_dup (h : gOk Γ cc nL own ret fr lo) {v : Value} (hd : decode cc pc = .ok (.dup, 1)) (hv : v.category = 1) (kk : At Γ (pc + 1) L (v :: v :: st) σ o) : At Γ pc L (v :: st) σ o :=
  fun r hr H locs ls hP hS hL => lv_dup h.1 h.2.1 hd hv (kk r hr H locs ls hP hS hL)
theorem x_dup2 (h : gOk Γ cc nL own ret fr lo) {v w : Value} (hd : decode cc pc = .ok (.dup2, 1)) (hv : v.category = 1) (hw : w.category = 1) (kk : At Γ (pc + 1) L (v :: w :: v :: w :: st) σ o) : At Γ pc L (v :: w :: st) σ o :=
  fun r hr H locs ls hP hS hL => lv_dup2_11 h.1 h.2.1 hd hv hw (kk r hr H locs ls hP hS hL)
theorem x_pop (h : gOk Γ cc nL own ret fr lo) {v : Value} (hd : decode cc pc = .ok (.pop, 1)) (hv : v.category = 1) (kk : At Γ (pc + 1) L st σ o) : At Γ pc L (v :: st) σ o :=
  fun r hr H locs ls hP hS hL => lv_pop h.1 h.2.1 hd hv (kk r hr H locs ls hP hS hL)
/-- a value gets a name -/
theorem x_lt {x : Int32} {f : Int32 → Option ρ} (kk : ∀ z, At Γ pc L (.int z :: st) σ (f z)) : At Γ pc L (.int x :: st) σ (lt x f) := kk x
theorem x_lt2 {x : Int32} {v : Value} {f : Int32 → Option ρ} (kk : ∀ z, At Γ pc L (v :: .int z :: st) σ (f z)) : At Γ pc L (v :: .int x :: st) σ (lt x f) := kk x
theorem x_goto (h : gOk Γ cc nL own ret fr lo) {off : Int} {tgt : Nat} (hd : decode cc pc = .ok (.goto off, 3)) (ht : (pc : Int) + off = (tgt : Int)) (kk : At Γ tgt L st σ o) : At Γ pc L st σ o :=
  fun r hr H locs ls hP hS hL => lv_goto h.1 h.2.1 hd ht (kk r hr H locs ls hP hS hL)
theorem some_ite {c : Prop} [Decidable c] {o1 o2 : Option ρ} {r : ρ} (h : (if c then o1 else o2) = some r) : (c → o1 = some r) ∧ (¬ c → o2 = some r) := ⟨fun hc => by rwa [if_pos hc] at h, fun hc => by rwa [if_neg hc] at h⟩
theorem x_if_eq (h : gOk Γ cc nL own ret fr lo) {x : Int32} [Decidable (x = 0)] {off : Int} {tgt : Nat} {o1 o2 : Option ρ} (hd : decode cc pc = .ok (.ifCond .eq off, 3)) (ht : (pc : Int) + off = (tgt : Int)) (kt : At Γ tgt L st σ o1) (kf : At Γ (pc + 3) L st σ o2) : At Γ pc L (.int x :: st) σ (if x = 0 then o1 else o2) :=
  fun r hr H locs ls hP hS hL => lv_if_eq h.1 h.2.1 hd ht (fun hc => kt r ((some_ite hr).1 hc) H locs ls hP hS hL) (fun hc => kf r ((some_ite hr).2 hc) H locs ls hP hS hL)
theorem j_if_eq (h : gOk Γ cc nL own ret fr lo) {x : Int32} {off : Int} {tgt : Nat} (hd : decode cc pc = .ok (.ifCond .eq off, 3)) (ht : (pc : Int) + off = (tgt : Int)) (kt : x = 0 → At Γ tgt L st σ o) (kf : ¬ x = 0 → At Γ (pc + 3) L st σ o) : At Γ pc L (.int x :: st) σ o :=
  fun r hr H locs ls hP hS hL => lv_if_eq h.1 h.2.1 hd ht (fun hc => kt hc r hr H locs ls hP hS hL) (fun hc => kf hc r hr H locs ls hP hS hL)
theorem x_icmp_eq (h : gOk Γ cc nL own ret fr lo) {x y : Int32} [Decidable (x = y)] {off : Int} {tgt : Nat} {o1 o2 : Option ρ} (hd : decode cc pc = .ok (.if_icmp .eq off, 3)) (ht : (pc : Int) + off = (tgt : Int)) (kt : At Γ tgt L st σ o1) (kf : At Γ (pc + 3) L st σ o2) : At Γ pc L (.int y :: .int x :: st) σ (if x = y then o1 else o2) :=
  fun r hr H locs ls hP hS hL => lv_icmp_eq h.1 h.2.1 hd ht (fun hc => kt r ((some_ite hr).1 hc) H locs ls hP hS hL) (fun hc => kf r ((some_ite hr).2 hc) H locs ls hP hS hL)
theorem j_icmp_eq (h : gOk Γ cc nL own ret fr lo) {x y : Int32} {off : Int} {tgt : Nat} (hd : decode cc pc = .ok (.if_icmp .eq off, 3)) (ht : (pc : Int) + off = (tgt : Int)) (kt : x = y → At Γ tgt L st σ o) (kf : ¬ x = y → At Γ (pc + 3) L st σ o) : At Γ pc L (.int y :: .int x :: st) σ o :=
  fun r hr H locs ls hP hS hL => lv_icmp_eq h.1 h.2.1 hd ht (fun hc => kt hc r hr H locs ls hP hS hL) (fun hc => kf hc r hr H locs ls hP hS hL)
theorem x_if_ne (h : gOk Γ cc nL own ret fr lo) {x : Int32} [Decidable (x = 0)] {off : Int} {tgt : Nat} {o1 o2 : Option ρ} (hd : decode cc pc = .ok (.ifCond .ne off, 3)) (ht : (pc : Int) + off = (tgt : Int)) (kt : At Γ tgt L st σ o2) (kf : At Γ (pc + 3) L st σ o1) : At Γ pc L (.int x :: st) σ (if x = 0 then o1 else o2) :=
  fun r hr H locs ls hP hS hL => lv_if_ne h.1 h.2.1 hd ht (fun hc => kt r ((some_ite hr).2 hc) H locs ls hP hS hL) (fun hc => kf r ((some_ite hr).1 hc) H locs ls hP hS hL)
theorem j_if_ne (h : gOk Γ cc nL own ret fr lo) {x : Int32} {off : Int} {tgt : Nat} (hd : decode cc pc = .ok (.ifCond .ne off, 3)) (ht : (pc : Int) + off = (tgt : Int)) (kt : ¬ x = 0 → At Γ tgt L st σ o) (kf : x = 0 → At Γ (pc + 3) L st σ o) : At Γ pc L (.int x :: st) σ o :=
  fun r hr H locs ls hP hS hL => lv_if_ne h.1 h.2.1 hd ht (fun hc => kt hc r hr H locs ls hP hS hL) (fun hc => kf hc r hr H locs ls hP hS hL)
theorem x_icmp_ne (h : gOk Γ cc nL own ret fr lo) {x y : Int32} [Decidable (x = y)] {off : Int} {tgt : Nat} {o1 o2 : Option ρ} (hd : decode cc pc = .ok (.if_icmp .ne off, 3)) (ht : (pc : Int) + off = (tgt : Int)) (kt : At Γ tgt L st σ o2) (kf : At Γ (pc + 3) L st σ o1) : At Γ pc L (.int y :: .int x :: st) σ (if x = y then o1 else o2) :=
  fun r hr H locs ls hP hS hL => lv_icmp_ne h.1 h.2.1 hd ht (fun hc => kt r ((some_ite hr).2 hc) H locs ls hP hS hL) (fun hc => kf r ((some_ite hr).1 hc) H locs ls hP hS hL)
theorem j_icmp_ne (h : gOk Γ cc nL own ret fr lo) {x y : Int32} {off : Int} {tgt : Nat} (hd : decode cc pc = .ok (.if_icmp .ne off, 3)) (ht : (pc : Int) + off = (tgt : Int)) (kt : ¬ x = y → At Γ tgt L st σ o) (kf : x = y → At Γ (pc + 3) L st σ o) : At Γ pc L (.int y :: .int x :: st) σ o :=
  fun r hr H locs ls hP hS hL => lv_icmp_ne h.1 h.2.1 hd ht (fun hc => kt hc r hr H locs ls hP hS hL) (fun hc => kf hc r hr H locs ls hP hS hL)
theorem x_if_lt (h : gOk Γ cc nL own ret fr lo) {x : Int32} [Decidable (x < 0)] {off : Int} {tgt : Nat} {o1 o2 : Option ρ} (hd : decode cc pc = .ok (.ifCond .lt off, 3)) (ht : (pc : Int) + off = (tgt : Int)) (kt : At Γ tgt L st σ o1) (kf : At Γ (pc + 3) L st σ o2) : At Γ pc L (.int x :: st) σ (if x < 0 then o1 else o2) :=
  fun r hr H locs ls hP hS hL => lv_if_lt h.1 h.2.1 hd ht (fun hc => kt r ((some_ite hr).1 hc) H locs ls hP hS hL) (fun hc => kf r ((some_ite hr).2 hc) H locs ls hP hS hL)
theorem j_if_lt (h : gOk Γ cc nL own ret fr lo) {x : Int32} {off : Int} {tgt : Nat} (hd : decode cc pc = .ok (.ifCond .lt off, 3)) (ht : (pc : Int) + off = (tgt : Int)) (kt : x < 0 → At Γ tgt L st σ o) (kf : ¬ x < 0 → At Γ (pc + 3) L st σ o) : At Γ pc L (.int x :: st) σ o :=
  fun r hr H locs ls hP hS hL => lv_if_lt h.1 h.2.1 hd ht (fun hc => kt hc r hr H locs ls hP hS hL) (fun hc => kf hc r hr H locs ls hP hS hL)
theorem x_icmp_lt (h : gOk Γ cc nL own ret fr lo) {x y : Int32} [Decidable (x < y)] {off : Int} {tgt : Nat} {o1 o2 : Option ρ} (hd : decode cc pc = .ok (.if_icmp .lt off, 3)) (ht : (pc : Int) + off = (tgt : Int)) (kt : At Γ tgt L st σ o1) (kf : At Γ (pc + 3) L st σ o2) : At Γ pc L (.int y :: .int x :: st) σ (if x < y then o1 else o2) :=
  fun r hr H locs ls hP hS hL => lv_icmp_lt h.1 h.2.1 hd ht (fun hc => kt r ((some_ite hr).1 hc) H locs ls hP hS hL) (fun hc => kf r ((some_ite hr).2 hc) H locs ls hP hS hL)
theorem j_icmp_lt (h : gOk Γ cc nL own ret fr lo) {x y : Int32} {off : Int} {tgt : Nat} (hd : decode cc pc = .ok (.if_icmp .lt off, 3)) (ht : (pc : Int) + off = (tgt : Int)) (kt : x < y → At Γ tgt L st σ o) (kf : ¬ x < y → At Γ (pc + 3) L st σ o) : At Γ pc L (.int y :: .int x :: st) σ o :=
  fun r hr H locs ls hP hS hL => lv_icmp_lt h.1 h.2.1 hd ht (fun hc => kt hc r hr H locs ls hP hS hL) (fun hc => kf hc r hr H locs ls hP hS hL)
theorem x_if_ge (h : gOk Γ cc nL own ret fr lo) {x : Int32} [Decidable (0 ≤ x)] {off : Int} {tgt : Nat} {o1 o2 : Option ρ} (hd : decode cc pc = .ok (.ifCond .ge off, 3)) (ht : (pc : Int) + off = (tgt : Int)) (kt : At Γ tgt L st σ o1) (kf : At Γ (pc + 3) L st σ o2) : At Γ pc L (.int x :: st) σ (if 0 ≤ x then o1 else o2) :=
  fun r hr H locs ls hP hS hL => lv_if_ge h.1 h.2.1 hd ht (fun hc => kt r ((some_ite hr).1 hc) H locs ls hP hS hL) (fun hc => kf r ((some_ite hr).2 hc) H locs ls hP hS hL)
theorem j_if_ge (h : gOk Γ cc nL own ret fr lo) {x : Int32} {off : Int} {tgt : Nat} (hd : decode cc pc = .ok (.ifCond .ge off, 3)) (ht : (pc : Int) + off = (tgt : Int)) (kt : 0 ≤ x → At Γ tgt L st σ o) (kf : ¬ 0 ≤ x → At Γ (pc + 3) L st σ o) : At Γ pc L (.int x :: st) σ o :=
  fun r hr H locs ls hP hS hL => lv_if_ge h.1 h.2.1 hd ht (fun hc => kt hc r hr H locs ls hP hS hL) (fun hc => kf hc r hr H locs ls hP hS hL)
theorem x_icmp_ge (h : gOk Γ cc nL own ret fr lo) {x y : Int32} [Decidable (y ≤ x)] {off : Int} {tgt : Nat} {o1 o2 : Option ρ} (hd : decode cc pc = .ok (.if_icmp .ge off, 3)) (ht : (pc : Int) + off = (tgt : Int)) (kt : At Γ tgt L st σ o1) (kf : At Γ (pc + 3) L st σ o2) : At Γ pc L (.int y :: .int x :: st) σ (if y ≤ x then o1 else o2) :=
  fun r hr H locs ls hP hS hL => lv_icmp_ge h.1 h.2.1 hd ht (fun hc => kt r ((some_ite hr).1 hc) H locs ls hP hS hL) (fun hc => kf r ((some_ite hr).2 hc) H locs ls hP hS hL)
theorem j_icmp_ge (h : gOk Γ cc nL own ret fr lo) {x y : Int32} {off : Int} {tgt : Nat} (hd : decode cc pc = .ok (.if_icmp .ge off, 3)) (ht : (pc : Int) + off = (tgt : Int)) (kt : y ≤ x → At Γ tgt L st σ o) (kf : ¬ y ≤ x → At Γ (pc + 3) L st σ o) : At Γ pc L (.int y :: .int x :: st) σ o :=
  fun r hr H locs ls hP hS hL => lv_icmp_ge h.1 h.2.1 hd ht (fun hc => kt hc r hr H locs ls hP hS hL) (fun hc => kf hc r hr H locs ls hP hS hL)
theorem x_if_gt (h : gOk Γ cc nL own ret fr lo) {x : Int32} [Decidable (0 < x)] {off : Int} {tgt : Nat} {o1 o2 : Option ρ} (hd : decode cc pc = .ok (.ifCond .gt off, 3)) (ht : (pc : Int) + off = (tgt : Int)) (kt : At Γ tgt L st σ o1) (kf : At Γ (pc + 3) L st σ o2) : At Γ pc L (.int x :: st) σ (if 0 < x then o1 else o2) :=
  fun r hr H locs ls hP hS hL => lv_if_gt h.1 h.2.1 hd ht (fun hc => kt r ((some_ite hr).1 hc) H locs ls hP hS hL) (fun hc => kf r ((some_ite hr).2 hc) H locs ls hP hS hL)
theorem j_if_gt (h : gOk Γ cc nL own ret fr lo) {x : Int32} {off : Int} {tgt : Nat} (hd : decode cc pc = .ok (.ifCond .gt off, 3)) (ht : (pc : Int) + off = (tgt : Int)) (kt : 0 < x → At Γ tgt L st σ o) (kf : ¬ 0 < x → At Γ (pc + 3) L st σ o) : At Γ pc L (.int x :: st) σ o :=
  fun r hr H locs ls hP hS hL => lv_if_gt h.1 h.2.1 hd ht (fun hc => kt hc r hr H locs ls hP hS hL) (fun hc => kf hc r hr H locs ls hP hS hL)
theorem x_icmp_gt (h : gOk Γ cc nL own ret fr lo) {x y : Int32} [Decidable (y < x)] {off : Int} {tgt : Nat} {o1 o2 : Option ρ} (hd : decode cc pc = .ok (.if_icmp .gt off, 3)) (ht : (pc : Int) + off = (tgt : Int)) (kt : At Γ tgt L st σ o1) (kf : At Γ (pc + 3) L st σ o2) : At Γ pc L (.int y :: .int x :: st) σ (if y < x then o1 else o2) :=
  fun r hr H locs ls hP hS hL => lv_icmp_gt h.1 h.2.1 hd ht (fun hc => kt r ((some_ite hr).1 hc) H locs ls hP hS hL) (fun hc => kf r ((some_ite hr).2 hc) H locs ls hP hS hL)
theorem j_icmp_gt (h : gOk Γ cc nL own ret fr lo) {x y : Int32} {off : Int} {tgt : Nat} (hd : decode cc pc = .ok (.if_icmp .gt off, 3)) (ht : (pc : Int) + off = (tgt : Int)) (kt : y < x → At Γ tgt L st σ o) (kf : ¬ y < x → At Γ (pc + 3) L st σ o) : At Γ pc L (.int y :: .int x :: st) σ o :=
  fun r hr H locs ls hP hS hL => lv_icmp_gt h.1 h.2.1 hd ht (fun hc => kt hc r hr H locs ls hP hS hL) (fun hc => kf hc r hr H locs ls hP hS hL)
theorem x_if_le (h : gOk Γ cc nL own ret fr lo) {x : Int32} [Decidable (x ≤ 0)] {off : Int} {tgt : Nat} {o1 o2 : Option ρ} (hd : decode cc pc = .ok (.ifCond .le off, 3)) (ht : (pc : Int) + off = (tgt : Int)) (kt : At Γ tgt L st σ o1) (kf : At Γ (pc + 3) L st σ o2) : At Γ pc L (.int x :: st) σ (if x ≤ 0 then o1 else o2) :=
  fun r hr H locs ls hP hS hL => lv_if_le h.1 h.2.1 hd ht (fun hc => kt r ((some_ite hr).1 hc) H locs ls hP hS hL) (fun hc => kf r ((some_ite hr).2 hc) H locs ls hP hS hL)
theorem j_if_le (h : gOk Γ cc nL own ret fr lo) {x : Int32} {off : Int} {tgt : Nat} (hd : decode cc pc = .ok (.ifCond .le off, 3)) (ht : (pc : Int) + off = (tgt : Int)) (kt : x ≤ 0 → At Γ tgt L st σ o) (kf : ¬ x ≤ 0 → At Γ (pc + 3) L st σ o) : At Γ pc L (.int x :: st) σ o :=
  fun r hr H locs ls hP hS hL => lv_if_le h.1 h.2.1 hd ht (fun hc => kt hc r hr H locs ls hP hS hL) (fun hc => kf hc r hr H locs ls hP hS hL)
theorem x_icmp_le (h : gOk Γ cc nL own ret fr lo) {x y : Int32} [Decidable (x ≤ y)] {off : Int} {tgt : Nat} {o1 o2 : Option ρ} (hd : decode cc pc = .ok (.if_icmp .le off, 3)) (ht : (pc : Int) + off = (tgt : Int)) (kt : At Γ tgt L st σ o1) (kf : At Γ (pc + 3) L st σ o2) : At Γ pc L (.int y :: .int x :: st) σ (if x ≤ y then o1 else o2) :=
  fun r hr H locs ls hP hS hL => lv_icmp_le h.1 h.2.1 hd ht (fun hc => kt r ((some_ite hr).1 hc) H locs ls hP hS hL) (fun hc => kf r ((some_ite hr).2 hc) H locs ls hP hS hL)
theorem j_icmp_le (h : gOk Γ cc nL own ret fr lo) {x y : Int32} {off : Int} {tgt : Nat} (hd : decode cc pc = .ok (.if_icmp .le off, 3)) (ht : (pc : Int) + off = (tgt : Int)) (kt : x ≤ y → At Γ tgt L st σ o) (kf : ¬ x ≤ y → At Γ (pc + 3) L st σ o) : At Γ pc L (.int y :: .int x :: st) σ o :=
  fun r hr H locs ls hP hS hL => lv_icmp_le h.1 h.2.1 hd ht (fun hc => kt hc r hr H locs ls hP hS hL) (fun hc => kf hc r hr H locs ls hP hS hL)
theorem x_ifnull (h : gOk Γ cc nL own ret fr lo) {q : Nat} {off : Int} (hd : decode cc pc = .ok (.ifnull off, 3)) (kk : At Γ (pc + 3) L st σ o) : At Γ pc L (.ref q :: st) σ o :=
  fun r hr H locs ls hP hS hL => lv_ifnull h.1 h.2.1 hd (kk r hr H locs ls hP hS hL)
theorem x_ifnonnull (h : gOk Γ cc nL own ret fr lo) {q : Nat} {off : Int} {tgt : Nat} (hd : decode cc pc = .ok (.ifnonnull off, 3)) (ht : (pc : Int) + off = (tgt : Int)) (kk : At Γ tgt L st σ o) : At Γ pc L (.ref q :: st) σ o :=
  fun r hr H locs ls hP hS hL => lv_ifnonnull h.1 h.2.1 hd ht (kk r hr H locs ls hP hS hL)
/-- switches, a value a row -/
theorem x_tsw (h : gOk Γ cc nL own ret fr lo) {x : Int32} (v : Int32) (n : Int) {dflt lo' hi' : Int} {offs : Array Int} {len : Nat} {off : Int} {tgt : Nat} {o1 o2 : Option ρ} (hd : decode cc pc = .ok (.tableswitch dflt lo' hi' offs, len)) (hv : v.toInt = n) (h1 : lo' ≤ n) (h2 : n ≤ hi') (ho : offs[(n - lo').toNat]? = some off) (ht : (pc : Int) + off = (tgt : Int))
    (kt : At Γ tgt L st σ o1) (kf : ¬ x = v → At Γ pc L (.int x :: st) σ o2) : At Γ pc L (.int x :: st) σ (if x = v then o1 else o2) := by
  intro r hr H locs ls hP hS hL
  by_cases hc : x = v
  · subst hc
    exact lv_tableIn h.1 h.2.1 hd (by omega) (by omega) (by rw [hv]; exact ho) ht (kt r ((some_ite hr).1 rfl) H locs ls hP hS hL)
  · exact kf hc r ((some_ite hr).2 hc) H locs ls hP hS hL
theorem x_tswd (h : gOk Γ cc nL own ret fr lo) {x : Int32} {dflt lo' hi' : Int} {offs : Array Int} {len : Nat} {tgt : Nat} (hd : decode cc pc = .ok (.tableswitch dflt lo' hi' offs, len)) (hx : x.toInt < lo' ∨ hi' < x.toInt) (ht : (pc : Int) + dflt = (tgt : Int))
    (kt : At Γ tgt L st σ o) : At Γ pc L (.int x :: st) σ o :=
  fun r hr H locs ls hP hS hL => lv_tableOut h.1 h.2.1 hd hx ht (kt r hr H locs ls hP hS hL)
theorem x_lsw (h : gOk Γ cc nL own ret fr lo) {x : Int32} (v : Int32) {dflt : Int} {ps : Array (Int × Int)} {len : Nat} {off : Int} {tgt : Nat} {o1 o2 : Option ρ} (hd : decode cc pc = .ok (.lookupswitch dflt ps, len)) (hp : (ps.toList.zip (ps.toList.drop 1)).all (fun (a, next) => a.1 < next.1) = true) (ho : Op.lookupswitch.offset ps.toList dflt v.toInt = off) (ht : (pc : Int) + off = (tgt : Int))
    (kt : At Γ tgt L st σ o1) (kf : ¬ x = v → At Γ pc L (.int x :: st) σ o2) : At Γ pc L (.int x :: st) σ (if x = v then o1 else o2) := by
  intro r hr H locs ls hP hS hL
  by_cases hc : x = v
  · subst hc
    exact lv_lookup h.1 h.2.1 hd hp ho ht (kt r ((some_ite hr).1 rfl) H locs ls hP hS hL)
  · exact kf hc r ((some_ite hr).2 hc) H locs ls hP hS hL
theorem x_lswd (h : gOk Γ cc nL own ret fr lo) {x : Int32} {dflt : Int} {ps : Array (Int × Int)} {len : Nat} {tgt : Nat} (hd : decode cc pc = .ok (.lookupswitch dflt ps, len)) (hp : (ps.toList.zip (ps.toList.drop 1)).all (fun (a, next) => a.1 < next.1) = true) (ho : Op.lookupswitch.offset ps.toList dflt x.toInt = dflt) (ht : (pc : Int) + dflt = (tgt : Int))
    (kt : At Γ tgt L st σ o) : At Γ pc L (.int x :: st) σ o :=
  fun r hr H locs ls hP hS hL => lv_lookup h.1 h.2.1 hd hp ho ht (kt r hr H locs ls hP hS hL)
theorem gNe {x v : Int32} (n : Int) (h : ¬ x = v) (hv : v.toInt = n) : x.toInt ≠ n := fun q => h (Int32.toInt_inj.mp (q.trans hv.symm))
/-! fields and arrays -/
theorem x_getI (h : gOk Γ cc nL own ret fr lo) (ci i : Nat) {k idx : Nat} (hk : isO k ci) (hci : ci < 11) (hi : i < gN ci) (hdl : gDl ci i = 0) (hw : Cond.fieldLink own idx (gT ci i).1 (gT ci i).2.1 (gT ci i).2.2.1 ∈ gTb) (hd : decode cc pc = .ok (.getfield idx, 3)) (kk : At Γ (pc + 3) L (.int (σ k i) :: st) σ o) : At Γ pc L (.ref (gAd Γ.1 k) :: st) σ o :=
  fun r hr H locs ls hP hS hL => va_get h.1 h.2.1 h.2.2.2.2.1 (gIn ci hci) h.2.2.2.1 h.2.2.2.2.2.1.1 hP k (gWsO hk) (gCl ci hci) i hi (h.2.2.2.2.1 _ hw) (fun _ q => q) (gFsI hi hdl) hd (kk r hr H locs ls hP hS hL)
theorem x_getR (h : gOk Γ cc nL own ret fr lo) (ci i d : Nat) {k idx : Nat} (hk : isO k ci) (hci : ci < 11) (hi : i < gN ci) (hdl : gDl ci i = d) (h0 : d ≠ 0) (hw : Cond.fieldLink own idx (gT ci i).1 (gT ci i).2.1 (gT ci i).2.2.1 ∈ gTb) (hd : decode cc pc = .ok (.getfield idx, 3)) (kk : At Γ (pc + 3) L (.ref (gAd Γ.1 (k + d)) :: st) σ o) : At Γ pc L (.ref (gAd Γ.1 k) :: st) σ o :=
  fun r hr H locs ls hP hS hL => va_get h.1 h.2.1 h.2.2.2.2.1 (gIn ci hci) h.2.2.2.1 h.2.2.2.2.2.1.1 hP k (gWsO hk) (gCl ci hci) i hi (h.2.2.2.2.1 _ hw) (fun _ q => q) (gFsR hi hdl h0) hd (kk r hr H locs ls hP hS hL)
theorem x_put (h : gOk Γ cc nL own ret fr lo) (ci i : Nat) (ty : FieldType) {k idx : Nat} {v : Int32} {f : gSt → Option ρ} (hk : isO k ci) (hci : ci < 11) (hi : i < gN ci) (hdl : gDl ci i = 0) (hfin : (gT ci i).2.2.2 = false) (hty : parseFieldDescriptor (gT ci i).2.2.1 = some ty) (hn : narrow ty (.int v) = .int v) (hfit : fits ty (.int v) = true)
    (hw : Cond.fieldLink own idx (gT ci i).1 (gT ci i).2.1 (gT ci i).2.2.1 ∈ gTb) (hd : decode cc pc = .ok (.putfield idx, 3)) (kk : ∀ σ', At Γ (pc + 3) L st σ' (f σ')) : At Γ pc L (.int v :: .ref (gAd Γ.1 k) :: st) σ (lt (gu σ k (upd (σ k) i v)) f) :=
  fun r hr H locs ls hP hS hL => va_put h.1 h.2.1 h.2.2.2.2.1 (gIn ci hci) (gTy ci) (gTyOk ci hci) (gNm ci hci) h.2.2.2.1 h.2.2.2.2.2.1.1 hP (gDs h.2.2.2.2.2.1.2.2 σ) hS k (gWsO hk) (gCl ci hci) i hi (h.2.2.2.2.1 _ hw) (fun _ q => q) hfin hty hn hfit (by rw [gFsL]; exact hi) hd (fun H1 locs1 hP1 _ hS1 => by
    rw [gWsU hk.1 (gCelO hk hi hdl)] at hP1
    exact kk _ r hr H1 locs1 ls hP1 hS1 hL)
theorem x_iald (h : gOk Γ cc nL own ret fr lo) {k n : Nat} {i : Int32} {f : Int32 → Option ρ} (hk : isA k n) (hd : decode cc pc = .ok (.iaload, 1)) (kk : ∀ v, At Γ (pc + 1) L (.int v :: st) σ (f v)) : At Γ pc L (.int i :: .ref (gAd Γ.1 k) :: st) σ ((rd n σ k i).bind f) := by
  intro r hr H locs ls hP hS hL
  obtain ⟨a, ha, hf⟩ := some_bind hr
  obtain ⟨hc, rfl⟩ := some_if ha
  exact va_iald h.1 h.2.1 h.2.2.2.2.2.1.1 hP k 0 (gWsA hk) rfl hc hd (kk _ r hf H locs ls hP hS hL)
/-- a place that is known to be inside -/
theorem x_ialdS (h : gOk Γ cc nL own ret fr lo) {k n : Nat} {i : Int32} (j : Nat) (hk : isA k n) (hj : i.toNatClampNeg = j) (h0 : ¬ i < 0) (hn : j < n) (hd : decode cc pc = .ok (.iaload, 1)) (kk : At Γ (pc + 1) L (.int (σ k j) :: st) σ o) : At Γ pc L (.int i :: .ref (gAd Γ.1 k) :: st) σ o := by
  intro r hr H locs ls hP hS hL
  subst hj
  exact va_iald h.1 h.2.1 h.2.2.2.2.2.1.1 hP k 0 (gWsA hk) rfl (fun q => by rcases q with q | q; exact h0 q; omega) hd (kk r hr H locs ls hP hS hL)
theorem x_iast (h : gOk Γ cc nL own ret fr lo) {k n : Nat} {i v : Int32} {f : gSt → Option ρ} (hk : isA k n) (hd : decode cc pc = .ok (.iastore, 1)) (kk : ∀ σ', At Γ (pc + 1) L st σ' (f σ')) : At Γ pc L (.int v :: .int i :: .ref (gAd Γ.1 k) :: st) σ ((wr n σ k i v).bind f) := by
  intro r hr H locs ls hP hS hL
  obtain ⟨a, ha, hf⟩ := some_bind hr
  obtain ⟨hc, rfl⟩ := some_if ha
  exact va_iast h.1 h.2.1 h.2.2.2.2.2.1.1 hP (gDs h.2.2.2.2.2.1.2.2 σ) hS k 0 (gWsA hk) rfl hc hd (fun H1 locs1 hP1 _ hS1 => by
    rw [gWsU hk.1 (gCelA hk)] at hP1
    exact kk _ r hf H1 locs1 ls hP1 hS1 hL)
theorem x_alen (h : gOk Γ cc nL own ret fr lo) {k n : Nat} (hk : isA k n) (hd : decode cc pc = .ok (.arraylength, 1)) (kk : At Γ (pc + 1) L (.int (Int32.ofNat n) :: st) σ o) : At Γ pc L (.ref (gAd Γ.1 k) :: st) σ o :=
  fun r hr H locs ls hP hS hL => va_alen (ty := .int) h.1 h.2.1 h.2.2.2.2.2.1.1 hP k 0 (gWsA hk) rfl rfl hd (kk r hr H locs ls hP hS hL)
theorem x_aald (h : gOk Γ cc nL own ret fr lo) {k : Nat} {i : Int32} {f : Nat → Option ρ} (hk : isQ k 4) (hd : decode cc pc = .ok (.aaload, 1)) (kk : ∀ q, isO q 7 → At Γ (pc + 1) L (.ref (gAd Γ.1 q) :: st) σ (f q)) : At Γ pc L (.int i :: .ref (gAd Γ.1 k) :: st) σ ((rdq 4 k i).bind f) := by
  intro r hr H locs ls hP hS hL
  obtain ⟨a, ha, hf⟩ := some_bind hr
  obtain ⟨hc, rfl⟩ := some_if ha
  exact va_aldq h.1 h.2.1 h.2.2.2.2.2.1.1 hP k 1 (gWsQ hk) rfl hc hd (kk _ (gTab2 k hk.1 hk.2 _ (by omega)) r hf H locs ls hP hS hL)
theorem gNfw : nativeFrameWords "java/lang/System" "arraycopy" 5 = 7 := by decide
theorem x_cpy (h : gOk Γ cc nL own ret fr lo) {k0 k1 n0 n1 idx : Nat} {sp dp n : Int32} {f : gSt → Option ρ} (hk0 : isA k0 n0) (hk1 : isA k1 n1) (hw : Cond.methodLink own idx arraycopyName ∈ gTb) (hw1 : Cond.native arraycopyName ∈ gTb) (hw2 : Cond.static arraycopyName ∈ gTb) (hw3 : Cond.initialized "java/lang/System" ∈ gTb) (hnL : L.length = nL) (hfr : 1 ≤ fr) (hlo : (st.map fun v => v.category).sum + 18 ≤ lo)
    (hd : decode cc pc = .ok (.invokestatic idx, 3)) (kk : ∀ σ', At Γ (pc + 3) L st σ' (f σ')) : At Γ pc L (.int n :: .int dp :: .ref (gAd Γ.1 k1) :: .int sp :: .ref (gAd Γ.1 k0) :: st) σ ((cpy n0 n1 σ k0 sp k1 dp n).bind f) := by
  intro r hr H locs ls hP hS hL
  obtain ⟨a, ha, hf⟩ := some_bind hr
  obtain ⟨hc, rfl⟩ := some_if ha
  exact va_copyi (ty := .int) h.1 h.2.1 (by rw [h.2.2.1, hL.1, hnL]) h.2.2.2.1 (h.2.2.2.2.1 _ hw) (h.2.2.2.2.1 _ hw1) (h.2.2.2.2.1 _ hw2) (h.2.2.2.2.1 _ hw3) h.2.2.2.2.2.1.1 hP (gDs h.2.2.2.2.2.1.2.2 σ) hS k0 k1 0 0 (gWsA hk0) (gWsA hk1) rfl rfl rfl
    (fun q => hc (Or.inl q)) (fun q => hc (Or.inr (Or.inl q))) (fun q => hc (Or.inr (Or.inr (Or.inl q)))) (Nat.not_lt.mp fun q => hc (Or.inr (Or.inr (Or.inr (Or.inl q))))) (Nat.not_lt.mp fun q => hc (Or.inr (Or.inr (Or.inr (Or.inr q))))) (fun _ _ => rfl) (Nat.le_trans hfr h.2.2.2.2.2.2.2.2.1) (by rw [gNfw]; exact Nat.le_trans hlo h.2.2.2.2.2.2.2.2.2.1) hd (fun H1 locs1 hP1 _ hS1 => by
    rw [gWsU hk1.1 (gCelA hk1)] at hP1
    exact kk _ r hf H1 locs1 ls hP1 hS1 hL)
theorem x_f2raw (h : gOk Γ cc nL own ret fr lo) {b : UInt32} {idx : Nat} (hw : Cond.methodLink own idx ⟨"java/lang/Float", "floatToRawIntBits", "(F)I"⟩ ∈ gTb) (hw1 : Cond.native ⟨"java/lang/Float", "floatToRawIntBits", "(F)I"⟩ ∈ gTb) (hw2 : Cond.static ⟨"java/lang/Float", "floatToRawIntBits", "(F)I"⟩ ∈ gTb) (hw3 : Cond.initialized "java/lang/Float" ∈ gTb) (hnL : L.length = nL) (hfr : 1 ≤ fr) (hlo : (st.map fun v => v.category).sum + 15 ≤ lo)
    (hd : decode cc pc = .ok (.invokestatic idx, 3)) (kk : At Γ (pc + 3) L (.int b.toInt32 :: st) σ o) : At Γ pc L (.float b :: st) σ o :=
  fun r hr H locs ls hP hS hL => vn_f2i h.1 h.2.1 (by rw [h.2.2.1, hL.1, hnL]) h.2.2.2.1 (h.2.2.2.2.1 _ hw) (h.2.2.2.2.1 _ hw1) (h.2.2.2.2.1 _ hw2) (h.2.2.2.2.1 _ hw3) (Nat.le_trans hfr h.2.2.2.2.2.2.2.2.1) (Nat.le_trans hlo h.2.2.2.2.2.2.2.2.2.1) hd (kk r hr H locs ls hP hS hL)
end Rows
