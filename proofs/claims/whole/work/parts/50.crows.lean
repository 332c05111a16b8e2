/-! ===== constructors: a world that grows ===== -/
abbrev gZ : Type := gG × (Program × Launch × Env × Room × State) × (MethodId × Array Value × List Frame × Method × Code) × (State → Prop)
def gFk (G : gG) (U : State) : Prop := va_K G.1 vwCl [(G.2.1, .int), (G.2.2.1, .object RX7)] U ∧ (∀ q ∈ gNl, va_Nw (.methodLinkNest q.1 q.2.1 q.2.2.1 q.2.2.2) U) ∧ (∀ q ∈ gNf, va_Nw (.fieldLinkNest q.1 q.2.1 q.2.2.1 q.2.2.2.1 q.2.2.2.2.1 q.2.2.2.2.2) U) ∧ va_AO RX7 U
theorem gFk_moved {G : gG} {s U : State} (hW : s.WarmedH U.vm) (h : gFk G s) : gFk G U := ⟨va_K.moved hW.alike h.1, fun q hq => va_Nw.warmM hW (h.2.1 q hq), fun q hq => va_Nw.warmF hW (h.2.2.1 q hq), va_AO.moved hW.alike h.2.2.2⟩
theorem gFk_calling {G : gG} {U : State} (g : JFrame) (mk : MethodId) (a : Array Value) (h : gFk G U) : gFk G (U.calling g mk a) :=
  ⟨va_K.moved (u := U) (U := U.calling g mk a) (Vm.Alike.refl U.vm) h.1, fun q hq => va_Nw.same (u := U) (U := U.calling g mk a) rfl rfl (h.2.1 q hq), fun q hq => va_Nw.same (u := U) (U := U.calling g mk a) rfl rfl (h.2.2.1 q hq), va_AO.moved (u := U) (U := U.calling g mk a) (Vm.Alike.refl U.vm) h.2.2.2⟩
/-- what stands all through a constructor; its room of cells and slots -/
def gOc (Γ : gZ) (cc : ByteArray) (nL : Nat) (own : String) (fr lo NC NS : Nat) : Prop :=
  Γ.2.1.1.tables.exec = Jvm.exec ∧ Γ.2.2.1.2.2.2.2.code = cc ∧ Γ.2.2.1.2.2.2.2.maxLocals = nL ∧ Γ.2.1.2.2.2.2.vm.findClass own = some Γ.2.2.1.1.cls ∧
  (∀ w ∈ gTb, w.before Γ.2.2.1.2.1 Γ.2.1.2.2.2.2 = true) ∧ gFk Γ.1 Γ.2.1.2.2.2.2 ∧ fr ≤ Γ.2.1.2.2.2.1.frames ∧ lo ≤ Γ.2.1.2.2.2.1.locals ∧ NC ≤ Γ.2.1.2.2.2.1.cells ∧ NS ≤ Γ.2.1.2.2.2.1.slots ∧ gH0 Γ.1 ≤ Γ.2.1.2.2.2.2.heap.size
/-- AT a point of it: k cells and n slots have come; the world is a start that stays, and what has come -/
def Ac (Γ : gZ) (k n pc : Nat) (L : List (Option Value)) (st : List Value) (w0 M : va_W) : Prop :=
  ∀ (H : Heap) (locs : List Loc) (ls : Array Slot), va_P Γ.1.1 vwCl (w0 ++ M) H → va_D (gA Γ.1) (w0 ++ M) → va_S (gA Γ.1) Γ.2.1.2.2.2.2.heap H locs → gL ls L →
    W Γ.2.1.1 Γ.2.1.2.1 Γ.2.1.2.2.1 Γ.2.1.2.2.2.1 Γ.2.1.2.2.2.2 Γ.2.2.1.1 Γ.2.2.1.2.1 Γ.2.2.1.2.2.1 Γ.2.2.1.2.2.2.1 Γ.2.2.1.2.2.2.2 H locs k n Γ.2.2.2 (F0 Γ.2.2.1.1 pc ls st)
def gD0 (ci : Nat) : List Value := (List.range (gN ci)).map fun j => defaultValue (gTy ci j)
theorem gD0_ok (ci : Nat) : ∀ j, j < gN ci → defaultValue (gTy ci j) = vp_V (gD0 ci) j := fun j hj => by
  unfold vp_V gD0
  simp [hj]
theorem gAppG {α : Type} (l1 l2 : List α) (i : Nat) : (l1 ++ l2)[l1.length + i]? = l2[i]? := by
  rw [List.getElem?_append_right (by omega), Nat.add_sub_cancel_left]
theorem gAppS {α : Type} (l2 : List α) (x : α) : ∀ (l1 : List α) (i : Nat), (l1 ++ l2).set (l1.length + i) x = l1 ++ l2.set i x
  | [], i => by simp
  | a :: l1, i => by
    rw [show (a :: l1).length + i = (l1.length + i) + 1 by simp; omega]
    show a :: (l1 ++ l2).set (l1.length + i) x = a :: (l1 ++ l2.set i x)
    rw [gAppS l2 x l1 i]
section RowsC
variable {Γ : gZ} {cc : ByteArray} {nL : Nat} {own : String} {fr lo NC NS : Nat} {k n pc : Nat} {L : List (Option Value)} {st : List Value} {w0 M : va_W}
theorem y_aload_n (h : gOc Γ cc nL own fr lo NC NS) {j : Fin 4} {i x : Nat} (hd : decode cc pc = .ok (.aload_n j, 1)) (hi : (j : Nat) = i) (hl : L[i]? = some (some (.ref x))) (kk : Ac Γ k n (pc + 1) L (.ref x :: st) w0 M) : Ac Γ k n pc L st w0 M :=
  fun H locs ls hP hD hS hL => lv_aload_n h.1 h.2.1 hd hi (hL.2.2 i _ hl).1 (kk H locs ls hP hD hS hL)
theorem y_iload_n (h : gOc Γ cc nL own fr lo NC NS) {j : Fin 4} {i : Nat} {x : Int32} (hd : decode cc pc = .ok (.iload_n j, 1)) (hi : (j : Nat) = i) (hl : L[i]? = some (some (.int x))) (kk : Ac Γ k n (pc + 1) L (.int x :: st) w0 M) : Ac Γ k n pc L st w0 M :=
  fun H locs ls hP hD hS hL => lv_iload_n h.1 h.2.1 hd hi (hL.2.2 i _ hl).1 (kk H locs ls hP hD hS hL)
theorem y_istore_n (h : gOc Γ cc nL own fr lo NC NS) {j : Fin 4} {i : Nat} {x : Int32} {L' : List (Option Value)} (hd : decode cc pc = .ok (.istore_n j, 1)) (hi : (j : Nat) = i) (hn : i < L.length) (hl : L.set i (some (.int x)) = L') (kk : Ac Γ k n (pc + 1) L' st w0 M) : Ac Γ k n pc L (.int x :: st) w0 M :=
  fun H locs ls hP hD hS hL => lv_istore_n h.1 h.2.1 hd hi (gLh hL) hn rfl (fun ls' h' => kk H locs ls' hP hD hS (gLs hL rfl hl h'))
theorem y_iinc (h : gOc Γ cc nL own fr lo NC NS) {i : Nat} {d : Int} {x v : Int32} {L' : List (Option Value)} (hd : decode cc pc = .ok (.iinc i d, 3)) (hk : L[i]? = some (some (.int x))) (hv : x + Int32.ofInt d = v) (hl : L.set i (some (.int v)) = L') (kk : Ac Γ k n (pc + 3) L' st w0 M) : Ac Γ k n pc L st w0 M := by
  intro H locs ls hP hD hS hL
  obtain ⟨j, hj⟩ := List.getElem?_of_mem (gAlM.mpr hk)
  exact lv_iinc h.1 h.2.1 hd (gLh hL) hj hv (List.getElem?_eq_some_iff.mp hk).1 rfl (fun ls' h' => kk H locs ls' hP hD hS (gLs hL rfl hl h'))
theorem y_iconst (h : gOc Γ cc nL own fr lo NC NS) {d : Int} {v : Int32} (hd : decode cc pc = .ok (.iconst d, 1)) (hv : Int32.ofInt d = v) (kk : Ac Γ k n (pc + 1) L (.int v :: st) w0 M) : Ac Γ k n pc L st w0 M :=
  fun H locs ls hP hD hS hL => lv_iconst h.1 h.2.1 hd hv (kk H locs ls hP hD hS hL)
theorem y_bipush (h : gOc Γ cc nL own fr lo NC NS) {d : Int} {v : Int32} (hd : decode cc pc = .ok (.bipush d, 2)) (hv : (Int8.ofInt d).toInt32 = v) (kk : Ac Γ k n (pc + 2) L (.int v :: st) w0 M) : Ac Γ k n pc L st w0 M :=
  fun H locs ls hP hD hS hL => lv_bipush h.1 h.2.1 hd hv (kk H locs ls hP hD hS hL)
theorem y_sipush (h : gOc Γ cc nL own fr lo NC NS) {d : Int} {v : Int32} (hd : decode cc pc = .ok (.sipush d, 3)) (hv : (Int16.ofInt d).toInt32 = v) (kk : Ac Γ k n (pc + 3) L (.int v :: st) w0 M) : Ac Γ k n pc L st w0 M :=
  fun H locs ls hP hD hS hL => lv_sipush h.1 h.2.1 hd hv (kk H locs ls hP hD hS hL)
theorem y_iadd (h : gOc Γ cc nL own fr lo NC NS) {x y : Int32} (hd : decode cc pc = .ok (.iadd, 1)) (kk : Ac Γ k n (pc + 1) L (.int (x + y) :: st) w0 M) : Ac Γ k n pc L (.int y :: .int x :: st) w0 M :=
  fun H locs ls hP hD hS hL => lv_iadd h.1 h.2.1 hd (kk H locs ls hP hD hS hL)
theorem y_dup (h : gOc Γ cc nL own fr lo NC NS) {v : Value} (hd : decode cc pc = .ok (.dup, 1)) (hv : v.category = 1) (kk : Ac Γ k n (pc + 1) L (v :: v :: st) w0 M) : Ac Γ k n pc L (v :: st) w0 M :=
  fun H locs ls hP hD hS hL => lv_dup h.1 h.2.1 hd hv (kk H locs ls hP hD hS hL)
theorem y_goto (h : gOc Γ cc nL own fr lo NC NS) {off : Int} {tgt : Nat} (hd : decode cc pc = .ok (.goto off, 3)) (ht : (pc : Int) + off = (tgt : Int)) (kk : Ac Γ k n tgt L st w0 M) : Ac Γ k n pc L st w0 M :=
  fun H locs ls hP hD hS hL => lv_goto h.1 h.2.1 hd ht (kk H locs ls hP hD hS hL)
theorem y_ge (h : gOc Γ cc nL own fr lo NC NS) {x y : Int32} {off : Int} {tgt : Nat} (hd : decode cc pc = .ok (.if_icmp .ge off, 3)) (ht : (pc : Int) + off = (tgt : Int)) (kt : y ≤ x → Ac Γ k n tgt L st w0 M) (kf : ¬ y ≤ x → Ac Γ k n (pc + 3) L st w0 M) : Ac Γ k n pc L (.int y :: .int x :: st) w0 M :=
  fun H locs ls hP hD hS hL => lv_icmp_ge h.1 h.2.1 hd ht (fun hc => kt hc H locs ls hP hD hS hL) (fun hc => kf hc H locs ls hP hD hS hL)
theorem gHA {Γ : gZ} (h : gOc Γ cc nL own fr lo NC NS) : ∀ q, Γ.2.1.2.2.2.2.heap.size ≤ q → gA Γ.1 q := fun _ hq => Nat.le_trans h.2.2.2.2.2.2.2.2.2.2 hq
theorem y_obj (h : gOc Γ cc nL own fr lo NC NS) {idx a : Nat} (h1 : Cond.methodLink own idx Lib.objectInit ∈ gTb) (h2 : Cond.instanceMethod Lib.objectInit ∈ gTb) (h3 : Cond.code Lib.objectInit ⟨#[0xb1]⟩ 1 none ∈ gTb) (hd : decode cc pc = .ok (.invokespecial idx, 3)) (hf : 1 ≤ fr) (hl : 12 ≤ lo) (hn : L.length = nL) (kk : Ac Γ k n (pc + 3) L [] w0 M) : Ac Γ k n pc L [.ref a] w0 M :=
  fun H locs ls hP hD hS hL => W.objInit h.1 h.2.1 h.2.2.2.1 (h.2.2.2.2.1 _ h1) (h.2.2.2.2.1 _ h2) (h.2.2.2.2.1 _ h3) rfl ((hL.1.trans hn).trans h.2.2.1.symm) rfl hd (Nat.le_trans hf h.2.2.2.2.2.2.1) (by show 2 * 0 + 0 + 12 ≤ _; exact Nat.le_trans hl h.2.2.2.2.2.2.2.1) (kk H locs ls hP hD hS hL)
theorem y_newi (h : gOc Γ cc nL own fr lo NC NS) (hw : Cond.arrayClass .int ∈ gTb) {v : Int32} (N : Nat) (hd : decode cc pc = .ok (.newarray .int, 2)) (hv : v = nI N) (hN : N ≤ 2000) (hk : k + 1 ≤ NC) (hn : n + N ≤ NS) (kk : ∀ q, Ac Γ (k + 1) (n + N) (pc + 2) L (.ref q :: st) w0 (M ++ [(q, .inl (Γ.1.2.1, N, .inl (fun _ => 0)))])) : Ac Γ k n pc L (.int v :: st) w0 M := by
  subst hv
  intro H locs ls hP hD hS hL
  refine va_newa (atype := .int) (ty := .int) (a0 := (N, .inl (fun _ => 0))) h.1 h.2.1 (h.2.2.2.2.1 _ hw) rfl h.2.2.2.2.2.1.1 hP hD hS (gHA h) (fun _ => rfl) (nI_pos (by omega)) (nI_clamp (by omega)) (by show N * 4 ≤ 536870912; omega) (Nat.le_trans hk h.2.2.2.2.2.2.2.2.1) (Nat.le_trans hn h.2.2.2.2.2.2.2.2.2.1) hd (fun q cA H1 hK1 hP1 hD1 hS1 => ?_)
  have e1 : Γ.2.1.2.2.2.2.vm.findClass ("[" ++ (FieldType.int).toString) = some cA := (hK1.2 2 (cA, .int) rfl).2
  have e2 : Γ.2.1.2.2.2.2.vm.findClass ("[" ++ (FieldType.int).toString) = some Γ.1.2.1 := (h.2.2.2.2.2.1.1.2 0 (Γ.1.2.1, .int) rfl).2
  have e : cA = Γ.1.2.1 := Option.some.inj (e1.symm.trans e2)
  subst e
  rw [List.append_assoc] at hP1 hD1
  exact kk q H1 locs ls hP1 hD1 hS1 hL
theorem y_new (h : gOc Γ cc nL own fr lo NC NS) (ci : Nat) {idx : Nat} (hci : ci < 11) (h1 : Cond.classLink own idx (gR ci) ∈ gTb) (h2 : Cond.instantiable (gR ci) (gN ci) ∈ gTb) (h3 : Cond.initialized (gR ci) ∈ gTb) (hd : decode cc pc = .ok (.new idx, 3)) (hk : k + 1 ≤ NC) (hn : n + gN ci ≤ NS) (kk : ∀ q, Ac Γ (k + 1) (n + gN ci) (pc + 3) L (.ref q :: st) w0 (M ++ [(q, .inr (ci, gD0 ci))])) : Ac Γ k n pc L st w0 M := by
  intro H locs ls hP hD hS hL
  refine va_new h.1 h.2.1 h.2.2.2.2.1 (gIn ci hci) (gTy ci) (gTyOk ci hci) h.2.2.2.1 (h.2.2.2.2.1 _ h1) (h.2.2.2.2.1 _ h2) (h.2.2.2.2.1 _ h3) h.2.2.2.2.2.1.1 hP hD hS (gHA h) (gCl ci hci) (gD0_ok ci) (Nat.le_trans hk h.2.2.2.2.2.2.2.2.1) (Nat.le_trans hn h.2.2.2.2.2.2.2.2.2.1) hd (fun q H1 hP1 hD1 hS1 => ?_)
  rw [List.append_assoc] at hP1 hD1
  exact kk q H1 locs ls hP1 hD1 hS1 hL
/-- a final field of the object that is being made -/
theorem y_putF (h : gOc Γ cc nL own fr lo NC NS) (hin : Γ.2.2.1.2.2.2.1.name = "<init>") (ci i q0 : Nat) (ty : FieldType) {idx a : Nat} {v : Value} {fs : List Value} {M' : va_W} (he : M[q0]? = some (a, .inr (ci, fs))) (hci : ci < 11) (hi : i < gN ci) (hown : (gT ci i).1 = own) (hfin : (gT ci i).2.2.2 = true) (hty : parseFieldDescriptor (gT ci i).2.2.1 = some ty) (hn : narrow ty v = v) (hfit : fits ty v = true) (hl : i < fs.length)
    (hw : Cond.fieldLink own idx (gT ci i).1 (gT ci i).2.1 (gT ci i).2.2.1 ∈ gTb) (hd : decode cc pc = .ok (.putfield idx, 3)) (hM : M.set q0 (a, .inr (ci, fs.set i v)) = M') (kk : Ac Γ k n (pc + 3) L st w0 M') : Ac Γ k n pc L (v :: .ref a :: st) w0 M := by
  subst hM
  intro H locs ls hP hD hS hL
  refine va_putF h.1 h.2.1 h.2.2.2.2.1 (gIn ci hci) (gTy ci) (gTyOk ci hci) (gNm ci hci) h.2.2.2.1 h.2.2.2.2.2.1.1 hP hD hS (w0.length + q0) ((gAppG w0 M q0).trans he) (gCl ci hci) i hi (h.2.2.2.2.1 _ hw) (fun _ q => q) hfin hin hown hty hn hfit hl hd (fun H1 locs1 hP1 hD1 hS1 => ?_)
  rw [gAppS] at hP1 hD1
  exact kk H1 locs1 ls hP1 hD1 hS1 hL
theorem y_put (h : gOc Γ cc nL own fr lo NC NS) (ci i q0 : Nat) (ty : FieldType) {idx a : Nat} {v : Value} {fs : List Value} {M' : va_W} (he : M[q0]? = some (a, .inr (ci, fs))) (hci : ci < 11) (hi : i < gN ci) (hfin : (gT ci i).2.2.2 = false) (hty : parseFieldDescriptor (gT ci i).2.2.1 = some ty) (hn : narrow ty v = v) (hfit : fits ty v = true) (hl : i < fs.length)
    (hw : Cond.fieldLink own idx (gT ci i).1 (gT ci i).2.1 (gT ci i).2.2.1 ∈ gTb) (hd : decode cc pc = .ok (.putfield idx, 3)) (hM : M.set q0 (a, .inr (ci, fs.set i v)) = M') (kk : Ac Γ k n (pc + 3) L st w0 M') : Ac Γ k n pc L (v :: .ref a :: st) w0 M := by
  subst hM
  intro H locs ls hP hD hS hL
  refine va_put h.1 h.2.1 h.2.2.2.2.1 (gIn ci hci) (gTy ci) (gTyOk ci hci) (gNm ci hci) h.2.2.2.1 h.2.2.2.2.2.1.1 hP hD hS (w0.length + q0) ((gAppG w0 M q0).trans he) (gCl ci hci) i hi (h.2.2.2.2.1 _ hw) (fun _ q => q) hfin hty hn hfit hl hd (fun H1 locs1 hP1 hD1 hS1 => ?_)
  rw [gAppS] at hP1 hD1
  exact kk H1 locs1 ls hP1 hD1 hS1 hL
theorem y_get (h : gOc Γ cc nL own fr lo NC NS) (ci i q0 : Nat) {idx a : Nat} {v : Value} {fs : List Value} (he : M[q0]? = some (a, .inr (ci, fs))) (hci : ci < 11) (hi : i < gN ci) (hv : fs[i]? = some v) (hw : Cond.fieldLink own idx (gT ci i).1 (gT ci i).2.1 (gT ci i).2.2.1 ∈ gTb) (hd : decode cc pc = .ok (.getfield idx, 3)) (kk : Ac Γ k n (pc + 3) L (v :: st) w0 M) : Ac Γ k n pc L (.ref a :: st) w0 M :=
  fun H locs ls hP hD hS hL => va_get h.1 h.2.1 h.2.2.2.2.1 (gIn ci hci) h.2.2.2.1 h.2.2.2.2.2.1.1 hP (w0.length + q0) ((gAppG w0 M q0).trans he) (gCl ci hci) i hi (h.2.2.2.2.1 _ hw) (fun _ q => q) hv hd (kk H locs ls hP hD hS hL)
/-- a nest mate's field, of an object that was there before -/
theorem y_getN (h : gOc Γ cc nL RX5 fr lo NC NS) (i q0 : Nat) {idx a : Nat} {v : Value} {fs : List Value} (he : w0[q0]? = some (a, .inr (7, fs))) (hi : i < gN 7) (hv : fs[i]? = some v) (hw : (RX5, idx, RX7, (gT 7 i).2.1, (gT 7 i).2.2.1, "LectureTurns") ∈ gNf) (hr : (gT 7 i).1 = RX7) (hd : decode cc pc = .ok (.getfield idx, 3)) (kk : Ac Γ k n (pc + 3) L (v :: st) w0 M) : Ac Γ k n pc L (.ref a :: st) w0 M :=
  fun H locs ls hP hD hS hL => va_getN (ref := RX7) (host := "LectureTurns") h.1 h.2.1 h.2.2.2.2.1 (gIn 7 (by decide)) h.2.2.2.1 h.2.2.2.2.2.1.1 hP q0 ((List.getElem?_append_left (List.getElem?_eq_some_iff.mp he).1).trans he) (gCl 7 (by decide)) i hi (va_Nw.use rfl (h.2.2.2.2.2.1.2.2.1 _ hw)) (fun x q => by rw [hr] at q; exact q) hv hd (kk H locs ls hP hD hS hL)
theorem y_iast (h : gOc Γ cc nL own fr lo NC NS) (q0 : Nat) {a N : Nat} {f : Nat → Int32} {i v : Int32} {M' : va_W} (he : M[q0]? = some (a, .inl (Γ.1.2.1, N, .inl f))) (hin : vp_in i N) (hd : decode cc pc = .ok (.iastore, 1)) (hM : M.set q0 (a, .inl (Γ.1.2.1, N, .inl (upd f i.toNatClampNeg v))) = M') (kk : Ac Γ k n (pc + 1) L st w0 M') : Ac Γ k n pc L (.int v :: .int i :: .ref a :: st) w0 M := by
  subst hM
  intro H locs ls hP hD hS hL
  refine va_iast h.1 h.2.1 h.2.2.2.2.2.1.1 hP hD hS (w0.length + q0) 0 ((gAppG w0 M q0).trans he) rfl hin hd (fun H1 locs1 hP1 hD1 hS1 => ?_)
  rw [gAppS] at hP1 hD1
  exact kk H1 locs1 ls hP1 hD1 hS1 hL
theorem y_alen (h : gOc Γ cc nL own fr lo NC NS) (q0 : Nat) {a N : Nat} {f : Nat → Int32} (he : M[q0]? = some (a, .inl (Γ.1.2.1, N, .inl f))) (hd : decode cc pc = .ok (.arraylength, 1)) (kk : Ac Γ k n (pc + 1) L (.int (nI N) :: st) w0 M) : Ac Γ k n pc L (.ref a :: st) w0 M :=
  fun H locs ls hP hD hS hL => va_alen (ty := .int) h.1 h.2.1 h.2.2.2.2.2.1.1 hP (w0.length + q0) 0 ((gAppG w0 M q0).trans he) rfl rfl hd (kk H locs ls hP hD hS hL)
/-- an array of references to objects of class 7 -/
theorem y_newq (h : gOc Γ cc nL own fr lo NC NS) {idx : Nat} (hw : Cond.classLink own idx RX7 ∈ gTb) {v : Int32} (N : Nat) (hd : decode cc pc = .ok (.anewarray idx, 3)) (hv : v = nI N) (hN : N ≤ 2000) (hk : k + 1 ≤ NC) (hn : n + N ≤ NS) (kk : ∀ q, Ac Γ (k + 1) (n + N) (pc + 3) L (.ref q :: st) w0 (M ++ [(q, .inl (Γ.1.2.2.1, N, .inr (.inr (.inr (.inr (fun _ => none))))))])) : Ac Γ k n pc L (.int v :: st) w0 M := by
  subst hv
  intro H locs ls hP hD hS hL
  refine va_newq h.1 h.2.1 h.2.2.2.1 (h.2.2.2.2.1 _ hw) h.2.2.2.2.2.1.2.2.2 h.2.2.2.2.2.1.1 hP hD hS (gHA h) (nI_pos (by omega)) (nI_clamp (by omega)) (by omega) (Nat.le_trans hk h.2.2.2.2.2.2.2.2.1) (Nat.le_trans hn h.2.2.2.2.2.2.2.2.2.1) hd (fun q cA H1 hK1 hP1 hD1 hS1 => ?_)
  obtain ⟨-, -, -, -, -, e1⟩ := (hK1.2 2 (cA, .object RX7) rfl).2
  obtain ⟨-, -, -, -, -, e2⟩ := (h.2.2.2.2.2.1.1.2 1 (Γ.1.2.2.1, .object RX7) rfl).2
  have e : cA = Γ.1.2.2.1 := Option.some.inj (e1.symm.trans e2)
  subst e
  rw [List.append_assoc] at hP1 hD1
  exact kk q H1 locs ls hP1 hD1 hS1 hL
theorem y_aast (h : gOc Γ cc nL own fr lo NC NS) (q0 qk : Nat) {a v N : Nat} {f : Nat → Option Nat} {vs : List Value} {i : Int32} {M' : va_W} (he : M[q0]? = some (a, .inl (Γ.1.2.2.1, N, .inr (.inr (.inr (.inr f)))))) (hv : M[qk]? = some (v, .inr (7, vs))) (hin : vp_in i N) (hd : decode cc pc = .ok (.aastore, 1)) (hM : M.set q0 (a, .inl (Γ.1.2.2.1, N, .inr (.inr (.inr (.inr (va_up f i.toNatClampNeg (some v))))))) = M') (kk : Ac Γ k n (pc + 1) L st w0 M') : Ac Γ k n pc L (.ref v :: .int i :: .ref a :: st) w0 M := by
  subst hM
  intro H locs ls hP hD hS hL
  refine va_astq (r := (gR 7, gT 7, gN 7)) h.1 h.2.1 h.2.2.2.2.2.1.1 hP hD hS (w0.length + q0) 1 (w0.length + qk) 7 ((gAppG w0 M q0).trans he) rfl ((gAppG w0 M qk).trans hv) (gCl 7 (by decide)) hin hd (fun H1 locs1 hP1 hD1 hS1 => ?_)
  rw [gAppS] at hP1 hD1
  exact kk H1 locs1 ls hP1 hD1 hS1 hL
end RowsC
