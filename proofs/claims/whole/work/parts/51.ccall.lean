/-! ===== constructors: contracts and calls ===== -/
def gWc (G : gG) (ws : va_W) (U : State) : Prop := va_P G.1 vwCl ws U.heap ∧ va_D (gA G) ws ∧ gFk G U ∧ gH0 G ≤ U.heap.size
def gQc (G : gG) (h : Nat) (w0 : va_W) (blk : (Nat → Nat) → va_W) : Array Value → State → Outcome → State → Prop := va_Qv (S := Nat → Nat) (fun a => a 0 = h) (fun a t => va_P G.1 vwCl (w0 ++ blk a) t.heap ∧ va_D (gA G) (w0 ++ blk a)) (gA G)
/-- a constructor's contract: over any world, the object's cells come behind it -/
def gCc (y : MethodName) (cc : ByteArray) (maxL fr lo nc ns ci : Nat) (As : List Value) (blk : gG → (Nat → Nat) → va_W) (G : gG) (w0 : va_W) : Prop :=
  ∀ (l : Launch) (h : Nat), Met l y (Cond.code y cc maxL none :: gTb) { frames := fr, cells := nc, slots := ns, locals := lo } (va_Pc (.ref h :: As) (gWc G (w0 ++ [(h, .inr (ci, gD0 ci))]))) (gQc G h w0 (blk G)) nc ns (gA G)
def gEndC (Γ : gZ) (h : Nat) (w0 : va_W) (blk : gG → (Nat → Nat) → va_W) (nc ns : Nat) : Prop :=
  Γ.2.2.1.2.2.2.1.sig.returnType = none ∧ Γ.2.2.1.2.2.2.1.locks = false ∧ Γ.2.2.2 = MQ Γ.2.2.1.2.2.1 (gQc Γ.1 h w0 (blk Γ.1)) Γ.2.2.1.2.1 Γ.2.1.2.2.2.2 nc ns (gA Γ.1)
theorem gPbc {G : gG} {ws : va_W} {av : List Value} : FrameBlind (va_Pc av (gWc G ws)) := fun a U g mk q => ⟨q.1, q.2.1, q.2.2.1, gFk_calling g mk a q.2.2.2.1, q.2.2.2.2⟩
theorem gCc_intro {y : MethodName} {cc : ByteArray} {maxL fr lo nc ns ci : Nat} {As : List Value} {blk : gG → (Nat → Nat) → va_W} {G : gG} {w0 : va_W} (own : String) (hown : y.cls = own) (hy : plainFor y = true) (hnm : y.name = "<init>") (hc : ∀ v ∈ As, v.category = 1) (hn : As.length + 1 ≤ maxL)
    (k : ∀ (Γ : gZ) (h : Nat), Γ.1 = G → gOc Γ cc maxL own fr lo nc ns → gEndC Γ h w0 blk nc ns → Γ.2.2.1.2.2.2.1.name = "<init>" → Ac Γ 0 0 0 (gEn (.ref h :: As) maxL) [] w0 [(h, .inr (ci, gD0 ci))]) : gCc y cc maxL fr lo nc ns ci As blk G w0 := by
  intro l h
  refine gOfW (cc := cc) (maxL := maxL) (ret := none) hy rfl ?_
  intro p e s m args below meth c s₁ B hml hv
  obtain ⟨rfl, hP, hD, hF, hz⟩ := hv
  have hts := atoms_spec (ws := Cond.code y cc maxL none :: gTb) B.pre
  have hOwn : s.vm.findClass own = some m.cls := hown ▸ findClass_of_methodNamed B.named
  have hin : meth.name = "<init>" := (name_of_methodNamed B.named B.method).1.trans hnm
  rw [lg_entry_eq]
  exact k (G, (p, l, e, { frames := fr, cells := nc, slots := ns, locals := lo }, s), (m, (Value.ref h :: As).toArray, below, meth, c), MQ below (gQc G h w0 (blk G)) (Value.ref h :: As).toArray s nc ns (gA G)) h rfl
    ⟨B.exec, B.bytes, hml, hOwn, fun w hw => hts w (List.mem_cons_of_mem _ hw), hF, Nat.le_refl _, Nat.le_refl _, Nat.le_refl _, Nat.le_refl _, hz⟩ ⟨B.returns, B.notSynchronized, rfl⟩ hin s.heap [] _ hP hD va_S.rf (gEnL (fun v hv => by
      rcases List.mem_cons.mp hv with rfl | q
      · rfl
      · exact hc v q) (by simpa using hn))
section RowsD
variable {Γ : gZ} {cc : ByteArray} {nL : Nat} {own : String} {fr lo NC NS : Nat} {k n pc : Nat} {L : List (Option Value)} {st rest : List Value} {w0 M : va_W}
theorem y_ret (h : gOc Γ cc nL own fr lo NC NS) {h0 : Nat} {blk : gG → (Nat → Nat) → va_W} (z : gEndC Γ h0 w0 blk k n) (a : Nat → Nat) (ha : a 0 = h0) (hM : M = blk Γ.1 a) (hd : decode cc pc = .ok (.return_, 1)) : Ac Γ k n pc L [] w0 M := by
  subst hM
  intro H locs ls hP hD hS hL
  rw [z.2.2]
  exact W.vret h.1 h.2.1 z.1 (fun t ht hW => ⟨⟨a, rfl, ha, by subst ht; exact hP, hD⟩, hS.F ht⟩) hS.2.2 hd (hlocks := z.2.1)
variable {y : MethodName} {bytes : ByteArray} {maxL idx f' l' nc ns ci : Nat} {As : List Value} {blk : gG → (Nat → Nat) → va_W}
def gMc (y : MethodName) (bytes : ByteArray) (maxL n : Nat) : Prop := Cond.code y bytes maxL none ∈ gTb ∧ Cond.initialized y.cls ∈ gTb ∧ Cond.instanceMethod y ∈ gTb ∧ y.name = "<init>" ∧ (y.cls ≠ "java/lang/invoke/MethodHandle" ∧ y.cls ≠ "java/lang/invoke/VarHandle" ∧ (parseMethodDescriptor y.desc).map (fun d => d.parameters.length) = some n)
theorem y_callK (h : gOc Γ cc nL own fr lo NC NS) (hm : gMc y bytes maxL As.length) {q : Nat} {M0 : va_W} (hM : M = M0 ++ [(q, .inr (ci, gD0 ci))]) (ct : gCc y bytes maxL f' l' nc ns ci As blk Γ.1 (w0 ++ M0)) (hst : st = As.reverse ++ .ref q :: rest) (hfr : f' + 1 ≤ fr) (hlo : 8 + (maxL + 11) + l' ≤ lo) (hrs : (rest.map fun v => v.category).sum ≤ 8) (hn : L.length = nL) (hk : k + nc ≤ NC) (hs : n + ns ≤ NS) (hd : decode cc pc = .ok (.invokespecial idx, 3))
    (hlk : Cond.methodLink own idx y ∈ gTb ∨ (own, idx, y, "LectureTurns") ∈ gNl) (kk : ∀ a : Nat → Nat, a 0 = q → Ac Γ (k + nc) (n + ns) (pc + 3) L rest w0 (M0 ++ blk Γ.1 a)) : Ac Γ k n pc L st w0 M := by
  subst hM
  subst hst
  intro H locs ls hP hD hS hL
  obtain ⟨m1, m2, m3, m4, m5⟩ := hm
  have hpre : PreS Γ.2.1.2.2.2.2 H (va_Pc (.ref q :: As) (gWc Γ.1 ((w0 ++ M0) ++ [(q, .inr (ci, gD0 ci))]))) (.ref q :: As) := ⟨gPbc, fun U hU hW => ⟨rfl, by rw [hU, List.append_assoc]; exact hP, by rw [List.append_assoc]; exact hD, gFk_moved hW h.2.2.2.2.2.1, by rw [hU]; exact Nat.le_trans h.2.2.2.2.2.2.2.2.2.2 hS.1⟩⟩
  have run : va_Run Γ.2.1.1 Γ.2.1.2.1 Γ.2.1.2.2.1 Γ.2.1.2.2.2.1 Γ.2.1.2.2.2.2 Γ.2.2.1.1 Γ.2.2.1.2.1 Γ.2.2.1.2.2.1 Γ.2.2.1.2.2.2.1 Γ.2.2.1.2.2.2.2 H locs k n nc ns (F0 Γ.2.2.1.1 pc ls (As.reverse ++ .ref q :: rest)) rest (gQc Γ.1 q (w0 ++ M0) (blk Γ.1) (.ref q :: As).toArray) (gA Γ.1) := by
    rcases hlk with q1 | q1
    · exact va_runI (Ts := gTb) ⟨h.1, h.2.1, h.2.2.1, h.2.2.2.1, h.2.2.2.2.1⟩ (ct Γ.2.1.2.1 q) (cwI As.length h.2.2.2.2.1 (gGood (gGoodC m1)) rfl rfl rfl (h.2.2.2.2.1 _ m2) (h.2.2.2.2.1 _ q1) (h.2.2.2.2.1 _ m3) m4 m5 ⟨Nat.le_trans hfr h.2.2.2.2.2.2.1, Nat.le_trans hlo h.2.2.2.2.2.2.2.1⟩) hpre rfl rfl (hL.1.trans hn) rfl (lv_room hrs) hd ⟨Nat.le_trans hk h.2.2.2.2.2.2.2.2.1, Nat.le_trans hs h.2.2.2.2.2.2.2.2.2.1⟩
    · exact va_runIN (Ts := gTb) ⟨h.1, h.2.1, h.2.2.1, h.2.2.2.1, h.2.2.2.2.1⟩ (ct Γ.2.1.2.1 q) ⟨va_cnB As.length h.2.2.2.2.1 (gGood (gGoodC m1)) rfl rfl rfl (h.2.2.2.2.2.1.2.1 _ q1) (h.2.2.2.2.1 _ m2) m5 ⟨Nat.le_trans hfr h.2.2.2.2.2.2.1, Nat.le_trans hlo h.2.2.2.2.2.2.2.1⟩, m4, h.2.2.2.2.1 _ m3⟩ hpre rfl rfl (hL.1.trans hn) rfl (lv_room hrs) hd ⟨Nat.le_trans hk h.2.2.2.2.2.2.2.2.1, Nat.le_trans hs h.2.2.2.2.2.2.2.2.2.1⟩
  refine va_callv (A1 := gA Γ.1) run hS (fun _ _ q => q) (fun _ q => q) (fun a t H1 locs1 ht hvm hw hB h1 h2 hS1 => ?_)
  obtain ⟨hP1, hD1⟩ := hB
  rw [ht, List.append_assoc] at hP1
  rw [List.append_assoc] at hD1
  exact kk a hw H1 locs1 ls hP1 hD1 hS1 hL
end RowsD

/-! a static method that fills an array that is the last cell -/
def gCs (y : MethodName) (cc : ByteArray) (maxL fr lo : Nat) (As : List Value) (E E' : gG → va_E) (G : gG) (w0 : va_W) (a : Nat) : Prop :=
  ∀ (l : Launch), Met l y (Cond.code y cc maxL none :: gTb) { frames := fr, cells := 0, slots := 0, locals := lo } (va_Pc As (gWc G (w0 ++ [(a, E G)]))) (gQc G a w0 (fun b => [(b 0, E' G)])) 0 0 (gA G)
theorem gCs_intro {y : MethodName} {cc : ByteArray} {maxL fr lo : Nat} {As : List Value} {E E' : gG → va_E} {G : gG} {w0 : va_W} {a : Nat} (own : String) (hown : y.cls = own) (hy : plainFor y = true) (hc : ∀ v ∈ As, v.category = 1) (hn : As.length ≤ maxL)
    (k : ∀ (Γ : gZ), Γ.1 = G → gOc Γ cc maxL own fr lo 0 0 → gEndC Γ a w0 (fun G b => [(b 0, E' G)]) 0 0 → Ac Γ 0 0 0 (gEn As maxL) [] w0 [(a, E G)]) : gCs y cc maxL fr lo As E E' G w0 a := by
  intro l
  refine gOfW (cc := cc) (maxL := maxL) (ret := none) hy rfl ?_
  intro p e s m args below meth c s₁ B hml hv
  obtain ⟨rfl, hP, hD, hF, hz⟩ := hv
  have hts := atoms_spec (ws := Cond.code y cc maxL none :: gTb) B.pre
  have hOwn : s.vm.findClass own = some m.cls := hown ▸ findClass_of_methodNamed B.named
  rw [lg_entry_eq]
  exact k (G, (p, l, e, { frames := fr, cells := 0, slots := 0, locals := lo }, s), (m, As.toArray, below, meth, c), MQ below (gQc G a w0 (fun b => [(b 0, E' G)])) As.toArray s 0 0 (gA G)) rfl
    ⟨B.exec, B.bytes, hml, hOwn, fun w hw => hts w (List.mem_cons_of_mem _ hw), hF, Nat.le_refl _, Nat.le_refl _, Nat.le_refl _, Nat.le_refl _, hz⟩ ⟨B.returns, B.notSynchronized, rfl⟩ s.heap [] _ hP hD va_S.rf (gEnL hc hn)
theorem y_callS {Γ : gZ} {cc : ByteArray} {nL : Nat} {own : String} {fr lo NC NS : Nat} {k n pc : Nat} {L : List (Option Value)} {st rest : List Value} {w0 M : va_W} {y : MethodName} {bytes : ByteArray} {maxL idx f' l' : Nat} {As : List Value} {E E' : gG → va_E} (h : gOc Γ cc nL own fr lo NC NS) (hm : gMt y bytes maxL none As.length) (hi : Cond.static y ∈ gTb) (hlk : Cond.methodLink own idx y ∈ gTb) {a : Nat} {M0 : va_W} (hM : M = M0 ++ [(a, E Γ.1)]) (ct : gCs y bytes maxL f' l' As E E' Γ.1 (w0 ++ M0) a) (hst : st = As.reverse ++ rest) (hfr : f' + 1 ≤ fr) (hlo : 8 + (maxL + 11) + l' ≤ lo) (hrs : (rest.map fun v => v.category).sum ≤ 8) (hn : L.length = nL) (hk : k ≤ NC) (hs : n ≤ NS) (hd : decode cc pc = .ok (.invokestatic idx, 3))
    (kk : Ac Γ k n (pc + 3) L rest w0 (M0 ++ [(a, E' Γ.1)])) : Ac Γ k n pc L st w0 M := by
  subst hM
  subst hst
  intro H locs ls hP hD hS hL
  obtain ⟨m1, m2, m3, m4⟩ := hm
  have hpre : PreS Γ.2.1.2.2.2.2 H (va_Pc As (gWc Γ.1 ((w0 ++ M0) ++ [(a, E Γ.1)]))) As := ⟨gPbc, fun U hU hW => ⟨rfl, by rw [hU, List.append_assoc]; exact hP, by rw [List.append_assoc]; exact hD, gFk_moved hW h.2.2.2.2.2.1, by rw [hU]; exact Nat.le_trans h.2.2.2.2.2.2.2.2.2.2 hS.1⟩⟩
  have run : va_Run Γ.2.1.1 Γ.2.1.2.1 Γ.2.1.2.2.1 Γ.2.1.2.2.2.1 Γ.2.1.2.2.2.2 Γ.2.2.1.1 Γ.2.2.1.2.1 Γ.2.2.1.2.2.1 Γ.2.2.1.2.2.2.1 Γ.2.2.1.2.2.2.2 H locs k n 0 0 (F0 Γ.2.2.1.1 pc ls (As.reverse ++ rest)) rest (gQc Γ.1 a (w0 ++ M0) (fun b => [(b 0, E' Γ.1)]) As.toArray) (gA Γ.1) := va_runS (Ts := gTb) ⟨h.1, h.2.1, h.2.2.1, h.2.2.2.1, h.2.2.2.2.1⟩ (ct Γ.2.1.2.1) (va_cwS (own := own) (index := idx) As.length h.2.2.2.2.1 (gGood fun w hw => by
    rcases List.mem_append.mp hw with q | q
    · simp only [List.mem_cons, List.not_mem_nil, or_false] at q
      rcases q with rfl | rfl | rfl
      · exact hlk
      · exact hi
      · exact m2
    · exact gGoodC m1 w q) rfl rfl rfl ⟨m3.1, m3.2, m4⟩ ⟨Nat.le_trans hfr h.2.2.2.2.2.2.1, Nat.le_trans hlo h.2.2.2.2.2.2.2.1⟩) hpre rfl rfl (hL.1.trans hn) rfl (lv_room hrs) hd ⟨Nat.le_trans hk h.2.2.2.2.2.2.2.2.1, Nat.le_trans hs h.2.2.2.2.2.2.2.2.2.1⟩
  refine va_callv (A1 := gA Γ.1) run hS (fun _ _ q => q) (fun _ q => q) (fun b t H1 locs1 ht hvm hw hB h1 h2 hS1 => ?_)
  obtain ⟨hP1, hD1⟩ := hB
  have hw' : b 0 = a := hw
  rw [ht, List.append_assoc] at hP1
  rw [List.append_assoc] at hD1
  have hP2 : va_P Γ.1.1 vwCl (w0 ++ (M0 ++ [(b 0, E' Γ.1)])) H1 := hP1
  have hD2 : va_D (gA Γ.1) (w0 ++ (M0 ++ [(b 0, E' Γ.1)])) := hD1
  rw [hw'] at hP2 hD2
  exact kk H1 locs1 ls hP2 hD2 hS1 hL
