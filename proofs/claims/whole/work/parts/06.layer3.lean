/-! ===== contracts over the whole world, calls, returns ===== -/
def gWo (G : gG) (σ : gSt) (U : State) : Prop := va_P G.1 vwCl (gWs G σ) U.heap ∧ gFx G U
theorem gFx_moved {G : gG} {s U : State} (hW : s.WarmedH U.vm) (h : gFx G s) : gFx G U := ⟨va_K.moved hW.alike h.1, fun q hq => va_Nw.warmM hW (h.2.1 q hq), h.2.2⟩
theorem gFx_calling {G : gG} {U : State} (g : JFrame) (mk : MethodId) (a : Array Value) (h : gFx G U) : gFx G (U.calling g mk a) :=
  ⟨va_K.moved (u := U) (U := U.calling g mk a) (Vm.Alike.refl U.vm) h.1, fun q hq => va_Nw.same (u := U) (U := U.calling g mk a) rfl rfl (h.2.1 q hq), h.2.2⟩
abbrev gA (G : gG) : Nat → Prop := fun q => gH0 G ≤ q
/-- ends: an int and a state; a state alone; an int, the state as it was; a reference to an object of class 7, the state as it was -/
def gQi (G : gG) (r : Int32 × gSt) : Array Value → State → Outcome → State → Prop := va_Qi (S := Unit) (fun v _ => v = r.1) (fun _ t => va_P G.1 vwCl (gWs G r.2) t.heap) (gA G)
def gQp (σ : gSt) (G : gG) (r : Int32) : Array Value → State → Outcome → State → Prop := va_Qi (S := Unit) (fun v _ => v = r) (fun _ t => va_P G.1 vwCl (gWs G σ) t.heap) (gA G)
def gQv (G : gG) (r : gSt) : Array Value → State → Outcome → State → Prop := va_Qv (S := Unit) (fun _ => True) (fun _ t => va_P G.1 vwCl (gWs G r) t.heap) (gA G)
def gQr (σ : gSt) (G : gG) (r : Nat) : Array Value → State → Outcome → State → Prop := va_Qr (S := Unit) (fun _ => isO r 7) (fun _ a t => a = gAd G r ∧ va_P G.1 vwCl (gWs G σ) t.heap) (gA G)
/-- a method's contract: where the computation o ends, the method does, with what Q says -/
def gCt {ρ : Type} (y : MethodName) (cc : ByteArray) (maxL : Nat) (ret : Option FieldType) (fr lo : Nat) (Q : gG → ρ → Array Value → State → Outcome → State → Prop) (av : (Nat → Nat) → List Value) (σ : gSt) (o : Option ρ) : Prop :=
  ∀ (l : Launch) (G : gG) (r : ρ), o = some r → Met l y (Cond.code y cc maxL ret :: gTb) { frames := fr, cells := 0, slots := 0, locals := lo } (va_Pc (av (gAd G)) (gWo G σ)) (Q G r) 0 0 (gA G)
/-- what is known of a method by its words -/
def gMt (y : MethodName) (bytes : ByteArray) (maxL : Nat) (ret : Option FieldType) (n : Nat) : Prop :=
  Cond.code y bytes maxL ret ∈ gTb ∧ Cond.initialized y.cls ∈ gTb ∧ (y.cls ≠ "java/lang/invoke/MethodHandle" ∧ y.cls ≠ "java/lang/invoke/VarHandle") ∧ (parseMethodDescriptor y.desc).map (fun d => d.parameters.length) = some n
def gMi (y : MethodName) : Prop := Cond.instanceMethod y ∈ gTb ∧ Cond.selects y.cls y y ∈ gTb
theorem gPb {G : gG} {σ : gSt} {av : List Value} : FrameBlind (va_Pc av (gWo G σ)) := fun a U g mk q => ⟨q.1, q.2.1, gFx_calling g mk a q.2.2⟩
/-- what a frame promises at its end -/
def gEnd {ρ : Type} (Γ : gX ρ) (Q : gG → ρ → Array Value → State → Outcome → State → Prop) : Prop :=
  Γ.2.2.2.1.1 = 0 ∧ Γ.2.2.2.1.2 = 0 ∧ Γ.2.2.2.2 = fun r => MQ Γ.2.2.1.2.2.1 (Q Γ.1 r) Γ.2.2.1.2.1 Γ.2.1.2.2.2.2 0 0 (gA Γ.1)
theorem gOfW {l : Launch} {y : MethodName} {ws ws' : List Cond} {rm : Room} {Pc : Array Value → State → Prop} {Qc : Array Value → State → Outcome → State → Prop} {mc ms : Nat} {free : Addr → Prop} {cc : ByteArray} {maxL : Nat} {ret : Option FieldType}
    (hy : plainFor y = true) (hw : ws = Cond.code y cc maxL ret :: ws')
    (body : ∀ p e s m args below meth c s₁, BodyLoose p l y (headSpec ws rm) cc maxL ret e s m args below meth c s₁ → c.maxLocals = maxL → Pc args s →
      W p l e (headSpec ws rm).room s m args below meth c s.heap [] 0 0 (MQ below Qc args s mc ms free) (entryFrame m args maxL)) : Met l y ws rm Pc Qc mc ms free := by
  refine MetFree.of_bodySF (code := cc) (maxLocals := maxL) (ret := ret) hy ?_ ?_
  · intro args s m h hn
    obtain ⟨meth, c, h1, h2, h3, h4, h5, h6, -, -⟩ := Cond.code_spec hn (atoms_spec (ws := ws) h _ (by rw [hw]; exact List.mem_cons_self))
    exact ⟨meth, c, h1, h2, h3, h4, h5, h6⟩
  · intro p e s m args below meth c s₁ B hml hP _
    have hh0 : s₁.heap = s.heap := by rw [B.state]; rfl
    obtain ⟨t, a1, o, b1, b2, b3⟩ := body p e s m args below meth c s₁ B hml hP s₁ hh0 (Stand.of_body B)
    exact ⟨t, o, a1, b1, b2, ⟨b3.1, b3.2⟩⟩
/-- the locals at a method's entry -/
def gEn (vs : List Value) (n : Nat) : List (Option Value) := vs.map some ++ List.replicate (n - vs.length) none
theorem gSl1 : ∀ (vs : List Value), (∀ v ∈ vs, v.category = 1) → lg_sl vs = vs.map Slot.val
  | [], _ => rfl
  | v :: vs, h => by
    have h1 := h v List.mem_cons_self
    have h2 := gSl1 vs (fun w hw => h w (List.mem_cons_of_mem _ hw))
    unfold lg_sl at h2 ⊢
    rw [List.flatMap_cons, h2]
    simp [h1]
theorem gEnL {vs : List Value} {n : Nat} (hc : ∀ v ∈ vs, v.category = 1) (hn : vs.length ≤ n) : gL ((lg_sl vs ++ List.replicate (n - (lg_sl vs).length) Slot.unset).toArray) (gEn vs n) := by
  have hs := gSl1 vs hc
  have hlen : (lg_sl vs).length = vs.length := by rw [hs, List.length_map]
  have hl := lv_entry vs (n := n) (by rw [hlen]; exact hn)
  refine ⟨?_, hl.2.1, fun i v hv => ?_⟩
  · rw [hl.1]
    simp [gEn]
    omega
  · have hi : i < vs.length := by
      rcases Nat.lt_or_ge i vs.length with q | q
      · exact q
      · unfold gEn at hv
        rw [List.getElem?_append_right (by simpa using q)] at hv
        rw [List.getElem?_replicate] at hv
        split at hv <;> cases hv
    unfold gEn at hv
    rw [List.getElem?_append_left (by simpa using hi), List.getElem?_map] at hv
    cases hq : vs[i]? with
    | none => rw [hq] at hv; cases hv
    | some z =>
      rw [hq] at hv
      have e : z = v := Option.some.inj (Option.some.inj hv)
      subst e
      refine ⟨?_, hc _ (List.mem_of_getElem? hq)⟩
      rw [hs, List.getElem?_toArray, List.getElem?_append_left (by simpa using hi), List.getElem?_map, hq]
      rfl
theorem gCt_intro {ρ : Type} {y : MethodName} {cc : ByteArray} {maxL : Nat} {ret : Option FieldType} {fr lo : Nat} {Q : gG → ρ → Array Value → State → Outcome → State → Prop} {av : (Nat → Nat) → List Value} {σ : gSt} {o : Option ρ} (own : String) (hown : y.cls = own) (hy : plainFor y = true) (hc : ∀ ad, ∀ v ∈ av ad, v.category = 1) (hn : ∀ ad, (av ad).length ≤ maxL)
    (k : ∀ Γ : gX ρ, gOk Γ cc maxL own ret fr lo → gEnd Γ Q → At Γ 0 (gEn (av (gAd Γ.1)) maxL) [] σ o) : gCt y cc maxL ret fr lo Q av σ o := by
  intro l G r hr
  refine gOfW (cc := cc) (maxL := maxL) (ret := ret) hy rfl ?_
  intro p e s m args below meth c s₁ B hml hv
  obtain ⟨rfl, hP, hF⟩ := hv
  have hts := atoms_spec (ws := Cond.code y cc maxL ret :: gTb) B.pre
  have hOwn : s.vm.findClass own = some m.cls := hown ▸ findClass_of_methodNamed B.named
  rw [lg_entry_eq]
  exact k (G, (p, l, e, { frames := fr, cells := 0, slots := 0, locals := lo }, s), (m, (av (gAd G)).toArray, below, meth, c), (0, 0), fun r => MQ below (Q G r) (av (gAd G)).toArray s 0 0 (gA G))
    ⟨B.exec, B.bytes, hml, hOwn, fun w hw => hts w (List.mem_cons_of_mem _ hw), hF, B.returns, B.notSynchronized, Nat.le_refl _, Nat.le_refl _, Nat.le_refl _, Nat.le_refl _⟩ ⟨rfl, rfl, rfl⟩ r hr s.heap [] _ hP va_S.rf (gEnL (hc _) (hn _))
section Ends
variable {cc : ByteArray} {nL : Nat} {own : String} {fr lo : Nat} {pc : Nat} {L : List (Option Value)} {σ : gSt}
theorem gMQ {ρ : Type} {Γ : gX ρ} {Q : gG → ρ → Array Value → State → Outcome → State → Prop} (z : gEnd Γ Q) (r : ρ) : Γ.2.2.2.2 r = MQ Γ.2.2.1.2.2.1 (Q Γ.1 r) Γ.2.2.1.2.1 Γ.2.1.2.2.2.2 Γ.2.2.2.1.1 Γ.2.2.2.1.2 (gA Γ.1) := by
  rw [z.2.2, z.1, z.2.1]
theorem x_ireti {Γ : gX (Int32 × gSt)} {ret : Option FieldType} (h : gOk Γ cc nL own ret fr lo) (z : gEnd Γ gQi) {v : Int32} (ty : FieldType) (hr : ret = some ty) (hn : narrow ty (.int v) = .int v) (hd : decode cc pc = .ok (.ireturn, 1)) : At Γ pc L [.int v] σ (some (v, σ)) := by
  intro r hr0 H locs ls hP hS hL
  cases hr0
  rw [gMQ z]
  exact W.zret (v := v) h.1 h.2.1 (h.2.2.2.2.2.2.1.trans hr) hn (fun t ht hW => ⟨⟨v, (), rfl, rfl, by subst ht; exact hP⟩, hS.F ht⟩) hS.2.2 hd (hlocks := h.2.2.2.2.2.2.2.1)
theorem x_iretp {Γ : gX Int32} {σ0 : gSt} {ret : Option FieldType} (h : gOk Γ cc nL own ret fr lo) (z : gEnd Γ (gQp σ0)) (hσ : σ = σ0) {v : Int32} (ty : FieldType) (hr : ret = some ty) (hn : narrow ty (.int v) = .int v) (hd : decode cc pc = .ok (.ireturn, 1)) : At Γ pc L [.int v] σ (some v) := by
  intro r hr0 H locs ls hP hS hL
  cases hr0
  subst hσ
  rw [gMQ z]
  exact W.zret (v := v) h.1 h.2.1 (h.2.2.2.2.2.2.1.trans hr) hn (fun t ht hW => ⟨⟨v, (), rfl, rfl, by subst ht; exact hP⟩, hS.F ht⟩) hS.2.2 hd (hlocks := h.2.2.2.2.2.2.2.1)
theorem gZ01 {v : Int32} (h : v = 0 ∨ v = 1) : narrow .boolean (.int v) = .int v := by rcases h with rfl | rfl <;> rfl
theorem x_zreti {Γ : gX (Int32 × gSt)} {ret : Option FieldType} (h : gOk Γ cc nL own ret fr lo) (z : gEnd Γ gQi) {v : Int32} (hr : ret = some .boolean) (hd : decode cc pc = .ok (.ireturn, 1)) : At Γ pc L [.int v] σ ((zb v).bind fun v => some (v, σ)) := by
  intro r hr0 H locs ls hP hS hL
  obtain ⟨a, ha, hf⟩ := some_bind hr0
  obtain ⟨hc, rfl⟩ := some_ifp ha
  exact x_ireti h z .boolean hr (gZ01 hc) hd r hf H locs ls hP hS hL
theorem x_zretp {Γ : gX Int32} {σ0 : gSt} {ret : Option FieldType} (h : gOk Γ cc nL own ret fr lo) (z : gEnd Γ (gQp σ0)) (hσ : σ = σ0) {v : Int32} (hr : ret = some .boolean) (hd : decode cc pc = .ok (.ireturn, 1)) : At Γ pc L [.int v] σ (zb v) := by
  intro r hr0 H locs ls hP hS hL
  obtain ⟨hc, rfl⟩ := some_ifp hr0
  exact x_iretp h z hσ .boolean hr (gZ01 hc) hd v rfl H locs ls hP hS hL
theorem x_vret {Γ : gX gSt} {ret : Option FieldType} (h : gOk Γ cc nL own ret fr lo) (z : gEnd Γ gQv) (hr : ret = none) (hd : decode cc pc = .ok (.return_, 1)) : At Γ pc L [] σ (some σ) := by
  intro r hr0 H locs ls hP hS hL
  cases hr0
  rw [gMQ z]
  exact W.vret h.1 h.2.1 (h.2.2.2.2.2.2.1.trans hr) (fun t ht hW => ⟨⟨(), rfl, trivial, by subst ht; exact hP⟩, hS.F ht⟩) hS.2.2 hd (hlocks := h.2.2.2.2.2.2.2.1)
theorem x_aret {Γ : gX Nat} {σ0 : gSt} {ret : Option FieldType} (h : gOk Γ cc nL own ret fr lo) (z : gEnd Γ (gQr σ0)) (hσ : σ = σ0) {k : Nat} (hk : isO k 7) (nm : String) (hr : ret = some (.object nm)) (hd : decode cc pc = .ok (.areturn, 1)) : At Γ pc L [.ref (gAd Γ.1 k)] σ (some k) := by
  intro r hr0 H locs ls hP hS hL
  cases hr0
  subst hσ
  rw [gMQ z]
  exact W.aret h.1 h.2.1 (h.2.2.2.2.2.2.1.trans hr) (Or.inl ⟨nm, rfl⟩) (Or.inr ⟨_, rfl⟩) (fun t ht hW => ⟨⟨(), _, rfl, hk, rfl, by subst ht; exact hP⟩, hS.F ht⟩) hS.2.2 hd (hlocks := h.2.2.2.2.2.2.2.1)
end Ends
section CallRows
variable {ρ : Type} {Γ : gX ρ} {cc : ByteArray} {nL : Nat} {own : String} {ret : Option FieldType} {fr lo : Nat} {pc : Nat} {L : List (Option Value)} {st rest : List Value} {σ : gSt}
variable {y : MethodName} {bytes : ByteArray} {maxL n idx f' l' : Nat} {ret' : Option FieldType}
/-- what a call row needs of its place -/
def gCa (st rest : List Value) (fr lo f' l' maxL nL : Nat) (L : List (Option Value)) : Prop := f' + 1 ≤ fr ∧ 8 + (maxL + 11) + l' ≤ lo ∧ (rest.map fun v => v.category).sum ≤ 8 ∧ L.length = nL
theorem gRunV (h : gOk Γ cc nL own ret fr lo) (hm : gMt y bytes maxL ret' n) (hi : gMi y) (hlk : Cond.methodLink own idx y ∈ gTb) {ci k : Nat} (hk : isO k ci) (hci : ci < 11) (hcl : y.cls = gR ci) {As : List Value} (hst : st = As.reverse ++ .ref (gAd Γ.1 k) :: rest) (hn : As.length = n) (hca : gCa st rest fr lo f' l' maxL nL L) (hd : decode cc pc = .ok (.invokevirtual idx, 3))
    {Qc : Array Value → State → Outcome → State → Prop} {H : Heap} {locs : List Loc} {ls : Array Slot} (hM : Met Γ.2.1.2.1 y (Cond.code y bytes maxL ret' :: gTb) { frames := f', cells := 0, slots := 0, locals := l' } (va_Pc (.ref (gAd Γ.1 k) :: As) (gWo Γ.1 σ)) Qc 0 0 (gA Γ.1)) (hP : va_P Γ.1.1 vwCl (gWs Γ.1 σ) H) (hL : gL ls L) :
    va_Run Γ.2.1.1 Γ.2.1.2.1 Γ.2.1.2.2.1 Γ.2.1.2.2.2.1 Γ.2.1.2.2.2.2 Γ.2.2.1.1 Γ.2.2.1.2.1 Γ.2.2.1.2.2.1 Γ.2.2.1.2.2.2.1 Γ.2.2.1.2.2.2.2 H locs Γ.2.2.2.1.1 Γ.2.2.2.1.2 0 0 (F0 Γ.2.2.1.1 pc ls st) rest (Qc (.ref (gAd Γ.1 k) :: As).toArray) (gA Γ.1) := by
  obtain ⟨m1, m2, m3, m4⟩ := hm
  refine va_runV (C := y.cls) (Ts := gTb) ⟨h.1, h.2.1, h.2.2.1, h.2.2.2.1, h.2.2.2.2.1⟩ hM (cwV n h.2.2.2.2.1 (gGood fun w hw => ?_) rfl rfl rfl ⟨rfl, m3.1, m3.2, m4⟩ ⟨Nat.le_trans hca.1 h.2.2.2.2.2.2.2.2.1, Nat.le_trans hca.2.1 h.2.2.2.2.2.2.2.2.2.1⟩) ⟨gPb, ?_, fun U hU hW => ⟨rfl, by rw [hU]; exact hP, gFx_moved hW h.2.2.2.2.2.1⟩⟩ rfl hn (hL.1.trans hca.2.2.2) hst (lv_room hca.2.2.1) hd ⟨h.2.2.2.2.2.2.2.2.2.2.1, h.2.2.2.2.2.2.2.2.2.2.2⟩
  · rcases List.mem_append.mp hw with q | q
    · simp only [List.mem_cons, List.not_mem_nil, or_false] at q
      rcases q with rfl | rfl | rfl | rfl
      · exact hlk
      · exact hi.1
      · exact hi.2
      · exact m2
    · exact gGoodC m1 w q
  · have hrv := va_recv h.2.2.2.2.2.1.1 hP (gCl ci hci) (gWsO hk)
    rw [hcl]
    exact hrv
theorem gRunS (h : gOk Γ cc nL own ret fr lo) (hm : gMt y bytes maxL ret' n) (hi : Cond.static y ∈ gTb) (hlk : Cond.methodLink own idx y ∈ gTb) {As : List Value} (hst : st = As.reverse ++ rest) (hn : As.length = n) (hca : gCa st rest fr lo f' l' maxL nL L) (hd : decode cc pc = .ok (.invokestatic idx, 3))
    {Qc : Array Value → State → Outcome → State → Prop} {H : Heap} {locs : List Loc} {ls : Array Slot} (hM : Met Γ.2.1.2.1 y (Cond.code y bytes maxL ret' :: gTb) { frames := f', cells := 0, slots := 0, locals := l' } (va_Pc As (gWo Γ.1 σ)) Qc 0 0 (gA Γ.1)) (hP : va_P Γ.1.1 vwCl (gWs Γ.1 σ) H) (hL : gL ls L) :
    va_Run Γ.2.1.1 Γ.2.1.2.1 Γ.2.1.2.2.1 Γ.2.1.2.2.2.1 Γ.2.1.2.2.2.2 Γ.2.2.1.1 Γ.2.2.1.2.1 Γ.2.2.1.2.2.1 Γ.2.2.1.2.2.2.1 Γ.2.2.1.2.2.2.2 H locs Γ.2.2.2.1.1 Γ.2.2.2.1.2 0 0 (F0 Γ.2.2.1.1 pc ls st) rest (Qc As.toArray) (gA Γ.1) := by
  obtain ⟨m1, m2, m3, m4⟩ := hm
  refine va_runS (Ts := gTb) ⟨h.1, h.2.1, h.2.2.1, h.2.2.2.1, h.2.2.2.2.1⟩ hM (va_cwS n h.2.2.2.2.1 (gGood fun w hw => ?_) rfl rfl rfl ⟨m3.1, m3.2, m4⟩ ⟨Nat.le_trans hca.1 h.2.2.2.2.2.2.2.2.1, Nat.le_trans hca.2.1 h.2.2.2.2.2.2.2.2.2.1⟩) ⟨gPb, fun U hU hW => ⟨rfl, by rw [hU]; exact hP, gFx_moved hW h.2.2.2.2.2.1⟩⟩ rfl hn (hL.1.trans hca.2.2.2) hst (lv_room hca.2.2.1) hd ⟨h.2.2.2.2.2.2.2.2.2.2.1, h.2.2.2.2.2.2.2.2.2.2.2⟩
  rcases List.mem_append.mp hw with q | q
  · simp only [List.mem_cons, List.not_mem_nil, or_false] at q
    rcases q with rfl | rfl | rfl
    · exact hlk
    · exact hi
    · exact m2
  · exact gGoodC m1 w q
theorem gRunN (h : gOk Γ cc nL own ret fr lo) (hm : gMt y bytes maxL ret' n) (hi : Cond.static y ∈ gTb) {host : String} (hlk : (own, idx, y, host) ∈ gNl) {As : List Value} (hst : st = As.reverse ++ rest) (hn : As.length = n) (hca : gCa st rest fr lo f' l' maxL nL L) (hd : decode cc pc = .ok (.invokestatic idx, 3))
    {Qc : Array Value → State → Outcome → State → Prop} {H : Heap} {locs : List Loc} {ls : Array Slot} (hM : Met Γ.2.1.2.1 y (Cond.code y bytes maxL ret' :: gTb) { frames := f', cells := 0, slots := 0, locals := l' } (va_Pc As (gWo Γ.1 σ)) Qc 0 0 (gA Γ.1)) (hP : va_P Γ.1.1 vwCl (gWs Γ.1 σ) H) (hL : gL ls L) :
    va_Run Γ.2.1.1 Γ.2.1.2.1 Γ.2.1.2.2.1 Γ.2.1.2.2.2.1 Γ.2.1.2.2.2.2 Γ.2.2.1.1 Γ.2.2.1.2.1 Γ.2.2.1.2.2.1 Γ.2.2.1.2.2.2.1 Γ.2.2.1.2.2.2.2 H locs Γ.2.2.2.1.1 Γ.2.2.2.1.2 0 0 (F0 Γ.2.2.1.1 pc ls st) rest (Qc As.toArray) (gA Γ.1) := by
  obtain ⟨m1, m2, m3, m4⟩ := hm
  exact va_runSN (Ts := gTb) ⟨h.1, h.2.1, h.2.2.1, h.2.2.2.1, h.2.2.2.2.1⟩ hM ⟨va_cnB n h.2.2.2.2.1 (gGood (gGoodC m1)) rfl rfl rfl (h.2.2.2.2.2.1.2.1 _ hlk) (h.2.2.2.2.1 _ m2) ⟨m3.1, m3.2, m4⟩ ⟨Nat.le_trans hca.1 h.2.2.2.2.2.2.2.2.1, Nat.le_trans hca.2.1 h.2.2.2.2.2.2.2.2.2.1⟩, h.2.2.2.2.1 _ hi, trivial⟩ ⟨gPb, fun U hU hW => ⟨rfl, by rw [hU]; exact hP, gFx_moved hW h.2.2.2.2.2.1⟩⟩ rfl hn (hL.1.trans hca.2.2.2) hst (lv_room hca.2.2.1) hd ⟨h.2.2.2.2.2.2.2.2.2.2.1, h.2.2.2.2.2.2.2.2.2.2.2⟩
end CallRows
section Calls
variable {ρ : Type} {Γ : gX ρ} {cc : ByteArray} {nL : Nat} {own : String} {ret : Option FieldType} {fr lo : Nat} {pc : Nat} {L : List (Option Value)} {st rest : List Value} {σ : gSt}
variable {y : MethodName} {bytes : ByteArray} {maxL n idx f' l' : Nat} {ret' : Option FieldType}
theorem x_Vi (h : gOk Γ cc nL own ret fr lo) (hm : gMt y bytes maxL ret' n) (hi : gMi y) (hlk : Cond.methodLink own idx y ∈ gTb) {ci k : Nat} (hk : isO k ci) (hci : ci < 11) (hcl : y.cls = gR ci) {av : (Nat → Nat) → List Value} {o : Option (Int32 × gSt)} {f : Int32 → gSt → Option ρ} (ct : gCt y bytes maxL ret' f' l' gQi (fun ad => .ref (ad k) :: av ad) σ o) (hst : st = (av (gAd Γ.1)).reverse ++ .ref (gAd Γ.1 k) :: rest) (hn : (av (gAd Γ.1)).length = n) (hca : gCa st rest fr lo f' l' maxL nL L) (hd : decode cc pc = .ok (.invokevirtual idx, 3)) (kk : ∀ v σ', At Γ (pc + 3) L (.int v :: rest) σ' (f v σ')) : At Γ pc L st σ (b2 o f) := by
  intro r hr H locs ls hP hS hL
  obtain ⟨a, b, ho, hf⟩ := some_b2 hr
  refine va_calli (a := ((fun ad => .ref (ad k) :: av ad) (gAd Γ.1)).toArray) (free := gA Γ.1) (A1 := gA Γ.1) (gRunV h hm hi hlk hk hci hcl hst hn hca hd (ct Γ.2.1.2.1 Γ.1 (a, b) ho) hP hL) hS (fun _ _ q => q) (fun _ q => q) (fun v u t H1 locs1 ht hvm hw hB h1 h2 hS1 => ?_)
  subst hw
  rw [ht] at hB
  exact kk _ b r hf H1 locs1 ls hB hS1 hL
theorem x_Vp (h : gOk Γ cc nL own ret fr lo) (hm : gMt y bytes maxL ret' n) (hi : gMi y) (hlk : Cond.methodLink own idx y ∈ gTb) {ci k : Nat} (hk : isO k ci) (hci : ci < 11) (hcl : y.cls = gR ci) {av : (Nat → Nat) → List Value} {o : Option Int32} {f : Int32 → Option ρ} (ct : gCt y bytes maxL ret' f' l' (gQp σ) (fun ad => .ref (ad k) :: av ad) σ o) (hst : st = (av (gAd Γ.1)).reverse ++ .ref (gAd Γ.1 k) :: rest) (hn : (av (gAd Γ.1)).length = n) (hca : gCa st rest fr lo f' l' maxL nL L) (hd : decode cc pc = .ok (.invokevirtual idx, 3)) (kk : ∀ v, At Γ (pc + 3) L (.int v :: rest) σ (f v)) : At Γ pc L st σ (o.bind f) := by
  intro r hr H locs ls hP hS hL
  obtain ⟨a, ho, hf⟩ := some_bind hr
  refine va_calli (a := ((fun ad => .ref (ad k) :: av ad) (gAd Γ.1)).toArray) (free := gA Γ.1) (A1 := gA Γ.1) (gRunV h hm hi hlk hk hci hcl hst hn hca hd (ct Γ.2.1.2.1 Γ.1 a ho) hP hL) hS (fun _ _ q => q) (fun _ q => q) (fun v u t H1 locs1 ht hvm hw hB h1 h2 hS1 => ?_)
  subst hw
  rw [ht] at hB
  exact kk _ r hf H1 locs1 ls hB hS1 hL
theorem x_Vv (h : gOk Γ cc nL own ret fr lo) (hm : gMt y bytes maxL ret' n) (hi : gMi y) (hlk : Cond.methodLink own idx y ∈ gTb) {ci k : Nat} (hk : isO k ci) (hci : ci < 11) (hcl : y.cls = gR ci) {av : (Nat → Nat) → List Value} {o : Option gSt} {f : gSt → Option ρ} (ct : gCt y bytes maxL ret' f' l' gQv (fun ad => .ref (ad k) :: av ad) σ o) (hst : st = (av (gAd Γ.1)).reverse ++ .ref (gAd Γ.1 k) :: rest) (hn : (av (gAd Γ.1)).length = n) (hca : gCa st rest fr lo f' l' maxL nL L) (hd : decode cc pc = .ok (.invokevirtual idx, 3)) (kk : ∀ σ', At Γ (pc + 3) L rest σ' (f σ')) : At Γ pc L st σ (o.bind f) := by
  intro r hr H locs ls hP hS hL
  obtain ⟨a, ho, hf⟩ := some_bind hr
  refine va_callv (a := ((fun ad => .ref (ad k) :: av ad) (gAd Γ.1)).toArray) (free := gA Γ.1) (A1 := gA Γ.1) (gRunV h hm hi hlk hk hci hcl hst hn hca hd (ct Γ.2.1.2.1 Γ.1 a ho) hP hL) hS (fun _ _ q => q) (fun _ q => q) (fun u t H1 locs1 ht hvm hw hB h1 h2 hS1 => ?_)
  rw [ht] at hB
  exact kk a r hf H1 locs1 ls hB hS1 hL
theorem x_Vr (h : gOk Γ cc nL own ret fr lo) (hm : gMt y bytes maxL ret' n) (hi : gMi y) (hlk : Cond.methodLink own idx y ∈ gTb) {ci k : Nat} (hk : isO k ci) (hci : ci < 11) (hcl : y.cls = gR ci) {av : (Nat → Nat) → List Value} {o : Option Nat} {f : Nat → Option ρ} (ct : gCt y bytes maxL ret' f' l' (gQr σ) (fun ad => .ref (ad k) :: av ad) σ o) (hst : st = (av (gAd Γ.1)).reverse ++ .ref (gAd Γ.1 k) :: rest) (hn : (av (gAd Γ.1)).length = n) (hca : gCa st rest fr lo f' l' maxL nL L) (hd : decode cc pc = .ok (.invokevirtual idx, 3)) (kk : ∀ q, isO q 7 → At Γ (pc + 3) L (.ref (gAd Γ.1 q) :: rest) σ (f q)) : At Γ pc L st σ (o.bind f) := by
  intro r hr H locs ls hP hS hL
  obtain ⟨a, ho, hf⟩ := some_bind hr
  refine va_callr (a := ((fun ad => .ref (ad k) :: av ad) (gAd Γ.1)).toArray) (free := gA Γ.1) (A1 := gA Γ.1) (gRunV h hm hi hlk hk hci hcl hst hn hca hd (ct Γ.2.1.2.1 Γ.1 a ho) hP hL) hS (fun _ _ q => q) (fun _ q => q) (fun u ra t H1 locs1 ht hvm hw hB h1 h2 hS1 => ?_)
  obtain ⟨rfl, hB⟩ := hB
  rw [ht] at hB
  exact kk a hw r hf H1 locs1 ls hB hS1 hL
theorem x_Si (h : gOk Γ cc nL own ret fr lo) (hm : gMt y bytes maxL ret' n) (hi : Cond.static y ∈ gTb) (hlk : Cond.methodLink own idx y ∈ gTb) {av : (Nat → Nat) → List Value} {o : Option (Int32 × gSt)} {f : Int32 → gSt → Option ρ} (ct : gCt y bytes maxL ret' f' l' gQi av σ o) (hst : st = (av (gAd Γ.1)).reverse ++ rest) (hn : (av (gAd Γ.1)).length = n) (hca : gCa st rest fr lo f' l' maxL nL L) (hd : decode cc pc = .ok (.invokestatic idx, 3)) (kk : ∀ v σ', At Γ (pc + 3) L (.int v :: rest) σ' (f v σ')) : At Γ pc L st σ (b2 o f) := by
  intro r hr H locs ls hP hS hL
  obtain ⟨a, b, ho, hf⟩ := some_b2 hr
  refine va_calli (a := (av (gAd Γ.1)).toArray) (free := gA Γ.1) (A1 := gA Γ.1) (gRunS h hm hi hlk hst hn hca hd (ct Γ.2.1.2.1 Γ.1 (a, b) ho) hP hL) hS (fun _ _ q => q) (fun _ q => q) (fun v u t H1 locs1 ht hvm hw hB h1 h2 hS1 => ?_)
  subst hw
  rw [ht] at hB
  exact kk _ b r hf H1 locs1 ls hB hS1 hL
theorem x_Sp (h : gOk Γ cc nL own ret fr lo) (hm : gMt y bytes maxL ret' n) (hi : Cond.static y ∈ gTb) (hlk : Cond.methodLink own idx y ∈ gTb) {av : (Nat → Nat) → List Value} {o : Option Int32} {f : Int32 → Option ρ} (ct : gCt y bytes maxL ret' f' l' (gQp σ) av σ o) (hst : st = (av (gAd Γ.1)).reverse ++ rest) (hn : (av (gAd Γ.1)).length = n) (hca : gCa st rest fr lo f' l' maxL nL L) (hd : decode cc pc = .ok (.invokestatic idx, 3)) (kk : ∀ v, At Γ (pc + 3) L (.int v :: rest) σ (f v)) : At Γ pc L st σ (o.bind f) := by
  intro r hr H locs ls hP hS hL
  obtain ⟨a, ho, hf⟩ := some_bind hr
  refine va_calli (a := (av (gAd Γ.1)).toArray) (free := gA Γ.1) (A1 := gA Γ.1) (gRunS h hm hi hlk hst hn hca hd (ct Γ.2.1.2.1 Γ.1 a ho) hP hL) hS (fun _ _ q => q) (fun _ q => q) (fun v u t H1 locs1 ht hvm hw hB h1 h2 hS1 => ?_)
  subst hw
  rw [ht] at hB
  exact kk _ r hf H1 locs1 ls hB hS1 hL
theorem x_Sv (h : gOk Γ cc nL own ret fr lo) (hm : gMt y bytes maxL ret' n) (hi : Cond.static y ∈ gTb) (hlk : Cond.methodLink own idx y ∈ gTb) {av : (Nat → Nat) → List Value} {o : Option gSt} {f : gSt → Option ρ} (ct : gCt y bytes maxL ret' f' l' gQv av σ o) (hst : st = (av (gAd Γ.1)).reverse ++ rest) (hn : (av (gAd Γ.1)).length = n) (hca : gCa st rest fr lo f' l' maxL nL L) (hd : decode cc pc = .ok (.invokestatic idx, 3)) (kk : ∀ σ', At Γ (pc + 3) L rest σ' (f σ')) : At Γ pc L st σ (o.bind f) := by
  intro r hr H locs ls hP hS hL
  obtain ⟨a, ho, hf⟩ := some_bind hr
  refine va_callv (a := (av (gAd Γ.1)).toArray) (free := gA Γ.1) (A1 := gA Γ.1) (gRunS h hm hi hlk hst hn hca hd (ct Γ.2.1.2.1 Γ.1 a ho) hP hL) hS (fun _ _ q => q) (fun _ q => q) (fun u t H1 locs1 ht hvm hw hB h1 h2 hS1 => ?_)
  rw [ht] at hB
  exact kk a r hf H1 locs1 ls hB hS1 hL
theorem x_Sr (h : gOk Γ cc nL own ret fr lo) (hm : gMt y bytes maxL ret' n) (hi : Cond.static y ∈ gTb) (hlk : Cond.methodLink own idx y ∈ gTb) {av : (Nat → Nat) → List Value} {o : Option Nat} {f : Nat → Option ρ} (ct : gCt y bytes maxL ret' f' l' (gQr σ) av σ o) (hst : st = (av (gAd Γ.1)).reverse ++ rest) (hn : (av (gAd Γ.1)).length = n) (hca : gCa st rest fr lo f' l' maxL nL L) (hd : decode cc pc = .ok (.invokestatic idx, 3)) (kk : ∀ q, isO q 7 → At Γ (pc + 3) L (.ref (gAd Γ.1 q) :: rest) σ (f q)) : At Γ pc L st σ (o.bind f) := by
  intro r hr H locs ls hP hS hL
  obtain ⟨a, ho, hf⟩ := some_bind hr
  refine va_callr (a := (av (gAd Γ.1)).toArray) (free := gA Γ.1) (A1 := gA Γ.1) (gRunS h hm hi hlk hst hn hca hd (ct Γ.2.1.2.1 Γ.1 a ho) hP hL) hS (fun _ _ q => q) (fun _ q => q) (fun u ra t H1 locs1 ht hvm hw hB h1 h2 hS1 => ?_)
  obtain ⟨rfl, hB⟩ := hB
  rw [ht] at hB
  exact kk a hw r hf H1 locs1 ls hB hS1 hL
theorem x_Ni (h : gOk Γ cc nL own ret fr lo) (hm : gMt y bytes maxL ret' n) (hi : Cond.static y ∈ gTb) {host : String} (hlk : (own, idx, y, host) ∈ gNl) {av : (Nat → Nat) → List Value} {o : Option (Int32 × gSt)} {f : Int32 → gSt → Option ρ} (ct : gCt y bytes maxL ret' f' l' gQi av σ o) (hst : st = (av (gAd Γ.1)).reverse ++ rest) (hn : (av (gAd Γ.1)).length = n) (hca : gCa st rest fr lo f' l' maxL nL L) (hd : decode cc pc = .ok (.invokestatic idx, 3)) (kk : ∀ v σ', At Γ (pc + 3) L (.int v :: rest) σ' (f v σ')) : At Γ pc L st σ (b2 o f) := by
  intro r hr H locs ls hP hS hL
  obtain ⟨a, b, ho, hf⟩ := some_b2 hr
  refine va_calli (a := (av (gAd Γ.1)).toArray) (free := gA Γ.1) (A1 := gA Γ.1) (gRunN h hm hi hlk hst hn hca hd (ct Γ.2.1.2.1 Γ.1 (a, b) ho) hP hL) hS (fun _ _ q => q) (fun _ q => q) (fun v u t H1 locs1 ht hvm hw hB h1 h2 hS1 => ?_)
  subst hw
  rw [ht] at hB
  exact kk _ b r hf H1 locs1 ls hB hS1 hL
theorem x_Np (h : gOk Γ cc nL own ret fr lo) (hm : gMt y bytes maxL ret' n) (hi : Cond.static y ∈ gTb) {host : String} (hlk : (own, idx, y, host) ∈ gNl) {av : (Nat → Nat) → List Value} {o : Option Int32} {f : Int32 → Option ρ} (ct : gCt y bytes maxL ret' f' l' (gQp σ) av σ o) (hst : st = (av (gAd Γ.1)).reverse ++ rest) (hn : (av (gAd Γ.1)).length = n) (hca : gCa st rest fr lo f' l' maxL nL L) (hd : decode cc pc = .ok (.invokestatic idx, 3)) (kk : ∀ v, At Γ (pc + 3) L (.int v :: rest) σ (f v)) : At Γ pc L st σ (o.bind f) := by
  intro r hr H locs ls hP hS hL
  obtain ⟨a, ho, hf⟩ := some_bind hr
  refine va_calli (a := (av (gAd Γ.1)).toArray) (free := gA Γ.1) (A1 := gA Γ.1) (gRunN h hm hi hlk hst hn hca hd (ct Γ.2.1.2.1 Γ.1 a ho) hP hL) hS (fun _ _ q => q) (fun _ q => q) (fun v u t H1 locs1 ht hvm hw hB h1 h2 hS1 => ?_)
  subst hw
  rw [ht] at hB
  exact kk _ r hf H1 locs1 ls hB hS1 hL
theorem x_Nv (h : gOk Γ cc nL own ret fr lo) (hm : gMt y bytes maxL ret' n) (hi : Cond.static y ∈ gTb) {host : String} (hlk : (own, idx, y, host) ∈ gNl) {av : (Nat → Nat) → List Value} {o : Option gSt} {f : gSt → Option ρ} (ct : gCt y bytes maxL ret' f' l' gQv av σ o) (hst : st = (av (gAd Γ.1)).reverse ++ rest) (hn : (av (gAd Γ.1)).length = n) (hca : gCa st rest fr lo f' l' maxL nL L) (hd : decode cc pc = .ok (.invokestatic idx, 3)) (kk : ∀ σ', At Γ (pc + 3) L rest σ' (f σ')) : At Γ pc L st σ (o.bind f) := by
  intro r hr H locs ls hP hS hL
  obtain ⟨a, ho, hf⟩ := some_bind hr
  refine va_callv (a := (av (gAd Γ.1)).toArray) (free := gA Γ.1) (A1 := gA Γ.1) (gRunN h hm hi hlk hst hn hca hd (ct Γ.2.1.2.1 Γ.1 a ho) hP hL) hS (fun _ _ q => q) (fun _ q => q) (fun u t H1 locs1 ht hvm hw hB h1 h2 hS1 => ?_)
  rw [ht] at hB
  exact kk a r hf H1 locs1 ls hB hS1 hL
theorem x_Nr (h : gOk Γ cc nL own ret fr lo) (hm : gMt y bytes maxL ret' n) (hi : Cond.static y ∈ gTb) {host : String} (hlk : (own, idx, y, host) ∈ gNl) {av : (Nat → Nat) → List Value} {o : Option Nat} {f : Nat → Option ρ} (ct : gCt y bytes maxL ret' f' l' (gQr σ) av σ o) (hst : st = (av (gAd Γ.1)).reverse ++ rest) (hn : (av (gAd Γ.1)).length = n) (hca : gCa st rest fr lo f' l' maxL nL L) (hd : decode cc pc = .ok (.invokestatic idx, 3)) (kk : ∀ q, isO q 7 → At Γ (pc + 3) L (.ref (gAd Γ.1 q) :: rest) σ (f q)) : At Γ pc L st σ (o.bind f) := by
  intro r hr H locs ls hP hS hL
  obtain ⟨a, ho, hf⟩ := some_bind hr
  refine va_callr (a := (av (gAd Γ.1)).toArray) (free := gA Γ.1) (A1 := gA Γ.1) (gRunN h hm hi hlk hst hn hca hd (ct Γ.2.1.2.1 Γ.1 a ho) hP hL) hS (fun _ _ q => q) (fun _ q => q) (fun u ra t H1 locs1 ht hvm hw hB h1 h2 hS1 => ?_)
  obtain ⟨rfl, hB⟩ := hB
  rw [ht] at hB
  exact kk a hw r hf H1 locs1 ls hB hS1 hL
end Calls
