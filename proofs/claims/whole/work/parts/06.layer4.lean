/-! ===== small rows that the program's proofs use ===== -/
def gMask : List Bool → List (Option Value) → List (Option Value)
  | true :: bs, v :: vs => v :: gMask bs vs
  | false :: bs, _ :: vs => none :: gMask bs vs
  | _, _ => []
theorem gMask_len : ∀ (ms : List Bool) (L : List (Option Value)), ms.length = L.length → (gMask ms L).length = L.length
  | [], [], _ => rfl
  | [], _ :: _, h => by cases h
  | _ :: _, [], h => by cases h
  | true :: bs, v :: vs, h => by
    have h1 : bs.length = vs.length := by simpa using h
    show (gMask bs vs).length + 1 = vs.length + 1
    rw [gMask_len bs vs h1]
  | false :: bs, v :: vs, h => by
    have h1 : bs.length = vs.length := by simpa using h
    show (gMask bs vs).length + 1 = vs.length + 1
    rw [gMask_len bs vs h1]
theorem gMask_get : ∀ (ms : List Bool) (L : List (Option Value)) (i : Nat) (v : Value), (gMask ms L)[i]? = some (some v) → L[i]? = some (some v)
  | [], _, i, v, h => by cases h
  | true :: _, [], i, v, h => by cases h
  | false :: _, [], i, v, h => by cases h
  | true :: bs, w :: vs, i, v, h => by
    cases i with
    | zero => exact h
    | succ j => exact gMask_get bs vs j v h
  | false :: bs, w :: vs, i, v, h => by
    cases i with
    | zero => cases h
    | succ j => exact gMask_get bs vs j v h
theorem At.mask {ρ : Type} {Γ : gX ρ} {pc : Nat} {L L' : List (Option Value)} {st : List Value} {σ : gSt} {o : Option ρ} (ms : List Bool) (hn : ms.length = L.length) (hl : gMask ms L = L') (k : At Γ pc L' st σ o) : At Γ pc L st σ o := by
  subst hl
  exact fun r hr H locs ls hP hS hL => k r hr H locs ls hP hS (gLw hL (gMask_len ms L hn) (gMask_get ms L))
theorem x_nm {ρ : Type} {Γ : gX ρ} {pc pcJ : Nat} {L LJ : List (Option Value)} {st sJ : List Value} {σ : gSt} {e : Int32} {f : Int32 → Option ρ} (hj : ∀ v, At Γ pcJ LJ (.int v :: sJ) σ (f v)) (k : (∀ v, e = v → At Γ pcJ LJ (.int v :: sJ) σ (f e)) → At Γ pc L st σ (f e)) : At Γ pc L st σ (lt e f) :=
  k fun v hv => by
    subst hv
    exact hj e
theorem gCaM {st rest : List Value} {fr lo f' l' maxL nL : Nat} {L : List (Option Value)} (h : (Nat.ble (f' + 1) fr && (Nat.ble (8 + (maxL + 11) + l') lo && (Nat.ble (rest.map fun v => v.category).sum 8 && Nat.beq L.length nL))) = true) : gCa st rest fr lo f' l' maxL nL L := by
  simp only [Bool.and_eq_true] at h
  exact ⟨Nat.le_of_ble_eq_true h.1, Nat.le_of_ble_eq_true h.2.1, Nat.le_of_ble_eq_true h.2.2.1, Nat.eq_of_beq_eq_true h.2.2.2⟩
theorem gLso (ps : List (Int × Int)) (dflt x : Int) (h : ∀ q ∈ ps, x ≠ q.1) : Op.lookupswitch.offset ps dflt x = dflt := by
  induction ps with
  | nil => rfl
  | cons q ps ih =>
    obtain ⟨a, b⟩ := q
    have h1 : x ≠ a := h (a, b) List.mem_cons_self
    rw [Op.lookupswitch.offset_cons, if_neg (fun e => h1 e.symm)]
    exact ih (fun r hr => h r (List.mem_cons_of_mem _ hr))
