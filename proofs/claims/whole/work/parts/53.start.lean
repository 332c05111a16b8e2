/-! ===== the start: class numbers, words ===== -/
theorem gNl_in : ∀ q ∈ gNl, Cond.methodLinkNest q.1 q.2.1 q.2.2.1 q.2.2.2 ∈ lw_tbl := by decide +kernel
theorem gNf_in : ∀ q ∈ gNf, Cond.fieldLinkNest q.1 q.2.1 q.2.2.1 q.2.2.2.1 q.2.2.2.2.1 q.2.2.2.2.2 ∈ lw_tbl := by decide +kernel
theorem gInst : ∀ ci, ci < 11 → Cond.instantiable (gR ci) (gN ci) ∈ lw_tbl := by decide +kernel
theorem gAoIn : Cond.arrayOver (.object RX7) ∈ lw_tbl := by decide +kernel
theorem gAiIn : Cond.arrayClass .int ∈ lw_tbl := by decide +kernel
theorem gStart {s : State} {args : Array Value} (hts : ∀ w ∈ lw_tbl, w.before args s = true) (H0 : Nat) : ∃ (D : va_G) (cI cQ : ClassId), gFk (D, cI, cQ, (fun _ => 0), H0) s := by
  have hk : ∀ ci : Nat, ∃ d : ClassId × (Nat → Nat), ci < 11 → u_Kn s (gR ci) (gT ci) (gN ci) d.1 d.2 := fun ci => by
    by_cases h : ci < 11
    · obtain ⟨cC, iS, hK⟩ := u_known (C := gR ci) (T := gT ci) (N := gN ci) (n := gN ci) hts (fun w hw => (List.mem_filter.mp (gIn ci h w hw)).1) (hts _ (gInst ci h))
      exact ⟨(cC, iS), fun _ => hK⟩
    · exact ⟨(0, fun _ => 0), fun z => absurd z h⟩
  obtain ⟨f, hf⟩ := Classical.axiomOfChoice hk
  obtain ⟨cI, kI, compI, i1, i2, i3⟩ := Cond.arrayClass_spec (hts _ gAiIn)
  obtain ⟨comp, cQ, kQ, q1, -, q3, q4, q5⟩ := Cond.arrayOver_spec (hts _ gAoIn)
  refine ⟨(fun ci => (f ci).1, fun ci => (f ci).2), cI, cQ, ⟨fun ci q hq => ?_, fun k q hq => ?_⟩, fun q hq => va_Nw.of rfl (hts _ (gNl_in q hq)), fun q hq => va_Nw.of rfl (hts _ (gNf_in q hq)), va_AO.of (hts _ gAoIn)⟩
  · have hlt : ci < 11 := (List.getElem?_eq_some_iff.mp hq).1
    have := gCl ci hlt
    rw [this] at hq
    cases hq
    exact hf ci hlt
  · match k, hq with
    | 0, hq =>
      cases hq
      exact ⟨fun n z => ⟨fun k h => (by cases h), kI, i2, compI, i3⟩, i1⟩
    | 1, hq =>
      cases hq
      exact ⟨fun n z => ⟨fun k h => (by cases h), kQ, q3, comp, q4⟩, kQ, comp, q3, q4, q1, q5⟩
    | k + 2, hq => cases hq
/-- the cells' places in the order in which they come -/
def gPi (k : Nat) : Nat := if k = 0 then 0 else if k < 3 then k + 74 else if k = 3 then 79 else if k < 6 then k + 88 else if k < 8 then k + 71 else if k < 10 then k + 17 else if k < 34 then k - 9 else if k < 82 then k - 7 else if k < 94 then k - 2 else k
theorem gPi_lt : ∀ k, k < 102 → gPi k < 102 := by decide +kernel
theorem gPi_inj : ∀ i, i < 102 → ∀ j, j < 102 → gPi i = gPi j → i = j := by decide +kernel
def gAt (a1 a2 : Nat → Nat) (i : Nat) : Nat := if i < 94 then a1 i else a2 (i - 94)
/-- the first state -/
def gS0 : gSt := fun k => if k = 95 then (upd (fun j => if 260 ≤ j ∧ j < 276 then -1 else 0) (nI 283).toNatClampNeg 30) else if k < 94 ∧ 10 ≤ k ∧ k % 12 = 7 then (fun j => if j < 16 then -1 else 0) else if k < 94 ∧ 10 ≤ k ∧ k % 12 = 10 then (fun j => if j = 3 then 30 else 0) else fun _ => 0
section RowsL
theorem y_astore_n {Γ : gZ} {cc : ByteArray} {nL : Nat} {own : String} {fr lo NC NS : Nat} {k n pc : Nat} {L : List (Option Value)} {st : List Value} {w0 M : va_W} (h : gOc Γ cc nL own fr lo NC NS) {j : Fin 4} {i : Nat} {x : Nat} {L' : List (Option Value)} (hd : decode cc pc = .ok (.astore_n j, 1)) (hi : (j : Nat) = i) (hn : i < L.length) (hl : L.set i (some (.ref x)) = L') (kk : Ac Γ k n (pc + 1) L' st w0 M) : Ac Γ k n pc L (.ref x :: st) w0 M :=
  fun H locs ls hP hD hS hL => lv_astore_n h.1 h.2.1 hd hi (gLh hL) hn rfl (fun ls' h' => kk H locs ls' hP hD hS (gLs hL rfl hl h'))
end RowsL
theorem law_new (Γ : gZ) (hO : gOc Γ code 4 RL 9 316 600000 7302250) (b : Nat) (kk : ∀ a1 a2 : Nat → Nat, Ac Γ 102 3991 18 [some (.ref b), some (.ref (a1 0)), some (.ref (a2 0)), some (.int 0)] [] [] (blkX9 Γ.1 a1 ++ blkX10 Γ.1 a2)) : Ac Γ 0 0 0 (gEn [.ref b] 4) [] [] [] := by
  refine y_new hO 9 (by decide) (gM 76 (by decide +kernel) rfl) (gM 77 (by decide +kernel) rfl) (gM 59 (by decide +kernel) rfl) dL_law_0 (by decide) (by decide) (fun q1 => ?_)
  refine y_dup hO dL_law_3 rfl ?_
  refine y_callK (M0 := []) (As := []) (rest := [.ref q1]) hO mcX9 rfl (kX9_init Γ.1 _) rfl (by decide) (by decide) (Nat.le_of_ble_eq_true rfl) rfl (by decide) (by decide) dL_law_4 (Or.inl (gM 78 (by decide +kernel) rfl)) (fun a1 ea1 => ?_)
  subst ea1
  refine y_astore_n (L' := [some (.ref b), some (.ref (a1 0)), none, none]) hO dL_law_7 rfl (Nat.le_of_ble_eq_true rfl) rfl ?_
  refine y_new hO 10 (by decide) (gM 970 (by decide +kernel) rfl) (gM 971 (by decide +kernel) rfl) (gM 70 (by decide +kernel) rfl) dL_law_8 (by decide) (by decide) (fun q2 => ?_)
  refine y_dup hO dL_law_11 rfl ?_
  refine y_callK (M0 := blkX9 Γ.1 a1) (As := []) (rest := [.ref q2]) hO mcX10 rfl (kX10_init Γ.1 _) rfl (by decide) (by decide) (Nat.le_of_ble_eq_true rfl) rfl (by decide) (by decide) dL_law_12 (Or.inl (gM 972 (by decide +kernel) rfl)) (fun a2 ea2 => ?_)
  subst ea2
  refine y_astore_n (L' := [some (.ref b), some (.ref (a1 0)), some (.ref (a2 0)), none]) hO dL_law_15 rfl (Nat.le_of_ble_eq_true rfl) rfl ?_
  refine y_iconst (v := 0) hO dL_law_16 (by decide) ?_
  refine y_istore_n (L' := [some (.ref b), some (.ref (a1 0)), some (.ref (a2 0)), some (.int 0)]) hO dL_law_17 rfl (Nat.le_of_ble_eq_true rfl) rfl ?_
  exact kk a1 a2
