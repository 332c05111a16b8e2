/-! ===== the first state, the law's walk ===== -/
def gV0 : gV := (0, fun _ => 0, fun _ => 0, fun _ => 0, fun _ => 0, fun _ => 0, fun _ _ => 0, fun _ => 0, fun _ => 0, nI 30)
theorem gV0_wf : WF gV0 :=
  ⟨⟨Nat.zero_le _, fun i h => absurd h (Nat.not_lt_zero i), fun i h => absurd h (Nat.not_lt_zero i)⟩, ⟨fun i h => absurd h (Nat.not_lt_zero i), fun _ _ => Or.inl rfl⟩, fun _ j _ h => absurd h (Nat.not_lt_zero j), fun _ _ => Nat.zero_le _, fun _ _ => ⟨0, rfl⟩, 30, by decide, rfl⟩
theorem gS0_RC : RC 10 gV0 gS0 :=
  ⟨⟨show gS0 11 6 = nI 0 by decide +kernel, fun i h => absurd h (Nat.not_lt_zero i)⟩, show ∀ t, t < 16 → gS0 19 t = en (vT gV0 t) by decide +kernel, show ∀ t, t < 6 → gS0 21 t = vS gV0 t by decide +kernel, show gS0 10 3 = nI 30 by decide +kernel⟩
theorem gS0_RR : RR gV0 (gS0 95) :=
  ⟨show gS0 95 282 = nI 0 by decide +kernel, fun i h => absurd h (Nat.not_lt_zero i), show ∀ t, t < 16 → gS0 95 (260 + t) = en (vT gV0 t) by decide +kernel, show ∀ t, t < 6 → gS0 95 (276 + t) = vS gV0 t by decide +kernel, show gS0 95 283 = nI 30 by decide +kernel⟩
theorem gS0_GR : GR gS0 :=
  ⟨gV0, 0, 0, fun _ => gV0, fun _ => 0, 0, gV0_wf, gS0_RC, gS0_RR, by decide, by decide, fun j h => absurd h (Nat.not_lt_zero j), ⟨show gS0 8 2 = nI 0 by decide +kernel, show gS0 8 1 = nI 0 by decide +kernel, fun j h => absurd h (Nat.not_lt_zero j)⟩, ⟨show gS0 94 3 = nI 0 by decide +kernel, fun j h => absurd h (Nat.not_lt_zero j)⟩, show gS0 94 4 = 0 by decide +kernel, by decide, ⟨show gS0 6 1 = nI 0 by decide +kernel, fun j h => absurd h (Nat.not_lt_zero j)⟩, ⟨show gS0 94 6 = nI 0 by decide +kernel, fun j h => absurd h (Nat.not_lt_zero j)⟩⟩
theorem whole_start {p : Program} {e : Env} {s : State} {m : MethodId} {below : List Frame} {meth : Method} {c : Code} (l : Launch) (hflags : l.flags = flags0) {b L : Nat} {xs : Nat → Int32} (hL : L ≤ 2048) (C0 : lw_At p s m meth c b L xs) : W p l e room_1 s m #[Value.ref b] below meth c s.heap [] 0 0 (lw_Z below #[Value.ref b] s) (entryFrame m ([Value.ref b] : List Value).toArray 4) := by
  obtain ⟨hx, hb, hr, hml, hown, hts, hX, hbl, hlocks, hgv⟩ := id C0
  obtain ⟨D, cI, cQ, hF⟩ := gStart hts s.heap.size
  rw [lg_entry_eq]
  have hT : ∀ w ∈ gTb, w.before #[Value.ref b] s = true := fun w hw => hts w (List.mem_filter.mp hw).1
  have hO : gOc ((D, cI, cQ, (fun _ => 0), s.heap.size), (p, l, e, room_1, s), (m, #[Value.ref b], below, meth, c), lw_Z below #[Value.ref b] s) code 4 RL 9 316 600000 7302250 := ⟨hx, hb, hml, hown, hT, hF, Nat.le_refl _, Nat.le_refl _, Nat.le_refl _, Nat.le_refl _, Nat.le_refl _⟩
  refine law_new _ hO b (fun a1 a2 => ?_) s.heap [] _ (fun k q h => by simp at h) ⟨fun i j p q h => by simp at h, fun k q h => by simp at h⟩ va_S.rf (gEnL (vs := [Value.ref b]) (fun v hv => by
    rcases List.mem_cons.mp hv with rfl | q
    · rfl
    · cases q) (Nat.le_of_ble_eq_true rfl))
  intro H locs ls hP hD hS hl
  have hA : gAp (gG1 (D, cI, cQ, (fun _ => 0), s.heap.size) (fun k => gAt a1 a2 (gPi k))) := gWorldA hD
  have g : gLaw (gG1 (D, cI, cQ, (fun _ => 0), s.heap.size) (fun k => gAt a1 a2 (gPi k)), (p, l, e, room_1, s), (m, #[Value.ref b], below, meth, c), (102, 3991), fun _ => lw_Z below #[Value.ref b] s) b L xs :=
    ⟨⟨hx, hb, hml, hown, hT, ⟨hF.1, hF.2.1, hA⟩, hr, hlocks, Nat.le_refl _, Nat.le_refl _, Nat.le_of_ble_eq_true rfl, Nat.le_of_ble_eq_true rfl⟩, hX, hbl, rfl, hL⟩
  have hl0 : gL ls [some (.ref b), some (.ref (a1 0)), some (.ref (a2 0)), some (.int (nI 0))] := hl
  refine law_loop (fu := 2001) g (by decide) (fun i σ => ?_) 2053 0 gS0 (by omega) (by omega) gS0_GR () rfl H locs ls (gWorldP hP) hS hl0
  intro r hr' H locs ls hP hS hl
  show W p l e room_1 s m #[Value.ref b] below meth c H locs 102 3991 (lw_Z below #[Value.ref b] s) (F0 m 923 ls [])
  refine lv_iconst (v := 1) hx hb dL_law_923 (by decide) ?_
  refine va_forget (fun q hq => hS.2.2 q hq) ?_
  refine W.widen (k := 600000) (n := 7302250) (Nat.le_of_ble_eq_true rfl) (Nat.le_of_ble_eq_true rfl) ?_
  refine W.base ?_
  exact lw_ret (Drawn.sameBut.refl s.drawn lw_cs) hx hb hr hlocks dL_law_924
