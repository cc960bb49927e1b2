section GS
theorem gs_arr {args : Array Value} {s : State} {ty : FieldType} (h : (Cond.arrayClass ty).before args s = true) : ∃ c : ClassId, ArrOfT s c ty ∧ s.vm.findClass ("[" ++ ty.toString) = some c := by
  obtain ⟨c, k, comp, h1, h2, h3⟩ := Cond.arrayClass_spec h
  exact ⟨c, fun n z => ⟨fun k h => (by cases h), k, h2, comp, h3⟩, h1⟩
theorem gs_over {args : Array Value} {s : State} (h : (Cond.arrayOver (.array .int)).before args s = true) : ∃ c : ClassId, ArrOfT s c (.array .int) ∧ s.vm.findClass ("[" ++ (FieldType.array .int).toString) = some c := by
  have e : (Cond.arrayOver (.array .int)).value args s none s [] = some true := eq_of_beq h
  simp only [Cond.value] at e
  obtain ⟨cp, -, e⟩ := Option.bind_eq_some_iff.mp e
  obtain ⟨c, -, e⟩ := Option.bind_eq_some_iff.mp e
  obtain ⟨k, hk, e⟩ := Option.map_eq_some_iff.mp e
  split at e
  next a ty hq =>
    have e := Bool.and_eq_true_iff.mp e
    have e1 : ty = .array .int := of_decide_eq_true e.1
    exact ⟨c, fun n z => ⟨fun k h => (by cases h), k, hk, a, e1 ▸ hq⟩, of_decide_eq_true e.2⟩
  next => cases e
theorem gs_tab {args : Array Value} {s : State} {tm : Term} {f : Nat → Int32} (harr : (Cond.arrayOf tm .int).before args s = true) (hlen : (Cond.eq (.length tm) (.int 5)).before args s = true) (hel : ∀ j : Nat, j < 5 → (Cond.eq (.elem tm (.int (Int32.ofNat j))) (.int (f j))).before args s = true) : ∃ t : Nat, tm.eval args s none [] s = some (.ref t) ∧ va_X t 5 f s s.heap ∧ t < s.heap.size := by
  have hl := va_eqt hlen
  obtain ⟨t, cell, ht, hat, hv⟩ := Term.length_spec hl
  obtain ⟨hcell, hkn, -, -⟩ := State.arrayAt?_spec hat
  obtain ⟨hof, -⟩ := Cond.arrayOf_spec harr ht hcell
  have hsz : cell.slots.size < 2 ^ 31 := by
    simp only [Term.eval, ht, hat, Option.bind_eq_bind, Option.bind_some] at hl
    by_cases hlt : cell.slots.size < 2147483648
    · exact hlt
    · simp [hlt] at hl
  have h5 : cell.slots.size = 5 := by
    have e := Value.int.inj hv
    have e1 : (5 : Int32).toNatClampNeg = cell.slots.size.toInt32.toNatClampNeg := by rw [e]
    have e2 : cell.slots.size.toInt32.toNatClampNeg = cell.slots.size := Int32.toNatClampNeg_ofNat_of_lt hsz
    rw [e2] at e1
    exact e1.symm
  refine ⟨t, ht, ⟨cell, hcell, hof, hkn, h5, fun j hj => ?_⟩, (Array.getElem?_eq_some_iff.mp hcell).1⟩
  obtain ⟨a, i, cell2, h1, h2, h3, h4, h6⟩ := Term.elem_spec (va_eqt (hel j hj))
  cases ht.symm.trans h1
  cases hat.symm.trans h3
  have hi : i = Int32.ofNat j := by
    have e : (Term.int (Int32.ofNat j)).eval args s none [] s = some (.int (Int32.ofNat j)) := rfl
    cases h2.symm.trans e
    rfl
  have hc : i.toNatClampNeg = j := by rw [hi]; exact Int32.toNatClampNeg_ofNat_of_lt (by omega)
  rw [hc] at h6
  exact h6
theorem gs_str1 : ∀ q ∈ ae_strs, Cond.stringRef RX10 q.1 q.2 ∈ lw_tbl := by decide +kernel
theorem gs_str2 : ∀ q ∈ ae_strs, Cond.exactly (.string RX10 q.1) "java/lang/String" ∈ flatC (Jvm.Cond.and given_1 narrow_1) := by decide +kernel
theorem gs_nc : ∀ q ∈ ae_ncs, Cond.not (.castable q.1 q.2) ∈ flatC (Jvm.Cond.and given_1 narrow_1) := by decide +kernel
def gs_l : Term := .static RX10 "SETTING_LEAST" "[I"
def gs_m : Term := .static RX10 "SETTING_MOST" "[I"
theorem gs_l1 : ∀ w ∈ [Cond.arrayOf gs_l .int, Cond.eq (.length gs_l) (.int 5), Cond.arrayOf gs_m .int, Cond.eq (.length gs_m) (.int 5), Cond.isRef (.static Bundle.tN "UNASSIGNED_STACK" Bundle.steD), Cond.isRef (.static Bundle.tN "SUPPRESSED_SENTINEL" Bundle.listD)], w ∈ flatC (Jvm.Cond.and given_1 narrow_1) := by decide +kernel
theorem gs_l2 : ∀ j, j < 5 → Cond.eq (.elem gs_l (.int (Int32.ofNat j))) (.int (ae_lst j)) ∈ flatC (Jvm.Cond.and given_1 narrow_1) := by decide +kernel
theorem gs_m2 : ∀ j, j < 5 → Cond.eq (.elem gs_m (.int (Int32.ofNat j))) (.int (ae_mst j)) ∈ flatC (Jvm.Cond.and given_1 narrow_1) := by decide +kernel
theorem gs_w : ∀ w ∈ [Cond.laysStatic RX10 "SETTING_LEAST" "[I", Cond.laysStatic RX10 "SETTING_MOST" "[I", Cond.initialized RX10, Cond.laysStatic Bundle.tN "UNASSIGNED_STACK" Bundle.steD, Cond.laysStatic Bundle.tN "SUPPRESSED_SENTINEL" Bundle.listD, Cond.initialized Bundle.tN], w ∈ lw_tbl := by decide +kernel
theorem gs_of (l : Launch) (hflags : l.flags = flags0) {s : State} {b L : Nat} {xs : Nat → Int32} (hts : ∀ w ∈ lw_tbl, w.before #[Value.ref b] s = true) (hX : va_X b L xs s s.heap) (hbl : b < s.heap.size) (hgv : (Jvm.Cond.and given_1 narrow_1).before #[Value.ref b] s = true) : ∃ (D : va_G) (cs : Nat → ClassId) (tt : Nat → Nat), ae_G (l, D, cs, s, (b, L, xs), tt) := by
  have hf := flat_of_before _ hgv
  obtain ⟨c0, i0, k0⟩ := u_known (n := 3) hts (fun w hw => (ck_0.2.1 w hw).1) (hts _ wd_606)
  obtain ⟨c1, i1, k1⟩ := u_known (n := 9) hts (fun w hw => (ck_1.2.1 w hw).1) (hts _ wd_425)
  obtain ⟨c2, i2, k2⟩ := u_known (n := 15) hts (fun w hw => (ck_2.2.1 w hw).1) (hts _ wd_197)
  obtain ⟨c3, i3, k3⟩ := u_known (n := 4) hts (fun w hw => (ck_3.2.1 w hw).1) (hts _ wd_622)
  obtain ⟨c4, i4, k4⟩ := u_known (n := 12) hts (fun w hw => (ck_4.2.1 w hw).1) (hts _ wd_355)
  obtain ⟨c5, i5, k5⟩ := u_known (n := 18) hts (fun w hw => (ck_5.2.1 w hw).1) (hts _ wd_276)
  obtain ⟨c6, i6, k6⟩ := u_known (n := 18) hts (fun w hw => (ck_6.2.1 w hw).1) (hts _ wd_537)
  obtain ⟨c7, i7, k7⟩ := u_known (n := 3) hts (fun w hw => (ck_7.2.1 w hw).1) (hts _ wd_519)
  obtain ⟨c8, i8, k8⟩ := u_known (n := 14) hts (fun w hw => (ck_8.2.1 w hw).1) (hts _ wd_464)
  obtain ⟨c9, i9, k9⟩ := u_known (n := 15) hts (fun w hw => (ck_9.2.1 w hw).1) (hts _ wd_189)
  obtain ⟨c10, i10, k10⟩ := u_known (n := 52) hts (fun w hw => (ck_10.2.1 w hw).1) (hts _ wd_1545)
  obtain ⟨a0, r0, f0⟩ := gs_arr (hts _ wa_int)
  obtain ⟨a1, r1, f1⟩ := gs_arr (hts _ wa_long)
  obtain ⟨a2, r2, f2⟩ := gs_arr (hts _ wa_boolean)
  obtain ⟨a3, r3, f3⟩ := gs_over (hts _ wa_over)
  obtain ⟨t0, e0, x0, b0⟩ := gs_tab (f := ae_lst) (hf _ (gs_l1 _ (by simp))) (hf _ (gs_l1 _ (by simp))) (fun j hj => hf _ (gs_l2 j hj))
  obtain ⟨t1, e1, x1, b1⟩ := gs_tab (f := ae_mst) (hf _ (gs_l1 _ (by simp))) (hf _ (gs_l1 _ (by simp))) (fun j hj => hf _ (gs_m2 j hj))
  have hA : ∀ a : Nat, a < s.heap.size → ¬ (s.heap.size ≤ a) := fun a h => Nat.not_le.mpr h
  have hini := hts _ (gs_w (Cond.initialized RX10) (by simp))
  have hinT := hts _ (gs_w (Cond.initialized Bundle.tN) (by simp))
  refine ⟨(fun k => match k with | 0 => c0 | 1 => c1 | 2 => c2 | 3 => c3 | 4 => c4 | 5 => c5 | 6 => c6 | 7 => c7 | 8 => c8 | 9 => c9 | _ => c10, fun k => match k with | 0 => i0 | 1 => i1 | 2 => i2 | 3 => i3 | 4 => i4 | 5 => i5 | 6 => i6 | 7 => i7 | 8 => i8 | 9 => i9 | _ => i10), fun k => match k with | 0 => a0 | 1 => a1 | 2 => a2 | _ => a3, fun k => match k with | 0 => t0 | _ => t1, ?_, ⟨?_, ?_⟩, hts, ⟨hX, hbl⟩, ⟨⟨va_Zref (hts _ (gs_w (Cond.laysStatic RX10 "SETTING_LEAST" "[I") (by simp))) hini e0 hA, x0, b0⟩, ⟨va_Zref (hts _ (gs_w (Cond.laysStatic RX10 "SETTING_MOST" "[I") (by simp))) hini e1 hA, x1, b1⟩⟩, ⟨vx_Zqof (hts _ (gs_w (Cond.laysStatic Bundle.tN "UNASSIGNED_STACK" Bundle.steD) (by simp))) hinT (hf _ (gs_l1 _ (by simp))) hA, vx_Zqof (hts _ (gs_w (Cond.laysStatic Bundle.tN "SUPPRESSED_SENTINEL" Bundle.listD) (by simp))) hinT (hf _ (gs_l1 _ (by simp))) hA⟩, fun q hq => ?_, fun q hq => va_Nc.of (hf _ (gs_nc q hq))⟩
  · show (!l.flags.contains noTraceFlag) = false
    rw [hflags]
    decide +kernel
  · intro k q hq
    match k, hq with
    | 0, hq => cases hq; exact k0
    | 1, hq => cases hq; exact k1
    | 2, hq => cases hq; exact k2
    | 3, hq => cases hq; exact k3
    | 4, hq => cases hq; exact k4
    | 5, hq => cases hq; exact k5
    | 6, hq => cases hq; exact k6
    | 7, hq => cases hq; exact k7
    | 8, hq => cases hq; exact k8
    | 9, hq => cases hq; exact k9
    | 10, hq => cases hq; exact k10
    | k + 11, hq => simp at hq
  · intro k q hq
    match k, hq with
    | 0, hq => cases hq; exact ⟨r0, f0⟩
    | 1, hq => cases hq; exact ⟨r1, f1⟩
    | 2, hq => cases hq; exact ⟨r2, f2⟩
    | 3, hq => cases hq; exact ⟨r3, f3⟩
    | k + 4, hq => simp at hq
  · obtain ⟨a, c, cA, kA, q1, q2, q3, q4, q5, q6, -⟩ := Cond.exactly_spec (args := #[Value.ref b]) (first := s) (o := none) (s := s) (idx := []) (hf _ (gs_str2 q hq))
    exact ⟨a, vk_R.of (hts _ (gs_str1 q hq)) q1⟩
end GS
section WS
/-- less room is asked for -/
theorem ws_room {p : Program} {l : Launch} {e : Env} {R R' : Room} {s : State} {m : MethodId} {args : Array Value} {below : List Frame} {meth : Method} {c : Code} {T : State} {locs : List Loc} {cells slots : Nat} (X : Stand p l e R s m args below meth c T locs cells slots) (hf : R'.frames ≤ R.frames) (hl : R'.locals ≤ R.locals) (hc : R'.cells ≤ R.cells) (hs : R'.slots ≤ R.slots) : Stand p l e R' s m args below meth c T locs cells slots := by
  refine ⟨X.admits, X.cas, X.clock, X.frames, ?_, X.hears, X.method, X.code, X.here, X.tail, X.warmed, X.limits, X.bytes, X.same⟩
  have h := X.room
  simp only [State.hasRoom, Bool.and_eq_true, decide_eq_true_eq] at h ⊢
  obtain ⟨⟨⟨⟨h1, h2, h3, h4, h5, h6⟩, h7⟩, h8⟩, h9⟩ := h
  exact ⟨⟨⟨⟨by omega, by omega, by omega, by omega, by omega, h6⟩, by omega⟩, by omega⟩, h9⟩
theorem whole_start {p : Program} {e : Env} {s : State} {m : MethodId} {below : List Frame} {meth : Method} {c : Code} (l : Launch) (hflags : l.flags = flags0) {b L : Nat} {xs : Nat → Int32} (hL : L ≤ 3072) (C0 : lw_At p s m meth c b L xs) (hnm : meth.name = (am_y mL_law).name) (htb : c.exceptionTable.toList = []) : W p l e room_1 s m #[Value.ref b] below meth c s.heap [] 0 0 (lw_Z below #[Value.ref b] s) (entryFrame m ([Value.ref b] : List Value).toArray 7) := by
  obtain ⟨hx, hb, hr, hml, hown, hts, hX, hbl, hlocks, hgv⟩ := id C0
  obtain ⟨D, cs, tt, G⟩ := gs_of l hflags hts hX hbl hgv
  have hl := lv_entry ([.ref b]) (n := 7) (Nat.le_of_ble_eq_true rfl)
  rw [lg_entry_eq]
  generalize (lg_sl ([.ref b]) ++ List.replicate (7 - (lg_sl ([.ref b])).length) Slot.unset).toArray = ls at hl ⊢
  have hl : lv_has ls 7 [(0, .ref b)] := hl
  have K := law_wp (g := (l, D, cs, s, (b, L, xs), tt)) (d := 1750) hL (by omega) p e s m #[Value.ref b] below meth c 601024 7293034 ⟨G, ⟨State.WarmedH.refl s, Nat.le_refl _, fun _ _ => rfl⟩, hx, hb, hml, hown, hr, hlocks, hnm, htb⟩ s.heap [] 0 0 ls hl (fun k q h => by simp at h) ⟨fun i j p q h => by simp at h, fun k q h => by simp at h⟩ va_S.rf (by omega) (by omega)
  intro T hT X
  obtain ⟨t, a1, o, b1, b2, b3⟩ := K T hT (ws_room X (Nat.le_of_ble_eq_true rfl) (Nat.le_of_ble_eq_true rfl) (Nat.le_refl _) (Nat.le_refl _))
  refine ⟨t, a1, o, b1, b2, ?_⟩
  rcases b3 with ⟨⟨⟨v, w, e1, e2, e3, e4⟩, e5⟩, F, ⟨f1, f2, f3⟩, f4⟩ | ⟨q, e1, E, ce, F, ⟨⟨w, x2, x3, x4⟩, x5⟩, x6⟩
  · have e9 : v = some (.int 1) := by
      have := Sum.inl.inj e2
      rw [this]
      rfl
    rw [e9] at e1
    refine ⟨e1, f1, f2, f3.weaken (fun y hy hlt => ?_) (Nat.le_refl _) (Nat.le_refl _)⟩
    exact absurd hlt (Nat.not_lt.mpr (f4 y hy))
  · cases x2
end WS
