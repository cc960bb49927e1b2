-- needs:
section CT
theorem st_objInit {g : AG} {d : Nat} {M : AM} {Q : AO → va_W → Prop} {pc : Nat} {L : List (Option Value)} {st : List Value} {ws : va_W} {rc rs : Nat} {pc' idx a : Nat} (hp : pc + 3 = pc') (hd : 1 ≤ d) (hcat : (st.map fun v => v.category).sum ≤ 8) (hw : Cond.methodLink (am_y M).cls idx Lib.objectInit ∈ lw_tbl ∧ Cond.instanceMethod Lib.objectInit ∈ lw_tbl ∧ Cond.code Lib.objectInit ⟨#[0xb1]⟩ 1 none ∈ lw_tbl) (dd : decode (am_c M) pc = .ok (.invokespecial idx, 3)) (kk : Wp g d M Q pc' L st ws rc rs) : Wp g d M Q pc L (.ref a :: st) ws rc rs := by
  intro p e s m args below meth c mc ms C H locs cells slots ls hl hP hD hS hc hs
  obtain ⟨G, I, hx, hb, hml, hown, hr, hlk, hnm, htb⟩ := C
  subst hp
  have h8 : 2 * (F0 m pc ls (.ref a :: st)).monitorRoom + (st.map fun v => v.category).sum ≤ 8 := lv_room hcat
  exact W.objInit hx hb hown (ae_w G I hw.1 rfl) (ae_w G I hw.2.1 rfl) (ae_w G I hw.2.2 rfl) rfl (hl.1.trans hml.symm) rfl dd (by show 1 ≤ d; omega) (by show _ ≤ 48 * d; omega) (kk p e s m args below meth c mc ms ⟨G, I, hx, hb, hml, hown, hr, hlk, hnm, htb⟩ H locs cells slots ls hl hP hD hS hc hs)
theorem ae_A_new {g : AG} {s : State} (I : ae_I g s) : ∀ q, s.heap.size ≤ q → ae_A g q := fun q h => Nat.le_trans I.2.1 h
def dfl (ty : Nat → FieldType) (N : Nat) : List Value := (List.range N).map (fun j => defaultValue (ty j))
theorem dfl_V {ty : Nat → FieldType} {N j : Nat} (h : j < N) : defaultValue (ty j) = vp_V (dfl ty N) j := by
  unfold vp_V dfl
  rw [List.getD_eq_getElem?_getD, List.getElem?_map, List.getElem?_range h]
  rfl
theorem st_new {g : AG} {d : Nat} {M : AM} {Q : AO → va_W → Prop} {pc : Nat} {L : List (Option Value)} {st : List Value} {ws : va_W} {rc rs : Nat} {pc' ci N idx : Nat} {C : String} {T : u_T} {ty : Nat → FieldType} {fs : List Value} (hp : pc + 3 = pc') (hcl : ae_cl ci C T N ty) (hfs : dfl ty N = fs) (hw : Cond.classLink (am_y M).cls idx C ∈ lw_tbl ∧ Cond.instantiable C N ∈ lw_tbl ∧ Cond.initialized C ∈ lw_tbl) (dd : decode (am_c M) pc = .ok (.new idx, 3)) (kk : ∀ q : Nat, Wp g d M Q pc' L (.ref q :: st) (ws ++ [(q, .inr (ci, fs))]) rc rs) : Wp g d M Q pc L st ws (rc + 1) (rs + N) := by
  intro p e s m args below meth c mc ms C H locs cells slots ls hl hP hD hS hc hs
  obtain ⟨G, I, hx, hb, hml, hown, hr, hlk, hnm, htb⟩ := C
  subst hp
  exact va_new (D := ag_D g) (ci := ci) (fs := fs) hx hb (ae_clw G I hcl) (fun _ h => h) ty hcl.2.2.2 hown (ae_w G I hw.1 rfl) (ae_w G I hw.2.1 rfl) (ae_w G I hw.2.2 rfl) (ae_K G I) hP hD hS (ae_A_new I) hcl.1 (fun j hj => by rw [← hfs]; exact dfl_V hj) (by show cells + 1 ≤ mc; omega) (by show slots + N ≤ ms; omega) dd (fun q H1 hP1 hD1 hS1 => kk q p e s m args below meth c mc ms ⟨G, I, hx, hb, hml, hown, hr, hlk, hnm, htb⟩ H1 locs (cells + 1) (slots + N) ls hl hP1 hD1 hS1 (by omega) (by omega))
theorem st_newaI {g : AG} {d : Nat} {M : AM} {Q : AO → va_W → Prop} {pc : Nat} {L : List (Option Value)} {st : List Value} {ws : va_W} {rc rs : Nat} {pc' : Nat} {n : Int32} {N : Nat} (hp : pc + 2 = pc') (hn : ¬ n < 0) (hN : n.toNatClampNeg = N) (hby : N ≤ 20000) (hw : Cond.arrayClass .int ∈ lw_tbl) (dd : decode (am_c M) pc = .ok (.newarray .int, 2)) (kk : ∀ q : Nat, Wp g d M Q pc' L (.ref q :: st) (ws ++ [(q, .inl (ag_c g 0, N, .inl (fun _ => 0)))]) rc rs) : Wp g d M Q pc L (.int n :: st) ws (rc + 1) (rs + N) := by
  intro p e s m args below meth c mc ms C H locs cells slots ls hl hP hD hS hc hs
  obtain ⟨G, I, hx, hb, hml, hown, hr, hlk, hnm, htb⟩ := C
  subst hp
  refine va_newa (D := ag_D g) (atype := .int) (ty := .int) (a0 := (N, .inl (fun _ => 0))) hx hb (ae_w G I hw rfl) rfl (ae_K G I) hP hD hS (ae_A_new I) (fun _ => rfl) hn hN (Nat.le_trans (Nat.mul_le_mul hby (show componentBytes .int ≤ 8 by decide)) (by decide)) (by show cells + 1 ≤ mc; omega) (by show slots + N ≤ ms; omega) dd (fun q cA H1 hK1 hP1 hD1 hS1 => ?_)
  have e1 := (hK1.2 4 (cA, .int) rfl).2
  have e2 := ((ae_K G I).2 0 (ag_c g 0, .int) rfl).2
  have e3 : cA = ag_c g 0 := Option.some.inj (e1.symm.trans e2)
  subst e3
  exact kk q p e s m args below meth c mc ms ⟨G, I, hx, hb, hml, hown, hr, hlk, hnm, htb⟩ H1 locs (cells + 1) (slots + N) ls hl hP1 hD1 hS1 (by omega) (by omega)
theorem st_newaJ {g : AG} {d : Nat} {M : AM} {Q : AO → va_W → Prop} {pc : Nat} {L : List (Option Value)} {st : List Value} {ws : va_W} {rc rs : Nat} {pc' : Nat} {n : Int32} {N : Nat} (hp : pc + 2 = pc') (hn : ¬ n < 0) (hN : n.toNatClampNeg = N) (hby : N ≤ 20000) (hw : Cond.arrayClass .long ∈ lw_tbl) (dd : decode (am_c M) pc = .ok (.newarray .long, 2)) (kk : ∀ q : Nat, Wp g d M Q pc' L (.ref q :: st) (ws ++ [(q, .inl (ag_c g 1, N, .inr (.inl (fun _ => 0))))]) rc rs) : Wp g d M Q pc L (.int n :: st) ws (rc + 1) (rs + N) := by
  intro p e s m args below meth c mc ms C H locs cells slots ls hl hP hD hS hc hs
  obtain ⟨G, I, hx, hb, hml, hown, hr, hlk, hnm, htb⟩ := C
  subst hp
  refine va_newa (D := ag_D g) (atype := .long) (ty := .long) (a0 := (N, .inr (.inl (fun _ => 0)))) hx hb (ae_w G I hw rfl) rfl (ae_K G I) hP hD hS (ae_A_new I) (fun _ => rfl) hn hN (Nat.le_trans (Nat.mul_le_mul hby (show componentBytes .long ≤ 8 by decide)) (by decide)) (by show cells + 1 ≤ mc; omega) (by show slots + N ≤ ms; omega) dd (fun q cA H1 hK1 hP1 hD1 hS1 => ?_)
  have e1 := (hK1.2 4 (cA, .long) rfl).2
  have e2 := ((ae_K G I).2 1 (ag_c g 1, .long) rfl).2
  have e3 : cA = ag_c g 1 := Option.some.inj (e1.symm.trans e2)
  subst e3
  exact kk q p e s m args below meth c mc ms ⟨G, I, hx, hb, hml, hown, hr, hlk, hnm, htb⟩ H1 locs (cells + 1) (slots + N) ls hl hP1 hD1 hS1 (by omega) (by omega)
theorem st_newaZ {g : AG} {d : Nat} {M : AM} {Q : AO → va_W → Prop} {pc : Nat} {L : List (Option Value)} {st : List Value} {ws : va_W} {rc rs : Nat} {pc' : Nat} {n : Int32} {N : Nat} (hp : pc + 2 = pc') (hn : ¬ n < 0) (hN : n.toNatClampNeg = N) (hby : N ≤ 20000) (hw : Cond.arrayClass .boolean ∈ lw_tbl) (dd : decode (am_c M) pc = .ok (.newarray .boolean, 2)) (kk : ∀ q : Nat, Wp g d M Q pc' L (.ref q :: st) (ws ++ [(q, .inl (ag_c g 2, N, .inl (fun _ => 0)))]) rc rs) : Wp g d M Q pc L (.int n :: st) ws (rc + 1) (rs + N) := by
  intro p e s m args below meth c mc ms C H locs cells slots ls hl hP hD hS hc hs
  obtain ⟨G, I, hx, hb, hml, hown, hr, hlk, hnm, htb⟩ := C
  subst hp
  refine va_newa (D := ag_D g) (atype := .boolean) (ty := .boolean) (a0 := (N, .inl (fun _ => 0))) hx hb (ae_w G I hw rfl) rfl (ae_K G I) hP hD hS (ae_A_new I) (fun _ => rfl) hn hN (Nat.le_trans (Nat.mul_le_mul hby (show componentBytes .boolean ≤ 8 by decide)) (by decide)) (by show cells + 1 ≤ mc; omega) (by show slots + N ≤ ms; omega) dd (fun q cA H1 hK1 hP1 hD1 hS1 => ?_)
  have e1 := (hK1.2 4 (cA, .boolean) rfl).2
  have e2 := ((ae_K G I).2 2 (ag_c g 2, .boolean) rfl).2
  have e3 : cA = ag_c g 2 := Option.some.inj (e1.symm.trans e2)
  subst e3
  exact kk q p e s m args below meth c mc ms ⟨G, I, hx, hb, hml, hown, hr, hlk, hnm, htb⟩ H1 locs (cells + 1) (slots + N) ls hl hP1 hD1 hS1 (by omega) (by omega)
theorem va_AOA_moved {ty : FieldType} {u U : State} (hvm : u.vm.Alike U.vm) (h : va_AOA ty u) : va_AOA ty U := by
  unfold va_AOA Cond.before Cond.holds at h
  simp only [Cond.value, beq_iff_eq] at h
  cases hc : u.vm.findClass (FieldType.array ty).toString with
  | none => simp [hc] at h
  | some comp =>
    simp only [hc, Option.bind_some, Option.bind_eq_some_iff, Option.map_eq_some_iff] at h
    obtain ⟨c, hi, k, hk, hb⟩ := h
    obtain ⟨k', hk', he⟩ := hvm.2.2 _ _ hk
    have hi2 : (U.vm.classes.findIdx? fun (x : Class) => match x.kind with | .array component _ => component == comp | _ => false) = some c := by
      refine (va_idx_bare U.vm comp).symm.trans ?_
      first | rw [hvm.bare_eq] | rw [← hvm.bare_eq]
      exact (va_idx_bare u.vm comp).trans hi
    have hkind : k'.kind = k.kind := by rw [he]
    have f1 : U.vm.findClass (FieldType.array ty).toString = some comp := by rw [hvm.findClass]; exact hc
    unfold va_AOA Cond.before Cond.holds
    simp only [Cond.value, beq_iff_eq]
    simp only [f1, Option.bind_some, Option.bind_eq_some_iff, Option.map_eq_some_iff]
    refine ⟨c, hi2, k', hk', ?_⟩
    rw [hkind, ← hb]
    cases k.kind <;> simp [hvm.findClass]
theorem va_pl_up {l : List Nat} {f : Nat → va_E} {e : va_E} : va_pl l (vr_up f l e) = l.map (fun a => (a, e)) := by
  unfold va_pl
  apply List.map_congr_left
  intro a ha
  rw [vr_up_in ha]
theorem st_mna {g : AG} {d : Nat} {M : AM} {Q : AO → va_W → Prop} {pc : Nat} {L : List (Option Value)} {st : List Value} {ws : va_W} {rc rs : Nat} {pc' idx : Nat} (hp : pc + 4 = pc') (hw : Cond.classLink (am_y M).cls idx "[[I" ∈ lw_tbl ∧ Cond.arrayOver (.array .int) ∈ lw_tbl ∧ Cond.arrayClass .int ∈ lw_tbl) (dd : decode (am_c M) pc = .ok (.multianewarray idx 2, 4)) (kk : ∀ (q : Nat) (r : Nat → Nat), Wp g d M Q pc' L (.ref q :: st) (ws ++ [(q, .inl (ag_c g 3, 10, .inr (.inr (.inr (.inr (fun i => if i < 10 then some (r i) else none))))))] ++ (List.range 10).map (fun i => (r i, .inl (ag_c g 0, 18, .inl (fun _ => 0))))) rc rs) : Wp g d M Q pc L (.int 18 :: .int 10 :: st) ws (rc + 11) (rs + 190) := by
  intro p e s m args below meth c mc ms C H locs cells slots ls hl hP hD hS hc hs
  obtain ⟨G, I, hx, hb, hml, hown, hr, hlk, hnm, htb⟩ := C
  subst hp
  have ho : va_AOA .int s := by
    have h1 : va_AOA .int (ag_s g) := G.2.2.1 _ hw.2.1
    exact va_AOA_moved I.1.alike h1
  have hP' : va_P (ag_D g) vwCl (ws ++ va_pl [] (fun _ => (.inr (0, []) : va_E))) H := by
    show va_P _ _ (ws ++ []) H
    rw [List.append_nil]; exact hP
  have hD' : va_D (ae_A g) (ws ++ va_pl [] (fun _ => (.inr (0, []) : va_E))) := by
    show va_D _ (ws ++ [])
    rw [List.append_nil]; exact hD
  have hcy : s.vm.findClass (FieldType.array .int).toString = some (ag_c g 0) := ((ae_K G I).2 0 (ag_c g 0, .int) rfl).2
  refine va_mna (D := ag_D g) (ty := .int) (cy := ag_c g 0) (z := (18, .inl (fun _ => 0))) hx hb hown (ae_w G I hw.1 rfl) ho (ae_w G I hw.2.2 rfl) hcy (ae_K G I) hP' hD' hS (ae_A_new I) (N' := 10) (K' := 18) (by decide) (by decide) (by decide) (by decide) (by decide) (by decide) (by decide) (by decide) (by decide) (by show cells + 11 ≤ mc; omega) (by show slots + 190 ≤ ms; omega) (fun _ => by rfl) dd (fun q r cA H1 hinj _ hK1 hP1 hD1 hS1 => ?_)
  have e1 := (hK1.2 4 (cA, .array .int) rfl).2
  have e2 := ((ae_K G I).2 3 (ag_c g 3, .array .int) rfl).2
  have e3 : cA = ag_c g 3 := Option.some.inj (e1.symm.trans e2)
  subst e3
  rw [List.nil_append, va_pl_up, List.map_map] at hP1 hD1
  exact kk q r p e s m args below meth c mc ms ⟨G, I, hx, hb, hml, hown, hr, hlk, hnm, htb⟩ H1 locs (cells + 1 + 10) (slots + 10 + 10 * 18) ls hl hP1 hD1 hS1 (by omega) (by omega)
theorem st_callI {g : AG} {d : Nat} {M : AM} {Q : AO → va_W → Prop} {pc : Nat} {L : List (Option Value)} {st : List Value} {ws : va_W} {rc rs : Nat} {pc' : Nat} (hp : pc + 3 = pc') (hh : am_h M = []) {host : String} {M' : AM} {n d' mc' ms' idx b : Nat} {As st0 : List Value} (hst : st0 = As.reverse ++ .ref b :: st) (hn : As.length = n) (hcat : (st.map fun v => v.category).sum ≤ 8) (hd : d' + 1 ≤ d) (hm : ae_m M' n) (hre : am_r M' = none) (hin : (am_y M').name = "<init>") (hw : Cond.methodLink (am_y M).cls idx (am_y M') ∈ lw_tbl ∧ Cond.instanceMethod (am_y M') ∈ lw_tbl) (dd : decode (am_c M) pc = .ok (.invokespecial idx, 3)) (hM : Ev g d' M' mc' ms' (.ref b :: As) ws (Kc g d M Q pc' L st rc rs)) : Wp g d M Q pc L st0 ws (rc + mc') (rs + ms') := by
  intro p e s m args below meth c mc ms C H locs cells slots ls hl hP hD hS hc hs
  obtain ⟨G, I, hx, hb, hml, hown, hr, hlk, hnm, htb⟩ := C
  subst hp
  subst hst
  have cb9 := ae_callB (g := g) (M' := M') (d := d) (d' := d') (mc := mc) (ms := ms) (mc' := mc') (ms' := ms') (args := args) (own := (am_y M).cls) (index := idx) G I hm hd (ae_w G I hw.1 rfl)
  rw [hre] at cb9
  refine ae_run (Q' := Kc g d M Q (pc + 3) L st rc rs) (vx_runI ⟨hx, hb, hml, hown, (fun _ h => absurd h List.not_mem_nil : ∀ w ∈ ([] : List Cond), w.before args s = true)⟩ (hM G) ⟨cb9, hin, ae_w G I hw.2 rfl⟩ ⟨ae_blind, fun U hU hW => ⟨rfl, ae_next I hS hU hW, by rw [hU]; exact hP, hD⟩⟩ rfl hn (hl.1) rfl (lv_room hcat) dd ⟨by show cells + mc' ≤ mc; omega, by show slots + ms' ≤ ms; omega⟩) hS (fun E ce q9 ws1 H1 locs1 hq hP1 hD1 hS1 hce hcv hcl => ?_) (fun v ws1 H1 locs1 hq hP1 hD1 hS1 => ?_)
  · exact vx_out (fun x hx9 => by rw [htb, hh, tableOf_nil] at hx9; exact absurd hx9 List.not_mem_nil) hlk hce hcv hcl (fun t ht _ => ⟨⟨ws1, hq, by rw [ht]; exact hP1, hD1⟩, hS1.F ht⟩) hS1.2.2 (by omega) (by omega)
  · exact hq p e s m args below meth c mc ms ⟨G, I, hx, hb, hml, hown, hr, hlk, hnm, htb⟩ H1 locs1 (cells + mc') (slots + ms') ls hl hP1 hD1 hS1 (by omega) (by omega)
theorem st_callIN {g : AG} {d : Nat} {M : AM} {Q : AO → va_W → Prop} {pc : Nat} {L : List (Option Value)} {st : List Value} {ws : va_W} {rc rs : Nat} {pc' : Nat} (hp : pc + 3 = pc') (hh : am_h M = []) {host : String} {M' : AM} {n d' mc' ms' idx b : Nat} {As st0 : List Value} (hst : st0 = As.reverse ++ .ref b :: st) (hn : As.length = n) (hcat : (st.map fun v => v.category).sum ≤ 8) (hd : d' + 1 ≤ d) (hm : ae_m M' n) (hre : am_r M' = none) (hin : (am_y M').name = "<init>") (hw : Cond.methodLinkNest (am_y M).cls idx (am_y M') host ∈ lw_tbl ∧ Cond.instanceMethod (am_y M') ∈ lw_tbl) (dd : decode (am_c M) pc = .ok (.invokespecial idx, 3)) (hM : Ev g d' M' mc' ms' (.ref b :: As) ws (Kc g d M Q pc' L st rc rs)) : Wp g d M Q pc L st0 ws (rc + mc') (rs + ms') := by
  intro p e s m args below meth c mc ms C H locs cells slots ls hl hP hD hS hc hs
  obtain ⟨G, I, hx, hb, hml, hown, hr, hlk, hnm, htb⟩ := C
  subst hp
  subst hst
  have cb9 := ae_callN (g := g) (M' := M') (d := d) (d' := d') (mc := mc) (ms := ms) (mc' := mc') (ms' := ms') (args := args) (own := (am_y M).cls) (index := idx) G I hm hd (ae_nm G I hw.1)
  rw [hre] at cb9
  refine ae_run (Q' := Kc g d M Q (pc + 3) L st rc rs) (vx_runIN ⟨hx, hb, hml, hown, (fun _ h => absurd h List.not_mem_nil : ∀ w ∈ ([] : List Cond), w.before args s = true)⟩ (hM G) ⟨cb9, hin, ae_w G I hw.2 rfl⟩ ⟨ae_blind, fun U hU hW => ⟨rfl, ae_next I hS hU hW, by rw [hU]; exact hP, hD⟩⟩ rfl hn (hl.1) rfl (lv_room hcat) dd ⟨by show cells + mc' ≤ mc; omega, by show slots + ms' ≤ ms; omega⟩) hS (fun E ce q9 ws1 H1 locs1 hq hP1 hD1 hS1 hce hcv hcl => ?_) (fun v ws1 H1 locs1 hq hP1 hD1 hS1 => ?_)
  · exact vx_out (fun x hx9 => by rw [htb, hh, tableOf_nil] at hx9; exact absurd hx9 List.not_mem_nil) hlk hce hcv hcl (fun t ht _ => ⟨⟨ws1, hq, by rw [ht]; exact hP1, hD1⟩, hS1.F ht⟩) hS1.2.2 (by omega) (by omega)
  · exact hq p e s m args below meth c mc ms ⟨G, I, hx, hb, hml, hown, hr, hlk, hnm, htb⟩ H1 locs1 (cells + mc') (slots + ms') ls hl hP1 hD1 hS1 (by omega) (by omega)
/-- worlds with a front that stays -/
theorem wl_at {W l : va_W} {i : Nat} {x : Nat × va_E} (h : l[i]? = some x) : (W ++ l)[W.length + i]? = some x := by
  rw [List.getElem?_append_right (by omega)]
  rw [show W.length + i - W.length = i by omega]
  exact h
theorem wl_set {W l l' : va_W} {i : Nat} {x : Nat × va_E} (h : l.set i x = l') : (W ++ l).set (W.length + i) x = W ++ l' := by
  rw [List.set_append_right _ _ (by omega), show W.length + i - W.length = i by omega, h]
end CT
