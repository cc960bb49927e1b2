section AE2
theorem tableOf_nil : tableOf [] = [] := rfl
/-- a method's contract out of its body -/
theorem Ev.of {g : AG} {d : Nat} {M : AM} {mc ms : Nat} {as : List Value} {ws : va_W} {Q : AO → va_W → Prop} (hh : am_h M = []) (hy : plainName (am_y M).cls = true) (hn : (ent as).length ≤ am_n M) (kk : Wp g d M Q 0 (entL as (am_n M)) [] ws mc ms) : Ev g d M mc ms as ws Q := by
  intro G
  have hw : am_w M = .code (am_y M) (am_c M) (am_n M) (am_r M) := by unfold am_w; rw [hh]
  refine vx_ofW (cc := am_c M) (maxL := am_n M) (ret := am_r M) (ws' := []) hy (by rw [hw]) ?_
  intro p e s m args below meth c s₁ B hml ht hPc
  obtain ⟨rfl, I, hP, hD⟩ := hPc
  have hl := lv_entry as (n := am_n M) (by rw [ent_len]; exact hn)
  rw [lg_entry_eq]
  refine kk p e s m as.toArray below meth c mc ms ⟨G, I, B.exec, B.bytes, hml, findClass_of_methodNamed B.named, B.returns, B.notSynchronized, (name_of_methodNamed B.named B.method).1, ?_⟩ s.heap [] 0 0 _ ?_ hP hD va_S.rf (by omega) (by omega)
  · rw [hh, tableOf_nil]
    exact List.eq_nil_iff_forall_not_mem.mpr fun x hx => ht x hx
  · unfold entL
    rw [al_app, al_ent]
    exact hl
/-- a method's contract out of its body, with handlers -/
theorem Ev.ofH {g : AG} {d : Nat} {M : AM} {mc ms : Nat} {as : List Value} {ws : va_W} {Q : AO → va_W → Prop} (hh : am_h M ≠ []) (hy : plainName (am_y M).cls = true) (hn : (ent as).length ≤ am_n M) (kk : Wp g d M Q 0 (entL as (am_n M)) [] ws mc ms) : Ev g d M mc ms as ws Q := by
  intro G
  have hw : am_w M = .codeWith (am_y M) (am_c M) (am_n M) (am_r M) (am_h M) := by
    unfold am_w
    split
    · rename_i e; exact absurd e hh
    · rfl
  refine vx_ofWH (cc := am_c M) (maxL := am_n M) (ret := am_r M) (hh := am_h M) (ws' := []) hy (by rw [hw]) ?_
  intro p e s m args below meth c s₁ B hml hPc
  obtain ⟨rfl, I, hP, hD⟩ := hPc
  have hl := lv_entry as (n := am_n M) (by rw [ent_len]; exact hn)
  rw [lg_entry_eq]
  refine kk p e s m as.toArray below meth c mc ms ⟨G, I, B.exec, B.bytes, hml, findClass_of_methodNamed B.named, B.returns, B.notSynchronized, (name_of_methodNamed B.named B.method).1, ?_⟩ s.heap [] 0 0 _ ?_ hP hD va_S.rf (by omega) (by omega)
  · exact vx_table (x := am_y M) B (atoms_spec (ws := [am_w M]) B.pre _ (by rw [hw]; exact List.mem_cons_self))
  · unfold entL
    rw [al_app, al_ent]
    exact hl
/-- another end, less sharp -/
theorem Ev.mono {g : AG} {d : Nat} {M : AM} {mc ms : Nat} {as : List Value} {ws : va_W} {Q Q' : AO → va_W → Prop} (h : Ev g d M mc ms as ws Q) (hq : ∀ o w, Q o w → Q' o w) : Ev g d M mc ms as ws Q' := by
  intro G p e ha hc hk s m args below hf happ hP hK
  obtain ⟨k, o, h1, h2, h3, h4⟩ := h G p e ha hc hk s m args below hf happ hP hK
  refine ⟨k, o, h1, h2, h3, ?_⟩
  rcases h4 with ⟨⟨⟨v, w, e1, e2, e3, e4⟩, e5⟩, e6⟩ | ⟨q, e1, E, ce, L, ⟨⟨w, x2, x3, x4⟩, x5⟩, x6⟩
  · exact Or.inl ⟨⟨⟨v, w, e1, hq _ _ e2, e3, e4⟩, e5⟩, e6⟩
  · exact Or.inr ⟨q, e1, E, ce, L, ⟨⟨w, hq _ _ x2, x3, x4⟩, x5⟩, x6⟩
/-- what a caller must know of a method -/
def ae_m (M : AM) (n : Nat) : Prop := am_h M = [] ∧ am_w M ∈ lw_tbl ∧ goodWord (am_w M) = true ∧ Cond.initialized (am_y M).cls ∈ lw_tbl ∧ ((am_y M).cls ≠ "java/lang/invoke/MethodHandle" ∧ (am_y M).cls ≠ "java/lang/invoke/VarHandle" ∧ (parseMethodDescriptor (am_y M).desc).map (fun z => z.parameters.length) = some n) ∧ am_n M ≤ 29
section R1
variable {p : Program} {e : Env} {s : State} {m : MethodId} {args : Array Value} {below : List Frame} {meth : Method} {c : Code} {H : Heap} {locs : List Loc} {cells slots mc ms : Nat} {QQ : State → Prop}
theorem ae_run {g : AG} {R : Room} {pc mc' ms' : Nat} {ls : Array Slot} {st0 rest : List Value} {a : Array Value} {Q' : AO → va_W → Prop} (hr : vx_Run p (ag_l g) e R s m args below meth c H locs cells slots mc' ms' (F0 m pc ls st0) rest (ae_Qc g Q' a) (ae_XC g Q') (ae_A g)) (hS : va_S (ae_A g) s.heap H locs)
    (kx : ∀ (E : String) (ce : Cell) (q9 : Addr) (ws1 : va_W) (H1 : Heap) (locs1 : List Loc), Q' (.inr E) ws1 → va_P (ag_D g) vwCl ws1 H1 → va_D (ae_A g) ws1 → va_S (ae_A g) s.heap H1 locs1 → H1[q9]? = some ce → ce.vm = .none → s.vm.findClass E = some ce.cls → vx_W p (ag_l g) e R s m args below meth c H1 locs1 (cells + mc') (slots + ms') QQ (F0 m pc ls rest) q9)
    (kk : ∀ (v : Option Value) (ws1 : va_W) (H1 : Heap) (locs1 : List Loc), Q' (.inl v) ws1 → va_P (ag_D g) vwCl ws1 H1 → va_D (ae_A g) ws1 → va_S (ae_A g) s.heap H1 locs1 → W p (ag_l g) e R s m args below meth c H1 locs1 (cells + mc') (slots + ms') QQ (F0 m (pc + 3) ls (v.toList ++ rest))) : W p (ag_l g) e R s m args below meth c H locs cells slots QQ (F0 m pc ls st0) := by
  intro T hT X
  rcases hr T hT X with ⟨v, st₀, t, T', L, h0, X', hL, e1, e2, ⟨⟨v', ws1, hv, hq, hp, hd⟩, hF⟩, st⟩ | ⟨q, st₀, t, T', L, E, ce, h0, X', hL, e1, e2, ⟨⟨ws1, hq, hp, hd⟩, hF⟩, hce, hcv, hcl, st⟩
  · cases hv
    obtain ⟨-, -, k3⟩ := vx_keep h0 e1 hS (fun _ _ h => h) (fun _ h => h) hL hF
    obtain ⟨t2, a1, b1⟩ := kk v ws1 T'.heap (locs ++ L) hq (by rw [e1]; exact hp) hd k3 T' rfl X'
    exact ⟨t2, st t2 a1, b1⟩
  · obtain ⟨-, -, k3⟩ := vx_keep h0 e1 hS (fun _ _ h => h) (fun _ h => h) hL hF
    obtain ⟨t2, a1, b1⟩ := kx E ce q ws1 T'.heap (locs ++ L) hq (by rw [e1]; exact hp) hd k3 (by rw [e1]; exact hce) hcv hcl T' rfl X'
    exact ⟨t2, st.trans a1, b1⟩
theorem ae_ws {g : AG} {M' : AM} {n : Nat} (G : ae_G g) (I : ae_I g s) (hm : ae_m M' n) : ∀ w ∈ [am_w M'], ∀ (a' : Array Value) (U : State), s.WarmedH U.vm → w.before a' U = true := by
  intro w hw a' U hW
  rw [List.mem_singleton.mp hw]
  exact word_at (State.WarmedH.trans I.1 hW) (good_of_word hm.2.2.1) (G.2.2.1 _ hm.2.1)
theorem ae_code {M' : AM} {n : Nat} (hm : ae_m M' n) : am_w M' = .code (am_y M') (am_c M') (am_n M') (am_r M') := by unfold am_w; rw [hm.1]
theorem ae_sig {M' : AM} {n : Nat} (hm : ae_m M' n) : ∀ sig, parseMethodDescriptor (am_y M').desc = some sig → n = sig.parameters.length := by
  intro sig h
  have h2 := hm.2.2.2.2.1.2.2
  rw [h] at h2
  exact (Option.some.inj h2).symm
theorem ae_callB {g : AG} {M' : AM} {n d d' mc' ms' index : Nat} {own : String} (G : ae_G g) (I : ae_I g s) (hm : ae_m M' n) (hd : d' + 1 ≤ d) (hl : (Cond.methodLink own index (am_y M')).before args s = true) : CallB (ae_R d mc ms) s args own index (am_y M') (am_c M') (am_n M') (am_r M') [am_w M'] (ae_R d' mc' ms') mc' ms' n := by
  have h29 : am_n M' ≤ 29 := hm.2.2.2.2.2
  refine ⟨rfl, rfl, hd, ?_, ae_ws G I hm, by rw [ae_code hm]; exact List.mem_cons_self, ?_, ae_w G I hm.2.2.2.1 rfl, ⟨hm.2.2.2.2.1.1, hm.2.2.2.2.1.2.1⟩, ae_sig hm, hl⟩
  · show 8 + (am_n M' + 11) + 48 * d' ≤ 48 * d
    omega
  · rw [← ae_code hm]
    exact ae_w G I hm.2.1 hm.2.2.1
theorem ae_callN {g : AG} {M' : AM} {n d d' mc' ms' index : Nat} {own host : String} (G : ae_G g) (I : ae_I g s) (hm : ae_m M' n) (hd : d' + 1 ≤ d) (hl : (Cond.methodLinkNest own index (am_y M') host).before args s = true) : va_CN (ae_R d mc ms) s args own index (am_y M') host (am_c M') (am_n M') (am_r M') [am_w M'] (ae_R d' mc' ms') mc' ms' n := by
  have h29 : am_n M' ≤ 29 := hm.2.2.2.2.2
  refine ⟨⟨rfl, rfl, hd, ?_, ae_ws G I hm, by rw [ae_code hm]; exact List.mem_cons_self⟩, ?_, ae_w G I hm.2.2.2.1 rfl, ⟨hm.2.2.2.2.1.1, hm.2.2.2.2.1.2.1⟩, ae_sig hm, hl⟩
  · show 8 + (am_n M' + 11) + 48 * d' ≤ 48 * d
    omega
  · rw [← ae_code hm]
    exact ae_w G I hm.2.1 hm.2.2.1
end R1
/-- what a callee's end must give: the caller goes on behind the call, or ends with the exception -/
abbrev Kc (g : AG) (d : Nat) (M : AM) (Q : AO → va_W → Prop) (pc : Nat) (L : List (Option Value)) (st : List Value) (rc rs : Nat) : AO → va_W → Prop := fun o ws => match o with
  | .inl v => Wp g d M Q pc L (v.toList ++ st) ws rc rs
  | .inr E => Q (.inr E) ws
theorem st_callV {g : AG} {d : Nat} {M : AM} {Q : AO → va_W → Prop} {pc : Nat} {L : List (Option Value)} {st : List Value} {ws : va_W} {rc rs : Nat} {pc' : Nat} (hp : pc + 3 = pc') (hh : am_h M = []) {M' : AM} {n d' mc' ms' idx : Nat} {As st0 : List Value} {b q0 ci N : Nat} {fs : List Value} {T : u_T} {ty : Nat → FieldType} (hcl : ae_cl ci (am_y M').cls T N ty) (hq : ws[q0]? = some (b, .inr (ci, fs))) (hst : st0 = As.reverse ++ .ref b :: st) (hn : As.length = n) (hcat : (st.map fun v => v.category).sum ≤ 8) (hd : d' + 1 ≤ d) (hm : ae_m M' n) (hw : Cond.methodLink (am_y M).cls idx (am_y M') ∈ lw_tbl ∧ Cond.instanceMethod (am_y M') ∈ lw_tbl ∧ Cond.selects (am_y M').cls (am_y M') (am_y M') ∈ lw_tbl) (dd : decode (am_c M) pc = .ok (.invokevirtual idx, 3)) (hM : Ev g d' M' mc' ms' (.ref b :: As) ws (Kc g d M Q pc' L st rc rs)) : Wp g d M Q pc L st0 ws (rc + mc') (rs + ms') := by
  intro p e s m args below meth c mc ms C H locs cells slots ls hl hP hD hS hc hs
  obtain ⟨G, I, hx, hb, hml, hown, hr, hlk, hnm, htb⟩ := C
  subst hp
  subst hst
  refine ae_run (Q' := Kc g d M Q (pc + 3) L st rc rs) (vx_runV (C := (am_y M').cls) ⟨hx, hb, hml, hown, (fun _ h => absurd h List.not_mem_nil : ∀ w ∈ ([] : List Cond), w.before args s = true)⟩ (hM G) ⟨ae_callB G I hm hd (ae_w G I hw.1 rfl), ae_w G I hw.2.1 rfl, ae_w G I hw.2.2 rfl⟩ ⟨ae_blind, (va_recv (ae_K G I) hP hcl.1 hq), fun U hU hW => ⟨rfl, ae_next I hS hU hW, by rw [hU]; exact hP, hD⟩⟩ rfl hn (hl.1) rfl (lv_room hcat) dd ⟨by show cells + mc' ≤ mc; omega, by show slots + ms' ≤ ms; omega⟩) hS (fun E ce q9 ws1 H1 locs1 hq hP1 hD1 hS1 hce hcv hcl => ?_) (fun v ws1 H1 locs1 hq hP1 hD1 hS1 => ?_)
  · exact vx_out (fun x hx9 => by rw [htb, hh, tableOf_nil] at hx9; exact absurd hx9 List.not_mem_nil) hlk hce hcv hcl (fun t ht _ => ⟨⟨ws1, hq, by rw [ht]; exact hP1, hD1⟩, hS1.F ht⟩) hS1.2.2 (by omega) (by omega)
  · exact hq p e s m args below meth c mc ms ⟨G, I, hx, hb, hml, hown, hr, hlk, hnm, htb⟩ H1 locs1 (cells + mc') (slots + ms') ls hl hP1 hD1 hS1 (by omega) (by omega)
theorem st_callVN {g : AG} {d : Nat} {M : AM} {Q : AO → va_W → Prop} {pc : Nat} {L : List (Option Value)} {st : List Value} {ws : va_W} {rc rs : Nat} {pc' : Nat} (hp : pc + 3 = pc') (hh : am_h M = []) {M' : AM} {n d' mc' ms' idx : Nat} {As st0 : List Value} {host : String} {b q0 ci N : Nat} {fs : List Value} {T : u_T} {ty : Nat → FieldType} (hcl : ae_cl ci (am_y M').cls T N ty) (hq : ws[q0]? = some (b, .inr (ci, fs))) (hst : st0 = As.reverse ++ .ref b :: st) (hn : As.length = n) (hcat : (st.map fun v => v.category).sum ≤ 8) (hd : d' + 1 ≤ d) (hm : ae_m M' n) (hw : Cond.methodLinkNest (am_y M).cls idx (am_y M') host ∈ lw_tbl ∧ Cond.instanceMethod (am_y M') ∈ lw_tbl ∧ Cond.selects (am_y M').cls (am_y M') (am_y M') ∈ lw_tbl) (dd : decode (am_c M) pc = .ok (.invokevirtual idx, 3)) (hM : Ev g d' M' mc' ms' (.ref b :: As) ws (Kc g d M Q pc' L st rc rs)) : Wp g d M Q pc L st0 ws (rc + mc') (rs + ms') := by
  intro p e s m args below meth c mc ms C H locs cells slots ls hl hP hD hS hc hs
  obtain ⟨G, I, hx, hb, hml, hown, hr, hlk, hnm, htb⟩ := C
  subst hp
  subst hst
  refine ae_run (Q' := Kc g d M Q (pc + 3) L st rc rs) (vx_runVN (C := (am_y M').cls) ⟨hx, hb, hml, hown, (fun _ h => absurd h List.not_mem_nil : ∀ w ∈ ([] : List Cond), w.before args s = true)⟩ (hM G) ⟨ae_callN G I hm hd (ae_nm G I hw.1), ae_w G I hw.2.1 rfl, ae_w G I hw.2.2 rfl⟩ ⟨ae_blind, (va_recv (ae_K G I) hP hcl.1 hq), fun U hU hW => ⟨rfl, ae_next I hS hU hW, by rw [hU]; exact hP, hD⟩⟩ rfl hn (hl.1) rfl (lv_room hcat) dd ⟨by show cells + mc' ≤ mc; omega, by show slots + ms' ≤ ms; omega⟩) hS (fun E ce q9 ws1 H1 locs1 hq hP1 hD1 hS1 hce hcv hcl => ?_) (fun v ws1 H1 locs1 hq hP1 hD1 hS1 => ?_)
  · exact vx_out (fun x hx9 => by rw [htb, hh, tableOf_nil] at hx9; exact absurd hx9 List.not_mem_nil) hlk hce hcv hcl (fun t ht _ => ⟨⟨ws1, hq, by rw [ht]; exact hP1, hD1⟩, hS1.F ht⟩) hS1.2.2 (by omega) (by omega)
  · exact hq p e s m args below meth c mc ms ⟨G, I, hx, hb, hml, hown, hr, hlk, hnm, htb⟩ H1 locs1 (cells + mc') (slots + ms') ls hl hP1 hD1 hS1 (by omega) (by omega)
theorem st_callS {g : AG} {d : Nat} {M : AM} {Q : AO → va_W → Prop} {pc : Nat} {L : List (Option Value)} {st : List Value} {ws : va_W} {rc rs : Nat} {pc' : Nat} (hp : pc + 3 = pc') (hh : am_h M = []) {M' : AM} {n d' mc' ms' idx : Nat} {As st0 : List Value}  (hst : st0 = As.reverse ++ st) (hn : As.length = n) (hcat : (st.map fun v => v.category).sum ≤ 8) (hd : d' + 1 ≤ d) (hm : ae_m M' n) (hw : Cond.methodLink (am_y M).cls idx (am_y M') ∈ lw_tbl ∧ Cond.static (am_y M') ∈ lw_tbl) (dd : decode (am_c M) pc = .ok (.invokestatic idx, 3)) (hM : Ev g d' M' mc' ms' As ws (Kc g d M Q pc' L st rc rs)) : Wp g d M Q pc L st0 ws (rc + mc') (rs + ms') := by
  intro p e s m args below meth c mc ms C H locs cells slots ls hl hP hD hS hc hs
  obtain ⟨G, I, hx, hb, hml, hown, hr, hlk, hnm, htb⟩ := C
  subst hp
  subst hst
  refine ae_run (Q' := Kc g d M Q (pc + 3) L st rc rs) (vx_runS ⟨hx, hb, hml, hown, (fun _ h => absurd h List.not_mem_nil : ∀ w ∈ ([] : List Cond), w.before args s = true)⟩ (hM G) ⟨ae_callB G I hm hd (ae_w G I hw.1 rfl), ae_w G I hw.2 rfl⟩ ⟨ae_blind,  fun U hU hW => ⟨rfl, ae_next I hS hU hW, by rw [hU]; exact hP, hD⟩⟩ rfl hn (hl.1) rfl (lv_room hcat) dd ⟨by show cells + mc' ≤ mc; omega, by show slots + ms' ≤ ms; omega⟩) hS (fun E ce q9 ws1 H1 locs1 hq hP1 hD1 hS1 hce hcv hcl => ?_) (fun v ws1 H1 locs1 hq hP1 hD1 hS1 => ?_)
  · exact vx_out (fun x hx9 => by rw [htb, hh, tableOf_nil] at hx9; exact absurd hx9 List.not_mem_nil) hlk hce hcv hcl (fun t ht _ => ⟨⟨ws1, hq, by rw [ht]; exact hP1, hD1⟩, hS1.F ht⟩) hS1.2.2 (by omega) (by omega)
  · exact hq p e s m args below meth c mc ms ⟨G, I, hx, hb, hml, hown, hr, hlk, hnm, htb⟩ H1 locs1 (cells + mc') (slots + ms') ls hl hP1 hD1 hS1 (by omega) (by omega)
theorem st_callSN {g : AG} {d : Nat} {M : AM} {Q : AO → va_W → Prop} {pc : Nat} {L : List (Option Value)} {st : List Value} {ws : va_W} {rc rs : Nat} {pc' : Nat} (hp : pc + 3 = pc') (hh : am_h M = []) {M' : AM} {n d' mc' ms' idx : Nat} {As st0 : List Value} {host : String} (hst : st0 = As.reverse ++ st) (hn : As.length = n) (hcat : (st.map fun v => v.category).sum ≤ 8) (hd : d' + 1 ≤ d) (hm : ae_m M' n) (hw : Cond.methodLinkNest (am_y M).cls idx (am_y M') host ∈ lw_tbl ∧ Cond.static (am_y M') ∈ lw_tbl) (dd : decode (am_c M) pc = .ok (.invokestatic idx, 3)) (hM : Ev g d' M' mc' ms' As ws (Kc g d M Q pc' L st rc rs)) : Wp g d M Q pc L st0 ws (rc + mc') (rs + ms') := by
  intro p e s m args below meth c mc ms C H locs cells slots ls hl hP hD hS hc hs
  obtain ⟨G, I, hx, hb, hml, hown, hr, hlk, hnm, htb⟩ := C
  subst hp
  subst hst
  refine ae_run (Q' := Kc g d M Q (pc + 3) L st rc rs) (vx_runSN ⟨hx, hb, hml, hown, (fun _ h => absurd h List.not_mem_nil : ∀ w ∈ ([] : List Cond), w.before args s = true)⟩ (hM G) ⟨ae_callN G I hm hd (ae_nm G I hw.1), ae_w G I hw.2 rfl, trivial⟩ ⟨ae_blind,  fun U hU hW => ⟨rfl, ae_next I hS hU hW, by rw [hU]; exact hP, hD⟩⟩ rfl hn (hl.1) rfl (lv_room hcat) dd ⟨by show cells + mc' ≤ mc; omega, by show slots + ms' ≤ ms; omega⟩) hS (fun E ce q9 ws1 H1 locs1 hq hP1 hD1 hS1 hce hcv hcl => ?_) (fun v ws1 H1 locs1 hq hP1 hD1 hS1 => ?_)
  · exact vx_out (fun x hx9 => by rw [htb, hh, tableOf_nil] at hx9; exact absurd hx9 List.not_mem_nil) hlk hce hcv hcl (fun t ht _ => ⟨⟨ws1, hq, by rw [ht]; exact hP1, hD1⟩, hS1.F ht⟩) hS1.2.2 (by omega) (by omega)
  · exact hq p e s m args below meth c mc ms ⟨G, I, hx, hb, hml, hown, hr, hlk, hnm, htb⟩ H1 locs1 (cells + mc') (slots + ms') ls hl hP1 hD1 hS1 (by omega) (by omega)
end AE2
