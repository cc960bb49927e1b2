section PLF
theorem pf_min : plainFor yJ9_min_7cf53 = true := by decide +kernel
theorem pf_max : plainFor yJ9_max_7cf53 = true := by decide +kernel
theorem pf_abs : plainFor yJ9_abs_0f7a4 = true := by decide +kernel
theorem vx_ofWF {l : Launch} {y : MethodName} {ws ws' : List Cond} {rm : Room} {Pc : Array Value → State → Prop} {Qc : Array Value → State → Outcome → State → Prop} {XC : String → State → State → Prop} {mc ms : Nat} {free : Addr → Prop} {cc : ByteArray} {maxL : Nat} {ret : Option FieldType}
    (hy : plainFor y = true) (hw : ws = Cond.code y cc maxL ret :: ws')
    (body : ∀ p e s m args below meth c s₁, BodyLoose p l y (headSpec ws rm) cc maxL ret e s m args below meth c s₁ → c.maxLocals = maxL → (∀ x ∈ c.exceptionTable.toList, False) → Pc args s →
      W p l e (headSpec ws rm).room s m args below meth c s.heap [] 0 0 (vx_MQ below Qc XC args s mc ms free) (entryFrame m args maxL)) : vx_Met l y ws rm Pc Qc XC mc ms free := by
  refine MetFree.of_bodySF (code := cc) (maxLocals := maxL) (ret := ret) hy ?_ ?_
  · intro args s m h hn
    obtain ⟨meth, c, h1, h2, h3, h4, h5, h6, -, -⟩ := Cond.code_spec hn (atoms_spec (ws := ws) h _ (by rw [hw]; exact List.mem_cons_self))
    exact ⟨meth, c, h1, h2, h3, h4, h5, h6⟩
  · intro p e s m args below meth c s₁ B hml hP _
    have hh0 : s₁.heap = s.heap := by rw [B.state]; rfl
    have ht : ∀ x ∈ c.exceptionTable.toList, False := by
      obtain ⟨meth9, c9, h1, h2, -, -, -, -, h7, -⟩ := Cond.code_spec B.named (atoms_spec (ws := ws) B.pre _ (by rw [hw]; exact List.mem_cons_self))
      cases Option.some.inj (h1.symm.trans B.method)
      cases Option.some.inj (h2.symm.trans (Stand.of_body B).code)
      intro x hx
      rw [Array.isEmpty_iff.mp h7] at hx
      cases hx
    obtain ⟨t, a1, o, b1, b2, b3⟩ := body p e s m args below meth c s₁ B hml ht hP s₁ hh0 (Stand.of_body B)
    exact ⟨t, o, a1, b1, b2, b3⟩
theorem Ev.ofF {g : AG} {d : Nat} {M : AM} {mc ms : Nat} {as : List Value} {ws : va_W} {Q : AO → va_W → Prop} (hh : am_h M = []) (hy : plainFor (am_y M) = true) (hn : (ent as).length ≤ am_n M) (kk : Wp g d M Q 0 (entL as (am_n M)) [] ws mc ms) : Ev g d M mc ms as ws Q := by
  intro G
  have hw : am_w M = .code (am_y M) (am_c M) (am_n M) (am_r M) := by unfold am_w; rw [hh]
  refine vx_ofWF (cc := am_c M) (maxL := am_n M) (ret := am_r M) (ws' := []) hy (by rw [hw]) ?_
  intro p e s m args below meth c s₁ B hml ht hPc
  obtain ⟨rfl, I, hP, hD⟩ := hPc
  have hl := lv_entry as (n := am_n M) (by rw [ent_len]; exact hn)
  rw [lg_entry_eq]
  refine kk p e s m as.toArray below meth c mc ms ⟨G, I, B.exec, B.bytes, hml, findClass_of_methodNamed B.named, B.returns, B.notSynchronized, (name_of_methodNamed B.named B.method).1, ?_⟩ s.heap [] 0 0 _ ?_ hP hD va_S.rf (by omega) (by omega)
  · rw [hh, tableOf_nil]
    exact List.eq_nil_iff_forall_not_mem.mpr fun x hx => ht x hx
  · unfold entL
    rw [al_app, al_ent]
    exact hl
theorem EbF {g : AG} {ad : Nat → Nat} {d : Nat} {M : AM} {mc ms : Nat} {as : List Value} {σ : SG} {Q : AO → SG → Prop} {L : List (Option Value)} (hh : am_h M = []) (hy : plainFor (am_y M) = true) (hn : Nat.ble (ent as).length (am_n M) = true) (hL : entL as (am_n M) = L) (kk : Wb g ad d M Q 0 L [] σ mc ms) : Eb g ad d M mc ms as σ Q := Ev.ofF hh hy (Nat.le_of_ble_eq_true hn) (hL ▸ kk)
end PLF
