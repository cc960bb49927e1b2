section TQs
variable {g : AG} {ad : Nat → Nat} {d : Nat} {σ : SG} {m m1 mi t : Int → Int} {k : Nat} {hi e f0 : Int}
theorem lz_cw {l : List Int} {f : Int → Int} (hw : ∀ w ∈ l, 0 ≤ w ∧ w < m 0 ∨ w = -2) (hf : hl f 0 (l.map cw)) {j : Int} (h0 : 0 ≤ j) (h1 : j < l.length) : f j = cw (lz l j) ∧ (0 ≤ lz l j ∧ lz l j < m 0 ∨ lz l j = -2) := by
  have hg : l[j.toNat]? = some (l[j.toNat]'(by omega)) := List.getElem?_eq_getElem (by omega)
  have e1 : lz l j = l[j.toNat]'(by omega) := by
    unfold lz
    rw [List.getD_eq_getElem?_getD, hg]
    rfl
  have h2 := hf j.toNat (cw (l[j.toNat]'(by omega))) (by rw [List.getElem?_map, hg]; rfl)
  rw [show (0 : Int) + ((j.toNat : Nat) : Int) = j by omega] at h2
  rw [e1]
  exact ⟨h2, hw _ (List.getElem_mem _)⟩
theorem cw_eq {v w : Int} (hv : 0 ≤ v) : v = cw w ↔ v = w := by
  unfold cw
  by_cases c : w = -2
  · rw [if_pos c]; omega
  · rw [if_neg c]
/-- how a question about a told text ends -/
def XT (σ : SG) (m mi t : Int → Int) (hi e : Int) (V : List Int → Int) : AO → SG → Prop := Kx (Ki fun r s => ∃ l, toldP t e m = .ok l ∧ r = V l ∧ CI s m mi hi ∧ TP s t 0 (-1) ∧ Cf σ s) (fun E s => E = xIA ∧ ToE σ s m mi t hi e)
theorem ToP.q {s u : SG} {l : List Int} (h : ToP σ s m mi t hi e l) (hq : Qf s u) (hc : CI u m mi hi) : ToP σ u m mi t hi e l := by
  have h45 := (hq.2.1 45 (by omega) (by omega)).1
  have h37 := congrFun (hq.2.1 37 (by omega) (by omega)).2.2 11
  obtain ⟨a1, a2, a3, a4, a5, a6, a7⟩ := h
  exact ⟨a1, hc, a3.tf hq.tf, by rw [h37]; exact a4, a5, by rw [h45]; exact a6, a7.trans hq.c⟩
theorem t_forced (h : CI σ m mi hi) (hT : TP σ t e f0) (htb : ∀ j, 0 ≤ t j ∧ t j ≤ 255) (heb : 0 ≤ e ∧ e ≤ 400) (hS : SR σ) (hd : 10 ≤ d) : Eb g ad d mX10_forced 1 6 [.ref (ad 0)] σ (XT σ m mi t hi e (fun l => forcedV m (lz l) l.length)) := by
  have hW := h.gm.wf
  refine EbS rfl pl_X10 rfl rfl (bX10_forced_0 hS ?_)
  refine Cl.xv (p_told (d := d - 1) h hT htb heb hS (by omega)) (by omega) (fun s1 hS1 hs1 => ?_) (fun E s1 hS1 hs1 => ?_)
  · obtain ⟨l, hl1⟩ := hs1
    refine Cl.vo (p_options (d := d - 1) hl1.2.1 hS1 (by omega)) (by omega) (fun s2 hS2 hs2 => ⟨hs2.1.isk, ?_⟩)
    have h2 := hl1.q hs2.2.2.1 hs2.1
    have hc := hs2.1
    have e6 : ia s2 (rv s2 0 1 + 11) 2 = m 6 := hc.rk.st 2 (by omega) (by omega)
    have e7 : ia s2 (rv s2 0 1 + 11) 3 = m 7 := hc.rk.st 3 (by omega) (by omega)
    obtain ⟨a1, _, a3, a4, a5, a6, a7⟩ := h2
    have hw := told_w h.gm heb.1 a1
    rw [e6, e7, a4]
    have hTL : TLC s2 m 45 (lz l) l.length := fun j h0 h1 => by
      have := lz_cw hw a6 h0 h1
      rcases this.2 with z | z
      · refine Or.inl ⟨z, ?_⟩
        rw [this.1]
        unfold cw
        rw [if_neg (by omega)]
      · refine Or.inr ⟨by omega, ?_⟩
        rw [this.1, z]
        decide
    refine Cl.i (v_cheapestTelling (d := d - 1) hc.isk hc.rk (hc.op hs2.2.1).1 hW aI_45 (by decide) (by omega) ⟨by omega, by omega, a5⟩ hTL hS2 (by omega)) (by omega) (fun r s4 hr4 hS4 h4 => ?_)
    have k4 := hc.keep h4.2 (fun c hc' => by unfold CnC at hc'; omega)
    exact fun i1 i2 => Or.inl ⟨r, rfl, i1, i2, l, a1, h4.1, k4.1, a3.tf k4.2.tf, a7.trans k4.2.c⟩
  · exact fun i2 => Or.inr ⟨E, rfl, i2, hs1⟩
/-- the text of the first way, unfolded -/
theorem un_tx (hW : WF m) {s : SG} {r : Int} (h : UWY s m 0 r) : sc s 63 13 = ((tx m 0).length : Int) ∧ hl (ia s 71) 0 (tx m 0) := by
  obtain ⟨w0, hw0, _⟩ := way0e hW
  rcases h with ⟨w, hw, _, hu, _⟩ | ⟨hw, _⟩
  · have e : tx m 0 = txt m w.2 := by unfold tx; rw [hw]
    rw [e]
    exact ⟨hu.ts, hu.tx⟩
  · rw [hw0] at hw
    cases hw
theorem near_c {s : SG} {l : List Int} (hW : WF m) (hw : ∀ w ∈ l, 0 ≤ w ∧ w < m1 0 ∨ w = -2) (h13 : sc s 63 13 = ((tx m 0).length : Int)) (htx : hl (ia s 71) 0 (tx m 0)) (h11 : sc s 37 11 = (l.length : Int)) (hl18 : (l.length : Int) ≤ 18) (h45 : hl (ia s 45) 0 (l.map cw)) (hS : SR s) (hd : 1 ≤ d) : Eb g ad d mX4_apart 0 0 [.ref (ad 88), .ref (ad 71), vi (sc s 63 13), .ref (ad 45), vi (sc s 37 11)] s (Ki fun r u => r = nearV m (lz l) l.length ∧ Fr (fun c => c = 89) s u ∧ sc u = sc s) := by
  have htl := tx_len hW 0
  rw [h13, h11]
  have hb := l_apart (g := g) (ad := ad) (d := d) (σ := s) (c1 := 71) (c3 := 45) (x2 := ((tx m 0).length : Int)) (x4 := (l.length : Int)) (A := fun i => (tx m 0).getD i 0) (B := fun j => cw (lz l j)) aI_71 aI_45 (by omega) (fun i hi' => by
      have := hl_getD htx (i := i) (by omega)
      rw [Int.zero_add] at this
      exact this) (fun i hi' => (lz_cw (m := m1) hw h45 (j := (i : Int)) (by omega) hi').1) ⟨by omega, by omega, by omega⟩ ⟨by omega, by omega, hl18⟩ hS hd
  refine Eb.mono hb ?_
  rintro o u ⟨r, e1, a1, a2, a3, a4, a5⟩
  refine ⟨r, e1, a1, a2, ?_, a4, a5⟩
  rw [a3]
  unfold nearV edL
  rw [Int.toNat_natCast, Int.toNat_natCast]
  refine edT_cong _ _ (fun a b ha hb' => ?_)
  have hm : (tx m 0).getD a 0 ∈ tx m 0 := by
    rw [List.getD_eq_getElem?_getD, List.getElem?_eq_getElem ha]
    exact List.getElem_mem _
  exact cw_eq (tx_word hW 0 _ hm).1
theorem t_near (h : CI σ m mi hi) (hT : TP σ t e f0) (htb : ∀ j, 0 ≤ t j ∧ t j ≤ 255) (heb : 0 ≤ e ∧ e ≤ 400) (hS : SR σ) (hd : 10 ≤ d) : Eb g ad d mX10_near 1 6 [.ref (ad 0)] σ (XT σ m mi t hi e (fun l => nearV m (lz l) l.length)) := by
  have hW := h.gm.wf
  refine EbS rfl pl_X10 rfl rfl (bX10_near_0 hS ?_)
  refine Cl.xv (p_told (d := d - 1) h hT htb heb hS (by omega)) (by omega) (fun s1 hS1 hs1 => ?_) (fun E s1 hS1 hs1 => ?_)
  · obtain ⟨l, hl1⟩ := hs1
    refine Cl.i (p_unfold (d := d - 1) (x := 0) hl1.2.1 (by omega) hS1 (by omega)) (by omega) (fun r s2 hr2 hS2 hs2 => ?_)
    have h2 := hl1.q hs2.2.2.2.2 hs2.2.1
    have hc := hs2.2.1
    obtain ⟨a1, _, a3, a4, a5, a6, a7⟩ := h2
    have hw := told_w h.gm heb.1 a1
    have hun := un_tx hW hs2.1
    refine Cl.i (near_c (d := d - 1) hW hw hun.1 hun.2 a4 a5 a6 hS2 (by omega)) (by omega) (fun r3 s3 hr3 hS3 h3 => ?_)
    have k3 := hc.keep h3.2.1 (fun c hc' => by omega)
    exact fun i1 i2 => Or.inl ⟨r3, rfl, i1, i2, l, a1, h3.1, k3.1, a3.tf k3.2.tf, a7.trans k3.2.c⟩
  · exact fun i2 => Or.inr ⟨E, rfl, i2, hs1⟩
/-! MATCH -/
theorem alR_cng {f f' h h' : Int → Int} {i j n : Int} (hc : ∀ q, 0 ≤ q → q < n → (f (i + q) = h (j + q) ↔ f' (i + q) = h' (j + q))) : alR f i h j n = alR f' i h' j n := by
  unfold alR
  refine allN_cong _ _ (fun q h0 h1 => ?_)
  have := hc q h0 (by omega)
  by_cases c : f (i + q) = h (j + q)
  · rw [decide_eq_true c, decide_eq_true (this.mp c)]
  · rw [decide_eq_false c, decide_eq_false (fun z => c (this.mpr z))]
theorem mtV_cng {f f' h h' : Int → Int} {N tn n : Int} (hn : 1 ≤ n) (hf : ∀ j, 0 ≤ j → j < N → f j = f' j) (hh : ∀ i j, 0 ≤ i → i < N → 0 ≤ j → j < tn → (h j = f i ↔ h' j = f' i)) : mtV f N h tn n = mtV f' N h' tn n := by
  unfold mtV
  refine foldl_cong _ _ (fun s i hi' => ?_)
  have hi2 := mem_ir.mp hi'
  have h1 : ∀ j, 0 ≤ j → j ≤ N - n → alR f j f i n = alR f' j f' i n := fun j h0 h2 => alR_cng (fun q q0 q1 => by rw [hf (j + q) (by omega) (by omega), hf (i + q) (by omega) (by omega)])
  have h2 : ∀ j, 0 ≤ j → j ≤ tn - n → alR h j f i n = alR h' j f' i n := fun j h0 h2 => alR_cng (fun q q0 q1 => hh (i + q) (j + q) (by omega) (by omega) (by omega) (by omega))
  have e1 : allN (fun j => !alR f j f i n) i.toNat 0 = allN (fun j => !alR f' j f' i n) i.toNat 0 := allN_cong _ _ (fun j a b => by rw [h1 j a (by omega)])
  have e2 : tms f N f i n = tms f' N f' i n := by
    unfold tms
    rw [filter_cong' (fun j hj => by have := mem_ir.mp hj; exact h1 j this.1 (by omega))]
  have e3 : tms h tn f i n = tms h' tn f' i n := by
    unfold tms
    rw [filter_cong' (fun j hj => by have := mem_ir.mp hj; exact h2 j this.1 (by omega))]
  unfold mtS
  rw [e1, e2, e3]
theorem t_match {x1 : Int} (h : CI σ m mi hi) (hT : TP σ t e f0) (htb : ∀ j, 0 ≤ t j ∧ t j ≤ 255) (heb : 0 ≤ e ∧ e ≤ 400) (h1 : iR x1) (hS : SR σ) (hd : 10 ≤ d) : Eb g ad d mX10_match 1 6 [.ref (ad 0), vi x1] σ (Kx (Ki fun r s => (1 ≤ x1 ∧ x1 ≤ 3) ∧ ∃ l, toldP t e m = .ok l ∧ r = matchV m x1 l ∧ CI s m mi hi ∧ TP s t 0 (-1) ∧ Cf σ s) (fun E s => E = xIA ∧ (((1 ≤ x1 ∧ x1 ≤ 3) ∧ ToE σ s m mi t hi e) ∨ (¬ (1 ≤ x1 ∧ x1 ≤ 3) ∧ CI s m mi hi ∧ TP s t 0 f0 ∧ Cf σ s)))) := by
  have hW := h.gm.wf
  have hF : Fr (fun c => 37 ≤ c ∧ c ≤ 47) σ (setS σ 37 1 0) := (Fr.refl σ).S ⟨by omega, by omega⟩
  have hbad : ¬ (1 ≤ x1 ∧ x1 ≤ 3) → SR (setS σ 37 1 0) → Kx (Ki fun r s => (1 ≤ x1 ∧ x1 ≤ 3) ∧ ∃ l, toldP t e m = .ok l ∧ r = matchV m x1 l ∧ CI s m mi hi ∧ TP s t 0 (-1) ∧ Cf σ s) (fun E s => E = xIA ∧ (((1 ≤ x1 ∧ x1 ≤ 3) ∧ ToE σ s m mi t hi e) ∨ (¬ (1 ≤ x1 ∧ x1 ≤ 3) ∧ CI s m mi hi ∧ TP s t 0 f0 ∧ Cf σ s))) (.inr xIA) (setS σ 37 1 0) := fun z i2 => by
    refine Or.inr ⟨_, rfl, i2, rfl, Or.inr ⟨z, h.kt hF (fun c hc => hc), ⟨hT.1, by simp (config := {decide := true}) only [sc_S, ia_S, la_S, rv_S, sc_I, rv_I, la_I, ia_I, sc_L, rv_L, ia_L, la_L, sc_A, rv_A, la_A, ia_A, sc_B, rv_B, ia_B, la_B, sc_R, ia_R, la_R, rv_R, ia_w, la_w, rv_w, sc_w, if_true, if_false], ?_⟩, hF.c (fun c hc => by omega)⟩⟩
    simp (config := {decide := true}) only [sc_S, ia_S, la_S, rv_S, sc_I, rv_I, la_I, ia_I, sc_L, rv_L, ia_L, la_L, sc_A, rv_A, la_A, ia_A, sc_B, rv_B, ia_B, la_B, sc_R, ia_R, la_R, rv_R, ia_w, la_w, rv_w, sc_w, if_true, if_false]
    exact hT.2.2
  refine EbS rfl pl_X10 rfl rfl (bX10_match_0 h1 hS ⟨fun c => ⟨by omega, hbad (by omega)⟩, fun c => ⟨fun c2 => ?_, fun c2 => ⟨by omega, hbad (by omega)⟩⟩⟩)
  refine Cl.xv (p_told (d := d - 1) h hT htb heb hS (by omega)) (by omega) (fun s1 hS1 hs1 => ?_) (fun E s1 hS1 hs1 => ?_)
  · obtain ⟨l, hl1⟩ := hs1
    refine Cl.i (p_unfold (d := d - 1) (x := 0) hl1.2.1 (by omega) hS1 (by omega)) (by omega) (fun r s2 hr2 hS2 hs2 => ?_)
    have h2 := hl1.q hs2.2.2.2.2 hs2.2.1
    have hc := hs2.2.1
    obtain ⟨a1, _, a3, a4, a5, a6, a7⟩ := h2
    have hw := told_w h.gm heb.1 a1
    have hun := un_tx hW hs2.1
    have htl := tx_len hW 0
    rw [hun.1, a4]
    refine EI.k (l_common (d := d - 1) (N := ((tx m 0).length : Int)) (tn := (l.length : Int)) (n := x1) rfl rfl aI_71 aI_45 (by decide) ⟨by omega, by omega⟩ ⟨by omega, by omega⟩ ⟨by omega, by omega⟩ hS2 (by omega)) (by omega) (fun _ _ => ?_)
    refine fun i1 i2 => Or.inl ⟨_, rfl, i1, i2, ⟨by omega, c2⟩, l, a1, ?_, hc, a3, a7⟩
    unfold matchV
    have hff : ∀ j, 0 ≤ j → j < ((tx m 0).length : Int) → ia s2 71 j = lz (tx m 0) j := lz_hl hun.2
    refine mtV_cng (by omega) hff (fun i j i0 i1' j0 j1 => ?_)
    have hm : lz (tx m 0) i ∈ tx m 0 := by
      unfold lz
      rw [List.getD_eq_getElem?_getD, List.getElem?_eq_getElem (by omega)]
      exact List.getElem_mem _
    rw [hff i i0 i1', (lz_cw hw a6 j0 j1).1]
    have h5 := cw_eq (w := lz l j) (tx_word hW 0 _ hm).1
    exact ⟨fun z => (h5.mp z.symm).symm, fun z => (h5.mpr z.symm).symm⟩
  · exact fun i2 => Or.inr ⟨E, rfl, i2, hs1.1, Or.inl ⟨⟨by omega, c2⟩, hs1.2⟩⟩
end TQs
