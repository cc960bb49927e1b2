section QR2
variable {g : AG} {ad : Nat → Nat} {d : Nat} {σ : SG} {m mi t : Int → Int} {k : Nat} {hi : Int}
theorem fc_iff (hW : WF m) {S : SK} (hI : IS m S) : fcM m S = -1 ↔ fkM m S = -1 := by
  unfold fcM
  constructor
  · intro z
    rcases Classical.em (fkM m S = -1) with c | c
    · exact c
    · rw [if_neg c] at z
      exfalso
      have hm := fk_mem hW c
      have h1 := (hI.cst _ hm).1
      have h2 := (aft_b hW.1 hW.2.2.1 (fkM m S % 42 - 1) (-1)).1
      unfold scF at z
      omega
  · intro z
    rw [if_pos z]
theorem q_found {x1 : Int} (h : CI σ m mi hi) (h1 : iR x1) (hS : SR σ) (hd : 9 ≤ d) : Eb g ad d mX10_found 1 6 [.ref (ad 0), vi x1] σ (XC σ m mi hi (foundV m x1) (foundT x1) (X1 xNS)) := by
  have hW := h.gm.wf
  have hns : ¬ (0 ≤ x1 ∧ x1 ≤ 4) → SR σ → XC σ m mi hi (foundV m x1) (foundT x1) (X1 xNS) (.inr xNS) σ := fun z => by
    have eT : foundT x1 = 1 := by unfold foundT; rw [if_neg z]
    exact xe (by rw [eT]; decide) ⟨rfl, eT⟩ h Qf.refl
  refine EbS rfl pl_X10 rfl rfl (bX10_found_0 h1 hS ⟨fun c => ⟨by omega, hns (by omega)⟩, fun c => ⟨fun c2 => ?_, fun c2 => ⟨by omega, hns (by omega)⟩⟩⟩)
  have eT : foundT x1 = 0 := by unfold foundT; rw [if_pos ⟨by omega, c2⟩]
  have eV : foundV m x1 = if x1 = 0 then fcM m (stkM m (m 8)).S else if x1 = 1 then (if fkM m (stkM m (m 8)).S = -1 then -1 else (fpM m (m 8)).length) else if x1 = 2 then (stkM m (m 8)).S.mn else if x1 = 3 then (stkM m (m 8)).S.mg else (stkM m (m 8)).cut := by unfold foundV; rw [if_pos eT]
  refine Cl.vo (p_stacks (d := d - 1) h hS (by omega)) (by omega) (fun s2 hS2 h2 => ?_)
  have hF := (h2.1.st h2.2.2.1).2
  have hIS := (stkM_IS hW (w := m 8) hW.1.2.2.2.2.2.2.2.2).1
  have hfc := fc_iff hW hIS
  refine ⟨fun c3 => ?_, fun c3 => ?_, fun c3 => ⟨fun c4 => ?_, fun c4 => ?_⟩, fun c3 => ?_, fun c3 => ?_⟩
  · rw [hF.ct]
    exact xr eT (by rw [eV, if_neg (by omega), if_neg (by omega), if_neg (by omega), if_neg (by omega)]) h2.1 h2.2.2.2
  · rw [hF.fc]
    exact xr eT (by rw [eV, if_pos c3]) h2.1 h2.2.2.2
  · rw [hF.fc, hfc] at c4
    have hp := hF.pa
    rw [if_neg c4] at hp
    rw [hp.1]
    exact xr eT (by rw [eV, if_neg (by omega), if_pos c3, if_neg c4]) h2.1 h2.2.2.2
  · rw [hF.fc, hfc] at c4
    exact xr eT (by rw [eV, if_neg (by omega), if_pos c3, if_pos c4]) h2.1 h2.2.2.2
  · rw [hF.mn]
    exact xr eT (by rw [eV, if_neg (by omega), if_neg (by omega), if_pos c3]) h2.1 h2.2.2.2
  · rw [hF.mg]
    exact xr eT (by rw [eV, if_neg (by omega), if_neg (by omega), if_neg (by omega), if_pos c3]) h2.1 h2.2.2.2
theorem q_halves {x1 x2 : Int} (h : CI σ m mi hi) (h1 : iR x1) (h2' : iR x2) (hS : SR σ) (hd : 9 ≤ d) : Eb g ad d mX10_halves 1 6 [.ref (ad 0), vi x1, vi x2] σ (XC σ m mi hi (halvesV m x1 x2) (halvesT x2) (X1 xNS)) := by
  have hW := h.gm.wf
  have hns : ¬ (0 ≤ x2 ∧ x2 ≤ 1) → SR σ → XC σ m mi hi (halvesV m x1 x2) (halvesT x2) (X1 xNS) (.inr xNS) σ := fun z => by
    have eT : halvesT x2 = 1 := by unfold halvesT; rw [if_neg z]
    exact xe (by rw [eT]; decide) ⟨rfl, eT⟩ h Qf.refl
  refine EbS rfl pl_X10 rfl rfl (bX10_halves_0 h1 h2' hS ⟨fun c => ⟨by omega, hns (by omega)⟩, fun c => ⟨fun c2 => ?_, fun c2 => ⟨by omega, hns (by omega)⟩⟩⟩)
  have eT : halvesT x2 = 0 := by unfold halvesT; rw [if_pos ⟨by omega, c2⟩]
  have eV : halvesV m x1 x2 = if ¬ fkM m (stkM m (m 8)).S = -1 ∧ 0 ≤ x1 ∧ x1 < (fpM m (m 8)).length then (if x2 = 0 then ((fpM m (m 8)).getD x1.toNat (0, 0)).1 else ((fpM m (m 8)).getD x1.toNat (0, 0)).2) else -1 := by unfold halvesV; rw [if_pos eT]
  refine Cl.vo (p_stacks (d := d - 1) h hS (by omega)) (by omega) (fun s2 hS2 h2 => ?_)
  have hF := (h2.1.st h2.2.2.1).2
  have hIS := (stkM_IS hW (w := m 8) hW.1.2.2.2.2.2.2.2.2).1
  have hp := hF.pa
  by_cases cf : fkM m (stkM m (m 8)).S = -1
  · rw [if_pos cf] at hp
    have h17 : sc s2 75 17 = 0 := hp.1
    rw [h17]
    exact ⟨fun c3 => xr eT (by rw [eV, if_neg (fun z => z.1 cf)]) h2.1 h2.2.2.2, fun c3 => ⟨fun c4 => absurd c4 (by omega), fun c4 => xr eT (by rw [eV, if_neg (fun z => z.1 cf)]) h2.1 h2.2.2.2⟩⟩
  · rw [if_neg cf] at hp
    have hl6 : (fpM m (m 8)).length ≤ 6 := pth_len6 hIS (fk_mem hW cf)
    rw [hp.1]
    refine ⟨fun c3 => xr eT (by rw [eV, if_neg (by omega)]) h2.1 h2.2.2.2, fun c3 => ⟨fun c4 => ⟨⟨by omega, by omega⟩, ?_⟩, fun c4 => xr eT (by rw [eV, if_neg (by omega)]) h2.1 h2.2.2.2⟩⟩
    obtain ⟨q, hq⟩ : ∃ q, (fpM m (m 8))[x1.toNat]? = some q := ⟨_, List.getElem?_eq_getElem (by omega)⟩
    have hpq := hp.2 _ q hq
    rw [show ((x1.toNat : Nat) : Int) = x1 by omega] at hpq
    have hrow := opt_row (h2.1.op h2.2.1).1 hW.1 hpq.1 hpq.2
    have hgd : (fpM m (m 8)).getD x1.toNat (0, 0) = q := by rw [List.getD_eq_getElem?_getD, hq]; rfl
    rw [hgd, if_pos ⟨cf, by omega, c4⟩] at eV
    refine ⟨fun c5 => ⟨⟨hpq.1, hrow.1⟩, ?_⟩, fun c5 => ⟨⟨hpq.1, hrow.1⟩, ?_⟩⟩
    · rw [hrow.2.2]
      exact xr eT (by rw [eV, if_neg c5]) h2.1 h2.2.2.2
    · rw [hrow.2.1]
      exact xr eT (by rw [eV, if_pos c5]) h2.1 h2.2.2.2
theorem q_stack {x1 x2 : Int} (h : CI σ m mi hi) (h1 : iR x1) (h2' : iR x2) (hS : SR σ) (hd : 9 ≤ d) : Eb g ad d mX10_stack 1 6 [.ref (ad 0), vi x1, vi x2] σ (XC σ m mi hi (stackV m x1 x2) (stackT m x1 x2) (X2 xIO xNS)) := by
  have hW := h.gm.wf
  have h3 := hW.1.2.2.2.1
  have hio : ¬ (0 ≤ x1 ∧ x1 ≤ m 3) → SR σ → XC σ m mi hi (stackV m x1 x2) (stackT m x1 x2) (X2 xIO xNS) (.inr xIO) σ := fun z => by
    have eT : stackT m x1 x2 = 1 := by unfold stackT; rw [if_neg z]
    exact xe (by rw [eT]; decide) (Or.inl ⟨rfl, eT⟩) h Qf.refl
  have hns : (0 ≤ x1 ∧ x1 ≤ m 3) → ¬ (0 ≤ x2 ∧ x2 ≤ 1) → SR σ → XC σ m mi hi (stackV m x1 x2) (stackT m x1 x2) (X2 xIO xNS) (.inr xNS) σ := fun y z => by
    have eT : stackT m x1 x2 = 2 := by unfold stackT; rw [if_pos y, if_neg z]
    exact xe (by rw [eT]; decide) (Or.inr ⟨rfl, eT⟩) h Qf.refl
  refine EbS rfl pl_X10 rfl rfl (bX10_stack_0 h1 h2' hS ⟨fun c => ⟨by omega, hio (by omega)⟩, fun c => ⟨h.isk, ?_⟩⟩)
  rw [h.rk.n]
  refine ⟨fun c1 => ⟨fun c2 => ⟨by omega, hns (by omega) (by omega)⟩, fun c2 => ⟨fun c3 => ?_, fun c3 => ⟨by omega, hns (by omega) (by omega)⟩⟩⟩, fun c1 => ⟨by omega, hio (by omega)⟩⟩
  have eT : stackT m x1 x2 = 0 := by unfold stackT; rw [if_pos ⟨by omega, c1⟩, if_pos ⟨by omega, c3⟩]
  have eV : stackV m x1 x2 = if x2 = 0 then ((cand m (stkN m (m 8) x1).S x1).length : Int) else lowM m (stkN m (m 8) x1).S x1 := by unfold stackV; rw [if_pos eT]
  refine Cl.vo (p_stacks (d := d - 1) h hS (by omega)) (by omega) (fun s2 hS2 h2 => ?_)
  have hF := (h2.1.st h2.2.2.1).2
  rw [hF.cn x1 (by omega) c1, hF.lo x1 (by omega) c1]
  exact ⟨fun c4 => ⟨⟨by omega, by omega⟩, xr eT (by rw [eV, if_neg c4]) h2.1 h2.2.2.2⟩, fun c4 => ⟨⟨by omega, by omega⟩, xr eT (by rw [eV, if_pos c4]) h2.1 h2.2.2.2⟩⟩
theorem q_count {x1 : Int} (h : CI σ m mi hi) (h1 : iR x1) (hS : SR σ) (hd : 9 ≤ d) : Eb g ad d mX10_count 0 0 [.ref (ad 0), vi x1] σ (Ki fun r s => r = countV m x1 ∧ CI s m mi hi ∧ Qf σ s) := by
  have hW := h.gm.wf
  have set_ : ∀ i, 4 ≤ i → i ≤ 8 → x1 = i → isK (rv σ 0 1) ∧ (0 ≤ x1 - 4 ∧ x1 - 4 < 5) ∧ (iR (ia σ (rv σ 0 1 + 11) (x1 - 4)) → SR σ → Ki (fun r s => r = countV m x1 ∧ CI s m mi hi ∧ Qf σ s) (.inl (some (vi (ia σ (rv σ 0 1 + 11) (x1 - 4))))) σ) := fun i h4 h8 e => by
    refine ⟨h.isk, ⟨by omega, by omega⟩, re_i ⟨?_, h, Qf.refl⟩⟩
    rw [h.rk.st (x1 - 4) (by omega) (by omega)]
    unfold countV
    rw [if_neg (by omega), if_pos (by omega), show 4 + (x1 - 4) = x1 by omega]
  refine EbS rfl pl_X10 rfl rfl (bX10_count_0 h1 hS ⟨fun c => re_i ⟨?_, h, Qf.refl⟩, fun c => ⟨h.isk, ?_⟩, fun c => ⟨h.isk, ?_⟩, fun c => ⟨h.isk, ?_⟩, fun c => ⟨h.isk, ?_⟩, set_ 4 (by omega) (by omega), set_ 5 (by omega) (by omega), set_ 6 (by omega) (by omega), set_ 7 (by omega) (by omega), set_ 8 (by omega) (by omega), fun c => ⟨h.isk, ?_⟩⟩)
  · unfold countV
    rw [if_neg (by omega), if_neg (by omega)]
  · rw [h.rk.w]
    exact re_i ⟨by unfold countV; rw [if_neg (by omega), if_pos (by omega), c], h, Qf.refl⟩
  · rw [h.rk.p]
    exact re_i ⟨by unfold countV; rw [if_neg (by omega), if_pos (by omega), c], h, Qf.refl⟩
  · rw [h.rk.f]
    exact re_i ⟨by unfold countV; rw [if_neg (by omega), if_pos (by omega), c], h, Qf.refl⟩
  · rw [h.rk.n]
    exact re_i ⟨by unfold countV; rw [if_neg (by omega), if_pos (by omega), c], h, Qf.refl⟩
  · refine EI.k (k_living (d := d - 1) h.isk h.rk hW.1 hS) (by omega) (fun _ _ => re_i ⟨?_, h, Qf.refl⟩)
    unfold countV
    rw [if_pos c]
theorem q_idle (h : CI σ m mi hi) (hS : SR σ) (hd : 9 ≤ d) : Eb g ad d mX10_idle 0 0 [.ref (ad 0)] σ (Ki fun r s => r = idleV m ∧ CI s m mi hi ∧ Qf σ s) := by
  have hW := h.gm.wf
  have hm1 := hW.1.2.1
  refine EbS rfl pl_X10 rfl rfl (bX10_idle_0 hS ?_)
  refine Cl.vo (p_options (d := d - 1) h hS (by omega)) (by omega) (fun s1 hS1 hs1 _ _ hS1' => ?_)
  have hc := hs1.1
  have hO := (hc.op hs1.2.1).1
  have hpl : ∀ p, 0 ≤ p → p < m 1 → (((ops m).filter (fun q => decide (q.2 = p))).length : Int) = placesOf m p := fun p h0 h1 => ops_often hm1 hW.1.2.2.2.1.1 ⟨h0, h1⟩
  refine up_loop (P := fun x => ∀ b, iR b → (ir x (m 1)).foldl (fun b p => if (decide (of_ m p 9 = 0) && decide (placesOf m p = 0)) = true then bOr b (bShl 1 p) else b) b = idleV m → aX10_idle_8 g ad d (Ki fun r s => r = idleV m ∧ CI s m mi hi ∧ Qf σ s) 0 0 s1 b x) (hi := m 1) 0 (by omega) ?_ ?_ 0 (iR_lit rfl) rfl
  · intro b ib hb
    rw [ir_nil (Int.le_refl _)] at hb
    refine bX10_idle_8 ib (iR_of (by omega) (by omega)) hS1' ⟨hc.isk, fun _ => re_i ⟨hb, hc, hs1.2.2.1⟩, fun z => absurd (by rw [hc.rk.p]; exact Int.le_refl _) z⟩
  · intro x hx0 hx1 ih b ib hb
    rw [ir_cons hx1, List.foldl_cons] at hb
    have i2 : iR (x + 1) := iR_of (by omega) (by omega)
    refine bX10_idle_8 ib (iR_of (by omega) (by omega)) hS1' ⟨hc.isk, fun z => absurd z (by rw [hc.rk.p]; omega), fun _ => ⟨⟨hx0, by omega⟩, ?_⟩⟩
    rw [hc.rk.go x hx0 hx1]
    refine ⟨fun c => ⟨i2, fun _ _ _ => ih b ib ?_⟩, fun c => ?_⟩
    · rw [decide_eq_false c, Bool.false_and, if_neg (by decide)] at hb
      exact hb
    · refine EI.k (o_howOften (d := d - 1) hO hW (iR_of (by omega) (by omega)) hS1') (by omega) (fun _ _ => ?_)
      rw [hpl x hx0 hx1]
      refine ⟨fun c2 => ⟨i2, fun _ _ _ => ih b ib ?_⟩, fun c2 => ⟨i2, fun ib2 _ _ => ih _ ib2 ?_⟩⟩
      · rw [decide_eq_false c2, Bool.and_false, if_neg (by decide)] at hb
        exact hb
      · rw [decide_eq_true c, decide_eq_true c2, Bool.and_self, if_pos rfl] at hb
        exact hb
end QR2
