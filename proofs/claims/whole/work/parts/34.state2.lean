section PT
variable {g : AG} {ad : Nat → Nat} {d : Nat} {σ : SG} {m k tp : Int → Int} {h tn f : Int}
/-- nothing lies outside of the row -/
def ZR (n : Int) (f : Int → Int) : Prop := ∀ j, ¬ (0 ≤ j ∧ j < n) → f j = 0
theorem ZR.up {n : Int} {f : Int → Int} (h : ZR n f) {j v : Int} (hj : 0 ≤ j ∧ j < n) : ZR n (up f j v) := fun i hi => by rw [up_ne (by omega)]; exact h i hi
theorem ZR.eq {n : Int} {f f' : Int → Int} (h : ZR n f) (h' : ZR n f') (e : ∀ j, 0 ≤ j → j < n → f j = f' j) : f = f' := by
  funext j
  by_cases c : 0 ≤ j ∧ j < n
  · exact e j c.1 c.2
  · rw [h j c, h' j c]
theorem PS.S (p : PS σ m k h tp tn f) {j : Nat} {v : Int} (hj : decide (j ≠ 4 ∧ j ≠ 6 ∧ j ≠ 9 ∧ j ≠ 20) = true) : PS (setS σ 102 j v) m k h tp tn f := by
  have hj' := of_decide_eq_true hj
  refine ⟨p.m, p.k, ?_, p.tp, ?_, ?_, LI_S hj'.2.2.2 p.li⟩
  · rw [sc_S, if_neg (by omega)]; exact p.h
  · rw [sc_S, if_neg (by omega)]; exact p.tn
  · rw [sc_S, if_neg (by omega)]; exact p.f
/-- a number of the row is changed -/
theorem PS.M (p : PS σ m k h tp tn f) {j v : Int} : PS (setS (setI σ 103 j v) 102 20 0) (up m j v) k h tp tn f := by
  refine ⟨?_, ?_, ?_, ?_, ?_, ?_, LI_0 (by simp (config := {decide := true}) only [sc_S, ia_S, la_S, rv_S, sc_I, rv_I, la_I, ia_I, sc_L, rv_L, ia_L, la_L, sc_A, rv_A, la_A, ia_A, sc_B, rv_B, ia_B, la_B, sc_R, ia_R, la_R, rv_R, ia_w, la_w, rv_w, sc_w, if_true, if_false])⟩
  · simp (config := {decide := true}) only [sc_S, ia_S, la_S, rv_S, sc_I, rv_I, la_I, ia_I, sc_L, rv_L, ia_L, la_L, sc_A, rv_A, la_A, ia_A, sc_B, rv_B, ia_B, la_B, sc_R, ia_R, la_R, rv_R, ia_w, la_w, rv_w, sc_w, if_true, if_false]; rw [p.m]
  · simp (config := {decide := true}) only [sc_S, ia_S, la_S, rv_S, sc_I, rv_I, la_I, ia_I, sc_L, rv_L, ia_L, la_L, sc_A, rv_A, la_A, ia_A, sc_B, rv_B, ia_B, la_B, sc_R, ia_R, la_R, rv_R, ia_w, la_w, rv_w, sc_w, if_true, if_false]; exact p.k
  · simp (config := {decide := true}) only [sc_S, ia_S, la_S, rv_S, sc_I, rv_I, la_I, ia_I, sc_L, rv_L, ia_L, la_L, sc_A, rv_A, la_A, ia_A, sc_B, rv_B, ia_B, la_B, sc_R, ia_R, la_R, rv_R, ia_w, la_w, rv_w, sc_w, if_true, if_false]; exact p.h
  · simp (config := {decide := true}) only [sc_S, ia_S, la_S, rv_S, sc_I, rv_I, la_I, ia_I, sc_L, rv_L, ia_L, la_L, sc_A, rv_A, la_A, ia_A, sc_B, rv_B, ia_B, la_B, sc_R, ia_R, la_R, rv_R, ia_w, la_w, rv_w, sc_w, if_true, if_false]; exact p.tp
  · simp (config := {decide := true}) only [sc_S, ia_S, la_S, rv_S, sc_I, rv_I, la_I, ia_I, sc_L, rv_L, ia_L, la_L, sc_A, rv_A, la_A, ia_A, sc_B, rv_B, ia_B, la_B, sc_R, ia_R, la_R, rv_R, ia_w, la_w, rv_w, sc_w, if_true, if_false]; exact p.tn
  · simp (config := {decide := true}) only [sc_S, ia_S, la_S, rv_S, sc_I, rv_I, la_I, ia_I, sc_L, rv_L, ia_L, la_L, sc_A, rv_A, la_A, ia_A, sc_B, rv_B, ia_B, la_B, sc_R, ia_R, la_R, rv_R, ia_w, la_w, rv_w, sc_w, if_true, if_false]; exact p.f
theorem setS_S {σ : SG} {i k : Nat} {a b : Int} : setS (setS σ i k a) i k b = setS σ i k b := by
  refine Prod.ext ?_ rfl
  funext x y
  show u2 (u2 σ.1 i k a) i k b x y = u2 σ.1 i k b x y
  simp only [u2]
  by_cases c : x = i ∧ y = k
  · simp [c]
  · simp [c]
/-- refused -/
theorem EP_no {t t' : Int} (p : PS σ m k h tp tn f) (hT : t = t') : iR 0 → SR (setS σ 102 0 t') → Ki (fun r s => r = 0 ∧ sc s 102 0 = t ∧ Fc σ s ∧ PS s m k h tp tn f) (.inl (some (vi 0))) (setS σ 102 0 t') :=
  re_i ⟨rfl, by simp (config := {decide := true}) only [sc_S, ia_S, la_S, rv_S, sc_I, rv_I, la_I, ia_I, sc_L, rv_L, ia_L, la_L, sc_A, rv_A, la_A, ia_A, sc_B, rv_B, ia_B, la_B, sc_R, ia_R, la_R, rv_R, ia_w, la_w, rv_w, sc_w, if_true, if_false]; exact hT.symm, (Fc.refl σ).S, p.S rfl⟩
def putT (m : Int → Int) (s w : Int) : Int := if (0 ≤ s ∧ s < m 3) ∧ (0 ≤ w ∧ w < m 0) then 0 else 1
theorem e_put {x1 x2 : Int} (p : PS σ m k h tp tn f) (hW : WF m) (hS : SR σ) (h1 : iR x1) (h2 : iR x2) (hd : 2 ≤ d) : EP g ad d mX11_put [.ref (ad 102), vi x1, vi x2] σ (if putT m x1 x2 = 0 then m (849 + x1) else 0) (putT m x1 x2) (if putT m x1 x2 = 0 then up m (849 + x1) x2 else m) k h tp tn f := by
  have hW0 := hW.1
  have em := p.m
  have h3 := hW.1.2.2.2.1
  refine EbS rfl pl_X11 rfl rfl (bX11_put_0 h1 h2 hS ?_)
  refine EI.k (by apply (w_isPlace em) <;> (first | with_reducible assumption | with_reducible exact iR_of (by omega) (by omega) | omega | with_reducible (exact bi_01) | assumption)) (by omega) (fun _ _ => ?_)
  refine bi_zn (fun c1 => ?_) (fun c1 => ?_)
  · refine EI.k (by apply (w_isWord em) <;> (first | with_reducible assumption | with_reducible exact iR_of (by omega) (by omega) | omega | with_reducible (exact bi_01) | assumption)) (by omega) (fun _ _ => ?_)
    refine bi_zn (fun c2 => ?_) (fun c2 => ?_)
    · have hT : putT m x1 x2 = 0 := if_pos ⟨c1, c2⟩
      simp (config := {decide := true}) only [sc_S, ia_S, la_S, rv_S, sc_I, rv_I, la_I, ia_I, sc_L, rv_L, ia_L, la_L, sc_A, rv_A, la_A, ia_A, sc_B, rv_B, ia_B, la_B, sc_R, ia_R, la_R, rv_R, ia_w, la_w, rv_w, sc_w, if_true, if_false]
      rw [if_pos hT, if_pos hT]
      refine ⟨fun _ => ⟨⟨by omega, by omega⟩, re_i ⟨?_, ?_, ((Fc.refl σ).S.I rfl).S, (p.S rfl).M⟩⟩, fun q => q.elim⟩
      · rw [em]
      · rw [hT]; simp (config := {decide := true}) only [sc_S, ia_S, la_S, rv_S, sc_I, rv_I, la_I, ia_I, sc_L, rv_L, ia_L, la_L, sc_A, rv_A, la_A, ia_A, sc_B, rv_B, ia_B, la_B, sc_R, ia_R, la_R, rv_R, ia_w, la_w, rv_w, sc_w, if_true, if_false]
    · have hT : putT m x1 x2 = 1 := if_neg (by omega)
      simp (config := {decide := true}) only [sc_S, ia_S, la_S, rv_S, sc_I, rv_I, la_I, ia_I, sc_L, rv_L, ia_L, la_L, sc_A, rv_A, la_A, ia_A, sc_B, rv_B, ia_B, la_B, sc_R, ia_R, la_R, rv_R, ia_w, la_w, rv_w, sc_w, if_true, if_false]
      rw [if_neg (by omega), if_neg (by omega)]
      exact ⟨fun q => absurd q (by decide), fun _ => EP_no p hT⟩
  · have hT : putT m x1 x2 = 1 := if_neg (by omega)
    simp (config := {decide := true}) only [sc_S, ia_S, la_S, rv_S, sc_I, rv_I, la_I, ia_I, sc_L, rv_L, ia_L, la_L, sc_A, rv_A, la_A, ia_A, sc_B, rv_B, ia_B, la_B, sc_R, ia_R, la_R, rv_R, ia_w, la_w, rv_w, sc_w, if_true, if_false]
    rw [if_neg (by omega), if_neg (by omega)]
    exact ⟨fun q => absurd q (by decide), fun _ => EP_no p hT⟩
def priceT (m : Int → Int) (p n : Int) : Int := if 0 ≤ p ∧ p < m 1 then if 0 ≤ n ∧ n ≤ 99 then 0 else 2 else 1
theorem e_price {x1 x2 : Int} (p : PS σ m k h tp tn f) (hW : WF m) (hS : SR σ) (h1 : iR x1) (h2 : iR x2) (hd : 2 ≤ d) : EP g ad d mX11_price [.ref (ad 102), vi x1, vi x2] σ (if priceT m x1 x2 = 0 then of_ m x1 8 else 0) (priceT m x1 x2) (if priceT m x1 x2 = 0 then up m (369 + 10 * x1 + 8) x2 else m) k h tp tn f := by
  have hW0 := hW.1
  have em := p.m
  have hm1 := hW.1.2.1
  have hS0 : SR (setS σ 102 0 0) := SR_setS hS (iR_lit rfl)
  have et : ia (setS σ 102 0 0) 103 = m := em
  refine EbS rfl pl_X11 rfl rfl (bX11_price_0 h1 h2 hS ?_)
  refine EI.k (by apply (w_isPhrase em) <;> (first | with_reducible assumption | with_reducible exact iR_of (by omega) (by omega) | omega | with_reducible (exact bi_01) | assumption)) (by omega) (fun _ _ => ?_)
  refine bi_nz (fun c1 => ?_) (fun c1 => ?_)
  · refine EI.k (by apply e_isIn <;> (first | with_reducible assumption | with_reducible exact iR_of (by omega) (by omega) | omega | with_reducible (exact bi_01) | assumption)) (by omega) (fun _ _ => ?_)
    refine bi_nz (fun c2 => ?_) (fun c2 => ?_)
    · have hT : priceT m x1 x2 = 0 := by unfold priceT; rw [if_pos c1, if_pos c2]
      simp (config := {decide := true}) only [sc_S, ia_S, la_S, rv_S, sc_I, rv_I, la_I, ia_I, sc_L, rv_L, ia_L, la_L, sc_A, rv_A, la_A, ia_A, sc_B, rv_B, ia_B, la_B, sc_R, ia_R, la_R, rv_R, ia_w, la_w, rv_w, sc_w, if_true, if_false]
      rw [if_pos hT, if_pos hT]
      refine ⟨fun _ => ?_, fun q => q.elim⟩
      refine EI.k (by apply (w_of et) <;> (first | with_reducible assumption | with_reducible exact iR_of (by omega) (by omega) | omega | with_reducible (exact bi_01) | assumption)) (by omega) (fun _ _ => ?_)
      refine ⟨⟨by omega, by omega⟩, re_i ⟨rfl, ?_, ((Fc.refl σ).S.I rfl).S, (p.S rfl).M⟩⟩
      rw [hT]; simp (config := {decide := true}) only [sc_S, ia_S, la_S, rv_S, sc_I, rv_I, la_I, ia_I, sc_L, rv_L, ia_L, la_L, sc_A, rv_A, la_A, ia_A, sc_B, rv_B, ia_B, la_B, sc_R, ia_R, la_R, rv_R, ia_w, la_w, rv_w, sc_w, if_true, if_false]
    · have hT : priceT m x1 x2 = 2 := by unfold priceT; rw [if_pos c1, if_neg c2]
      simp (config := {decide := true}) only [sc_S, ia_S, la_S, rv_S, sc_I, rv_I, la_I, ia_I, sc_L, rv_L, ia_L, la_L, sc_A, rv_A, la_A, ia_A, sc_B, rv_B, ia_B, la_B, sc_R, ia_R, la_R, rv_R, ia_w, la_w, rv_w, sc_w, if_true, if_false]
      rw [if_neg (by omega), if_neg (by omega)]
      exact ⟨fun q => absurd q (by decide), fun _ => EP_no p hT⟩
  · have hT : priceT m x1 x2 = 1 := by unfold priceT; rw [if_neg c1]
    simp (config := {decide := true}) only [sc_S, ia_S, la_S, rv_S, sc_I, rv_I, la_I, ia_I, sc_L, rv_L, ia_L, la_L, sc_A, rv_A, la_A, ia_A, sc_B, rv_B, ia_B, la_B, sc_R, ia_R, la_R, rv_R, ia_w, la_w, rv_w, sc_w, if_true, if_false]
    rw [if_neg (by omega), if_neg (by omega)]
    exact ⟨fun q => absurd q (by decide), fun _ => EP_no p hT⟩
/-- DROP: 0, or why not -/
def dropT (m : Int → Int) (p b : Int) : Int := if 0 ≤ p ∧ p < m 1 then if of_ m p 9 = 1 ∧ b = 0 ∧ ¬ alk m m (369 + 10 * p) p = -1 then 2 else 0 else 1
theorem aI103 : aI 103 855 := by unfold aI; exact ⟨by decide +kernel, by omega⟩
theorem e_drop {x1 x2 : Int} (p : PS σ m k h tp tn f) (hW : WF m) (hS : SR σ) (h1 : iR x1) (h2 : x2 = 0 ∨ x2 = 1) (hd : 2 ≤ d) : EP g ad d mX11_drop [.ref (ad 102), vi x1, vi x2] σ (if dropT m x1 x2 = 0 then bi (¬ of_ m x1 9 = x2) else 0) (dropT m x1 x2) (if dropT m x1 x2 = 0 then up m (369 + 10 * x1 + 9) x2 else m) k h tp tn f := by
  have hW0 := hW.1
  have em := p.m
  have hm1 := hW.1.2.1
  have i2 := iR01 h2
  have hS0 : SR (setS σ 102 0 0) := SR_setS hS (iR_lit rfl)
  have et : ia (setS σ 102 0 0) 103 = m := em
  refine EbS rfl pl_X11 rfl rfl (bX11_drop_0 h1 i2 hS ?_)
  refine EI.k (by apply (w_isPhrase em) <;> (first | with_reducible assumption | with_reducible exact iR_of (by omega) (by omega) | omega | with_reducible (exact bi_01) | assumption)) (by omega) (fun _ _ => ?_)
  refine bi_zn (fun c1 => ?_) (fun c1 => ?_)
  · have hp := hW.2.1 x1 c1.1 c1.2
    have hp9 := hp.2.2.2.1
    -- it is done
    have fin : dropT m x1 x2 = 0 → ∀ b, b = of_ m x1 9 → aX11_drop_81 g ad d (Ki fun r s => r = (if dropT m x1 x2 = 0 then bi (¬ of_ m x1 9 = x2) else 0) ∧ sc s 102 0 = dropT m x1 x2 ∧ Fc σ s ∧ PS s (if dropT m x1 x2 = 0 then up m (369 + 10 * x1 + 9) x2 else m) k h tp tn f) 0 0 (setS σ 102 0 0) x1 x2 b := by
      intro hT b hb
      rw [if_pos hT, if_pos hT]
      have hend : ∀ s, SR s → sc s 102 0 = 0 → Fc σ s → PS s (up m (369 + 10 * x1 + 9) x2) k h tp tn f → aX11_drop_120 g ad d (Ki fun r s => r = bi (¬ of_ m x1 9 = x2) ∧ sc s 102 0 = dropT m x1 x2 ∧ Fc σ s ∧ PS s (up m (369 + 10 * x1 + 9) x2) k h tp tn f) 0 0 s x1 x2 b := by
        intro s hSs e1 e2 e3
        refine bX11_drop_120 h1 i2 (iR01 (by omega)) hSs ⟨fun c => re_i ⟨?_, by rw [hT]; exact e1, e2, e3⟩, fun c => re_i ⟨?_, by rw [hT]; exact e1, e2, e3⟩⟩
        · exact (bi_f (by omega)).symm
        · exact (bi_t (by omega)).symm
      refine bX11_drop_81 h1 i2 (iR01 (by omega)) hS0 ⟨fun _ => ⟨fun c => ⟨⟨by omega, by omega⟩, fun _ _ _ hS' => ?_⟩, fun c => ⟨⟨by omega, by omega⟩, fun _ _ _ hS' => ?_⟩⟩, fun q => absurd (by simp (config := {decide := true}) only [sc_S, ia_S, la_S, rv_S, sc_I, rv_I, la_I, ia_I, sc_L, rv_L, ia_L, la_L, sc_A, rv_A, la_A, ia_A, sc_B, rv_B, ia_B, la_B, sc_R, ia_R, la_R, rv_R, ia_w, la_w, rv_w, sc_w, if_true, if_false]) q⟩
      · exact hend _ hS' (by simp (config := {decide := true}) only [sc_S, ia_S, la_S, rv_S, sc_I, rv_I, la_I, ia_I, sc_L, rv_L, ia_L, la_L, sc_A, rv_A, la_A, ia_A, sc_B, rv_B, ia_B, la_B, sc_R, ia_R, la_R, rv_R, ia_w, la_w, rv_w, sc_w, if_true, if_false]) (((Fc.refl σ).S.I rfl).S) (by rw [c]; exact (p.S rfl).M)
      · rw [show x2 = 1 by omega] at hend ⊢
        exact hend _ hS' (by simp (config := {decide := true}) only [sc_S, ia_S, la_S, rv_S, sc_I, rv_I, la_I, ia_I, sc_L, rv_L, ia_L, la_L, sc_A, rv_A, la_A, ia_A, sc_B, rv_B, ia_B, la_B, sc_R, ia_R, la_R, rv_R, ia_w, la_w, rv_w, sc_w, if_true, if_false]) (((Fc.refl σ).S.I rfl).S) ((p.S rfl).M)
    intro _ _ hS1
    refine bX11_drop_17 h1 i2 hS1 ⟨fun _ => ?_, fun q => absurd (by simp (config := {decide := true}) only [sc_S, ia_S, la_S, rv_S, sc_I, rv_I, la_I, ia_I, sc_L, rv_L, ia_L, la_L, sc_A, rv_A, la_A, ia_A, sc_B, rv_B, ia_B, la_B, sc_R, ia_R, la_R, rv_R, ia_w, la_w, rv_w, sc_w, if_true, if_false]) q⟩
    refine EI.k (by apply (w_of et) <;> (first | with_reducible assumption | with_reducible exact iR_of (by omega) (by omega) | omega | with_reducible (exact bi_01) | assumption)) (by omega) (fun _ _ => ?_)
    have hss : setS (setS σ 102 0 0) 102 0 0 = setS σ 102 0 0 := setS_S
    rw [hss]
    refine ⟨fun c9 => ?_, fun c9 => ⟨fun c2 => ?_, fun c2 => ?_⟩⟩
    · intros
      exact fin (by unfold dropT; rw [if_pos c1, if_neg (by omega)]) 0 (by omega)
    · intros
      exact fin (by unfold dropT; rw [if_pos c1, if_neg (by omega)]) 1 (by omega)
    · have hal := alk_b hW0 m (369 + 10 * x1) x1
      refine EI.k (e_alike (d := d - 1) (f := m) (n1 := 855) et et aI103 hW hS0 (by omega) h1 (by omega) ⟨?_, ?_⟩ (by omega)) (by omega) (fun _ _ => ?_)
      · have := hp.1.2
        unfold of_ at this
        rw [Int.add_zero] at this
        exact this
      · exact hp.2.1.2
      · rw [hss]
        refine ⟨fun c3 => ?_, fun c3 => ?_⟩
        · intros
          exact fin (by unfold dropT; rw [if_pos c1, if_neg (by omega)]) 1 (by omega)
        · intros
          have hT : dropT m x1 x2 = 2 := by unfold dropT; rw [if_pos c1, if_pos ⟨c9, c2, c3⟩]
          have hs2 : setS (setS σ 102 0 0) 102 0 2 = setS σ 102 0 2 := setS_S
          rw [hs2]
          rw [if_neg (by omega), if_neg (by omega)]
          refine bX11_drop_81 h1 i2 (iR_lit rfl) (SR_setS hS (iR_lit rfl)) ⟨fun q => absurd q (by simp (config := {decide := true}) only [sc_S, ia_S, la_S, rv_S, sc_I, rv_I, la_I, ia_I, sc_L, rv_L, ia_L, la_L, sc_A, rv_A, la_A, ia_A, sc_B, rv_B, ia_B, la_B, sc_R, ia_R, la_R, rv_R, ia_w, la_w, rv_w, sc_w, if_true, if_false]), fun _ => EP_no p hT⟩
  · have hT : dropT m x1 x2 = 1 := by unfold dropT; rw [if_neg c1]
    intro _ _ hS1
    rw [if_neg (by omega), if_neg (by omega)]
    exact bX11_drop_17 h1 i2 hS1 ⟨fun q => absurd q (by simp (config := {decide := true}) only [sc_S, ia_S, la_S, rv_S, sc_I, rv_I, la_I, ia_I, sc_L, rv_L, ia_L, la_L, sc_A, rv_A, la_A, ia_A, sc_B, rv_B, ia_B, la_B, sc_R, ia_R, la_R, rv_R, ia_w, la_w, rv_w, sc_w, if_true, if_false]), fun _ => EP_no p hT⟩
def tuneT (a n : Int) : Int := if 0 ≤ a ∧ a ≤ 4 then if (if a = 4 then 1 else 0) ≤ n ∧ n ≤ (if a < 2 then 99 else if a = 2 then 20 else if a = 3 then 6 else 40) then 0 else 2 else 1
theorem e_tune {x1 x2 : Int} (p : PS σ m k h tp tn f) (hW : WF m) (hS : SR σ) (h1 : iR x1) (h2 : iR x2) (hd : 2 ≤ d) : EP g ad d mX11_tune [.ref (ad 102), vi x1, vi x2] σ (if tuneT x1 x2 = 0 then m (4 + x1) else 0) (tuneT x1 x2) (if tuneT x1 x2 = 0 then up m (4 + x1) x2 else m) k h tp tn f := by
  have em := p.m
  have hss : ∀ t, setS (setS σ 102 0 0) 102 0 t = setS σ 102 0 t := fun t => setS_S
  have hS0 : SR (setS σ 102 0 0) := SR_setS hS (iR_lit rfl)
  have hS2 : SR (setS σ 102 0 2) := SR_setS hS (iR_lit rfl)
  have et : ia (setS σ 102 0 0) 103 = m := em
  refine EbS rfl pl_X11 rfl rfl (bX11_tune_0 h1 h2 hS ?_)
  refine EI.k (by apply e_isIn <;> (first | with_reducible assumption | with_reducible exact iR_of (by omega) (by omega) | omega | with_reducible (exact bi_01) | assumption)) (by omega) (fun _ _ => ?_)
  refine bi_nz (fun c1 => ?_) (fun c1 => ?_)
  · have yes : tuneT x1 x2 = 0 → ∀ b, iR b → aX11_tune_87 g ad d (Ki fun r s => r = (if tuneT x1 x2 = 0 then m (4 + x1) else 0) ∧ sc s 102 0 = tuneT x1 x2 ∧ Fc σ s ∧ PS s (if tuneT x1 x2 = 0 then up m (4 + x1) x2 else m) k h tp tn f) 0 0 (setS σ 102 0 0) x1 x2 b := by
      intro hT b ib
      rw [if_pos hT, if_pos hT]
      refine bX11_tune_87 h1 h2 ib hS0 ⟨fun _ => ⟨⟨by omega, by omega⟩, fun _ _ _ i4 hS' => ?_⟩, fun q => absurd (by simp (config := {decide := true}) only [sc_S, ia_S, la_S, rv_S, sc_I, rv_I, la_I, ia_I, sc_L, rv_L, ia_L, la_L, sc_A, rv_A, la_A, ia_A, sc_B, rv_B, ia_B, la_B, sc_R, ia_R, la_R, rv_R, ia_w, la_w, rv_w, sc_w, if_true, if_false]) q⟩
      refine bX11_tune_120 h1 h2 ib i4 hS' (re_i ⟨?_, ?_, ((Fc.refl σ).S.I rfl).S, (p.S rfl).M⟩)
      · rw [et]
      · rw [hT]; simp (config := {decide := true}) only [sc_S, ia_S, la_S, rv_S, sc_I, rv_I, la_I, ia_I, sc_L, rv_L, ia_L, la_L, sc_A, rv_A, la_A, ia_A, sc_B, rv_B, ia_B, la_B, sc_R, ia_R, la_R, rv_R, ia_w, la_w, rv_w, sc_w, if_true, if_false]
    have no : tuneT x1 x2 = 2 → ∀ b, iR b → aX11_tune_87 g ad d (Ki fun r s => r = (if tuneT x1 x2 = 0 then m (4 + x1) else 0) ∧ sc s 102 0 = tuneT x1 x2 ∧ Fc σ s ∧ PS s (if tuneT x1 x2 = 0 then up m (4 + x1) x2 else m) k h tp tn f) 0 0 (setS σ 102 0 2) x1 x2 b := by
      intro hT b ib
      rw [if_neg (by omega), if_neg (by omega)]
      exact bX11_tune_87 h1 h2 ib hS2 ⟨fun q => absurd q (by simp (config := {decide := true}) only [sc_S, ia_S, la_S, rv_S, sc_I, rv_I, la_I, ia_I, sc_L, rv_L, ia_L, la_L, sc_A, rv_A, la_A, ia_A, sc_B, rv_B, ia_B, la_B, sc_R, ia_R, la_R, rv_R, ia_w, la_w, rv_w, sc_w, if_true, if_false]), fun _ => EP_no p hT⟩
    have hTT : ∀ lo hi : Int, (if x1 = 4 then 1 else 0) = lo → (if x1 < 2 then 99 else if x1 = 2 then 20 else if x1 = 3 then 6 else 40) = hi → tuneT x1 x2 = if lo ≤ x2 ∧ x2 ≤ hi then 0 else 2 := by
      intro lo hi e1 e2
      unfold tuneT
      rw [if_pos c1, e1, e2]
    intro _ _ hS1
    refine bX11_tune_18 h1 h2 hS1 ⟨fun _ => ⟨fun c2 => ⟨fun c3 => ⟨fun c4 => ⟨fun c5 => ?_, fun c5 => ?_⟩, fun c4 => ⟨fun c5 => ?_, fun c5 => by omega⟩⟩, fun c3 => ⟨fun c5 => ?_, fun c5 => by omega⟩⟩, fun c2 => ⟨fun c5 => ?_, fun c5 => by omega⟩⟩, fun q => absurd (by simp (config := {decide := true}) only [sc_S, ia_S, la_S, rv_S, sc_I, rv_I, la_I, ia_I, sc_L, rv_L, ia_L, la_L, sc_A, rv_A, la_A, ia_A, sc_B, rv_B, ia_B, la_B, sc_R, ia_R, la_R, rv_R, ia_w, la_w, rv_w, sc_w, if_true, if_false]) q⟩
    · omega
    · have e := hTT 1 40 (if_pos c5) (by rw [if_neg (by omega), if_neg c3, if_neg c4])
      refine EI.k (by apply e_isIn <;> (first | with_reducible assumption | with_reducible exact iR_of (by omega) (by omega) | omega | with_reducible (exact bi_01) | assumption)) (by omega) (fun _ _ => ?_)
      rw [hss, hss]
      refine bi_zn (fun c6 => ?_) (fun c6 => ?_)
      · intros; exact yes (by rw [e, if_pos c6]) 40 (iR_lit rfl)
      · intros; exact no (by rw [e, if_neg c6]) 40 (iR_lit rfl)
    · have e := hTT 0 6 (if_neg c5) (by rw [if_neg (by omega), if_neg c3, if_pos c4])
      refine EI.k (by apply e_isIn <;> (first | with_reducible assumption | with_reducible exact iR_of (by omega) (by omega) | omega | with_reducible (exact bi_01) | assumption)) (by omega) (fun _ _ => ?_)
      rw [hss, hss]
      refine bi_zn (fun c6 => ?_) (fun c6 => ?_)
      · intros; exact yes (by rw [e, if_pos c6]) 6 (iR_lit rfl)
      · intros; exact no (by rw [e, if_neg c6]) 6 (iR_lit rfl)
    · have e := hTT 0 20 (if_neg c5) (by rw [if_neg (by omega), if_pos c3])
      refine EI.k (by apply e_isIn <;> (first | with_reducible assumption | with_reducible exact iR_of (by omega) (by omega) | omega | with_reducible (exact bi_01) | assumption)) (by omega) (fun _ _ => ?_)
      rw [hss, hss]
      refine bi_zn (fun c6 => ?_) (fun c6 => ?_)
      · intros; exact yes (by rw [e, if_pos c6]) 20 (iR_lit rfl)
      · intros; exact no (by rw [e, if_neg c6]) 20 (iR_lit rfl)
    · have e := hTT 0 99 (if_neg c5) (by rw [if_pos (by omega)])
      refine EI.k (by apply e_isIn <;> (first | with_reducible assumption | with_reducible exact iR_of (by omega) (by omega) | omega | with_reducible (exact bi_01) | assumption)) (by omega) (fun _ _ => ?_)
      rw [hss, hss]
      refine bi_zn (fun c6 => ?_) (fun c6 => ?_)
      · intros; exact yes (by rw [e, if_pos c6]) 99 (iR_lit rfl)
      · intros; exact no (by rw [e, if_neg c6]) 99 (iR_lit rfl)
  · have hT : tuneT x1 x2 = 1 := by unfold tuneT; rw [if_neg c1]
    intro _ _ hS1
    rw [if_neg (by omega), if_neg (by omega)]
    exact bX11_tune_18 h1 h2 hS1 ⟨fun q => absurd q (by simp (config := {decide := true}) only [sc_S, ia_S, la_S, rv_S, sc_I, rv_I, la_I, ia_I, sc_L, rv_L, ia_L, la_L, sc_A, rv_A, la_A, ia_A, sc_B, rv_B, ia_B, la_B, sc_R, ia_R, la_R, rv_R, ia_w, la_w, rv_w, sc_w, if_true, if_false]), fun _ => EP_no p hT⟩
/-! THE IMAGE -/
theorem e_image (p : PS σ m k h tp tn f) (hm : ZR 855 m) (hk : ZR 855 k) (hS : SR σ) : Eb g ad d mX11_image 0 0 [.ref (ad 102)] σ (Kv fun s => Fc σ s ∧ PS s m m 1 tp tn f) := by
  refine EbS rfl pl_X11 rfl rfl (bX11_image_0 hS ?_)
  intro _ hS0
  refine up_loop (P := fun j => ∀ τ k', SR τ → Fc σ τ → PS τ m k' h tp tn f → ZR 855 k' → (∀ i, 0 ≤ i → i < j → k' i = m i) → aX11_image_7 g ad d (Kv fun s => Fc σ s ∧ PS s m m 1 tp tn f) 0 0 τ j) (hi := 855) 0 (by omega) ?_ ?_ _ k hS0 (Fc.refl σ).S (p.S rfl) hk (fun i h0 h1 => by omega)
  · intro τ k' hSt hF pt hk' hall
    have e : k' = m := ZR.eq hk' hm hall
    subst e
    refine bX11_image_7 (iR_lit rfl) hSt ⟨fun _ => re_v ⟨hF.S, pt.m, pt.k, by simp (config := {decide := true}) only [sc_S, ia_S, la_S, rv_S, sc_I, rv_I, la_I, ia_I, sc_L, rv_L, ia_L, la_L, sc_A, rv_A, la_A, ia_A, sc_B, rv_B, ia_B, la_B, sc_R, ia_R, la_R, rv_R, ia_w, la_w, rv_w, sc_w, if_true, if_false], pt.tp, ?_, ?_, LI_S (by decide) pt.li⟩, fun q => absurd (by decide) q⟩
    · simp (config := {decide := true}) only [sc_S, ia_S, la_S, rv_S, sc_I, rv_I, la_I, ia_I, sc_L, rv_L, ia_L, la_L, sc_A, rv_A, la_A, ia_A, sc_B, rv_B, ia_B, la_B, sc_R, ia_R, la_R, rv_R, ia_w, la_w, rv_w, sc_w, if_true, if_false]; exact pt.tn
    · simp (config := {decide := true}) only [sc_S, ia_S, la_S, rv_S, sc_I, rv_I, la_I, ia_I, sc_L, rv_L, ia_L, la_L, sc_A, rv_A, la_A, ia_A, sc_B, rv_B, ia_B, la_B, sc_R, ia_R, la_R, rv_R, ia_w, la_w, rv_w, sc_w, if_true, if_false]; exact pt.f
  · intro j hj0 hj1 ih τ k' hSt hF pt hk' hall
    refine bX11_image_7 (iR_of (by omega) (by omega)) hSt ⟨fun q => absurd q (by omega), fun _ => ⟨⟨hj0, hj1⟩, iR_of (by omega) (by omega), fun _ hS' => ?_⟩⟩
    rw [pt.m] at hS' ⊢
    refine ih _ (up k' j (m j)) hS' (hF.I rfl) ⟨?_, ?_, pt.h, ?_, pt.tn, pt.f, ?_⟩ (hk'.up ⟨hj0, hj1⟩) (fun i hi0 hi1 => ?_)
    · simp (config := {decide := true}) only [sc_S, ia_S, la_S, rv_S, sc_I, rv_I, la_I, ia_I, sc_L, rv_L, ia_L, la_L, sc_A, rv_A, la_A, ia_A, sc_B, rv_B, ia_B, la_B, sc_R, ia_R, la_R, rv_R, ia_w, la_w, rv_w, sc_w, if_true, if_false]; exact pt.m
    · simp (config := {decide := true}) only [sc_S, ia_S, la_S, rv_S, sc_I, rv_I, la_I, ia_I, sc_L, rv_L, ia_L, la_L, sc_A, rv_A, la_A, ia_A, sc_B, rv_B, ia_B, la_B, sc_R, ia_R, la_R, rv_R, ia_w, la_w, rv_w, sc_w, if_true, if_false]; rw [pt.k]
    · simp (config := {decide := true}) only [sc_S, ia_S, la_S, rv_S, sc_I, rv_I, la_I, ia_I, sc_L, rv_L, ia_L, la_L, sc_A, rv_A, la_A, ia_A, sc_B, rv_B, ia_B, la_B, sc_R, ia_R, la_R, rv_R, ia_w, la_w, rv_w, sc_w, if_true, if_false]; exact pt.tp
    · intro q
      have := pt.li q
      simp (config := {decide := true}) only [sc_S, ia_S, la_S, rv_S, sc_I, rv_I, la_I, ia_I, sc_L, rv_L, ia_L, la_L, sc_A, rv_A, la_A, ia_A, sc_B, rv_B, ia_B, la_B, sc_R, ia_R, la_R, rv_R, ia_w, la_w, rv_w, sc_w, if_true, if_false]
      exact this
    · by_cases e : i = j
      · rw [e, up_at]
      · rw [up_ne e]; exact hall i hi0 (by omega)
theorem e_back (p : PS σ m k h tp tn f) (hm : ZR 855 m) (hk : ZR 855 k) (hS : SR σ) : EP g ad d mX11_back [.ref (ad 102)] σ (if h = 0 then 0 else 1) 0 (if h = 0 then m else k) k h tp tn f := by
  have p0 : PS (setS σ 102 0 0) m k h tp tn f := p.S rfl
  refine EbS rfl pl_X11 rfl rfl (bX11_back_0 hS ⟨fun c => ?_, fun c => ?_⟩)
  · rw [p0.h] at c
    rw [if_neg c, if_neg c]
    intro _ hS0
    refine up_loop (P := fun j => ∀ τ m', SR τ → Fc σ τ → ia τ 103 = m' → sc τ 102 0 = 0 → PS (setS τ 102 20 0) m' k h tp tn f → ZR 855 m' → (∀ i, 0 ≤ i → i < j → m' i = k i) → aX11_back_16 g ad d (Ki fun r s => r = 1 ∧ sc s 102 0 = 0 ∧ Fc σ s ∧ PS s k k h tp tn f) 0 0 τ j) (hi := 855) 0 (by omega) ?_ ?_ _ m hS0 (Fc.refl σ).S p0.m (by simp (config := {decide := true}) only [sc_S, ia_S, la_S, rv_S, sc_I, rv_I, la_I, ia_I, sc_L, rv_L, ia_L, la_L, sc_A, rv_A, la_A, ia_A, sc_B, rv_B, ia_B, la_B, sc_R, ia_R, la_R, rv_R, ia_w, la_w, rv_w, sc_w, if_true, if_false]) ?_ hm (fun i h0 h1 => by omega)
    · intro τ m' hSt hF em e0 pt hm' hall
      have e : m' = k := ZR.eq hm' hk hall
      subst e
      exact bX11_back_16 (iR_lit rfl) hSt ⟨fun _ => re_i ⟨rfl, by simp (config := {decide := true}) only [sc_S, ia_S, la_S, rv_S, sc_I, rv_I, la_I, ia_I, sc_L, rv_L, ia_L, la_L, sc_A, rv_A, la_A, ia_A, sc_B, rv_B, ia_B, la_B, sc_R, ia_R, la_R, rv_R, ia_w, la_w, rv_w, sc_w, if_true, if_false]; exact e0, hF.S, pt⟩, fun q => absurd (by decide) q⟩
    · intro j hj0 hj1 ih τ m' hSt hF em e0 pt hm' hall
      have ek : ia τ 105 = k := pt.k
      refine bX11_back_16 (iR_of (by omega) (by omega)) hSt ⟨fun q => absurd q (by omega), fun _ => ⟨⟨hj0, hj1⟩, iR_of (by omega) (by omega), fun _ hS' => ?_⟩⟩
      rw [ek] at hS' ⊢
      refine ih _ (up m' j (k j)) hS' (hF.I rfl) (by simp (config := {decide := true}) only [sc_S, ia_S, la_S, rv_S, sc_I, rv_I, la_I, ia_I, sc_L, rv_L, ia_L, la_L, sc_A, rv_A, la_A, ia_A, sc_B, rv_B, ia_B, la_B, sc_R, ia_R, la_R, rv_R, ia_w, la_w, rv_w, sc_w, if_true, if_false]; rw [em]) (by simp (config := {decide := true}) only [sc_S, ia_S, la_S, rv_S, sc_I, rv_I, la_I, ia_I, sc_L, rv_L, ia_L, la_L, sc_A, rv_A, la_A, ia_A, sc_B, rv_B, ia_B, la_B, sc_R, ia_R, la_R, rv_R, ia_w, la_w, rv_w, sc_w, if_true, if_false]; exact e0) ⟨?_, ?_, ?_, ?_, ?_, ?_, LI_0 (by simp (config := {decide := true}) only [sc_S, ia_S, la_S, rv_S, sc_I, rv_I, la_I, ia_I, sc_L, rv_L, ia_L, la_L, sc_A, rv_A, la_A, ia_A, sc_B, rv_B, ia_B, la_B, sc_R, ia_R, la_R, rv_R, ia_w, la_w, rv_w, sc_w, if_true, if_false])⟩ (hm'.up ⟨hj0, hj1⟩) (fun i hi0 hi1 => ?_)
      · simp (config := {decide := true}) only [sc_S, ia_S, la_S, rv_S, sc_I, rv_I, la_I, ia_I, sc_L, rv_L, ia_L, la_L, sc_A, rv_A, la_A, ia_A, sc_B, rv_B, ia_B, la_B, sc_R, ia_R, la_R, rv_R, ia_w, la_w, rv_w, sc_w, if_true, if_false]; rw [em]
      · simp (config := {decide := true}) only [sc_S, ia_S, la_S, rv_S, sc_I, rv_I, la_I, ia_I, sc_L, rv_L, ia_L, la_L, sc_A, rv_A, la_A, ia_A, sc_B, rv_B, ia_B, la_B, sc_R, ia_R, la_R, rv_R, ia_w, la_w, rv_w, sc_w, if_true, if_false]; exact ek
      · exact pt.h
      · simp (config := {decide := true}) only [sc_S, ia_S, la_S, rv_S, sc_I, rv_I, la_I, ia_I, sc_L, rv_L, ia_L, la_L, sc_A, rv_A, la_A, ia_A, sc_B, rv_B, ia_B, la_B, sc_R, ia_R, la_R, rv_R, ia_w, la_w, rv_w, sc_w, if_true, if_false]; exact pt.tp
      · exact pt.tn
      · exact pt.f
      · by_cases e : i = j
        · rw [e, up_at]
        · rw [up_ne e]; exact hall i hi0 (by omega)
    · refine ⟨p0.m, p0.k, ?_, p0.tp, ?_, ?_, LI_0 (by simp (config := {decide := true}) only [sc_S, ia_S, la_S, rv_S, sc_I, rv_I, la_I, ia_I, sc_L, rv_L, ia_L, la_L, sc_A, rv_A, la_A, ia_A, sc_B, rv_B, ia_B, la_B, sc_R, ia_R, la_R, rv_R, ia_w, la_w, rv_w, sc_w, if_true, if_false])⟩
      · simp (config := {decide := true}) only [sc_S, ia_S, la_S, rv_S, sc_I, rv_I, la_I, ia_I, sc_L, rv_L, ia_L, la_L, sc_A, rv_A, la_A, ia_A, sc_B, rv_B, ia_B, la_B, sc_R, ia_R, la_R, rv_R, ia_w, la_w, rv_w, sc_w, if_true, if_false]; exact p.h
      · simp (config := {decide := true}) only [sc_S, ia_S, la_S, rv_S, sc_I, rv_I, la_I, ia_I, sc_L, rv_L, ia_L, la_L, sc_A, rv_A, la_A, ia_A, sc_B, rv_B, ia_B, la_B, sc_R, ia_R, la_R, rv_R, ia_w, la_w, rv_w, sc_w, if_true, if_false]; exact p.tn
      · simp (config := {decide := true}) only [sc_S, ia_S, la_S, rv_S, sc_I, rv_I, la_I, ia_I, sc_L, rv_L, ia_L, la_L, sc_A, rv_A, la_A, ia_A, sc_B, rv_B, ia_B, la_B, sc_R, ia_R, la_R, rv_R, ia_w, la_w, rv_w, sc_w, if_true, if_false]; exact p.f
  · rw [p0.h] at c
    rw [if_pos c, if_pos c]
    exact re_i ⟨rfl, by simp (config := {decide := true}) only [sc_S, ia_S, la_S, rv_S, sc_I, rv_I, la_I, ia_I, sc_L, rv_L, ia_L, la_L, sc_A, rv_A, la_A, ia_A, sc_B, rv_B, ia_B, la_B, sc_R, ia_R, la_R, rv_R, ia_w, la_w, rv_w, sc_w, if_true, if_false], (Fc.refl σ).S, p0⟩
/-! the tape -/
def wr : (Int → Int) → Int → List Int → (Int → Int)
  | f, _, [] => f
  | f, n, x :: l => wr (up f n x) (n + 1) l
def by4 (v : Int) : List Int := [bAnd (bUshr v 24) 255, bAnd (bUshr v 16) 255, bAnd (bUshr v 8) 255, bAnd (bUshr v 0) 255]
def feedL (a b c e' f' : Int) : List Int := by4 a ++ by4 b ++ by4 c ++ by4 e' ++ by4 f'
def feedK (a b c e' f' j : Int) : Int := if 4 ≤ j then if 8 ≤ j then if 12 ≤ j then if 16 ≤ j then f' else e' else c else b else a
theorem feedL_drop (a b c e' f' : Int) {j : Int} (h : 0 ≤ j ∧ j < 20) : (feedL a b c e' f').drop j.toNat = bAnd (bUshr (feedK a b c e' f' j) (24 - (8 * (bRem j 4)))) 255 :: (feedL a b c e' f').drop (j + 1).toNat := by
  have hj : j.toNat < 20 := by omega
  have e : j = ((j.toNat : Nat) : Int) := by omega
  rw [e]
  generalize j.toNat = n at hj
  have h2 : n = 0 ∨ n = 1 ∨ n = 2 ∨ n = 3 ∨ n = 4 ∨ n = 5 ∨ n = 6 ∨ n = 7 ∨ n = 8 ∨ n = 9 ∨ n = 10 ∨ n = 11 ∨ n = 12 ∨ n = 13 ∨ n = 14 ∨ n = 15 ∨ n = 16 ∨ n = 17 ∨ n = 18 ∨ n = 19 := by omega
  rcases h2 with rfl | rfl | rfl | rfl | rfl | rfl | rfl | rfl | rfl | rfl | rfl | rfl | rfl | rfl | rfl | rfl | rfl | rfl | rfl | rfl <;> rfl
theorem e_feed {x1 x2 x3 x4 x5 : Int} (p : PS σ m k h tp tn f) (hn : 0 ≤ tn ∧ tn ≤ 400) (hS : SR σ) (h1 : iR x1) (h2 : iR x2) (h3 : iR x3) (h4 : iR x4) (h5 : iR x5) : EP g ad d mX11_feed [.ref (ad 102), vi x1, vi x2, vi x3, vi x4, vi x5] σ (if tn ≤ 380 then tn + 20 else -1) 0 m k h (if tn ≤ 380 then wr tp tn (feedL x1 x2 x3 x4 x5) else tp) (if tn ≤ 380 then tn + 20 else tn) f := by
  have p0 : PS (setS σ 102 0 0) m k h tp tn f := p.S rfl
  refine EbS rfl pl_X11 rfl rfl (bX11_feed_0 h1 h2 h3 h4 h5 hS ?_)
  intro _ _ _ _ _ hS0
  refine bX11_feed_5 h1 h2 h3 h4 h5 hS0 ?_
  rw [p0.tn]
  refine ⟨iR_of (by omega) (by omega), fun c => ?_, fun c => ?_⟩
  · rw [if_pos (by omega), if_pos (by omega), if_pos (by omega)]
    intros
    refine up_loop (P := fun j => ∀ τ t', SR τ → Fc σ τ → sc τ 102 0 = 0 → PS τ m k h t' (tn + j) f → wr t' (tn + j) ((feedL x1 x2 x3 x4 x5).drop j.toNat) = wr tp tn (feedL x1 x2 x3 x4 x5) → aX11_feed_23 g ad d (Ki fun r s => r = tn + 20 ∧ sc s 102 0 = 0 ∧ Fc σ s ∧ PS s m k h (wr tp tn (feedL x1 x2 x3 x4 x5)) (tn + 20) f) 0 0 τ x1 x2 x3 x4 x5 j) (hi := 20) 0 (by omega) ?_ ?_ _ tp hS0 (Fc.refl σ).S (by simp (config := {decide := true}) only [sc_S, ia_S, la_S, rv_S, sc_I, rv_I, la_I, ia_I, sc_L, rv_L, ia_L, la_L, sc_A, rv_A, la_A, ia_A, sc_B, rv_B, ia_B, la_B, sc_R, ia_R, la_R, rv_R, ia_w, la_w, rv_w, sc_w, if_true, if_false]) (by rw [Int.add_zero]; exact p0) (by rw [Int.add_zero]; rfl)
    · intro τ t' hSt hF e0 pt hv
      have hv' : t' = wr tp tn (feedL x1 x2 x3 x4 x5) := hv
      rw [hv'] at pt
      exact bX11_feed_23 h1 h2 h3 h4 h5 (iR_lit rfl) hSt ⟨fun _ => re_i ⟨pt.tn, e0, hF, pt⟩, fun q => absurd (by decide) q⟩
    · intro j hj0 hj1 ih τ t' hSt hF e0 pt hv
      have ij : iR j := iR_of (by omega) (by omega)
      rw [feedL_drop _ _ _ _ _ ⟨hj0, hj1⟩, wr] at hv
      have fin : ∀ v, iR v → feedK x1 x2 x3 x4 x5 j = v → SR (setS (setI τ 106 (tn + j) (bAnd (bUshr v (24 - (8 * (bRem j 4)))) 255)) 102 6 (tn + j + 1)) → aX11_feed_114 g ad d (Ki fun r s => r = tn + 20 ∧ sc s 102 0 = 0 ∧ Fc σ s ∧ PS s m k h (wr tp tn (feedL x1 x2 x3 x4 x5)) (tn + 20) f) 0 0 (setS (setI τ 106 (tn + j) (bAnd (bUshr v (24 - (8 * (bRem j 4)))) 255)) 102 6 (tn + j + 1)) x1 x2 x3 x4 x5 j v := by
        intro v iv hk hS'
        refine bX11_feed_114 h1 h2 h3 h4 h5 ij iv hS' ⟨iR_of (by omega) (by omega), fun _ _ _ _ _ _ _ => ?_⟩
        refine ih _ (up t' (tn + j) (bAnd (bUshr v (24 - (8 * (bRem j 4)))) 255)) hS' (hF.I rfl).S (by simp (config := {decide := true}) only [sc_S, ia_S, la_S, rv_S, sc_I, rv_I, la_I, ia_I, sc_L, rv_L, ia_L, la_L, sc_A, rv_A, la_A, ia_A, sc_B, rv_B, ia_B, la_B, sc_R, ia_R, la_R, rv_R, ia_w, la_w, rv_w, sc_w, if_true, if_false]; exact e0) ⟨?_, ?_, ?_, ?_, ?_, ?_, ?_⟩ ?_
        · simp (config := {decide := true}) only [sc_S, ia_S, la_S, rv_S, sc_I, rv_I, la_I, ia_I, sc_L, rv_L, ia_L, la_L, sc_A, rv_A, la_A, ia_A, sc_B, rv_B, ia_B, la_B, sc_R, ia_R, la_R, rv_R, ia_w, la_w, rv_w, sc_w, if_true, if_false]; exact pt.m
        · simp (config := {decide := true}) only [sc_S, ia_S, la_S, rv_S, sc_I, rv_I, la_I, ia_I, sc_L, rv_L, ia_L, la_L, sc_A, rv_A, la_A, ia_A, sc_B, rv_B, ia_B, la_B, sc_R, ia_R, la_R, rv_R, ia_w, la_w, rv_w, sc_w, if_true, if_false]; exact pt.k
        · simp (config := {decide := true}) only [sc_S, ia_S, la_S, rv_S, sc_I, rv_I, la_I, ia_I, sc_L, rv_L, ia_L, la_L, sc_A, rv_A, la_A, ia_A, sc_B, rv_B, ia_B, la_B, sc_R, ia_R, la_R, rv_R, ia_w, la_w, rv_w, sc_w, if_true, if_false]; exact pt.h
        · simp (config := {decide := true}) only [sc_S, ia_S, la_S, rv_S, sc_I, rv_I, la_I, ia_I, sc_L, rv_L, ia_L, la_L, sc_A, rv_A, la_A, ia_A, sc_B, rv_B, ia_B, la_B, sc_R, ia_R, la_R, rv_R, ia_w, la_w, rv_w, sc_w, if_true, if_false]; rw [pt.tp]
        · simp (config := {decide := true}) only [sc_S, ia_S, la_S, rv_S, sc_I, rv_I, la_I, ia_I, sc_L, rv_L, ia_L, la_L, sc_A, rv_A, la_A, ia_A, sc_B, rv_B, ia_B, la_B, sc_R, ia_R, la_R, rv_R, ia_w, la_w, rv_w, sc_w, if_true, if_false]; omega
        · simp (config := {decide := true}) only [sc_S, ia_S, la_S, rv_S, sc_I, rv_I, la_I, ia_I, sc_L, rv_L, ia_L, la_L, sc_A, rv_A, la_A, ia_A, sc_B, rv_B, ia_B, la_B, sc_R, ia_R, la_R, rv_R, ia_w, la_w, rv_w, sc_w, if_true, if_false]; exact pt.f
        · intro q
          simp (config := {decide := true}) only [sc_S, ia_S, la_S, rv_S, sc_I, rv_I, la_I, ia_I, sc_L, rv_L, ia_L, la_L, sc_A, rv_A, la_A, ia_A, sc_B, rv_B, ia_B, la_B, sc_R, ia_R, la_R, rv_R, ia_w, la_w, rv_w, sc_w, if_true, if_false] at q
          have := pt.li q
          simp (config := {decide := true}) only [sc_S, ia_S, la_S, rv_S, sc_I, rv_I, la_I, ia_I, sc_L, rv_L, ia_L, la_L, sc_A, rv_A, la_A, ia_A, sc_B, rv_B, ia_B, la_B, sc_R, ia_R, la_R, rv_R, ia_w, la_w, rv_w, sc_w, if_true, if_false]
          exact this
        · rw [← hv, hk, Int.add_assoc]
      refine bX11_feed_23 h1 h2 h3 h4 h5 ij hSt ⟨fun q => absurd q (by omega), fun _ => ?_⟩
      rw [pt.tn]
      simp (config := {decide := true}) only [sc_S, ia_S, la_S, rv_S, sc_I, rv_I, la_I, ia_I, sc_L, rv_L, ia_L, la_L, sc_A, rv_A, la_A, ia_A, sc_B, rv_B, ia_B, la_B, sc_R, ia_R, la_R, rv_R, ia_w, la_w, rv_w, sc_w, if_true, if_false]
      rw [pt.tn]
      refine ⟨fun c1 => ⟨fun c2 => ⟨fun c3 => ⟨fun c4 => ?_, fun c4 => ?_⟩, fun c3 => ?_⟩, fun c2 => ?_⟩, fun c1 => ?_⟩
      · exact ⟨⟨by omega, by omega⟩, iR_of (by omega) (by omega), fun _ _ _ _ _ _ iv hS' => fin x5 iv (by unfold feedK; rw [if_pos c1, if_pos c2, if_pos c3, if_pos c4]) hS'⟩
      · exact ⟨⟨by omega, by omega⟩, iR_of (by omega) (by omega), fun _ _ _ _ _ _ iv hS' => fin x4 iv (by unfold feedK; rw [if_pos c1, if_pos c2, if_pos c3, if_neg c4]) hS'⟩
      · exact ⟨⟨by omega, by omega⟩, iR_of (by omega) (by omega), fun _ _ _ _ _ _ iv hS' => fin x3 iv (by unfold feedK; rw [if_pos c1, if_pos c2, if_neg c3]) hS'⟩
      · exact ⟨⟨by omega, by omega⟩, iR_of (by omega) (by omega), fun _ _ _ _ _ _ iv hS' => fin x2 iv (by unfold feedK; rw [if_pos c1, if_neg c2]) hS'⟩
      · exact ⟨⟨by omega, by omega⟩, iR_of (by omega) (by omega), fun _ _ _ _ _ _ iv hS' => fin x1 iv (by unfold feedK; rw [if_neg c1]) hS'⟩
  · rw [if_neg (by omega), if_neg (by omega), if_neg (by omega)]
    exact re_i ⟨rfl, by simp (config := {decide := true}) only [sc_S, ia_S, la_S, rv_S, sc_I, rv_I, la_I, ia_I, sc_L, rv_L, ia_L, la_L, sc_A, rv_A, la_A, ia_A, sc_B, rv_B, ia_B, la_B, sc_R, ia_R, la_R, rv_R, ia_w, la_w, rv_w, sc_w, if_true, if_false], (Fc.refl σ).S, p0⟩
theorem e_end {x1 : Int} (p : PS σ m k h tp tn f) (hS : SR σ) (h1 : iR x1) (hd : 1 ≤ d) : EP g ad d mX11_end [.ref (ad 102), vi x1] σ (bi (0 ≤ x1 ∧ x1 ≤ tn)) 0 m k h tp (if 0 ≤ x1 ∧ x1 ≤ tn then x1 else tn) f := by
  have p0 : PS (setS σ 102 0 0) m k h tp tn f := p.S rfl
  have hS0 : SR (setS σ 102 0 0) := SR_setS hS (iR_lit rfl)
  have itn : iR tn := by rw [← p.tn]; exact SR_sc hS 102 6
  refine EbS rfl pl_X11 rfl rfl (bX11_end_0 h1 hS ?_)
  rw [p0.tn]
  refine EI.k (by apply e_isIn <;> (first | with_reducible assumption | with_reducible exact iR_of (by omega) (by omega) | omega | with_reducible (exact bi_01) | assumption)) (by omega) (fun _ _ => ?_)
  refine bi_nz (fun c => re_i ⟨?_, by simp (config := {decide := true}) only [sc_S, ia_S, la_S, rv_S, sc_I, rv_I, la_I, ia_I, sc_L, rv_L, ia_L, la_L, sc_A, rv_A, la_A, ia_A, sc_B, rv_B, ia_B, la_B, sc_R, ia_R, la_R, rv_R, ia_w, la_w, rv_w, sc_w, if_true, if_false], (Fc.refl σ).S.S, ?_⟩) (fun c => re_i ⟨?_, by simp (config := {decide := true}) only [sc_S, ia_S, la_S, rv_S, sc_I, rv_I, la_I, ia_I, sc_L, rv_L, ia_L, la_L, sc_A, rv_A, la_A, ia_A, sc_B, rv_B, ia_B, la_B, sc_R, ia_R, la_R, rv_R, ia_w, la_w, rv_w, sc_w, if_true, if_false], (Fc.refl σ).S, ?_⟩)
  · exact (bi_t c).symm
  · rw [if_pos c]
    refine ⟨p0.m, p0.k, ?_, p0.tp, by simp (config := {decide := true}) only [sc_S, ia_S, la_S, rv_S, sc_I, rv_I, la_I, ia_I, sc_L, rv_L, ia_L, la_L, sc_A, rv_A, la_A, ia_A, sc_B, rv_B, ia_B, la_B, sc_R, ia_R, la_R, rv_R, ia_w, la_w, rv_w, sc_w, if_true, if_false], ?_, ?_⟩
    · simp (config := {decide := true}) only [sc_S, ia_S, la_S, rv_S, sc_I, rv_I, la_I, ia_I, sc_L, rv_L, ia_L, la_L, sc_A, rv_A, la_A, ia_A, sc_B, rv_B, ia_B, la_B, sc_R, ia_R, la_R, rv_R, ia_w, la_w, rv_w, sc_w, if_true, if_false]; exact p.h
    · simp (config := {decide := true}) only [sc_S, ia_S, la_S, rv_S, sc_I, rv_I, la_I, ia_I, sc_L, rv_L, ia_L, la_L, sc_A, rv_A, la_A, ia_A, sc_B, rv_B, ia_B, la_B, sc_R, ia_R, la_R, rv_R, ia_w, la_w, rv_w, sc_w, if_true, if_false]; exact p.f
    · exact LI_S (by decide) p0.li
  · exact (bi_f c).symm
  · rw [if_neg c]
    exact p0
end PT
