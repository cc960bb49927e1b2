section NRW
variable {g : AG} {ad : Nat → Nat} {d : Nat} {σ : SG} {m m1 mi t : Int → Int} {k : Nat} {hi : Int}
theorem q_needed (h : CI σ m mi hi) (hS : SR σ) (hd : 9 ≤ d) : Eb g ad d mX10_needed 0 0 [.ref (ad 0)] σ (Ki fun r s => r = neededV m ∧ CI s m mi hi ∧ Qf σ s) := by
  have hW := h.gm.wf
  have hm1 := hW.1.2.1
  refine EbS rfl pl_X10 rfl rfl (bX10_needed_0 hS ?_)
  refine Cl.i (p_unfold (d := d - 1) (x := 0) h (by omega) hS (by omega)) (by omega) (fun r s1 hr1 hS1 h1 => ?_)
  obtain ⟨w0, hw0, hL0, he0⟩ := way0e hW
  rcases h1.1 with ⟨w, hw, _, hu, hL, _⟩ | ⟨hw, _⟩
  rotate_left
  · rw [hw0] at hw
    cases hw
  rw [hw0] at hw
  have ew := Option.some.inj hw
  subst ew
  refine Cl.i (p_unfolded (d := d - 1) (h1.2.1.op h1.2.2.1).1 hW hu hL hS1) (by omega) (fun b s2 hb2 hS2 h2 => ?_)
  obtain ⟨rfl, hUB⟩ := h2
  refine EI.k (n_cheapest (d := d - 1) h1.2.1 h1.2.2.2.1.1 hS1) (by omega) (fun ie _ _ _ _ _ hS3 => ?_)
  have hwz : ∀ p, 0 ≤ p → p < m 1 → ((bAnd (bShr b p) 1 = 0 → ¬ 0 < worthV m p) ∧ (¬ bAnd (bShr b p) 1 = 0 → 0 < placesOf m p ∧ worthV m p = exM (up m (369 + 10 * p + 9) 1) - exM m)) := fun p h0 h1' => by
    have hbit := hUB.2 p h0 (by omega)
    refine ⟨fun c => ?_, fun c => ?_⟩
    · have hno := hbit.mp c
      unfold worthV
      by_cases cg : of_ m p 9 = 1
      · rw [if_pos cg]; omega
      · rw [if_neg cg, wo_same hW ⟨h0, h1'⟩ hL he0 hno]
        omega
    · have hus : ∃ q ∈ w0.2, q.2 = p := Classical.byContradiction (fun z => c (hbit.mpr (fun q hq e => z ⟨q, hq, e⟩)))
      have hg := used_opt hW hL ⟨h0, h1'⟩ hus
      refine ⟨hg.2, ?_⟩
      unfold worthV
      rw [if_neg (by omega)]
  refine up_loop (P := fun x => 0 ≤ x → ∀ (τ : SG) (a : Int), SR τ → CI τ m mi hi → ¬ sc τ 0 12 = 0 → Qf σ τ → iR a → (ir x (m 1)).foldl (fun b p => if (decide (0 < placesOf m p) && decide (0 < worthV m p)) = true then bOr b (bShl 1 p) else b) a = neededV m → aX10_needed_24 g ad d (Ki fun r s => r = neededV m ∧ CI s m mi hi ∧ Qf σ s) 0 0 τ a b (exM m) x) (hi := m 1) 0 (by omega) ?_ ?_ (Int.le_refl _) s2 0 hS3 h1.2.1 h1.2.2.1 h1.2.2.2.2 (iR_lit rfl) rfl
  · intro _ τ a hSt hc h12 hq ia_ hv
    rw [ir_nil (Int.le_refl _)] at hv
    exact bX10_needed_24 ia_ hb2 ie (iR_of (by omega) (by omega)) hSt ⟨hc.isk, fun _ => re_i ⟨hv, hc, hq⟩, fun z => absurd (by rw [hc.rk.p]; exact Int.le_refl _) z⟩
  · intro x hx0 hx1 ih hxx τ a hSt hc h12 hq ia_ hv
    rw [ir_cons hx1, List.foldl_cons] at hv
    have i4 : iR (x + 1) := iR_of (by omega) (by omega)
    have hz := hwz x hx0 hx1
    refine bX10_needed_24 ia_ hb2 ie (iR_of (by omega) (by omega)) hSt ⟨hc.isk, fun z => absurd z (by rw [hc.rk.p]; omega), fun _ => ⟨fun c => ⟨i4, fun _ _ _ _ hS' => ih (by omega) τ a hS' hc h12 hq ia_ ?_⟩, fun c => ?_⟩⟩
    · rw [decide_eq_false (hz.1 c), Bool.and_false, if_neg (by decide)] at hv
      exact hv
    · have e6 : ia τ (rv τ 0 1 + 11) 2 = m 6 := hc.rk.st 2 (by omega) (by omega)
      have e7 : ia τ (rv τ 0 1 + 11) 3 = m 7 := hc.rk.st 3 (by omega) (by omega)
      rw [e6, e7]
      have hV := va_wo hW ⟨hx0, hx1⟩
      have f6 : (up m (369 + 10 * x + 9) 1) 6 = m 6 := up_ne (by omega)
      have f7 : (up m (369 + 10 * x + 9) 1) 7 = m 7 := up_ne (by omega)
      have hot := p_otherwise (g := g) (ad := ad) (d := d - 1) hc h12 hV (iR_of (by omega) (by omega)) hSt (by omega)
      rw [f6, f7] at hot
      have hz2 := hz.2 c
      rw [decide_eq_true hz2.1, Bool.true_and, hz2.2] at hv
      refine Cl.i hot (by omega) (fun r s4 hr4 hS4 h4 => ?_)
      rw [h4.1]
      refine ⟨fun c2 => ⟨i4, fun _ _ _ _ hS' => ih (by omega) s4 a hS' h4.2.2.1 h4.2.2.2.1 (hq.trans h4.2.2.2.2.1) ia_ ?_⟩, fun c2 => ⟨i4, fun ib _ _ _ hS' => ih (by omega) s4 _ hS' h4.2.2.1 h4.2.2.2.1 (hq.trans h4.2.2.2.2.1) ib ?_⟩⟩
      · rw [decide_eq_false (by omega), if_neg (by decide)] at hv
        exact hv
      · rw [decide_eq_true (by omega), if_pos rfl] at hv
        exact hv
theorem q_reach (h : CI σ m mi hi) (hS : SR σ) (hd : 9 ≤ d) : Eb g ad d mX10_reach 0 0 [.ref (ad 0)] σ (Ki fun r s => r = reachV m ∧ CI s m mi hi ∧ Qf σ s) := by
  have hW := h.gm.wf
  have h6 := hW.1.2.2.2.2.2.2.1
  refine EbS rfl pl_X10 rfl rfl (bX10_reach_0 hS ?_)
  refine Cl.vo (p_options (d := d - 1) h hS (by omega)) (by omega) (fun s1 hS1 h1 => ⟨h1.1.isk, ?_⟩)
  have e6 : ia s1 (rv s1 0 1 + 11) 2 = m 6 := h1.1.rk.st 2 (by omega) (by omega)
  rw [e6]
  have oth : ∀ (τ : SG) (n : Int), SR τ → CI τ m mi hi → ¬ sc τ 0 12 = 0 → (0 ≤ n ∧ n ≤ 6) → Eb g ad (d - 1) mX10_reckonOtherwise 0 0 [.ref (ad 0), vi (m 6), vi n, vi (-1)] τ (Ki fun r s => r = exM (up m 7 n) ∧ CI s m mi hi ∧ ¬ sc s 0 12 = 0 ∧ Qf τ s) := fun τ n hSt hc h12 hn => by
    have hot := p_otherwise (g := g) (ad := ad) (d := d - 1) hc h12 (va_up7 hW hn) (iR_lit rfl) hSt (by omega)
    have f6 : (up m 7 n) 6 = m 6 := up_ne (by omega)
    have f7 : (up m 7 n) 7 = n := up_at
    rw [f6, f7] at hot
    refine Eb.mono hot ?_
    rintro o s ⟨r, e, a1, a2, a3, _, a4, a5, a6, _⟩
    exact ⟨r, e, a1, a2, a3, a4, a5, a6⟩
  refine Cl.i (oth s1 6 hS1 h1.1 h1.2.1 (by omega)) (by omega) (fun r s3 hr3 hS3 h3 i6 _ _ hS3' => ?_)
  rw [h3.1] at hr3 ⊢
  have key : ∀ (n : Nat) (τ : SG) (x : Int), 0 ≤ x → x + n = 6 → SR τ → CI τ m mi hi → ¬ sc τ 0 12 = 0 → Qf σ τ → sea (fun n => decide (exM (up m 7 n) = exM (up m 7 6))) (n + 1) x = reachV m → aX10_reach_25 g ad d (Ki fun r s => r = reachV m ∧ CI s m mi hi ∧ Qf σ s) 0 0 τ (m 6) (exM (up m 7 6)) x := by
    intro n
    induction n with
    | zero =>
      intro τ x hx0 hxn hSt hc h12 hq hv
      have ex : x = 6 := by omega
      subst ex
      rw [sea, if_pos (decide_eq_true rfl)] at hv
      exact bX10_reach_25 i6 hr3 (iR_of (by omega) (by omega)) hSt ⟨fun _ => re_i ⟨hv, hc, hq⟩, fun z => absurd (Int.le_refl _) z⟩
    | succ n ih =>
      intro τ x hx0 hxn hSt hc h12 hq hv
      refine bX10_reach_25 i6 hr3 (iR_of (by omega) (by omega)) hSt ⟨fun z => absurd z (by omega), fun _ => ?_⟩
      refine Cl.i (oth τ x hSt hc h12 (by omega)) (by omega) (fun r s4 hr4 hS4 h4 => ?_)
      have hge := far_ge hW (n := x) (by omega)
      rw [sea] at hv
      rw [h4.1]
      refine ⟨fun c => re_i ⟨?_, h4.2.1, hq.trans h4.2.2.2⟩, fun c => ⟨iR_of (by omega) (by omega), fun _ _ _ hS' => ih s4 (x + 1) (by omega) (by omega) hS' h4.2.1 h4.2.2.1 (hq.trans h4.2.2.2) ?_⟩⟩
      · rw [if_pos (decide_eq_true (by omega))] at hv
        exact hv
      · rw [if_neg (fun z => by have := of_decide_eq_true z; omega)] at hv
        exact hv
  exact key 6 s3 0 (by omega) (by omega) hS3' h3.2.1 h3.2.2.1 (h1.2.2.1.trans h3.2.2.2) rfl
/-! WIDE does not change a stack of a given width -/
theorem v8_my (v : VA m m1 (-1)) (h7 : m1 7 = m 7) {x : Nd} {q : Op} (hq : q ∈ sr m 0) : myB m1 x q = myB m x q := by
  have hm := mem_sr.mp hq
  have hne : ¬ q.2 = -1 := fun z => by
    rcases hm.2 with y | y
    · omega
    · omega
  have ho : isOpt m1 q.2 q.1 = isOpt m q.2 q.1 := by rw [v.op q.1 q.2 hm.2 hm.1.1 hm.1.2, decide_eq_true hne, Bool.and_true]
  unfold myB mayB
  rw [h7, ho, va_msk v hm.2]
theorem v8_go (v : VA m m1 (-1)) (hW : WF m) (h6 : m1 6 = m 6) (h7 : m1 7 = m 7) (S : SK) (q : Int) : goS m1 S q = goS m S q := by
  unfold goS
  rw [va_sr v]
  refine foldl_cong _ _ (fun S p hp => ?_)
  have hm := mem_sr.mp hp
  have s1 := va_stp v hW (x := ndK q) hm.2 hm.1.1
  have s2 := va_stp (VA_id hW) hW (x := ndK q) hm.2 hm.1.1
  unfold goS1
  rw [v8_my v h7 hp, s1.1, s1.2, h6, ← s2.2]
theorem v8_cand (v : VA m m1 (-1)) (S : SK) (n : Int) : cand m1 S n = cand m S n := by
  unfold cand
  rw [va_full v]
theorem v8_rk (v : VA m m1 (-1)) (hW : WF m) (S : SK) : rkS m1 S = rkS m S := by
  funext q
  unfold rkS sco
  have e : ahM m1 (q / 294) = ahM m (q / 294) := va_ahF v hW _ 7 0 (Int.le_refl _)
  rw [e]
theorem v8_stk (v : VA m m1 (-1)) (hW : WF m) (h6 : m1 6 = m 6) (h7 : m1 7 = m 7) (w : Int) : ∀ j : Nat, stkN m1 w j = stkN m w j := by
  have eg : goS m1 = goS m := by
    funext S q
    exact v8_go v hW h6 h7 S q
  have et : ∀ (S : SK) (n : Int), topM m1 S n w = topM m S n w := fun S n => by
    unfold topM
    rw [v8_rk v hW, v8_cand v]
  have es : ∀ (R : SR_) (n : Int), stage m1 w R n = stage m w R n := fun R n => by
    unfold stage
    rw [et, eg, v8_cand v]
  intro j
  induction j with
  | zero =>
    unfold stkN
    rw [show ir 0 ((0 : Nat) : Int) = [] from ir_nil (by omega), List.foldl_nil, List.foldl_nil]
  | succ j ih =>
    have e : ((j + 1 : Nat) : Int) = (j : Int) + 1 := by omega
    rw [e, stkN_succ (by omega), stkN_succ (by omega), ih]
    exact es _ _
theorem v8_all (v : VA m m1 (-1)) (hW : WF m) (h6 : m1 6 = m 6) (h7 : m1 7 = m 7) (w : Int) : stkM m1 w = stkM m w ∧ ∀ S, fkM m1 S = fkM m S ∧ fcM m1 S = fcM m S := by
  have h3 := hW.1.2.2.2.1
  have e3 := (va_3 v).2.2.2.1
  refine ⟨?_, fun S => ?_⟩
  · unfold stkM
    rw [e3]
    have := v8_stk v hW h6 h7 w (m 3).toNat
    rw [show (((m 3).toNat : Nat) : Int) = m 3 by omega] at this
    exact this
  · have es : scF m1 S = scF m S := by
      funext q
      unfold scF
      rw [va_aft v hW.1]
    have er : rkF m1 S = rkF m S := by
      funext q
      unfold rkF
      rw [es]
    have ec : candF m1 S = candF m S := by
      unfold candF
      rw [va_full v]
    have ek : fkM m1 S = fkM m S := by
      unfold fkM
      rw [er, ec]
    refine ⟨ek, ?_⟩
    unfold fcM
    rw [ek, es]
theorem q_width (h : CI σ m mi hi) (hS : SR σ) (hd : 9 ≤ d) : Eb g ad d mX10_width 0 0 [.ref (ad 0)] σ (Ki fun r s => r = widthV m ∧ CI s m mi hi ∧ Qf σ s) := by
  have hW := h.gm.wf
  refine EbS rfl pl_X10 rfl rfl (bX10_width_0 hS ?_)
  refine Cl.vo (p_options (d := d - 1) h hS (by omega)) (by omega) (fun s1 hS1 h1 => ?_)
  refine Cl.vo (p_ways (d := d - 1) h1.1 h1.2.1 hS1 (by omega)) (by omega) (fun s2 hS2 h2 => ?_)
  refine EI.k (n_cheapest (d := d - 1) h2.1 h2.2.2.1 hS2) (by omega) (fun ie _ _ _ hS3 => ?_)
  have hex := (ex_s hW).2.2
  -- the stacks are filled anew, width by width
  have st0 : ∀ (s τ : SG), CI s m mi hi → ¬ sc s 0 12 = 0 → Fr (fun c => Fcl c ∨ c = 0) s τ → (∀ j, ¬ j = 14 → sc τ 0 j = sc s 0 j) → sc τ 0 14 = 0 → CI τ m mi hi ∧ ¬ sc τ 0 12 = 0 ∧ Qf s τ := fun s τ hc h12 hF h0 h14 => by
    have hq : Qf s τ := ⟨fun c j _ => by rw [hF.1], fun c hc0 hc' => hF.2 c (fun z => by
      rcases z with z | z
      · unfold Fcl at z; omega
      · exact hc0 z), fun j _ _ hj => h0 j hj⟩
    have hop := hc.op h12
    refine ⟨hc.q hq (hc.kc.fr hF (fun c hc' z => by unfold Fcl at hc'; unfold Kno at z; omega)) (fun _ => ⟨?_, hop.2.1.fr hF (fun c hc' z => by unfold Fcl at hc'; unfold Kno at z; omega), hop.2.2.fr hF (fun c hc' z => by unfold Fcl at hc'; omega)⟩) (fun z => ?_) (fun z => absurd h14 z), by rw [h0 12 (by decide)]; exact h12, hq⟩
    · rw [hq.rv01.1]
      exact hop.1.fr hF (fun c hc' z => by unfold Fcl at hc'; unfold Ocl at z; omega)
    · rw [h0 13 (by decide)] at z
      have hw := hc.wy z
      refine ⟨by rw [h0 12 (by decide)]; exact h12, ⟨?_, ?_, hw.2.1.2.2.fr hF (fun c hc' y => by unfold Fcl at hc'; unfold Kno at y; omega)⟩, hw.2.2.fr hF (fun c hc' => ⟨fun y => by unfold Fcl at hc'; unfold Wcl at y; omega, fun y => by unfold Fcl at hc'; unfold Kno at y; omega⟩)⟩
      · rw [hF.sc 58 6 (fun y => by unfold Fcl at y; omega)]
        exact hw.2.1.1
      · rw [hF.sc 58 7 (fun y => by unfold Fcl at y; omega)]
        exact hw.2.1.2.1
  have b0 := st0 s2 (setS s2 0 14 0) h2.1 h2.2.1 (Fr0.mono (fun c hc => Or.inr hc)) (fun j hj => by rw [sc_S, if_neg (fun z => hj z.2)]) (by simp (config := {decide := true}) only [sc_S, ia_S, la_S, rv_S, sc_I, rv_I, la_I, ia_I, sc_L, rv_L, ia_L, la_L, sc_A, rv_A, la_A, ia_A, sc_B, rv_B, ia_B, la_B, sc_R, ia_R, la_R, rv_R, ia_w, la_w, rv_w, sc_w, if_true, if_false])
  have key : ∀ (n : Nat) (τ : SG) (x : Int), 1 ≤ x → x + n = 41 → SR τ → CI τ m mi hi → ¬ sc τ 0 12 = 0 → sc τ 0 14 = 0 → Qf σ τ → sea (wdB m) n x = widthV m → aX10_width_23 g ad d (Ki fun r s => r = widthV m ∧ CI s m mi hi ∧ Qf σ s) 0 0 τ (exM m) x := by
    intro n
    induction n with
    | zero =>
      intro τ x hx0 hxn hSt hc h12 h14 hq hv
      rw [sea] at hv
      exact bX10_width_23 ie (iR_of (by omega) (by omega)) hSt ⟨fun _ => re_i ⟨hv, hc, hq⟩, fun z => absurd (by omega) z⟩
    | succ n ih =>
      intro τ x hx0 hxn hSt hc h12 h14 hq hv
      refine bX10_width_23 ie (iR_of (by omega) (by omega)) hSt ⟨fun z => absurd z (by omega), fun _ => ⟨hc.isk, ?_⟩⟩
      have e6 : ia τ (rv τ 0 1 + 11) 2 = m 6 := hc.rk.st 2 (by omega) (by omega)
      have e7 : ia τ (rv τ 0 1 + 11) 3 = m 7 := hc.rk.st 3 (by omega) (by omega)
      rw [e6, e7]
      refine Cl.vo (f_fill (d := d - 1) (w := x) hc.isk (hc.sb h12) hW (by omega) hSt (by omega)) (by omega) (fun s4 hS4 h4 => ?_)
      have z0 : ∀ j, sc s4 0 j = sc τ 0 j := fun j => h4.2.sc 0 j (fun z => by unfold Fcl at z; omega)
      have b4 := st0 τ s4 hc h12 (h4.2.mono (fun c hc => Or.inl hc)) (fun j _ => z0 j) (by rw [z0]; exact h14)
      have hv8 := va_upj (j := 8) (v := x) hW (by omega) (WF_up hW (by omega) ⟨fun _ => by omega, fun z => by omega, fun z => by omega, fun z => by omega⟩)
      have ha := v8_all hv8 hW (up_ne (by omega)) (up_ne (by omega)) x
      have hIS := (stkM_IS hW (w := x) (by omega)).1
      have hfc := fc_iff hW hIS
      have ewd : wdB m x = decide (fcM m (stkM m x).S = exM m) := by
        unfold wdB
        rw [ha.1, (ha.2 _).1, (ha.2 _).2]
        by_cases c : fcM m (stkM m x).S = exM m
        · rw [decide_eq_true c]
          refine decide_eq_true ⟨fun z => ?_, c⟩
          have := hfc.mpr z
          omega
        · rw [decide_eq_false c]
          exact decide_eq_false (fun z => c z.2)
      rw [sea, ewd] at hv
      rw [h4.1.fc]
      refine ⟨fun c => ⟨iR_of (by omega) (by omega), fun _ _ hS' => ih s4 (x + 1) (by omega) (by omega) hS' b4.1 b4.2.1 (by rw [z0]; exact h14) (hq.trans b4.2.2) ?_⟩, fun c => re_i ⟨?_, b4.1, hq.trans b4.2.2⟩⟩
      · rw [decide_eq_false c, if_neg (by decide)] at hv
        exact hv
      · rw [decide_eq_true c, if_pos rfl] at hv
        exact hv
  exact key 40 _ 1 (by omega) (by omega) hS3 b0.1 b0.2.1 (by simp (config := {decide := true}) only [sc_S, ia_S, la_S, rv_S, sc_I, rv_I, la_I, ia_I, sc_L, rv_L, ia_L, la_L, sc_A, rv_A, la_A, ia_A, sc_B, rv_B, ia_B, la_B, sc_R, ia_R, la_R, rv_R, ia_w, la_w, rv_w, sc_w, if_true, if_false]) ((h1.2.2.1.trans h2.2.2.2.1).trans b0.2.2) rfl
end NRW
