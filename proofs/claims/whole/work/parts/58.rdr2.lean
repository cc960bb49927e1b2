section RDR2
variable {g : AG} {ad : Nat → Nat} {d : Nat} {σ : SG} {m t : Int → Int} {k : Nat} {e f : Int} {new : Bool} {D : Nat → Prop}
theorem c_readNumber {most : Int} (h : CB t e k new σ f m) (hS : SR σ) (h1 : iR most) (hd : 1 ≤ d) : Eb g ad d mX6_readNumber 0 0 [.ref (ad 37), vi most] σ (Ki fun r s => (match pNum t e most (sc σ 37 15) m with
    | Except.error f1 => r = -1 ∧ CB t e k new s (fst1 f f1) m
    | Except.ok (v, p, m') => r = v ∧ (0 ≤ v ∧ v ≤ most) ∧ CB t e k new s f m' ∧ m' = m ∧ sc s 37 15 = p) ∧ Fy [] [2, 15] D σ s) := by
  have h0 := h.a0
  have ha1 := h.a1
  have heb := h.eb
  refine EbS rfl pl_X6 rfl rfl (bX6_readNumber_0 h1 hS ?_)
  intro _ ip _ _
  generalize hp : sc σ 37 15 = p at ip h0 ha1 ⊢
  have hsc := scn_b (b := dgt t) (e - p).toNat p ha1 (Nat.le_refl _)
  generalize hq : scn (dgt t) e p = q at hsc
  have fin : ∀ (v : Int) (τ : SG), τ = setS σ 37 15 q → SR τ → iR v → 0 ≤ v → (q - p ≤ 3 → v = numV t p q) → aX6_readNumber_87 g ad d (Ki fun r s => (match pNum t e most p m with
    | Except.error f1 => r = -1 ∧ CB t e k new s (fst1 f f1) m
    | Except.ok (v, p, m') => r = v ∧ (0 ≤ v ∧ v ≤ most) ∧ CB t e k new s f m' ∧ m' = m ∧ sc s 37 15 = p) ∧ Fy [] [2, 15] D σ s) 0 0 τ most p v := by
    intro v τ hτ hSt iv hv0 hv
    have e15 : sc τ 37 15 = q := by rw [hτ]; simp (config := {decide := true}) only [sc_S, ia_S, la_S, rv_S, sc_I, rv_I, la_I, ia_I, sc_L, rv_L, ia_L, la_L, sc_A, rv_A, la_A, ia_A, sc_B, rv_B, ia_B, la_B, sc_R, ia_R, la_R, rv_R, ia_w, la_w, rv_w, sc_w, if_true, if_false]
    have hC : CB t e k new τ f m := by rw [hτ]; exact h.at (by omega) (by omega)
    have hF : Fy [] [2, 15] D σ τ := by rw [hτ]; exact (Fy.refl σ).setS (by decide)
    have bad : pNum t e most p m = .bad p → ∀ x4, iR x4 → aX6_readNumber_111 g ad d (Ki fun r s => (match pNum t e most p m with
      | Except.error f1 => r = -1 ∧ CB t e k new s (fst1 f f1) m
      | Except.ok (v, p, m') => r = v ∧ (0 ≤ v ∧ v ≤ most) ∧ CB t e k new s f m' ∧ m' = m ∧ sc s 37 15 = p) ∧ Fy [] [2, 15] D σ s) 0 0 τ most p v x4 := by
      intro hb x4 i4
      refine bX6_readNumber_111 h1 ip iv i4 hSt ?_
      refine EV.k (c_fail (d := d - 1) ip hSt) (by omega) (fun _ => re_i ?_)
      rw [hb]
      exact ⟨⟨rfl, hC.fail h0⟩, failY hF (by decide)⟩
    refine bX6_readNumber_87 h1 ip iv hSt ?_
    rw [e15]
    refine ⟨iR_of (by omega) (by omega), fun c _ _ _ i4 _ => bad ?_ _ i4, fun c => ⟨fun c2 _ _ _ i4 _ => bad ?_ _ i4, fun c2 => ⟨fun c3 => ?_, fun c3 _ _ _ i4 _ => bad ?_ _ i4⟩⟩⟩
    · unfold pNum; rw [hq, if_pos (Or.inl c)]
    · unfold pNum; rw [hq, if_pos (Or.inr (Or.inl c2))]
    · have hv' := hv (by omega)
      have hok : pNum t e most p m = .ok v (skp t e q) m := by
        unfold pNum
        rw [hq, ← hv', if_neg (by omega)]
      refine EV.k (w_skip (d := d - 1) hC hSt) (by omega) (fun _ => re_i ?_)
      rw [hok, e15]
      refine ⟨⟨rfl, ⟨hv0, c3⟩, ?_, rfl, by simp (config := {decide := true}) only [sc_S, ia_S, la_S, rv_S, sc_I, rv_I, la_I, ia_I, sc_L, rv_L, ia_L, la_L, sc_A, rv_A, la_A, ia_A, sc_B, rv_B, ia_B, la_B, sc_R, ia_R, la_R, rv_R, ia_w, la_w, rv_w, sc_w, if_true, if_false]⟩, hF.setS (by decide)⟩
      have := hC.sk
      rw [e15] at this
      exact this
    · have hv' := hv (by omega)
      unfold pNum
      rw [hq, ← hv', if_pos (Or.inr (Or.inr (by omega)))]
  have key : ∀ (n : Nat) (a v : Int) (τ : SG), τ = setS σ 37 15 a → SR τ → p ≤ a → a + n = q → 0 ≤ v → (a - p ≤ 3 → v = numV t p a) → ((a = p → v = 0) ∧ (a ≤ p + 1 → v ≤ 9) ∧ (a ≤ p + 2 → v ≤ 99) ∧ v ≤ 999) → aX6_readNumber_7 g ad d (Ki fun r s => (match pNum t e most p m with
    | Except.error f1 => r = -1 ∧ CB t e k new s (fst1 f f1) m
    | Except.ok (v, p, m') => r = v ∧ (0 ≤ v ∧ v ≤ most) ∧ CB t e k new s f m' ∧ m' = m ∧ sc s 37 15 = p) ∧ Fy [] [2, 15] D σ s) 0 0 τ most p v := by
    intro n
    induction n with
    | zero =>
      intro a v τ hτ hSt hpa haq hv0 hv hvb
      have haq' : a = q := by omega
      subst haq'
      have e15 : sc τ 37 15 = a := by rw [hτ]; simp (config := {decide := true}) only [sc_S, ia_S, la_S, rv_S, sc_I, rv_I, la_I, ia_I, sc_L, rv_L, ia_L, la_L, sc_A, rv_A, la_A, ia_A, sc_B, rv_B, ia_B, la_B, sc_R, ia_R, la_R, rv_R, ia_w, la_w, rv_w, sc_w, if_true, if_false]
      have e1 : sc τ 37 1 = e := by rw [hτ]; simp (config := {decide := true}) only [sc_S, ia_S, la_S, rv_S, sc_I, rv_I, la_I, ia_I, sc_L, rv_L, ia_L, la_L, sc_A, rv_A, la_A, ia_A, sc_B, rv_B, ia_B, la_B, sc_R, ia_R, la_R, rv_R, ia_w, la_w, rv_w, sc_w, if_true, if_false]; exact h.en
      have e38 : ia τ 38 = t := by rw [hτ]; exact h.tp
      have iv : iR v := iR_of (by omega) (by omega)
      have ff := fin v τ hτ hSt iv hv0 hv
      refine bX6_readNumber_7 h1 ip iv hSt ?_
      rw [e1, e15, e38]
      refine ⟨fun _ _ _ _ _ => ff, fun c => ⟨⟨by omega, by omega⟩, fun c2 _ _ _ _ => ff, fun c2 => ⟨fun c3 _ _ _ _ => ff, fun c3 => ?_⟩⟩⟩
      exact absurd (decide_eq_true ⟨by omega, by omega⟩ : dgt t a = true) (hsc.2.2.1 (by omega))
    | succ n ih =>
      intro a v τ hτ hSt hpa haq hv0 hv hvb
      have e15 : sc τ 37 15 = a := by rw [hτ]; simp (config := {decide := true}) only [sc_S, ia_S, la_S, rv_S, sc_I, rv_I, la_I, ia_I, sc_L, rv_L, ia_L, la_L, sc_A, rv_A, la_A, ia_A, sc_B, rv_B, ia_B, la_B, sc_R, ia_R, la_R, rv_R, ia_w, la_w, rv_w, sc_w, if_true, if_false]
      have e1 : sc τ 37 1 = e := by rw [hτ]; simp (config := {decide := true}) only [sc_S, ia_S, la_S, rv_S, sc_I, rv_I, la_I, ia_I, sc_L, rv_L, ia_L, la_L, sc_A, rv_A, la_A, ia_A, sc_B, rv_B, ia_B, la_B, sc_R, ia_R, la_R, rv_R, ia_w, la_w, rv_w, sc_w, if_true, if_false]; exact h.en
      have e38 : ia τ 38 = t := by rw [hτ]; exact h.tp
      have iv : iR v := iR_of (by omega) (by omega)
      have hdg : 48 ≤ t a ∧ t a ≤ 57 := of_decide_eq_true (hsc.2.2.2 a hpa (by omega))
      refine bX6_readNumber_7 h1 ip iv hSt ?_
      rw [e1, e15, e38]
      refine ⟨fun c => absurd c (by omega), fun c => ⟨⟨by omega, by omega⟩, fun c2 => absurd c2 (by omega), fun c2 => ⟨fun c3 => absurd c3 (by omega), fun c3 => ⟨iR_of (by omega) (by omega), fun c4 _ _ _ _ => ?_, fun c4 => ⟨iR_of (by omega) (by omega), fun _ _ iv' _ => ?_⟩⟩⟩⟩⟩
      · refine bX6_readNumber_74 h1 ip iv hSt ?_
        rw [e15]
        refine ⟨iR_of (by omega) (by omega), fun _ _ _ hS' => ih (a + 1) v _ (by rw [hτ, setS_S]) hS' (by omega) (by omega) hv0 (fun z => by omega) (by omega)⟩
      · refine bX6_readNumber_74 h1 ip iv' hSt ?_
        rw [e15]
        refine ⟨iR_of (by omega) (by omega), fun _ _ _ hS' => ih (a + 1) _ _ (by rw [hτ, setS_S]) hS' (by omega) (by omega) (by omega) (fun z => ?_) (by omega)⟩
        rw [numV_snoc hpa, ← hv (by omega)]
        omega
  exact key (q - p).toNat p 0 σ (by rw [← hp, setS_self]) hS (Int.le_refl _) (by omega) (Int.le_refl _) (fun _ => by unfold numV; rw [ir_nil (Int.le_refl _)]; rfl) (by omega)
/-- a word as the class has it: none for a strange one -/
def cw (w : Int) : Int := if w = -2 then -1 else w
theorem c_readWord (h : CB t e k new σ f m) (hS : SR σ) (hd : 3 ≤ d) : Eb g ad d mX6_readWord 0 0 [.ref (ad 37)] σ (Ki fun r s => (match pWord t e new (sc σ 37 15) m with
    | Except.error f1 => r = -1 ∧ CB t e k new s (fst1 f f1) m
    | Except.ok (w, p, m') => r = cw w ∧ CB t e k new s f m' ∧ sc s 37 15 = p) ∧ Fy [] [2, 15] (Dk new k) σ s) := by
  have h0 := h.a0
  have ha1 := h.a1
  have heb := h.eb
  refine EbS rfl pl_X6 rfl rfl (bX6_readWord_0 hS ?_)
  intro ip _
  generalize hp : sc σ 37 15 = p at ip h0 ha1 ⊢
  have hsc := scn_b (b := ltr t) (e - p).toNat p ha1 (Nat.le_refl _)
  generalize hq : scn (ltr t) e p = q at hsc
  have fin : ∀ (τ : SG), τ = setS σ 37 15 q → SR τ → aX6_readWord_36 g ad d (Ki fun r s => (match pWord t e new p m with
    | Except.error f1 => r = -1 ∧ CB t e k new s (fst1 f f1) m
    | Except.ok (w, p, m') => r = cw w ∧ CB t e k new s f m' ∧ sc s 37 15 = p) ∧ Fy [] [2, 15] (Dk new k) σ s) 0 0 τ p := by
    intro τ hτ hSt
    have e15 : sc τ 37 15 = q := by rw [hτ]; simp (config := {decide := true}) only [sc_S, ia_S, la_S, rv_S, sc_I, rv_I, la_I, ia_I, sc_L, rv_L, ia_L, la_L, sc_A, rv_A, la_A, ia_A, sc_B, rv_B, ia_B, la_B, sc_R, ia_R, la_R, rv_R, ia_w, la_w, rv_w, sc_w, if_true, if_false]
    have hC : CB t e k new τ f m := by rw [hτ]; exact h.at (by omega) (by omega)
    have hF : Fy [] [2, 15] (Dk new k) σ τ := by rw [hτ]; exact (Fy.refl σ).setS (by decide)
    have bad : pWord t e new p m = .bad p → ∀ x2, iR x2 → aX6_readWord_53 g ad d (Ki fun r s => (match pWord t e new p m with
      | Except.error f1 => r = -1 ∧ CB t e k new s (fst1 f f1) m
      | Except.ok (w, p, m') => r = cw w ∧ CB t e k new s f m' ∧ sc s 37 15 = p) ∧ Fy [] [2, 15] (Dk new k) σ s) 0 0 τ p x2 := by
      intro hb x2 i2
      refine bX6_readWord_53 ip i2 hSt ?_
      refine EV.k (c_fail (d := d - 1) ip hSt) (by omega) (fun _ => re_i ?_)
      rw [hb]
      exact ⟨⟨rfl, hC.fail h0⟩, failY hF (by decide)⟩
    refine bX6_readWord_36 ip hSt ?_
    rw [e15]
    refine ⟨iR_of (by omega) (by omega), fun c _ i2 _ => bad ?_ _ i2, fun c => ⟨fun c2 => ?_, fun c2 _ i2 _ => bad ?_ _ i2⟩⟩
    · unfold pWord; rw [hq, if_pos (Or.inl c)]
    · have hpw : pWord t e new p m = if ¬ findW m t p (q - p) = -1 then .ok (findW m t p (q - p)) (skp t e q) m else if new = false then .ok (-2) (skp t e q) m else if m 0 = 40 then .bad p else .ok (m 0) (skp t e q) (addW m t p (q - p)) := by
        unfold pWord
        rw [hq, if_neg (by omega)]
      have hsk := scn_le (b := blk t) (e := e) (p := q) (by omega)
      refine EV.k (w_skip (d := d - 1) hC hSt) (by omega) (fun hS2 => ?_)
      rw [e15] at hS2 ⊢
      have hC2 : CB t e k new (setS τ 37 15 (skp t e q)) f m := by
        have := hC.sk
        rw [e15] at this
        exact this
      have hF2 : Fy [] [2, 15] (Dk new k) σ (setS τ 37 15 (skp t e q)) := hF.setS (by decide)
      have h00 := hC2.gm.wf.1.1
      rw [hC2.dk]
      refine ⟨hC2.ik, ?_⟩
      have hfb := findW_b (t := t) (p := p) (n := q - p) h00.1
      refine EI.k (k_findWord (d := d - 1) hC2.ik hC2.rk hC2.gm.wf.1 hC2.gm.wl hC2.tp (by omega) (by omega) hS2 (by omega)) (by omega) (fun hr4 _ => ⟨fun c4 _ _ _ _ => ?_, fun c4 => ⟨fun c5 => ?_, fun c5 _ _ _ _ => ?_⟩⟩)
      · refine bX6_readWord_90 ip (iR_of (by omega) (by omega)) hr4 hS2 (re_i ?_)
        rw [hpw, if_pos c4]
        refine ⟨⟨?_, hC2, by simp (config := {decide := true}) only [sc_S, ia_S, la_S, rv_S, sc_I, rv_I, la_I, ia_I, sc_L, rv_L, ia_L, la_L, sc_A, rv_A, la_A, ia_A, sc_B, rv_B, ia_B, la_B, sc_R, ia_R, la_R, rv_R, ia_w, la_w, rv_w, sc_w, if_true, if_false]⟩, hF2⟩
        unfold cw
        rw [if_neg (by omega)]
      · rw [hC2.gr] at c5
        have hn : new = true := by
          by_cases z : new = true
          · exact z
          · rw [if_neg z] at c5; exact absurd rfl c5
        rw [hC2.dk, hC2.rk.w]
        refine ⟨hC2.ik, fun c6 => ?_, fun c6 => ?_⟩
        · refine Cl.i (k_addWord (d := d - 1) hC2.ik hC2.rk hC2.gm.wf hC2.gm.wl c6 hC2.tp (by omega) (by omega) hS2 (by omega)) (by omega) (fun r s hr hs hh => re_i ?_)
          obtain ⟨hr0, hRs, hFs⟩ := hh
          have hga := hC2.gm.addW (t := t) (p := p) (n := q - p) c6 (by omega)
          have hk' : k = 1 ∨ k = 13 ∨ k = 25 := hC2.ik
          have n37 : ∀ c, 37 ≤ c → ¬ Kcl k c := fun c hc z => by have := z.2; omega
          rw [hpw, if_neg (fun z => z c4), if_neg (by rw [hn]; decide), if_neg (by omega)]
          refine ⟨⟨?_, ⟨?_, hC2.tb, ?_, hC2.eb, ?_, ?_, ?_, ?_, ?_, hC2.fb, hRs, hga.1, hC2.ik⟩, ?_⟩, hF2.trans (Fry hFs hn)⟩
          · unfold cw
            rw [if_neg (by omega)]
            exact hr0
          · rw [hFs.ia 38 (n37 38 (by omega))]; exact hC2.tp
          · rw [hFs.sc 37 1 (n37 37 (by omega))]; exact hC2.en
          · rw [hFs.sc 37 15 (n37 37 (by omega))]; exact hC2.a0
          · rw [hFs.sc 37 15 (n37 37 (by omega))]; exact hC2.a1
          · rw [hFs.1]; exact hC2.dk
          · rw [hFs.sc 37 17 (n37 37 (by omega))]; exact hC2.gr
          · rw [hFs.sc 37 2 (n37 37 (by omega))]; exact hC2.fa
          · rw [hFs.sc 37 15 (n37 37 (by omega))]; simp (config := {decide := true}) only [sc_S, ia_S, la_S, rv_S, sc_I, rv_I, la_I, ia_I, sc_L, rv_L, ia_L, la_L, sc_A, rv_A, la_A, ia_A, sc_B, rv_B, ia_B, la_B, sc_R, ia_R, la_R, rv_R, ia_w, la_w, rv_w, sc_w, if_true, if_false]
        · have he : m 0 = 40 := by omega
          refine EV.k (c_fail (d := d - 1) ip hS2) (by omega) (fun _ => re_i ?_)
          rw [hpw, if_neg (fun z => z c4), if_neg (by rw [hn]; decide), if_pos he]
          exact ⟨⟨rfl, hC2.fail h0⟩, failY hF2 (by decide)⟩
      · rw [hC2.gr] at c5
        have hn : new = false := by
          by_cases z : new = true
          · rw [if_pos z] at c5; exact absurd c5 (by decide)
          · exact Bool.eq_false_iff.mpr z
        refine bX6_readWord_90 ip (iR_of (by omega) (by omega)) hr4 hS2 (re_i ?_)
        rw [hpw, if_neg (fun z => z c4), if_pos hn]
        exact ⟨⟨by rw [c4]; rfl, hC2, by simp (config := {decide := true}) only [sc_S, ia_S, la_S, rv_S, sc_I, rv_I, la_I, ia_I, sc_L, rv_L, ia_L, la_L, sc_A, rv_A, la_A, ia_A, sc_B, rv_B, ia_B, la_B, sc_R, ia_R, la_R, rv_R, ia_w, la_w, rv_w, sc_w, if_true, if_false]⟩, hF2⟩
    · unfold pWord; rw [hq, if_pos (Or.inr (by omega))]
  have key : ∀ (n : Nat) (a : Int) (τ : SG), τ = setS σ 37 15 a → SR τ → p ≤ a → a + n = q → aX6_readWord_5 g ad d (Ki fun r s => (match pWord t e new p m with
    | Except.error f1 => r = -1 ∧ CB t e k new s (fst1 f f1) m
    | Except.ok (w, p, m') => r = cw w ∧ CB t e k new s f m' ∧ sc s 37 15 = p) ∧ Fy [] [2, 15] (Dk new k) σ s) 0 0 τ p := by
    intro n
    induction n with
    | zero =>
      intro a τ hτ hSt hpa haq
      have haq' : a = q := by omega
      subst haq'
      have e15 : sc τ 37 15 = a := by rw [hτ]; simp (config := {decide := true}) only [sc_S, ia_S, la_S, rv_S, sc_I, rv_I, la_I, ia_I, sc_L, rv_L, ia_L, la_L, sc_A, rv_A, la_A, ia_A, sc_B, rv_B, ia_B, la_B, sc_R, ia_R, la_R, rv_R, ia_w, la_w, rv_w, sc_w, if_true, if_false]
      have e1 : sc τ 37 1 = e := by rw [hτ]; simp (config := {decide := true}) only [sc_S, ia_S, la_S, rv_S, sc_I, rv_I, la_I, ia_I, sc_L, rv_L, ia_L, la_L, sc_A, rv_A, la_A, ia_A, sc_B, rv_B, ia_B, la_B, sc_R, ia_R, la_R, rv_R, ia_w, la_w, rv_w, sc_w, if_true, if_false]; exact h.en
      have hC : CB t e k new τ f m := by rw [hτ]; exact h.at (by omega) (by omega)
      have ff := fin τ hτ hSt
      refine bX6_readWord_5 ip hSt ⟨fun _ _ _ => ff, fun c => ?_⟩
      refine EI.k (c_atLetter (d := d - 1) hC hSt) (by omega) (fun _ _ => bi_zn (fun c2 => ?_) (fun c2 _ _ => ff))
      rw [e15] at c2
      exact absurd c2.2 (hsc.2.2.1 c2.1)
    | succ n ih =>
      intro a τ hτ hSt hpa haq
      have e15 : sc τ 37 15 = a := by rw [hτ]; simp (config := {decide := true}) only [sc_S, ia_S, la_S, rv_S, sc_I, rv_I, la_I, ia_I, sc_L, rv_L, ia_L, la_L, sc_A, rv_A, la_A, ia_A, sc_B, rv_B, ia_B, la_B, sc_R, ia_R, la_R, rv_R, ia_w, la_w, rv_w, sc_w, if_true, if_false]
      have e1 : sc τ 37 1 = e := by rw [hτ]; simp (config := {decide := true}) only [sc_S, ia_S, la_S, rv_S, sc_I, rv_I, la_I, ia_I, sc_L, rv_L, ia_L, la_L, sc_A, rv_A, la_A, ia_A, sc_B, rv_B, ia_B, la_B, sc_R, ia_R, la_R, rv_R, ia_w, la_w, rv_w, sc_w, if_true, if_false]; exact h.en
      have hC : CB t e k new τ f m := by rw [hτ]; exact h.at (by omega) (by omega)
      refine bX6_readWord_5 ip hSt ⟨fun c => absurd c (by rw [e1, e15]; omega), fun c => ?_⟩
      refine EI.k (c_atLetter (d := d - 1) hC hSt) (by omega) (fun _ _ => bi_zn (fun c2 => ?_) (fun c2 => ?_))
      · rw [e15]
        exact ⟨iR_of (by omega) (by omega), fun _ hS' => ih (a + 1) _ (by rw [hτ, setS_S]) hS' (by omega) (by omega)⟩
      · rw [e15] at c2
        exact absurd ⟨by omega, hsc.2.2.2 a hpa (by omega)⟩ c2
  exact key (q - p).toNat p σ (by rw [← hp, setS_self]) hS (Int.le_refl _) (by omega)
/-- reading goes on at p, with m -/
def CP (t : Int → Int) (e : Int) (k : Nat) (new : Bool) (s : SG) (p : Int) (m : Int → Int) : Prop := CB t e k new s (-1) m ∧ sc s 37 15 = p
/-- how reading goes -/
def CX {α : Type} (t : Int → Int) (e : Int) (k : Nat) (new : Bool) (s : SG) (x : PR α) (V : α → Prop) : Prop := match x with
  | Except.error f => (∃ m, CB t e k new s f m) ∧ 0 ≤ f
  | Except.ok (a, p, m) => CP t e k new s p m ∧ V a
theorem pWord_bad {p f1 : Int} (h0 : 0 ≤ p) (hx : pWord t e new p m = .bad f1) : 0 ≤ f1 := by
  unfold pWord at hx
  split at hx
  · cases hx; exact h0
  · split at hx
    · cases hx
    · split at hx
      · cases hx
      · split at hx
        · cases hx; exact h0
        · cases hx
theorem pNum_bad {most p f1 : Int} (h0 : 0 ≤ p) (hx : pNum t e most p m = .bad f1) : 0 ≤ f1 := by
  unfold pNum at hx
  split at hx
  · cases hx; exact h0
  · cases hx
theorem pSign_bad {c p f1 : Int} (h0 : 0 ≤ p) (hx : pSign t e c p m = .bad f1) : 0 ≤ f1 := by
  unfold pSign at hx
  split at hx
  · cases hx
  · cases hx; exact h0
theorem c_readWords {p x2 most : Int} {c1 n1 : Nat} (hc1 : aI c1 n1) (h39 : 39 ≤ c1 ∧ c1 ≤ 47) (h : CP t e k new σ p m) (h2 : 0 ≤ x2 ∧ x2 + most ≤ n1) (hn1 : (n1 : Int) < 1000) (hm : 0 ≤ most ∧ most ≤ 18) (hS : SR σ) (hd : 4 ≤ d) : Eb g ad d mX6_readWords 0 0 [.ref (ad 37), .ref (ad c1), vi x2, vi most] σ (Ki fun r s => CX t e k new s (pWs t e new most p m) (fun l => r = (l.length : Int) ∧ hl (ia s c1) x2 (l.map cw) ∧ (l.length : Int) ≤ most) ∧ Fy [c1] [2, 15] (Dk new k) σ s ∧ Sm (ia σ c1) (ia s c1) x2 (x2 + most) ∧ (0 ≤ r ∧ r ≤ most)) := by
  have i2 : iR x2 := iR_of (by omega) (by omega)
  have i3 : iR most := iR_of (by omega) (by omega)
  have hik := h.1.ik
  refine EbS rfl pl_X6 rfl rfl (bX6_readWords_0 hc1 i2 i3 hS ?_)
  intro _ _ _ _
  have key : ∀ (n : Nat) (τ : SG) (l : List Int) (p' : Int) (m' : Int → Int), (l.length : Int) + n = most + 1 → SR τ → CP t e k new τ p' m' → hl (ia τ c1) x2 (l.map cw) → (l.length : Int) ≤ most → Fy [c1] [2, 15] (Dk new k) σ τ → Sm (ia σ c1) (ia τ c1) x2 (x2 + most) → pWords t e new most n l p' m' = pWs t e new most p m → aX6_readWords_3 g ad d (Ki fun r s => CX t e k new s (pWs t e new most p m) (fun l => r = (l.length : Int) ∧ hl (ia s c1) x2 (l.map cw) ∧ (l.length : Int) ≤ most) ∧ Fy [c1] [2, 15] (Dk new k) σ s ∧ Sm (ia σ c1) (ia s c1) x2 (x2 + most) ∧ (0 ≤ r ∧ r ≤ most)) 0 0 τ x2 most l.length c1 := by
    intro n
    induction n with
    | zero => intro τ l p' m' h1; omega
    | succ n ih =>
      intro τ l p' m' hln hSt hCP hhl hlm hF hSm hv
      obtain ⟨hC, e15⟩ := hCP
      have h0 := hC.a0
      have il : iR (l.length : Int) := iR_of (by omega) (by omega)
      rw [pWords] at hv
      have eR : bi (sc τ 37 2 = -1) = 1 := bi_t hC.fa
      by_cases cl1 : p' < e ∧ ltr t p' = true
      · rw [if_neg (fun q => q cl1)] at hv
        have eL : bi (sc τ 37 15 < e ∧ ltr t (sc τ 37 15) = true) = 1 := bi_t (by rw [e15]; exact cl1)
        by_cases c2 : (l.length : Int) = most
        · rw [if_pos c2] at hv
          refine bX6_readWords_3 hc1 i2 i3 il hSt ⟨fun _ => ?_, fun z => absurd (by omega) z⟩
          refine EI.k (c_atLetter (d := d - 1) hC hSt) (by omega) (fun _ _ => ?_)
          rw [eL]
          refine ⟨fun z => absurd z (by decide), fun _ => ?_⟩
          refine EV.k (c_fail (d := d - 1) (SR_sc hSt 37 15) hSt) (by omega) (fun _ => re_i ⟨?_, failY hF (by decide), ?_, by omega⟩)
          · rw [← hv]
            have := hC.fail h0
            rw [show fst1 (-1) (sc τ 37 15) = sc τ 37 15 from if_pos rfl] at this
            refine ⟨⟨m', ?_⟩, by rw [← e15]; exact h0⟩
            rw [← e15]
            exact this
          · split
            · exact hSm
            · exact hSm
        · rw [if_neg c2] at hv
          refine bX6_readWords_3 hc1 i2 i3 il hSt ⟨fun z => absurd z (by omega), fun _ => ?_⟩
          refine EI.k (c_isRight (d := d - 1) hSt) (by omega) (fun _ _ => ?_)
          rw [eR]
          refine ⟨fun z => absurd z (by decide), fun _ => ?_⟩
          refine EI.k (c_atLetter (d := d - 1) hC hSt) (by omega) (fun _ _ => ?_)
          rw [eL]
          refine ⟨fun z => absurd z (by decide), fun _ => ?_⟩
          refine Cl.i (c_readWord (d := d - 1) hC hSt (by omega)) (by omega) (fun r9 s9 hr9 hS9 h9 => ⟨⟨by omega, by omega⟩, iR_of (by omega) (by omega), fun _ _ il1 hS10 => ?_⟩)
          obtain ⟨hX9, hF9⟩ := h9
          rw [e15] at hX9
          have hF9' : Fy [c1] [2, 15] (Dk new k) σ (setI s9 c1 (x2 + l.length) r9) := (hF.trans (hF9.mono (fun c hc => by cases hc) (by decide))).setI (List.mem_singleton.mpr rfl)
          have ec1 : ia s9 c1 = ia τ c1 := hF9.a hik c1 (by omega) (fun z => by cases z)
          cases hpw : pWord t e new p' m' with
          | error f1 =>
            rw [hpw] at hX9 hv
            have hf1 : 0 ≤ f1 := pWord_bad (by rw [← e15]; exact h0) hpw
            have hC9 : CB t e k new s9 f1 m' := hX9.2
            have hC10 : CB t e k new (setI s9 c1 (x2 + l.length) r9) f1 m' := hC9.I h39.1
            have hbad : pWs t e new most p m = .bad f1 := hv.symm
            have eR2 : bi (sc (setI s9 c1 (x2 + l.length) r9) 37 2 = -1) = 0 := bi_f (by rw [hC10.fa]; omega)
            -- it ends
            have stop : ∀ K : AO → SG → Prop, (∀ s, SR s → CB t e k new s f1 m' → ia s c1 = ia (setI s9 c1 (x2 + l.length) r9) c1 → Fy [c1] [2, 15] (Dk new k) σ s → K (.inl (some (vi ((l.length : Int) + 1)))) s) → Cl g ad d mX6_atLetter 0 0 [.ref (ad 37)] (setI s9 c1 (x2 + l.length) r9) (Ki fun r1 s1 => ((r1 = 0 → (iR ((l.length : Int) + 1) → SR s1 → K (.inl (some (vi ((l.length : Int) + 1)))) s1)) ∧ (¬ r1 = 0 → Cl g ad d mX6_fail 0 0 [.ref (ad 37), vi (sc s1 37 15)] s1 (Kv fun s2 => (iR ((l.length : Int) + 1) → SR s2 → K (.inl (some (vi ((l.length : Int) + 1)))) s2))))) := by
              intro K hK
              refine EI.k (c_atLetter (d := d - 1) hC10 hS10) (by omega) (fun _ _ => ⟨fun _ _ hs => hK _ hs hC10 rfl hF9', fun _ => ?_⟩)
              refine EV.k (c_fail (d := d - 1) (SR_sc hS10 37 15) hS10) (by omega) (fun _ _ hs => ?_)
              rw [if_neg (by rw [hC10.fa]; omega)] at hs ⊢
              exact hK _ hs hC10 rfl hF9'
            have fin : ∀ s, SR s → CB t e k new s f1 m' → ia s c1 = ia (setI s9 c1 (x2 + l.length) r9) c1 → Fy [c1] [2, 15] (Dk new k) σ s → (Ki fun r s => CX t e k new s (pWs t e new most p m) (fun l => r = (l.length : Int) ∧ hl (ia s c1) x2 (l.map cw) ∧ (l.length : Int) ≤ most) ∧ Fy [c1] [2, 15] (Dk new k) σ s ∧ Sm (ia σ c1) (ia s c1) x2 (x2 + most) ∧ (0 ≤ r ∧ r ≤ most)) (.inl (some (vi ((l.length : Int) + 1)))) s := by
              intro s hs hCs ecs hFs
              refine ⟨_, rfl, il1, hs, ?_, hFs, ?_, by omega⟩
              · rw [hbad]
                exact ⟨⟨m', hCs⟩, hf1⟩
              · rw [ecs, ia_I, if_pos rfl, ec1]
                exact hSm.up (by omega)
            refine bX6_readWords_3 hc1 i2 i3 il1 hS10 ⟨fun _ => stop _ fin, fun _ => ?_⟩
            refine EI.k (c_isRight (d := d - 1) hS10) (by omega) (fun _ _ => ?_)
            rw [eR2]
            exact ⟨fun _ => stop _ fin, fun z => absurd rfl z⟩
          | ok rr_ =>
            obtain ⟨w, p2, m2⟩ := rr_
            rw [hpw] at hX9 hv
            obtain ⟨hr9', hC9, e15'⟩ := hX9
            have e1 : ((l ++ [w]).length : Int) = (l.length : Int) + 1 := by rw [List.length_append, List.length_singleton]; omega
            have := ih (setI s9 c1 (x2 + l.length) r9) (l ++ [w]) p2 m2 (by omega) hS10 ⟨hC9.I h39.1, e15'⟩ ?_ (by omega) hF9' ?_ hv
            · rw [e1] at this
              exact this
            · have hsn := hl_snoc (v := cw w) hhl
              rw [List.length_map] at hsn
              rw [ia_I, if_pos rfl, ec1, hr9', List.map_append]
              exact hsn
            · rw [ia_I, if_pos rfl, ec1]
              exact hSm.up (by omega)
      · rw [if_pos cl1] at hv
        have eL : bi (sc τ 37 15 < e ∧ ltr t (sc τ 37 15) = true) = 0 := bi_f (by rw [e15]; exact cl1)
        have fin : (Ki fun r s => CX t e k new s (pWs t e new most p m) (fun l => r = (l.length : Int) ∧ hl (ia s c1) x2 (l.map cw) ∧ (l.length : Int) ≤ most) ∧ Fy [c1] [2, 15] (Dk new k) σ s ∧ Sm (ia σ c1) (ia s c1) x2 (x2 + most) ∧ (0 ≤ r ∧ r ≤ most)) (.inl (some (vi (l.length : Int)))) τ := by
          refine ⟨_, rfl, il, hSt, ?_, hF, hSm, by omega⟩
          rw [← hv]
          exact ⟨⟨hC, e15⟩, rfl, hhl, hlm⟩
        refine bX6_readWords_3 hc1 i2 i3 il hSt ⟨fun _ => ?_, fun _ => ?_⟩
        · refine EI.k (c_atLetter (d := d - 1) hC hSt) (by omega) (fun _ _ => ?_)
          rw [eL]
          exact ⟨fun _ _ _ => fin, fun z => absurd rfl z⟩
        · refine EI.k (c_isRight (d := d - 1) hSt) (by omega) (fun _ _ => ?_)
          rw [eR]
          refine ⟨fun z => absurd z (by decide), fun _ => ?_⟩
          refine EI.k (c_atLetter (d := d - 1) hC hSt) (by omega) (fun _ _ => ?_)
          rw [eL]
          refine ⟨fun _ => ?_, fun z => absurd rfl z⟩
          refine EI.k (c_atLetter (d := d - 1) hC hSt) (by omega) (fun _ _ => ?_)
          rw [eL]
          exact ⟨fun _ _ _ => fin, fun z => absurd rfl z⟩
  exact key (most.toNat + 1) σ [] p m (by show ((0 : Nat) : Int) + _ = _; omega) hS h hl_nil (by show ((0 : Nat) : Int) ≤ _; omega) (Fy.refl σ) Sm.refl rfl
/-- behind a fault no words are read -/
theorem c_readWords_bad {x2 most : Int} {c1 n1 : Nat} (hc1 : aI c1 n1) (h : CB t e k new σ f m) (hf : 0 ≤ f) (i2 : iR x2) (i3 : iR most) (hS : SR σ) (hd : 1 ≤ d) : EI g ad d mX6_readWords [.ref (ad 37), .ref (ad c1), vi x2, vi most] σ 0 σ := by
  refine EbS rfl pl_X6 rfl rfl (bX6_readWords_0 hc1 i2 i3 hS ?_)
  intro _ _ _ _
  have eR : bi (sc σ 37 2 = -1) = 0 := bi_f (by rw [h.fa]; omega)
  have stop : Cl g ad d mX6_atLetter 0 0 [.ref (ad 37)] σ (Ki fun r1 s1 => ((r1 = 0 → (iR 0 → SR s1 → Ki (fun r s => r = 0 ∧ s = σ) (.inl (some (vi 0))) s1)) ∧ (¬ r1 = 0 → Cl g ad d mX6_fail 0 0 [.ref (ad 37), vi (sc s1 37 15)] s1 (Kv fun s2 => (iR 0 → SR s2 → Ki (fun r s => r = 0 ∧ s = σ) (.inl (some (vi 0))) s2))))) := by
    refine EI.k (c_atLetter (d := d - 1) h hS) (by omega) (fun _ _ => ⟨fun _ => re_i ⟨rfl, rfl⟩, fun _ => ?_⟩)
    refine EV.k (c_fail (d := d - 1) (SR_sc hS 37 15) hS) (by omega) (fun _ => re_i ⟨rfl, if_neg (by rw [h.fa]; omega)⟩)
  refine bX6_readWords_3 hc1 i2 i3 (iR_lit rfl) hS ⟨fun _ => stop, fun _ => ?_⟩
  refine EI.k (c_isRight (d := d - 1) hS) (by omega) (fun _ _ => ?_)
  rw [eR]
  exact ⟨fun _ => stop, fun z => absurd rfl z⟩
end RDR2
