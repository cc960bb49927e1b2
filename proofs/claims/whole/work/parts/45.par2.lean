section PAS
variable {g : AG} {ad : Nat → Nat} {d : Nat} {σ : SG} {m t : Int → Int} {e : Int}
theorem numV_snoc {p a : Int} (h : p ≤ a) : numV t p (a + 1) = 10 * numV t p a + t a - 48 := by
  unfold numV
  rw [ir_snoc h, List.foldl_append]
  rfl
theorem e_number {p most : Int} (h : SP t e σ p m) (hS : SR σ) (h1 : iR most) (hd : 2 ≤ d) : Eb g ad d mX11_number 0 0 [.ref (ad 102), vi most] σ (Ki fun r s => SX t e s (pNum t e most p m) (fun v => r = v ∧ 0 ≤ v ∧ v ≤ most) ∧ Fm [] [8, 9] σ s) := by
  have hb := h.b
  have heb := h.1.eb
  have hm0 := h.2.2.2.2.1
  refine EbS rfl pl_X11 rfl rfl (bX11_number_0 h1 hS ⟨fun _ => ?_, fun q => absurd h.2.1 q⟩)
  refine EI.k (w_here (d := d - 1) h hS) (by omega) (fun ip hS' => ?_)
  intros
  have hsc := scn_b (b := dgt t) (e - p).toNat p hb.2 (Nat.le_refl _)
  generalize hq : scn (dgt t) e p = q at hsc
  -- the end
  have fin : ∀ (a v : Int) (τ : SG), τ = setS σ 102 8 a → SR τ → iR v → p ≤ a → a ≤ q → a ≤ p + 4 → v = numV t p a → 0 ≤ v → (a = q ∨ a = p + 4) → aX11_number_88 g ad d (Ki fun r s => SX t e s (pNum t e most p m) (fun v => r = v ∧ 0 ≤ v ∧ v ≤ most) ∧ Fm [] [8, 9] σ s) 0 0 τ most p v := by
    intro a v τ hτ hSt iv hpa haq ha4 hv hv0 hend
    have e8 : sc τ 102 8 = a := by rw [hτ]; simp (config := {decide := true}) only [sc_S, ia_S, la_S, rv_S, sc_I, rv_I, la_I, ia_I, sc_L, rv_L, ia_L, la_L, sc_A, rv_A, la_A, ia_A, sc_B, rv_B, ia_B, la_B, sc_R, ia_R, la_R, rv_R, ia_w, la_w, rv_w, sc_w, if_true, if_false]
    have e7 : sc τ 102 7 = e := by rw [hτ]; simp (config := {decide := true}) only [sc_S, ia_S, la_S, rv_S, sc_I, rv_I, la_I, ia_I, sc_L, rv_L, ia_L, la_L, sc_A, rv_A, la_A, ia_A, sc_B, rv_B, ia_B, la_B, sc_R, ia_R, la_R, rv_R, ia_w, la_w, rv_w, sc_w, if_true, if_false]; exact h.1.en
    have e9 : sc τ 102 9 = -1 := by rw [hτ]; simp (config := {decide := true}) only [sc_S, ia_S, la_S, rv_S, sc_I, rv_I, la_I, ia_I, sc_L, rv_L, ia_L, la_L, sc_A, rv_A, la_A, ia_A, sc_B, rv_B, ia_B, la_B, sc_R, ia_R, la_R, rv_R, ia_w, la_w, rv_w, sc_w, if_true, if_false]; exact h.2.1
    have e6 : ia τ 106 = t := by rw [hτ]; simp (config := {decide := true}) only [sc_S, ia_S, la_S, rv_S, sc_I, rv_I, la_I, ia_I, sc_L, rv_L, ia_L, la_L, sc_A, rv_A, la_A, ia_A, sc_B, rv_B, ia_B, la_B, sc_R, ia_R, la_R, rv_R, ia_w, la_w, rv_w, sc_w, if_true, if_false]; exact h.1.tp
    have e3 : ia τ 103 = m := by rw [hτ]; simp (config := {decide := true}) only [sc_S, ia_S, la_S, rv_S, sc_I, rv_I, la_I, ia_I, sc_L, rv_L, ia_L, la_L, sc_A, rv_A, la_A, ia_A, sc_B, rv_B, ia_B, la_B, sc_R, ia_R, la_R, rv_R, ia_w, la_w, rv_w, sc_w, if_true, if_false]; exact h.2.2.2.1
    have hF : Fm [] [8, 9] σ τ := by rw [hτ]; exact (Fm.refl σ).setS (by decide)
    have hSP : SP t e τ (skp t e a) m := ⟨⟨e6, h.1.tb, e7, h.1.eb, by rw [e8]; omega, by rw [e8]; omega, by have hz9 := h.1.zr; rw [h.2.2.2.1] at hz9; rw [e3]; exact hz9⟩, e9, by rw [e8], e3, hm0, trivial⟩
    have bad : pNum t e most p m = .bad p → aX11_number_111 g ad d (Ki fun r s => SX t e s (pNum t e most p m) (fun v => r = v ∧ 0 ≤ v ∧ v ≤ most) ∧ Fm [] [8, 9] σ s) 0 0 τ most p v := by
      intro hbad
      refine bX11_number_111 h1 ip iv hSt ?_
      refine EV.k (e_wrong (d := d - 1) ip hSt) (by omega) (fun hS9 => ?_)
      rw [if_pos e9] at hS9 ⊢
      intros
      refine bX11_number_116 h1 ip iv hS9 (re_i ⟨?_, hF.setS (by decide)⟩)
      rw [hbad]
      exact hSP.bad hb.1
    refine bX11_number_88 h1 ip iv hSt ?_
    rw [e8]
    refine ⟨fun c => ?_, fun c => ⟨iR_of (by omega) (by omega), fun c2 => ?_, fun c2 => ⟨fun c3 => ?_, fun c3 => ?_⟩⟩⟩
    · intros
      refine bad ?_
      unfold pNum
      rw [hq, if_pos (Or.inl (by omega))]
    · intros
      refine bad ?_
      unfold pNum
      rw [hq, if_pos (Or.inr (Or.inl (by omega)))]
    · intros
      have haq' : a = q := by omega
      subst haq'
      refine bX11_number_116 h1 ip iv hSt (re_i ⟨?_, hF⟩)
      unfold pNum
      rw [hq, ← hv, if_neg (by omega)]
      exact ⟨hSP.1, hSP.2.1, hSP.2.2.1, hSP.2.2.2.1, hSP.2.2.2.2.1, rfl, hv0, c3⟩
    · intros
      have haq' : a = q := by omega
      subst haq'
      refine bad ?_
      unfold pNum
      rw [hq, ← hv, if_pos (Or.inr (Or.inr (by omega)))]
  have key : ∀ (n : Nat) (a v : Int) (τ : SG), τ = setS σ 102 8 a → SR τ → p ≤ a → a ≤ q → a + n = p + 4 → v = numV t p a → 0 ≤ v → ((a = p → v = 0) ∧ (a ≤ p + 1 → v ≤ 9) ∧ (a ≤ p + 2 → v ≤ 99) ∧ (a ≤ p + 3 → v ≤ 999) ∧ v ≤ 9999) → aX11_number_17 g ad d (Ki fun r s => SX t e s (pNum t e most p m) (fun v => r = v ∧ 0 ≤ v ∧ v ≤ most) ∧ Fm [] [8, 9] σ s) 0 0 τ most p v := by
    intro n
    induction n with
    | zero =>
      intro a v τ hτ hSt hpa haq hn hv hv0 hvb
      have e8 : sc τ 102 8 = a := by rw [hτ]; simp (config := {decide := true}) only [sc_S, ia_S, la_S, rv_S, sc_I, rv_I, la_I, ia_I, sc_L, rv_L, ia_L, la_L, sc_A, rv_A, la_A, ia_A, sc_B, rv_B, ia_B, la_B, sc_R, ia_R, la_R, rv_R, ia_w, la_w, rv_w, sc_w, if_true, if_false]
      have e7 : sc τ 102 7 = e := by rw [hτ]; simp (config := {decide := true}) only [sc_S, ia_S, la_S, rv_S, sc_I, rv_I, la_I, ia_I, sc_L, rv_L, ia_L, la_L, sc_A, rv_A, la_A, ia_A, sc_B, rv_B, ia_B, la_B, sc_R, ia_R, la_R, rv_R, ia_w, la_w, rv_w, sc_w, if_true, if_false]; exact h.1.en
      have e6 : ia τ 106 = t := by rw [hτ]; simp (config := {decide := true}) only [sc_S, ia_S, la_S, rv_S, sc_I, rv_I, la_I, ia_I, sc_L, rv_L, ia_L, la_L, sc_A, rv_A, la_A, ia_A, sc_B, rv_B, ia_B, la_B, sc_R, ia_R, la_R, rv_R, ia_w, la_w, rv_w, sc_w, if_true, if_false]; exact h.1.tp
      have iv : iR v := iR_of (by omega) (by omega)
      have ff := fin a v τ hτ hSt iv hpa haq (by omega) hv hv0 (Or.inr (by omega))
      refine bX11_number_17 h1 ip iv hSt ?_
      rw [e7, e8, e6]
      refine ⟨fun _ _ _ _ _ => ff, fun c => ⟨⟨by omega, by omega⟩, ?_⟩⟩
      have htb := h.1.tb a
      refine EI.k (by apply e_isIn <;> (first | with_reducible assumption | with_reducible exact iR_of (by omega) (by omega) | omega | with_reducible (exact bi_01) | assumption)) (by omega) (fun _ _ => ?_)
      refine bi_zn (fun c2 => ⟨iR_of (by rw [e8]; omega) (by rw [e8]; omega), fun _ _ _ _ _ => ff, fun c3 => absurd (by rw [e8]; omega) c3⟩) (fun c2 _ _ _ _ => ff)
    | succ n ih =>
      intro a v τ hτ hSt hpa haq hn hv hv0 hvb
      have e8 : sc τ 102 8 = a := by rw [hτ]; simp (config := {decide := true}) only [sc_S, ia_S, la_S, rv_S, sc_I, rv_I, la_I, ia_I, sc_L, rv_L, ia_L, la_L, sc_A, rv_A, la_A, ia_A, sc_B, rv_B, ia_B, la_B, sc_R, ia_R, la_R, rv_R, ia_w, la_w, rv_w, sc_w, if_true, if_false]
      have e7 : sc τ 102 7 = e := by rw [hτ]; simp (config := {decide := true}) only [sc_S, ia_S, la_S, rv_S, sc_I, rv_I, la_I, ia_I, sc_L, rv_L, ia_L, la_L, sc_A, rv_A, la_A, ia_A, sc_B, rv_B, ia_B, la_B, sc_R, ia_R, la_R, rv_R, ia_w, la_w, rv_w, sc_w, if_true, if_false]; exact h.1.en
      have e6 : ia τ 106 = t := by rw [hτ]; simp (config := {decide := true}) only [sc_S, ia_S, la_S, rv_S, sc_I, rv_I, la_I, ia_I, sc_L, rv_L, ia_L, la_L, sc_A, rv_A, la_A, ia_A, sc_B, rv_B, ia_B, la_B, sc_R, ia_R, la_R, rv_R, ia_w, la_w, rv_w, sc_w, if_true, if_false]; exact h.1.tp
      have iv : iR v := iR_of (by omega) (by omega)
      have htb := h.1.tb a
      refine bX11_number_17 h1 ip iv hSt ?_
      rw [e7, e8, e6]
      refine ⟨fun c _ _ _ _ => fin a v τ hτ hSt iv hpa haq (by omega) hv hv0 (Or.inl (by omega)), fun c => ⟨⟨by omega, by omega⟩, ?_⟩⟩
      refine EI.k (by apply e_isIn <;> (first | with_reducible assumption | with_reducible exact iR_of (by omega) (by omega) | omega | with_reducible (exact bi_01) | assumption)) (by omega) (fun _ _ => ?_)
      rw [e8, e6]
      refine bi_zn (fun c2 => ⟨iR_of (by omega) (by omega), fun c3 => absurd c3 (by omega), fun c3 => ⟨⟨by omega, by omega⟩, iR_of (by omega) (by omega), iR_of (by omega) (by omega), fun _ _ _ hS5 => ?_⟩⟩) (fun c2 _ _ _ _ => ?_)
      · have haq2 : a < q := by
          by_cases c4 : a < q
          · exact c4
          · have e4 : a = q := by omega
            exact absurd (decide_eq_true c2 : dgt t a = true) (by rw [e4]; exact hsc.2.2.1 (by omega))
        refine ih (a + 1) _ _ (by rw [hτ, setS_S]) hS5 (by omega) (by omega) (by omega) ?_ (by omega) (by omega)
        rw [numV_snoc hpa, hv]
      · refine fin a v τ hτ hSt iv hpa haq (by omega) hv hv0 (Or.inl ?_)
        by_cases c4 : a < q
        · exact absurd (of_decide_eq_true (hsc.2.2.2 a hpa c4)) c2
        · omega
  exact key 4 p 0 _ rfl hS' (Int.le_refl _) hsc.1 (by omega) (by unfold numV; rw [ir_nil (Int.le_refl _)]; rfl) (by omega) (by omega)
theorem e_number_bad {most : Int} (h : ¬ sc σ 102 9 = -1) (hS : SR σ) (h1 : iR most) : EI g ad d mX11_number [.ref (ad 102), vi most] σ 0 σ :=
  EbS rfl pl_X11 rfl rfl (bX11_number_0 h1 hS ⟨fun q => absurd q h, fun _ => re_i ⟨rfl, rfl⟩⟩)
/-- but for these places a row is as it was -/
def Sm (f f' : Int → Int) (a b : Int) : Prop := ∀ j, ¬ (a ≤ j ∧ j < b) → f' j = f j
theorem Sm.refl {f : Int → Int} {a b : Int} : Sm f f a b := fun _ _ => rfl
theorem Sm.up {f f' : Int → Int} {a b j v : Int} (h : Sm f f' a b) (hj : a ≤ j ∧ j < b) : Sm f (up f' j v) a b := fun i hi => by rw [up_ne (by omega)]; exact h i hi
theorem Sm.mono {f f' : Int → Int} {a b a' b' : Int} (h : Sm f f' a b) (h1 : a' ≤ a) (h2 : b ≤ b') : Sm f f' a' b' := fun i hi => h i (by omega)
theorem Sm.trans {f f' f'' : Int → Int} {a b : Int} (h : Sm f f' a b) (h2 : Sm f' f'' a b) : Sm f f'' a b := fun i hi => (h2 i hi).trans (h i hi)
theorem Sm.hl {f f' : Int → Int} {a b c : Int} {l : List Int} (h : Sm f f' a b) (hh : hl f c l) (hd : c + l.length ≤ a ∨ b ≤ c) : hl f' c l := fun i v hv => by
  have := (List.getElem?_eq_some_iff.mp hv).1
  rw [h _ (by omega)]
  exact hh i v hv
theorem e_wordsInto {p x2 most new : Int} {c1 n1 : Nat} (hc1 : aI c1 n1) (hcc : c1 = 107 ∨ c1 = 109) (h : SP t e σ p m) (h2 : 0 ≤ x2 ∧ x2 + most ≤ n1) (hn1 : (n1 : Int) < 1000) (hm : 0 ≤ most ∧ most ≤ 18) (hn : new = 0 ∨ new = 1) (hS : SR σ) (hd : 3 ≤ d) : Eb g ad d mX11_wordsInto 0 0 [.ref (ad 102), .ref (ad c1), vi x2, vi most, vi new] σ (Ki fun r s => SX t e s (pWs t e (decide (new = 1)) most p m) (fun l => r = (l.length : Int) ∧ hl (ia s c1) x2 l ∧ (l.length : Int) ≤ most) ∧ Fm [103, c1] [8, 9] σ s ∧ Sm (ia σ c1) (ia s c1) x2 (x2 + most) ∧ (0 ≤ r ∧ r ≤ 19)) := by
  have i2 : iR x2 := iR_of (by omega) (by omega)
  have i3 : iR most := iR_of (by omega) (by omega)
  have i4 := iR01 hn
  refine EbS rfl pl_X11 rfl rfl (bX11_wordsInto_0 hc1 i2 i3 i4 hS ?_)
  intros
  have key : ∀ (n : Nat) (τ : SG) (l : List Int) (p' : Int) (m' : Int → Int), (l.length : Int) + n = most + 1 → SR τ → SP t e τ p' m' → hl (ia τ c1) x2 l → (l.length : Int) ≤ most → Fm [103, c1] [8, 9] σ τ → Sm (ia σ c1) (ia τ c1) x2 (x2 + most) → pWords t e (decide (new = 1)) most n l p' m' = pWs t e (decide (new = 1)) most p m → aX11_wordsInto_3 g ad d (Ki fun r s => SX t e s (pWs t e (decide (new = 1)) most p m) (fun l => r = (l.length : Int) ∧ hl (ia s c1) x2 l ∧ (l.length : Int) ≤ most) ∧ Fm [103, c1] [8, 9] σ s ∧ Sm (ia σ c1) (ia s c1) x2 (x2 + most) ∧ (0 ≤ r ∧ r ≤ 19)) 0 0 τ x2 most new l.length c1 := by
    intro n
    induction n with
    | zero => intro τ l p' m' hl'; omega
    | succ n ih =>
      intro τ l p' m' hln hSt hSP hhl hlm hF hSm hv
      have hb := hSP.b
      have heb := hSP.1.eb
      have il : iR (l.length : Int) := iR_of (by omega) (by omega)
      have c1ne : c1 ≠ 103 ∧ c1 ≠ 106 := by omega
      rw [pWords] at hv
      -- a fault: it ends
      have stop : ∀ s (f k : Int), SR s → PB t e s → sc s 102 9 = f → 0 ≤ f → iR k → (0 ≤ k ∧ k ≤ 19) → pWs t e (decide (new = 1)) most p m = .bad f → Fm [103, c1] [8, 9] σ s → Sm (ia σ c1) (ia s c1) x2 (x2 + most) → aX11_wordsInto_3 g ad d (Ki fun r s => SX t e s (pWs t e (decide (new = 1)) most p m) (fun l => r = (l.length : Int) ∧ hl (ia s c1) x2 l ∧ (l.length : Int) ≤ most) ∧ Fm [103, c1] [8, 9] σ s ∧ Sm (ia σ c1) (ia s c1) x2 (x2 + most) ∧ (0 ≤ r ∧ r ≤ 19)) 0 0 s x2 most new k c1 := by
        intro s f k hSs hPs h9 hf ik hk hbad hFs hSms
        refine bX11_wordsInto_3 hc1 i2 i3 i4 ik hSs ⟨fun _ => re_i ⟨?_, hFs, hSms, hk⟩, fun q => absurd q (by omega)⟩
        rw [hbad]
        exact ⟨hPs, h9, hf⟩
      refine bX11_wordsInto_3 hc1 i2 i3 i4 il hSt ⟨fun q => absurd hSP.2.1 q, fun _ => ?_⟩
      refine EI.k (e_isLetter (d := d - 1) hSP hSt (by omega)) (by omega) (fun _ hSa => bi_zn (fun c => ⟨fun c2 => ?_, fun c2 => ?_⟩) (fun c => re_i ⟨?_, hF.setS (by decide), hSm, by omega⟩))
      · rw [if_neg (fun q => q c), if_neg c2] at hv
        refine Cl.i (e_word (d := d - 1) hSP.at hn hSa (by omega)) (by omega) (fun r2 s2 hr2 hS2 h2' => ?_)
        obtain ⟨hX, hF2⟩ := h2'
        have hF2' : Fm [103, c1] [8, 9] σ s2 := (hF.setS (by decide)).trans (hF2.mono (fun c hc => List.mem_cons.mpr (Or.inl (List.mem_singleton.mp hc))) (by decide))
        have ec1 : ia s2 c1 = ia τ c1 := hF2.2.2.1 c1 (by simp [c1ne.1])
        cases hpw : pWord t e (decide (new = 1)) p' m' with
        | error f =>
          rw [hpw] at hX hv
          have h9 : sc s2 102 9 = f := hX.2.1
          have hf0 : 0 ≤ f := hX.2.2
          refine ⟨fun c3 => ⟨iR_of (by omega) (by omega), fun _ _ _ ik hS3 => ?_⟩, fun c3 => absurd c3 (by omega)⟩
          exact stop s2 f _ hS3 hX.1 h9 hf0 ik (by omega) hv.symm hF2' (by rw [ec1]; exact hSm)
        | ok rr_ =>
          obtain ⟨w, p2, m2⟩ := rr_
          rw [hpw] at hX hv
          obtain ⟨hP2, h9, h8, h3, h0, hw⟩ := hX
          have hw' : r2 = w := hw
          refine ⟨fun c3 => absurd h9 c3, fun c3 => ⟨⟨by omega, by omega⟩, iR_of (by omega) (by omega), fun _ _ _ _ hS3 => ?_⟩⟩
          have e1 : ((l ++ [w]).length : Int) = (l.length : Int) + 1 := by rw [List.length_append, List.length_singleton]; omega
          have hc1F : Fm [103, c1] [8, 9] s2 (setI s2 c1 (x2 + l.length) r2) := (Fm.refl s2).setI (by simp)
          have := ih (setI s2 c1 (x2 + l.length) r2) (l ++ [w]) p2 m2 (by omega) hS3 ?_ ?_ (by omega) (hF2'.trans hc1F) ?_ hv
          · rw [e1] at this
            exact this
          · refine ⟨⟨?_, hP2.tb, hP2.en, hP2.eb, hP2.a0, hP2.a1, by rw [ia_I, if_neg (Ne.symm c1ne.1)]; exact hP2.zr⟩, h9, h8, ?_, h0, trivial⟩
            · rw [ia_I, if_neg (Ne.symm c1ne.2)]; exact hP2.tp
            · rw [ia_I, if_neg (Ne.symm c1ne.1)]; exact h3
          · rw [ia_I, if_pos rfl, ec1, hw']
            exact hl_snoc hhl
          · rw [ia_I, if_pos rfl, ec1]
            exact hSm.up (by omega)
      · rw [if_neg (fun q => q c), if_pos c2] at hv
        simp (config := {decide := true}) only [sc_S, ia_S, la_S, rv_S, sc_I, rv_I, la_I, ia_I, sc_L, rv_L, ia_L, la_L, sc_A, rv_A, la_A, ia_A, sc_B, rv_B, ia_B, la_B, sc_R, ia_R, la_R, rv_R, ia_w, la_w, rv_w, sc_w, if_true, if_false]
        refine EV.k (e_wrong (d := d - 1) (iR_of (by omega) (by omega)) hSa) (by omega) (fun hS9 => ?_)
        have h9 : sc (setS τ 102 8 p') 102 9 = -1 := by simp (config := {decide := true}) only [sc_S, ia_S, la_S, rv_S, sc_I, rv_I, la_I, ia_I, sc_L, rv_L, ia_L, la_L, sc_A, rv_A, la_A, ia_A, sc_B, rv_B, ia_B, la_B, sc_R, ia_R, la_R, rv_R, ia_w, la_w, rv_w, sc_w, if_true, if_false]; exact hSP.2.1
        rw [if_pos h9] at hS9 ⊢
        have hX : SX t e (setS (setS τ 102 8 p') 102 9 p') (PR.bad p' : PR Unit) (fun _ => True) := hSP.at.bad hb.1
        have hnb : ¬ sc (setS (setS τ 102 8 p') 102 9 p') 102 9 = -1 := by simp (config := {decide := true}) only [sc_S, ia_S, la_S, rv_S, sc_I, rv_I, la_I, ia_I, sc_L, rv_L, ia_L, la_L, sc_A, rv_A, la_A, ia_A, sc_B, rv_B, ia_B, la_B, sc_R, ia_R, la_R, rv_R, ia_w, la_w, rv_w, sc_w, if_true, if_false]; omega
        refine EI.k (e_word_bad (d := d - 1) hnb hn hS9) (by omega) (fun _ _ => ⟨fun _ => ⟨iR_of (by omega) (by omega), fun _ _ _ ik hS3 => ?_⟩, fun q => absurd q hnb⟩)
        exact stop _ p' _ hS3 hX.1 hX.2.1 hb.1 ik (by omega) hv.symm ((hF.setS (by decide)).setS (by decide)) hSm
      · rw [if_pos c] at hv
        rw [← hv]
        have ha := hSP.at
        exact ⟨ha.1, ha.2.1, ha.2.2.1, ha.2.2.2.1, ha.2.2.2.2.1, rfl, hhl, hlm⟩
  exact key (most.toNat + 1) σ [] p m (by show ((0 : Nat) : Int) + _ = _; omega) hS h hl_nil (by show ((0 : Nat) : Int) ≤ _; omega) (Fm.refl σ) Sm.refl rfl
theorem e_wordsInto_bad {x2 most new : Int} {c1 n1 : Nat} (hc1 : aI c1 n1) (h : ¬ sc σ 102 9 = -1) (h2 : iR x2) (h3 : iR most) (hn : new = 0 ∨ new = 1) (hS : SR σ) : EI g ad d mX11_wordsInto [.ref (ad 102), .ref (ad c1), vi x2, vi most, vi new] σ 0 σ := by
  refine EbS rfl pl_X11 rfl rfl (bX11_wordsInto_0 hc1 h2 h3 (iR01 hn) hS ?_)
  intros
  exact bX11_wordsInto_3 hc1 h2 h3 (iR01 hn) (iR_lit rfl) hS ⟨fun _ => re_i ⟨rfl, rfl⟩, fun q => absurd q h⟩
/-! entries -/
abbrev Row : Type := Int × List Int × List Int × Int
def pEntry (t : Int → Int) (e p : Int) (m : Int → Int) : PR Row := (pWs t e true 3 p m).bind fun src p1 m1 => if src = [] then .bad p1 else (pSign t e 61 p1 m1).bind fun _ p2 m2 => (pWs t e true 3 p2 m2).bind fun tgt p3 m3 => (pNum t e 99 p3 m3).bind fun c p4 m4 => .ok (p, src, tgt, c) p4 m4
def RowB (R B : Int → Int) (i : Int) (x : Row) : Prop := B i = x.1 ∧ R (10 * i) = x.2.1.length ∧ hl R (10 * i + 1) x.2.1 ∧ R (10 * i + 4) = x.2.2.1.length ∧ hl R (10 * i + 5) x.2.2.1 ∧ R (10 * i + 8) = x.2.2.2 ∧ (1 ≤ x.2.1.length ∧ x.2.1.length ≤ 3) ∧ x.2.2.1.length ≤ 3 ∧ (0 ≤ x.2.2.2 ∧ x.2.2.2 ≤ 99) ∧ 0 ≤ x.1
theorem SX.rows {α : Type} {x : PR α} {V : α → Prop} {j v : Int} (h : SX t e σ x V) (c : Nat) (hc : decide (c = 107 ∨ c = 108 ∨ c = 109) = true) : SX t e (setI σ c j v) x V := by
  have hc' := of_decide_eq_true hc
  have hP : PB t e (setI σ c j v) := ⟨by rw [ia_I, if_neg (by omega)]; exact h.1.tp, h.1.tb, h.1.en, h.1.eb, h.1.a0, h.1.a1, by rw [ia_I, if_neg (by omega)]; exact h.1.zr⟩
  refine ⟨hP, ?_⟩
  cases x with
  | error f => exact h.2
  | ok rr_ =>
    obtain ⟨a, p, m⟩ := rr_
    obtain ⟨h1, h2, h3, h4, h5⟩ := h.2
    exact ⟨h1, h2, by rw [ia_I, if_neg (by omega)]; exact h3, h4, h5⟩
/-- the end of an entry behind a fault -/
theorem entryTail {r f : Int} (hr : 0 ≤ r ∧ r ≤ 110) {Q : SG → Prop} (hS : SR σ) (h : SX t e σ (PR.bad f : PR Unit) (fun _ => True)) (hd : 2 ≤ d) (hQ : ∀ a b, SX t e (setI (setI σ 107 (r + 4) a) 107 (r + 8) b) (PR.bad f : PR Unit) (fun _ => True) → Q (setI (setI σ 107 (r + 4) a) 107 (r + 8) b)) : Cl g ad d mX11_mustSign 0 0 [.ref (ad 102), vi 61] σ (Kv fun s5 => Cl g ad d mX11_wordsInto 0 0 [.ref (ad 102), .ref (ad 107), vi (r + 4 + 1), vi 3, vi 1] s5 (Ki fun r6 s6 => (0 ≤ r + 4 ∧ r + 4 < 120) ∧ Cl g ad d mX11_number 0 0 [.ref (ad 102), vi 99] (setI s6 107 (r + 4) r6) (Ki fun r8 s8 => (0 ≤ r + 8 ∧ r + 8 < 120) ∧ (SR (setI s8 107 (r + 8) r8) → Kv Q (.inl none) (setI s8 107 (r + 8) r8))))) := by
  have h9 : sc σ 102 9 = f := h.2.1
  have hf : 0 ≤ f := h.2.2
  have hnb : ¬ sc σ 102 9 = -1 := by omega
  refine EV.k (e_mustSign_bad (d := d - 1) hnb hS (iR_lit rfl)) (by omega) (fun _ => ?_)
  refine EI.k (e_wordsInto_bad (d := d - 1) aI107 hnb (iR_of (by omega) (by omega)) (iR_lit rfl) (Or.inr rfl) hS) (by omega) (fun _ _ => ⟨⟨by omega, by omega⟩, ?_⟩)
  refine EI.k (e_number_bad (d := d - 1) (σ := setI σ 107 (r + 4) 0) hnb (SR_setI hS (iR_lit rfl)) (iR_lit rfl)) (by omega) (fun _ _ => ⟨⟨by omega, by omega⟩, re_v (hQ 0 0 ((h.rows 107 rfl).rows 107 rfl))⟩)
theorem e_entry {p : Int} (h : SP t e σ p m) (hS : SR σ) (hr : 0 ≤ sc σ 102 12 ∧ sc σ 102 12 < 12) (hd : 4 ≤ d) : Eb g ad d mX11_entry 0 0 [.ref (ad 102)] σ (Kv fun s => SX t e s (pEntry t e p m) (fun x => RowB (ia s 107) (ia s 108) (sc σ 102 12) x) ∧ Fm [103, 107, 108] [8, 9] σ s ∧ Sm (ia σ 107) (ia s 107) (10 * sc σ 102 12) (10 * sc σ 102 12 + 10) ∧ Sm (ia σ 108) (ia s 108) (sc σ 102 12) (sc σ 102 12 + 1)) := by
  have hb := h.b
  have heb := h.1.eb
  generalize hi : sc σ 102 12 = i at hr
  refine EbS rfl pl_X11 rfl rfl (bX11_entry_0 hS ?_)
  rw [hi]
  refine EI.k (w_here (d := d - 1) h hS) (by omega) (fun ip hS1 => ⟨hr, ?_⟩)
  have hSb : SR (setI (setS σ 102 8 p) 108 i p) := SR_setI hS1 ip
  have hSPb : SP t e (setI (setS σ 102 8 p) 108 i p) p m := SX.rows h.at 108 rfl
  have hFb : Fm [103, 107, 108] [8, 9] σ (setI (setS σ 102 8 p) 108 i p) := ((Fm.refl σ).setS (by decide)).setI (by decide)
  refine Cl.i (e_wordsInto (d := d - 1) (p := p) (x2 := 10 * i + 1) (most := 3) (new := 1) aI107 (Or.inl rfl) hSPb (by omega) (by omega) (by omega) (Or.inr rfl) hSb (by omega)) (by omega) (fun r3 s3 hr3 hS3 h3 => ⟨⟨by omega, by omega⟩, ?_⟩)
  obtain ⟨hX3, hF3, hSm3, hrb3⟩ := h3
  have hF3' : Fm [103, 107, 108] [8, 9] σ s3 := hFb.trans (hF3.mono (by decide) (by decide))
  have hSm3' : Sm (ia σ 107) (ia s3 107) (10 * i) (10 * i + 10) := by
    have e7 : ia (setI (setS σ 102 8 p) 108 i p) 107 = ia σ 107 := by simp (config := {decide := true}) only [sc_S, ia_S, la_S, rv_S, sc_I, rv_I, la_I, ia_I, sc_L, rv_L, ia_L, la_L, sc_A, rv_A, la_A, ia_A, sc_B, rv_B, ia_B, la_B, sc_R, ia_R, la_R, rv_R, ia_w, la_w, rv_w, sc_w, if_true, if_false]
    rw [e7] at hSm3
    exact hSm3.mono (by omega) (by omega)
  have e108 : ia s3 108 = up (ia σ 108) i p := by rw [hF3.a 108 rfl]; simp (config := {decide := true}) only [sc_S, ia_S, la_S, rv_S, sc_I, rv_I, la_I, ia_I, sc_L, rv_L, ia_L, la_L, sc_A, rv_A, la_A, ia_A, sc_B, rv_B, ia_B, la_B, sc_R, ia_R, la_R, rv_R, ia_w, la_w, rv_w, sc_w, if_true, if_false]
  have hS4 : SR (setI s3 107 (10 * i) r3) := SR_setI hS3 hr3
  have hF4 : Fm [103, 107, 108] [8, 9] σ (setI s3 107 (10 * i) r3) := hF3'.setI (by decide)
  have hSm4 : Sm (ia σ 107) (ia (setI s3 107 (10 * i) r3) 107) (10 * i) (10 * i + 10) := by simp (config := {decide := true}) only [sc_S, ia_S, la_S, rv_S, sc_I, rv_I, la_I, ia_I, sc_L, rv_L, ia_L, la_L, sc_A, rv_A, la_A, ia_A, sc_B, rv_B, ia_B, la_B, sc_R, ia_R, la_R, rv_R, ia_w, la_w, rv_w, sc_w, if_true, if_false]; exact hSm3'.up (by omega)
  have eat : ia (setI s3 107 (10 * i) r3) 107 (10 * i) = r3 := by simp (config := {decide := true}) only [sc_S, ia_S, la_S, rv_S, sc_I, rv_I, la_I, ia_I, sc_L, rv_L, ia_L, la_L, sc_A, rv_A, la_A, ia_A, sc_B, rv_B, ia_B, la_B, sc_R, ia_R, la_R, rv_R, ia_w, la_w, rv_w, sc_w, if_true, if_false]; exact up_at
  rw [eat]
  -- a fault behind the source
  have bad : ∀ s f, SR s → SX t e s (PR.bad f : PR Unit) (fun _ => True) → pEntry t e p m = .bad f → Fm [103, 107, 108] [8, 9] σ s → Sm (ia σ 107) (ia s 107) (10 * i) (10 * i + 10) → ia s 108 = up (ia σ 108) i p → Cl g ad d mX11_mustSign 0 0 [.ref (ad 102), vi 61] s (Kv fun s5 => Cl g ad d mX11_wordsInto 0 0 [.ref (ad 102), .ref (ad 107), vi (10 * i + 4 + 1), vi 3, vi 1] s5 (Ki fun r6 s6 => (0 ≤ 10 * i + 4 ∧ 10 * i + 4 < 120) ∧ Cl g ad d mX11_number 0 0 [.ref (ad 102), vi 99] (setI s6 107 (10 * i + 4) r6) (Ki fun r8 s8 => (0 ≤ 10 * i + 8 ∧ 10 * i + 8 < 120) ∧ (SR (setI s8 107 (10 * i + 8) r8) → Kv (fun s => SX t e s (pEntry t e p m) (fun x => RowB (ia s 107) (ia s 108) i x) ∧ Fm [103, 107, 108] [8, 9] σ s ∧ Sm (ia σ 107) (ia s 107) (10 * i) (10 * i + 10) ∧ Sm (ia σ 108) (ia s 108) i (i + 1)) (.inl none) (setI s8 107 (10 * i + 8) r8))))) := by
    intro s f hSs hX hbad hFs hSms h108
    refine entryTail (by omega) hSs hX (by omega) (fun a b hX2 => ?_)
    rw [hbad]
    refine ⟨hX2, (hFs.setI (by decide)).setI (by decide), ?_, ?_⟩
    · simp (config := {decide := true}) only [sc_S, ia_S, la_S, rv_S, sc_I, rv_I, la_I, ia_I, sc_L, rv_L, ia_L, la_L, sc_A, rv_A, la_A, ia_A, sc_B, rv_B, ia_B, la_B, sc_R, ia_R, la_R, rv_R, ia_w, la_w, rv_w, sc_w, if_true, if_false]
      exact (hSms.up (by omega)).up (by omega)
    · simp (config := {decide := true}) only [sc_S, ia_S, la_S, rv_S, sc_I, rv_I, la_I, ia_I, sc_L, rv_L, ia_L, la_L, sc_A, rv_A, la_A, ia_A, sc_B, rv_B, ia_B, la_B, sc_R, ia_R, la_R, rv_R, ia_w, la_w, rv_w, sc_w, if_true, if_false]
      rw [h108]
      exact Sm.refl.up (by omega)
  cases hps : pWs t e true 3 p m with
  | error f =>
    have hX3' : SX t e s3 (PR.bad f : PR Unit) (fun _ => True) := by
      have := hX3
      rw [show decide ((1 : Int) = 1) = true from rfl, hps] at this
      exact this
    have hX4 := hX3'.rows (j := 10 * i) (v := r3) 107 rfl
    have hpe : pEntry t e p m = .bad f := by unfold pEntry; rw [hps]; rfl
    have h9 : sc (setI s3 107 (10 * i) r3) 102 9 = f := hX4.2.1
    have hf0 : 0 ≤ f := hX4.2.2
    refine ⟨fun c => bad _ f hS4 hX4 hpe hF4 hSm4 (by simp (config := {decide := true}) only [sc_S, ia_S, la_S, rv_S, sc_I, rv_I, la_I, ia_I, sc_L, rv_L, ia_L, la_L, sc_A, rv_A, la_A, ia_A, sc_B, rv_B, ia_B, la_B, sc_R, ia_R, la_R, rv_R, ia_w, la_w, rv_w, sc_w, if_true, if_false]; exact e108), fun c => ?_⟩
    have hhr := scn_le (b := blk t) hX4.1.a1
    have ha0 := hX4.1.a0
    have ha1 := hX4.1.a1
    refine EI.k (e_here (d := d - 1) _ (Nat.le_refl _) hX4.1 hS4) (by omega) (fun ih1 hS5 => ?_)
    refine EV.k (e_wrong (d := d - 1) ih1 hS5) (by omega) (fun hS6 => ?_)
    have h9' : ¬ sc (setS (setI s3 107 (10 * i) r3) 102 8 (skp t e (sc (setI s3 107 (10 * i) r3) 102 8))) 102 9 = -1 := by simp (config := {decide := true}) only [sc_S, ia_S, la_S, rv_S, sc_I, rv_I, la_I, ia_I, sc_L, rv_L, ia_L, la_L, sc_A, rv_A, la_A, ia_A, sc_B, rv_B, ia_B, la_B, sc_R, ia_R, la_R, rv_R, ia_w, la_w, rv_w, sc_w, if_true, if_false]; have := h9; simp (config := {decide := true}) only [sc_S, ia_S, la_S, rv_S, sc_I, rv_I, la_I, ia_I, sc_L, rv_L, ia_L, la_L, sc_A, rv_A, la_A, ia_A, sc_B, rv_B, ia_B, la_B, sc_R, ia_R, la_R, rv_R, ia_w, la_w, rv_w, sc_w, if_true, if_false] at this; omega
    rw [if_neg h9'] at hS6 ⊢
    refine bad _ f hS6 ⟨hX4.1.at (Int.le_trans ha0 hhr.1) hhr.2, by simp (config := {decide := true}) only [sc_S, ia_S, la_S, rv_S, sc_I, rv_I, la_I, ia_I, sc_L, rv_L, ia_L, la_L, sc_A, rv_A, la_A, ia_A, sc_B, rv_B, ia_B, la_B, sc_R, ia_R, la_R, rv_R, ia_w, la_w, rv_w, sc_w, if_true, if_false]; have := h9; simp (config := {decide := true}) only [sc_S, ia_S, la_S, rv_S, sc_I, rv_I, la_I, ia_I, sc_L, rv_L, ia_L, la_L, sc_A, rv_A, la_A, ia_A, sc_B, rv_B, ia_B, la_B, sc_R, ia_R, la_R, rv_R, ia_w, la_w, rv_w, sc_w, if_true, if_false] at this; exact this, hf0⟩ hpe (hF4.setS (by decide)) ?_ ?_
    · simp (config := {decide := true}) only [sc_S, ia_S, la_S, rv_S, sc_I, rv_I, la_I, ia_I, sc_L, rv_L, ia_L, la_L, sc_A, rv_A, la_A, ia_A, sc_B, rv_B, ia_B, la_B, sc_R, ia_R, la_R, rv_R, ia_w, la_w, rv_w, sc_w, if_true, if_false]; simp (config := {decide := true}) only [sc_S, ia_S, la_S, rv_S, sc_I, rv_I, la_I, ia_I, sc_L, rv_L, ia_L, la_L, sc_A, rv_A, la_A, ia_A, sc_B, rv_B, ia_B, la_B, sc_R, ia_R, la_R, rv_R, ia_w, la_w, rv_w, sc_w, if_true, if_false] at hSm4; exact hSm4
    · simp (config := {decide := true}) only [sc_S, ia_S, la_S, rv_S, sc_I, rv_I, la_I, ia_I, sc_L, rv_L, ia_L, la_L, sc_A, rv_A, la_A, ia_A, sc_B, rv_B, ia_B, la_B, sc_R, ia_R, la_R, rv_R, ia_w, la_w, rv_w, sc_w, if_true, if_false]; exact e108
  | ok rr_ =>
    obtain ⟨src, p1, m1⟩ := rr_
    have hX3' := hX3
    rw [show decide ((1 : Int) = 1) = true from rfl, hps] at hX3'
    obtain ⟨hP3, h93, h83, h33, h03, hr3l, hhl3, hlen3⟩ := hX3'
    have hSP3 : SP t e s3 p1 m1 := ⟨hP3, h93, h83, h33, h03, trivial⟩
    have hSP4 : SP t e (setI s3 107 (10 * i) r3) p1 m1 := SX.rows hSP3 107 rfl
    have hb1 := hSP4.b
    have hsrc : hl (ia (setI s3 107 (10 * i) r3) 107) (10 * i + 1) src := by
      simp (config := {decide := true}) only [sc_S, ia_S, la_S, rv_S, sc_I, rv_I, la_I, ia_I, sc_L, rv_L, ia_L, la_L, sc_A, rv_A, la_A, ia_A, sc_B, rv_B, ia_B, la_B, sc_R, ia_R, la_R, rv_R, ia_w, la_w, rv_w, sc_w, if_true, if_false]
      exact (Sm.refl.up (a := 10 * i) (b := 10 * i + 1) (by omega)).hl hhl3 (Or.inr (by omega))
    refine ⟨fun c => ?_, fun c => ?_⟩
    · have hne : ¬ src = [] := fun q => by rw [q] at hr3l; exact c hr3l
      have hl1 : 1 ≤ src.length := by
        cases src with
        | nil => exact absurd rfl hne
        | cons a l => show 1 ≤ l.length + 1; omega
      have hpe1 : pEntry t e p m = (pSign t e 61 p1 m1).bind fun _ p2 m2 => (pWs t e true 3 p2 m2).bind fun tgt p3 m3 => (pNum t e 99 p3 m3).bind fun c p4 m4 => .ok (p, src, tgt, c) p4 m4 := by
        unfold pEntry
        rw [hps]
        show (if src = [] then _ else _) = _
        rw [if_neg hne]
      refine Cl.vo (e_mustSign (d := d - 1) hSP4 hS4 (iR_lit rfl) (by omega)) (by omega) (fun s5 hS5 h5 => ?_)
      obtain ⟨hX5, hF5⟩ := h5
      have e57 : ia s5 107 = ia (setI s3 107 (10 * i) r3) 107 := hF5.a 107 rfl
      have e58 : ia s5 108 = up (ia σ 108) i p := by rw [hF5.a 108 rfl]; simp (config := {decide := true}) only [sc_S, ia_S, la_S, rv_S, sc_I, rv_I, la_I, ia_I, sc_L, rv_L, ia_L, la_L, sc_A, rv_A, la_A, ia_A, sc_B, rv_B, ia_B, la_B, sc_R, ia_R, la_R, rv_R, ia_w, la_w, rv_w, sc_w, if_true, if_false]; exact e108
      have hF5' : Fm [103, 107, 108] [8, 9] σ s5 := hF4.trans (hF5.mono (by decide) (by decide))
      -- the rest, if a fault came
      have badT : ∀ s f, SR s → SX t e s (PR.bad f : PR Unit) (fun _ => True) → pEntry t e p m = .bad f → Fm [103, 107, 108] [8, 9] σ s → Sm (ia σ 107) (ia s 107) (10 * i) (10 * i + 10) → ia s 108 = up (ia σ 108) i p → Cl g ad d mX11_wordsInto 0 0 [.ref (ad 102), .ref (ad 107), vi (10 * i + 4 + 1), vi 3, vi 1] s (Ki fun r6 s6 => (0 ≤ 10 * i + 4 ∧ 10 * i + 4 < 120) ∧ Cl g ad d mX11_number 0 0 [.ref (ad 102), vi 99] (setI s6 107 (10 * i + 4) r6) (Ki fun r8 s8 => (0 ≤ 10 * i + 8 ∧ 10 * i + 8 < 120) ∧ (SR (setI s8 107 (10 * i + 8) r8) → Kv (fun s => SX t e s (pEntry t e p m) (fun x => RowB (ia s 107) (ia s 108) i x) ∧ Fm [103, 107, 108] [8, 9] σ s ∧ Sm (ia σ 107) (ia s 107) (10 * i) (10 * i + 10) ∧ Sm (ia σ 108) (ia s 108) i (i + 1)) (.inl none) (setI s8 107 (10 * i + 8) r8)))) := by
        intro s f hSs hX hbad hFs hSms h108
        have hf0 : 0 ≤ f := hX.2.2
        have h9 : sc s 102 9 = f := hX.2.1
        have hnb : ¬ sc s 102 9 = -1 := by omega
        refine EI.k (e_wordsInto_bad (d := d - 1) aI107 hnb (iR_of (by omega) (by omega)) (iR_lit rfl) (Or.inr rfl) hSs) (by omega) (fun _ _ => ⟨⟨by omega, by omega⟩, ?_⟩)
        refine EI.k (e_number_bad (d := d - 1) (σ := setI s 107 (10 * i + 4) 0) hnb (SR_setI hSs (iR_lit rfl)) (iR_lit rfl)) (by omega) (fun _ _ => ⟨⟨by omega, by omega⟩, re_v ?_⟩)
        rw [hbad]
        refine ⟨(hX.rows 107 rfl).rows 107 rfl, (hFs.setI (by decide)).setI (by decide), ?_, ?_⟩
        · simp (config := {decide := true}) only [sc_S, ia_S, la_S, rv_S, sc_I, rv_I, la_I, ia_I, sc_L, rv_L, ia_L, la_L, sc_A, rv_A, la_A, ia_A, sc_B, rv_B, ia_B, la_B, sc_R, ia_R, la_R, rv_R, ia_w, la_w, rv_w, sc_w, if_true, if_false]
          exact (hSms.up (by omega)).up (by omega)
        · simp (config := {decide := true}) only [sc_S, ia_S, la_S, rv_S, sc_I, rv_I, la_I, ia_I, sc_L, rv_L, ia_L, la_L, sc_A, rv_A, la_A, ia_A, sc_B, rv_B, ia_B, la_B, sc_R, ia_R, la_R, rv_R, ia_w, la_w, rv_w, sc_w, if_true, if_false]
          rw [h108]
          exact Sm.refl.up (by omega)
      cases hsg : pSign t e 61 p1 m1 with
      | error f =>
        rw [hsg] at hX5
        exact badT s5 f hS5 hX5 (by rw [hpe1, hsg]; rfl) hF5' (by rw [e57]; exact hSm4) e58
      | ok rr_ =>
        obtain ⟨u, p2, m2⟩ := rr_
        rw [hsg] at hX5 hpe1
        have hSP5 : SP t e s5 p2 m2 := hX5
        refine Cl.i (e_wordsInto (d := d - 1) (p := p2) (x2 := 10 * i + 4 + 1) (most := 3) (new := 1) aI107 (Or.inl rfl) hSP5 (by omega) (by omega) (by omega) (Or.inr rfl) hS5 (by omega)) (by omega) (fun r6 s6 hr6 hS6 h6 => ⟨⟨by omega, by omega⟩, ?_⟩)
        obtain ⟨hX6, hF6, hSm6, hrb6⟩ := h6
        rw [show decide ((1 : Int) = 1) = true from rfl] at hX6
        have hF6' : Fm [103, 107, 108] [8, 9] σ s6 := hF5'.trans (hF6.mono (by decide) (by decide))
        have hSm6' : Sm (ia σ 107) (ia s6 107) (10 * i) (10 * i + 10) := by
          rw [e57] at hSm6
          exact hSm4.trans (hSm6.mono (by omega) (by omega))
        have e68 : ia s6 108 = up (ia σ 108) i p := by rw [hF6.a 108 rfl]; exact e58
        have hS7 : SR (setI s6 107 (10 * i + 4) r6) := SR_setI hS6 hr6
        have hSm7 : Sm (ia σ 107) (ia (setI s6 107 (10 * i + 4) r6) 107) (10 * i) (10 * i + 10) := by simp (config := {decide := true}) only [sc_S, ia_S, la_S, rv_S, sc_I, rv_I, la_I, ia_I, sc_L, rv_L, ia_L, la_L, sc_A, rv_A, la_A, ia_A, sc_B, rv_B, ia_B, la_B, sc_R, ia_R, la_R, rv_R, ia_w, la_w, rv_w, sc_w, if_true, if_false]; exact hSm6'.up (by omega)
        have hF7 : Fm [103, 107, 108] [8, 9] σ (setI s6 107 (10 * i + 4) r6) := hF6'.setI (by decide)
        cases hpt : pWs t e true 3 p2 m2 with
        | error f =>
          rw [hpt] at hX6
          have hX6' : SX t e s6 (PR.bad f : PR Unit) (fun _ => True) := hX6
          have hX7 := hX6'.rows (j := 10 * i + 4) (v := r6) 107 rfl
          have hf0 : 0 ≤ f := hX7.2.2
          have h9 : sc (setI s6 107 (10 * i + 4) r6) 102 9 = f := hX7.2.1
          refine EI.k (e_number_bad (d := d - 1) (by omega) hS7 (iR_lit rfl)) (by omega) (fun _ _ => ⟨⟨by omega, by omega⟩, re_v ?_⟩)
          have hpe2 : pEntry t e p m = .bad f := by
            rw [hpe1]
            show (pWs t e true 3 p2 m2).bind _ = _
            rw [hpt]
            rfl
          rw [hpe2]
          refine ⟨hX7.rows 107 rfl, hF7.setI (by decide), ?_, ?_⟩
          · simp (config := {decide := true}) only [sc_S, ia_S, la_S, rv_S, sc_I, rv_I, la_I, ia_I, sc_L, rv_L, ia_L, la_L, sc_A, rv_A, la_A, ia_A, sc_B, rv_B, ia_B, la_B, sc_R, ia_R, la_R, rv_R, ia_w, la_w, rv_w, sc_w, if_true, if_false]; simp (config := {decide := true}) only [sc_S, ia_S, la_S, rv_S, sc_I, rv_I, la_I, ia_I, sc_L, rv_L, ia_L, la_L, sc_A, rv_A, la_A, ia_A, sc_B, rv_B, ia_B, la_B, sc_R, ia_R, la_R, rv_R, ia_w, la_w, rv_w, sc_w, if_true, if_false] at hSm7; exact hSm7.up (by omega)
          · simp (config := {decide := true}) only [sc_S, ia_S, la_S, rv_S, sc_I, rv_I, la_I, ia_I, sc_L, rv_L, ia_L, la_L, sc_A, rv_A, la_A, ia_A, sc_B, rv_B, ia_B, la_B, sc_R, ia_R, la_R, rv_R, ia_w, la_w, rv_w, sc_w, if_true, if_false]; rw [e68]; exact Sm.refl.up (by omega)
        | ok rr_ =>
          obtain ⟨tgt, p3, m3⟩ := rr_
          rw [hpt] at hX6
          obtain ⟨hP6, h96, h86, h36, h06, hr6l, hhl6, hlen6⟩ := hX6
          have hSP6 : SP t e s6 p3 m3 := ⟨hP6, h96, h86, h36, h06, trivial⟩
          have hSP7 : SP t e (setI s6 107 (10 * i + 4) r6) p3 m3 := SX.rows hSP6 107 rfl
          have hpe2 : pEntry t e p m = (pNum t e 99 p3 m3).bind fun c p4 m4 => .ok (p, src, tgt, c) p4 m4 := by
            rw [hpe1]
            show (pWs t e true 3 p2 m2).bind _ = _
            rw [hpt]
            rfl
          refine Cl.i (e_number (d := d - 1) hSP7 hS7 (iR_lit rfl) (by omega)) (by omega) (fun r8 s8 hr8 hS8 h8 => ⟨⟨by omega, by omega⟩, re_v ?_⟩)
          obtain ⟨hX8, hF8⟩ := h8
          have e87 : ia s8 107 = ia (setI s6 107 (10 * i + 4) r6) 107 := hF8.a 107 rfl
          have e88 : ia s8 108 = up (ia σ 108) i p := by rw [hF8.a 108 rfl]; simp (config := {decide := true}) only [sc_S, ia_S, la_S, rv_S, sc_I, rv_I, la_I, ia_I, sc_L, rv_L, ia_L, la_L, sc_A, rv_A, la_A, ia_A, sc_B, rv_B, ia_B, la_B, sc_R, ia_R, la_R, rv_R, ia_w, la_w, rv_w, sc_w, if_true, if_false]; exact e68
          have hSm8 : Sm (ia σ 107) (ia (setI s8 107 (10 * i + 8) r8) 107) (10 * i) (10 * i + 10) := by
            simp (config := {decide := true}) only [sc_S, ia_S, la_S, rv_S, sc_I, rv_I, la_I, ia_I, sc_L, rv_L, ia_L, la_L, sc_A, rv_A, la_A, ia_A, sc_B, rv_B, ia_B, la_B, sc_R, ia_R, la_R, rv_R, ia_w, la_w, rv_w, sc_w, if_true, if_false]
            rw [e87]
            exact hSm7.up (by omega)
          have hSm9 : Sm (ia σ 108) (ia (setI s8 107 (10 * i + 8) r8) 108) i (i + 1) := by
            simp (config := {decide := true}) only [sc_S, ia_S, la_S, rv_S, sc_I, rv_I, la_I, ia_I, sc_L, rv_L, ia_L, la_L, sc_A, rv_A, la_A, ia_A, sc_B, rv_B, ia_B, la_B, sc_R, ia_R, la_R, rv_R, ia_w, la_w, rv_w, sc_w, if_true, if_false]
            rw [e88]
            exact Sm.refl.up (by omega)
          have hF9 : Fm [103, 107, 108] [8, 9] σ (setI s8 107 (10 * i + 8) r8) := (hF7.trans (hF8.mono (by decide) (by decide))).setI (by decide)
          refine ⟨?_, hF9, hSm8, hSm9⟩
          rw [hpe2]
          cases hpn : pNum t e 99 p3 m3 with
          | error f =>
            rw [hpn] at hX8
            have hX8' : SX t e s8 (PR.bad f : PR Row) (fun x => RowB (ia (setI s8 107 (10 * i + 8) r8) 107) (ia (setI s8 107 (10 * i + 8) r8) 108) i x) := hX8
            exact hX8'.rows 107 rfl
          | ok rr_ =>
            obtain ⟨c, p4, m4⟩ := rr_
            rw [hpn] at hX8
            obtain ⟨hP8, h98, h88, h38, h08, hr8v, hc0, hc1⟩ := hX8
            have hfin : SX t e s8 (PR.ok (p, src, tgt, c) p4 m4) (fun x => RowB (ia (setI s8 107 (10 * i + 8) r8) 107) (ia (setI s8 107 (10 * i + 8) r8) 108) i x) := by
              refine ⟨hP8, h98, h88, h38, h08, ?_⟩
              have h57 : ia s5 107 = up (ia s3 107) (10 * i) r3 := by rw [e57]; simp (config := {decide := true}) only [sc_S, ia_S, la_S, rv_S, sc_I, rv_I, la_I, ia_I, sc_L, rv_L, ia_L, la_L, sc_A, rv_A, la_A, ia_A, sc_B, rv_B, ia_B, la_B, sc_R, ia_R, la_R, rv_R, ia_w, la_w, rv_w, sc_w, if_true, if_false]
              have hsrc5 : hl (ia s5 107) (10 * i + 1) src := by rw [e57]; exact hsrc
              have hsrc6 : hl (ia s6 107) (10 * i + 1) src := hSm6.hl hsrc5 (Or.inl (by omega))
              have e06 : ia s6 107 (10 * i) = r3 := by rw [hSm6 _ (by omega), h57, up_at]
              refine ⟨?_, ?_, ?_, ?_, ?_, ?_, ⟨hl1, by show src.length ≤ 3; omega⟩, by show tgt.length ≤ 3; omega, ⟨hc0, hc1⟩, hb.1⟩
              · simp (config := {decide := true}) only [sc_S, ia_S, la_S, rv_S, sc_I, rv_I, la_I, ia_I, sc_L, rv_L, ia_L, la_L, sc_A, rv_A, la_A, ia_A, sc_B, rv_B, ia_B, la_B, sc_R, ia_R, la_R, rv_R, ia_w, la_w, rv_w, sc_w, if_true, if_false]
                rw [e88, up_at]
              · simp (config := {decide := true}) only [sc_S, ia_S, la_S, rv_S, sc_I, rv_I, la_I, ia_I, sc_L, rv_L, ia_L, la_L, sc_A, rv_A, la_A, ia_A, sc_B, rv_B, ia_B, la_B, sc_R, ia_R, la_R, rv_R, ia_w, la_w, rv_w, sc_w, if_true, if_false]
                rw [e87]
                simp (config := {decide := true}) only [sc_S, ia_S, la_S, rv_S, sc_I, rv_I, la_I, ia_I, sc_L, rv_L, ia_L, la_L, sc_A, rv_A, la_A, ia_A, sc_B, rv_B, ia_B, la_B, sc_R, ia_R, la_R, rv_R, ia_w, la_w, rv_w, sc_w, if_true, if_false]
                rw [up_ne (by omega), up_ne (by omega), e06]
                exact hr3l
              · simp (config := {decide := true}) only [sc_S, ia_S, la_S, rv_S, sc_I, rv_I, la_I, ia_I, sc_L, rv_L, ia_L, la_L, sc_A, rv_A, la_A, ia_A, sc_B, rv_B, ia_B, la_B, sc_R, ia_R, la_R, rv_R, ia_w, la_w, rv_w, sc_w, if_true, if_false]
                rw [e87]
                simp (config := {decide := true}) only [sc_S, ia_S, la_S, rv_S, sc_I, rv_I, la_I, ia_I, sc_L, rv_L, ia_L, la_L, sc_A, rv_A, la_A, ia_A, sc_B, rv_B, ia_B, la_B, sc_R, ia_R, la_R, rv_R, ia_w, la_w, rv_w, sc_w, if_true, if_false]
                exact (Sm.refl.up (a := 10 * i + 8) (b := 10 * i + 9) (by omega)).hl ((Sm.refl.up (a := 10 * i + 4) (b := 10 * i + 5) (by omega)).hl hsrc6 (Or.inl (by show 10 * i + 1 + (src.length : Int) ≤ _; omega))) (Or.inl (by show 10 * i + 1 + (src.length : Int) ≤ _; omega))
              · simp (config := {decide := true}) only [sc_S, ia_S, la_S, rv_S, sc_I, rv_I, la_I, ia_I, sc_L, rv_L, ia_L, la_L, sc_A, rv_A, la_A, ia_A, sc_B, rv_B, ia_B, la_B, sc_R, ia_R, la_R, rv_R, ia_w, la_w, rv_w, sc_w, if_true, if_false]
                rw [e87]
                simp (config := {decide := true}) only [sc_S, ia_S, la_S, rv_S, sc_I, rv_I, la_I, ia_I, sc_L, rv_L, ia_L, la_L, sc_A, rv_A, la_A, ia_A, sc_B, rv_B, ia_B, la_B, sc_R, ia_R, la_R, rv_R, ia_w, la_w, rv_w, sc_w, if_true, if_false]
                rw [up_ne (by omega), up_at]
                exact hr6l
              · simp (config := {decide := true}) only [sc_S, ia_S, la_S, rv_S, sc_I, rv_I, la_I, ia_I, sc_L, rv_L, ia_L, la_L, sc_A, rv_A, la_A, ia_A, sc_B, rv_B, ia_B, la_B, sc_R, ia_R, la_R, rv_R, ia_w, la_w, rv_w, sc_w, if_true, if_false]
                rw [e87]
                simp (config := {decide := true}) only [sc_S, ia_S, la_S, rv_S, sc_I, rv_I, la_I, ia_I, sc_L, rv_L, ia_L, la_L, sc_A, rv_A, la_A, ia_A, sc_B, rv_B, ia_B, la_B, sc_R, ia_R, la_R, rv_R, ia_w, la_w, rv_w, sc_w, if_true, if_false]
                have hhl6' : hl (ia s6 107) (10 * i + 5) tgt := by
                  rw [show 10 * i + 5 = 10 * i + 4 + 1 by omega]
                  exact hhl6
                exact (Sm.refl.up (a := 10 * i + 8) (b := 10 * i + 9) (by omega)).hl ((Sm.refl.up (a := 10 * i + 4) (b := 10 * i + 5) (by omega)).hl hhl6' (Or.inr (by omega))) (Or.inl (by show 10 * i + 5 + (tgt.length : Int) ≤ _; omega))
              · simp (config := {decide := true}) only [sc_S, ia_S, la_S, rv_S, sc_I, rv_I, la_I, ia_I, sc_L, rv_L, ia_L, la_L, sc_A, rv_A, la_A, ia_A, sc_B, rv_B, ia_B, la_B, sc_R, ia_R, la_R, rv_R, ia_w, la_w, rv_w, sc_w, if_true, if_false]
                rw [up_at]
                exact hr8v
            exact hfin.rows 107 rfl
    · have hnil : src = [] := by
        cases src with
        | nil => rfl
        | cons a l =>
          have : r3 = ((l.length + 1 : Nat) : Int) := hr3l
          exact absurd c (by omega)
      have hpe : pEntry t e p m = .bad p1 := by
        unfold pEntry
        rw [hps]
        show (if src = [] then _ else _) = _
        rw [if_pos hnil]
      refine EI.k (w_here (d := d - 1) hSP4 hS4) (by omega) (fun ip1 hS5 => ?_)
      refine EV.k (e_wrong (d := d - 1) ip1 hS5) (by omega) (fun hS6 => ?_)
      have h9' : sc (setS (setI s3 107 (10 * i) r3) 102 8 p1) 102 9 = -1 := by simp (config := {decide := true}) only [sc_S, ia_S, la_S, rv_S, sc_I, rv_I, la_I, ia_I, sc_L, rv_L, ia_L, la_L, sc_A, rv_A, la_A, ia_A, sc_B, rv_B, ia_B, la_B, sc_R, ia_R, la_R, rv_R, ia_w, la_w, rv_w, sc_w, if_true, if_false]; exact h93
      rw [if_pos h9'] at hS6 ⊢
      refine bad _ p1 hS6 (hSP4.at.bad hb1.1) hpe ((hF4.setS (by decide)).setS (by decide)) ?_ ?_
      · simp (config := {decide := true}) only [sc_S, ia_S, la_S, rv_S, sc_I, rv_I, la_I, ia_I, sc_L, rv_L, ia_L, la_L, sc_A, rv_A, la_A, ia_A, sc_B, rv_B, ia_B, la_B, sc_R, ia_R, la_R, rv_R, ia_w, la_w, rv_w, sc_w, if_true, if_false]; simp (config := {decide := true}) only [sc_S, ia_S, la_S, rv_S, sc_I, rv_I, la_I, ia_I, sc_L, rv_L, ia_L, la_L, sc_A, rv_A, la_A, ia_A, sc_B, rv_B, ia_B, la_B, sc_R, ia_R, la_R, rv_R, ia_w, la_w, rv_w, sc_w, if_true, if_false] at hSm4; exact hSm4
      · simp (config := {decide := true}) only [sc_S, ia_S, la_S, rv_S, sc_I, rv_I, la_I, ia_I, sc_L, rv_L, ia_L, la_L, sc_A, rv_A, la_A, ia_A, sc_B, rv_B, ia_B, la_B, sc_R, ia_R, la_R, rv_R, ia_w, la_w, rv_w, sc_w, if_true, if_false]; exact e108
end PAS
