section TDs
variable {g : AG} {ad : Nat → Nat} {d : Nat} {σ : SG} {m k tp t : Int → Int} {h tn f e : Int}
/-- a row as an array -/
def lz (l : List Int) : Int → Int := fun j => l.getD j.toNat 0
theorem lz_hl {R : Int → Int} {l : List Int} (hh : hl R 0 l) : ∀ j : Int, 0 ≤ j → j < (l.length : Int) → R j = lz l j := by
  intro j h0 h1
  have := hl_getD hh (i := j.toNat) (by omega)
  rw [Int.zero_add, show ((j.toNat : Nat) : Int) = j by omega] at this
  exact this
def toldP (t : Int → Int) (e : Int) (m : Int → Int) : Except Int (List Int) := match pWs t e false 18 (skp t e 0) m with
  | Except.error f => Except.error f
  | Except.ok (l, p, _) => if p < e then Except.error p else Except.ok l
theorem pWord_same {p w p' : Int} {m' : Int → Int} (hok : pWord t e false p m = .ok w p' m') : m' = m := by
  unfold pWord at hok
  split at hok
  · cases hok
  · split at hok
    · cases hok; rfl
    · split at hok
      · cases hok; rfl
      · rename_i c; exact absurd rfl c
theorem pWords_same {most : Int} : ∀ (n : Nat) (l : List Int) (p : Int) {l' : List Int} {p' : Int} {m' : Int → Int}, pWords t e false most n l p m = .ok l' p' m' → m' = m
  | 0, l, p, l', p', m', hok => by
    unfold pWords at hok
    cases hok
  | n + 1, l, p, l', p', m', hok => by
    unfold pWords at hok
    split at hok
    · cases hok; rfl
    · split at hok
      · cases hok
      · cases hw : pWord t e false p m with
        | error f => rw [hw] at hok; cases hok
        | ok rr_ =>
          obtain ⟨w, p1, m1⟩ := rr_
          rw [hw] at hok
          have e1 : m1 = m := pWord_same hw
          rw [e1] at hok
          exact pWords_same n (l ++ [w]) p1 hok
/-- how a told text comes out -/
def TD (σ s : SG) (m k : Int → Int) (h : Int) (tp : Int → Int) (r : Int) (x : Except Int (List Int)) : Prop := match x with
  | Except.error f => 0 ≤ f ∧ r = 0 ∧ sc s 102 0 = 1 ∧ Fc σ s ∧ PS s m k h tp 0 f
  | Except.ok l => r = 1 ∧ sc s 102 0 = 0 ∧ Fc σ s ∧ PS s m k h tp 0 (-1) ∧ sc s 102 14 = (l.length : Int) ∧ hl (ia s 109) 0 l ∧ (l.length : Int) ≤ 18
theorem e_isTold (p : PS σ m k h tp tn f) (hG : GM m) (htb : ∀ j, 0 ≤ tp j ∧ tp j ≤ 255) (htn : 0 ≤ tn ∧ tn ≤ 400) (hS : SR σ) (hd : 6 ≤ d) : Eb g ad d mX11_isTold 0 0 [.ref (ad 102)] σ (Ki fun r s => TD σ s m k h tp r (toldP tp tn m)) := by
  refine EbS rfl pl_X11 rfl rfl (bX11_isTold_0 hS ?_)
  refine Cl.vo (e_begins (d := d - 1) hS) (by omega) (fun s1 hS1 b1 => ?_)
  have hSP := b1.sp p hG htb htn
  have q1 := b1.af p
  have hFc1 : Fc σ s1 := b1.fm.c rfl
  refine Cl.i (e_wordsInto (d := d - 1) (new := 0) (most := 18) (x2 := 0) aI109 (Or.inr rfl) hSP (by omega) (by decide) (by omega) (Or.inl rfl) hS1 (by omega)) (by omega) (fun r2 s2 hr2 hS2 h2 => ?_)
  obtain ⟨hX, hF2, -, hrb⟩ := h2
  have hF2' : Fm [103, 109] [8, 9, 14] s1 (setS s2 102 14 r2) := (hF2.mono (by decide) (by decide)).setS (by decide)
  have q2 := q1.fm hF2' rfl rfl
  have hS2' : SR (setS s2 102 14 r2) := SR_setS hS2 hr2
  have hFc2 : Fc σ (setS s2 102 14 r2) := hFc1.trans (hF2'.c rfl)
  have badEnd : ∀ (τ : SG) (f : Int), SR τ → AF τ m k h tp → sc τ 102 9 = f → 0 ≤ f → ZR 855 (ia τ 103) → Fc σ τ → toldP tp tn m = Except.error f → Cl g ad d mX11_isRight 0 0 [.ref (ad 102)] τ (Ki fun r3 s3 => (r3 = 0 ∨ r3 = 1) ∧ (iR r3 → SR s3 → Ki (fun r s => TD σ s m k h tp r (toldP tp tn m)) (.inl (some (vi r3))) s3)) := by
    intro τ f hSt q h9 hf hz hFc hR
    refine Cl.i (e_isRight_bad (d := d - 1) q h9 hf hz hG.zr hSt) (by omega) (fun r s hr hs hh => ⟨Or.inl hh.1, re_i ?_⟩)
    rw [hR]
    exact ⟨hf, hh.1, hh.2.1, hFc.trans (hh.2.2.2.c rfl), hh.2.2.1⟩
  have hde : decide ((0 : Int) = 1) = false := rfl
  rw [hde] at hX
  cases hrd : pWs tp tn false 18 (skp tp tn 0) m with
  | error f0 =>
    rw [hrd] at hX
    have h9 : sc s2 102 9 = f0 := hX.2.1
    have hf0 : 0 ≤ f0 := hX.2.2
    simp (config := {decide := true}) only [sc_S, ia_S, la_S, rv_S, sc_I, rv_I, la_I, ia_I, sc_L, rv_L, ia_L, la_L, sc_A, rv_A, la_A, ia_A, sc_B, rv_B, ia_B, la_B, sc_R, ia_R, la_R, rv_R, ia_w, la_w, rv_w, sc_w, if_true, if_false]
    refine ⟨fun _ => badEnd _ f0 hS2' q2 (by simp (config := {decide := true}) only [sc_S, ia_S, la_S, rv_S, sc_I, rv_I, la_I, ia_I, sc_L, rv_L, ia_L, la_L, sc_A, rv_A, la_A, ia_A, sc_B, rv_B, ia_B, la_B, sc_R, ia_R, la_R, rv_R, ia_w, la_w, rv_w, sc_w, if_true, if_false]; exact h9) hf0 hX.1.zr hFc2 ?_, fun z => absurd z (by omega)⟩
    unfold toldP
    rw [hrd]
  | ok rr_ =>
    obtain ⟨l, p1, m1⟩ := rr_
    rw [hrd] at hX
    obtain ⟨hP, h9, h8, h3, h0, hl1, hl2, hl3⟩ := hX
    have e1 : m1 = m := pWords_same _ _ _ hrd
    subst e1
    have hSP2 : SP tp tn (setS s2 102 14 r2) p1 m1 := ⟨⟨hP.tp, hP.tb, by simp (config := {decide := true}) only [sc_S, ia_S, la_S, rv_S, sc_I, rv_I, la_I, ia_I, sc_L, rv_L, ia_L, la_L, sc_A, rv_A, la_A, ia_A, sc_B, rv_B, ia_B, la_B, sc_R, ia_R, la_R, rv_R, ia_w, la_w, rv_w, sc_w, if_true, if_false]; exact hP.en, hP.eb, by simp (config := {decide := true}) only [sc_S, ia_S, la_S, rv_S, sc_I, rv_I, la_I, ia_I, sc_L, rv_L, ia_L, la_L, sc_A, rv_A, la_A, ia_A, sc_B, rv_B, ia_B, la_B, sc_R, ia_R, la_R, rv_R, ia_w, la_w, rv_w, sc_w, if_true, if_false]; exact hP.a0, by simp (config := {decide := true}) only [sc_S, ia_S, la_S, rv_S, sc_I, rv_I, la_I, ia_I, sc_L, rv_L, ia_L, la_L, sc_A, rv_A, la_A, ia_A, sc_B, rv_B, ia_B, la_B, sc_R, ia_R, la_R, rv_R, ia_w, la_w, rv_w, sc_w, if_true, if_false]; exact hP.a1, hP.zr⟩, by simp (config := {decide := true}) only [sc_S, ia_S, la_S, rv_S, sc_I, rv_I, la_I, ia_I, sc_L, rv_L, ia_L, la_L, sc_A, rv_A, la_A, ia_A, sc_B, rv_B, ia_B, la_B, sc_R, ia_R, la_R, rv_R, ia_w, la_w, rv_w, sc_w, if_true, if_false]; exact h9, by simp (config := {decide := true}) only [sc_S, ia_S, la_S, rv_S, sc_I, rv_I, la_I, ia_I, sc_L, rv_L, ia_L, la_L, sc_A, rv_A, la_A, ia_A, sc_B, rv_B, ia_B, la_B, sc_R, ia_R, la_R, rv_R, ia_w, la_w, rv_w, sc_w, if_true, if_false]; exact h8, h3, h0, trivial⟩
    have hb2 := hSP2.b
    simp (config := {decide := true}) only [sc_S, ia_S, la_S, rv_S, sc_I, rv_I, la_I, ia_I, sc_L, rv_L, ia_L, la_L, sc_A, rv_A, la_A, ia_A, sc_B, rv_B, ia_B, la_B, sc_R, ia_R, la_R, rv_R, ia_w, la_w, rv_w, sc_w, if_true, if_false]
    refine ⟨fun z => absurd h9 z, fun _ => ?_⟩
    refine EI.k (w_here (d := d - 1) hSP2 hS2') (by omega) (fun _ hS4 => ?_)
    have hSP4 := hSP2.at
    have hF4 : Fm [] [8] (setS s2 102 14 r2) (setS (setS s2 102 14 r2) 102 8 p1) := (Fm.refl _).setS (by decide)
    have q4 := q2.fm hF4 rfl rfl
    rw [hSP4.1.en]
    refine ⟨fun c => ?_, fun c => ?_⟩
    · refine Cl.i (e_isRight_ok (d := d - 1) q4 hSP4.2.1 hSP4.2.2.2.1 hS4) (by omega) (fun r s hr hs hh => ⟨Or.inr hh.1, re_i ?_⟩)
      obtain ⟨hr1, hth, hps, es⟩ := hh
      have e2 : toldP tp tn m1 = Except.ok l := by
        unfold toldP
        rw [hrd]
        exact if_neg (by omega)
      rw [e2]
      refine ⟨hr1, hth, ?_, hps, ?_, ?_, hl3⟩
      · rw [es]; exact hFc2.S.S
      · rw [es]; simp (config := {decide := true}) only [sc_S, ia_S, la_S, rv_S, sc_I, rv_I, la_I, ia_I, sc_L, rv_L, ia_L, la_L, sc_A, rv_A, la_A, ia_A, sc_B, rv_B, ia_B, la_B, sc_R, ia_R, la_R, rv_R, ia_w, la_w, rv_w, sc_w, if_true, if_false]; exact hl1
      · rw [es]; exact hl2
    · simp (config := {decide := true}) only [sc_S, ia_S, la_S, rv_S, sc_I, rv_I, la_I, ia_I, sc_L, rv_L, ia_L, la_L, sc_A, rv_A, la_A, ia_A, sc_B, rv_B, ia_B, la_B, sc_R, ia_R, la_R, rv_R, ia_w, la_w, rv_w, sc_w, if_true, if_false]
      refine EV.k (e_wrong (d := d - 1) (iR_of (by omega) (by omega)) hS4) (by omega) (fun hS5 => ?_)
      have h94 : sc (setS (setS s2 102 14 r2) 102 8 p1) 102 9 = -1 := hSP4.2.1
      rw [if_pos h94] at hS5 ⊢
      have hF5 : Fm [] [8, 9] (setS s2 102 14 r2) (setS (setS (setS s2 102 14 r2) 102 8 p1) 102 9 p1) := ((Fm.refl _).setS (by decide)).setS (by decide)
      refine badEnd _ p1 hS5 (q2.fm hF5 rfl rfl) (by simp (config := {decide := true}) only [sc_S, ia_S, la_S, rv_S, sc_I, rv_I, la_I, ia_I, sc_L, rv_L, ia_L, la_L, sc_A, rv_A, la_A, ia_A, sc_B, rv_B, ia_B, la_B, sc_R, ia_R, la_R, rv_R, ia_w, la_w, rv_w, sc_w, if_true, if_false]) hb2.1 (by simp (config := {decide := true}) only [sc_S, ia_S, la_S, rv_S, sc_I, rv_I, la_I, ia_I, sc_L, rv_L, ia_L, la_L, sc_A, rv_A, la_A, ia_A, sc_B, rv_B, ia_B, la_B, sc_R, ia_R, la_R, rv_R, ia_w, la_w, rv_w, sc_w, if_true, if_false]; rw [h3]; exact hG.zr) (hFc2.S.S) ?_
      unfold toldP
      rw [hrd]
      exact if_pos (by omega)
/-- an answer about a told text -/
def TQ (σ s : SG) (m k : Int → Int) (h : Int) (tp : Int → Int) (r : Int) (x : Except Int (List Int)) (V : List Int → Int) : Prop := match x with
  | Except.error f => 0 ≤ f ∧ r = 0 ∧ sc s 102 0 = 1 ∧ Fc σ s ∧ PS s m k h tp 0 f
  | Except.ok l => r = V l ∧ sc s 102 0 = 0 ∧ Fc σ s ∧ PS s m k h tp 0 (-1)
theorem PS.c {s : SG} (p : PS σ m k h tp tn f) {A K : List Nat} (hF : Fm A K σ s) (hA : A.all (fun c => decide (c ≠ 103 ∧ c ≠ 105 ∧ c ≠ 106)) = true) (hK : K.all (fun k => decide (k ≠ 4 ∧ k ≠ 6 ∧ k ≠ 9)) = true) (hl : LI s) : PS s m k h tp tn f := by
  have ha : ∀ c, c = 103 ∨ c = 105 ∨ c = 106 → ia s c = ia σ c := fun c hc => hF.2.2.1 c (fun q => by have := of_decide_eq_true (List.all_eq_true.mp hA c q); omega)
  have hk : ∀ c, c = 4 ∨ c = 6 ∨ c = 9 → sc s 102 c = sc σ 102 c := fun c hc => hF.2.2.2 102 c (fun q => by have := of_decide_eq_true (List.all_eq_true.mp hK c q.2); omega)
  exact ⟨by rw [ha 103 (by omega)]; exact p.m, by rw [ha 105 (by omega)]; exact p.k, by rw [hk 4 (by omega)]; exact p.h, by rw [ha 106 (by omega)]; exact p.tp, by rw [hk 6 (by omega)]; exact p.tn, by rw [hk 9 (by omega)]; exact p.f, hl⟩
theorem allN_cong {p q : Int → Bool} : ∀ (n : Nat) (k : Int), (∀ j, k ≤ j → j < k + n → p j = q j) → allN p n k = allN q n k
  | 0, k, _ => rfl
  | n + 1, k, h => by
    rw [allN, allN, h k (Int.le_refl _) (by omega), allN_cong n (k + 1) (fun j h1 h2 => h j (by omega) (by omega))]
theorem spk_cong {tl tl' : Int → Int} {n : Int} {q : Op} (hn : 0 ≤ n) (hN : 0 ≤ tgN m q.2) (ht : ∀ j, 0 ≤ j → j < tn → tl j = tl' j) : spk m tl tn n q = spk m tl' tn n q := by
  unfold spk
  by_cases c : n + tgN m q.2 ≤ tn
  · rw [decide_eq_true c, Bool.true_and, Bool.true_and]
    refine allN_cong _ _ (fun j h0 h1 => ?_)
    rw [ht (n + j) (by omega) (by omega)]
  · rw [decide_eq_false c, Bool.false_and, Bool.false_and]
theorem frM_cong (hW : WF m) {tl tl' : Int → Int} (ht : ∀ j, 0 ≤ j → j < tn → tl j = tl' j) : ∀ (n : Nat) (x : Nd), fd tn x → mu x < n → frM m tl tn x = frM m tl' tn x := by
  intro n
  induction n with
  | zero => intro x _ h; omega
  | succ n ih =>
    intro x hx hn
    have hlast : lastT tl x.2.2 = lastT tl' x.2.2 := by
      unfold lastT
      by_cases c : x.2.2 = 0
      · rw [if_pos c, if_pos c]
      · have := hx.2.2
        rw [if_neg c, if_neg c, ht _ (by omega) (by omega)]
    rw [frM_eq hW hx, frM_eq hW hx]
    unfold fcG
    rw [hlast]
    by_cases c : x.1 = fullM m
    · rw [if_pos c, if_pos c]
    · rw [if_neg c, if_neg c]
      refine foldl_cong _ _ (fun b q hq => ?_)
      have hN := tgN_b hW.2.1 (mem_sr.mp hq).2
      have hs : fcB m tl tn x q = fcB m tl' tn x q := by
        unfold fcB
        rw [spk_cong hx.2.2.1 hN.1 ht]
      rw [hs]
      by_cases c2 : fcB m tl' tn x q = true
      · have hst := fc_stp hW hx hq c2
        rw [if_pos c2, if_pos c2, ih _ hst.1 (by omega)]
      · rw [if_neg c2, if_neg c2]
theorem forcedV_cong (hW : WF m) {tl tl' : Int → Int} (htn : 0 ≤ tn) (ht : ∀ j, 0 ≤ j → j < tn → tl j = tl' j) : forcedV m tl tn = forcedV m tl' tn := by
  have := frM_cong hW ht 7 (0, 0, 0) ⟨⟨by decide, by decide⟩, ⟨by decide, by decide⟩, ⟨by decide, htn⟩⟩ (by decide)
  unfold forcedV
  rw [this]
theorem e_forced (p : PS σ m k h tp tn f) (hG : GM m) (htb : ∀ j, 0 ≤ tp j ∧ tp j ≤ 255) (htn : 0 ≤ tn ∧ tn ≤ 400) (hS : SR σ) (hd : 12 ≤ d) : Eb g ad d mX11_forced 0 0 [.ref (ad 102)] σ (Ki fun r s => TQ σ s m k h tp r (toldP tp tn m) (fun l => forcedV m (lz l) l.length)) := by
  refine EbS rfl pl_X11 rfl rfl (bX11_forced_0 hS ?_)
  refine Cl.i (e_isTold (d := d - 1) p hG htb htn hS (by omega)) (by omega) (fun r1 s1 hr1 hS1 h1 => ?_)
  cases htd : toldP tp tn m with
  | error f0 =>
    rw [htd] at h1
    obtain ⟨h1, h2, h3, h4, h5⟩ := h1
    exact ⟨fun z => absurd h2 z, fun _ => re_i ⟨h1, rfl, h3, h4, h5⟩⟩
  | ok l =>
    rw [htd] at h1
    obtain ⟨h1, h2, h3, h4, h5, h6, h7⟩ := h1
    refine ⟨fun _ _ _ => ?_, fun z => absurd z (by omega)⟩
    refine up_loop (P := fun j => ∀ τ, SR τ → Fm [127] [] s1 τ → (∀ i, 0 ≤ i → i < j → ia τ 127 i = -1) → aX11_forced_11 g ad d (Ki fun r s => TQ σ s m k h tp r (Except.ok l) (fun l => forcedV m (lz l) l.length)) 0 0 τ j) (hi := 8512) 0 (by omega) ?_ ?_ s1 hS1 (Fm.refl s1) (fun i h0 h1 => by omega)
    · intro τ hSt hF hall
      have e9 : ia τ 109 = ia s1 109 := hF.a 109 rfl
      have e14 : sc τ 102 14 = (l.length : Int) := by rw [hF.s 14 rfl]; exact h5
      refine bX11_forced_11 (iR_lit rfl) hSt ⟨fun _ => ?_, fun z => absurd (by decide) z⟩
      refine Cl.i (e_forcedFrom (m := m) (tl := ia s1 109) (tn := (l.length : Int)) hG.wf ⟨by omega, h7⟩ 7 (d := d - 1) (x := (0, 0, 0)) (by decide) (by omega) ⟨⟨by decide, by decide⟩, ⟨by decide, by decide⟩, ⟨by decide, by show (0 : Int) ≤ _; omega⟩⟩ (by rw [hF.a 103 rfl]; exact h4.m) e9 e14 hSt ?_) (by omega) (fun r s hr hs hh => ?_)
      · intro x hx
        obtain ⟨⟨x1, x2⟩, ⟨x3, x4⟩, x5, x6⟩ := hx
        exact Or.inl (hall _ (by omega) (by omega))
      · obtain ⟨h8, -, hF8⟩ := hh
        have hps : PS s m k h tp 0 (-1) := (h4.c hF rfl rfl (by intro z; have := h4.li; unfold LI at this; rw [hF.a 103 rfl, hF.a 112 rfl]; exact this (by rw [← hF.s 20 rfl]; exact z))).c hF8 rfl rfl (by intro z; have := h4.li; unfold LI at this; rw [hF8.a 103 rfl, hF8.a 112 rfl, hF.a 103 rfl, hF.a 112 rfl]; exact this (by rw [← hF.s 20 rfl, ← hF8.s 20 rfl]; exact z))
        have hfc : Fc σ s := (h3.trans (hF.c rfl)).trans (hF8.c rfl)
        have e0 : sc s 102 0 = 0 := by rw [hF8.s 0 rfl, hF.s 0 rfl]; exact h2
        have hv : forcedV m (lz l) l.length = if r = 1000000000 then -1 else r := by
          rw [← forcedV_cong hG.wf (by omega) (lz_hl h6)]
          unfold forcedV
          rw [h8]
        exact ⟨fun c => re_i ⟨by show r = forcedV m (lz l) l.length; rw [hv, if_neg c], e0, hfc, hps⟩, fun c => re_i ⟨by show -1 = forcedV m (lz l) l.length; rw [hv, if_pos c], e0, hfc, hps⟩⟩
    · intro j hj0 hj1 ih τ hSt hF hall
      refine bX11_forced_11 (iR_of (by omega) (by omega)) hSt ⟨fun z => absurd z (by omega), fun _ => ⟨⟨hj0, hj1⟩, iR_of (by omega) (by omega), fun _ hS' => ?_⟩⟩
      refine ih _ hS' (hF.setI (by decide)) (fun i hi0 hi1 => ?_)
      rw [ia_setI]
      by_cases e : i = j
      · rw [e, up_at]
      · rw [up_ne e]; exact hall i hi0 (by omega)
theorem e_near (p : PS σ m k h tp tn f) (hG : GM m) (htb : ∀ j, 0 ≤ tp j ∧ tp j ≤ 255) (htn : 0 ≤ tn ∧ tn ≤ 400) (hS : SR σ) (hd : 22 ≤ d) : Eb g ad d mX11_near 0 0 [.ref (ad 102)] σ (Ki fun r s => TQ σ s m k h tp r (toldP tp tn m) (fun l => nearV m (lz l) l.length)) := by
  refine EbS rfl pl_X11 rfl rfl (bX11_near_0 hS ?_)
  refine Cl.i (e_isTold (d := d - 1) p hG htb htn hS (by omega)) (by omega) (fun r1 s1 hr1 hS1 h1 => ?_)
  cases htd : toldP tp tn m with
  | error f0 =>
    rw [htd] at h1
    obtain ⟨h1, h2, h3, h4, h5⟩ := h1
    exact ⟨fun _ => re_i ⟨h1, rfl, h3, h4, h5⟩, fun z => absurd h2 z⟩
  | ok l =>
    rw [htd] at h1
    obtain ⟨h1, h2, h3, h4, h5, h6, h7⟩ := h1
    refine ⟨fun z => absurd z (by omega), fun _ => ?_⟩
    refine Cl.i (e_nearTold (d := d - 1) (tl := lz l) (tn := (l.length : Int)) h4.m (lz_hl h6) h5 ⟨by omega, h7⟩ hG.wf hS1 h4.li (by omega)) (by omega) (fun r s hr hs hh => re_i ?_)
    obtain ⟨h8, h9, h10⟩ := hh
    exact ⟨h8, by rw [h10.s 0 rfl]; exact h2, h3.trans (h10.c rfl), h4.c h10 rfl rfl h9⟩
theorem alR_cong {f f' h h' : Int → Int} {i j n : Int} (hh : ∀ k, 0 ≤ k → k < n → f (i + k) = f' (i + k) ∧ h (j + k) = h' (j + k)) : alR f i h j n = alR f' i h' j n := by
  unfold alR
  refine allN_cong _ _ (fun k h0 h1 => ?_)
  have := hh k h0 (by omega)
  rw [this.1, this.2]
theorem mtV_cong {f f' tl tl' : Int → Int} {N tn n : Int} (hn : 1 ≤ n) (hf : ∀ j, 0 ≤ j → j < N → f j = f' j) (ht : ∀ j, 0 ≤ j → j < tn → tl j = tl' j) : mtV f N tl tn n = mtV f' N tl' tn n := by
  unfold mtV
  refine foldl_cong _ _ (fun s i hi => ?_)
  rw [mem_ir] at hi
  have h1 : ∀ j, 0 ≤ j → j < N - n + 1 → alR f j f i n = alR f' j f' i n := fun j h0 h1 => alR_cong (fun k hk0 hk1 => ⟨hf _ (by omega) (by omega), hf _ (by omega) (by omega)⟩)
  have h2 : ∀ j, 0 ≤ j → j < tn - n + 1 → alR tl j f i n = alR tl' j f' i n := fun j h0 h1 => alR_cong (fun k hk0 hk1 => ⟨ht _ (by omega) (by omega), hf _ (by omega) (by omega)⟩)
  congr 1
  unfold mtS
  have e1 : allN (fun j => !alR f j f i n) i.toNat 0 = allN (fun j => !alR f' j f' i n) i.toNat 0 := allN_cong _ _ (fun j h0 h1' => by rw [h1 j (by omega) (by omega)])
  have e2 : tms f N f i n = tms f' N f' i n := by
    unfold tms
    rw [filter_cong' (p := fun j => alR f j f i n) (q := fun j => alR f' j f' i n) (fun a ha => h1 a (mem_ir.mp ha).1 (mem_ir.mp ha).2)]
  have e3 : tms tl tn f i n = tms tl' tn f' i n := by
    unfold tms
    rw [filter_cong' (p := fun j => alR tl j f i n) (q := fun j => alR tl' j f' i n) (fun a ha => h2 a (mem_ir.mp ha).1 (mem_ir.mp ha).2)]
  rw [e1, e2, e3]
def matchV (m : Int → Int) (n : Int) (l : List Int) : Int := mtV (lz (tx m 0)) (tx m 0).length (lz l) l.length n
theorem e_match {x1 : Int} (p : PS σ m k h tp tn f) (hG : GM m) (htb : ∀ j, 0 ≤ tp j ∧ tp j ≤ 255) (htn : 0 ≤ tn ∧ tn ≤ 400) (hS : SR σ) (h1 : iR x1) (hd : 22 ≤ d) : Eb g ad d mX11_match 0 0 [.ref (ad 102), vi x1] σ (Ki fun r s => ((1 ≤ x1 ∧ x1 ≤ 3) → TQ σ s m k h tp r (toldP tp tn m) (matchV m x1)) ∧ (¬ (1 ≤ x1 ∧ x1 ≤ 3) → r = 0 ∧ sc s 102 0 = 1 ∧ Fc σ s ∧ PS s m k h tp 0 f)) := by
  refine EbS rfl pl_X11 rfl rfl (bX11_match_0 h1 hS ?_)
  refine EI.k (by apply e_isIn <;> (first | with_reducible assumption | with_reducible exact iR_of (by omega) (by omega) | omega | with_reducible (exact bi_01) | assumption)) (by omega) (fun _ _ => ?_)
  refine bi_nz (fun c1 => ?_) (fun c1 => ?_)
  · refine Cl.i (e_isTold (d := d - 1) p hG htb htn hS (by omega)) (by omega) (fun r1 s1 hr1 hS1 h1' => ?_)
    cases htd : toldP tp tn m with
    | error f0 =>
      rw [htd] at h1'
      obtain ⟨h1', h2, h3, h4, h5⟩ := h1'
      exact ⟨fun z => absurd h2 z, fun _ => re_i ⟨fun _ => ⟨h1', rfl, h3, h4, h5⟩, fun z => absurd c1 z⟩⟩
    | ok l =>
      rw [htd] at h1'
      obtain ⟨h1', h2, h3, h4, h5, h6, h7⟩ := h1'
      refine ⟨fun _ => ?_, fun z => absurd z (by omega)⟩
      obtain ⟨w, hw⟩ := way0 hG.wf
      have htx : tx m 0 = txt m w.2 := by unfold tx; rw [hw]
      have hlen := tx_len hG.wf 0
      refine Cl.i (w_isWay (m := m) (d := d - 1) (k := 0) h4.m hG.wf hS1 h4.li (by omega) (by omega) (by omega)) (by omega) (fun r s hr hs hh => ?_)
      obtain ⟨hh, hL, hF⟩ := hh
      intro _ ir3 _ _ _
      rcases hh with ⟨w', e1, -, e3⟩ | ⟨e1, -⟩
      · rw [hw] at e1
        have e4 := Option.some.inj e1
        subst e4
        unfold IsK at e3
        rw [← htx] at e3
        refine matchLoop (d := d) (tl := ia s 109) (f := ia s 116) (N := ((tx m 0).length : Int)) (tn := (l.length : Int)) rfl (by rw [hF.s 14 rfl]; exact h5) rfl e3.2.2.2.1 ⟨by omega, h7⟩ ⟨by omega, by omega⟩ c1 ir3 hs (by omega) ⟨fun _ => ⟨?_, ?_, h3.trans (hF.c rfl), h4.c hF rfl rfl hL⟩, fun z => absurd c1 z⟩
        · unfold matchV
          exact mtV_cong c1.1 (lz_hl e3.2.2.2.2) (lz_hl (by rw [hF.a 109 rfl]; exact h6))
        · rw [hF.s 0 rfl]; exact h2
      · rw [hw] at e1
        cases e1
  · refine re_i ⟨fun z => absurd z c1, fun _ => ⟨rfl, by simp (config := {decide := true}) only [sc_S, ia_S, la_S, rv_S, sc_I, rv_I, la_I, ia_I, sc_L, rv_L, ia_L, la_L, sc_A, rv_A, la_A, ia_A, sc_B, rv_B, ia_B, la_B, sc_R, ia_R, la_R, rv_R, ia_w, la_w, rv_w, sc_w, if_true, if_false], ((Fc.refl σ).S).S, ⟨p.m, p.k, ?_, p.tp, by simp (config := {decide := true}) only [sc_S, ia_S, la_S, rv_S, sc_I, rv_I, la_I, ia_I, sc_L, rv_L, ia_L, la_L, sc_A, rv_A, la_A, ia_A, sc_B, rv_B, ia_B, la_B, sc_R, ia_R, la_R, rv_R, ia_w, la_w, rv_w, sc_w, if_true, if_false], ?_, LI_S (by decide) (LI_S (by decide) p.li)⟩⟩⟩
    · simp (config := {decide := true}) only [sc_S, ia_S, la_S, rv_S, sc_I, rv_I, la_I, ia_I, sc_L, rv_L, ia_L, la_L, sc_A, rv_A, la_A, ia_A, sc_B, rv_B, ia_B, la_B, sc_R, ia_R, la_R, rv_R, ia_w, la_w, rv_w, sc_w, if_true, if_false]; exact p.h
    · simp (config := {decide := true}) only [sc_S, ia_S, la_S, rv_S, sc_I, rv_I, la_I, ia_I, sc_L, rv_L, ia_L, la_L, sc_A, rv_A, la_A, ia_A, sc_B, rv_B, ia_B, la_B, sc_R, ia_R, la_R, rv_R, ia_w, la_w, rv_w, sc_w, if_true, if_false]; exact p.f
/-- TUNED -/
def tunV (m : Int → Int) (l : List Int) : Int := ((ir 0 21).foldl (fun (b : Int × Int) n => if b.1 = -1 ∨ nearV (up m 6 n) (lz l) l.length < b.2 then (n, nearV (up m 6 n) (lz l) l.length) else b) (-1, 0)).1
theorem e_tuned (p : PS σ m k h tp tn f) (hG : GM m) (htb : ∀ j, 0 ≤ tp j ∧ tp j ≤ 255) (htn : 0 ≤ tn ∧ tn ≤ 400) (hS : SR σ) (hd : 22 ≤ d) : Eb g ad d mX11_tuned 0 0 [.ref (ad 102)] σ (Ki fun r s => TQ σ s m k h tp r (toldP tp tn m) (tunV m)) := by
  refine EbS rfl pl_X11 rfl rfl (bX11_tuned_0 hS ?_)
  refine Cl.i (e_isTold (d := d - 1) p hG htb htn hS (by omega)) (by omega) (fun r1 s1 hr1 hS1 h1 => ?_)
  cases htd : toldP tp tn m with
  | error f0 =>
    rw [htd] at h1
    obtain ⟨h1, h2, h3, h4, h5⟩ := h1
    exact ⟨fun z => absurd h2 z, fun _ => re_i ⟨h1, rfl, h3, h4, h5⟩⟩
  | ok l =>
    rw [htd] at h1
    obtain ⟨h1, h2, h3, h4, h5, h6, h7⟩ := h1
    refine ⟨fun _ => ?_, fun z => absurd z (by omega)⟩
    rw [h4.m]
    intro i6 _ _ _ _
    have hnb : ∀ n, 0 ≤ nearV (up m 6 n) (lz l) l.length ∧ nearV (up m 6 n) (lz l) l.length ≤ 1000 ∨ True := fun _ => Or.inr trivial
    have key : ∀ (n : Nat) (j : Int) (τ : SG) (b : Int × Int) (v : Int), 0 ≤ j → j + n = 21 → SR τ → Fm [103, 112, 114, 115, 116, 128] [20, 22, 23, 26, 27, 28, 29, 30, 32] s1 τ → ia τ 103 = up m 6 v → (b.1 = -1 ∨ 0 ≤ b.1 ∧ b.1 ≤ 20) → iR b.2 → ((ir j 21).foldl (fun (b : Int × Int) n => if b.1 = -1 ∨ nearV (up m 6 n) (lz l) l.length < b.2 then (n, nearV (up m 6 n) (lz l) l.length) else b) b).1 = tunV m l → aX11_tuned_24 g ad d (Ki fun r s => TQ σ s m k h tp r (Except.ok l) (tunV m)) 0 0 τ (m 6) b.1 b.2 j := by
      intro n
      induction n with
      | zero =>
        intro j τ b v hj0 hj hSt hF e3 hb1 hb2 hv
        rw [ir_nil (by omega)] at hv
        have e3' : ia (setS (setI τ 103 6 (m 6)) 102 20 0) 103 = m := by
          simp (config := {decide := true}) only [sc_S, ia_S, la_S, rv_S, sc_I, rv_I, la_I, ia_I, sc_L, rv_L, ia_L, la_L, sc_A, rv_A, la_A, ia_A, sc_B, rv_B, ia_B, la_B, sc_R, ia_R, la_R, rv_R, ia_w, la_w, rv_w, sc_w, if_true, if_false]
          rw [e3, up_up, up_self]
        have hF' : Fm [103, 112, 114, 115, 116, 128] [20, 22, 23, 26, 27, 28, 29, 30, 32] s1 (setS (setI τ 103 6 (m 6)) 102 20 0) := (hF.setI (by decide)).setS (by decide)
        refine bX11_tuned_24 i6 (iR_of (by omega) (by omega)) hb2 (iR_of (by omega) (by omega)) hSt ⟨fun _ => re_i ⟨hv, ?_, h3.trans (hF'.c rfl), ⟨e3', ?_, ?_, ?_, ?_, ?_, LI_0 (by simp (config := {decide := true}) only [sc_S, ia_S, la_S, rv_S, sc_I, rv_I, la_I, ia_I, sc_L, rv_L, ia_L, la_L, sc_A, rv_A, la_A, ia_A, sc_B, rv_B, ia_B, la_B, sc_R, ia_R, la_R, rv_R, ia_w, la_w, rv_w, sc_w, if_true, if_false])⟩⟩, fun z => absurd (by omega) z⟩
        · rw [hF'.s 0 rfl]; exact h2
        · rw [hF'.a 105 rfl]; exact h4.k
        · rw [hF'.s 4 rfl]; exact h4.h
        · rw [hF'.a 106 rfl]; exact h4.tp
        · rw [hF'.s 6 rfl]; exact h4.tn
        · rw [hF'.s 9 rfl]; exact h4.f
      | succ n ih =>
        intro j τ b v hj0 hj hSt hF e3 hb1 hb2 hv
        rw [ir_cons (by omega), List.foldl_cons] at hv
        have ij : iR j := iR_of (by omega) (by omega)
        have e3' : ia (setS (setI τ 103 6 j) 102 20 0) 103 = up m 6 j := by
          simp (config := {decide := true}) only [sc_S, ia_S, la_S, rv_S, sc_I, rv_I, la_I, ia_I, sc_L, rv_L, ia_L, la_L, sc_A, rv_A, la_A, ia_A, sc_B, rv_B, ia_B, la_B, sc_R, ia_R, la_R, rv_R, ia_w, la_w, rv_w, sc_w, if_true, if_false]
          rw [e3, up_up]
        have hF' : Fm [103, 112, 114, 115, 116, 128] [20, 22, 23, 26, 27, 28, 29, 30, 32] s1 (setS (setI τ 103 6 j) 102 20 0) := (hF.setI (by decide)).setS (by decide)
        have hWj : WF (up m 6 j) := WF_up hG.wf (by omega) ⟨fun z => by omega, fun z => by omega, fun _ => by omega, fun z => by omega⟩
        refine bX11_tuned_24 i6 (iR_of (by omega) (by omega)) hb2 ij hSt ⟨fun z => absurd z (by omega), fun _ => ?_⟩
        refine Cl.i (e_nearTold (d := d - 1) (tl := lz l) (tn := (l.length : Int)) e3' (by rw [hF'.a 109 rfl]; exact lz_hl h6) (by rw [hF'.s 14 rfl]; exact h5) ⟨by omega, h7⟩ hWj (SR_setS (SR_setI hSt ij) (iR_lit rfl)) (LI_0 (by simp (config := {decide := true}) only [sc_S, ia_S, la_S, rv_S, sc_I, rv_I, la_I, ia_I, sc_L, rv_L, ia_L, la_L, sc_A, rv_A, la_A, ia_A, sc_B, rv_B, ia_B, la_B, sc_R, ia_R, la_R, rv_R, ia_w, la_w, rv_w, sc_w, if_true, if_false])) (by omega)) (by omega) (fun r s hr hs hh => ?_)
        obtain ⟨h8, h9, h10⟩ := hh
        have hFs : Fm [103, 112, 114, 115, 116, 128] [20, 22, 23, 26, 27, 28, 29, 30, 32] s1 s := hF'.trans (h10.mono (by decide) (by decide))
        have e3s : ia s 103 = up m 6 j := by rw [h10.a 103 rfl]; exact e3'
        have ij1 : iR (j + 1) := iR_of (by omega) (by omega)
        have yes : (b.1 = -1 ∨ r < b.2) → aX11_tuned_24 g ad d (Ki fun r s => TQ σ s m k h tp r (Except.ok l) (tunV m)) 0 0 s (m 6) j r (j + 1) := by
          intro hc
          rw [← h8, if_pos hc] at hv
          exact ih (j + 1) s (j, r) j (by omega) (by omega) hs hFs e3s (Or.inr ⟨by show 0 ≤ j; omega, by show j ≤ 20; omega⟩) hr hv
        refine ⟨fun c1 => ⟨ij1, fun _ _ _ _ _ => yes (Or.inl c1)⟩, fun c1 => ⟨fun c2 => ⟨ij1, fun _ _ _ _ _ => yes (Or.inr c2)⟩, fun c2 => ⟨ij1, fun _ _ _ _ _ => ?_⟩⟩⟩
        rw [← h8, if_neg (by omega)] at hv
        exact ih (j + 1) s b j (by omega) (by omega) hs hFs e3s hb1 hb2 hv
    exact key 21 0 s1 (-1, 0) (m 6) (by omega) (by omega) hS1 (Fm.refl s1) (by rw [up_self]; exact h4.m) (Or.inl rfl) (iR_lit rfl) rfl
end TDs
