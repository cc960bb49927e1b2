section L3C
variable {g : AG} {ad : Nat → Nat} {d : Nat} {σ : SG}
theorem sea_spec (p : Int → Bool) : ∀ (n : Nat) (k : Int), sea p n k = -1 ∨ (k ≤ sea p n k ∧ sea p n k < k + n ∧ p (sea p n k) = true)
  | 0, k => Or.inl rfl
  | n + 1, k => by
    rw [sea]
    by_cases h : p k = true
    · rw [if_pos h]
      exact Or.inr ⟨by omega, by omega, h⟩
    · rw [if_neg h]
      rcases sea_spec p n (k + 1) with e | ⟨e1, e2, e3⟩
      · exact Or.inl e
      · exact Or.inr ⟨by omega, by omega, e3⟩
theorem pairOf_b {m : Int → Int} (h0 : W0 m) (a b : Int) : -1 ≤ pairOf m a b ∧ pairOf m a b < m 2 := by
  have h2 := h0.2.2.1
  unfold pairOf
  rcases sea_spec (pairP m a b) (m 2).toNat 0 with e | ⟨e1, e2, e3⟩
  · rw [e]; omega
  · omega
/-- FLUENCY -/
def aft (m : Int → Int) (a b : Int) : Int := if pairOf m a b = -1 then m 4 else m (669 + 3 * pairOf m a b + 2)
theorem aft_b {m : Int → Int} (h0 : W0 m) (h2 : W2 m) (a b : Int) : 0 ≤ aft m a b ∧ aft m a b ≤ 99 := by
  have h4 := h0.2.2.2.2.1
  have hp := pairOf_b h0 a b
  unfold aft
  by_cases c : pairOf m a b = -1
  · rw [if_pos c]; exact h4
  · rw [if_neg c]
    exact (h2 _ (by omega) hp.2).2.2
theorem e_after0 {x1 x2 : Int} (h1 : iR x1) (h2 : iR x2) (hW : W0 (ia σ 103)) (hS : SR σ) (hd : 1 ≤ d) : EI g ad d mX11_after0 [.ref (ad 102), vi x1, vi x2] σ (aft (ia σ 103) x1 x2) σ := by
  have h0 := hW.2.2.1
  have hp := pairOf_b hW x1 x2
  refine EbS rfl pl_X11 rfl rfl (bX11_after0_0 h1 h2 hS ?_)
  refine (e_pairOf (d := 0) h1 h2 hW hS).c hd (fun hr _ => ⟨fun c => ⟨⟨by omega, by omega⟩, re_i ⟨?_, rfl⟩⟩, fun c => re_i ⟨?_, rfl⟩⟩)
  · unfold aft; rw [if_neg c]
  · unfold aft; rw [if_pos c]
def allN (p : Int → Bool) : Nat → Int → Bool
  | 0, _ => true
  | n + 1, k => p k && allN p n (k + 1)
def optP (m : Int → Int) (o p : Int) : Int → Bool := fun k => decide (of_ m o (1 + k) = m (849 + p + k))
/-- whether an option is one at a place -/
def isOpt (m : Int → Int) (o p : Int) : Bool := if o = 99 then decide (0 ≤ p ∧ p < m 3) else if of_ m o 9 = 1 then false else if m 3 < p + cov m o then false else allN (optP m o p) (cov m o).toNat 0
/-- an option's number -/
def isO (m : Int → Int) (o : Int) : Prop := o = 99 ∨ 0 ≤ o ∧ o < m 1
theorem cov_b {m : Int → Int} (h1 : W1 m) {o : Int} (ho : isO m o) : 1 ≤ cov m o ∧ cov m o ≤ 3 := by
  unfold cov
  by_cases c : o = 99
  · rw [if_pos c]; omega
  · rw [if_neg c]
    rcases ho with h | h
    · exact absurd h c
    · exact (h1 o h.1 h.2).1
theorem e_isOption {x1 x2 : Int} (ho : isO (ia σ 103) x1) (h2 : 0 ≤ x2 ∧ x2 < 6) (hW : WF (ia σ 103)) (hS : SR σ) (hd : 2 ≤ d) : EI g ad d mX11_isOption [.ref (ad 102), vi x1, vi x2] σ (bi (isOpt (ia σ 103) x1 x2 = true)) σ := by
  have h0 := hW.1.2.1
  have h3 := hW.1.2.2.2.1
  have ho' : x1 = 99 ∨ 0 ≤ x1 ∧ x1 < ia σ 103 1 := ho
  have hx1 : iR x1 := iR_of (by omega) (by omega)
  have hx2 : iR x2 := iR_of (by omega) (by omega)
  have hc := cov_b hW.2.1 ho
  refine EbS rfl pl_X11 rfl rfl (bX11_isOption_0 hx1 hx2 hS ⟨fun c => ?_, fun c => ?_⟩)
  · refine (e_of (d := 0) (by omega) (by omega) hx1 (iR_lit rfl) hS).c (by omega) (fun _ _ => ⟨fun c2 => re_i ⟨?_, rfl⟩, fun c2 => ?_⟩)
    · refine (bi_f ?_).symm
      unfold isOpt
      rw [if_neg c, if_pos c2]
      simp
    · refine (e_covers (d := 1) ho' hW.1 hS (by omega)).c (by omega) (fun _ _ => ⟨iR_of (by omega) (by omega), fun c3 => ?_, fun c3 => re_i ⟨?_, rfl⟩⟩)
      · intro _ _ _ _
        have hopt : isOpt (ia σ 103) x1 x2 = allN (optP (ia σ 103) x1 x2) (cov (ia σ 103) x1).toNat 0 := by
          unfold isOpt
          rw [if_neg c, if_neg c2, if_neg (by omega)]
        rw [hopt]
        have key : ∀ (n : Nat) (k : Int), 0 ≤ k → k + n = cov (ia σ 103) x1 → Wb g ad d mX11_isOption (Ki fun r s => r = bi (allN (optP (ia σ 103) x1 x2) n k = true) ∧ s = σ) 43 [some (.ref (ad 102)), some (vi x1), some (vi x2), some (vi k)] [] σ 0 0 := by
          intro n
          induction n with
          | zero =>
            intro k hk0 hk
            refine bX11_isOption_43 hx1 hx2 (iR_of (by omega) (by omega)) hS ?_
            refine (e_covers (d := 1) ho' hW.1 hS (by omega)).c (by omega) (fun _ _ => ⟨fun c4 => re_i ⟨(bi_t rfl).symm, rfl⟩, fun c4 => absurd (by omega) c4⟩)
          | succ n ih =>
            intro k hk0 hk
            refine bX11_isOption_43 hx1 hx2 (iR_of (by omega) (by omega)) hS ?_
            refine (e_covers (d := 1) ho' hW.1 hS (by omega)).c (by omega) (fun _ _ => ⟨fun c4 => absurd c4 (by omega), fun c4 => ?_⟩)
            refine (e_of (d := 0) (by omega) (by omega) hx1 (iR_of (by omega) (by omega)) hS).c (by omega) (fun _ _ => ⟨⟨by omega, by omega⟩, fun c5 => ⟨iR_of (by omega) (by omega), fun _ _ _ _ => ?_⟩, fun c5 => re_i ⟨?_, rfl⟩⟩)
            · have e : allN (optP (ia σ 103) x1 x2) (n + 1) k = allN (optP (ia σ 103) x1 x2) n (k + 1) := by
                rw [allN]
                simp [optP, c5]
              rw [e]
              exact ih (k + 1) (by omega) (by omega)
            · refine (bi_f ?_).symm
              rw [allN]
              simp [optP, c5]
        exact key _ 0 (by omega) (by omega)
      · refine (bi_f ?_).symm
        unfold isOpt
        rw [if_neg c, if_neg c2, if_pos (by omega)]
        simp
  · refine (e_isPlace (d := 1) hx2 hW.1 hS (by omega)).c (by omega) (fun _ _ => ⟨bi_01, re_i ⟨bi_cong ?_, rfl⟩⟩)
    unfold isOpt
    rw [if_pos c]
    simp
/-- how many of n from k on -/
def cnt (p : Int → Bool) : Nat → Int → Int
  | 0, _ => 0
  | n + 1, k => (if p k then 1 else 0) + cnt p n (k + 1)
theorem cnt_b (p : Int → Bool) : ∀ (n : Nat) (k : Int), 0 ≤ cnt p n k ∧ cnt p n k ≤ n
  | 0, k => by simp [cnt]
  | n + 1, k => by
    have := cnt_b p n (k + 1)
    rw [cnt]
    split <;> omega
def placesOf (m : Int → Int) (p : Int) : Int := cnt (fun k => isOpt m p k) (m 3).toNat 0
theorem e_placesOf {x1 : Int} (ho : isO (ia σ 103) x1) (hW : WF (ia σ 103)) (hS : SR σ) (hd : 3 ≤ d) : EI g ad d mX11_placesOf [.ref (ad 102), vi x1] σ (placesOf (ia σ 103) x1) σ := by
  have h0 := hW.1.2.1
  have h3 := hW.1.2.2.2.1
  have ho' : x1 = 99 ∨ 0 ≤ x1 ∧ x1 < ia σ 103 1 := ho
  have hx1 : iR x1 := iR_of (by omega) (by omega)
  refine EbS rfl pl_X11 rfl rfl (bX11_placesOf_0 hx1 hS ?_)
  intro _ _ _ _
  have key : ∀ (n : Nat) (k a : Int), 0 ≤ k → k + n = ia σ 103 3 → 0 ≤ a → a ≤ k → Wb g ad d mX11_placesOf (Ki fun r s => r = a + cnt (fun k => isOpt (ia σ 103) x1 k) n k ∧ s = σ) 4 [some (.ref (ad 102)), some (vi x1), some (vi a), some (vi k)] [] σ 0 0 := by
    intro n
    induction n with
    | zero =>
      intro k a hk0 hk ha hak
      refine bX11_placesOf_4 hx1 (iR_of (by omega) (by omega)) (iR_of (by omega) (by omega)) hS ⟨fun _ => re_i ⟨by simp [cnt], rfl⟩, fun c => absurd (by omega) c⟩
    | succ n ih =>
      intro k a hk0 hk ha hak
      refine bX11_placesOf_4 hx1 (iR_of (by omega) (by omega)) (iR_of (by omega) (by omega)) hS ⟨fun c => absurd c (by omega), fun _ => ?_⟩
      refine (e_isOption (d := 2) ho ⟨hk0, by omega⟩ hW hS (by omega)).c (by omega) (fun _ _ => bi_zn (fun c => ?_) (fun c => ?_))
      · refine ⟨iR_of (by omega) (by omega), iR_of (by omega) (by omega), fun _ _ _ _ => ?_⟩
        have e : a + cnt (fun k => isOpt (ia σ 103) x1 k) (n + 1) k = (a + 1) + cnt (fun k => isOpt (ia σ 103) x1 k) n (k + 1) := by
          rw [cnt, if_pos c]; omega
        rw [e]
        exact ih (k + 1) (a + 1) (by omega) (by omega) (by omega) (by omega)
      · refine ⟨iR_of (by omega) (by omega), iR_of (by omega) (by omega), fun _ _ _ _ => ?_⟩
        have e : a + cnt (fun k => isOpt (ia σ 103) x1 k) (n + 1) k = (a + 0) + cnt (fun k => isOpt (ia σ 103) x1 k) n (k + 1) := by
          rw [cnt, if_neg c]; omega
        rw [e]
        exact ih (k + 1) (a + 0) (by omega) (by omega) (by omega) (by omega)
  have h := key (ia σ 103 3).toNat 0 0 (by omega) (by omega) (by omega) (by omega)
  have e : (0 : Int) + cnt (fun k => isOpt (ia σ 103) x1 k) (ia σ 103 3).toNat 0 = placesOf (ia σ 103) x1 := by unfold placesOf; omega
  rw [e] at h
  exact h
/-- the places that an option covers, as a set -/
def msk (m : Int → Int) (o s : Int) : Int := (2 ^ (cov m o).toNat - 1) * 2 ^ s.toNat
theorem bShl_mask {c s : Int} (hc : 0 ≤ c ∧ c ≤ 3) (hs : 0 ≤ s ∧ s < 6) : bShl (bShl 1 c - 1) s = (2 ^ c.toNat - 1) * 2 ^ s.toNat := by
  have h1 : c.toNat < 4 := by omega
  have h2 : s.toNat < 6 := by omega
  have e1 : c = (c.toNat : Int) := by omega
  have e2 : s = (s.toNat : Int) := by omega
  rw [e1, e2]
  generalize c.toNat = a at h1
  generalize s.toNat = b at h2
  have : ∀ (a : Fin 4) (b : Fin 6), bShl (bShl 1 (a.val : Int) - 1) (b.val : Int) = (2 ^ a.val - 1) * 2 ^ b.val := by decide
  exact this ⟨a, h1⟩ ⟨b, h2⟩
theorem e_maskOf {x1 x2 : Int} (ho : isO (ia σ 103) x1) (h2 : 0 ≤ x2 ∧ x2 < 6) (hW : WF (ia σ 103)) (hS : SR σ) (hd : 2 ≤ d) : EI g ad d mX11_maskOf [.ref (ad 102), vi x1, vi x2] σ (msk (ia σ 103) x1 x2) σ := by
  have h0 := hW.1.2.1
  have ho' : x1 = 99 ∨ 0 ≤ x1 ∧ x1 < ia σ 103 1 := ho
  have hc := cov_b hW.2.1 ho
  refine EbS rfl pl_X11 rfl rfl (bX11_maskOf_0 (iR_of (by omega) (by omega)) (iR_of (by omega) (by omega)) hS ?_)
  refine (e_covers (d := 1) ho' hW.1 hS (by omega)).c (by omega) (fun _ _ => ?_)
  rw [bShl_mask ⟨by omega, hc.2⟩ h2]
  exact re_i ⟨rfl, rfl⟩
/-- whether a step may be taken -/
def mayB (m : Int → Int) (set place s o : Int) : Bool := if m 7 < apB s place then false else if isOpt m o s = true then decide (bAnd set (msk m o s) = 0) else false
theorem apB_b {a b : Int} (ha : 0 ≤ a ∧ a ≤ 6) (hb : 0 ≤ b ∧ b ≤ 6) : 0 ≤ apB a b ∧ apB a b ≤ 6 := by
  unfold apB
  split <;> omega
theorem e_may {x1 x2 x3 x4 : Int} (h1 : iR x1) (h2 : 0 ≤ x2 ∧ x2 ≤ 6) (h3 : 0 ≤ x3 ∧ x3 < 6) (ho : isO (ia σ 103) x4) (hW : WF (ia σ 103)) (hS : SR σ) (hd : 3 ≤ d) : EI g ad d mX11_may [.ref (ad 102), vi x1, vi x2, vi x3, vi x4] σ (bi (mayB (ia σ 103) x1 x2 x3 x4 = true)) σ := by
  have h0 := hW.1.2.1
  have ho' : x4 = 99 ∨ 0 ≤ x4 ∧ x4 < ia σ 103 1 := ho
  have hb := apB_b (a := x3) (b := x2) ⟨h3.1, by omega⟩ h2
  have hx2 : iR x2 := iR_of (by omega) (by omega)
  have hx3 : iR x3 := iR_of (by omega) (by omega)
  refine EbS rfl pl_X11 rfl rfl (bX11_may_0 h1 hx2 hx3 (iR_of (by omega) (by omega)) hS ?_)
  refine (e_apartBy (d := 0) hx3 hx2 (iR_of (by omega) (by omega)) hS).c (by omega) (fun _ _ => ⟨fun c => re_i ⟨?_, rfl⟩, fun c => ?_⟩)
  · refine (bi_f ?_).symm
    unfold mayB
    rw [if_pos c]
    simp
  · refine (e_isOption (d := 2) ho h3 hW hS (by omega)).c (by omega) (fun _ _ => bi_zn (fun c2 => ?_) (fun c2 => re_i ⟨?_, rfl⟩))
    · refine (e_maskOf (d := 2) ho h3 hW hS (by omega)).c (by omega) (fun _ _ => ⟨fun c3 => re_i ⟨?_, rfl⟩, fun c3 => re_i ⟨?_, rfl⟩⟩)
      · refine (bi_f ?_).symm
        unfold mayB
        rw [if_neg c, if_pos c2]
        simp [c3]
      · refine (bi_t ?_).symm
        unfold mayB
        rw [if_neg c, if_pos c2]
        simp [c3]
    · refine (bi_f ?_).symm
      unfold mayB
      rw [if_neg c, if_neg c2]
      simp
end L3C
