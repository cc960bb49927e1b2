/-- what the reference keeps from call to call -/
def PS (s : SG) (m k : Int → Int) (h : Int) (tp : Int → Int) (tn f : Int) : Prop := (ia s 103 = m) ∧ (ia s 105 = k) ∧ (sc s 102 4 = h) ∧ (ia s 106 = tp) ∧ (sc s 102 6 = tn) ∧ (sc s 102 9 = f) ∧ (LI s)
theorem PS.m {s : SG} {m k : Int → Int} {h : Int} {tp : Int → Int} {tn f : Int} (h_ : PS s m k h tp tn f) : ia s 103 = m := h_.1
theorem PS.k {s : SG} {m k : Int → Int} {h : Int} {tp : Int → Int} {tn f : Int} (h_ : PS s m k h tp tn f) : ia s 105 = k := h_.2.1
theorem PS.h {s : SG} {m k : Int → Int} {h : Int} {tp : Int → Int} {tn f : Int} (h_ : PS s m k h tp tn f) : sc s 102 4 = h := h_.2.2.1
theorem PS.tp {s : SG} {m k : Int → Int} {h : Int} {tp : Int → Int} {tn f : Int} (h_ : PS s m k h tp tn f) : ia s 106 = tp := h_.2.2.2.1
theorem PS.tn {s : SG} {m k : Int → Int} {h : Int} {tp : Int → Int} {tn f : Int} (h_ : PS s m k h tp tn f) : sc s 102 6 = tn := h_.2.2.2.2.1
theorem PS.f {s : SG} {m k : Int → Int} {h : Int} {tp : Int → Int} {tn f : Int} (h_ : PS s m k h tp tn f) : sc s 102 9 = f := h_.2.2.2.2.2.1
theorem PS.li {s : SG} {m k : Int → Int} {h : Int} {tp : Int → Int} {tn f : Int} (h_ : PS s m k h tp tn f) : LI s := h_.2.2.2.2.2.2
section PSs
variable {g : AG} {ad : Nat → Nat} {d : Nat} {σ : SG} {m : Int → Int}
/-- of words: how long they are -/
def WL (m : Int → Int) : Prop := ∀ w, 0 ≤ w → w < m 0 → 1 ≤ m (9 + 9 * w) ∧ m (9 + 9 * w) ≤ 8
/-- no cell of the class is touched -/
def Fc (σ s : SG) : Prop := rv s = rv σ ∧ (∀ c, c ≠ 113 → la s c = la σ c) ∧ (∀ c, (c < 103 ∨ 130 < c) → ia s c = ia σ c) ∧ (∀ c k, c ≠ 102 → sc s c k = sc σ c k)
theorem Fc.refl (σ : SG) : Fc σ σ := ⟨rfl, fun _ _ => rfl, fun _ _ => rfl, fun _ _ _ => rfl⟩
theorem Fc.trans {σ s t : SG} (h1 : Fc σ s) (h2 : Fc s t) : Fc σ t := ⟨h2.1.trans h1.1, fun c hc => (h2.2.1 c hc).trans (h1.2.1 c hc), fun c hc => (h2.2.2.1 c hc).trans (h1.2.2.1 c hc), fun c k hk => (h2.2.2.2 c k hk).trans (h1.2.2.2 c k hk)⟩
theorem Fq.c {σ s : SG} (h : Fq σ s) : Fc σ s := ⟨h.1, h.2.1, fun c hc => h.2.2.1 c (by omega), fun c k hk => h.2.2.2 c k (Or.inl hk)⟩
theorem Fc.S {σ s : SG} (h : Fc σ s) {k : Nat} {v : Int} : Fc σ (setS s 102 k v) := ⟨h.1, h.2.1, h.2.2.1, fun c j hj => by rw [sc_S, if_neg (by omega)]; exact h.2.2.2 c j hj⟩
theorem Fc.I {σ s : SG} (h : Fc σ s) {c : Nat} {j v : Int} (hc : (Nat.ble 103 c && Nat.ble c 130) = true) : Fc σ (setI s c j v) := by
  have : 103 ≤ c ∧ c ≤ 130 := by
    rw [Bool.and_eq_true] at hc
    exact ⟨Nat.le_of_ble_eq_true hc.1, Nat.le_of_ble_eq_true hc.2⟩
  exact ⟨h.1, h.2.1, fun b hb => by rw [ia_I, if_neg (by omega)]; exact h.2.2.1 b hb, h.2.2.2⟩
theorem Fm.c {A K : List Nat} {σ s : SG} (h : Fm A K σ s) (hA : A.all (fun c => decide (103 ≤ c ∧ c ≤ 130)) = true) : Fc σ s := by
  refine ⟨h.1, fun c _ => by rw [h.2.1], fun c hc => h.2.2.1 c (fun q => ?_), fun c k hk => h.2.2.2 c k (fun q => hk q.1)⟩
  have := of_decide_eq_true (List.all_eq_true.mp hA c q)
  omega
theorem PS.q {σ s : SG} {m k tp : Int → Int} {h tn f : Int} (p : PS σ m k h tp tn f) (hq : Fq σ s) (hl : LI s) : PS s m k h tp tn f :=
  ⟨(hq.2.2.1 103 (by decide)).trans p.m, (hq.2.2.1 105 (by decide)).trans p.k, (hq.2.2.2 102 4 (by decide)).trans p.h, (hq.2.2.1 106 (by decide)).trans p.tp, (hq.2.2.2 102 6 (by decide)).trans p.tn, (hq.2.2.2 102 9 (by decide)).trans p.f, hl⟩
/-- a call of the reference -/
def EP (g : AG) (ad : Nat → Nat) (d : Nat) (M : AM) (as : List Value) (σ : SG) (v t : Int) (m k : Int → Int) (h : Int) (tp : Int → Int) (tn f : Int) : Prop := Eb g ad d M 0 0 as σ (Ki fun r s => r = v ∧ sc s 102 0 = t ∧ Fc σ s ∧ PS s m k h tp tn f)
theorem EQ.p {M : AM} {as : List Value} {v t : Int} {m k tp : Int → Int} {h tn f : Int} (e : EQ g ad d M as σ v t) (p : PS σ m k h tp tn f) : EP g ad d M as σ v t m k h tp tn f := by
  refine Eb.mono e ?_
  rintro o s ⟨r, e, h1, h2, h3, h4, h5, h6⟩
  exact ⟨r, e, h1, h2, h3, h4, h5.c, p.q h5 h6⟩
theorem EQ_yes {v t : Int} (hT : t = 0) (hI : LI σ) : iR v → SR (setS σ 102 0 0) → Ki (fun r s => r = v ∧ sc s 102 0 = t ∧ Fq σ s ∧ LI s) (.inl (some (vi v))) (setS σ 102 0 0) :=
  re_i ⟨rfl, by rw [hT]; simp (config := {decide := true}) only [sc_S, ia_S, la_S, rv_S, sc_I, rv_I, la_I, ia_I, sc_L, rv_L, ia_L, la_L, sc_A, rv_A, la_A, ia_A, sc_B, rv_B, ia_B, la_B, sc_R, ia_R, la_R, rv_R, ia_w, la_w, rv_w, sc_w, if_true, if_false], (Fq.refl σ).S rfl, LI_S (by decide) hI⟩
theorem EQ_yes' {u v t : Int} (hT : t = 0) (hI : LI σ) (hv : u = v) : iR u → SR (setS σ 102 0 0) → Ki (fun r s => r = v ∧ sc s 102 0 = t ∧ Fq σ s ∧ LI s) (.inl (some (vi u))) (setS σ 102 0 0) := by
  subst hv
  exact EQ_yes hT hI
def letterT (m : Int → Int) (w : Int) : Int := if 0 ≤ w ∧ w < m 0 then 0 else 1
def letterV (m : Int → Int) (w k : Int) : Int := if letterT m w = 0 then (if 0 ≤ k ∧ k < m (9 + 9 * w) then m (9 + 9 * w + 1 + k) else -1) else 0
theorem e_letter {x1 x2 : Int} (em : ia σ 103 = m) (hW : WF m) (hL : WL m) (hS : SR σ) (hI : LI σ) (h1 : iR x1) (h2 : iR x2) (hd : 2 ≤ d) : EQ g ad d mX11_letter [.ref (ad 102), vi x1, vi x2] σ (letterV m x1 x2) (letterT m x1) := by
  have hW0 := hW.1
  have h0 := hW.1.1
  have i0 : iR 0 := iR_lit rfl
  have hS0 : SR (setS σ 102 0 0) := SR_setS hS i0
  refine EbS rfl pl_X11 rfl rfl (bX11_letter_0 h1 h2 hS ?_)
  refine EI.k (by apply w_isWord <;> (first | with_reducible assumption | with_reducible exact iR_of (by omega) (by omega) | omega | with_reducible (exact bi_01) | assumption)) (by omega) (fun _ _ => ?_)
  refine bi_zn (fun c1 => ?_) (fun c1 => ?_)
  · have hT : letterT m x1 = 0 := if_pos c1
    have hl := hL x1 c1.1 c1.2
    have hV : letterV m x1 x2 = if 0 ≤ x2 ∧ x2 < m (9 + 9 * x1) then m (9 + 9 * x1 + 1 + x2) else -1 := by unfold letterV; rw [if_pos hT]
    simp (config := {decide := true}) only [sc_S, ia_S, la_S, rv_S, sc_I, rv_I, la_I, ia_I, sc_L, rv_L, ia_L, la_L, sc_A, rv_A, la_A, ia_A, sc_B, rv_B, ia_B, la_B, sc_R, ia_R, la_R, rv_R, ia_w, la_w, rv_w, sc_w, if_true, if_false]
    rw [em]
    refine ⟨fun _ => ⟨⟨by omega, by omega⟩, ?_⟩, fun q => q.elim⟩
    refine EI.k (by apply e_isIn <;> (first | with_reducible assumption | with_reducible exact iR_of (by omega) (by omega) | omega | with_reducible (exact bi_01) | assumption)) (by omega) (fun _ _ => ?_)
    refine bi_zn (fun c2 => ⟨⟨by omega, by omega⟩, EQ_yes' hT hI ?_⟩) (fun c2 => EQ_yes' hT hI ?_)
    · rw [hV, if_pos (by omega), ← em]; rfl
    · rw [hV, if_neg (by omega)]
  · have hT : letterT m x1 = 1 := if_neg c1
    simp (config := {decide := true}) only [sc_S, ia_S, la_S, rv_S, sc_I, rv_I, la_I, ia_I, sc_L, rv_L, ia_L, la_L, sc_A, rv_A, la_A, ia_A, sc_B, rv_B, ia_B, la_B, sc_R, ia_R, la_R, rv_R, ia_w, la_w, rv_w, sc_w, if_true, if_false]
    refine ⟨fun q => absurd q (by decide), fun _ => EQ_no hT ?_ hI⟩
    unfold letterV; rw [hT]; rfl
def partT (m : Int → Int) (p : Int) : Int := if 0 ≤ p ∧ p < m 1 then 0 else 1
def partV (m : Int → Int) (p t k : Int) : Int := if partT m p = 0 then (if t = 0 then (if 0 ≤ k ∧ k < of_ m p 0 then of_ m p (1 + k) else -1) else (if 0 ≤ k ∧ k < of_ m p 4 then of_ m p (5 + k) else -1)) else 0
theorem e_part {x1 x2 x3 : Int} (em : ia σ 103 = m) (hW : WF m) (hS : SR σ) (hI : LI σ) (h1 : iR x1) (h2 : iR x2) (h3 : iR x3) (hd : 2 ≤ d) : EQ g ad d mX11_part [.ref (ad 102), vi x1, vi x2, vi x3] σ (partV m x1 x2 x3) (partT m x1) := by
  have hW0 := hW.1
  have hm1 := hW.1.2.1
  have i0 : iR 0 := iR_lit rfl
  refine EbS rfl pl_X11 rfl rfl (bX11_part_0 h1 h2 h3 hS ?_)
  refine EI.k (by apply w_isPhrase <;> (first | with_reducible assumption | with_reducible exact iR_of (by omega) (by omega) | omega | with_reducible (exact bi_01) | assumption)) (by omega) (fun _ _ => ?_)
  refine bi_zn (fun c1 => ?_) (fun c1 => ?_)
  · have hT : partT m x1 = 0 := if_pos c1
    have hp := hW.2.1 x1 c1.1 c1.2
    have hV : partV m x1 x2 x3 = if x2 = 0 then (if 0 ≤ x3 ∧ x3 < of_ m x1 0 then of_ m x1 (1 + x3) else -1) else (if 0 ≤ x3 ∧ x3 < of_ m x1 4 then of_ m x1 (5 + x3) else -1) := by unfold partV; rw [if_pos hT]
    intro _ _ _ hS0
    have et : ia (setS σ 102 0 0) 103 = m := em
    refine bX11_part_17 h1 h2 h3 hS0 ⟨fun _ => ⟨fun c => ?_, fun c => ?_⟩, fun q => absurd (by simp (config := {decide := true}) only [sc_S, ia_S, la_S, rv_S, sc_I, rv_I, la_I, ia_I, sc_L, rv_L, ia_L, la_L, sc_A, rv_A, la_A, ia_A, sc_B, rv_B, ia_B, la_B, sc_R, ia_R, la_R, rv_R, ia_w, la_w, rv_w, sc_w, if_true, if_false]) q⟩
    · refine EI.k (by apply w_of <;> (first | with_reducible assumption | with_reducible exact iR_of (by omega) (by omega) | omega | with_reducible (exact bi_01) | assumption)) (by omega) (fun _ _ => ?_)
      refine EI.k (by apply e_isIn <;> (first | with_reducible assumption | with_reducible exact iR_of (by omega) (by omega) | omega | with_reducible (exact bi_01) | assumption)) (by omega) (fun _ _ => ?_)
      refine bi_zn (fun c2 => ?_) (fun c2 => EQ_yes' hT hI ?_)
      · refine EI.k (by apply w_of <;> (first | with_reducible assumption | with_reducible exact iR_of (by omega) (by omega) | omega | with_reducible (exact bi_01) | assumption)) (by omega) (fun _ _ => ?_)
        refine EQ_yes' hT hI ?_
        rw [hV, if_pos c, if_pos (by omega)]
        congr 1
      · rw [hV, if_pos c, if_neg (by omega)]
    · refine EI.k (by apply w_of <;> (first | with_reducible assumption | with_reducible exact iR_of (by omega) (by omega) | omega | with_reducible (exact bi_01) | assumption)) (by omega) (fun _ _ => ?_)
      refine EI.k (by apply e_isIn <;> (first | with_reducible assumption | with_reducible exact iR_of (by omega) (by omega) | omega | with_reducible (exact bi_01) | assumption)) (by omega) (fun _ _ => ?_)
      refine bi_zn (fun c2 => ?_) (fun c2 => EQ_yes' hT hI ?_)
      · refine EI.k (by apply w_of <;> (first | with_reducible assumption | with_reducible exact iR_of (by omega) (by omega) | omega | with_reducible (exact bi_01) | assumption)) (by omega) (fun _ _ => ?_)
        refine EQ_yes' hT hI ?_
        rw [hV, if_neg c, if_pos (by omega)]
        congr 1
      · rw [hV, if_neg c, if_neg (by omega)]
  · have hT : partT m x1 = 1 := if_neg c1
    intro _ _ _ hS0
    refine bX11_part_17 h1 h2 h3 hS0 ⟨fun q => absurd q (by simp (config := {decide := true}) only [sc_S, ia_S, la_S, rv_S, sc_I, rv_I, la_I, ia_I, sc_L, rv_L, ia_L, la_L, sc_A, rv_A, la_A, ia_A, sc_B, rv_B, ia_B, la_B, sc_R, ia_R, la_R, rv_R, ia_w, la_w, rv_w, sc_w, if_true, if_false]), fun _ => EQ_no hT ?_ hI⟩
    unfold partV; rw [hT]; rfl
def afterT (m : Int → Int) (a b : Int) : Int := if (a = -1 ∨ 0 ≤ a ∧ a < m 0) ∧ (b = -1 ∨ 0 ≤ b ∧ b < m 0) then 0 else 1
def afterV (m : Int → Int) (a b : Int) : Int := if afterT m a b = 0 then aft m a b else 0
theorem e_after {x1 x2 : Int} (em : ia σ 103 = m) (hW : WF m) (hS : SR σ) (hI : LI σ) (h1 : iR x1) (h2 : iR x2) (hd : 3 ≤ d) : EQ g ad d mX11_after [.ref (ad 102), vi x1, vi x2] σ (afterV m x1 x2) (afterT m x1 x2) := by
  have hW0 := hW.1
  have i0 : iR 0 := iR_lit rfl
  have hS0 : SR (setS σ 102 0 0) := SR_setS hS i0
  have hS1 : SR (setS σ 102 0 1) := SR_setS hS (iR_lit rfl)
  have et : ia (setS σ 102 0 0) 103 = m := em
  have yes : afterT m x1 x2 = 0 → aX11_after_35 g ad d (Ki (fun r s => r = afterV m x1 x2 ∧ sc s 102 0 = afterT m x1 x2 ∧ Fq σ s ∧ LI s)) 0 0 (setS σ 102 0 0) x1 x2 := by
    intro hT
    refine bX11_after_35 h1 h2 hS0 ⟨fun _ => ?_, fun q => absurd (by simp (config := {decide := true}) only [sc_S, ia_S, la_S, rv_S, sc_I, rv_I, la_I, ia_I, sc_L, rv_L, ia_L, la_L, sc_A, rv_A, la_A, ia_A, sc_B, rv_B, ia_B, la_B, sc_R, ia_R, la_R, rv_R, ia_w, la_w, rv_w, sc_w, if_true, if_false]) q⟩
    refine EI.k (by apply w_after0 <;> (first | with_reducible assumption | with_reducible exact iR_of (by omega) (by omega) | omega | with_reducible (exact bi_01) | assumption)) (by omega) (fun _ _ => ?_)
    refine EQ_yes' hT hI ?_
    unfold afterV; rw [if_pos hT]
  have no : afterT m x1 x2 = 1 → aX11_after_35 g ad d (Ki (fun r s => r = afterV m x1 x2 ∧ sc s 102 0 = afterT m x1 x2 ∧ Fq σ s ∧ LI s)) 0 0 (setS σ 102 0 1) x1 x2 := by
    intro hT
    refine bX11_after_35 h1 h2 hS1 ⟨fun q => absurd q (by simp (config := {decide := true}) only [sc_S, ia_S, la_S, rv_S, sc_I, rv_I, la_I, ia_I, sc_L, rv_L, ia_L, la_L, sc_A, rv_A, la_A, ia_A, sc_B, rv_B, ia_B, la_B, sc_R, ia_R, la_R, rv_R, ia_w, la_w, rv_w, sc_w, if_true, if_false]), fun _ => EQ_no hT ?_ hI⟩
    unfold afterV; rw [hT]; rfl
  refine EbS rfl pl_X11 rfl rfl (bX11_after_0 h1 h2 hS ⟨fun c1 => ⟨fun c2 => ?_, fun c2 => ?_⟩, fun c1 => ?_⟩)
  · intros
    exact yes (if_pos (by omega))
  · refine EI.k (by apply w_isWord <;> (first | with_reducible assumption | with_reducible exact iR_of (by omega) (by omega) | omega | with_reducible (exact bi_01) | assumption)) (by omega) (fun _ _ => ?_)
    refine bi_zn (fun c3 => ?_) (fun c3 => ?_)
    · intros
      exact yes (if_pos (by omega))
    · intros
      exact no (if_neg (by omega))
  · refine EI.k (by apply w_isWord <;> (first | with_reducible assumption | with_reducible exact iR_of (by omega) (by omega) | omega | with_reducible (exact bi_01) | assumption)) (by omega) (fun _ _ => ?_)
    refine bi_zn (fun c3 => ⟨fun c2 => ?_, fun c2 => ?_⟩) (fun c3 => ?_)
    · intros
      exact yes (if_pos (by omega))
    · refine EI.k (by apply w_isWord <;> (first | with_reducible assumption | with_reducible exact iR_of (by omega) (by omega) | omega | with_reducible (exact bi_01) | assumption)) (by omega) (fun _ _ => ?_)
      refine bi_zn (fun c4 => ?_) (fun c4 => ?_)
      · intros
        exact yes (if_pos (by omega))
      · intros
        exact no (if_neg (by omega))
    · intros
      exact no (if_neg (by omega))
def placeV (m : Int → Int) (s : Int) : Int := if placeT m s = 0 then m (849 + s) else 0
theorem e_place {x1 : Int} (em : ia σ 103 = m) (hW : WF m) (hS : SR σ) (hI : LI σ) (h1 : iR x1) (hd : 2 ≤ d) : EQ g ad d mX11_place [.ref (ad 102), vi x1] σ (placeV m x1) (placeT m x1) := by
  have hW0 := hW.1
  have h3 := hW.1.2.2.2.1
  refine EbS rfl pl_X11 rfl rfl (bX11_place_0 h1 hS ?_)
  refine EI.k (by apply w_isPlace <;> (first | with_reducible assumption | with_reducible exact iR_of (by omega) (by omega) | omega | with_reducible (exact bi_01) | assumption)) (by omega) (fun _ _ => ?_)
  refine bi_zn (fun c1 => ?_) (fun c1 => ?_)
  · have hT : placeT m x1 = 0 := if_pos c1
    simp (config := {decide := true}) only [sc_S, ia_S, la_S, rv_S, sc_I, rv_I, la_I, ia_I, sc_L, rv_L, ia_L, la_L, sc_A, rv_A, la_A, ia_A, sc_B, rv_B, ia_B, la_B, sc_R, ia_R, la_R, rv_R, ia_w, la_w, rv_w, sc_w, if_true, if_false]
    refine ⟨fun _ => ⟨⟨by omega, by omega⟩, EQ_yes' hT hI ?_⟩, fun q => q.elim⟩
    unfold placeV; rw [if_pos hT, em]
  · have hT : placeT m x1 = 1 := if_neg c1
    simp (config := {decide := true}) only [sc_S, ia_S, la_S, rv_S, sc_I, rv_I, la_I, ia_I, sc_L, rv_L, ia_L, la_L, sc_A, rv_A, la_A, ia_A, sc_B, rv_B, ia_B, la_B, sc_R, ia_R, la_R, rv_R, ia_w, la_w, rv_w, sc_w, if_true, if_false]
    refine ⟨fun q => absurd q (by decide), fun _ => EQ_no hT ?_ hI⟩
    unfold placeV; rw [hT]; rfl
def countV (m : Int → Int) (what : Int) : Int := if what = 9 then cnt (fun p => decide (of_ m p 9 = 0)) (m 1).toNat 0 else if 0 ≤ what ∧ what ≤ 8 then m what else -1
theorem cnt_ir {p : Int → Bool} : ∀ (n : Nat) (k : Int), cnt p n k = ((ir k (k + n)).filter p).length
  | 0, k => by rw [ir_nil (by omega)]; rfl
  | n + 1, k => by
    rw [cnt, cnt_ir n (k + 1), ir_cons (a := k) (b := k + ((n + 1 : Nat) : Int)) (by omega), show k + 1 + (n : Int) = k + ((n + 1 : Nat) : Int) by omega]
    by_cases c : p k = true
    · rw [if_pos c, List.filter_cons_of_pos c, List.length_cons]; omega
    · rw [if_neg c, List.filter_cons_of_neg c]; omega
theorem e_count {x1 : Int} (em : ia σ 103 = m) (hW : WF m) (hS : SR σ) (hI : LI σ) (h1 : iR x1) (hd : 2 ≤ d) : EQ g ad d mX11_count [.ref (ad 102), vi x1] σ (countV m x1) 0 := by
  have hm1 := hW.1.2.1
  have i0 : iR 0 := iR_lit rfl
  have hS0 : SR (setS σ 102 0 0) := SR_setS hS i0
  have et : ia (setS σ 102 0 0) 103 = m := em
  refine EbS rfl pl_X11 rfl rfl (bX11_count_0 h1 hS ⟨fun c1 => ?_, fun c1 => ?_⟩)
  · refine EI.k (by apply e_isIn <;> (first | with_reducible assumption | with_reducible exact iR_of (by omega) (by omega) | omega | with_reducible (exact bi_01) | assumption)) (by omega) (fun _ _ => ?_)
    refine bi_zn (fun c2 => ⟨⟨by omega, by omega⟩, EQ_yes' rfl hI ?_⟩) (fun c2 => EQ_yes' rfl hI ?_)
    · unfold countV; rw [if_neg c1, if_pos c2, et]
    · unfold countV; rw [if_neg c1, if_neg c2]
  · intros
    refine up_loop (P := fun p => ∀ n, (0 ≤ n ∧ n ≤ p) → n + ((ir p (m 1)).filter (fun p => decide (of_ m p 9 = 0))).length = countV m x1 → aX11_count_15 g ad d (Ki (fun r s => r = countV m x1 ∧ sc s 102 0 = 0 ∧ Fq σ s ∧ LI s)) 0 0 (setS σ 102 0 0) x1 n p) (hi := m 1) 0 hm1.1 ?_ ?_ 0 (by omega) ?_
    · intro n hn hv
      rw [ir_nil (Int.le_refl _)] at hv
      exact bX11_count_15 h1 (iR_of (by omega) (by omega)) (iR_of (by omega) (by omega)) hS0 ⟨fun _ => EQ_yes' rfl hI (by rw [← hv]; show n = n + ((0 : Nat) : Int); omega), fun q => absurd (by rw [et]; omega) q⟩
    · intro p hp0 hp1 ih n hn hv
      rw [ir_cons hp1] at hv
      refine bX11_count_15 h1 (iR_of (by omega) (by omega)) (iR_of (by omega) (by omega)) hS0 ⟨fun q => absurd q (by rw [et]; omega), fun _ => ?_⟩
      refine EI.k (by apply w_of <;> (first | with_reducible assumption | with_reducible exact iR_of (by omega) (by omega) | omega | with_reducible (exact bi_01) | assumption)) (by omega) (fun _ _ => ?_)
      refine ⟨fun c => ⟨iR_of (by omega) (by omega), iR_of (by omega) (by omega), fun _ _ _ _ => ?_⟩, fun c => ⟨iR_of (by omega) (by omega), iR_of (by omega) (by omega), fun _ _ _ _ => ?_⟩⟩
      · rw [List.filter_cons_of_neg (by simp [c])] at hv
        exact ih (n + 0) (by omega) (by omega)
      · rw [List.filter_cons_of_pos (by simp [c]), List.length_cons] at hv
        exact ih (n + 1) (by omega) (by omega)
    · unfold countV
      rw [if_pos c1, cnt_ir, show (0 : Int) + ((m 1).toNat : Int) = m 1 by omega]
      omega
theorem e_fault (hS : SR σ) (hI : LI σ) : EQ g ad d mX11_fault [.ref (ad 102)] σ (sc σ 102 9) 0 :=
  EbS rfl pl_X11 rfl rfl (bX11_fault_0 hS (EQ_yes' rfl hI (by simp (config := {decide := true}) only [sc_S, ia_S, la_S, rv_S, sc_I, rv_I, la_I, ia_I, sc_L, rv_L, ia_L, la_L, sc_A, rv_A, la_A, ia_A, sc_B, rv_B, ia_B, la_B, sc_R, ia_R, la_R, rv_R, ia_w, la_w, rv_w, sc_w, if_true, if_false])))
theorem e_thrown (hS : SR σ) : EI g ad d mX11_thrown [.ref (ad 102)] σ (sc σ 102 0) σ :=
  EbS rfl pl_X11 rfl rfl (bX11_thrown_0 hS (re_i ⟨rfl, rfl⟩))
/-! a phrase like a row -/
def alkK (m f : Int → Int) (r p k : Int) : Bool := (decide (f r < k) || decide (of_ m p k = f (r + k))) && (decide (f (r + 4) < k) || decide (of_ m p (4 + k) = f (r + 4 + k)))
def alkP (m f : Int → Int) (r but p : Int) : Bool := decide (¬ p = but) && decide (of_ m p 9 = 0) && decide (of_ m p 0 = f r) && decide (of_ m p 4 = f (r + 4)) && allN (alkK m f r p) 3 1
def alk (m f : Int → Int) (r but : Int) : Int := sea (alkP m f r but) (m 1).toNat 0
theorem alk_b (h0 : W0 m) (f : Int → Int) (r but : Int) : -1 ≤ alk m f r but ∧ alk m f r but < m 1 := by
  have h1 := h0.2.1
  unfold alk
  rcases sea_spec (alkP m f r but) (m 1).toNat 0 with e | ⟨e1, e2, e3⟩
  · rw [e]; omega
  · omega
theorem e_alike {x2 x3 : Int} {c1 n1 : Nat} {f : Int → Int} (em : ia σ 103 = m) (ef : ia σ c1 = f) (hc1 : aI c1 n1) (hW : WF m) (hS : SR σ) (h2 : 0 ≤ x2 ∧ x2 + 8 ≤ n1) (h3 : iR x3) (hn : (n1 : Int) < 1000) (hf : f x2 ≤ 3 ∧ f (x2 + 4) ≤ 3) (hd : 1 ≤ d) : EI g ad d mX11_alike [.ref (ad 102), .ref (ad c1), vi x2, vi x3] σ (alk m f x2 x3) σ := by
  have hm1 := hW.1.2.1
  have i2 : iR x2 := iR_of (by omega) (by omega)
  refine EbS rfl pl_X11 rfl rfl (bX11_alike_0 hc1 i2 h3 hS ?_)
  intros
  have h := up_loop (P := fun p => sea (alkP m f x2 x3) (m 1 - p).toNat p = alk m f x2 x3 → aX11_alike_3 g ad d (Ki fun r s => r = alk m f x2 x3 ∧ s = σ) 0 0 σ x2 x3 p c1) (hi := m 1) 0 hm1.1 ?_ ?_
  · exact h (by rw [Int.sub_zero]; rfl)
  · intro hv
    refine bX11_alike_3 hc1 i2 h3 (iR_of (by omega) (by omega)) hS ⟨fun _ => re_i ⟨?_, rfl⟩, fun q => absurd (by rw [em]; omega) q⟩
    rw [← hv, show (m 1 - m 1).toNat = 0 by omega]
    rfl
  · intro p hp0 hp1 ih hv
    rw [show (m 1 - p).toNat = (m 1 - (p + 1)).toNat + 1 by omega, sea] at hv
    have ip : iR p := iR_of (by omega) (by omega)
    have hpp := hW.2.1 p hp0 hp1
    -- the end of one phrase
    have fin : ∀ (b k : Int), iR k → (b = 0 ∨ b = 1) → (b = 0 ↔ ¬ alkP m f x2 x3 p = true) → aX11_alike_149 g ad d (Ki fun r s => r = alk m f x2 x3 ∧ s = σ) 0 0 σ x2 x3 p b k c1 := by
      intro b k ik hb hq
      refine bX11_alike_149 hc1 i2 h3 ip (iR01 hb) ik hS ⟨fun c => ⟨iR_of (by omega) (by omega), fun _ _ _ _ => ih ?_⟩, fun c => re_i ⟨?_, rfl⟩⟩
      · rw [if_neg (hq.mp c)] at hv
        exact hv
      · rw [if_pos (Classical.not_not.mp (fun q => c (hq.mpr q)))] at hv
        exact hv
    have no : ¬ alkP m f x2 x3 p = true → aX11_alike_63 g ad d (Ki fun r s => r = alk m f x2 x3 ∧ s = σ) 0 0 σ x2 x3 p c1 := by
      intro hno
      refine bX11_alike_63 hc1 i2 h3 ip hS ?_
      intros
      refine bX11_alike_69 hc1 i2 h3 ip (iR_lit rfl) (iR_lit rfl) hS ⟨fun q => absurd q (by decide), fun _ => ⟨fun _ => ?_, fun q => absurd rfl q⟩⟩
      intros
      exact fin 0 1 (iR_lit rfl) (Or.inl rfl) ⟨fun _ => hno, fun _ => rfl⟩
    refine bX11_alike_3 hc1 i2 h3 ip hS ⟨fun q => absurd q (by rw [em]; omega), fun _ => ⟨fun c => ?_, fun c => ?_⟩⟩
    · intros
      exact no (by unfold alkP; simp [c])
    · refine EI.k (by apply (w_of em) <;> (first | with_reducible assumption | with_reducible exact iR_of (by omega) (by omega) | omega | with_reducible (exact bi_01) | assumption)) (by omega) (fun _ _ => ?_)
      refine ⟨fun c9 => ?_, fun c9 => ?_⟩
      · intros
        exact no (by unfold alkP; simp [c9])
      · refine EI.k (by apply (w_of em) <;> (first | with_reducible assumption | with_reducible exact iR_of (by omega) (by omega) | omega | with_reducible (exact bi_01) | assumption)) (by omega) (fun _ _ => ?_)
        rw [ef]
        refine ⟨⟨by omega, by omega⟩, fun c0 => ?_, fun c0 => ?_⟩
        · intros
          exact no (by unfold alkP; simp [c0])
        · refine EI.k (by apply (w_of em) <;> (first | with_reducible assumption | with_reducible exact iR_of (by omega) (by omega) | omega | with_reducible (exact bi_01) | assumption)) (by omega) (fun _ _ => ?_)
          refine ⟨⟨by omega, by omega⟩, fun c4 => ?_, fun c4 => ?_⟩
          · intros
            exact no (by rw [ef] at c4; unfold alkP; rw [decide_eq_false c4]; simp)
          · intros
            have hP : alkP m f x2 x3 p = allN (alkK m f x2 p) 3 1 := by
              unfold alkP
              rw [ef] at c4; rw [decide_eq_true c, decide_eq_true c9, decide_eq_true c0, decide_eq_true c4]; rfl
            rw [hP] at fin
            have lp := up_loop (P := fun k => ∀ b : Int, (b = 0 ∨ b = 1) → (b = 0 → ¬ allN (alkK m f x2 p) 3 1 = true) → (b = 1 → allN (alkK m f x2 p) (4 - k).toNat k = allN (alkK m f x2 p) 3 1) → aX11_alike_69 g ad d (Ki fun r s => r = alk m f x2 x3 ∧ s = σ) 0 0 σ x2 x3 p b k c1) (hi := 4) 1 (by omega) ?_ ?_
            · exact lp 1 (Or.inr rfl) (fun q => absurd q (by decide)) (fun _ => rfl)
            · intro b hb hb0 hb1
              refine bX11_alike_69 hc1 i2 h3 ip (iR01 hb) (iR_lit rfl) hS ⟨fun _ => ?_, fun q => absurd (by decide) q⟩
              intros
              refine fin b 4 (iR_lit rfl) hb ⟨hb0, fun q => ?_⟩
              rcases hb with h | h
              · exact h
              · exact absurd (hb1 h).symm q
            · intro k hk0 hk1 ihk b hb hb0 hb1
              have ik : iR k := iR_of (by omega) (by omega)
              refine bX11_alike_69 hc1 i2 h3 ip (iR01 hb) ik hS ⟨fun q => absurd q (by omega), fun _ => ⟨fun cb => ?_, fun cb => ⟨⟨by omega, by omega⟩, ?_⟩⟩⟩
              · intros
                exact fin b k ik hb ⟨hb0, fun _ => cb⟩
              · have hb' : b = 1 := by omega
                subst hb'
                have hstep := hb1 rfl
                rw [show (4 - k).toNat = (4 - (k + 1)).toNat + 1 by omega, allN] at hstep
                have bad : ¬ alkK m f x2 p k = true → aX11_alike_140 g ad d (Ki fun r s => r = alk m f x2 x3 ∧ s = σ) 0 0 σ x2 x3 p 1 k c1 := by
                  intro hbad
                  refine bX11_alike_140 hc1 i2 h3 ip (iR_lit rfl) ik hS ⟨iR_of (by omega) (by omega), fun _ _ _ _ _ _ => ?_⟩
                  refine ihk 0 (Or.inl rfl) (fun _ q => ?_) (fun q => absurd q (by decide))
                  rw [q] at hstep
                  rw [Bool.and_eq_true] at hstep
                  exact hbad hstep.1
                have good : alkK m f x2 p k = true → aX11_alike_136 g ad d (Ki fun r s => r = alk m f x2 x3 ∧ s = σ) 0 0 σ x2 x3 p 1 k c1 := by
                  intro hgood
                  refine bX11_alike_136 hc1 i2 h3 ip (iR_lit rfl) ik hS ⟨iR_of (by omega) (by omega), fun _ _ _ _ _ _ => ?_⟩
                  refine ihk 1 (Or.inr rfl) (fun q => absurd q (by decide)) (fun _ => ?_)
                  rw [hgood, Bool.true_and] at hstep
                  exact hstep
                have half : (f x2 < k ∨ of_ m p k = f (x2 + k)) → aX11_alike_105 g ad d (Ki fun r s => r = alk m f x2 x3 ∧ s = σ) 0 0 σ x2 x3 p 1 k c1 := by
                  intro h1
                  have e1 : (decide (f x2 < k) || decide (of_ m p k = f (x2 + k))) = true := by
                    rw [Bool.or_eq_true, decide_eq_true_eq, decide_eq_true_eq]
                    exact h1
                  refine bX11_alike_105 hc1 i2 h3 ip (iR_lit rfl) ik hS ⟨⟨by omega, by omega⟩, ?_⟩
                  rw [ef]
                  refine ⟨fun c5 => ?_, fun c5 => ?_⟩
                  · intros
                    exact good (by unfold alkK; rw [e1]; simp [c5])
                  · refine EI.k (by apply (w_of em) <;> (first | with_reducible assumption | with_reducible exact iR_of (by omega) (by omega) | omega | with_reducible (exact bi_01) | assumption)) (by omega) (fun _ _ => ?_)
                    rw [ef]
                    refine ⟨⟨by omega, by omega⟩, fun c6 => ?_, fun c6 => ?_⟩
                    · intros
                      exact bad (by unfold alkK; rw [e1]; simp [c6]; omega)
                    · intros
                      exact good (by unfold alkK; rw [e1]; simp [c6])
                rw [ef]
                refine ⟨fun c5 => ?_, fun c5 => ?_⟩
                · intros
                  exact half (Or.inl c5)
                · refine EI.k (by apply (w_of em) <;> (first | with_reducible assumption | with_reducible exact iR_of (by omega) (by omega) | omega | with_reducible (exact bi_01) | assumption)) (by omega) (fun _ _ => ?_)
                  rw [ef]
                  refine ⟨⟨by omega, by omega⟩, fun c6 => ?_, fun c6 => ?_⟩
                  · intros
                    exact bad (by unfold alkK; simp [c6]; omega)
                  · intros
                    exact half (Or.inr c6)
end PSs
