section QX
variable {g : AG} {ad : Nat → Nat} {d : Nat} {σ : SG} {m : Int → Int}
/-! OPTION -/
def ol (m : Int → Int) (o : Int) : List Int := if o = 100 then [] else ir o (m 1) ++ [99]
theorem ol_100 : ol m 100 = [] := if_pos rfl
theorem ol_cons (h0 : W0 m) {o : Int} (ho : isO m o) : ol m o = o :: ol m (nxt m o) := by
  have h1 := h0.2.1
  unfold isO at ho
  unfold ol nxt
  rw [if_neg (by omega)]
  by_cases c : o = 99
  · subst c
    rw [if_neg (by omega : ¬ (99 : Int) + 1 < m 1), if_neg (by decide : ¬ (99 : Int) + 1 ≤ 99), if_pos rfl, ir_nil (by omega : m 1 ≤ 99)]
    rfl
  · rw [ir_cons (by omega : o < m 1)]
    by_cases c2 : o + 1 < m 1
    · rw [if_pos c2, if_neg (by omega : ¬ o + 1 = 100)]
      rfl
    · rw [if_neg c2, if_pos (by omega : o + 1 ≤ 99), if_neg (by decide : ¬ (99 : Int) = 100), ir_nil (by omega : m 1 ≤ o + 1), ir_nil (by omega : m 1 ≤ 99)]
      rfl
theorem ol_first (h0 : W0 m) : ol m (nxt m (-1)) = ir 0 (m 1) ++ [99] := by
  have h1 := h0.2.1
  unfold ol nxt
  by_cases c : -1 + 1 < m 1
  · rw [if_pos c, if_neg (by decide)]
    rfl
  · rw [if_neg c, if_pos (by decide : (-1 : Int) + 1 ≤ 99), if_neg (by decide : ¬ (99 : Int) = 100), ir_nil (by omega : m 1 ≤ 0), ir_nil (by omega : m 1 ≤ 99)]
/-- the k-th of a row -/
def nthO : List Int → Int → Int
  | [], _ => -1
  | o :: l, k => if k = 0 then o else nthO l (k - 1)
/-- the options of a place -/
def opl (m : Int → Int) (s : Int) : List Int := (ir 0 (m 1) ++ [99]).filter (fun o => isOpt m o s)
def placeT (m : Int → Int) (s : Int) : Int := if 0 ≤ s ∧ s < m 3 then 0 else 1
def optionV (m : Int → Int) (s k : Int) : Int := if placeT m s = 0 then nthO (opl m s) k else 0
theorem e_option {x1 x2 : Int} (em : ia σ 103 = m) (hW : WF m) (hS : SR σ) (hI : LI σ) (h1 : iR x1) (h2 : iR x2) (hd : 4 ≤ d) : EQ g ad d mX11_option [.ref (ad 102), vi x1, vi x2] σ (optionV m x1 x2) (placeT m x1) := by
  have hW0 := hW.1
  have h3 := hW.1.2.2.2.1
  have hm1 := hW.1.2.1
  have i0 : iR 0 := iR_lit rfl
  refine EbS rfl pl_X11 rfl rfl (bX11_option_0 h1 h2 hS ?_)
  refine EI.k (by apply w_isPlace <;> (first | with_reducible assumption | with_reducible exact iR_of (by omega) (by omega) | omega | with_reducible (exact bi_01) | assumption)) (by omega) (fun _ _ => ?_)
  refine bi_zn (fun c1 => ?_) (fun c1 => ?_)
  · have hT : placeT m x1 = 0 := if_pos c1
    have hS0 : SR (setS σ 102 0 0) := SR_setS hS i0
    have et : ia (setS σ 102 0 0) 103 = m := em
    simp (config := {decide := true}) only [sc_S, ia_S, la_S, rv_S, sc_I, rv_I, la_I, ia_I, sc_L, rv_L, ia_L, la_L, sc_A, rv_A, la_A, ia_A, sc_B, rv_B, ia_B, la_B, sc_R, ia_R, la_R, rv_R, ia_w, la_w, rv_w, sc_w, if_true, if_false]
    refine ⟨fun _ => ?_, fun q => q.elim⟩
    refine EI.k (by apply w_next <;> (first | with_reducible assumption | with_reducible exact iR_of (by omega) (by omega) | omega | with_reducible (exact bi_01) | assumption)) (by omega) (fun _ _ => ?_)
    intros
    refine o_loop (m := m) hW0 (B := fun o => ∀ n : Int, (0 ≤ n ∧ n ≤ 100 - (ol m o).length) → nthO ((ol m o).filter (fun o => isOpt m o x1)) (x2 - n) = optionV m x1 x2 → aX11_option_35 g ad d (Ki fun r s => r = optionV m x1 x2 ∧ sc s 102 0 = placeT m x1 ∧ Fq σ s ∧ LI s) 0 0 (setS σ 102 0 0) x1 x2 n o) ?_ ?_ 0 ?_ ?_
    · intro n hn hv
      refine bX11_option_35 h1 h2 (iR_of (by omega) (by omega)) (iR_lit rfl) hS0 ⟨fun _ => re_i ⟨?_, by rw [hT]; simp (config := {decide := true}) only [sc_S, ia_S, la_S, rv_S, sc_I, rv_I, la_I, ia_I, sc_L, rv_L, ia_L, la_L, sc_A, rv_A, la_A, ia_A, sc_B, rv_B, ia_B, la_B, sc_R, ia_R, la_R, rv_R, ia_w, la_w, rv_w, sc_w, if_true, if_false], (Fq.refl σ).S rfl, LI_S (by decide) hI⟩, fun q => absurd (by decide) q⟩
      rw [ol_100] at hv
      exact hv
    · intro o ho ih n hn hv
      have hob := isO_b hW0 ho
      rw [ol_cons hW0 ho] at hn hv
      rw [List.length_cons] at hn
      have io : iR o := iR_of (by omega) (by omega)
      refine bX11_option_35 h1 h2 (iR_of (by omega) (by omega)) io hS0 ⟨fun q => absurd q (by omega), fun _ => ?_⟩
      refine EI.k (by apply w_isOption <;> (first | with_reducible assumption | with_reducible exact iR_of (by omega) (by omega) | omega | with_reducible (exact bi_01) | assumption)) (by omega) (fun _ _ => ?_)
      refine bi_nz (fun c2 => ?_) (fun c2 => ?_)
      · rw [List.filter_cons_of_pos (p := fun o => isOpt m o x1) c2, nthO] at hv
        refine ⟨fun c3 => ?_, fun c3 => re_i ⟨?_, by rw [hT]; simp (config := {decide := true}) only [sc_S, ia_S, la_S, rv_S, sc_I, rv_I, la_I, ia_I, sc_L, rv_L, ia_L, la_L, sc_A, rv_A, la_A, ia_A, sc_B, rv_B, ia_B, la_B, sc_R, ia_R, la_R, rv_R, ia_w, la_w, rv_w, sc_w, if_true, if_false], (Fq.refl σ).S rfl, LI_S (by decide) hI⟩⟩
        · rw [if_neg (by omega)] at hv
          refine EI.k (by apply w_next <;> (first | with_reducible assumption | with_reducible exact iR_of (by omega) (by omega) | omega | with_reducible (exact bi_01) | assumption)) (by omega) (fun _ _ => ?_)
          refine ⟨iR_of (by omega) (by omega), fun _ _ _ _ _ => ?_⟩
          refine ih (n + 1) (by omega) ?_
          rw [← hv]
          congr 1
          omega
        · rw [if_pos (by omega)] at hv
          exact hv
      · rw [List.filter_cons_of_neg (p := fun o => isOpt m o x1) c2] at hv
        refine EI.k (by apply w_next <;> (first | with_reducible assumption | with_reducible exact iR_of (by omega) (by omega) | omega | with_reducible (exact bi_01) | assumption)) (by omega) (fun _ _ => ?_)
        intros
        exact ih n (by omega) hv
    · rw [ol_first hW0, List.length_append, ir_length, List.length_singleton]
      omega
    · rw [ol_first hW0]
      unfold optionV
      rw [if_pos hT, Int.sub_zero]
      rfl
  · have hT : placeT m x1 = 1 := if_neg c1
    simp (config := {decide := true}) only [sc_S, ia_S, la_S, rv_S, sc_I, rv_I, la_I, ia_I, sc_L, rv_L, ia_L, la_L, sc_A, rv_A, la_A, ia_A, sc_B, rv_B, ia_B, la_B, sc_R, ia_R, la_R, rv_R, ia_w, la_w, rv_w, sc_w, if_true, if_false]
    refine ⟨fun q => absurd q (by decide), fun _ => EQ_no hT ?_ hI⟩
    unfold optionV; rw [hT]; rfl
/-! sets of phrases -/
theorem bOr_0 {a : Int} (ha : iR a) : bOr a 0 = a := by
  unfold bOr
  rw [show Int32.ofInt 0 = 0 from rfl, Int32.or_zero, iR_ofInt ha]
theorem bOr_R {a b : Int} : iR (bOr a b) := ⟨Int32.le_toInt _, Int32.toInt_lt _⟩
def bset (c : Int → Bool) (l : List Int) : Int := l.foldl (fun b p => if c p = true then bOr b (bShl 1 p) else b) 0
def idleV (m : Int → Int) : Int := bset (fun p => decide (of_ m p 9 = 0) && decide (placesOf m p = 0)) (ir 0 (m 1))
theorem e_idle (em : ia σ 103 = m) (hW : WF m) (hS : SR σ) (hI : LI σ) (hd : 5 ≤ d) : EQ g ad d mX11_idle [.ref (ad 102)] σ (idleV m) 0 := by
  have hW0 := hW.1
  have hm1 := hW.1.2.1
  have i0 : iR 0 := iR_lit rfl
  refine EbS rfl pl_X11 rfl rfl (bX11_idle_0 hS ?_)
  intro _ _ hS0
  have et : ia (setS σ 102 0 0) 103 = m := em
  refine up_loop (P := fun p => ∀ b, iR b → (ir p (m 1)).foldl (fun b p => if (decide (of_ m p 9 = 0) && decide (placesOf m p = 0)) = true then bOr b (bShl 1 p) else b) b = idleV m → aX11_idle_9 g ad d (Ki fun r s => r = idleV m ∧ sc s 102 0 = 0 ∧ Fq σ s ∧ LI s) 0 0 (setS σ 102 0 0) b p) (hi := m 1) 0 hm1.1 ?_ ?_ 0 i0 rfl
  · intro b hb hv
    refine bX11_idle_9 hb (iR_of (by omega) (by omega)) hS0 ⟨fun _ => re_i ⟨?_, by simp (config := {decide := true}) only [sc_S, ia_S, la_S, rv_S, sc_I, rv_I, la_I, ia_I, sc_L, rv_L, ia_L, la_L, sc_A, rv_A, la_A, ia_A, sc_B, rv_B, ia_B, la_B, sc_R, ia_R, la_R, rv_R, ia_w, la_w, rv_w, sc_w, if_true, if_false], (Fq.refl σ).S rfl, LI_S (by decide) hI⟩, fun q => absurd (by rw [et]; omega) q⟩
    rw [ir_nil (Int.le_refl _)] at hv
    exact hv
  · intro p hp0 hp1 ih b hb hv
    rw [ir_cons hp1, List.foldl_cons] at hv
    have ho : isO m p := Or.inr ⟨hp0, hp1⟩
    refine bX11_idle_9 hb (iR_of (by omega) (by omega)) hS0 ⟨fun q => absurd q (by rw [et]; omega), fun _ => ?_⟩
    refine EI.k (by apply w_of <;> (first | with_reducible assumption | with_reducible exact iR_of (by omega) (by omega) | omega | with_reducible (exact bi_01) | assumption)) (by omega) (fun _ _ => ?_)
    refine ⟨fun c => ⟨iR_of (by omega) (by omega), fun _ _ _ => ?_⟩, fun c => ?_⟩
    · rw [bOr_0 hb]
      rw [if_neg (by simp [c])] at hv
      exact ih b hb hv
    · refine EI.k (by apply w_placesOf <;> (first | with_reducible assumption | with_reducible exact iR_of (by omega) (by omega) | omega | with_reducible (exact bi_01) | assumption)) (by omega) (fun _ _ => ?_)
      refine ⟨fun c2 => ⟨iR_of (by omega) (by omega), fun _ _ _ => ?_⟩, fun c2 => ⟨iR_of (by omega) (by omega), fun _ _ _ => ?_⟩⟩
      · rw [bOr_0 hb]
        rw [if_neg (by simp [c2])] at hv
        exact ih b hb hv
      · rw [if_pos (by simp [c, c2])] at hv
        exact ih _ bOr_R hv
/-! with a number changed -/
theorem WF_up {j v : Int} (hW : WF m) (hj : 4 ≤ j ∧ j ≤ 8) (hv : (j = 8 → 1 ≤ v ∧ v ≤ 40) ∧ (j ≤ 5 → 0 ≤ v ∧ v ≤ 99) ∧ (j = 6 → 0 ≤ v ∧ v ≤ 20) ∧ (j = 7 → 0 ≤ v ∧ v ≤ 6)) : WF (up m j v) := by
  obtain ⟨a, b, c, e⟩ := hW
  have hlt : ∀ i, i < 4 → up m j v i = m i := fun i hi => up_ne (by omega)
  have hgt : ∀ i, 8 < i → up m j v i = m i := fun i hi => up_ne (by omega)
  have ho : ∀ p w, 0 ≤ p → 0 ≤ w → of_ (up m j v) p w = of_ m p w := fun p w hp hw => hgt _ (by omega)
  have hin : ∀ i, i = j ∧ up m j v i = v ∨ ¬ i = j ∧ up m j v i = m i := fun i => by
    by_cases c : i = j
    · exact Or.inl ⟨c, by rw [c]; exact up_at⟩
    · exact Or.inr ⟨c, up_ne c⟩
  have w4 := hin 4
  have w5 := hin 5
  have w6 := hin 6
  have w7 := hin 7
  have w8 := hin 8
  unfold W0 at a
  refine ⟨?_, ?_, ?_, ?_⟩
  · unfold W0
    rw [hlt 0 (by omega), hlt 1 (by omega), hlt 2 (by omega), hlt 3 (by omega)]
    refine ⟨a.1, a.2.1, a.2.2.1, a.2.2.2.1, ?_, ?_, ?_, ?_, ?_⟩ <;> omega
  · intro p hp0 hp1
    rw [hlt 1 (by omega)] at hp1
    have := b p hp0 hp1
    rw [ho p 0 hp0 (by omega), ho p 4 hp0 (by omega), ho p 8 hp0 (by omega), ho p 9 hp0 (by omega), hlt 0 (by omega)]
    refine ⟨this.1, this.2.1, this.2.2.1, this.2.2.2.1, fun k hk0 hk1 => ?_, fun k hk0 hk1 => ?_⟩
    · rw [ho p _ hp0 (by omega)]; exact this.2.2.2.2.1 k hk0 hk1
    · rw [ho p _ hp0 (by omega)]; exact this.2.2.2.2.2 k hk0 hk1
  · intro k hk0 hk1
    rw [hlt 2 (by omega)] at hk1
    rw [hlt 0 (by omega), hgt _ (by omega), hgt _ (by omega), hgt _ (by omega)]
    exact c k hk0 hk1
  · intro k hk0 hk1
    rw [hlt 3 (by omega)] at hk1
    rw [hlt 0 (by omega), hgt _ (by omega)]
    exact e k hk0 hk1
/-- with a phrase's cost or whether it is gone changed -/
theorem WF_upP {p w v : Int} (hW : WF m) (hp : 0 ≤ p ∧ p < m 1) (hw : w = 8 ∧ 0 ≤ v ∧ v ≤ 99 ∨ w = 9 ∧ (v = 0 ∨ v = 1)) : WF (up m (369 + 10 * p + w) v) := by
  obtain ⟨a, b, c, e⟩ := hW
  have h1 := a.2.1
  have h2 := a.2.2.1
  have hne : ∀ i, (i < 369 ∨ 669 ≤ i) → up m (369 + 10 * p + w) v i = m i := fun i hi => up_ne (by omega)
  refine ⟨?_, ?_, ?_, ?_⟩
  · unfold W0
    rw [hne 0 (by omega), hne 1 (by omega), hne 2 (by omega), hne 3 (by omega), hne 4 (by omega), hne 5 (by omega), hne 6 (by omega), hne 7 (by omega), hne 8 (by omega)]
    exact a
  · intro q hq0 hq1
    rw [hne 1 (by omega)] at hq1
    have := b q hq0 hq1
    have ho : ∀ u, 0 ≤ u → u ≤ 9 → ¬ (q = p ∧ u = w) → of_ (up m (369 + 10 * p + w) v) q u = of_ m q u := fun u hu0 hu1 hn => up_ne (by omega)
    have hat : of_ (up m (369 + 10 * q + w) v) q w = v := up_at
    rw [ho 0 (by omega) (by omega) (by omega), ho 4 (by omega) (by omega) (by omega), hne 0 (by omega)]
    refine ⟨this.1, this.2.1, ?_, ?_, fun k hk0 hk1 => ?_, fun k hk0 hk1 => ?_⟩
    · by_cases c8 : q = p ∧ w = 8
      · rw [← c8.1]
        rw [c8.2] at hat ⊢
        rw [hat]
        omega
      · rw [ho 8 (by omega) (by omega) (by omega)]
        exact this.2.2.1
    · by_cases c9 : q = p ∧ w = 9
      · rw [← c9.1]
        rw [c9.2] at hat ⊢
        rw [hat]
        omega
      · rw [ho 9 (by omega) (by omega) (by omega)]
        exact this.2.2.2.1
    · rw [ho _ (by omega) (by omega) (by omega)]; exact this.2.2.2.2.1 k hk0 hk1
    · rw [ho _ (by omega) (by omega) (by omega)]; exact this.2.2.2.2.2 k hk0 hk1
  · intro k hk0 hk1
    rw [hne 2 (by omega)] at hk1
    rw [hne 0 (by omega), hne _ (by omega), hne _ (by omega), hne _ (by omega)]
    exact c k hk0 hk1
  · intro k hk0 hk1
    have h3 := a.2.2.2.1
    rw [hne 3 (by omega)] at hk1
    rw [hne 0 (by omega), hne _ (by omega)]
    exact e k hk0 hk1
theorem up_up {f : Int → Int} {j a b : Int} : up (up f j a) j b = up f j b := by
  funext i
  unfold up
  split <;> rfl
theorem up_self {f : Int → Int} {j : Int} : up f j (f j) = f := by
  funext i
  unfold up
  split
  · rename_i h; rw [h]
  · rfl
theorem LI_0 {s : SG} (h : sc s 102 20 = 0) : LI s := fun q => absurd h q
/-- the frame, with the row m changed and changed back -/
theorem Fm_back {A K : List Nat} {σ s : SG} {j v : Int} (h : Fm A K (setS (setI σ 103 j v) 102 20 0) s) (hA : decide (103 ∈ A) = false) (h20 : 20 ∈ K) : Fm A K σ (setS (setI s 103 j (ia σ 103 j)) 102 20 0) := by
  refine ⟨h.1, h.2.1, fun c hc => ?_, fun c k hk => ?_⟩
  · simp (config := {decide := true}) only [sc_S, ia_S, la_S, rv_S, sc_I, rv_I, la_I, ia_I, sc_L, rv_L, ia_L, la_L, sc_A, rv_A, la_A, ia_A, sc_B, rv_B, ia_B, la_B, sc_R, ia_R, la_R, rv_R, ia_w, la_w, rv_w, sc_w, if_true, if_false]
    by_cases e : c = 103
    · subst e
      have := h.a 103 hA
      simp (config := {decide := true}) only [sc_S, ia_S, la_S, rv_S, sc_I, rv_I, la_I, ia_I, sc_L, rv_L, ia_L, la_L, sc_A, rv_A, la_A, ia_A, sc_B, rv_B, ia_B, la_B, sc_R, ia_R, la_R, rv_R, ia_w, la_w, rv_w, sc_w, if_true, if_false] at this
      rw [if_pos rfl, this, up_up, up_self]
    · rw [if_neg e, h.2.2.1 c hc]
      simp (config := {decide := true}) only [sc_S, ia_S, la_S, rv_S, sc_I, rv_I, la_I, ia_I, sc_L, rv_L, ia_L, la_L, sc_A, rv_A, la_A, ia_A, sc_B, rv_B, ia_B, la_B, sc_R, ia_R, la_R, rv_R, ia_w, la_w, rv_w, sc_w, if_true, if_false]
      rw [if_neg e]
  · have hn : ¬ (c = 102 ∧ k = 20) := fun q => hk ⟨q.1, q.2 ▸ h20⟩
    rw [sc_S, if_neg hn, sc_I, h.2.2.2 c k hk, sc_S, if_neg hn, sc_I]
theorem e_exactBy {x1 x2 : Int} (em : ia σ 103 = m) (hx1 : 4 ≤ x1 ∧ x1 ≤ 8) (hW : WF (up m x1 x2)) (hS : SR σ) (h2 : iR x2) (hd : 12 ≤ d) : Eb g ad d mX11_exactBy 0 0 [.ref (ad 102), vi x1, vi x2] σ (Ki fun r s => r = exM (up m x1 x2) ∧ LI s ∧ Fm [112] [20, 22, 23] σ s) := by
  refine EbS rfl pl_X11 rfl rfl (bX11_exactBy_0 (iR_of (by omega) (by omega)) h2 hS ⟨⟨by omega, by omega⟩, ?_⟩)
  refine Cl.i (w_exact0 (m := up m x1 x2) (d := d - 1) (by simp (config := {decide := true}) only [sc_S, ia_S, la_S, rv_S, sc_I, rv_I, la_I, ia_I, sc_L, rv_L, ia_L, la_L, sc_A, rv_A, la_A, ia_A, sc_B, rv_B, ia_B, la_B, sc_R, ia_R, la_R, rv_R, ia_w, la_w, rv_w, sc_w, if_true, if_false]; rw [em]) hW (SR_setS (SR_setI hS h2) (iR_lit rfl)) (LI_0 (by simp (config := {decide := true}) only [sc_S, ia_S, la_S, rv_S, sc_I, rv_I, la_I, ia_I, sc_L, rv_L, ia_L, la_L, sc_A, rv_A, la_A, ia_A, sc_B, rv_B, ia_B, la_B, sc_R, ia_R, la_R, rv_R, ia_w, la_w, rv_w, sc_w, if_true, if_false])) (by omega)) (by omega) (fun r s hr hS' h => ?_)
  obtain ⟨h1, h2, h3⟩ := h
  exact re_i ⟨h1, LI_0 (by simp (config := {decide := true}) only [sc_S, ia_S, la_S, rv_S, sc_I, rv_I, la_I, ia_I, sc_L, rv_L, ia_L, la_L, sc_A, rv_A, la_A, ia_A, sc_B, rv_B, ia_B, la_B, sc_R, ia_R, la_R, rv_R, ia_w, la_w, rv_w, sc_w, if_true, if_false]), Fm_back h3 rfl (by decide)⟩
def reachV (m : Int → Int) : Int := sea (fun n => decide (exM (up m 7 n) = exM (up m 7 6))) 7 0
theorem e_reach (em : ia σ 103 = m) (hW : WF m) (hS : SR σ) (hd : 13 ≤ d) : EQ g ad d mX11_reach [.ref (ad 102)] σ (reachV m) 0 := by
  refine EbS rfl pl_X11 rfl rfl (bX11_reach_0 hS ?_)
  have i0 : iR 0 := iR_lit rfl
  have hWn : ∀ n : Int, 0 ≤ n ∧ n ≤ 6 → WF (up m 7 n) := fun n hn => WF_up hW (by omega) (by omega)
  refine Cl.i (e_exactBy (m := m) (d := d - 1) (by simp (config := {decide := true}) only [sc_S, ia_S, la_S, rv_S, sc_I, rv_I, la_I, ia_I, sc_L, rv_L, ia_L, la_L, sc_A, rv_A, la_A, ia_A, sc_B, rv_B, ia_B, la_B, sc_R, ia_R, la_R, rv_R, ia_w, la_w, rv_w, sc_w, if_true, if_false]; exact em) (by omega) (hWn 6 (by omega)) (SR_setS hS i0) (iR_lit rfl) (by omega)) (by omega) (fun r1 s1 hr1 hS1 h1 => ?_)
  obtain ⟨e1, hL1, hF1⟩ := h1
  intros
  have key : ∀ (k : Nat) (n : Int) (τ : SG), 0 ≤ n → n + k = 6 → SR τ → LI τ → Fm [112] [20, 22, 23] (setS σ 102 0 0) τ → sea (fun n => decide (exM (up m 7 n) = exM (up m 7 6))) (k + 1) n = reachV m → aX11_reach_16 g ad d (Ki fun r s => r = reachV m ∧ sc s 102 0 = 0 ∧ Fq σ s ∧ LI s) 0 0 τ r1 n := by
    intro k
    induction k with
    | zero =>
      intro n τ hn0 hn hSt hL hF hv
      have et : ia τ 103 = m := by rw [hF.a 103 rfl]; exact em
      refine bX11_reach_16 hr1 (iR_of (by omega) (by omega)) hSt ?_
      refine Cl.i (e_exactBy (m := m) (d := d - 1) et (by omega) (hWn n (by omega)) hSt (iR_of (by omega) (by omega)) (by omega)) (by omega) (fun r2 s2 hr2 hS2 h2 => ?_)
      obtain ⟨e2, hL2, hF2⟩ := h2
      have hn6 : n = 6 := by omega
      subst hn6
      refine ⟨fun _ => re_i ⟨?_, ?_, ((Fq.refl σ).S rfl).trans ((hF.trans hF2).q rfl rfl), hL2⟩, fun q => absurd (by rw [e1, e2]) q⟩
      · rw [← hv, sea, if_pos (by simp)]
      · rw [hF2.s 0 rfl, hF.s 0 rfl]; simp (config := {decide := true}) only [sc_S, ia_S, la_S, rv_S, sc_I, rv_I, la_I, ia_I, sc_L, rv_L, ia_L, la_L, sc_A, rv_A, la_A, ia_A, sc_B, rv_B, ia_B, la_B, sc_R, ia_R, la_R, rv_R, ia_w, la_w, rv_w, sc_w, if_true, if_false]
    | succ k ih =>
      intro n τ hn0 hn hSt hL hF hv
      have et : ia τ 103 = m := by rw [hF.a 103 rfl]; exact em
      refine bX11_reach_16 hr1 (iR_of (by omega) (by omega)) hSt ?_
      refine Cl.i (e_exactBy (m := m) (d := d - 1) et (by omega) (hWn n (by omega)) hSt (iR_of (by omega) (by omega)) (by omega)) (by omega) (fun r2 s2 hr2 hS2 h2 => ?_)
      obtain ⟨e2, hL2, hF2⟩ := h2
      rw [sea] at hv
      refine ⟨fun c => re_i ⟨?_, ?_, ((Fq.refl σ).S rfl).trans ((hF.trans hF2).q rfl rfl), hL2⟩, fun c => ⟨iR_of (by omega) (by omega), fun _ _ _ => ?_⟩⟩
      · rw [if_pos (decide_eq_true (by rw [← e2, ← e1]; exact c))] at hv
        exact hv
      · rw [hF2.s 0 rfl, hF.s 0 rfl]; simp (config := {decide := true}) only [sc_S, ia_S, la_S, rv_S, sc_I, rv_I, la_I, ia_I, sc_L, rv_L, ia_L, la_L, sc_A, rv_A, la_A, ia_A, sc_B, rv_B, ia_B, la_B, sc_R, ia_R, la_R, rv_R, ia_w, la_w, rv_w, sc_w, if_true, if_false]
      · rw [if_neg (by rw [decide_eq_true_eq, ← e2, ← e1]; exact c)] at hv
        exact ih (n + 1) s2 (by omega) (by omega) hS2 hL2 (hF.trans hF2) hv
  exact key 6 0 s1 (by omega) (by omega) hS1 hL1 hF1 rfl
/-- what a phrase is worth -/
def worthV (m : Int → Int) (p : Int) : Int := if of_ m p 9 = 1 then 0 else exM (up m (369 + 10 * p + 9) 1) - exM m
theorem worthV_b (hW : WF m) {p : Int} (hp : 0 ≤ p ∧ p < m 1) : -1000000000 ≤ worthV m p ∧ worthV m p ≤ 1000000000 := by
  have h1 := exM_b hW
  have h2 := exM_b (WF_upP (w := 9) (v := 1) hW hp (by omega))
  unfold worthV
  split <;> omega
theorem e_worth {x1 : Int} (em : ia σ 103 = m) (hW : WF m) (hS : SR σ) (hI : LI σ) (hp : 0 ≤ x1 ∧ x1 < m 1) (hd : 12 ≤ d) : Eb g ad d mX11_worth 0 0 [.ref (ad 102), vi x1] σ (Ki fun r s => r = worthV m x1 ∧ LI s ∧ Fm [112] [20, 22, 23] σ s) := by
  have hW0 := hW.1
  have hm1 := hW.1.2.1
  have hb1 := exM_b hW
  have hWu := WF_upP (w := 9) (v := 1) hW hp (by omega)
  have hb2 := exM_b hWu
  have ix : iR x1 := iR_of (by omega) (by omega)
  refine EbS rfl pl_X11 rfl rfl (bX11_worth_0 ix hS ?_)
  refine EI.k (by apply w_of <;> (first | with_reducible assumption | with_reducible exact iR_of (by omega) (by omega) | omega | with_reducible (exact bi_01) | assumption)) (by omega) (fun _ _ => ?_)
  refine ⟨fun c => ?_, fun c => re_i ⟨?_, hI, Fm.refl σ⟩⟩
  · have h9 : of_ m x1 9 = 0 := by
      have := (hW.2.1 x1 hp.1 hp.2).2.2.2.1
      omega
    refine Cl.i (w_exact0 (m := m) (d := d - 1) em hW hS hI (by omega)) (by omega) (fun r2 s2 hr2 hS2 h2 => ?_)
    obtain ⟨e2, hL2, hF2⟩ := h2
    have es2 : ia s2 103 = m := (hF2.a 103 rfl).trans em
    refine ⟨⟨by omega, by omega⟩, ?_⟩
    refine Cl.i (w_exact0 (m := up m (369 + 10 * x1 + 9) 1) (d := d - 1) (by simp (config := {decide := true}) only [sc_S, ia_S, la_S, rv_S, sc_I, rv_I, la_I, ia_I, sc_L, rv_L, ia_L, la_L, sc_A, rv_A, la_A, ia_A, sc_B, rv_B, ia_B, la_B, sc_R, ia_R, la_R, rv_R, ia_w, la_w, rv_w, sc_w, if_true, if_false]; rw [es2]) hWu (SR_setS (SR_setI hS2 (iR_lit rfl)) (iR_lit rfl)) (LI_0 (by simp (config := {decide := true}) only [sc_S, ia_S, la_S, rv_S, sc_I, rv_I, la_I, ia_I, sc_L, rv_L, ia_L, la_L, sc_A, rv_A, la_A, ia_A, sc_B, rv_B, ia_B, la_B, sc_R, ia_R, la_R, rv_R, ia_w, la_w, rv_w, sc_w, if_true, if_false])) (by omega)) (by omega) (fun r4 s4 hr4 hS4 h4 => ?_)
    obtain ⟨e4, hL4, hF4⟩ := h4
    have hb := Fm_back hF4 rfl (by decide)
    have e0 : ia s2 103 (369 + 10 * x1 + 9) = 0 := by rw [es2]; exact h9
    rw [e0] at hb
    refine ⟨iR_of (by omega) (by omega), re_i ⟨?_, LI_0 (by simp (config := {decide := true}) only [sc_S, ia_S, la_S, rv_S, sc_I, rv_I, la_I, ia_I, sc_L, rv_L, ia_L, la_L, sc_A, rv_A, la_A, ia_A, sc_B, rv_B, ia_B, la_B, sc_R, ia_R, la_R, rv_R, ia_w, la_w, rv_w, sc_w, if_true, if_false]), hF2.trans hb⟩⟩
    unfold worthV
    rw [if_neg c, e4, e2]
  · unfold worthV; rw [if_pos c]
def neededV (m : Int → Int) : Int := bset (fun p => decide (0 < placesOf m p) && decide (0 < worthV m p)) (ir 0 (m 1))
theorem e_needed (em : ia σ 103 = m) (hW : WF m) (hS : SR σ) (hI : LI σ) (hd : 13 ≤ d) : EQ g ad d mX11_needed [.ref (ad 102)] σ (neededV m) 0 := by
  have hW0 := hW.1
  have hm1 := hW.1.2.1
  have i0 : iR 0 := iR_lit rfl
  refine EbS rfl pl_X11 rfl rfl (bX11_needed_0 hS ?_)
  intro _ _ hS0
  refine up_loop (P := fun p => ∀ b τ, iR b → SR τ → LI τ → Fm [112] [20, 22, 23] (setS σ 102 0 0) τ → (ir p (m 1)).foldl (fun b p => if (decide (0 < placesOf m p) && decide (0 < worthV m p)) = true then bOr b (bShl 1 p) else b) b = neededV m → aX11_needed_9 g ad d (Ki fun r s => r = neededV m ∧ sc s 102 0 = 0 ∧ Fq σ s ∧ LI s) 0 0 τ b p) (hi := m 1) 0 hm1.1 ?_ ?_ 0 _ i0 hS0 (LI_S (by decide) hI) (Fm.refl _) rfl
  · intro b τ hb hSt hL hF hv
    have et : ia τ 103 = m := by rw [hF.a 103 rfl]; exact em
    refine bX11_needed_9 hb (iR_of (by omega) (by omega)) hSt ⟨fun _ => re_i ⟨?_, by rw [hF.s 0 rfl]; simp (config := {decide := true}) only [sc_S, ia_S, la_S, rv_S, sc_I, rv_I, la_I, ia_I, sc_L, rv_L, ia_L, la_L, sc_A, rv_A, la_A, ia_A, sc_B, rv_B, ia_B, la_B, sc_R, ia_R, la_R, rv_R, ia_w, la_w, rv_w, sc_w, if_true, if_false], ((Fq.refl σ).S rfl).trans (hF.q rfl rfl), hL⟩, fun q => absurd (by rw [et]; omega) q⟩
    rw [ir_nil (Int.le_refl _)] at hv
    exact hv
  · intro p hp0 hp1 ih b τ hb hSt hL hF hv
    have et : ia τ 103 = m := by rw [hF.a 103 rfl]; exact em
    rw [ir_cons hp1, List.foldl_cons] at hv
    have ho : isO m p := Or.inr ⟨hp0, hp1⟩
    refine bX11_needed_9 hb (iR_of (by omega) (by omega)) hSt ⟨fun q => absurd q (by rw [et]; omega), fun _ => ?_⟩
    refine EI.k (by apply w_placesOf <;> (first | with_reducible assumption | with_reducible exact iR_of (by omega) (by omega) | omega | with_reducible (exact bi_01) | assumption)) (by omega) (fun _ _ => ?_)
    refine ⟨fun c => ⟨iR_of (by omega) (by omega), fun _ _ _ => ?_⟩, fun c => ?_⟩
    · rw [bOr_0 hb]
      rw [if_neg (by simp; omega)] at hv
      exact ih b τ hb hSt hL hF hv
    · refine Cl.i (e_worth (m := m) (d := d - 1) et hW hSt hL ⟨hp0, hp1⟩ (by omega)) (by omega) (fun r2 s2 hr2 hS2 h2 => ?_)
      obtain ⟨e2, hL2, hF2⟩ := h2
      refine ⟨fun c2 => ⟨iR_of (by omega) (by omega), fun _ _ _ => ?_⟩, fun c2 => ⟨iR_of (by omega) (by omega), fun _ _ _ => ?_⟩⟩
      · rw [bOr_0 hb]
        rw [if_neg (by simp; omega)] at hv
        exact ih b s2 hb hS2 hL2 (hF.trans hF2) hv
      · rw [if_pos (by simp; omega)] at hv
        exact ih _ s2 bOr_R hS2 hL2 (hF.trans hF2) hv
def phraseT (m : Int → Int) (p what : Int) : Int := if 0 ≤ p ∧ p < m 1 then if 0 ≤ what ∧ what ≤ 5 then 0 else 2 else 1
def phraseV (m : Int → Int) (p what : Int) : Int := if phraseT m p what = 0 then (if what = 0 then of_ m p 0 else if what = 1 then of_ m p 4 else if what = 2 then of_ m p 8 else if what = 3 then of_ m p 9 else if what = 4 then placesOf m p else worthV m p) else 0
theorem e_phrase {x1 x2 : Int} (em : ia σ 103 = m) (hW : WF m) (hS : SR σ) (hI : LI σ) (h1 : iR x1) (h2 : iR x2) (hd : 13 ≤ d) : EQ g ad d mX11_phrase [.ref (ad 102), vi x1, vi x2] σ (phraseV m x1 x2) (phraseT m x1 x2) := by
  have hW0 := hW.1
  have hm1 := hW.1.2.1
  have i0 : iR 0 := iR_lit rfl
  refine EbS rfl pl_X11 rfl rfl (bX11_phrase_0 h1 h2 hS ?_)
  refine EI.k (by apply w_isPhrase <;> (first | with_reducible assumption | with_reducible exact iR_of (by omega) (by omega) | omega | with_reducible (exact bi_01) | assumption)) (by omega) (fun _ _ => ?_)
  refine bi_nz (fun c1 => ?_) (fun c1 => ?_)
  · refine EI.k (by apply e_isIn <;> (first | with_reducible assumption | with_reducible exact iR_of (by omega) (by omega) | omega | with_reducible (exact bi_01) | assumption)) (by omega) (fun _ _ => ?_)
    refine bi_nz (fun c2 => ?_) (fun c2 => ?_)
    · have hT : phraseT m x1 x2 = 0 := by unfold phraseT; rw [if_pos c1, if_pos c2]
      intro _ _ hS0
      have et : ia (setS σ 102 0 0) 103 = m := em
      have ho : isO m x1 := Or.inr c1
      have fin : ∀ v, phraseV m x1 x2 = v → iR v → SR (setS σ 102 0 0) → Ki (fun r s => r = phraseV m x1 x2 ∧ sc s 102 0 = phraseT m x1 x2 ∧ Fq σ s ∧ LI s) (.inl (some (vi v))) (setS σ 102 0 0) := fun v hv => re_i ⟨hv.symm, by rw [hT]; simp (config := {decide := true}) only [sc_S, ia_S, la_S, rv_S, sc_I, rv_I, la_I, ia_I, sc_L, rv_L, ia_L, la_L, sc_A, rv_A, la_A, ia_A, sc_B, rv_B, ia_B, la_B, sc_R, ia_R, la_R, rv_R, ia_w, la_w, rv_w, sc_w, if_true, if_false], (Fq.refl σ).S rfl, LI_S (by decide) hI⟩
      have hV : phraseV m x1 x2 = (if x2 = 0 then of_ m x1 0 else if x2 = 1 then of_ m x1 4 else if x2 = 2 then of_ m x1 8 else if x2 = 3 then of_ m x1 9 else if x2 = 4 then placesOf m x1 else worthV m x1) := by unfold phraseV; rw [if_pos hT]
      refine bX11_phrase_30 h1 h2 hS0 ⟨fun _ => ⟨fun c => ?_, fun c => ?_, fun c => ?_, fun c => ?_, fun c => ?_, fun c => ?_⟩, fun q => absurd (by simp (config := {decide := true}) only [sc_S, ia_S, la_S, rv_S, sc_I, rv_I, la_I, ia_I, sc_L, rv_L, ia_L, la_L, sc_A, rv_A, la_A, ia_A, sc_B, rv_B, ia_B, la_B, sc_R, ia_R, la_R, rv_R, ia_w, la_w, rv_w, sc_w, if_true, if_false]) q⟩
      · refine Cl.i (e_worth (m := m) (d := d - 1) et hW hS0 (LI_S (by decide) hI) c1 (by omega)) (by omega) (fun r2 s2 hr2 hS2 h2 => ?_)
        refine re_i ⟨?_, ?_, ((Fq.refl σ).S rfl).trans (h2.2.2.q rfl rfl), h2.2.1⟩
        · rw [hV, if_neg (by omega), if_neg (by omega), if_neg (by omega), if_neg (by omega), if_neg (by omega)]
          exact h2.1
        · rw [h2.2.2.s 0 rfl, hT]; simp (config := {decide := true}) only [sc_S, ia_S, la_S, rv_S, sc_I, rv_I, la_I, ia_I, sc_L, rv_L, ia_L, la_L, sc_A, rv_A, la_A, ia_A, sc_B, rv_B, ia_B, la_B, sc_R, ia_R, la_R, rv_R, ia_w, la_w, rv_w, sc_w, if_true, if_false]
      · refine EI.k (by apply w_of <;> (first | with_reducible assumption | with_reducible exact iR_of (by omega) (by omega) | omega | with_reducible (exact bi_01) | assumption)) (by omega) (fun _ _ => ?_)
        exact fin _ (by rw [hV, if_pos c])
      · refine EI.k (by apply w_of <;> (first | with_reducible assumption | with_reducible exact iR_of (by omega) (by omega) | omega | with_reducible (exact bi_01) | assumption)) (by omega) (fun _ _ => ?_)
        exact fin _ (by rw [hV, if_neg (by omega), if_pos c])
      · refine EI.k (by apply w_of <;> (first | with_reducible assumption | with_reducible exact iR_of (by omega) (by omega) | omega | with_reducible (exact bi_01) | assumption)) (by omega) (fun _ _ => ?_)
        exact fin _ (by rw [hV, if_neg (by omega), if_neg (by omega), if_pos c])
      · refine EI.k (by apply w_of <;> (first | with_reducible assumption | with_reducible exact iR_of (by omega) (by omega) | omega | with_reducible (exact bi_01) | assumption)) (by omega) (fun _ _ => ?_)
        exact fin _ (by rw [hV, if_neg (by omega), if_neg (by omega), if_neg (by omega), if_pos c])
      · refine EI.k (by apply w_placesOf <;> (first | with_reducible assumption | with_reducible exact iR_of (by omega) (by omega) | omega | with_reducible (exact bi_01) | assumption)) (by omega) (fun _ _ => ?_)
        exact fin _ (by rw [hV, if_neg (by omega), if_neg (by omega), if_neg (by omega), if_neg (by omega), if_pos c])
    · have hT : phraseT m x1 x2 = 2 := by unfold phraseT; rw [if_pos c1, if_neg c2]
      intro _ _ hS0
      refine bX11_phrase_30 h1 h2 hS0 ⟨fun q => absurd q (by simp (config := {decide := true}) only [sc_S, ia_S, la_S, rv_S, sc_I, rv_I, la_I, ia_I, sc_L, rv_L, ia_L, la_L, sc_A, rv_A, la_A, ia_A, sc_B, rv_B, ia_B, la_B, sc_R, ia_R, la_R, rv_R, ia_w, la_w, rv_w, sc_w, if_true, if_false]), fun _ => EQ_no hT ?_ hI⟩
      unfold phraseV; rw [hT]; rfl
  · have hT : phraseT m x1 x2 = 1 := by unfold phraseT; rw [if_neg c1]
    intro _ _ hS0
    refine bX11_phrase_30 h1 h2 hS0 ⟨fun q => absurd q (by simp (config := {decide := true}) only [sc_S, ia_S, la_S, rv_S, sc_I, rv_I, la_I, ia_I, sc_L, rv_L, ia_L, la_L, sc_A, rv_A, la_A, ia_A, sc_B, rv_B, ia_B, la_B, sc_R, ia_R, la_R, rv_R, ia_w, la_w, rv_w, sc_w, if_true, if_false]), fun _ => EQ_no hT ?_ hI⟩
    unfold phraseV; rw [hT]; rfl
end QX
