section QZ
variable {g : AG} {ad : Nat → Nat} {d : Nat} {σ : SG} {m : Int → Int}
/-- a call that is refused -/
theorem EQ_no {v t t' : Int} (hT : t = t') (hv : v = 0) (hI : LI σ) : iR 0 → SR (setS σ 102 0 t') → Ki (fun r s => r = v ∧ sc s 102 0 = t ∧ Fq σ s ∧ LI s) (.inl (some (vi 0))) (setS σ 102 0 t') :=
  re_i ⟨hv.symm, by simp (config := {decide := true}) only [sc_S, ia_S, la_S, rv_S, sc_I, rv_I, la_I, ia_I, sc_L, rv_L, ia_L, la_L, sc_A, rv_A, la_A, ia_A, sc_B, rv_B, ia_B, la_B, sc_R, ia_R, la_R, rv_R, ia_w, la_w, rv_w, sc_w, if_true, if_false]; exact hT.symm, (Fq.refl σ).S rfl, LI_S (by decide) hI⟩
def stepT (k what : Int) : Int := wayT k what
def stepV (m : Int → Int) (k n what : Int) : Int := if wayT k what = 0 then (match wayK m k with
  | none => -1
  | some w => if 0 ≤ n ∧ n < w.2.length then (if what = 0 then (w.2.getD n.toNat (0, 0)).1 else if what = 1 then (w.2.getD n.toNat (0, 0)).2 else stC m 0 (-1) w.2 n.toNat) else -1) else 0
theorem e_step {x1 x2 x3 : Int} (em : ia σ 103 = m) (hW : WF m) (hS : SR σ) (hI : LI σ) (h1 : iR x1) (h2 : iR x2) (h3 : iR x3) (hd : 21 ≤ d) : EQ g ad d mX11_step [.ref (ad 102), vi x1, vi x2, vi x3] σ (stepV m x1 x2 x3) (wayT x1 x3) := by
  have i0 : iR 0 := iR_lit rfl
  refine EbS rfl pl_X11 rfl rfl (bX11_step_0 h1 h2 h3 hS ?_)
  refine EI.k (by apply e_isIn <;> (first | with_reducible assumption | with_reducible exact iR_of (by omega) (by omega) | omega | with_reducible (exact bi_01) | assumption)) (by omega) (fun _ _ => ?_)
  refine bi_nz (fun c1 => ?_) (fun c1 => ?_)
  · refine EI.k (by apply e_isWayNumber <;> (first | with_reducible assumption | with_reducible exact iR_of (by omega) (by omega) | omega | with_reducible (exact bi_01) | assumption)) (by omega) (fun _ _ => ?_)
    refine bi_nz (fun c2 => ?_) (fun c2 => ?_)
    · have hT : wayT x1 x3 = 0 := by unfold wayT; rw [if_pos c1, if_pos c2]
      intro _ _ _ hS'
      refine bX11_step_29 h1 h2 h3 hS' ⟨fun _ => ?_, fun q => absurd (by simp (config := {decide := true}) only [sc_S, ia_S, la_S, rv_S, sc_I, rv_I, la_I, ia_I, sc_L, rv_L, ia_L, la_L, sc_A, rv_A, la_A, ia_A, sc_B, rv_B, ia_B, la_B, sc_R, ia_R, la_R, rv_R, ia_w, la_w, rv_w, sc_w, if_true, if_false]) q⟩
      refine Cl.i (w_isWay (m := m) (d := d - 1) (by simp (config := {decide := true}) only [sc_S, ia_S, la_S, rv_S, sc_I, rv_I, la_I, ia_I, sc_L, rv_L, ia_L, la_L, sc_A, rv_A, la_A, ia_A, sc_B, rv_B, ia_B, la_B, sc_R, ia_R, la_R, rv_R, ia_w, la_w, rv_w, sc_w, if_true, if_false]; exact em) hW hS' (LI_S (by decide) hI) c2.1 (by omega) (by omega)) (by omega) (fun r s hr hS' h => ?_)
      obtain ⟨hh, hL, hF⟩ := h
      have ht : sc s 102 0 = 0 := by rw [hF.s 0 rfl]; simp (config := {decide := true}) only [sc_S, ia_S, la_S, rv_S, sc_I, rv_I, la_I, ia_I, sc_L, rv_L, ia_L, la_L, sc_A, rv_A, la_A, ia_A, sc_B, rv_B, ia_B, la_B, sc_R, ia_R, la_R, rv_R, ia_w, la_w, rv_w, sc_w, if_true, if_false]
      have es : ia s 103 = m := by rw [hF.a 103 rfl]; exact em
      have hq : Fq σ s := ((Fq.refl σ).S rfl).trans (hF.q rfl rfl)
      rw [hT]
      unfold stepV
      rw [if_pos hT]
      rcases hh with ⟨w, e1, rfl, e3⟩ | ⟨e1, rfl⟩
      · rw [e1]
        have hwm := wayK_mem hW e1
        have hwo := wayK_opt hW e1
        refine ⟨fun q => absurd q (by decide), fun _ => ?_⟩
        rw [e3.1]
        have hl6 := hwm.2.1
        refine EI.k (by apply e_isIn <;> (first | with_reducible assumption | with_reducible exact iR_of (by omega) (by omega) | omega | with_reducible (exact bi_01) | assumption)) (by omega) (fun _ _ => ?_)
        refine bi_nz (fun c3 => ?_) (fun c3 => re_i ⟨?_, ht, hq, hL⟩)
        · have c3' : 0 ≤ x2 ∧ x2 < w.2.length := by omega
          have hlt : x2.toNat < w.2.length := by omega
          have hg : w.2.getD x2.toNat (0, 0) = w.2[x2.toNat] := by
            rw [List.getD_eq_getElem?_getD, List.getElem?_eq_getElem hlt]
            rfl
          have ha := e3.2.2.1 x2.toNat _ (List.getElem?_eq_getElem hlt)
          rw [show ((x2.toNat : Nat) : Int) = x2 by omega] at ha
          simp only [if_pos c3']
          refine ⟨fun c4 => ⟨fun c5 => ?_, fun c5 => ⟨⟨by omega, by omega⟩, re_i ⟨?_, ht, hq, hL⟩⟩⟩, fun c4 => ⟨⟨by omega, by omega⟩, re_i ⟨?_, ht, hq, hL⟩⟩⟩
          · refine Cl.i (e_costOf (d := d - 1) (p := w.2) (m := m) es hW hS' (by omega) hl6 hwm.2.2.1 hwo e3.2.2.1 c3') (by omega) (fun r5 s5 hr5 hS5 h5 => ?_)
            refine re_i ⟨?_, ?_, hq.trans (h5.2.q rfl rfl), ?_⟩
            · rw [if_neg c4, if_neg c5]; exact h5.1
            · rw [h5.2.s 0 rfl]; exact ht
            · intro q
              rw [h5.2.s 20 rfl] at q
              rw [h5.2.a 103 rfl, h5.2.a 112 rfl]
              exact hL q
          · rw [if_neg c4, if_pos c5, hg]; exact ha.2
          · rw [if_pos c4, hg]; exact ha.1
        · simp only [if_neg (show ¬ (0 ≤ x2 ∧ x2 < (w.2.length : Int)) by omega)]
      · rw [e1]
        exact ⟨fun _ => re_i ⟨rfl, ht, hq, hL⟩, fun q => absurd rfl q⟩
    · have hT : wayT x1 x3 = 2 := by unfold wayT; rw [if_pos c1, if_neg c2]
      intro _ _ _ hS'
      refine bX11_step_29 h1 h2 h3 hS' ⟨fun q => absurd q (by simp (config := {decide := true}) only [sc_S, ia_S, la_S, rv_S, sc_I, rv_I, la_I, ia_I, sc_L, rv_L, ia_L, la_L, sc_A, rv_A, la_A, ia_A, sc_B, rv_B, ia_B, la_B, sc_R, ia_R, la_R, rv_R, ia_w, la_w, rv_w, sc_w, if_true, if_false]), fun _ => EQ_no hT ?_ hI⟩
      unfold stepV; rw [hT]; rfl
  · have hT : wayT x1 x3 = 1 := by unfold wayT; rw [if_neg c1]
    intro _ _ _ hS'
    refine bX11_step_29 h1 h2 h3 hS' ⟨fun q => absurd q (by simp (config := {decide := true}) only [sc_S, ia_S, la_S, rv_S, sc_I, rv_I, la_I, ia_I, sc_L, rv_L, ia_L, la_L, sc_A, rv_A, la_A, ia_A, sc_B, rv_B, ia_B, la_B, sc_R, ia_R, la_R, rv_R, ia_w, la_w, rv_w, sc_w, if_true, if_false]), fun _ => EQ_no hT ?_ hI⟩
    unfold stepV; rw [hT]; rfl
def wordT (k : Int) : Int := if 0 ≤ k ∧ k ≤ 29 then 0 else 1
def wordV (m : Int → Int) (k n : Int) : Int := if wordT k = 0 then (match wayK m k with
  | none => -1
  | some w => if 0 ≤ n ∧ n < (txt m w.2).length then (txt m w.2).getD n.toNat 0 else -1) else 0
theorem e_word_ {x1 x2 : Int} (em : ia σ 103 = m) (hW : WF m) (hS : SR σ) (hI : LI σ) (h1 : iR x1) (h2 : iR x2) (hd : 21 ≤ d) : EQ g ad d mX11_word_ [.ref (ad 102), vi x1, vi x2] σ (wordV m x1 x2) (wordT x1) := by
  have i0 : iR 0 := iR_lit rfl
  refine EbS rfl pl_X11 rfl rfl (bX11_word__0 h1 h2 hS ?_)
  refine EI.k (by apply e_isWayNumber <;> (first | with_reducible assumption | with_reducible exact iR_of (by omega) (by omega) | omega | with_reducible (exact bi_01) | assumption)) (by omega) (fun _ _ => ?_)
  refine bi_zn (fun c2 => ?_) (fun c2 => ?_)
  · have hT : wordT x1 = 0 := by unfold wordT; rw [if_pos c2]
    simp (config := {decide := true}) only [sc_S, ia_S, la_S, rv_S, sc_I, rv_I, la_I, ia_I, sc_L, rv_L, ia_L, la_L, sc_A, rv_A, la_A, ia_A, sc_B, rv_B, ia_B, la_B, sc_R, ia_R, la_R, rv_R, ia_w, la_w, rv_w, sc_w, if_true, if_false]
    refine ⟨fun _ => ?_, fun q => q.elim⟩
    refine Cl.i (w_isWay (m := m) (d := d - 1) (by simp (config := {decide := true}) only [sc_S, ia_S, la_S, rv_S, sc_I, rv_I, la_I, ia_I, sc_L, rv_L, ia_L, la_L, sc_A, rv_A, la_A, ia_A, sc_B, rv_B, ia_B, la_B, sc_R, ia_R, la_R, rv_R, ia_w, la_w, rv_w, sc_w, if_true, if_false]; exact em) hW (SR_setS hS i0) (LI_S (by decide) hI) c2.1 (by omega) (by omega)) (by omega) (fun r s hr hS' h => ?_)
    obtain ⟨hh, hL, hF⟩ := h
    have ht : sc s 102 0 = 0 := by rw [hF.s 0 rfl]; simp (config := {decide := true}) only [sc_S, ia_S, la_S, rv_S, sc_I, rv_I, la_I, ia_I, sc_L, rv_L, ia_L, la_L, sc_A, rv_A, la_A, ia_A, sc_B, rv_B, ia_B, la_B, sc_R, ia_R, la_R, rv_R, ia_w, la_w, rv_w, sc_w, if_true, if_false]
    have hq : Fq σ s := ((Fq.refl σ).S rfl).trans (hF.q rfl rfl)
    rw [hT]
    unfold wordV
    rw [if_pos hT]
    rcases hh with ⟨w, e1, rfl, e3⟩ | ⟨e1, rfl⟩
    · rw [e1]
      have hwm := wayK_mem hW e1
      have hl6 := hwm.2.1
      have htl := txt_len hW w.2 (fun q hq => (mem_sr.mp (hwm.2.2.1 q hq)).2)
      refine ⟨fun q => absurd q (by decide), fun _ => ?_⟩
      rw [e3.2.2.2.1]
      refine EI.k (by apply e_isIn <;> (first | with_reducible assumption | with_reducible exact iR_of (by omega) (by omega) | omega | with_reducible (exact bi_01) | assumption)) (by omega) (fun _ _ => ?_)
      refine bi_zn (fun c3 => ⟨⟨by omega, by omega⟩, re_i ⟨?_, ht, hq, hL⟩⟩) (fun c3 => re_i ⟨?_, ht, hq, hL⟩)
      · have hlt : x2.toNat < (txt m w.2).length := by omega
        simp only [if_pos (show 0 ≤ x2 ∧ x2 < ((txt m w.2).length : Int) by omega)]
        rw [List.getD_eq_getElem?_getD, List.getElem?_eq_getElem hlt]
        have := e3.2.2.2.2 x2.toNat _ (List.getElem?_eq_getElem hlt)
        rw [show (0 : Int) + ((x2.toNat : Nat) : Int) = x2 by omega] at this
        exact this
      · simp only [if_neg (show ¬ (0 ≤ x2 ∧ x2 < ((txt m w.2).length : Int)) by omega)]
    · rw [e1]
      exact ⟨fun _ => re_i ⟨rfl, ht, hq, hL⟩, fun q => absurd rfl q⟩
  · have hT : wordT x1 = 1 := by unfold wordT; rw [if_neg c2]
    simp (config := {decide := true}) only [sc_S, ia_S, la_S, rv_S, sc_I, rv_I, la_I, ia_I, sc_L, rv_L, ia_L, la_L, sc_A, rv_A, la_A, ia_A, sc_B, rv_B, ia_B, la_B, sc_R, ia_R, la_R, rv_R, ia_w, la_w, rv_w, sc_w, if_true, if_false]
    refine ⟨fun q => absurd q (by decide), fun _ => EQ_no hT ?_ hI⟩
    unfold wordV; rw [hT]; rfl
/-- EXACT -/
def exM (m : Int → Int) : Int := restM m 0 0 (-1)
theorem exM_b (hW : WF m) : 0 ≤ exM m ∧ exM m ≤ 1000000000 := restM_b hW (by omega) (nd0 hW).2.2
theorem w_exact0 (em : ia σ 103 = m) (hW : WF m) (hS : SR σ) (hI : LI σ) (hd : 11 ≤ d) : Eb g ad d mX11_exact0 0 0 [.ref (ad 102)] σ (Ki fun r s => r = exM m ∧ LI s ∧ Fm [112] [20, 22, 23] σ s) := by
  subst em
  refine Eb.mono (e_exact0 hW hS hI hd) ?_
  rintro o s ⟨r, e, h1, h2, h3, h4, h5, h6⟩
  exact ⟨r, e, h1, h2, h3, LI_of (by rw [h6.a 103 rfl]; exact h4), h6⟩
theorem e_exact (em : ia σ 103 = m) (hW : WF m) (hS : SR σ) (hI : LI σ) (hd : 12 ≤ d) : EQ g ad d mX11_exact [.ref (ad 102)] σ (exM m) 0 := by
  refine EbS rfl pl_X11 rfl rfl (bX11_exact_0 hS ?_)
  refine Cl.i (w_exact0 (m := m) (d := d - 1) (by simp (config := {decide := true}) only [sc_S, ia_S, la_S, rv_S, sc_I, rv_I, la_I, ia_I, sc_L, rv_L, ia_L, la_L, sc_A, rv_A, la_A, ia_A, sc_B, rv_B, ia_B, la_B, sc_R, ia_R, la_R, rv_R, ia_w, la_w, rv_w, sc_w, if_true, if_false]; exact em) hW (SR_setS hS (iR_lit rfl)) (LI_S (by decide) hI) (by omega)) (by omega) (fun r s hr hS' h => ?_)
  obtain ⟨h1, h2, h3⟩ := h
  exact re_i ⟨h1, by rw [h3.s 0 rfl]; simp (config := {decide := true}) only [sc_S, ia_S, la_S, rv_S, sc_I, rv_I, la_I, ia_I, sc_L, rv_L, ia_L, la_L, sc_A, rv_A, la_A, ia_A, sc_B, rv_B, ia_B, la_B, sc_R, ia_R, la_R, rv_R, ia_w, la_w, rv_w, sc_w, if_true, if_false], ((Fq.refl σ).S rfl).trans (h3.q rfl rfl), h2⟩
/-! MANY -/
abbrev Nw : Type := Int × Int
def waG (m : Int → Int) (f : Nw → Int) (x : Nw) : Int := if x.1 = fullM m then 1 else (sr m 0).foldl (fun a p => if mayB m x.1 x.2 p.1 p.2 = true then min 1000000000 (a + f (bOr x.1 (msk m p.2 p.1), p.1 + cov m p.2)) else a) 0
def waM (m : Int → Int) (x : Nw) : Int := fxM 0 (waG m) (fun x => 6 - pc x.1) x
def nw (x : Nw) : Prop := (0 ≤ x.1 ∧ x.1 ≤ 63) ∧ (0 ≤ x.2 ∧ x.2 ≤ 6)
theorem nw_stp (hW : WF m) {x : Nw} (hx : nw x) {p : Op} (hp : p ∈ sr m 0) (hm : mayB m x.1 x.2 p.1 p.2 = true) : nw (bOr x.1 (msk m p.2 p.1), p.1 + cov m p.2) ∧ pc x.1 < pc (bOr x.1 (msk m p.2 p.1)) ∧ pc (bOr x.1 (msk m p.2 p.1)) ≤ 6 := by
  obtain ⟨hp1, hp2⟩ := mem_sr.mp hp
  have h := may_set hW hm hp2 hp1.1 hx.1
  exact ⟨⟨h.1, h.2.2.2⟩, h.2.1, h.2.2.1⟩
theorem waM_eq (hW : WF m) {x : Nw} (hx : nw x) : waM m x = waG m (waM m) x := by
  refine fxM_eq (D := nw) (fun x hx f f' h => ?_) hx
  unfold waG
  by_cases c : x.1 = fullM m
  · rw [if_pos c, if_pos c]
  · rw [if_neg c, if_neg c]
    refine foldl_cong _ _ (fun a p hp => ?_)
    by_cases c2 : mayB m x.1 x.2 p.1 p.2 = true
    · have hs := nw_stp hW hx hp c2
      rw [if_pos c2, if_pos c2, h _ hs.1 (by show 6 - pc (bOr x.1 (msk m p.2 p.1)) < 6 - pc x.1; omega)]
    · rw [if_neg c2, if_neg c2]
theorem waM_b (hW : WF m) : ∀ (n : Nat) (x : Nw), nw x → 6 - pc x.1 < n → 0 ≤ waM m x ∧ waM m x ≤ 1000000000 := by
  intro n
  induction n with
  | zero => intro x _ h; omega
  | succ n ih =>
    intro x hx hn
    rw [waM_eq hW hx]
    unfold waG
    by_cases c : x.1 = fullM m
    · rw [if_pos c]; omega
    · rw [if_neg c]
      refine foldl_inv (I := fun a : Int => 0 ≤ a ∧ a ≤ 1000000000) _ _ (fun a p hp ha => ?_) (by omega)
      by_cases c2 : mayB m x.1 x.2 p.1 p.2 = true
      · have hs := nw_stp hW hx hp c2
        have := ih _ hs.1 (by show 6 - pc (bOr x.1 (msk m p.2 p.1)) < n; omega)
        rw [if_pos c2]
        omega
      · rw [if_neg c2]; exact ha
def WV (m f : Int → Int) : Prop := ∀ set place, 0 ≤ set → set ≤ 63 → 0 ≤ place → place ≤ 6 → f (set * 7 + place) = -1 ∨ f (set * 7 + place) = waM m (set, place)
/-- only the row of counted ways, ia and sc as they were -/
def Fw (σ s : SG) : Prop := rv s = rv σ ∧ (∀ c, c ≠ 113 → la s c = la σ c) ∧ ia s = ia σ ∧ sc s = sc σ
theorem e_waysFrom (hW : WF m) : ∀ (k : Nat) {d : Nat} {σ : SG} {x : Nw}, 6 - pc x.1 < k → k + 4 ≤ d → nw x → ia σ 103 = m → SR σ → WV m (la σ 113) →
    Eb g ad d mX11_waysFrom 0 0 [.ref (ad 102), vi x.1, vi x.2] σ (Kl fun r s => r = waM m x ∧ WV m (la s 113) ∧ Fw σ s) := by
  intro k
  induction k with
  | zero => intro d σ x hk; omega
  | succ k ih =>
    intro d σ x hk hd hx em hS hV
    have hW0 := hW.1
    have h1 := hW.1.2.1
    have h3 := hW.1.2.2.2.1
    have hx1 := hx.1
    have hx2 := hx.2
    have i1 : iR x.1 := iR_of (by omega) (by omega)
    have i2 : iR x.2 := iR_of (by omega) (by omega)
    have im : iR (-1) := iR_lit rfl
    have hwb := waM_b hW (k + 1) x hx hk
    refine EbS rfl pl_X11 rfl rfl (bX11_waysFrom_0 i1 i2 hS ?_)
    refine EI.k (by apply w_full <;> (first | with_reducible assumption | with_reducible exact iR_of (by omega) (by omega) | omega | with_reducible (exact bi_01) | assumption)) (by omega) (fun _ _ => ?_)
    refine ⟨fun c1 => ⟨⟨by omega, by omega⟩, fun c2 => ⟨iR_of (by omega) (by omega), ?_⟩, fun c2 => re_l ⟨?_, hV, rfl, fun _ _ => rfl, rfl, rfl⟩⟩, fun c1 => re_l ⟨?_, hV, rfl, fun _ _ => rfl, rfl, rfl⟩⟩
    · intro _ _ i3 l0 _ _
      have hval : waM m x = (sr m 0).foldl (fun a p => if mayB m x.1 x.2 p.1 p.2 = true then min 1000000000 (a + waM m (bOr x.1 (msk m p.2 p.1), p.1 + cov m p.2)) else a) 0 := by
        rw [waM_eq hW hx]; unfold waG; rw [if_neg c1]
      refine so_loop (m := m) hW0
        (A := fun s => ∀ τ a, SR τ → Fw σ τ → WV m (la τ 113) → (0 ≤ a ∧ a ≤ 1000000000) → waM m x = (sr m s).foldl (fun a p => if mayB m x.1 x.2 p.1 p.2 = true then min 1000000000 (a + waM m (bOr x.1 (msk m p.2 p.1), p.1 + cov m p.2)) else a) a → aX11_waysFrom_41 g ad d (Kl fun r s => r = waM m x ∧ WV m (la s 113) ∧ Fw σ s) 0 0 τ x.1 x.2 (x.1 * 7 + x.2) a s)
        (B := fun s o => ∀ τ a, SR τ → Fw σ τ → WV m (la τ 113) → (0 ≤ a ∧ a ≤ 1000000000) → waM m x = (so m s o).foldl (fun a p => if mayB m x.1 x.2 p.1 p.2 = true then min 1000000000 (a + waM m (bOr x.1 (msk m p.2 p.1), p.1 + cov m p.2)) else a) a → aX11_waysFrom_59 g ad d (Kl fun r s => r = waM m x ∧ WV m (la s 113) ∧ Fw σ s) 0 0 τ x.1 x.2 (x.1 * 7 + x.2) a s o)
        ?_ ?_ ?_ ?_ σ 0 hS ⟨rfl, fun _ _ => rfl, rfl, rfl⟩ hV (by omega) hval
      · intro τ a hSt hF hVt ha hv
        have et : ia τ 103 = m := by rw [hF.2.2.1]; exact em
        rw [sr_end (Int.le_refl _)] at hv
        have hv' : waM m x = a := hv
        refine bX11_waysFrom_41 i1 i2 i3 ⟨by omega, by omega⟩ (iR_of (by omega) (by omega)) hSt ⟨fun _ => ⟨⟨by omega, by omega⟩, re_l ⟨hv'.symm, ?_, ?_⟩⟩, fun q => absurd (by rw [et]; omega) q⟩
        · simp (config := {decide := true}) only [sc_S, ia_S, la_S, rv_S, sc_I, rv_I, la_I, ia_I, sc_L, rv_L, ia_L, la_L, sc_A, rv_A, la_A, ia_A, sc_B, rv_B, ia_B, la_B, sc_R, ia_R, la_R, rv_R, ia_w, la_w, rv_w, sc_w, if_true, if_false]
          intro b c b0 b1 c0 c1'
          by_cases e : b * 7 + c = x.1 * 7 + x.2
          · have e1 : b = x.1 := by omega
            have e2 : c = x.2 := by omega
            subst e1; subst e2
            rw [up_at]
            exact Or.inr hv'.symm
          · rw [up_ne e]
            exact hVt b c b0 b1 c0 c1'
        · refine ⟨hF.1, fun c hc => ?_, hF.2.2.1, hF.2.2.2⟩
          rw [la_L, if_neg hc]
          exact hF.2.1 c hc
      · intro s hs0 hs1 hB τ a hSt hF hVt ha hv
        have et : ia τ 103 = m := by rw [hF.2.2.1]; exact em
        refine bX11_waysFrom_41 i1 i2 i3 ⟨by omega, by omega⟩ (iR_of (by omega) (by omega)) hSt ⟨fun q => absurd q (by rw [et]; omega), fun _ => ?_⟩
        refine EI.k (by apply w_next <;> (first | with_reducible assumption | with_reducible exact iR_of (by omega) (by omega) | omega | with_reducible (exact bi_01) | assumption)) (by omega) (fun _ _ => ?_)
        intros
        rw [sr_so hW0 hs1] at hv
        exact hB τ a hSt hF hVt ha hv
      · intro s hs0 hs1 hA τ a hSt hF hVt ha hv
        refine bX11_waysFrom_59 i1 i2 i3 ⟨by omega, by omega⟩ (iR_of (by omega) (by omega)) (iR_lit rfl) hSt ⟨fun _ => ⟨iR_of (by omega) (by omega), fun _ _ _ _ _ _ => ?_⟩, fun q => absurd (by decide) q⟩
        rw [so_100] at hv
        exact hA τ a hSt hF hVt ha hv
      · intro s o hs0 hs1 ho hnx τ a hSt hF hVt ha hv
        have et : ia τ 103 = m := by rw [hF.2.2.1]; exact em
        have hob := isO_b hW0 ho
        have io : iR o := iR_of (by omega) (by omega)
        have is_ : iR s := iR_of (by omega) (by omega)
        have hmem : (s, o) ∈ sr m 0 := mem_sr.mpr ⟨⟨hs0, hs1⟩, ho⟩
        rw [so_cons hW0 ho, List.foldl_cons] at hv
        refine bX11_waysFrom_59 i1 i2 i3 ⟨by omega, by omega⟩ is_ io hSt ⟨fun q => absurd q (by omega), fun _ => ?_⟩
        refine EI.k (by apply w_may <;> (first | with_reducible assumption | with_reducible exact iR_of (by omega) (by omega) | omega | with_reducible (exact bi_01) | assumption)) (by omega) (fun _ _ => ?_)
        refine bi_nz (fun c4 => ?_) (fun c4 => ?_)
        · have hst : nw (bOr x.1 (msk m o s), s + cov m o) ∧ pc x.1 < pc (bOr x.1 (msk m o s)) ∧ pc (bOr x.1 (msk m o s)) ≤ 6 := nw_stp (p := (s, o)) hW hx hmem c4
          have hwb2 : 0 ≤ waM m (bOr x.1 (msk m o s), s + cov m o) ∧ waM m (bOr x.1 (msk m o s), s + cov m o) ≤ 1000000000 := waM_b hW k _ hst.1 (by show 6 - pc (bOr x.1 (msk m o s)) < k; have := hst.2; omega)
          rw [if_pos c4] at hv
          dsimp only at hv
          refine EI.k (by apply w_maskOf <;> (first | with_reducible assumption | with_reducible exact iR_of (by omega) (by omega) | omega | with_reducible (exact bi_01) | assumption)) (by omega) (fun _ _ => ?_)
          refine EI.k (by apply w_covers <;> (first | with_reducible assumption | with_reducible exact iR_of (by omega) (by omega) | omega | with_reducible (exact bi_01) | assumption)) (by omega) (fun _ _ => ?_)
          refine Cl.l (ih (d := d - 1) (σ := τ) (x := (bOr x.1 (msk m o s), s + cov m o)) (by show 6 - pc (bOr x.1 (msk m o s)) < k; have := hst.2; omega) (by omega) hst.1 et hSt hVt) (by omega) (fun r6 s6 hr6 hS6 h6 => ?_)
          obtain ⟨e6, hV6, hF6⟩ := h6
          have hF6' : Fw σ s6 := ⟨hF6.1.trans hF.1, fun c hc => (hF6.2.1 c hc).trans (hF.2.1 c hc), hF6.2.2.1.trans hF.2.2.1, hF6.2.2.2.trans hF.2.2.2⟩
          have e6m : ia s6 103 = m := by rw [hF6'.2.2.1]; exact em
          have hcm := lCmp_le (a := a + r6) (b := 1000000000) ⟨by omega, by omega⟩ ⟨by omega, by omega⟩
          refine ⟨fun c5 => ?_, fun c5 => ?_⟩
          · refine EI.k (by apply w_next <;> (first | with_reducible assumption | with_reducible exact iR_of (by omega) (by omega) | omega | with_reducible (exact bi_01) | assumption)) (by omega) (fun _ _ => ?_)
            refine ⟨⟨by omega, by omega⟩, fun _ _ _ _ _ _ _ => ?_⟩
            refine hnx s6 (a + r6) hS6 hF6' hV6 (by omega) ?_
            rw [hv, e6]
            congr 1
            omega
          · refine EI.k (by apply w_next <;> (first | with_reducible assumption | with_reducible exact iR_of (by omega) (by omega) | omega | with_reducible (exact bi_01) | assumption)) (by omega) (fun _ _ => ?_)
            intros
            refine hnx s6 1000000000 hS6 hF6' hV6 (by omega) ?_
            rw [hv]
            congr 1
            omega
        · rw [if_neg c4] at hv
          refine EI.k (by apply w_next <;> (first | with_reducible assumption | with_reducible exact iR_of (by omega) (by omega) | omega | with_reducible (exact bi_01) | assumption)) (by omega) (fun _ _ => ?_)
          intros
          exact hnx τ a hSt hF hVt ha hv
    · rcases hV x.1 x.2 hx1.1 hx1.2 hx2.1 hx2.2 with e | e
      · exact absurd ((lCmp_lt (SR_la hS 113 _) ⟨by omega, by omega⟩).mpr (by omega)) c2
      · exact e
    · rw [waM_eq hW hx]; unfold waG; rw [if_pos c1]
def manyV (m : Int → Int) : Int := waM m (0, 0)
theorem e_many (em : ia σ 103 = m) (hW : WF m) (hS : SR σ) (hI : LI σ) (hd : 12 ≤ d) : EQ g ad d mX11_many [.ref (ad 102)] σ (manyV m) 0 := by
  have hnw : nw (0, 0) := ⟨⟨by decide, by decide⟩, by decide, by decide⟩
  have hb := waM_b hW 7 (0, 0) hnw (by decide)
  refine EbS rfl pl_X11 rfl rfl (bX11_many_0 hS ?_)
  intro _ hS0
  refine up_loop (P := fun k => ∀ τ, SR τ → Fw (setS σ 102 0 0) τ → (∀ j, 0 ≤ j → j < k → la τ 113 j = -1) → aX11_many_7 g ad d (Ki fun r s => r = manyV m ∧ sc s 102 0 = 0 ∧ Fq σ s ∧ LI s) 0 0 τ k) (hi := 448) 0 (by omega) ?_ ?_ _ hS0 ⟨rfl, fun _ _ => rfl, rfl, rfl⟩ (fun j h0 h1 => by omega)
  · intro τ hSt hF hall
    have et : ia τ 103 = m := by rw [hF.2.2.1]; exact em
    refine bX11_many_7 (iR_lit rfl) hSt ⟨fun _ => ?_, fun q => absurd (by decide) q⟩
    refine Cl.l (e_waysFrom hW 7 (d := d - 1) (σ := τ) (x := (0, 0)) (by decide) (by omega) hnw et hSt (fun b c b0 b1 c0 c1 => Or.inl (hall _ (by omega) (by omega)))) (by omega) (fun r s hr hS' h => ?_)
    obtain ⟨e1, -, e2⟩ := h
    refine ⟨iR_of (by omega) (by omega), re_i ⟨e1, ?_, ?_, ?_⟩⟩
    · rw [e2.2.2.2, hF.2.2.2]; simp (config := {decide := true}) only [sc_S, ia_S, la_S, rv_S, sc_I, rv_I, la_I, ia_I, sc_L, rv_L, ia_L, la_L, sc_A, rv_A, la_A, ia_A, sc_B, rv_B, ia_B, la_B, sc_R, ia_R, la_R, rv_R, ia_w, la_w, rv_w, sc_w, if_true, if_false]
    · refine ⟨e2.1.trans hF.1, fun c hc => (e2.2.1 c hc).trans (hF.2.1 c hc), fun c _ => by rw [e2.2.2.1, hF.2.2.1]; rfl, fun c k hk => ?_⟩
      rw [e2.2.2.2, hF.2.2.2, sc_S, if_neg (by omega)]
    · intro q
      rw [e2.2.2.2, hF.2.2.2, sc_S, if_neg (by decide)] at q
      rw [e2.2.2.1, hF.2.2.1]
      exact hI q
  · intro k hk0 hk1 ih τ hSt hF hall
    refine bX11_many_7 (iR_of (by omega) (by omega)) hSt ⟨fun q => absurd q (by omega), fun _ => ⟨⟨hk0, by omega⟩, iR_of (by omega) (by omega), fun _ hS' => ?_⟩⟩
    refine ih _ hS' ⟨hF.1, fun c hc => ?_, hF.2.2.1, hF.2.2.2⟩ (fun j hj0 hj1 => ?_)
    · rw [la_L, if_neg hc]
      exact hF.2.1 c hc
    · simp (config := {decide := true}) only [sc_S, ia_S, la_S, rv_S, sc_I, rv_I, la_I, ia_I, sc_L, rv_L, ia_L, la_L, sc_A, rv_A, la_A, ia_A, sc_B, rv_B, ia_B, la_B, sc_R, ia_R, la_R, rv_R, ia_w, la_w, rv_w, sc_w, if_true, if_false]
      by_cases e : j = k
      · subst e; rw [up_at]
      · rw [up_ne e]; exact hall j hj0 (by omega)
end QZ
